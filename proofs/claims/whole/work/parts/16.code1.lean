/-! FriezePolygons$Acts.forgetOldest()V -/
def f_Acts_forgetOldest (m : am_Mm) : Option am_Mm :=
  some (am_pI (am_pC (am_pC (am_pC m 27 (1 : Int32).toNatClampNeg 27 (0 : Int32).toNatClampNeg (23 : Int32).toNatClampNeg) 28 (1 : Int32).toNatClampNeg 28 (0 : Int32).toNatClampNeg (23 : Int32).toNatClampNeg) 29 (1 : Int32).toNatClampNeg 29 (0 : Int32).toNatClampNeg (23 : Int32).toNatClampNeg) 26 3 (23 : Int32))
set_option maxHeartbeats 4000000 in
set_option maxRecDepth 100000 in
theorem f_Acts_forgetOldest_ok {ro : am_Ro} {d : Nat} (hd : 1 ≤ d) {m m' : am_Mm} (h : f_Acts_forgetOldest  m = some m') : am_Mt am_nw ro d mr_Acts_forgetOldest [.ref 26] (S0, m) none (S0, m') := by
  obtain ⟨d, rfl⟩ : ∃ d0, d = d0 + 1 := ⟨d - 1, by omega⟩
  refine am_Mt.of (by decide +kernel) (Nat.le_of_ble_eq_true rfl) ?_
  change am_AW am_nw ro (d + 1) mr_Acts_forgetOldest 0 [some (.ref 26)] [] (S0, m) none (S0, m')
  unfold f_Acts_forgetOldest at h
  refine am_AW.run am_base_ok ok_Acts_forgetOldest (Nat.le_add_left 1 d) 7 (pc1 := 12) (ls1 := [some (.ref 26)]) (st1 := [.int (23 : Int32), .int (0 : Int32), .ref 27, .int (1 : Int32), .ref 27]) (σ1 := (S0, m)) rfl ?_
  refine am_AW.acpy ok_Acts_forgetOldest (Nat.le_add_left 1 d) rfl rfl rfl (Nat.le_of_ble_eq_true rfl) (by decide) ?_
  refine am_AW.run am_base_ok ok_Acts_forgetOldest (Nat.le_add_left 1 d) 7 (pc1 := 27) (ls1 := [some (.ref 26)]) (st1 := [.int (23 : Int32), .int (0 : Int32), .ref 28, .int (1 : Int32), .ref 28]) (σ1 := (S0, (am_pC m 27 (1 : Int32).toNatClampNeg 27 (0 : Int32).toNatClampNeg (23 : Int32).toNatClampNeg))) rfl ?_
  refine am_AW.acpy ok_Acts_forgetOldest (Nat.le_add_left 1 d) rfl rfl rfl (Nat.le_of_ble_eq_true rfl) (by decide) ?_
  refine am_AW.run am_base_ok ok_Acts_forgetOldest (Nat.le_add_left 1 d) 7 (pc1 := 42) (ls1 := [some (.ref 26)]) (st1 := [.int (23 : Int32), .int (0 : Int32), .ref 29, .int (1 : Int32), .ref 29]) (σ1 := (S0, (am_pC (am_pC m 27 (1 : Int32).toNatClampNeg 27 (0 : Int32).toNatClampNeg (23 : Int32).toNatClampNeg) 28 (1 : Int32).toNatClampNeg 28 (0 : Int32).toNatClampNeg (23 : Int32).toNatClampNeg))) rfl ?_
  refine am_AW.acpy ok_Acts_forgetOldest (Nat.le_add_left 1 d) rfl rfl rfl (Nat.le_of_ble_eq_true rfl) (by decide) ?_
  refine am_AW.run am_base_ok ok_Acts_forgetOldest (Nat.le_add_left 1 d) 2 (pc1 := 48) (ls1 := [some (.ref 26)]) (st1 := [.int (23 : Int32), .ref 26]) (σ1 := (S0, (am_pC (am_pC (am_pC m 27 (1 : Int32).toNatClampNeg 27 (0 : Int32).toNatClampNeg (23 : Int32).toNatClampNeg) 28 (1 : Int32).toNatClampNeg 28 (0 : Int32).toNatClampNeg (23 : Int32).toNatClampNeg) 29 (1 : Int32).toNatClampNeg 29 (0 : Int32).toNatClampNeg (23 : Int32).toNatClampNeg))) rfl ?_
  refine am_AW.puti ok_Acts_forgetOldest (Nat.le_add_left 1 d) rfl rfl rfl (qc := kq0) rfl (by decide) ty_0_3 ?_
  obtain rfl := Option.some.inj h
  exact am_AW.ret ok_Acts_forgetOldest rfl rfl rfl rfl
/-! FriezePolygons$Acts.takeBack(LFriezePolygons$Figure;)V -/
def f_Acts_takeBack_b99 (x2 : Int32) (q0 : Nat) (m : am_Mm) : Option am_Mm :=
  if am_in (m.1 26 3) 24 = true then
    if am_in x2 9 = true then
      some (am_pI m q0 x2.toNatClampNeg (m.1 29 (m.1 26 3).toNatClampNeg))
    else none
  else none
def f_Acts_takeBack (m : am_Mm) : Option am_Mm :=
  if (m.1 26 3) ≤ (0 : Int32) then
    some m
  else
    if (m.1 26 3) ≤ (24 : Int32) then
      if am_in ((am_pI m 26 3 ((m.1 26 3) - (1 : Int32))).1 26 3) 24 = true then
        if am_in ((am_pI m 26 3 ((m.1 26 3) - (1 : Int32))).1 26 3) 24 = true then
          if ((am_pI m 26 3 ((m.1 26 3) - (1 : Int32))).1 27 ((am_pI m 26 3 ((m.1 26 3) - (1 : Int32))).1 26 3).toNatClampNeg) = (0 : Int32) then
            if am_in ((am_pI m 26 3 ((m.1 26 3) - (1 : Int32))).1 26 3) 24 = true then
              some (am_pI (am_pI m 26 3 ((m.1 26 3) - (1 : Int32))) 13 3 ((am_pI m 26 3 ((m.1 26 3) - (1 : Int32))).1 29 ((am_pI m 26 3 ((m.1 26 3) - (1 : Int32))).1 26 3).toNatClampNeg))
            else none
          else
            if ((am_pI m 26 3 ((m.1 26 3) - (1 : Int32))).1 28 ((am_pI m 26 3 ((m.1 26 3) - (1 : Int32))).1 26 3).toNatClampNeg) < (0 : Int32) then
              some (am_pI m 26 3 ((m.1 26 3) - (1 : Int32)))
            else
              if (9 : Int32) ≤ ((am_pI m 26 3 ((m.1 26 3) - (1 : Int32))).1 28 ((am_pI m 26 3 ((m.1 26 3) - (1 : Int32))).1 26 3).toNatClampNeg) then
                some (am_pI m 26 3 ((m.1 26 3) - (1 : Int32)))
              else
                if am_in ((am_pI m 26 3 ((m.1 26 3) - (1 : Int32))).1 26 3) 24 = true then
                  if ((am_pI m 26 3 ((m.1 26 3) - (1 : Int32))).1 27 ((am_pI m 26 3 ((m.1 26 3) - (1 : Int32))).1 26 3).toNatClampNeg) = (1 : Int32) then
                    f_Acts_takeBack_b99 ((am_pI m 26 3 ((m.1 26 3) - (1 : Int32))).1 28 ((am_pI m 26 3 ((m.1 26 3) - (1 : Int32))).1 26 3).toNatClampNeg) 14 (am_pI m 26 3 ((m.1 26 3) - (1 : Int32)))
                  else
                    f_Acts_takeBack_b99 ((am_pI m 26 3 ((m.1 26 3) - (1 : Int32))).1 28 ((am_pI m 26 3 ((m.1 26 3) - (1 : Int32))).1 26 3).toNatClampNeg) 15 (am_pI m 26 3 ((m.1 26 3) - (1 : Int32)))
                else none
        else none
      else none
    else
      some m
set_option maxHeartbeats 4000000 in
set_option maxRecDepth 100000 in
theorem f_Acts_takeBack_b99_ok {ro : am_Ro} {d : Nat} (hd : 1 ≤ d + 1) (x2 : Int32) (q0 : Nat) (hq0 : q0 = 14 ∨ q0 = 15) {m m' : am_Mm} (h : f_Acts_takeBack_b99 x2 q0 m = some m') : am_AW am_nw ro (d + 1) mr_Acts_takeBack 99 [some (.ref 26), none, some (.int x2), none] [.ref q0] (S0, m) none (S0, m') := by
  unfold f_Acts_takeBack_b99 at h
  refine am_AW.run am_base_ok ok_Acts_takeBack (Nat.le_add_left 1 d) 7 (pc1 := 110) (ls1 := [some (.ref 26), none, some (.int x2), some (.ref q0)]) (st1 := [.int (m.1 26 3), .ref 29, .int x2, .ref q0]) (σ1 := (S0, m)) rfl ?_
  by_cases g11 : am_in (m.1 26 3) 24 = true
  rotate_left
  · rw [if_neg g11] at h
    cases h
  rw [if_pos g11] at h
  refine am_AW.iald ok_Acts_takeBack (Nat.le_add_left 1 d) S0_len rfl rfl g11 ?_
  by_cases g12 : am_in x2 9 = true
  rotate_left
  · rw [if_neg g12] at h
    cases h
  rw [if_pos g12] at h
  refine am_AW.iast ok_Acts_takeBack (Nat.le_add_left 1 d) rfl (sh_14_15_0 hq0) g12 ?_
  change am_AW am_nw ro (d + 1) mr_Acts_takeBack 112 [some (.ref 26), none, some (.int x2), some (.ref q0)] [] (S0, (am_pI m q0 x2.toNatClampNeg (m.1 29 (m.1 26 3).toNatClampNeg))) none (S0, m')
  obtain rfl := Option.some.inj h
  exact am_AW.ret ok_Acts_takeBack rfl rfl rfl rfl
set_option maxHeartbeats 4000000 in
set_option maxRecDepth 100000 in
theorem f_Acts_takeBack_ok {ro : am_Ro} {d : Nat} (hd : 1 ≤ d) {m m' : am_Mm} (h : f_Acts_takeBack  m = some m') : am_Mt am_nw ro d mr_Acts_takeBack [.ref 26, .ref 13] (S0, m) none (S0, m') := by
  obtain ⟨d, rfl⟩ : ∃ d0, d = d0 + 1 := ⟨d - 1, by omega⟩
  refine am_Mt.of (by decide +kernel) (Nat.le_of_ble_eq_true rfl) ?_
  change am_AW am_nw ro (d + 1) mr_Acts_takeBack 0 [some (.ref 26), some (.ref 13), none, none] [] (S0, m) none (S0, m')
  unfold f_Acts_takeBack at h
  refine am_AW.run am_base_ok ok_Acts_takeBack (Nat.le_add_left 1 d) 2 (pc1 := 4) (ls1 := [some (.ref 26), some (.ref 13), none, none]) (st1 := [.int (m.1 26 3)]) (σ1 := (S0, m)) rfl ?_
  refine am_AW.brP ok_Acts_takeBack rfl rfl am_c_le (fun c1 => ?_) (fun c1 => ?_)
  · rw [if_pos c1] at h
    obtain rfl := Option.some.inj h
    exact am_AW.ret ok_Acts_takeBack rfl rfl rfl rfl
  · rw [if_neg c1] at h
    refine am_AW.run am_base_ok ok_Acts_takeBack (Nat.le_add_left 1 d) 3 (pc1 := 13) (ls1 := [some (.ref 26), some (.ref 13), none, none]) (st1 := [.int (24 : Int32), .int (m.1 26 3)]) (σ1 := (S0, m)) rfl ?_
    refine am_AW.brP ok_Acts_takeBack rfl rfl am_c_le (fun c2 => ?_) (fun c2 => ?_)
    · rw [if_pos c2] at h
      refine am_AW.run am_base_ok ok_Acts_takeBack (Nat.le_add_left 1 d) 5 (pc1 := 24) (ls1 := [some (.ref 26), some (.ref 13), none, none]) (st1 := [.int ((m.1 26 3) - (1 : Int32)), .ref 26]) (σ1 := (S0, m)) rfl ?_
      refine am_AW.puti ok_Acts_takeBack (Nat.le_add_left 1 d) rfl rfl rfl (qc := kq0) rfl (by decide) ty_0_3 ?_
      refine am_AW.run am_base_ok ok_Acts_takeBack (Nat.le_add_left 1 d) 4 (pc1 := 35) (ls1 := [some (.ref 26), some (.ref 13), none, none]) (st1 := [.int ((am_pI m 26 3 ((m.1 26 3) - (1 : Int32))).1 26 3), .ref 28]) (σ1 := (S0, (am_pI m 26 3 ((m.1 26 3) - (1 : Int32))))) rfl ?_
      by_cases g3 : am_in ((am_pI m 26 3 ((m.1 26 3) - (1 : Int32))).1 26 3) 24 = true
      rotate_left
      · rw [if_neg g3] at h
        cases h
      rw [if_pos g3] at h
      refine am_AW.iald ok_Acts_takeBack (Nat.le_add_left 1 d) S0_len rfl rfl g3 ?_
      refine am_AW.run am_base_ok ok_Acts_takeBack (Nat.le_add_left 1 d) 5 (pc1 := 45) (ls1 := [some (.ref 26), some (.ref 13), some (.int ((am_pI m 26 3 ((m.1 26 3) - (1 : Int32))).1 28 ((am_pI m 26 3 ((m.1 26 3) - (1 : Int32))).1 26 3).toNatClampNeg)), none]) (st1 := [.int ((am_pI m 26 3 ((m.1 26 3) - (1 : Int32))).1 26 3), .ref 27]) (σ1 := (S0, (am_pI m 26 3 ((m.1 26 3) - (1 : Int32))))) rfl ?_
      by_cases g4 : am_in ((am_pI m 26 3 ((m.1 26 3) - (1 : Int32))).1 26 3) 24 = true
      rotate_left
      · rw [if_neg g4] at h
        cases h
      rw [if_pos g4] at h
      refine am_AW.iald ok_Acts_takeBack (Nat.le_add_left 1 d) S0_len rfl rfl g4 ?_
      refine am_AW.brN ok_Acts_takeBack rfl rfl am_c_ne (fun c5 => ?_) (fun c5 => ?_)
      · rw [if_pos c5] at h
        refine am_AW.run am_base_ok ok_Acts_takeBack (Nat.le_add_left 1 d) 5 (pc1 := 58) (ls1 := [some (.ref 26), some (.ref 13), some (.int ((am_pI m 26 3 ((m.1 26 3) - (1 : Int32))).1 28 ((am_pI m 26 3 ((m.1 26 3) - (1 : Int32))).1 26 3).toNatClampNeg)), none]) (st1 := [.int ((am_pI m 26 3 ((m.1 26 3) - (1 : Int32))).1 26 3), .ref 29, .ref 13]) (σ1 := (S0, (am_pI m 26 3 ((m.1 26 3) - (1 : Int32))))) rfl ?_
        by_cases g6 : am_in ((am_pI m 26 3 ((m.1 26 3) - (1 : Int32))).1 26 3) 24 = true
        rotate_left
        · rw [if_neg g6] at h
          cases h
        rw [if_pos g6] at h
        refine am_AW.iald ok_Acts_takeBack (Nat.le_add_left 1 d) S0_len rfl rfl g6 ?_
        refine am_AW.puti ok_Acts_takeBack (Nat.le_add_left 1 d) rfl rfl rfl (qc := kq3) rfl (by decide) ty_3_3 ?_
        refine am_AW.run am_base_ok ok_Acts_takeBack (Nat.le_add_left 1 d) 1 (pc1 := 112) (ls1 := [some (.ref 26), some (.ref 13), some (.int ((am_pI m 26 3 ((m.1 26 3) - (1 : Int32))).1 28 ((am_pI m 26 3 ((m.1 26 3) - (1 : Int32))).1 26 3).toNatClampNeg)), none]) (st1 := []) (σ1 := (S0, (am_pI (am_pI m 26 3 ((m.1 26 3) - (1 : Int32))) 13 3 ((am_pI m 26 3 ((m.1 26 3) - (1 : Int32))).1 29 ((am_pI m 26 3 ((m.1 26 3) - (1 : Int32))).1 26 3).toNatClampNeg)))) rfl ?_
        obtain rfl := Option.some.inj h
        exact am_AW.ret ok_Acts_takeBack rfl rfl rfl rfl
      · rw [if_neg c5] at h
        refine am_AW.run am_base_ok ok_Acts_takeBack (Nat.le_add_left 1 d) 1 (pc1 := 66) (ls1 := [some (.ref 26), some (.ref 13), some (.int ((am_pI m 26 3 ((m.1 26 3) - (1 : Int32))).1 28 ((am_pI m 26 3 ((m.1 26 3) - (1 : Int32))).1 26 3).toNatClampNeg)), none]) (st1 := [.int ((am_pI m 26 3 ((m.1 26 3) - (1 : Int32))).1 28 ((am_pI m 26 3 ((m.1 26 3) - (1 : Int32))).1 26 3).toNatClampNeg)]) (σ1 := (S0, (am_pI m 26 3 ((m.1 26 3) - (1 : Int32))))) rfl ?_
        refine am_AW.brP ok_Acts_takeBack rfl rfl am_c_lt (fun c7 => ?_) (fun c7 => ?_)
        · rw [if_pos c7] at h
          obtain rfl := Option.some.inj h
          exact am_AW.ret ok_Acts_takeBack rfl rfl rfl rfl
        · rw [if_neg c7] at h
          refine am_AW.run am_base_ok ok_Acts_takeBack (Nat.le_add_left 1 d) 2 (pc1 := 72) (ls1 := [some (.ref 26), some (.ref 13), some (.int ((am_pI m 26 3 ((m.1 26 3) - (1 : Int32))).1 28 ((am_pI m 26 3 ((m.1 26 3) - (1 : Int32))).1 26 3).toNatClampNeg)), none]) (st1 := [.int (9 : Int32), .int ((am_pI m 26 3 ((m.1 26 3) - (1 : Int32))).1 28 ((am_pI m 26 3 ((m.1 26 3) - (1 : Int32))).1 26 3).toNatClampNeg)]) (σ1 := (S0, (am_pI m 26 3 ((m.1 26 3) - (1 : Int32))))) rfl ?_
          refine am_AW.brP ok_Acts_takeBack rfl rfl am_c_ge (fun c8 => ?_) (fun c8 => ?_)
          · rw [if_pos c8] at h
            obtain rfl := Option.some.inj h
            exact am_AW.ret ok_Acts_takeBack rfl rfl rfl rfl
          · rw [if_neg c8] at h
            refine am_AW.run am_base_ok ok_Acts_takeBack (Nat.le_add_left 1 d) 4 (pc1 := 83) (ls1 := [some (.ref 26), some (.ref 13), some (.int ((am_pI m 26 3 ((m.1 26 3) - (1 : Int32))).1 28 ((am_pI m 26 3 ((m.1 26 3) - (1 : Int32))).1 26 3).toNatClampNeg)), none]) (st1 := [.int ((am_pI m 26 3 ((m.1 26 3) - (1 : Int32))).1 26 3), .ref 27]) (σ1 := (S0, (am_pI m 26 3 ((m.1 26 3) - (1 : Int32))))) rfl ?_
            by_cases g9 : am_in ((am_pI m 26 3 ((m.1 26 3) - (1 : Int32))).1 26 3) 24 = true
            rotate_left
            · rw [if_neg g9] at h
              cases h
            rw [if_pos g9] at h
            refine am_AW.iald ok_Acts_takeBack (Nat.le_add_left 1 d) S0_len rfl rfl g9 ?_
            refine am_AW.run am_base_ok ok_Acts_takeBack (Nat.le_add_left 1 d) 1 (pc1 := 85) (ls1 := [some (.ref 26), some (.ref 13), some (.int ((am_pI m 26 3 ((m.1 26 3) - (1 : Int32))).1 28 ((am_pI m 26 3 ((m.1 26 3) - (1 : Int32))).1 26 3).toNatClampNeg)), none]) (st1 := [.int (1 : Int32), .int ((am_pI m 26 3 ((m.1 26 3) - (1 : Int32))).1 27 ((am_pI m 26 3 ((m.1 26 3) - (1 : Int32))).1 26 3).toNatClampNeg)]) (σ1 := (S0, (am_pI m 26 3 ((m.1 26 3) - (1 : Int32))))) rfl ?_
            refine am_AW.brN ok_Acts_takeBack rfl rfl am_c_ne (fun c10 => ?_) (fun c10 => ?_)
            · rw [if_pos c10] at h
              refine am_AW.run am_base_ok ok_Acts_takeBack (Nat.le_add_left 1 d) 3 (pc1 := 99) (ls1 := [some (.ref 26), some (.ref 13), some (.int ((am_pI m 26 3 ((m.1 26 3) - (1 : Int32))).1 28 ((am_pI m 26 3 ((m.1 26 3) - (1 : Int32))).1 26 3).toNatClampNeg)), none]) (st1 := [.ref 14]) (σ1 := (S0, (am_pI m 26 3 ((m.1 26 3) - (1 : Int32))))) rfl ?_
              exact am_AW.weak (f_Acts_takeBack_b99_ok hd ((am_pI m 26 3 ((m.1 26 3) - (1 : Int32))).1 28 ((am_pI m 26 3 ((m.1 26 3) - (1 : Int32))).1 26 3).toNatClampNeg) 14 (by simp) h) (by simp only [am_le, and_self])
            · rw [if_neg c10] at h
              refine am_AW.run am_base_ok ok_Acts_takeBack (Nat.le_add_left 1 d) 2 (pc1 := 99) (ls1 := [some (.ref 26), some (.ref 13), some (.int ((am_pI m 26 3 ((m.1 26 3) - (1 : Int32))).1 28 ((am_pI m 26 3 ((m.1 26 3) - (1 : Int32))).1 26 3).toNatClampNeg)), none]) (st1 := [.ref 15]) (σ1 := (S0, (am_pI m 26 3 ((m.1 26 3) - (1 : Int32))))) rfl ?_
              exact am_AW.weak (f_Acts_takeBack_b99_ok hd ((am_pI m 26 3 ((m.1 26 3) - (1 : Int32))).1 28 ((am_pI m 26 3 ((m.1 26 3) - (1 : Int32))).1 26 3).toNatClampNeg) 15 (by simp) h) (by simp only [am_le, and_self])
    · rw [if_neg c2] at h
      obtain rfl := Option.some.inj h
      exact am_AW.ret ok_Acts_takeBack rfl rfl rfl rfl
/-! FriezePolygons$Asks.turnTo(IIII)V -/
def f_Asks_turnTo (x1 : Int32) (x2 : Int32) (x3 : Int32) (x4 : Int32) (m : am_Mm) : Option am_Mm :=
  some (am_pI (am_pI (am_pI (am_pI (am_pI m 38 1 (0 : Int32)) 38 2 x1) 38 3 x2) 38 4 x3) 38 5 x4)
set_option maxHeartbeats 4000000 in
set_option maxRecDepth 100000 in
theorem f_Asks_turnTo_ok {ro : am_Ro} {d : Nat} (hd : 1 ≤ d) (x1 : Int32) (x2 : Int32) (x3 : Int32) (x4 : Int32) {m m' : am_Mm} (h : f_Asks_turnTo x1 x2 x3 x4 m = some m') : am_Mt am_nw ro d mr_Asks_turnTo [.ref 38, .int x1, .int x2, .int x3, .int x4] (S0, m) none (S0, m') := by
  obtain ⟨d, rfl⟩ : ∃ d0, d = d0 + 1 := ⟨d - 1, by omega⟩
  refine am_Mt.of (by decide +kernel) (Nat.le_of_ble_eq_true rfl) ?_
  change am_AW am_nw ro (d + 1) mr_Asks_turnTo 0 [some (.ref 38), some (.int x1), some (.int x2), some (.int x3), some (.int x4)] [] (S0, m) none (S0, m')
  unfold f_Asks_turnTo at h
  refine am_AW.run am_base_ok ok_Asks_turnTo (Nat.le_add_left 1 d) 2 (pc1 := 2) (ls1 := [some (.ref 38), some (.int x1), some (.int x2), some (.int x3), some (.int x4)]) (st1 := [.int (0 : Int32), .ref 38]) (σ1 := (S0, m)) rfl ?_
  refine am_AW.puti ok_Asks_turnTo (Nat.le_add_left 1 d) rfl rfl rfl (qc := kq1) rfl (by decide) ty_1_1 ?_
  refine am_AW.run am_base_ok ok_Asks_turnTo (Nat.le_add_left 1 d) 2 (pc1 := 7) (ls1 := [some (.ref 38), some (.int x1), some (.int x2), some (.int x3), some (.int x4)]) (st1 := [.int x1, .ref 38]) (σ1 := (S0, (am_pI m 38 1 (0 : Int32)))) rfl ?_
  refine am_AW.puti ok_Asks_turnTo (Nat.le_add_left 1 d) rfl rfl rfl (qc := kq1) rfl (by decide) ty_1_2 ?_
  refine am_AW.run am_base_ok ok_Asks_turnTo (Nat.le_add_left 1 d) 2 (pc1 := 12) (ls1 := [some (.ref 38), some (.int x1), some (.int x2), some (.int x3), some (.int x4)]) (st1 := [.int x2, .ref 38]) (σ1 := (S0, (am_pI (am_pI m 38 1 (0 : Int32)) 38 2 x1))) rfl ?_
  refine am_AW.puti ok_Asks_turnTo (Nat.le_add_left 1 d) rfl rfl rfl (qc := kq1) rfl (by decide) ty_1_3 ?_
  refine am_AW.run am_base_ok ok_Asks_turnTo (Nat.le_add_left 1 d) 2 (pc1 := 17) (ls1 := [some (.ref 38), some (.int x1), some (.int x2), some (.int x3), some (.int x4)]) (st1 := [.int x3, .ref 38]) (σ1 := (S0, (am_pI (am_pI (am_pI m 38 1 (0 : Int32)) 38 2 x1) 38 3 x2))) rfl ?_
  refine am_AW.puti ok_Asks_turnTo (Nat.le_add_left 1 d) rfl rfl rfl (qc := kq1) rfl (by decide) ty_1_4 ?_
  refine am_AW.run am_base_ok ok_Asks_turnTo (Nat.le_add_left 1 d) 2 (pc1 := 23) (ls1 := [some (.ref 38), some (.int x1), some (.int x2), some (.int x3), some (.int x4)]) (st1 := [.int x4, .ref 38]) (σ1 := (S0, (am_pI (am_pI (am_pI (am_pI m 38 1 (0 : Int32)) 38 2 x1) 38 3 x2) 38 4 x3))) rfl ?_
  refine am_AW.puti ok_Asks_turnTo (Nat.le_add_left 1 d) rfl rfl rfl (qc := kq1) rfl (by decide) ty_1_5 ?_
  obtain rfl := Option.some.inj h
  exact am_AW.ret ok_Asks_turnTo rfl rfl rfl rfl
/-! FriezePolygons$Asks.begins(I)V -/
def f_Asks_begins (x1 : Int32) (m : am_Mm) : Option am_Mm :=
  if (m.1 38 1) < (0 : Int32) then
    some m
  else
    if (16 : Int32) ≤ (m.1 38 1) then
      some m
    else
      if am_in (m.1 38 1) 16 = true then
        some (am_pI (am_pI m 39 (m.1 38 1).toNatClampNeg x1) 38 1 (((am_pI m 39 (m.1 38 1).toNatClampNeg x1).1 38 1) + (1 : Int32)))
      else none
set_option maxHeartbeats 4000000 in
set_option maxRecDepth 100000 in
theorem f_Asks_begins_ok {ro : am_Ro} {d : Nat} (hd : 1 ≤ d) (x1 : Int32) {m m' : am_Mm} (h : f_Asks_begins x1 m = some m') : am_Mt am_nw ro d mr_Asks_begins [.ref 38, .int x1] (S0, m) none (S0, m') := by
  obtain ⟨d, rfl⟩ : ∃ d0, d = d0 + 1 := ⟨d - 1, by omega⟩
  refine am_Mt.of (by decide +kernel) (Nat.le_of_ble_eq_true rfl) ?_
  change am_AW am_nw ro (d + 1) mr_Asks_begins 0 [some (.ref 38), some (.int x1)] [] (S0, m) none (S0, m')
  unfold f_Asks_begins at h
  refine am_AW.run am_base_ok ok_Asks_begins (Nat.le_add_left 1 d) 2 (pc1 := 4) (ls1 := [some (.ref 38), some (.int x1)]) (st1 := [.int (m.1 38 1)]) (σ1 := (S0, m)) rfl ?_
  refine am_AW.brP ok_Asks_begins rfl rfl am_c_lt (fun c1 => ?_) (fun c1 => ?_)
  · rw [if_pos c1] at h
    obtain rfl := Option.some.inj h
    exact am_AW.ret ok_Asks_begins rfl rfl rfl rfl
  · rw [if_neg c1] at h
    refine am_AW.run am_base_ok ok_Asks_begins (Nat.le_add_left 1 d) 3 (pc1 := 13) (ls1 := [some (.ref 38), some (.int x1)]) (st1 := [.int (16 : Int32), .int (m.1 38 1)]) (σ1 := (S0, m)) rfl ?_
    refine am_AW.brP ok_Asks_begins rfl rfl am_c_ge (fun c2 => ?_) (fun c2 => ?_)
    · rw [if_pos c2] at h
      obtain rfl := Option.some.inj h
      exact am_AW.ret ok_Asks_begins rfl rfl rfl rfl
    · rw [if_neg c2] at h
      refine am_AW.run am_base_ok ok_Asks_begins (Nat.le_add_left 1 d) 5 (pc1 := 25) (ls1 := [some (.ref 38), some (.int x1)]) (st1 := [.int x1, .int (m.1 38 1), .ref 39]) (σ1 := (S0, m)) rfl ?_
      by_cases g3 : am_in (m.1 38 1) 16 = true
      rotate_left
      · rw [if_neg g3] at h
        cases h
      rw [if_pos g3] at h
      refine am_AW.iast ok_Asks_begins (Nat.le_add_left 1 d) rfl rfl g3 ?_
      change am_AW am_nw ro (d + 1) mr_Asks_begins 26 [some (.ref 38), some (.int x1)] [] (S0, (am_pI m 39 (m.1 38 1).toNatClampNeg x1)) none (S0, m')
      refine am_AW.run am_base_ok ok_Asks_begins (Nat.le_add_left 1 d) 5 (pc1 := 33) (ls1 := [some (.ref 38), some (.int x1)]) (st1 := [.int (((am_pI m 39 (m.1 38 1).toNatClampNeg x1).1 38 1) + (1 : Int32)), .ref 38]) (σ1 := (S0, (am_pI m 39 (m.1 38 1).toNatClampNeg x1))) rfl ?_
      refine am_AW.puti ok_Asks_begins (Nat.le_add_left 1 d) rfl rfl rfl (qc := kq1) rfl (by decide) ty_1_1 ?_
      obtain rfl := Option.some.inj h
      exact am_AW.ret ok_Asks_begins rfl rfl rfl rfl
/-! FriezePolygons$Ears.isLeft(I)Z -/
def f_Ears_isLeft (x1 : Int32) (m : am_Mm) : Option (Int32 × am_Mm) :=
  if ((am_shr (m.1 33 1) x1) &&& (1 : Int32)) = (1 : Int32) then
    some ((1 : Int32), m)
  else
    some ((0 : Int32), m)
set_option maxHeartbeats 4000000 in
set_option maxRecDepth 100000 in
theorem f_Ears_isLeft_ok {ro : am_Ro} {d : Nat} (hd : 1 ≤ d) (x1 : Int32) {m m' : am_Mm} {r : Int32} (h : f_Ears_isLeft x1 m = some (r, m')) : am_Mt am_nw ro d mr_Ears_isLeft [.ref 33, .int x1] (S0, m) (some (.int r)) (S0, m') := by
  obtain ⟨d, rfl⟩ : ∃ d0, d = d0 + 1 := ⟨d - 1, by omega⟩
  refine am_Mt.of (by decide +kernel) (Nat.le_of_ble_eq_true rfl) ?_
  change am_AW am_nw ro (d + 1) mr_Ears_isLeft 0 [some (.ref 33), some (.int x1)] [] (S0, m) (some (.int r)) (S0, m')
  unfold f_Ears_isLeft at h
  refine am_AW.run am_base_ok ok_Ears_isLeft (Nat.le_add_left 1 d) 7 (pc1 := 9) (ls1 := [some (.ref 33), some (.int x1)]) (st1 := [.int (1 : Int32), .int ((am_shr (m.1 33 1) x1) &&& (1 : Int32))]) (σ1 := (S0, m)) rfl ?_
  refine am_AW.brN ok_Ears_isLeft rfl rfl am_c_ne (fun c1 => ?_) (fun c1 => ?_)
  · rw [if_pos c1] at h
    refine am_AW.run am_base_ok ok_Ears_isLeft (Nat.le_add_left 1 d) 2 (pc1 := 17) (ls1 := [some (.ref 33), some (.int x1)]) (st1 := [.int (1 : Int32)]) (σ1 := (S0, m)) rfl ?_
    obtain ⟨rfl, rfl⟩ := Prod.mk.inj (Option.some.inj h)
    exact am_AW.ret ok_Ears_isLeft rfl rfl rfl (by decide)
  · rw [if_neg c1] at h
    refine am_AW.run am_base_ok ok_Ears_isLeft (Nat.le_add_left 1 d) 1 (pc1 := 17) (ls1 := [some (.ref 33), some (.int x1)]) (st1 := [.int (0 : Int32)]) (σ1 := (S0, m)) rfl ?_
    obtain ⟨rfl, rfl⟩ := Prod.mk.inj (Option.some.inj h)
    exact am_AW.ret ok_Ears_isLeft rfl rfl rfl (by decide)
/-! FriezePolygons$Ears.countsLess(I)Z -/
def f_Ears_countsLess (x1 : Int32) (m : am_Mm) : Option (Int32 × am_Mm) :=
  if am_in x1 9 = true then
    if am_in x1 9 = true then
      if am_in x1 9 = true then
        if (lg_cmp ((am_pL m 34 x1.toNatClampNeg ((m.2 34 x1.toNatClampNeg) - (1 : Int64))).2 34 x1.toNatClampNeg) (0 : Int64)) ≤ (0 : Int32) then
          some ((0 : Int32), (am_pL m 34 x1.toNatClampNeg ((m.2 34 x1.toNatClampNeg) - (1 : Int64))))
        else
          some ((1 : Int32), (am_pL m 34 x1.toNatClampNeg ((m.2 34 x1.toNatClampNeg) - (1 : Int64))))
      else none
    else none
  else none
set_option maxHeartbeats 4000000 in
set_option maxRecDepth 100000 in
theorem f_Ears_countsLess_ok {ro : am_Ro} {d : Nat} (hd : 1 ≤ d) (x1 : Int32) {m m' : am_Mm} {r : Int32} (h : f_Ears_countsLess x1 m = some (r, m')) : am_Mt am_nw ro d mr_Ears_countsLess [.ref 33, .int x1] (S0, m) (some (.int r)) (S0, m') := by
  obtain ⟨d, rfl⟩ : ∃ d0, d = d0 + 1 := ⟨d - 1, by omega⟩
  refine am_Mt.of (by decide +kernel) (Nat.le_of_ble_eq_true rfl) ?_
  change am_AW am_nw ro (d + 1) mr_Ears_countsLess 0 [some (.ref 33), some (.int x1)] [] (S0, m) (some (.int r)) (S0, m')
  unfold f_Ears_countsLess at h
  refine am_AW.run am_base_ok ok_Ears_countsLess (Nat.le_add_left 1 d) 4 (pc1 := 6) (ls1 := [some (.ref 33), some (.int x1)]) (st1 := [.int x1, .ref 34, .int x1, .ref 34]) (σ1 := (S0, m)) rfl ?_
  by_cases g1 : am_in x1 9 = true
  rotate_left
  · rw [if_neg g1] at h
    cases h
  rw [if_pos g1] at h
  refine am_AW.lald ok_Ears_countsLess (Nat.le_add_left 1 d) rfl rfl g1 ?_
  refine am_AW.run am_base_ok ok_Ears_countsLess (Nat.le_add_left 1 d) 2 (pc1 := 9) (ls1 := [some (.ref 33), some (.int x1)]) (st1 := [.long ((m.2 34 x1.toNatClampNeg) - (1 : Int64)), .int x1, .ref 34]) (σ1 := (S0, m)) rfl ?_
  by_cases g2 : am_in x1 9 = true
  rotate_left
  · rw [if_neg g2] at h
    cases h
  rw [if_pos g2] at h
  refine am_AW.last ok_Ears_countsLess (Nat.le_add_left 1 d) rfl rfl g2 ?_
  change am_AW am_nw ro (d + 1) mr_Ears_countsLess 10 [some (.ref 33), some (.int x1)] [] (S0, (am_pL m 34 x1.toNatClampNeg ((m.2 34 x1.toNatClampNeg) - (1 : Int64)))) (some (.int r)) (S0, m')
  refine am_AW.run am_base_ok ok_Ears_countsLess (Nat.le_add_left 1 d) 3 (pc1 := 15) (ls1 := [some (.ref 33), some (.int x1)]) (st1 := [.int x1, .ref 34]) (σ1 := (S0, (am_pL m 34 x1.toNatClampNeg ((m.2 34 x1.toNatClampNeg) - (1 : Int64))))) rfl ?_
  by_cases g3 : am_in x1 9 = true
  rotate_left
  · rw [if_neg g3] at h
    cases h
  rw [if_pos g3] at h
  refine am_AW.lald ok_Ears_countsLess (Nat.le_add_left 1 d) rfl rfl g3 ?_
  refine am_AW.run am_base_ok ok_Ears_countsLess (Nat.le_add_left 1 d) 2 (pc1 := 18) (ls1 := [some (.ref 33), some (.int x1)]) (st1 := [.int (lg_cmp ((am_pL m 34 x1.toNatClampNeg ((m.2 34 x1.toNatClampNeg) - (1 : Int64))).2 34 x1.toNatClampNeg) (0 : Int64))]) (σ1 := (S0, (am_pL m 34 x1.toNatClampNeg ((m.2 34 x1.toNatClampNeg) - (1 : Int64))))) rfl ?_
  refine am_AW.brP ok_Ears_countsLess rfl rfl am_c_le (fun c4 => ?_) (fun c4 => ?_)
  · rw [if_pos c4] at h
    refine am_AW.run am_base_ok ok_Ears_countsLess (Nat.le_add_left 1 d) 1 (pc1 := 26) (ls1 := [some (.ref 33), some (.int x1)]) (st1 := [.int (0 : Int32)]) (σ1 := (S0, (am_pL m 34 x1.toNatClampNeg ((m.2 34 x1.toNatClampNeg) - (1 : Int64))))) rfl ?_
    obtain ⟨rfl, rfl⟩ := Prod.mk.inj (Option.some.inj h)
    exact am_AW.ret ok_Ears_countsLess rfl rfl rfl (by decide)
  · rw [if_neg c4] at h
    refine am_AW.run am_base_ok ok_Ears_countsLess (Nat.le_add_left 1 d) 2 (pc1 := 26) (ls1 := [some (.ref 33), some (.int x1)]) (st1 := [.int (1 : Int32)]) (σ1 := (S0, (am_pL m 34 x1.toNatClampNeg ((m.2 34 x1.toNatClampNeg) - (1 : Int64))))) rfl ?_
    obtain ⟨rfl, rfl⟩ := Prod.mk.inj (Option.some.inj h)
    exact am_AW.ret ok_Ears_countsLess rfl rfl rfl (by decide)
/-! FriezePolygons$Figure.take(LFriezePolygons$Figure;)V -/
def f_Figure_take (p0 : Nat) (p1 : Nat) (m : am_Mm) : Option am_Mm :=
  some (am_pI (am_pI (am_pC (am_pC m (p1 + 1) (0 : Int32).toNatClampNeg (p0 + 1) (0 : Int32).toNatClampNeg (9 : Int32).toNatClampNeg) (p1 + 2) (0 : Int32).toNatClampNeg (p0 + 2) (0 : Int32).toNatClampNeg (9 : Int32).toNatClampNeg) p0 2 ((am_pC (am_pC m (p1 + 1) (0 : Int32).toNatClampNeg (p0 + 1) (0 : Int32).toNatClampNeg (9 : Int32).toNatClampNeg) (p1 + 2) (0 : Int32).toNatClampNeg (p0 + 2) (0 : Int32).toNatClampNeg (9 : Int32).toNatClampNeg).1 p1 2)) p0 3 ((am_pI (am_pC (am_pC m (p1 + 1) (0 : Int32).toNatClampNeg (p0 + 1) (0 : Int32).toNatClampNeg (9 : Int32).toNatClampNeg) (p1 + 2) (0 : Int32).toNatClampNeg (p0 + 2) (0 : Int32).toNatClampNeg (9 : Int32).toNatClampNeg) p0 2 ((am_pC (am_pC m (p1 + 1) (0 : Int32).toNatClampNeg (p0 + 1) (0 : Int32).toNatClampNeg (9 : Int32).toNatClampNeg) (p1 + 2) (0 : Int32).toNatClampNeg (p0 + 2) (0 : Int32).toNatClampNeg (9 : Int32).toNatClampNeg).1 p1 2)).1 p1 3))
set_option maxHeartbeats 4000000 in
set_option maxRecDepth 100000 in
theorem f_Figure_take_ok {ro : am_Ro} {d : Nat} (hd : 1 ≤ d) (p0 : Nat) (p1 : Nat) (hp0 : p0 = 13 ∨ p0 = 16 ∨ p0 = 57 ∨ p0 = 60) (hp1 : p1 = 3 ∨ p1 = 13 ∨ p1 = 57 ∨ p1 = 60) {m m' : am_Mm} (h : f_Figure_take p0 p1 m = some m') : am_Mt am_nw ro d mr_Figure_take [.ref p0, .ref p1] (S0, m) none (S0, m') := by
  obtain ⟨d, rfl⟩ : ∃ d0, d = d0 + 1 := ⟨d - 1, by omega⟩
  refine am_Mt.of (by decide +kernel) (Nat.le_of_ble_eq_true rfl) ?_
  change am_AW am_nw ro (d + 1) mr_Figure_take 0 [some (.ref p0), some (.ref p1)] [] (S0, m) none (S0, m')
  unfold f_Figure_take at h
  refine am_AW.run am_base_ok ok_Figure_take (Nat.le_add_left 1 d) 1 (pc1 := 1) (ls1 := [some (.ref p0), some (.ref p1)]) (st1 := [.ref p1]) (σ1 := (S0, m)) rfl ?_
  refine am_AW.getf ok_Figure_take (Nat.le_add_left 1 d) rfl (sh_3_13_57_60_0 hp1) rfl ?_
  refine am_AW.run am_base_ok ok_Figure_take (Nat.le_add_left 1 d) 2 (pc1 := 6) (ls1 := [some (.ref p0), some (.ref p1)]) (st1 := [.ref p0, .int (0 : Int32), .ref (p1 + 1)]) (σ1 := (S0, m)) rfl ?_
  refine am_AW.getf ok_Figure_take (Nat.le_add_left 1 d) rfl (sh_13_16_57_60_0 hp0) rfl ?_
  refine am_AW.run am_base_ok ok_Figure_take (Nat.le_add_left 1 d) 2 (pc1 := 12) (ls1 := [some (.ref p0), some (.ref p1)]) (st1 := [.int (9 : Int32), .int (0 : Int32), .ref (p0 + 1), .int (0 : Int32), .ref (p1 + 1)]) (σ1 := (S0, m)) rfl ?_
  refine am_AW.acpy ok_Figure_take (Nat.le_add_left 1 d) rfl (sh_3_13_57_60_1 hp1) (sh_13_16_57_60_1 hp0) (Nat.le_of_ble_eq_true rfl) (by decide) ?_
  refine am_AW.run am_base_ok ok_Figure_take (Nat.le_add_left 1 d) 1 (pc1 := 16) (ls1 := [some (.ref p0), some (.ref p1)]) (st1 := [.ref p1]) (σ1 := (S0, (am_pC m (p1 + 1) (0 : Int32).toNatClampNeg (p0 + 1) (0 : Int32).toNatClampNeg (9 : Int32).toNatClampNeg))) rfl ?_
  refine am_AW.getf ok_Figure_take (Nat.le_add_left 1 d) rfl (sh_3_13_57_60_0 hp1) rfl ?_
  refine am_AW.run am_base_ok ok_Figure_take (Nat.le_add_left 1 d) 2 (pc1 := 21) (ls1 := [some (.ref p0), some (.ref p1)]) (st1 := [.ref p0, .int (0 : Int32), .ref (p1 + 2)]) (σ1 := (S0, (am_pC m (p1 + 1) (0 : Int32).toNatClampNeg (p0 + 1) (0 : Int32).toNatClampNeg (9 : Int32).toNatClampNeg))) rfl ?_
  refine am_AW.getf ok_Figure_take (Nat.le_add_left 1 d) rfl (sh_13_16_57_60_0 hp0) rfl ?_
  refine am_AW.run am_base_ok ok_Figure_take (Nat.le_add_left 1 d) 2 (pc1 := 27) (ls1 := [some (.ref p0), some (.ref p1)]) (st1 := [.int (9 : Int32), .int (0 : Int32), .ref (p0 + 2), .int (0 : Int32), .ref (p1 + 2)]) (σ1 := (S0, (am_pC m (p1 + 1) (0 : Int32).toNatClampNeg (p0 + 1) (0 : Int32).toNatClampNeg (9 : Int32).toNatClampNeg))) rfl ?_
  refine am_AW.acpy ok_Figure_take (Nat.le_add_left 1 d) rfl (sh_3_13_57_60_2 hp1) (sh_13_16_57_60_2 hp0) (Nat.le_of_ble_eq_true rfl) (by decide) ?_
  refine am_AW.run am_base_ok ok_Figure_take (Nat.le_add_left 1 d) 2 (pc1 := 32) (ls1 := [some (.ref p0), some (.ref p1)]) (st1 := [.ref p1, .ref p0]) (σ1 := (S0, (am_pC (am_pC m (p1 + 1) (0 : Int32).toNatClampNeg (p0 + 1) (0 : Int32).toNatClampNeg (9 : Int32).toNatClampNeg) (p1 + 2) (0 : Int32).toNatClampNeg (p0 + 2) (0 : Int32).toNatClampNeg (9 : Int32).toNatClampNeg))) rfl ?_
  refine am_AW.geti ok_Figure_take (Nat.le_add_left 1 d) rfl (sh_3_13_57_60_0 hp1) rfl ?_
  refine am_AW.puti ok_Figure_take (Nat.le_add_left 1 d) rfl (sh_13_16_57_60_0 hp0) rfl (qc := kq3) rfl (by decide) ty_3_2 ?_
  refine am_AW.run am_base_ok ok_Figure_take (Nat.le_add_left 1 d) 2 (pc1 := 40) (ls1 := [some (.ref p0), some (.ref p1)]) (st1 := [.ref p1, .ref p0]) (σ1 := (S0, (am_pI (am_pC (am_pC m (p1 + 1) (0 : Int32).toNatClampNeg (p0 + 1) (0 : Int32).toNatClampNeg (9 : Int32).toNatClampNeg) (p1 + 2) (0 : Int32).toNatClampNeg (p0 + 2) (0 : Int32).toNatClampNeg (9 : Int32).toNatClampNeg) p0 2 ((am_pC (am_pC m (p1 + 1) (0 : Int32).toNatClampNeg (p0 + 1) (0 : Int32).toNatClampNeg (9 : Int32).toNatClampNeg) (p1 + 2) (0 : Int32).toNatClampNeg (p0 + 2) (0 : Int32).toNatClampNeg (9 : Int32).toNatClampNeg).1 p1 2)))) rfl ?_
  refine am_AW.geti ok_Figure_take (Nat.le_add_left 1 d) rfl (sh_3_13_57_60_0 hp1) rfl ?_
  refine am_AW.puti ok_Figure_take (Nat.le_add_left 1 d) rfl (sh_13_16_57_60_0 hp0) rfl (qc := kq3) rfl (by decide) ty_3_3 ?_
  obtain rfl := Option.some.inj h
  exact am_AW.ret ok_Figure_take rfl rfl rfl rfl
/-! FriezePolygons$Figure.hasCut(I)Z -/
def f_Figure_hasCut (x1 : Int32) (m : am_Mm) : Option (Int32 × am_Mm) :=
  if ((am_shr (m.1 13 3) x1) &&& (1 : Int32)) = (1 : Int32) then
    some ((1 : Int32), m)
  else
    some ((0 : Int32), m)
set_option maxHeartbeats 4000000 in
set_option maxRecDepth 100000 in
theorem f_Figure_hasCut_ok {ro : am_Ro} {d : Nat} (hd : 1 ≤ d) (x1 : Int32) {m m' : am_Mm} {r : Int32} (h : f_Figure_hasCut x1 m = some (r, m')) : am_Mt am_nw ro d mr_Figure_hasCut [.ref 13, .int x1] (S0, m) (some (.int r)) (S0, m') := by
  obtain ⟨d, rfl⟩ : ∃ d0, d = d0 + 1 := ⟨d - 1, by omega⟩
  refine am_Mt.of (by decide +kernel) (Nat.le_of_ble_eq_true rfl) ?_
  change am_AW am_nw ro (d + 1) mr_Figure_hasCut 0 [some (.ref 13), some (.int x1)] [] (S0, m) (some (.int r)) (S0, m')
  unfold f_Figure_hasCut at h
  refine am_AW.run am_base_ok ok_Figure_hasCut (Nat.le_add_left 1 d) 7 (pc1 := 9) (ls1 := [some (.ref 13), some (.int x1)]) (st1 := [.int (1 : Int32), .int ((am_shr (m.1 13 3) x1) &&& (1 : Int32))]) (σ1 := (S0, m)) rfl ?_
  refine am_AW.brN ok_Figure_hasCut rfl rfl am_c_ne (fun c1 => ?_) (fun c1 => ?_)
  · rw [if_pos c1] at h
    refine am_AW.run am_base_ok ok_Figure_hasCut (Nat.le_add_left 1 d) 2 (pc1 := 17) (ls1 := [some (.ref 13), some (.int x1)]) (st1 := [.int (1 : Int32)]) (σ1 := (S0, m)) rfl ?_
    obtain ⟨rfl, rfl⟩ := Prod.mk.inj (Option.some.inj h)
    exact am_AW.ret ok_Figure_hasCut rfl rfl rfl (by decide)
  · rw [if_neg c1] at h
    refine am_AW.run am_base_ok ok_Figure_hasCut (Nat.le_add_left 1 d) 1 (pc1 := 17) (ls1 := [some (.ref 13), some (.int x1)]) (st1 := [.int (0 : Int32)]) (σ1 := (S0, m)) rfl ?_
    obtain ⟨rfl, rfl⟩ := Prod.mk.inj (Option.some.inj h)
    exact am_AW.ret ok_Figure_hasCut rfl rfl rfl (by decide)
/-! FriezePolygons$FlipSearch.meet(I)V -/
def f_FlipSearch_meet_b10 : Nat → Int32 → Int32 → Int32 → am_Mm → Option am_Mm
  | 0, _, _, _, _ => none
  | n + 1, x1, x2, x3, m =>
    if (1024 : Int32) ≤ x3 then
      some m
    else
      if am_in ((x2 + x3) &&& (1023 : Int32)) 1024 = true then
        if (m.1 37 ((x2 + x3) &&& (1023 : Int32)).toNatClampNeg) = x1 then
          some m
        else
          if am_in ((x2 + x3) &&& (1023 : Int32)) 1024 = true then
            if (m.1 37 ((x2 + x3) &&& (1023 : Int32)).toNatClampNeg) = (0 : Int32) then
              if (m.1 35 2) < (0 : Int32) then
                some m
              else
                if (512 : Int32) ≤ (m.1 35 2) then
                  some m
                else
                  if am_in ((x2 + x3) &&& (1023 : Int32)) 1024 = true then
                    if am_in ((am_pI m 37 ((x2 + x3) &&& (1023 : Int32)).toNatClampNeg x1).1 35 2) 512 = true then
                      some (am_pI (am_pI (am_pI m 37 ((x2 + x3) &&& (1023 : Int32)).toNatClampNeg x1) 36 ((am_pI m 37 ((x2 + x3) &&& (1023 : Int32)).toNatClampNeg x1).1 35 2).toNatClampNeg x1) 35 2 (((am_pI (am_pI m 37 ((x2 + x3) &&& (1023 : Int32)).toNatClampNeg x1) 36 ((am_pI m 37 ((x2 + x3) &&& (1023 : Int32)).toNatClampNeg x1).1 35 2).toNatClampNeg x1).1 35 2) + (1 : Int32)))
                    else none
                  else none
            else
              f_FlipSearch_meet_b10 n x1 x2 (x3 + (1 : Int32)) m
          else none
      else none
def f_FlipSearch_meet (x1 : Int32) (m : am_Mm) : Option am_Mm :=
  f_FlipSearch_meet_b10 am_F x1 (am_ushr (x1 * (-1640531535 : Int32)) (22 : Int32)) (0 : Int32) m
set_option maxHeartbeats 4000000 in
set_option maxRecDepth 100000 in
theorem f_FlipSearch_meet_b10_all {ro : am_Ro} {d : Nat} (hd : 1 ≤ d + 1) : ∀ (n : Nat) (x1 : Int32) (x2 : Int32) (x3 : Int32) (m m' : am_Mm), f_FlipSearch_meet_b10 n x1 x2 x3 m = some m' → am_AW am_nw ro (d + 1) mr_FlipSearch_meet 10 [some (.ref 35), some (.int x1), some (.int x2), some (.int x3), none] [] (S0, m) none (S0, m') := by
  intro n
  induction n with
  | zero =>
    intro x1 x2 x3 m m' h
    rw [f_FlipSearch_meet_b10] at h
    cases h
  | succ n ih =>
    intro x1 x2 x3 m m' h
    rw [f_FlipSearch_meet_b10] at h
    refine am_AW.run am_base_ok ok_FlipSearch_meet (Nat.le_add_left 1 d) 2 (pc1 := 14) (ls1 := [some (.ref 35), some (.int x1), some (.int x2), some (.int x3), none]) (st1 := [.int (1024 : Int32), .int x3]) (σ1 := (S0, m)) rfl ?_
    refine am_AW.brP ok_FlipSearch_meet rfl rfl am_c_ge (fun c1 => ?_) (fun c1 => ?_)
    · rw [if_pos c1] at h
      obtain rfl := Option.some.inj h
      exact am_AW.ret ok_FlipSearch_meet rfl rfl rfl rfl
    · rw [if_neg c1] at h
      refine am_AW.run am_base_ok ok_FlipSearch_meet (Nat.le_add_left 1 d) 9 (pc1 := 32) (ls1 := [some (.ref 35), some (.int x1), some (.int x2), some (.int x3), some (.int ((x2 + x3) &&& (1023 : Int32)))]) (st1 := [.int ((x2 + x3) &&& (1023 : Int32)), .ref 37]) (σ1 := (S0, m)) rfl ?_
      by_cases g2 : am_in ((x2 + x3) &&& (1023 : Int32)) 1024 = true
      rotate_left
      · rw [if_neg g2] at h
        cases h
      rw [if_pos g2] at h
      refine am_AW.iald ok_FlipSearch_meet (Nat.le_add_left 1 d) S0_len rfl rfl g2 ?_
      refine am_AW.run am_base_ok ok_FlipSearch_meet (Nat.le_add_left 1 d) 1 (pc1 := 34) (ls1 := [some (.ref 35), some (.int x1), some (.int x2), some (.int x3), some (.int ((x2 + x3) &&& (1023 : Int32)))]) (st1 := [.int x1, .int (m.1 37 ((x2 + x3) &&& (1023 : Int32)).toNatClampNeg)]) (σ1 := (S0, m)) rfl ?_
      refine am_AW.brN ok_FlipSearch_meet rfl rfl am_c_ne (fun c3 => ?_) (fun c3 => ?_)
      · rw [if_pos c3] at h
        obtain rfl := Option.some.inj h
        exact am_AW.ret ok_FlipSearch_meet rfl rfl rfl rfl
      · rw [if_neg c3] at h
        refine am_AW.run am_base_ok ok_FlipSearch_meet (Nat.le_add_left 1 d) 3 (pc1 := 44) (ls1 := [some (.ref 35), some (.int x1), some (.int x2), some (.int x3), some (.int ((x2 + x3) &&& (1023 : Int32)))]) (st1 := [.int ((x2 + x3) &&& (1023 : Int32)), .ref 37]) (σ1 := (S0, m)) rfl ?_
        by_cases g4 : am_in ((x2 + x3) &&& (1023 : Int32)) 1024 = true
        rotate_left
        · rw [if_neg g4] at h
          cases h
        rw [if_pos g4] at h
        refine am_AW.iald ok_FlipSearch_meet (Nat.le_add_left 1 d) S0_len rfl rfl g4 ?_
        refine am_AW.brN ok_FlipSearch_meet rfl rfl am_c_ne (fun c5 => ?_) (fun c5 => ?_)
        · rw [if_pos c5] at h
          refine am_AW.run am_base_ok ok_FlipSearch_meet (Nat.le_add_left 1 d) 2 (pc1 := 52) (ls1 := [some (.ref 35), some (.int x1), some (.int x2), some (.int x3), some (.int ((x2 + x3) &&& (1023 : Int32)))]) (st1 := [.int (m.1 35 2)]) (σ1 := (S0, m)) rfl ?_
          refine am_AW.brP ok_FlipSearch_meet rfl rfl am_c_lt (fun c6 => ?_) (fun c6 => ?_)
          · rw [if_pos c6] at h
            obtain rfl := Option.some.inj h
            exact am_AW.ret ok_FlipSearch_meet rfl rfl rfl rfl
          · rw [if_neg c6] at h
            refine am_AW.run am_base_ok ok_FlipSearch_meet (Nat.le_add_left 1 d) 3 (pc1 := 62) (ls1 := [some (.ref 35), some (.int x1), some (.int x2), some (.int x3), some (.int ((x2 + x3) &&& (1023 : Int32)))]) (st1 := [.int (512 : Int32), .int (m.1 35 2)]) (σ1 := (S0, m)) rfl ?_
            refine am_AW.brP ok_FlipSearch_meet rfl rfl am_c_ge (fun c7 => ?_) (fun c7 => ?_)
            · rw [if_pos c7] at h
              obtain rfl := Option.some.inj h
              exact am_AW.ret ok_FlipSearch_meet rfl rfl rfl rfl
            · rw [if_neg c7] at h
              refine am_AW.run am_base_ok ok_FlipSearch_meet (Nat.le_add_left 1 d) 4 (pc1 := 72) (ls1 := [some (.ref 35), some (.int x1), some (.int x2), some (.int x3), some (.int ((x2 + x3) &&& (1023 : Int32)))]) (st1 := [.int x1, .int ((x2 + x3) &&& (1023 : Int32)), .ref 37]) (σ1 := (S0, m)) rfl ?_
              by_cases g8 : am_in ((x2 + x3) &&& (1023 : Int32)) 1024 = true
              rotate_left
              · rw [if_neg g8] at h
                cases h
              rw [if_pos g8] at h
              refine am_AW.iast ok_FlipSearch_meet (Nat.le_add_left 1 d) rfl rfl g8 ?_
              change am_AW am_nw ro (d + 1) mr_FlipSearch_meet 73 [some (.ref 35), some (.int x1), some (.int x2), some (.int x3), some (.int ((x2 + x3) &&& (1023 : Int32)))] [] (S0, (am_pI m 37 ((x2 + x3) &&& (1023 : Int32)).toNatClampNeg x1)) none (S0, m')
              refine am_AW.run am_base_ok ok_FlipSearch_meet (Nat.le_add_left 1 d) 5 (pc1 := 82) (ls1 := [some (.ref 35), some (.int x1), some (.int x2), some (.int x3), some (.int ((x2 + x3) &&& (1023 : Int32)))]) (st1 := [.int x1, .int ((am_pI m 37 ((x2 + x3) &&& (1023 : Int32)).toNatClampNeg x1).1 35 2), .ref 36]) (σ1 := (S0, (am_pI m 37 ((x2 + x3) &&& (1023 : Int32)).toNatClampNeg x1))) rfl ?_
              by_cases g9 : am_in ((am_pI m 37 ((x2 + x3) &&& (1023 : Int32)).toNatClampNeg x1).1 35 2) 512 = true
              rotate_left
              · rw [if_neg g9] at h
                cases h
              rw [if_pos g9] at h
              refine am_AW.iast ok_FlipSearch_meet (Nat.le_add_left 1 d) rfl rfl g9 ?_
              change am_AW am_nw ro (d + 1) mr_FlipSearch_meet 83 [some (.ref 35), some (.int x1), some (.int x2), some (.int x3), some (.int ((x2 + x3) &&& (1023 : Int32)))] [] (S0, (am_pI (am_pI m 37 ((x2 + x3) &&& (1023 : Int32)).toNatClampNeg x1) 36 ((am_pI m 37 ((x2 + x3) &&& (1023 : Int32)).toNatClampNeg x1).1 35 2).toNatClampNeg x1)) none (S0, m')
              refine am_AW.run am_base_ok ok_FlipSearch_meet (Nat.le_add_left 1 d) 5 (pc1 := 90) (ls1 := [some (.ref 35), some (.int x1), some (.int x2), some (.int x3), some (.int ((x2 + x3) &&& (1023 : Int32)))]) (st1 := [.int (((am_pI (am_pI m 37 ((x2 + x3) &&& (1023 : Int32)).toNatClampNeg x1) 36 ((am_pI m 37 ((x2 + x3) &&& (1023 : Int32)).toNatClampNeg x1).1 35 2).toNatClampNeg x1).1 35 2) + (1 : Int32)), .ref 35]) (σ1 := (S0, (am_pI (am_pI m 37 ((x2 + x3) &&& (1023 : Int32)).toNatClampNeg x1) 36 ((am_pI m 37 ((x2 + x3) &&& (1023 : Int32)).toNatClampNeg x1).1 35 2).toNatClampNeg x1))) rfl ?_
              refine am_AW.puti ok_FlipSearch_meet (Nat.le_add_left 1 d) rfl rfl rfl (qc := kq4) rfl (by decide) ty_4_2 ?_
              obtain rfl := Option.some.inj h
              exact am_AW.ret ok_FlipSearch_meet rfl rfl rfl rfl
        · rw [if_neg c5] at h
          refine am_AW.run am_base_ok ok_FlipSearch_meet (Nat.le_add_left 1 d) 2 (pc1 := 10) (ls1 := [some (.ref 35), some (.int x1), some (.int x2), some (.int (x3 + (1 : Int32))), some (.int ((x2 + x3) &&& (1023 : Int32)))]) (st1 := []) (σ1 := (S0, m)) rfl ?_
          exact am_AW.weak (ih x1 x2 (x3 + (1 : Int32))  _ _ h) (by simp only [am_le, and_self])
set_option maxHeartbeats 4000000 in
set_option maxRecDepth 100000 in
theorem f_FlipSearch_meet_b10_ok {ro : am_Ro} {d : Nat} (hd : 1 ≤ d + 1) (x1 : Int32) (x2 : Int32) (x3 : Int32) {m m' : am_Mm} {n : Nat} (h : f_FlipSearch_meet_b10 n x1 x2 x3 m = some m') : am_AW am_nw ro (d + 1) mr_FlipSearch_meet 10 [some (.ref 35), some (.int x1), some (.int x2), some (.int x3), none] [] (S0, m) none (S0, m') :=
  f_FlipSearch_meet_b10_all hd n x1 x2 x3  m m' h
set_option maxHeartbeats 4000000 in
set_option maxRecDepth 100000 in
theorem f_FlipSearch_meet_ok {ro : am_Ro} {d : Nat} (hd : 1 ≤ d) (x1 : Int32) {m m' : am_Mm} (h : f_FlipSearch_meet x1 m = some m') : am_Mt am_nw ro d mr_FlipSearch_meet [.ref 35, .int x1] (S0, m) none (S0, m') := by
  obtain ⟨d, rfl⟩ : ∃ d0, d = d0 + 1 := ⟨d - 1, by omega⟩
  refine am_Mt.of (by decide +kernel) (Nat.le_of_ble_eq_true rfl) ?_
  change am_AW am_nw ro (d + 1) mr_FlipSearch_meet 0 [some (.ref 35), some (.int x1), none, none, none] [] (S0, m) none (S0, m')
  unfold f_FlipSearch_meet at h
  refine am_AW.run am_base_ok ok_FlipSearch_meet (Nat.le_add_left 1 d) 8 (pc1 := 10) (ls1 := [some (.ref 35), some (.int x1), some (.int (am_ushr (x1 * (-1640531535 : Int32)) (22 : Int32))), some (.int (0 : Int32)), none]) (st1 := []) (σ1 := (S0, m)) rfl ?_
  exact am_AW.weak (f_FlipSearch_meet_b10_ok hd x1 (am_ushr (x1 * (-1640531535 : Int32)) (22 : Int32)) (0 : Int32)  h) (by simp only [am_le, and_self])
/-! FriezePolygons$Frieze.isWithin(IJJ)Z -/
def f_Frieze_isWithin_b28 (x0 : Int32) (x1 : Int64) (x3 : Int64) (s0 : Int32) (m : am_Mm) : Option (Int32 × am_Mm) :=
  if s0 = (0 : Int32) then
    if (x0.toInt64) = (0 : Int64) then none else
    if (lg_cmp (x3 / (x0.toInt64)) x1) = (0 : Int32) then
      some ((1 : Int32), m)
    else
      some ((0 : Int32), m)
  else
    some ((0 : Int32), m)
def f_Frieze_isWithin (x0 : Int32) (x1 : Int64) (x3 : Int64) (m : am_Mm) : Option (Int32 × am_Mm) :=
  if x0 = (0 : Int32) then
    some ((1 : Int32), m)
  else
    if x0 = (-1 : Int32) then
      if (0 : Int32) ≤ (lg_cmp x1 (0 : Int64)) then
        f_Frieze_isWithin_b28 x0 x1 x3 (0 : Int32) m
      else
        if (lg_cmp x3 x1) = (0 : Int32) then
          f_Frieze_isWithin_b28 x0 x1 x3 (1 : Int32) m
        else
          f_Frieze_isWithin_b28 x0 x1 x3 (0 : Int32) m
    else
      f_Frieze_isWithin_b28 x0 x1 x3 (0 : Int32) m
set_option maxHeartbeats 4000000 in
set_option maxRecDepth 100000 in
theorem f_Frieze_isWithin_b28_ok {ro : am_Ro} {d : Nat} (hd : 1 ≤ d + 1) (x0 : Int32) (x1 : Int64) (x3 : Int64) (s0 : Int32) {m m' : am_Mm} {r : Int32} (h : f_Frieze_isWithin_b28 x0 x1 x3 s0 m = some (r, m')) : am_AW am_nw ro (d + 1) mr_Frieze_isWithin 28 [some (.int x0), some (.long x1), none, some (.long x3), none, none] [.int s0] (S0, m) (some (.int r)) (S0, m') := by
  unfold f_Frieze_isWithin_b28 at h
  refine am_AW.run am_base_ok ok_Frieze_isWithin (Nat.le_add_left 1 d) 2 (pc1 := 32) (ls1 := [some (.int x0), some (.long x1), none, some (.long x3), none, some (.int s0)]) (st1 := [.int s0]) (σ1 := (S0, m)) rfl ?_
  refine am_AW.brN ok_Frieze_isWithin rfl rfl am_c_ne (fun c4 => ?_) (fun c4 => ?_)
  · rw [if_pos c4] at h
    refine am_AW.run am_base_ok ok_Frieze_isWithin (Nat.le_add_left 1 d) 3 (pc1 := 38) (ls1 := [some (.int x0), some (.long x1), none, some (.long x3), none, some (.int s0)]) (st1 := [.long (x0.toInt64), .long x3]) (σ1 := (S0, m)) rfl ?_
    by_cases g5 : (x0.toInt64) = (0 : Int64)
    · rw [if_pos g5] at h
      cases h
    rw [if_neg g5] at h
    refine am_AW.dvl ok_Frieze_isWithin (Nat.le_add_left 1 d) (w := (x3 / (x0.toInt64))) (Or.inl ⟨rfl, rfl⟩) rfl g5 ?_
    refine am_AW.run am_base_ok ok_Frieze_isWithin (Nat.le_add_left 1 d) 2 (pc1 := 41) (ls1 := [some (.int x0), some (.long x1), none, some (.long x3), none, some (.int s0)]) (st1 := [.int (lg_cmp (x3 / (x0.toInt64)) x1)]) (σ1 := (S0, m)) rfl ?_
    refine am_AW.brN ok_Frieze_isWithin rfl rfl am_c_ne (fun c6 => ?_) (fun c6 => ?_)
    · rw [if_pos c6] at h
      refine am_AW.run am_base_ok ok_Frieze_isWithin (Nat.le_add_left 1 d) 2 (pc1 := 49) (ls1 := [some (.int x0), some (.long x1), none, some (.long x3), none, some (.int s0)]) (st1 := [.int (1 : Int32)]) (σ1 := (S0, m)) rfl ?_
      obtain ⟨rfl, rfl⟩ := Prod.mk.inj (Option.some.inj h)
      exact am_AW.ret ok_Frieze_isWithin rfl rfl rfl (by decide)
    · rw [if_neg c6] at h
      refine am_AW.run am_base_ok ok_Frieze_isWithin (Nat.le_add_left 1 d) 1 (pc1 := 49) (ls1 := [some (.int x0), some (.long x1), none, some (.long x3), none, some (.int s0)]) (st1 := [.int (0 : Int32)]) (σ1 := (S0, m)) rfl ?_
      obtain ⟨rfl, rfl⟩ := Prod.mk.inj (Option.some.inj h)
      exact am_AW.ret ok_Frieze_isWithin rfl rfl rfl (by decide)
  · rw [if_neg c4] at h
    refine am_AW.run am_base_ok ok_Frieze_isWithin (Nat.le_add_left 1 d) 1 (pc1 := 49) (ls1 := [some (.int x0), some (.long x1), none, some (.long x3), none, some (.int s0)]) (st1 := [.int (0 : Int32)]) (σ1 := (S0, m)) rfl ?_
    obtain ⟨rfl, rfl⟩ := Prod.mk.inj (Option.some.inj h)
    exact am_AW.ret ok_Frieze_isWithin rfl rfl rfl (by decide)
set_option maxHeartbeats 4000000 in
set_option maxRecDepth 100000 in
theorem f_Frieze_isWithin_ok {ro : am_Ro} {d : Nat} (hd : 1 ≤ d) (x0 : Int32) (x1 : Int64) (x3 : Int64) {m m' : am_Mm} {r : Int32} (h : f_Frieze_isWithin x0 x1 x3 m = some (r, m')) : am_Mt am_nw ro d mr_Frieze_isWithin [.int x0, .long x1, .long x3] (S0, m) (some (.int r)) (S0, m') := by
  obtain ⟨d, rfl⟩ : ∃ d0, d = d0 + 1 := ⟨d - 1, by omega⟩
  refine am_Mt.of (by decide +kernel) (Nat.le_of_ble_eq_true rfl) ?_
  change am_AW am_nw ro (d + 1) mr_Frieze_isWithin 0 [some (.int x0), some (.long x1), none, some (.long x3), none, none] [] (S0, m) (some (.int r)) (S0, m')
  unfold f_Frieze_isWithin at h
  refine am_AW.run am_base_ok ok_Frieze_isWithin (Nat.le_add_left 1 d) 1 (pc1 := 1) (ls1 := [some (.int x0), some (.long x1), none, some (.long x3), none, none]) (st1 := [.int x0]) (σ1 := (S0, m)) rfl ?_
  refine am_AW.brN ok_Frieze_isWithin rfl rfl am_c_ne (fun c1 => ?_) (fun c1 => ?_)
  · rw [if_pos c1] at h
    refine am_AW.run am_base_ok ok_Frieze_isWithin (Nat.le_add_left 1 d) 1 (pc1 := 5) (ls1 := [some (.int x0), some (.long x1), none, some (.long x3), none, none]) (st1 := [.int (1 : Int32)]) (σ1 := (S0, m)) rfl ?_
    obtain ⟨rfl, rfl⟩ := Prod.mk.inj (Option.some.inj h)
    exact am_AW.ret ok_Frieze_isWithin rfl rfl rfl (by decide)
  · rw [if_neg c1] at h
    refine am_AW.run am_base_ok ok_Frieze_isWithin (Nat.le_add_left 1 d) 2 (pc1 := 8) (ls1 := [some (.int x0), some (.long x1), none, some (.long x3), none, none]) (st1 := [.int (-1 : Int32), .int x0]) (σ1 := (S0, m)) rfl ?_
    refine am_AW.brN ok_Frieze_isWithin rfl rfl am_c_ne (fun c2 => ?_) (fun c2 => ?_)
    · rw [if_pos c2] at h
      refine am_AW.run am_base_ok ok_Frieze_isWithin (Nat.le_add_left 1 d) 3 (pc1 := 14) (ls1 := [some (.int x0), some (.long x1), none, some (.long x3), none, none]) (st1 := [.int (lg_cmp x1 (0 : Int64))]) (σ1 := (S0, m)) rfl ?_
      refine am_AW.brP ok_Frieze_isWithin rfl rfl am_c_ge (fun c3 => ?_) (fun c3 => ?_)
      · rw [if_pos c3] at h
        refine am_AW.run am_base_ok ok_Frieze_isWithin (Nat.le_add_left 1 d) 1 (pc1 := 28) (ls1 := [some (.int x0), some (.long x1), none, some (.long x3), none, none]) (st1 := [.int (0 : Int32)]) (σ1 := (S0, m)) rfl ?_
        exact am_AW.weak (f_Frieze_isWithin_b28_ok hd x0 x1 x3 (0 : Int32)  h) (by simp only [am_le, and_self])
      · rw [if_neg c3] at h
        refine am_AW.run am_base_ok ok_Frieze_isWithin (Nat.le_add_left 1 d) 3 (pc1 := 20) (ls1 := [some (.int x0), some (.long x1), none, some (.long x3), none, none]) (st1 := [.int (lg_cmp x3 x1)]) (σ1 := (S0, m)) rfl ?_
        refine am_AW.brN ok_Frieze_isWithin rfl rfl am_c_ne (fun c7 => ?_) (fun c7 => ?_)
        · rw [if_pos c7] at h
          refine am_AW.run am_base_ok ok_Frieze_isWithin (Nat.le_add_left 1 d) 2 (pc1 := 28) (ls1 := [some (.int x0), some (.long x1), none, some (.long x3), none, none]) (st1 := [.int (1 : Int32)]) (σ1 := (S0, m)) rfl ?_
          exact am_AW.weak (f_Frieze_isWithin_b28_ok hd x0 x1 x3 (1 : Int32)  h) (by simp only [am_le, and_self])
        · rw [if_neg c7] at h
          refine am_AW.run am_base_ok ok_Frieze_isWithin (Nat.le_add_left 1 d) 1 (pc1 := 28) (ls1 := [some (.int x0), some (.long x1), none, some (.long x3), none, none]) (st1 := [.int (0 : Int32)]) (σ1 := (S0, m)) rfl ?_
          exact am_AW.weak (f_Frieze_isWithin_b28_ok hd x0 x1 x3 (0 : Int32)  h) (by simp only [am_le, and_self])
    · rw [if_neg c2] at h
      refine am_AW.run am_base_ok ok_Frieze_isWithin (Nat.le_add_left 1 d) 1 (pc1 := 28) (ls1 := [some (.int x0), some (.long x1), none, some (.long x3), none, none]) (st1 := [.int (0 : Int32)]) (σ1 := (S0, m)) rfl ?_
      exact am_AW.weak (f_Frieze_isWithin_b28_ok hd x0 x1 x3 (0 : Int32)  h) (by simp only [am_le, and_self])
/-! FriezePolygons$Frieze.isSameTurned(I)Z -/
def f_Frieze_isSameTurned_b34 (k2 : Int32 → Int32 → am_Mm → Option (Int32 × am_Mm)) (x1 : Int32) (x2 : Int32) (s0 : Int32) (m : am_Mm) : Option (Int32 × am_Mm) :=
  if am_in x2 9 = true then
    if am_in s0 9 = true then
      if (m.1 31 x2.toNatClampNeg) = (m.1 31 s0.toNatClampNeg) then
        k2 x1 (x2 + (1 : Int32)) m
      else
        some ((0 : Int32), m)
    else none
  else none
def f_Frieze_isSameTurned_b2 : Nat → Int32 → Int32 → am_Mm → Option (Int32 × am_Mm)
  | 0, _, _, _ => none
  | n + 1, x1, x2, m =>
    if (m.1 30 2) ≤ x2 then
      some ((1 : Int32), m)
    else
      if (m.1 30 2) ≤ (x2 + x1) then
        f_Frieze_isSameTurned_b34 (f_Frieze_isSameTurned_b2 n) x1 x2 ((x2 + x1) - (m.1 30 2)) m
      else
        f_Frieze_isSameTurned_b34 (f_Frieze_isSameTurned_b2 n) x1 x2 (x2 + x1) m
def f_Frieze_isSameTurned (x1 : Int32) (m : am_Mm) : Option (Int32 × am_Mm) :=
  f_Frieze_isSameTurned_b2 am_F x1 (0 : Int32) m
set_option maxHeartbeats 4000000 in
set_option maxRecDepth 100000 in
theorem f_Frieze_isSameTurned_b34_ok {ro : am_Ro} {d : Nat} (hd : 1 ≤ d + 1) {k2 : Int32 → Int32 → am_Mm → Option (Int32 × am_Mm)} (hk2 : ∀ (x1 : Int32) (x2 : Int32) (m m' : am_Mm) (r : Int32), k2 x1 x2 m = some (r, m') → am_AW am_nw ro (d + 1) mr_Frieze_isSameTurned 2 [some (.ref 30), some (.int x1), some (.int x2), none] [] (S0, m) (some (.int r)) (S0, m')) (x1 : Int32) (x2 : Int32) (s0 : Int32) {m m' : am_Mm} {r : Int32} (h : f_Frieze_isSameTurned_b34 k2 x1 x2 s0 m = some (r, m')) : am_AW am_nw ro (d + 1) mr_Frieze_isSameTurned 34 [some (.ref 30), some (.int x1), some (.int x2), none] [.int s0] (S0, m) (some (.int r)) (S0, m') := by
  unfold f_Frieze_isSameTurned_b34 at h
  refine am_AW.run am_base_ok ok_Frieze_isSameTurned (Nat.le_add_left 1 d) 4 (pc1 := 40) (ls1 := [some (.ref 30), some (.int x1), some (.int x2), some (.int s0)]) (st1 := [.int x2, .ref 31]) (σ1 := (S0, m)) rfl ?_
  by_cases g3 : am_in x2 9 = true
  rotate_left
  · rw [if_neg g3] at h
    cases h
  rw [if_pos g3] at h
  refine am_AW.iald ok_Frieze_isSameTurned (Nat.le_add_left 1 d) S0_len rfl rfl g3 ?_
  refine am_AW.run am_base_ok ok_Frieze_isSameTurned (Nat.le_add_left 1 d) 3 (pc1 := 46) (ls1 := [some (.ref 30), some (.int x1), some (.int x2), some (.int s0)]) (st1 := [.int s0, .ref 31, .int (m.1 31 x2.toNatClampNeg)]) (σ1 := (S0, m)) rfl ?_
  by_cases g4 : am_in s0 9 = true
  rotate_left
  · rw [if_neg g4] at h
    cases h
  rw [if_pos g4] at h
  refine am_AW.iald ok_Frieze_isSameTurned (Nat.le_add_left 1 d) S0_len rfl rfl g4 ?_
  refine am_AW.brP ok_Frieze_isSameTurned rfl rfl am_c_eq (fun c5 => ?_) (fun c5 => ?_)
  · rw [if_pos c5] at h
    refine am_AW.run am_base_ok ok_Frieze_isSameTurned (Nat.le_add_left 1 d) 2 (pc1 := 2) (ls1 := [some (.ref 30), some (.int x1), some (.int (x2 + (1 : Int32))), some (.int s0)]) (st1 := []) (σ1 := (S0, m)) rfl ?_
    exact am_AW.weak (hk2 x1 (x2 + (1 : Int32))  _ _ _ h) (by simp only [am_le, and_self])
  · rw [if_neg c5] at h
    refine am_AW.run am_base_ok ok_Frieze_isSameTurned (Nat.le_add_left 1 d) 1 (pc1 := 51) (ls1 := [some (.ref 30), some (.int x1), some (.int x2), some (.int s0)]) (st1 := [.int (0 : Int32)]) (σ1 := (S0, m)) rfl ?_
    obtain ⟨rfl, rfl⟩ := Prod.mk.inj (Option.some.inj h)
    exact am_AW.ret ok_Frieze_isSameTurned rfl rfl rfl (by decide)
set_option maxHeartbeats 4000000 in
set_option maxRecDepth 100000 in
theorem f_Frieze_isSameTurned_b2_all {ro : am_Ro} {d : Nat} (hd : 1 ≤ d + 1) : ∀ (n : Nat) (x1 : Int32) (x2 : Int32) (m m' : am_Mm) (r : Int32), f_Frieze_isSameTurned_b2 n x1 x2 m = some (r, m') → am_AW am_nw ro (d + 1) mr_Frieze_isSameTurned 2 [some (.ref 30), some (.int x1), some (.int x2), none] [] (S0, m) (some (.int r)) (S0, m') := by
  intro n
  induction n with
  | zero =>
    intro x1 x2 m m' r h
    rw [f_Frieze_isSameTurned_b2] at h
    cases h
  | succ n ih =>
    intro x1 x2 m m' r h
    rw [f_Frieze_isSameTurned_b2] at h
    refine am_AW.run am_base_ok ok_Frieze_isSameTurned (Nat.le_add_left 1 d) 3 (pc1 := 7) (ls1 := [some (.ref 30), some (.int x1), some (.int x2), none]) (st1 := [.int (m.1 30 2), .int x2]) (σ1 := (S0, m)) rfl ?_
    refine am_AW.brP ok_Frieze_isSameTurned rfl rfl am_c_ge (fun c1 => ?_) (fun c1 => ?_)
    · rw [if_pos c1] at h
      refine am_AW.run am_base_ok ok_Frieze_isSameTurned (Nat.le_add_left 1 d) 1 (pc1 := 59) (ls1 := [some (.ref 30), some (.int x1), some (.int x2), none]) (st1 := [.int (1 : Int32)]) (σ1 := (S0, m)) rfl ?_
      obtain ⟨rfl, rfl⟩ := Prod.mk.inj (Option.some.inj h)
      exact am_AW.ret ok_Frieze_isSameTurned rfl rfl rfl (by decide)
    · rw [if_neg c1] at h
      refine am_AW.run am_base_ok ok_Frieze_isSameTurned (Nat.le_add_left 1 d) 5 (pc1 := 17) (ls1 := [some (.ref 30), some (.int x1), some (.int x2), none]) (st1 := [.int (m.1 30 2), .int (x2 + x1)]) (σ1 := (S0, m)) rfl ?_
      refine am_AW.brP ok_Frieze_isSameTurned rfl rfl am_c_ge (fun c2 => ?_) (fun c2 => ?_)
      · rw [if_pos c2] at h
        refine am_AW.run am_base_ok ok_Frieze_isSameTurned (Nat.le_add_left 1 d) 6 (pc1 := 34) (ls1 := [some (.ref 30), some (.int x1), some (.int x2), none]) (st1 := [.int ((x2 + x1) - (m.1 30 2))]) (σ1 := (S0, m)) rfl ?_
        exact am_AW.weak (f_Frieze_isSameTurned_b34_ok hd (ih) x1 x2 ((x2 + x1) - (m.1 30 2))  h) (by simp only [am_le, and_self])
      · rw [if_neg c2] at h
        refine am_AW.run am_base_ok ok_Frieze_isSameTurned (Nat.le_add_left 1 d) 4 (pc1 := 34) (ls1 := [some (.ref 30), some (.int x1), some (.int x2), none]) (st1 := [.int (x2 + x1)]) (σ1 := (S0, m)) rfl ?_
        exact am_AW.weak (f_Frieze_isSameTurned_b34_ok hd (ih) x1 x2 (x2 + x1)  h) (by simp only [am_le, and_self])
set_option maxHeartbeats 4000000 in
set_option maxRecDepth 100000 in
theorem f_Frieze_isSameTurned_b2_ok {ro : am_Ro} {d : Nat} (hd : 1 ≤ d + 1) (x1 : Int32) (x2 : Int32) {m m' : am_Mm} {r : Int32} {n : Nat} (h : f_Frieze_isSameTurned_b2 n x1 x2 m = some (r, m')) : am_AW am_nw ro (d + 1) mr_Frieze_isSameTurned 2 [some (.ref 30), some (.int x1), some (.int x2), none] [] (S0, m) (some (.int r)) (S0, m') :=
  f_Frieze_isSameTurned_b2_all hd n x1 x2  m m' r h
set_option maxHeartbeats 4000000 in
set_option maxRecDepth 100000 in
theorem f_Frieze_isSameTurned_ok {ro : am_Ro} {d : Nat} (hd : 1 ≤ d) (x1 : Int32) {m m' : am_Mm} {r : Int32} (h : f_Frieze_isSameTurned x1 m = some (r, m')) : am_Mt am_nw ro d mr_Frieze_isSameTurned [.ref 30, .int x1] (S0, m) (some (.int r)) (S0, m') := by
  obtain ⟨d, rfl⟩ : ∃ d0, d = d0 + 1 := ⟨d - 1, by omega⟩
  refine am_Mt.of (by decide +kernel) (Nat.le_of_ble_eq_true rfl) ?_
  change am_AW am_nw ro (d + 1) mr_Frieze_isSameTurned 0 [some (.ref 30), some (.int x1), none, none] [] (S0, m) (some (.int r)) (S0, m')
  unfold f_Frieze_isSameTurned at h
  refine am_AW.run am_base_ok ok_Frieze_isSameTurned (Nat.le_add_left 1 d) 2 (pc1 := 2) (ls1 := [some (.ref 30), some (.int x1), some (.int (0 : Int32)), none]) (st1 := []) (σ1 := (S0, m)) rfl ?_
  exact am_AW.weak (f_Frieze_isSameTurned_b2_ok hd x1 (0 : Int32)  h) (by simp only [am_le, and_self])
/-! FriezePolygons$Frieze.hasSuch(Z)Z -/
def f_Frieze_hasSuch_b41 (k2 : Int32 → Int32 → am_Mm → Option (Int32 × am_Mm)) (x1 : Int32) (x2 : Int32) (m : am_Mm) : Option (Int32 × am_Mm) :=
  k2 x1 (x2 + (1 : Int32)) m
def f_Frieze_hasSuch_b2 : Nat → Int32 → Int32 → am_Mm → Option (Int32 × am_Mm)
  | 0, _, _, _ => none
  | n + 1, x1, x2, m =>
    if (m.1 30 2) ≤ x2 then
      some ((0 : Int32), m)
    else
      if x1 = (0 : Int32) then
        if am_in x2 21 = true then
          if (0 : Int32) ≤ (lg_cmp (m.2 32 x2.toNatClampNeg) (0 : Int64)) then
            f_Frieze_hasSuch_b41 (f_Frieze_hasSuch_b2 n) x1 x2 m
          else
            some ((1 : Int32), m)
        else none
      else
        if am_in x2 21 = true then
          if (lg_cmp (m.2 32 x2.toNatClampNeg) (0 : Int64)) = (0 : Int32) then
            some ((1 : Int32), m)
          else
            f_Frieze_hasSuch_b41 (f_Frieze_hasSuch_b2 n) x1 x2 m
        else none
def f_Frieze_hasSuch (x1 : Int32) (m : am_Mm) : Option (Int32 × am_Mm) :=
  f_Frieze_hasSuch_b2 am_F x1 (1 : Int32) m
set_option maxHeartbeats 4000000 in
set_option maxRecDepth 100000 in
theorem f_Frieze_hasSuch_b41_ok {ro : am_Ro} {d : Nat} (hd : 1 ≤ d + 1) {k2 : Int32 → Int32 → am_Mm → Option (Int32 × am_Mm)} (hk2 : ∀ (x1 : Int32) (x2 : Int32) (m m' : am_Mm) (r : Int32), k2 x1 x2 m = some (r, m') → am_AW am_nw ro (d + 1) mr_Frieze_hasSuch 2 [some (.ref 30), some (.int x1), some (.int x2)] [] (S0, m) (some (.int r)) (S0, m')) (x1 : Int32) (x2 : Int32) {m m' : am_Mm} {r : Int32} (h : f_Frieze_hasSuch_b41 k2 x1 x2 m = some (r, m')) : am_AW am_nw ro (d + 1) mr_Frieze_hasSuch 41 [some (.ref 30), some (.int x1), some (.int x2)] [] (S0, m) (some (.int r)) (S0, m') := by
  unfold f_Frieze_hasSuch_b41 at h
  refine am_AW.run am_base_ok ok_Frieze_hasSuch (Nat.le_add_left 1 d) 2 (pc1 := 2) (ls1 := [some (.ref 30), some (.int x1), some (.int (x2 + (1 : Int32)))]) (st1 := []) (σ1 := (S0, m)) rfl ?_
  exact am_AW.weak (hk2 x1 (x2 + (1 : Int32))  _ _ _ h) (by simp only [am_le, and_self])
set_option maxHeartbeats 4000000 in
set_option maxRecDepth 100000 in
theorem f_Frieze_hasSuch_b2_all {ro : am_Ro} {d : Nat} (hd : 1 ≤ d + 1) : ∀ (n : Nat) (x1 : Int32) (x2 : Int32) (m m' : am_Mm) (r : Int32), f_Frieze_hasSuch_b2 n x1 x2 m = some (r, m') → am_AW am_nw ro (d + 1) mr_Frieze_hasSuch 2 [some (.ref 30), some (.int x1), some (.int x2)] [] (S0, m) (some (.int r)) (S0, m') := by
  intro n
  induction n with
  | zero =>
    intro x1 x2 m m' r h
    rw [f_Frieze_hasSuch_b2] at h
    cases h
  | succ n ih =>
    intro x1 x2 m m' r h
    rw [f_Frieze_hasSuch_b2] at h
    refine am_AW.run am_base_ok ok_Frieze_hasSuch (Nat.le_add_left 1 d) 3 (pc1 := 7) (ls1 := [some (.ref 30), some (.int x1), some (.int x2)]) (st1 := [.int (m.1 30 2), .int x2]) (σ1 := (S0, m)) rfl ?_
    refine am_AW.brP ok_Frieze_hasSuch rfl rfl am_c_ge (fun c1 => ?_) (fun c1 => ?_)
    · rw [if_pos c1] at h
      refine am_AW.run am_base_ok ok_Frieze_hasSuch (Nat.le_add_left 1 d) 1 (pc1 := 48) (ls1 := [some (.ref 30), some (.int x1), some (.int x2)]) (st1 := [.int (0 : Int32)]) (σ1 := (S0, m)) rfl ?_
      obtain ⟨rfl, rfl⟩ := Prod.mk.inj (Option.some.inj h)
      exact am_AW.ret ok_Frieze_hasSuch rfl rfl rfl (by decide)
    · rw [if_neg c1] at h
      refine am_AW.run am_base_ok ok_Frieze_hasSuch (Nat.le_add_left 1 d) 1 (pc1 := 11) (ls1 := [some (.ref 30), some (.int x1), some (.int x2)]) (st1 := [.int x1]) (σ1 := (S0, m)) rfl ?_
      refine am_AW.brP ok_Frieze_hasSuch rfl rfl am_c_eq (fun c2 => ?_) (fun c2 => ?_)
      · rw [if_pos c2] at h
        refine am_AW.run am_base_ok ok_Frieze_hasSuch (Nat.le_add_left 1 d) 3 (pc1 := 33) (ls1 := [some (.ref 30), some (.int x1), some (.int x2)]) (st1 := [.int x2, .ref 32]) (σ1 := (S0, m)) rfl ?_
        by_cases g3 : am_in x2 21 = true
        rotate_left
        · rw [if_neg g3] at h
          cases h
        rw [if_pos g3] at h
        refine am_AW.lald ok_Frieze_hasSuch (Nat.le_add_left 1 d) rfl rfl g3 ?_
        refine am_AW.run am_base_ok ok_Frieze_hasSuch (Nat.le_add_left 1 d) 2 (pc1 := 36) (ls1 := [some (.ref 30), some (.int x1), some (.int x2)]) (st1 := [.int (lg_cmp (m.2 32 x2.toNatClampNeg) (0 : Int64))]) (σ1 := (S0, m)) rfl ?_
        refine am_AW.brP ok_Frieze_hasSuch rfl rfl am_c_ge (fun c4 => ?_) (fun c4 => ?_)
        · rw [if_pos c4] at h
          exact am_AW.weak (f_Frieze_hasSuch_b41_ok hd (ih) x1 x2  h) (by simp only [am_le, and_self])
        · rw [if_neg c4] at h
          refine am_AW.run am_base_ok ok_Frieze_hasSuch (Nat.le_add_left 1 d) 1 (pc1 := 40) (ls1 := [some (.ref 30), some (.int x1), some (.int x2)]) (st1 := [.int (1 : Int32)]) (σ1 := (S0, m)) rfl ?_
          obtain ⟨rfl, rfl⟩ := Prod.mk.inj (Option.some.inj h)
          exact am_AW.ret ok_Frieze_hasSuch rfl rfl rfl (by decide)
      · rw [if_neg c2] at h
        refine am_AW.run am_base_ok ok_Frieze_hasSuch (Nat.le_add_left 1 d) 3 (pc1 := 19) (ls1 := [some (.ref 30), some (.int x1), some (.int x2)]) (st1 := [.int x2, .ref 32]) (σ1 := (S0, m)) rfl ?_
        by_cases g5 : am_in x2 21 = true
        rotate_left
        · rw [if_neg g5] at h
          cases h
        rw [if_pos g5] at h
        refine am_AW.lald ok_Frieze_hasSuch (Nat.le_add_left 1 d) rfl rfl g5 ?_
        refine am_AW.run am_base_ok ok_Frieze_hasSuch (Nat.le_add_left 1 d) 2 (pc1 := 22) (ls1 := [some (.ref 30), some (.int x1), some (.int x2)]) (st1 := [.int (lg_cmp (m.2 32 x2.toNatClampNeg) (0 : Int64))]) (σ1 := (S0, m)) rfl ?_
        refine am_AW.brN ok_Frieze_hasSuch rfl rfl am_c_ne (fun c6 => ?_) (fun c6 => ?_)
        · rw [if_pos c6] at h
          refine am_AW.run am_base_ok ok_Frieze_hasSuch (Nat.le_add_left 1 d) 2 (pc1 := 40) (ls1 := [some (.ref 30), some (.int x1), some (.int x2)]) (st1 := [.int (1 : Int32)]) (σ1 := (S0, m)) rfl ?_
          obtain ⟨rfl, rfl⟩ := Prod.mk.inj (Option.some.inj h)
          exact am_AW.ret ok_Frieze_hasSuch rfl rfl rfl (by decide)
        · rw [if_neg c6] at h
          exact am_AW.weak (f_Frieze_hasSuch_b41_ok hd (ih) x1 x2  h) (by simp only [am_le, and_self])
set_option maxHeartbeats 4000000 in
set_option maxRecDepth 100000 in
theorem f_Frieze_hasSuch_b2_ok {ro : am_Ro} {d : Nat} (hd : 1 ≤ d + 1) (x1 : Int32) (x2 : Int32) {m m' : am_Mm} {r : Int32} {n : Nat} (h : f_Frieze_hasSuch_b2 n x1 x2 m = some (r, m')) : am_AW am_nw ro (d + 1) mr_Frieze_hasSuch 2 [some (.ref 30), some (.int x1), some (.int x2)] [] (S0, m) (some (.int r)) (S0, m') :=
  f_Frieze_hasSuch_b2_all hd n x1 x2  m m' r h
set_option maxHeartbeats 4000000 in
set_option maxRecDepth 100000 in
theorem f_Frieze_hasSuch_ok {ro : am_Ro} {d : Nat} (hd : 1 ≤ d) (x1 : Int32) {m m' : am_Mm} {r : Int32} (h : f_Frieze_hasSuch x1 m = some (r, m')) : am_Mt am_nw ro d mr_Frieze_hasSuch [.ref 30, .int x1] (S0, m) (some (.int r)) (S0, m') := by
  obtain ⟨d, rfl⟩ : ∃ d0, d = d0 + 1 := ⟨d - 1, by omega⟩
  refine am_Mt.of (by decide +kernel) (Nat.le_of_ble_eq_true rfl) ?_
  change am_AW am_nw ro (d + 1) mr_Frieze_hasSuch 0 [some (.ref 30), some (.int x1), none] [] (S0, m) (some (.int r)) (S0, m')
  unfold f_Frieze_hasSuch at h
  refine am_AW.run am_base_ok ok_Frieze_hasSuch (Nat.le_add_left 1 d) 2 (pc1 := 2) (ls1 := [some (.ref 30), some (.int x1), some (.int (1 : Int32))]) (st1 := []) (σ1 := (S0, m)) rfl ?_
  exact am_AW.weak (f_Frieze_hasSuch_b2_ok hd x1 (1 : Int32)  h) (by simp only [am_le, and_self])
/-! FriezePolygons$Frieze.sumOf(I)I -/
def f_Frieze_sumOf_b30 (k4 : Int32 → Int32 → Int32 → am_Mm → Option (Int32 × am_Mm)) (x1 : Int32) (x2 : Int32) (x3 : Int32) (m : am_Mm) : Option (Int32 × am_Mm) :=
  k4 x1 x2 (x3 + (1 : Int32)) m
def f_Frieze_sumOf_b4 : Nat → Int32 → Int32 → Int32 → am_Mm → Option (Int32 × am_Mm)
  | 0, _, _, _, _ => none
  | n + 1, x1, x2, x3, m =>
    if (m.1 30 2) ≤ x3 then
      some (x2, m)
    else
      if ((am_shr x1 x3) &&& (1 : Int32)) = (1 : Int32) then
        if am_in x3 9 = true then
          f_Frieze_sumOf_b30 (f_Frieze_sumOf_b4 n) x1 (x2 + (m.1 31 x3.toNatClampNeg)) x3 m
        else none
      else
        f_Frieze_sumOf_b30 (f_Frieze_sumOf_b4 n) x1 x2 x3 m
def f_Frieze_sumOf (x1 : Int32) (m : am_Mm) : Option (Int32 × am_Mm) :=
  f_Frieze_sumOf_b4 am_F x1 (0 : Int32) (0 : Int32) m
set_option maxHeartbeats 4000000 in
set_option maxRecDepth 100000 in
theorem f_Frieze_sumOf_b30_ok {ro : am_Ro} {d : Nat} (hd : 1 ≤ d + 1) {k4 : Int32 → Int32 → Int32 → am_Mm → Option (Int32 × am_Mm)} (hk4 : ∀ (x1 : Int32) (x2 : Int32) (x3 : Int32) (m m' : am_Mm) (r : Int32), k4 x1 x2 x3 m = some (r, m') → am_AW am_nw ro (d + 1) mr_Frieze_sumOf 4 [some (.ref 30), some (.int x1), some (.int x2), some (.int x3)] [] (S0, m) (some (.int r)) (S0, m')) (x1 : Int32) (x2 : Int32) (x3 : Int32) {m m' : am_Mm} {r : Int32} (h : f_Frieze_sumOf_b30 k4 x1 x2 x3 m = some (r, m')) : am_AW am_nw ro (d + 1) mr_Frieze_sumOf 30 [some (.ref 30), some (.int x1), some (.int x2), some (.int x3)] [] (S0, m) (some (.int r)) (S0, m') := by
  unfold f_Frieze_sumOf_b30 at h
  refine am_AW.run am_base_ok ok_Frieze_sumOf (Nat.le_add_left 1 d) 2 (pc1 := 4) (ls1 := [some (.ref 30), some (.int x1), some (.int x2), some (.int (x3 + (1 : Int32)))]) (st1 := []) (σ1 := (S0, m)) rfl ?_
  exact am_AW.weak (hk4 x1 x2 (x3 + (1 : Int32))  _ _ _ h) (by simp only [am_le, and_self])
set_option maxHeartbeats 4000000 in
set_option maxRecDepth 100000 in
theorem f_Frieze_sumOf_b4_all {ro : am_Ro} {d : Nat} (hd : 1 ≤ d + 1) : ∀ (n : Nat) (x1 : Int32) (x2 : Int32) (x3 : Int32) (m m' : am_Mm) (r : Int32), f_Frieze_sumOf_b4 n x1 x2 x3 m = some (r, m') → am_AW am_nw ro (d + 1) mr_Frieze_sumOf 4 [some (.ref 30), some (.int x1), some (.int x2), some (.int x3)] [] (S0, m) (some (.int r)) (S0, m') := by
  intro n
  induction n with
  | zero =>
    intro x1 x2 x3 m m' r h
    rw [f_Frieze_sumOf_b4] at h
    cases h
  | succ n ih =>
    intro x1 x2 x3 m m' r h
    rw [f_Frieze_sumOf_b4] at h
    refine am_AW.run am_base_ok ok_Frieze_sumOf (Nat.le_add_left 1 d) 3 (pc1 := 9) (ls1 := [some (.ref 30), some (.int x1), some (.int x2), some (.int x3)]) (st1 := [.int (m.1 30 2), .int x3]) (σ1 := (S0, m)) rfl ?_
    refine am_AW.brP ok_Frieze_sumOf rfl rfl am_c_ge (fun c1 => ?_) (fun c1 => ?_)
    · rw [if_pos c1] at h
      refine am_AW.run am_base_ok ok_Frieze_sumOf (Nat.le_add_left 1 d) 1 (pc1 := 37) (ls1 := [some (.ref 30), some (.int x1), some (.int x2), some (.int x3)]) (st1 := [.int x2]) (σ1 := (S0, m)) rfl ?_
      obtain ⟨rfl, rfl⟩ := Prod.mk.inj (Option.some.inj h)
      exact am_AW.ret ok_Frieze_sumOf rfl rfl rfl rfl
    · rw [if_neg c1] at h
      refine am_AW.run am_base_ok ok_Frieze_sumOf (Nat.le_add_left 1 d) 6 (pc1 := 18) (ls1 := [some (.ref 30), some (.int x1), some (.int x2), some (.int x3)]) (st1 := [.int (1 : Int32), .int ((am_shr x1 x3) &&& (1 : Int32))]) (σ1 := (S0, m)) rfl ?_
      refine am_AW.brN ok_Frieze_sumOf rfl rfl am_c_ne (fun c2 => ?_) (fun c2 => ?_)
      · rw [if_pos c2] at h
        refine am_AW.run am_base_ok ok_Frieze_sumOf (Nat.le_add_left 1 d) 4 (pc1 := 27) (ls1 := [some (.ref 30), some (.int x1), some (.int x2), some (.int x3)]) (st1 := [.int x3, .ref 31, .int x2]) (σ1 := (S0, m)) rfl ?_
        by_cases g3 : am_in x3 9 = true
        rotate_left
        · rw [if_neg g3] at h
          cases h
        rw [if_pos g3] at h
        refine am_AW.iald ok_Frieze_sumOf (Nat.le_add_left 1 d) S0_len rfl rfl g3 ?_
        refine am_AW.run am_base_ok ok_Frieze_sumOf (Nat.le_add_left 1 d) 2 (pc1 := 30) (ls1 := [some (.ref 30), some (.int x1), some (.int (x2 + (m.1 31 x3.toNatClampNeg))), some (.int x3)]) (st1 := []) (σ1 := (S0, m)) rfl ?_
        exact am_AW.weak (f_Frieze_sumOf_b30_ok hd (ih) x1 (x2 + (m.1 31 x3.toNatClampNeg)) x3  h) (by simp only [am_le, and_self])
      · rw [if_neg c2] at h
        exact am_AW.weak (f_Frieze_sumOf_b30_ok hd (ih) x1 x2 x3  h) (by simp only [am_le, and_self])
set_option maxHeartbeats 4000000 in
set_option maxRecDepth 100000 in
theorem f_Frieze_sumOf_b4_ok {ro : am_Ro} {d : Nat} (hd : 1 ≤ d + 1) (x1 : Int32) (x2 : Int32) (x3 : Int32) {m m' : am_Mm} {r : Int32} {n : Nat} (h : f_Frieze_sumOf_b4 n x1 x2 x3 m = some (r, m')) : am_AW am_nw ro (d + 1) mr_Frieze_sumOf 4 [some (.ref 30), some (.int x1), some (.int x2), some (.int x3)] [] (S0, m) (some (.int r)) (S0, m') :=
  f_Frieze_sumOf_b4_all hd n x1 x2 x3  m m' r h
set_option maxHeartbeats 4000000 in
set_option maxRecDepth 100000 in
theorem f_Frieze_sumOf_ok {ro : am_Ro} {d : Nat} (hd : 1 ≤ d) (x1 : Int32) {m m' : am_Mm} {r : Int32} (h : f_Frieze_sumOf x1 m = some (r, m')) : am_Mt am_nw ro d mr_Frieze_sumOf [.ref 30, .int x1] (S0, m) (some (.int r)) (S0, m') := by
  obtain ⟨d, rfl⟩ : ∃ d0, d = d0 + 1 := ⟨d - 1, by omega⟩
  refine am_Mt.of (by decide +kernel) (Nat.le_of_ble_eq_true rfl) ?_
  change am_AW am_nw ro (d + 1) mr_Frieze_sumOf 0 [some (.ref 30), some (.int x1), none, none] [] (S0, m) (some (.int r)) (S0, m')
  unfold f_Frieze_sumOf at h
  refine am_AW.run am_base_ok ok_Frieze_sumOf (Nat.le_add_left 1 d) 4 (pc1 := 4) (ls1 := [some (.ref 30), some (.int x1), some (.int (0 : Int32)), some (.int (0 : Int32))]) (st1 := []) (σ1 := (S0, m)) rfl ?_
  exact am_AW.weak (f_Frieze_sumOf_b4_ok hd x1 (0 : Int32) (0 : Int32)  h) (by simp only [am_le, and_self])
/-! FriezePolygons$Ring.crossing(II)I -/
def f_Ring_crossing_b142 (k5 : Nat → Int32 → Int32 → Int32 → Int32 → am_Mm → Option (Int32 × am_Mm)) (p0 : Nat) (x1 : Int32) (x2 : Int32) (x3 : Int32) (x4 : Int32) (m : am_Mm) : Option (Int32 × am_Mm) :=
  k5 p0 x1 x2 x3 (x4 + (1 : Int32)) m
def f_Ring_crossing_b121 (k5 : Nat → Int32 → Int32 → Int32 → Int32 → am_Mm → Option (Int32 × am_Mm)) (p0 : Nat) (x1 : Int32) (x2 : Int32) (x3 : Int32) (x4 : Int32) (x5 : Int32) (x6 : Int32) (s0 : Int32) (m : am_Mm) : Option (Int32 × am_Mm) :=
  if s0 = (0 : Int32) then
    f_Ring_crossing_b142 k5 p0 x1 x2 x3 x4 m
  else
    if x5 = x6 then
      f_Ring_crossing_b142 k5 p0 x1 x2 x3 x4 m
    else
      f_Ring_crossing_b142 k5 p0 x1 x2 (x3 ||| (am_shl (1 : Int32) x4)) x4 m
def f_Ring_crossing_b70 (k5 : Nat → Int32 → Int32 → Int32 → Int32 → am_Mm → Option (Int32 × am_Mm)) (p0 : Nat) (x1 : Int32) (x2 : Int32) (x3 : Int32) (x4 : Int32) (x5 : Int32) (s0 : Int32) (m : am_Mm) : Option (Int32 × am_Mm) :=
  if am_in x4 27 = true then
    if (m.1 (p0 + 1) x4.toNatClampNeg) = x1 then
      f_Ring_crossing_b121 k5 p0 x1 x2 x3 x4 x5 s0 (0 : Int32) m
    else
      if am_in x4 27 = true then
        if (m.1 (p0 + 1) x4.toNatClampNeg) = x2 then
          f_Ring_crossing_b121 k5 p0 x1 x2 x3 x4 x5 s0 (0 : Int32) m
        else
          if am_in x4 27 = true then
            if (m.1 (p0 + 2) x4.toNatClampNeg) = x1 then
              f_Ring_crossing_b121 k5 p0 x1 x2 x3 x4 x5 s0 (0 : Int32) m
            else
              if am_in x4 27 = true then
                if (m.1 (p0 + 2) x4.toNatClampNeg) = x2 then
                  f_Ring_crossing_b121 k5 p0 x1 x2 x3 x4 x5 s0 (0 : Int32) m
                else
                  f_Ring_crossing_b121 k5 p0 x1 x2 x3 x4 x5 s0 (1 : Int32) m
              else none
          else none
      else none
  else none
def f_Ring_crossing_b41 (k5 : Nat → Int32 → Int32 → Int32 → Int32 → am_Mm → Option (Int32 × am_Mm)) (p0 : Nat) (x1 : Int32) (x2 : Int32) (x3 : Int32) (x4 : Int32) (s0 : Int32) (m : am_Mm) : Option (Int32 × am_Mm) :=
  if am_in x4 27 = true then
    if (m.1 (p0 + 2) x4.toNatClampNeg) ≤ x1 then
      f_Ring_crossing_b70 k5 p0 x1 x2 x3 x4 s0 (0 : Int32) m
    else
      if am_in x4 27 = true then
        if x2 ≤ (m.1 (p0 + 2) x4.toNatClampNeg) then
          f_Ring_crossing_b70 k5 p0 x1 x2 x3 x4 s0 (0 : Int32) m
        else
          f_Ring_crossing_b70 k5 p0 x1 x2 x3 x4 s0 (1 : Int32) m
      else none
  else none
def f_Ring_crossing_b5 : Nat → Nat → Int32 → Int32 → Int32 → Int32 → am_Mm → Option (Int32 × am_Mm)
  | 0, _, _, _, _, _, _ => none
  | n + 1, p0, x1, x2, x3, x4, m =>
    if (m.1 p0 6) ≤ x4 then
      some (x3, m)
    else
      if am_in x4 27 = true then
        if (m.1 (p0 + 1) x4.toNatClampNeg) ≤ x1 then
          f_Ring_crossing_b41 (f_Ring_crossing_b5 n) p0 x1 x2 x3 x4 (0 : Int32) m
        else
          if am_in x4 27 = true then
            if x2 ≤ (m.1 (p0 + 1) x4.toNatClampNeg) then
              f_Ring_crossing_b41 (f_Ring_crossing_b5 n) p0 x1 x2 x3 x4 (0 : Int32) m
            else
              f_Ring_crossing_b41 (f_Ring_crossing_b5 n) p0 x1 x2 x3 x4 (1 : Int32) m
          else none
      else none
def f_Ring_crossing (p0 : Nat) (x1 : Int32) (x2 : Int32) (m : am_Mm) : Option (Int32 × am_Mm) :=
  f_Ring_crossing_b5 am_F p0 x1 x2 (0 : Int32) (0 : Int32) m
set_option maxHeartbeats 4000000 in
set_option maxRecDepth 100000 in
theorem f_Ring_crossing_b142_ok {ro : am_Ro} {d : Nat} (hd : 1 ≤ d + 1) {k5 : Nat → Int32 → Int32 → Int32 → Int32 → am_Mm → Option (Int32 × am_Mm)} (hk5 : ∀ (p0 : Nat) (x1 : Int32) (x2 : Int32) (x3 : Int32) (x4 : Int32) (hp0 : p0 = 6 ∨ p0 = 20) (m m' : am_Mm) (r : Int32), k5 p0 x1 x2 x3 x4 m = some (r, m') → am_AW am_nw ro (d + 1) mr_Ring_crossing 5 [some (.ref p0), some (.int x1), some (.int x2), some (.int x3), some (.int x4), none, none, none] [] (S0, m) (some (.int r)) (S0, m')) (p0 : Nat) (x1 : Int32) (x2 : Int32) (x3 : Int32) (x4 : Int32) (hp0 : p0 = 6 ∨ p0 = 20) {m m' : am_Mm} {r : Int32} (h : f_Ring_crossing_b142 k5 p0 x1 x2 x3 x4 m = some (r, m')) : am_AW am_nw ro (d + 1) mr_Ring_crossing 142 [some (.ref p0), some (.int x1), some (.int x2), some (.int x3), some (.int x4), none, none, none] [] (S0, m) (some (.int r)) (S0, m') := by
  unfold f_Ring_crossing_b142 at h
  refine am_AW.run am_base_ok ok_Ring_crossing (Nat.le_add_left 1 d) 2 (pc1 := 5) (ls1 := [some (.ref p0), some (.int x1), some (.int x2), some (.int x3), some (.int (x4 + (1 : Int32))), none, none, none]) (st1 := []) (σ1 := (S0, m)) rfl ?_
  exact am_AW.weak (hk5 p0 x1 x2 x3 (x4 + (1 : Int32)) hp0 _ _ _ h) (by simp only [am_le, and_self])
set_option maxHeartbeats 4000000 in
set_option maxRecDepth 100000 in
theorem f_Ring_crossing_b121_ok {ro : am_Ro} {d : Nat} (hd : 1 ≤ d + 1) {k5 : Nat → Int32 → Int32 → Int32 → Int32 → am_Mm → Option (Int32 × am_Mm)} (hk5 : ∀ (p0 : Nat) (x1 : Int32) (x2 : Int32) (x3 : Int32) (x4 : Int32) (hp0 : p0 = 6 ∨ p0 = 20) (m m' : am_Mm) (r : Int32), k5 p0 x1 x2 x3 x4 m = some (r, m') → am_AW am_nw ro (d + 1) mr_Ring_crossing 5 [some (.ref p0), some (.int x1), some (.int x2), some (.int x3), some (.int x4), none, none, none] [] (S0, m) (some (.int r)) (S0, m')) (p0 : Nat) (x1 : Int32) (x2 : Int32) (x3 : Int32) (x4 : Int32) (x5 : Int32) (x6 : Int32) (s0 : Int32) (hp0 : p0 = 6 ∨ p0 = 20) {m m' : am_Mm} {r : Int32} (h : f_Ring_crossing_b121 k5 p0 x1 x2 x3 x4 x5 x6 s0 m = some (r, m')) : am_AW am_nw ro (d + 1) mr_Ring_crossing 121 [some (.ref p0), some (.int x1), some (.int x2), some (.int x3), some (.int x4), some (.int x5), some (.int x6), none] [.int s0] (S0, m) (some (.int r)) (S0, m') := by
  unfold f_Ring_crossing_b121 at h
  refine am_AW.run am_base_ok ok_Ring_crossing (Nat.le_add_left 1 d) 2 (pc1 := 125) (ls1 := [some (.ref p0), some (.int x1), some (.int x2), some (.int x3), some (.int x4), some (.int x5), some (.int x6), some (.int s0)]) (st1 := [.int s0]) (σ1 := (S0, m)) rfl ?_
  refine am_AW.brP ok_Ring_crossing rfl rfl am_c_eq (fun c8 => ?_) (fun c8 => ?_)
  · rw [if_pos c8] at h
    exact am_AW.weak (f_Ring_crossing_b142_ok hd (hk5) p0 x1 x2 x3 x4 hp0 h) (by simp only [am_le, and_self])
  · rw [if_neg c8] at h
    refine am_AW.run am_base_ok ok_Ring_crossing (Nat.le_add_left 1 d) 2 (pc1 := 132) (ls1 := [some (.ref p0), some (.int x1), some (.int x2), some (.int x3), some (.int x4), some (.int x5), some (.int x6), some (.int s0)]) (st1 := [.int x6, .int x5]) (σ1 := (S0, m)) rfl ?_
    refine am_AW.brP ok_Ring_crossing rfl rfl am_c_eq (fun c9 => ?_) (fun c9 => ?_)
    · rw [if_pos c9] at h
      exact am_AW.weak (f_Ring_crossing_b142_ok hd (hk5) p0 x1 x2 x3 x4 hp0 h) (by simp only [am_le, and_self])
    · rw [if_neg c9] at h
      refine am_AW.run am_base_ok ok_Ring_crossing (Nat.le_add_left 1 d) 6 (pc1 := 142) (ls1 := [some (.ref p0), some (.int x1), some (.int x2), some (.int (x3 ||| (am_shl (1 : Int32) x4))), some (.int x4), some (.int x5), some (.int x6), some (.int s0)]) (st1 := []) (σ1 := (S0, m)) rfl ?_
      exact am_AW.weak (f_Ring_crossing_b142_ok hd (hk5) p0 x1 x2 (x3 ||| (am_shl (1 : Int32) x4)) x4 hp0 h) (by simp only [am_le, and_self])
set_option maxHeartbeats 4000000 in
set_option maxRecDepth 100000 in
theorem f_Ring_crossing_b70_ok {ro : am_Ro} {d : Nat} (hd : 1 ≤ d + 1) {k5 : Nat → Int32 → Int32 → Int32 → Int32 → am_Mm → Option (Int32 × am_Mm)} (hk5 : ∀ (p0 : Nat) (x1 : Int32) (x2 : Int32) (x3 : Int32) (x4 : Int32) (hp0 : p0 = 6 ∨ p0 = 20) (m m' : am_Mm) (r : Int32), k5 p0 x1 x2 x3 x4 m = some (r, m') → am_AW am_nw ro (d + 1) mr_Ring_crossing 5 [some (.ref p0), some (.int x1), some (.int x2), some (.int x3), some (.int x4), none, none, none] [] (S0, m) (some (.int r)) (S0, m')) (p0 : Nat) (x1 : Int32) (x2 : Int32) (x3 : Int32) (x4 : Int32) (x5 : Int32) (s0 : Int32) (hp0 : p0 = 6 ∨ p0 = 20) {m m' : am_Mm} {r : Int32} (h : f_Ring_crossing_b70 k5 p0 x1 x2 x3 x4 x5 s0 m = some (r, m')) : am_AW am_nw ro (d + 1) mr_Ring_crossing 70 [some (.ref p0), some (.int x1), some (.int x2), some (.int x3), some (.int x4), some (.int x5), none, none] [.int s0] (S0, m) (some (.int r)) (S0, m') := by
  unfold f_Ring_crossing_b70 at h
  refine am_AW.run am_base_ok ok_Ring_crossing (Nat.le_add_left 1 d) 2 (pc1 := 73) (ls1 := [some (.ref p0), some (.int x1), some (.int x2), some (.int x3), some (.int x4), some (.int x5), some (.int s0), none]) (st1 := [.ref p0]) (σ1 := (S0, m)) rfl ?_
  refine am_AW.getf ok_Ring_crossing (Nat.le_add_left 1 d) rfl (sh_6_20_0 hp0) rfl ?_
  refine am_AW.run am_base_ok ok_Ring_crossing (Nat.le_add_left 1 d) 1 (pc1 := 78) (ls1 := [some (.ref p0), some (.int x1), some (.int x2), some (.int x3), some (.int x4), some (.int x5), some (.int s0), none]) (st1 := [.int x4, .ref (p0 + 1)]) (σ1 := (S0, m)) rfl ?_
  by_cases g6 : am_in x4 27 = true
  rotate_left
  · rw [if_neg g6] at h
    cases h
  rw [if_pos g6] at h
  refine am_AW.iald ok_Ring_crossing (Nat.le_add_left 1 d) S0_len rfl (sh_6_20_1 hp0) g6 ?_
  refine am_AW.run am_base_ok ok_Ring_crossing (Nat.le_add_left 1 d) 1 (pc1 := 80) (ls1 := [some (.ref p0), some (.int x1), some (.int x2), some (.int x3), some (.int x4), some (.int x5), some (.int s0), none]) (st1 := [.int x1, .int (m.1 (p0 + 1) x4.toNatClampNeg)]) (σ1 := (S0, m)) rfl ?_
  refine am_AW.brP ok_Ring_crossing rfl rfl am_c_eq (fun c7 => ?_) (fun c7 => ?_)
  · rw [if_pos c7] at h
    refine am_AW.run am_base_ok ok_Ring_crossing (Nat.le_add_left 1 d) 1 (pc1 := 121) (ls1 := [some (.ref p0), some (.int x1), some (.int x2), some (.int x3), some (.int x4), some (.int x5), some (.int s0), none]) (st1 := [.int (0 : Int32)]) (σ1 := (S0, m)) rfl ?_
    exact am_AW.weak (f_Ring_crossing_b121_ok hd (hk5) p0 x1 x2 x3 x4 x5 s0 (0 : Int32) hp0 h) (by simp only [am_le, and_self])
  · rw [if_neg c7] at h
    refine am_AW.run am_base_ok ok_Ring_crossing (Nat.le_add_left 1 d) 1 (pc1 := 84) (ls1 := [some (.ref p0), some (.int x1), some (.int x2), some (.int x3), some (.int x4), some (.int x5), some (.int s0), none]) (st1 := [.ref p0]) (σ1 := (S0, m)) rfl ?_
    refine am_AW.getf ok_Ring_crossing (Nat.le_add_left 1 d) rfl (sh_6_20_0 hp0) rfl ?_
    refine am_AW.run am_base_ok ok_Ring_crossing (Nat.le_add_left 1 d) 1 (pc1 := 89) (ls1 := [some (.ref p0), some (.int x1), some (.int x2), some (.int x3), some (.int x4), some (.int x5), some (.int s0), none]) (st1 := [.int x4, .ref (p0 + 1)]) (σ1 := (S0, m)) rfl ?_
    by_cases g10 : am_in x4 27 = true
    rotate_left
    · rw [if_neg g10] at h
      cases h
    rw [if_pos g10] at h
    refine am_AW.iald ok_Ring_crossing (Nat.le_add_left 1 d) S0_len rfl (sh_6_20_1 hp0) g10 ?_
    refine am_AW.run am_base_ok ok_Ring_crossing (Nat.le_add_left 1 d) 1 (pc1 := 91) (ls1 := [some (.ref p0), some (.int x1), some (.int x2), some (.int x3), some (.int x4), some (.int x5), some (.int s0), none]) (st1 := [.int x2, .int (m.1 (p0 + 1) x4.toNatClampNeg)]) (σ1 := (S0, m)) rfl ?_
    refine am_AW.brP ok_Ring_crossing rfl rfl am_c_eq (fun c11 => ?_) (fun c11 => ?_)
    · rw [if_pos c11] at h
      refine am_AW.run am_base_ok ok_Ring_crossing (Nat.le_add_left 1 d) 1 (pc1 := 121) (ls1 := [some (.ref p0), some (.int x1), some (.int x2), some (.int x3), some (.int x4), some (.int x5), some (.int s0), none]) (st1 := [.int (0 : Int32)]) (σ1 := (S0, m)) rfl ?_
      exact am_AW.weak (f_Ring_crossing_b121_ok hd (hk5) p0 x1 x2 x3 x4 x5 s0 (0 : Int32) hp0 h) (by simp only [am_le, and_self])
    · rw [if_neg c11] at h
      refine am_AW.run am_base_ok ok_Ring_crossing (Nat.le_add_left 1 d) 1 (pc1 := 95) (ls1 := [some (.ref p0), some (.int x1), some (.int x2), some (.int x3), some (.int x4), some (.int x5), some (.int s0), none]) (st1 := [.ref p0]) (σ1 := (S0, m)) rfl ?_
      refine am_AW.getf ok_Ring_crossing (Nat.le_add_left 1 d) rfl (sh_6_20_0 hp0) rfl ?_
      refine am_AW.run am_base_ok ok_Ring_crossing (Nat.le_add_left 1 d) 1 (pc1 := 100) (ls1 := [some (.ref p0), some (.int x1), some (.int x2), some (.int x3), some (.int x4), some (.int x5), some (.int s0), none]) (st1 := [.int x4, .ref (p0 + 2)]) (σ1 := (S0, m)) rfl ?_
      by_cases g12 : am_in x4 27 = true
      rotate_left
      · rw [if_neg g12] at h
        cases h
      rw [if_pos g12] at h
      refine am_AW.iald ok_Ring_crossing (Nat.le_add_left 1 d) S0_len rfl (sh_6_20_2 hp0) g12 ?_
      refine am_AW.run am_base_ok ok_Ring_crossing (Nat.le_add_left 1 d) 1 (pc1 := 102) (ls1 := [some (.ref p0), some (.int x1), some (.int x2), some (.int x3), some (.int x4), some (.int x5), some (.int s0), none]) (st1 := [.int x1, .int (m.1 (p0 + 2) x4.toNatClampNeg)]) (σ1 := (S0, m)) rfl ?_
      refine am_AW.brP ok_Ring_crossing rfl rfl am_c_eq (fun c13 => ?_) (fun c13 => ?_)
      · rw [if_pos c13] at h
        refine am_AW.run am_base_ok ok_Ring_crossing (Nat.le_add_left 1 d) 1 (pc1 := 121) (ls1 := [some (.ref p0), some (.int x1), some (.int x2), some (.int x3), some (.int x4), some (.int x5), some (.int s0), none]) (st1 := [.int (0 : Int32)]) (σ1 := (S0, m)) rfl ?_
        exact am_AW.weak (f_Ring_crossing_b121_ok hd (hk5) p0 x1 x2 x3 x4 x5 s0 (0 : Int32) hp0 h) (by simp only [am_le, and_self])
      · rw [if_neg c13] at h
        refine am_AW.run am_base_ok ok_Ring_crossing (Nat.le_add_left 1 d) 1 (pc1 := 106) (ls1 := [some (.ref p0), some (.int x1), some (.int x2), some (.int x3), some (.int x4), some (.int x5), some (.int s0), none]) (st1 := [.ref p0]) (σ1 := (S0, m)) rfl ?_
        refine am_AW.getf ok_Ring_crossing (Nat.le_add_left 1 d) rfl (sh_6_20_0 hp0) rfl ?_
        refine am_AW.run am_base_ok ok_Ring_crossing (Nat.le_add_left 1 d) 1 (pc1 := 111) (ls1 := [some (.ref p0), some (.int x1), some (.int x2), some (.int x3), some (.int x4), some (.int x5), some (.int s0), none]) (st1 := [.int x4, .ref (p0 + 2)]) (σ1 := (S0, m)) rfl ?_
        by_cases g14 : am_in x4 27 = true
        rotate_left
        · rw [if_neg g14] at h
          cases h
        rw [if_pos g14] at h
        refine am_AW.iald ok_Ring_crossing (Nat.le_add_left 1 d) S0_len rfl (sh_6_20_2 hp0) g14 ?_
        refine am_AW.run am_base_ok ok_Ring_crossing (Nat.le_add_left 1 d) 1 (pc1 := 113) (ls1 := [some (.ref p0), some (.int x1), some (.int x2), some (.int x3), some (.int x4), some (.int x5), some (.int s0), none]) (st1 := [.int x2, .int (m.1 (p0 + 2) x4.toNatClampNeg)]) (σ1 := (S0, m)) rfl ?_
        refine am_AW.brP ok_Ring_crossing rfl rfl am_c_eq (fun c15 => ?_) (fun c15 => ?_)
        · rw [if_pos c15] at h
          refine am_AW.run am_base_ok ok_Ring_crossing (Nat.le_add_left 1 d) 1 (pc1 := 121) (ls1 := [some (.ref p0), some (.int x1), some (.int x2), some (.int x3), some (.int x4), some (.int x5), some (.int s0), none]) (st1 := [.int (0 : Int32)]) (σ1 := (S0, m)) rfl ?_
          exact am_AW.weak (f_Ring_crossing_b121_ok hd (hk5) p0 x1 x2 x3 x4 x5 s0 (0 : Int32) hp0 h) (by simp only [am_le, and_self])
        · rw [if_neg c15] at h
          refine am_AW.run am_base_ok ok_Ring_crossing (Nat.le_add_left 1 d) 2 (pc1 := 121) (ls1 := [some (.ref p0), some (.int x1), some (.int x2), some (.int x3), some (.int x4), some (.int x5), some (.int s0), none]) (st1 := [.int (1 : Int32)]) (σ1 := (S0, m)) rfl ?_
          exact am_AW.weak (f_Ring_crossing_b121_ok hd (hk5) p0 x1 x2 x3 x4 x5 s0 (1 : Int32) hp0 h) (by simp only [am_le, and_self])
set_option maxHeartbeats 4000000 in
set_option maxRecDepth 100000 in
theorem f_Ring_crossing_b41_ok {ro : am_Ro} {d : Nat} (hd : 1 ≤ d + 1) {k5 : Nat → Int32 → Int32 → Int32 → Int32 → am_Mm → Option (Int32 × am_Mm)} (hk5 : ∀ (p0 : Nat) (x1 : Int32) (x2 : Int32) (x3 : Int32) (x4 : Int32) (hp0 : p0 = 6 ∨ p0 = 20) (m m' : am_Mm) (r : Int32), k5 p0 x1 x2 x3 x4 m = some (r, m') → am_AW am_nw ro (d + 1) mr_Ring_crossing 5 [some (.ref p0), some (.int x1), some (.int x2), some (.int x3), some (.int x4), none, none, none] [] (S0, m) (some (.int r)) (S0, m')) (p0 : Nat) (x1 : Int32) (x2 : Int32) (x3 : Int32) (x4 : Int32) (s0 : Int32) (hp0 : p0 = 6 ∨ p0 = 20) {m m' : am_Mm} {r : Int32} (h : f_Ring_crossing_b41 k5 p0 x1 x2 x3 x4 s0 m = some (r, m')) : am_AW am_nw ro (d + 1) mr_Ring_crossing 41 [some (.ref p0), some (.int x1), some (.int x2), some (.int x3), some (.int x4), none, none, none] [.int s0] (S0, m) (some (.int r)) (S0, m') := by
  unfold f_Ring_crossing_b41 at h
  refine am_AW.run am_base_ok ok_Ring_crossing (Nat.le_add_left 1 d) 2 (pc1 := 44) (ls1 := [some (.ref p0), some (.int x1), some (.int x2), some (.int x3), some (.int x4), some (.int s0), none, none]) (st1 := [.ref p0]) (σ1 := (S0, m)) rfl ?_
  refine am_AW.getf ok_Ring_crossing (Nat.le_add_left 1 d) rfl (sh_6_20_0 hp0) rfl ?_
  refine am_AW.run am_base_ok ok_Ring_crossing (Nat.le_add_left 1 d) 1 (pc1 := 49) (ls1 := [some (.ref p0), some (.int x1), some (.int x2), some (.int x3), some (.int x4), some (.int s0), none, none]) (st1 := [.int x4, .ref (p0 + 2)]) (σ1 := (S0, m)) rfl ?_
  by_cases g4 : am_in x4 27 = true
  rotate_left
  · rw [if_neg g4] at h
    cases h
  rw [if_pos g4] at h
  refine am_AW.iald ok_Ring_crossing (Nat.le_add_left 1 d) S0_len rfl (sh_6_20_2 hp0) g4 ?_
  refine am_AW.run am_base_ok ok_Ring_crossing (Nat.le_add_left 1 d) 1 (pc1 := 51) (ls1 := [some (.ref p0), some (.int x1), some (.int x2), some (.int x3), some (.int x4), some (.int s0), none, none]) (st1 := [.int x1, .int (m.1 (p0 + 2) x4.toNatClampNeg)]) (σ1 := (S0, m)) rfl ?_
  refine am_AW.brP ok_Ring_crossing rfl rfl am_c_le (fun c5 => ?_) (fun c5 => ?_)
  · rw [if_pos c5] at h
    refine am_AW.run am_base_ok ok_Ring_crossing (Nat.le_add_left 1 d) 1 (pc1 := 70) (ls1 := [some (.ref p0), some (.int x1), some (.int x2), some (.int x3), some (.int x4), some (.int s0), none, none]) (st1 := [.int (0 : Int32)]) (σ1 := (S0, m)) rfl ?_
    exact am_AW.weak (f_Ring_crossing_b70_ok hd (hk5) p0 x1 x2 x3 x4 s0 (0 : Int32) hp0 h) (by simp only [am_le, and_self])
  · rw [if_neg c5] at h
    refine am_AW.run am_base_ok ok_Ring_crossing (Nat.le_add_left 1 d) 1 (pc1 := 55) (ls1 := [some (.ref p0), some (.int x1), some (.int x2), some (.int x3), some (.int x4), some (.int s0), none, none]) (st1 := [.ref p0]) (σ1 := (S0, m)) rfl ?_
    refine am_AW.getf ok_Ring_crossing (Nat.le_add_left 1 d) rfl (sh_6_20_0 hp0) rfl ?_
    refine am_AW.run am_base_ok ok_Ring_crossing (Nat.le_add_left 1 d) 1 (pc1 := 60) (ls1 := [some (.ref p0), some (.int x1), some (.int x2), some (.int x3), some (.int x4), some (.int s0), none, none]) (st1 := [.int x4, .ref (p0 + 2)]) (σ1 := (S0, m)) rfl ?_
    by_cases g16 : am_in x4 27 = true
    rotate_left
    · rw [if_neg g16] at h
      cases h
    rw [if_pos g16] at h
    refine am_AW.iald ok_Ring_crossing (Nat.le_add_left 1 d) S0_len rfl (sh_6_20_2 hp0) g16 ?_
    refine am_AW.run am_base_ok ok_Ring_crossing (Nat.le_add_left 1 d) 1 (pc1 := 62) (ls1 := [some (.ref p0), some (.int x1), some (.int x2), some (.int x3), some (.int x4), some (.int s0), none, none]) (st1 := [.int x2, .int (m.1 (p0 + 2) x4.toNatClampNeg)]) (σ1 := (S0, m)) rfl ?_
    refine am_AW.brP ok_Ring_crossing rfl rfl am_c_ge (fun c17 => ?_) (fun c17 => ?_)
    · rw [if_pos c17] at h
      refine am_AW.run am_base_ok ok_Ring_crossing (Nat.le_add_left 1 d) 1 (pc1 := 70) (ls1 := [some (.ref p0), some (.int x1), some (.int x2), some (.int x3), some (.int x4), some (.int s0), none, none]) (st1 := [.int (0 : Int32)]) (σ1 := (S0, m)) rfl ?_
      exact am_AW.weak (f_Ring_crossing_b70_ok hd (hk5) p0 x1 x2 x3 x4 s0 (0 : Int32) hp0 h) (by simp only [am_le, and_self])
    · rw [if_neg c17] at h
      refine am_AW.run am_base_ok ok_Ring_crossing (Nat.le_add_left 1 d) 2 (pc1 := 70) (ls1 := [some (.ref p0), some (.int x1), some (.int x2), some (.int x3), some (.int x4), some (.int s0), none, none]) (st1 := [.int (1 : Int32)]) (σ1 := (S0, m)) rfl ?_
      exact am_AW.weak (f_Ring_crossing_b70_ok hd (hk5) p0 x1 x2 x3 x4 s0 (1 : Int32) hp0 h) (by simp only [am_le, and_self])
set_option maxHeartbeats 4000000 in
set_option maxRecDepth 100000 in
theorem f_Ring_crossing_b5_all {ro : am_Ro} {d : Nat} (hd : 1 ≤ d + 1) : ∀ (n : Nat) (p0 : Nat) (x1 : Int32) (x2 : Int32) (x3 : Int32) (x4 : Int32) (hp0 : p0 = 6 ∨ p0 = 20) (m m' : am_Mm) (r : Int32), f_Ring_crossing_b5 n p0 x1 x2 x3 x4 m = some (r, m') → am_AW am_nw ro (d + 1) mr_Ring_crossing 5 [some (.ref p0), some (.int x1), some (.int x2), some (.int x3), some (.int x4), none, none, none] [] (S0, m) (some (.int r)) (S0, m') := by
  intro n
  induction n with
  | zero =>
    intro p0 x1 x2 x3 x4 hp0 m m' r h
    rw [f_Ring_crossing_b5] at h
    cases h
  | succ n ih =>
    intro p0 x1 x2 x3 x4 hp0 m m' r h
    rw [f_Ring_crossing_b5] at h
    refine am_AW.run am_base_ok ok_Ring_crossing (Nat.le_add_left 1 d) 2 (pc1 := 8) (ls1 := [some (.ref p0), some (.int x1), some (.int x2), some (.int x3), some (.int x4), none, none, none]) (st1 := [.ref p0, .int x4]) (σ1 := (S0, m)) rfl ?_
    refine am_AW.geti ok_Ring_crossing (Nat.le_add_left 1 d) rfl (sh_6_20_0 hp0) rfl ?_
    refine am_AW.brP ok_Ring_crossing rfl rfl am_c_ge (fun c1 => ?_) (fun c1 => ?_)
    · rw [if_pos c1] at h
      refine am_AW.run am_base_ok ok_Ring_crossing (Nat.le_add_left 1 d) 1 (pc1 := 149) (ls1 := [some (.ref p0), some (.int x1), some (.int x2), some (.int x3), some (.int x4), none, none, none]) (st1 := [.int x3]) (σ1 := (S0, m)) rfl ?_
      obtain ⟨rfl, rfl⟩ := Prod.mk.inj (Option.some.inj h)
      exact am_AW.ret ok_Ring_crossing rfl rfl rfl rfl
    · rw [if_neg c1] at h
      refine am_AW.run am_base_ok ok_Ring_crossing (Nat.le_add_left 1 d) 1 (pc1 := 15) (ls1 := [some (.ref p0), some (.int x1), some (.int x2), some (.int x3), some (.int x4), none, none, none]) (st1 := [.ref p0]) (σ1 := (S0, m)) rfl ?_
      refine am_AW.getf ok_Ring_crossing (Nat.le_add_left 1 d) rfl (sh_6_20_0 hp0) rfl ?_
      refine am_AW.run am_base_ok ok_Ring_crossing (Nat.le_add_left 1 d) 1 (pc1 := 20) (ls1 := [some (.ref p0), some (.int x1), some (.int x2), some (.int x3), some (.int x4), none, none, none]) (st1 := [.int x4, .ref (p0 + 1)]) (σ1 := (S0, m)) rfl ?_
      by_cases g2 : am_in x4 27 = true
      rotate_left
      · rw [if_neg g2] at h
        cases h
      rw [if_pos g2] at h
      refine am_AW.iald ok_Ring_crossing (Nat.le_add_left 1 d) S0_len rfl (sh_6_20_1 hp0) g2 ?_
      refine am_AW.run am_base_ok ok_Ring_crossing (Nat.le_add_left 1 d) 1 (pc1 := 22) (ls1 := [some (.ref p0), some (.int x1), some (.int x2), some (.int x3), some (.int x4), none, none, none]) (st1 := [.int x1, .int (m.1 (p0 + 1) x4.toNatClampNeg)]) (σ1 := (S0, m)) rfl ?_
      refine am_AW.brP ok_Ring_crossing rfl rfl am_c_le (fun c3 => ?_) (fun c3 => ?_)
      · rw [if_pos c3] at h
        refine am_AW.run am_base_ok ok_Ring_crossing (Nat.le_add_left 1 d) 1 (pc1 := 41) (ls1 := [some (.ref p0), some (.int x1), some (.int x2), some (.int x3), some (.int x4), none, none, none]) (st1 := [.int (0 : Int32)]) (σ1 := (S0, m)) rfl ?_
        exact am_AW.weak (f_Ring_crossing_b41_ok hd (ih) p0 x1 x2 x3 x4 (0 : Int32) hp0 h) (by simp only [am_le, and_self])
      · rw [if_neg c3] at h
        refine am_AW.run am_base_ok ok_Ring_crossing (Nat.le_add_left 1 d) 1 (pc1 := 26) (ls1 := [some (.ref p0), some (.int x1), some (.int x2), some (.int x3), some (.int x4), none, none, none]) (st1 := [.ref p0]) (σ1 := (S0, m)) rfl ?_
        refine am_AW.getf ok_Ring_crossing (Nat.le_add_left 1 d) rfl (sh_6_20_0 hp0) rfl ?_
        refine am_AW.run am_base_ok ok_Ring_crossing (Nat.le_add_left 1 d) 1 (pc1 := 31) (ls1 := [some (.ref p0), some (.int x1), some (.int x2), some (.int x3), some (.int x4), none, none, none]) (st1 := [.int x4, .ref (p0 + 1)]) (σ1 := (S0, m)) rfl ?_
        by_cases g18 : am_in x4 27 = true
        rotate_left
        · rw [if_neg g18] at h
          cases h
        rw [if_pos g18] at h
        refine am_AW.iald ok_Ring_crossing (Nat.le_add_left 1 d) S0_len rfl (sh_6_20_1 hp0) g18 ?_
        refine am_AW.run am_base_ok ok_Ring_crossing (Nat.le_add_left 1 d) 1 (pc1 := 33) (ls1 := [some (.ref p0), some (.int x1), some (.int x2), some (.int x3), some (.int x4), none, none, none]) (st1 := [.int x2, .int (m.1 (p0 + 1) x4.toNatClampNeg)]) (σ1 := (S0, m)) rfl ?_
        refine am_AW.brP ok_Ring_crossing rfl rfl am_c_ge (fun c19 => ?_) (fun c19 => ?_)
        · rw [if_pos c19] at h
          refine am_AW.run am_base_ok ok_Ring_crossing (Nat.le_add_left 1 d) 1 (pc1 := 41) (ls1 := [some (.ref p0), some (.int x1), some (.int x2), some (.int x3), some (.int x4), none, none, none]) (st1 := [.int (0 : Int32)]) (σ1 := (S0, m)) rfl ?_
          exact am_AW.weak (f_Ring_crossing_b41_ok hd (ih) p0 x1 x2 x3 x4 (0 : Int32) hp0 h) (by simp only [am_le, and_self])
        · rw [if_neg c19] at h
          refine am_AW.run am_base_ok ok_Ring_crossing (Nat.le_add_left 1 d) 2 (pc1 := 41) (ls1 := [some (.ref p0), some (.int x1), some (.int x2), some (.int x3), some (.int x4), none, none, none]) (st1 := [.int (1 : Int32)]) (σ1 := (S0, m)) rfl ?_
          exact am_AW.weak (f_Ring_crossing_b41_ok hd (ih) p0 x1 x2 x3 x4 (1 : Int32) hp0 h) (by simp only [am_le, and_self])
set_option maxHeartbeats 4000000 in
set_option maxRecDepth 100000 in
theorem f_Ring_crossing_b5_ok {ro : am_Ro} {d : Nat} (hd : 1 ≤ d + 1) (p0 : Nat) (x1 : Int32) (x2 : Int32) (x3 : Int32) (x4 : Int32) (hp0 : p0 = 6 ∨ p0 = 20) {m m' : am_Mm} {r : Int32} {n : Nat} (h : f_Ring_crossing_b5 n p0 x1 x2 x3 x4 m = some (r, m')) : am_AW am_nw ro (d + 1) mr_Ring_crossing 5 [some (.ref p0), some (.int x1), some (.int x2), some (.int x3), some (.int x4), none, none, none] [] (S0, m) (some (.int r)) (S0, m') :=
  f_Ring_crossing_b5_all hd n p0 x1 x2 x3 x4 hp0 m m' r h
set_option maxHeartbeats 4000000 in
set_option maxRecDepth 100000 in
theorem f_Ring_crossing_ok {ro : am_Ro} {d : Nat} (hd : 1 ≤ d) (p0 : Nat) (x1 : Int32) (x2 : Int32) (hp0 : p0 = 6 ∨ p0 = 20) {m m' : am_Mm} {r : Int32} (h : f_Ring_crossing p0 x1 x2 m = some (r, m')) : am_Mt am_nw ro d mr_Ring_crossing [.ref p0, .int x1, .int x2] (S0, m) (some (.int r)) (S0, m') := by
  obtain ⟨d, rfl⟩ : ∃ d0, d = d0 + 1 := ⟨d - 1, by omega⟩
  refine am_Mt.of (by decide +kernel) (Nat.le_of_ble_eq_true rfl) ?_
  change am_AW am_nw ro (d + 1) mr_Ring_crossing 0 [some (.ref p0), some (.int x1), some (.int x2), none, none, none, none, none] [] (S0, m) (some (.int r)) (S0, m')
  unfold f_Ring_crossing at h
  refine am_AW.run am_base_ok ok_Ring_crossing (Nat.le_add_left 1 d) 4 (pc1 := 5) (ls1 := [some (.ref p0), some (.int x1), some (.int x2), some (.int (0 : Int32)), some (.int (0 : Int32)), none, none, none]) (st1 := []) (σ1 := (S0, m)) rfl ?_
  exact am_AW.weak (f_Ring_crossing_b5_ok hd p0 x1 x2 (0 : Int32) (0 : Int32) hp0 h) (by simp only [am_le, and_self])
/-! FriezePolygons$Ring.isNumber(I)Z -/
def f_Ring_isNumber (p0 : Nat) (x1 : Int32) (m : am_Mm) : Option (Int32 × am_Mm) :=
  if x1 < (0 : Int32) then
    some ((0 : Int32), m)
  else
    if (m.1 p0 6) ≤ x1 then
      some ((0 : Int32), m)
    else
      some ((1 : Int32), m)
set_option maxHeartbeats 4000000 in
set_option maxRecDepth 100000 in
theorem f_Ring_isNumber_ok {ro : am_Ro} {d : Nat} (hd : 1 ≤ d) (p0 : Nat) (x1 : Int32) (hp0 : p0 = 6 ∨ p0 = 20) {m m' : am_Mm} {r : Int32} (h : f_Ring_isNumber p0 x1 m = some (r, m')) : am_Mt am_nw ro d mr_Ring_isNumber [.ref p0, .int x1] (S0, m) (some (.int r)) (S0, m') := by
  obtain ⟨d, rfl⟩ : ∃ d0, d = d0 + 1 := ⟨d - 1, by omega⟩
  refine am_Mt.of (by decide +kernel) (Nat.le_of_ble_eq_true rfl) ?_
  change am_AW am_nw ro (d + 1) mr_Ring_isNumber 0 [some (.ref p0), some (.int x1)] [] (S0, m) (some (.int r)) (S0, m')
  unfold f_Ring_isNumber at h
  refine am_AW.run am_base_ok ok_Ring_isNumber (Nat.le_add_left 1 d) 1 (pc1 := 1) (ls1 := [some (.ref p0), some (.int x1)]) (st1 := [.int x1]) (σ1 := (S0, m)) rfl ?_
  refine am_AW.brP ok_Ring_isNumber rfl rfl am_c_lt (fun c1 => ?_) (fun c1 => ?_)
  · rw [if_pos c1] at h
    refine am_AW.run am_base_ok ok_Ring_isNumber (Nat.le_add_left 1 d) 1 (pc1 := 17) (ls1 := [some (.ref p0), some (.int x1)]) (st1 := [.int (0 : Int32)]) (σ1 := (S0, m)) rfl ?_
    obtain ⟨rfl, rfl⟩ := Prod.mk.inj (Option.some.inj h)
    exact am_AW.ret ok_Ring_isNumber rfl rfl rfl (by decide)
  · rw [if_neg c1] at h
    refine am_AW.run am_base_ok ok_Ring_isNumber (Nat.le_add_left 1 d) 2 (pc1 := 6) (ls1 := [some (.ref p0), some (.int x1)]) (st1 := [.ref p0, .int x1]) (σ1 := (S0, m)) rfl ?_
    refine am_AW.geti ok_Ring_isNumber (Nat.le_add_left 1 d) rfl (sh_6_20_0 hp0) rfl ?_
    refine am_AW.brP ok_Ring_isNumber rfl rfl am_c_ge (fun c2 => ?_) (fun c2 => ?_)
    · rw [if_pos c2] at h
      refine am_AW.run am_base_ok ok_Ring_isNumber (Nat.le_add_left 1 d) 1 (pc1 := 17) (ls1 := [some (.ref p0), some (.int x1)]) (st1 := [.int (0 : Int32)]) (σ1 := (S0, m)) rfl ?_
      obtain ⟨rfl, rfl⟩ := Prod.mk.inj (Option.some.inj h)
      exact am_AW.ret ok_Ring_isNumber rfl rfl rfl (by decide)
    · rw [if_neg c2] at h
      refine am_AW.run am_base_ok ok_Ring_isNumber (Nat.le_add_left 1 d) 2 (pc1 := 17) (ls1 := [some (.ref p0), some (.int x1)]) (st1 := [.int (1 : Int32)]) (σ1 := (S0, m)) rfl ?_
      obtain ⟨rfl, rfl⟩ := Prod.mk.inj (Option.some.inj h)
      exact am_AW.ret ok_Ring_isNumber rfl rfl rfl (by decide)
/-! FriezePolygons$Ring.isCut(II)Z -/
def f_Ring_isCut (p0 : Nat) (x1 : Int32) (x2 : Int32) (m : am_Mm) : Option (Int32 × am_Mm) :=
  if x1 < (0 : Int32) then
    some ((0 : Int32), m)
  else
    if (m.1 p0 5) ≤ x2 then
      some ((0 : Int32), m)
    else
      if (x2 - x1) < (2 : Int32) then
        some ((0 : Int32), m)
      else
        if ((m.1 p0 5) - (2 : Int32)) < (x2 - x1) then
          some ((0 : Int32), m)
        else
          some ((1 : Int32), m)
set_option maxHeartbeats 4000000 in
set_option maxRecDepth 100000 in
theorem f_Ring_isCut_ok {ro : am_Ro} {d : Nat} (hd : 1 ≤ d) (p0 : Nat) (x1 : Int32) (x2 : Int32) (hp0 : p0 = 6 ∨ p0 = 20) {m m' : am_Mm} {r : Int32} (h : f_Ring_isCut p0 x1 x2 m = some (r, m')) : am_Mt am_nw ro d mr_Ring_isCut [.ref p0, .int x1, .int x2] (S0, m) (some (.int r)) (S0, m') := by
  obtain ⟨d, rfl⟩ : ∃ d0, d = d0 + 1 := ⟨d - 1, by omega⟩
  refine am_Mt.of (by decide +kernel) (Nat.le_of_ble_eq_true rfl) ?_
  change am_AW am_nw ro (d + 1) mr_Ring_isCut 0 [some (.ref p0), some (.int x1), some (.int x2)] [] (S0, m) (some (.int r)) (S0, m')
  unfold f_Ring_isCut at h
  refine am_AW.run am_base_ok ok_Ring_isCut (Nat.le_add_left 1 d) 1 (pc1 := 1) (ls1 := [some (.ref p0), some (.int x1), some (.int x2)]) (st1 := [.int x1]) (σ1 := (S0, m)) rfl ?_
  refine am_AW.brP ok_Ring_isCut rfl rfl am_c_lt (fun c1 => ?_) (fun c1 => ?_)
  · rw [if_pos c1] at h
    refine am_AW.run am_base_ok ok_Ring_isCut (Nat.le_add_left 1 d) 1 (pc1 := 36) (ls1 := [some (.ref p0), some (.int x1), some (.int x2)]) (st1 := [.int (0 : Int32)]) (σ1 := (S0, m)) rfl ?_
    obtain ⟨rfl, rfl⟩ := Prod.mk.inj (Option.some.inj h)
    exact am_AW.ret ok_Ring_isCut rfl rfl rfl (by decide)
  · rw [if_neg c1] at h
    refine am_AW.run am_base_ok ok_Ring_isCut (Nat.le_add_left 1 d) 2 (pc1 := 6) (ls1 := [some (.ref p0), some (.int x1), some (.int x2)]) (st1 := [.ref p0, .int x2]) (σ1 := (S0, m)) rfl ?_
    refine am_AW.geti ok_Ring_isCut (Nat.le_add_left 1 d) rfl (sh_6_20_0 hp0) rfl ?_
    refine am_AW.brP ok_Ring_isCut rfl rfl am_c_ge (fun c2 => ?_) (fun c2 => ?_)
    · rw [if_pos c2] at h
      refine am_AW.run am_base_ok ok_Ring_isCut (Nat.le_add_left 1 d) 1 (pc1 := 36) (ls1 := [some (.ref p0), some (.int x1), some (.int x2)]) (st1 := [.int (0 : Int32)]) (σ1 := (S0, m)) rfl ?_
      obtain ⟨rfl, rfl⟩ := Prod.mk.inj (Option.some.inj h)
      exact am_AW.ret ok_Ring_isCut rfl rfl rfl (by decide)
    · rw [if_neg c2] at h
      refine am_AW.run am_base_ok ok_Ring_isCut (Nat.le_add_left 1 d) 4 (pc1 := 16) (ls1 := [some (.ref p0), some (.int x1), some (.int x2)]) (st1 := [.int (2 : Int32), .int (x2 - x1)]) (σ1 := (S0, m)) rfl ?_
      refine am_AW.brP ok_Ring_isCut rfl rfl am_c_lt (fun c3 => ?_) (fun c3 => ?_)
      · rw [if_pos c3] at h
        refine am_AW.run am_base_ok ok_Ring_isCut (Nat.le_add_left 1 d) 1 (pc1 := 36) (ls1 := [some (.ref p0), some (.int x1), some (.int x2)]) (st1 := [.int (0 : Int32)]) (σ1 := (S0, m)) rfl ?_
        obtain ⟨rfl, rfl⟩ := Prod.mk.inj (Option.some.inj h)
        exact am_AW.ret ok_Ring_isCut rfl rfl rfl (by decide)
      · rw [if_neg c3] at h
        refine am_AW.run am_base_ok ok_Ring_isCut (Nat.le_add_left 1 d) 4 (pc1 := 23) (ls1 := [some (.ref p0), some (.int x1), some (.int x2)]) (st1 := [.ref p0, .int (x2 - x1)]) (σ1 := (S0, m)) rfl ?_
        refine am_AW.geti ok_Ring_isCut (Nat.le_add_left 1 d) rfl (sh_6_20_0 hp0) rfl ?_
        refine am_AW.run am_base_ok ok_Ring_isCut (Nat.le_add_left 1 d) 2 (pc1 := 28) (ls1 := [some (.ref p0), some (.int x1), some (.int x2)]) (st1 := [.int ((m.1 p0 5) - (2 : Int32)), .int (x2 - x1)]) (σ1 := (S0, m)) rfl ?_
        refine am_AW.brP ok_Ring_isCut rfl rfl am_c_gt (fun c4 => ?_) (fun c4 => ?_)
        · rw [if_pos c4] at h
          refine am_AW.run am_base_ok ok_Ring_isCut (Nat.le_add_left 1 d) 1 (pc1 := 36) (ls1 := [some (.ref p0), some (.int x1), some (.int x2)]) (st1 := [.int (0 : Int32)]) (σ1 := (S0, m)) rfl ?_
          obtain ⟨rfl, rfl⟩ := Prod.mk.inj (Option.some.inj h)
          exact am_AW.ret ok_Ring_isCut rfl rfl rfl (by decide)
        · rw [if_neg c4] at h
          refine am_AW.run am_base_ok ok_Ring_isCut (Nat.le_add_left 1 d) 2 (pc1 := 36) (ls1 := [some (.ref p0), some (.int x1), some (.int x2)]) (st1 := [.int (1 : Int32)]) (σ1 := (S0, m)) rfl ?_
          obtain ⟨rfl, rfl⟩ := Prod.mk.inj (Option.some.inj h)
          exact am_AW.ret ok_Ring_isCut rfl rfl rfl (by decide)
/-! FriezePolygons$Ring.endsOf(II)I -/
def f_Ring_endsOf_b68 (k5 : Int32 → Int32 → Int32 → Int32 → am_Mm → Option (Int32 × am_Mm)) (x1 : Int32) (x2 : Int32) (x3 : Int32) (x4 : Int32) (m : am_Mm) : Option (Int32 × am_Mm) :=
  k5 x1 x2 x3 (x4 + (1 : Int32)) m
def f_Ring_endsOf_b46 (k5 : Int32 → Int32 → Int32 → Int32 → am_Mm → Option (Int32 × am_Mm)) (x1 : Int32) (x2 : Int32) (x3 : Int32) (x4 : Int32) (m : am_Mm) : Option (Int32 × am_Mm) :=
  if am_in x4 27 = true then
    if am_in x4 27 = true then
      f_Ring_endsOf_b68 k5 x1 x2 (x3 ||| (am_shl (1 : Int32) (((m.1 21 x4.toNatClampNeg) + (m.1 22 x4.toNatClampNeg)) - x2))) x4 m
    else none
  else none
def f_Ring_endsOf_b5 : Nat → Int32 → Int32 → Int32 → Int32 → am_Mm → Option (Int32 × am_Mm)
  | 0, _, _, _, _, _ => none
  | n + 1, x1, x2, x3, x4, m =>
    if (m.1 20 6) ≤ x4 then
      some (x3, m)
    else
      if ((am_shr x1 x4) &&& (1 : Int32)) = (1 : Int32) then
        if am_in x4 27 = true then
          if (m.1 21 x4.toNatClampNeg) = x2 then
            f_Ring_endsOf_b46 (f_Ring_endsOf_b5 n) x1 x2 x3 x4 m
          else
            if am_in x4 27 = true then
              if (m.1 22 x4.toNatClampNeg) = x2 then
                f_Ring_endsOf_b46 (f_Ring_endsOf_b5 n) x1 x2 x3 x4 m
              else
                f_Ring_endsOf_b68 (f_Ring_endsOf_b5 n) x1 x2 x3 x4 m
            else none
        else none
      else
        f_Ring_endsOf_b68 (f_Ring_endsOf_b5 n) x1 x2 x3 x4 m
def f_Ring_endsOf (x1 : Int32) (x2 : Int32) (m : am_Mm) : Option (Int32 × am_Mm) :=
  f_Ring_endsOf_b5 am_F x1 x2 (0 : Int32) (0 : Int32) m
set_option maxHeartbeats 4000000 in
set_option maxRecDepth 100000 in
theorem f_Ring_endsOf_b68_ok {ro : am_Ro} {d : Nat} (hd : 1 ≤ d + 1) {k5 : Int32 → Int32 → Int32 → Int32 → am_Mm → Option (Int32 × am_Mm)} (hk5 : ∀ (x1 : Int32) (x2 : Int32) (x3 : Int32) (x4 : Int32) (m m' : am_Mm) (r : Int32), k5 x1 x2 x3 x4 m = some (r, m') → am_AW am_nw ro (d + 1) mr_Ring_endsOf 5 [some (.ref 20), some (.int x1), some (.int x2), some (.int x3), some (.int x4)] [] (S0, m) (some (.int r)) (S0, m')) (x1 : Int32) (x2 : Int32) (x3 : Int32) (x4 : Int32) {m m' : am_Mm} {r : Int32} (h : f_Ring_endsOf_b68 k5 x1 x2 x3 x4 m = some (r, m')) : am_AW am_nw ro (d + 1) mr_Ring_endsOf 68 [some (.ref 20), some (.int x1), some (.int x2), some (.int x3), some (.int x4)] [] (S0, m) (some (.int r)) (S0, m') := by
  unfold f_Ring_endsOf_b68 at h
  refine am_AW.run am_base_ok ok_Ring_endsOf (Nat.le_add_left 1 d) 2 (pc1 := 5) (ls1 := [some (.ref 20), some (.int x1), some (.int x2), some (.int x3), some (.int (x4 + (1 : Int32)))]) (st1 := []) (σ1 := (S0, m)) rfl ?_
  exact am_AW.weak (hk5 x1 x2 x3 (x4 + (1 : Int32))  _ _ _ h) (by simp only [am_le, and_self])
set_option maxHeartbeats 4000000 in
set_option maxRecDepth 100000 in
theorem f_Ring_endsOf_b46_ok {ro : am_Ro} {d : Nat} (hd : 1 ≤ d + 1) {k5 : Int32 → Int32 → Int32 → Int32 → am_Mm → Option (Int32 × am_Mm)} (hk5 : ∀ (x1 : Int32) (x2 : Int32) (x3 : Int32) (x4 : Int32) (m m' : am_Mm) (r : Int32), k5 x1 x2 x3 x4 m = some (r, m') → am_AW am_nw ro (d + 1) mr_Ring_endsOf 5 [some (.ref 20), some (.int x1), some (.int x2), some (.int x3), some (.int x4)] [] (S0, m) (some (.int r)) (S0, m')) (x1 : Int32) (x2 : Int32) (x3 : Int32) (x4 : Int32) {m m' : am_Mm} {r : Int32} (h : f_Ring_endsOf_b46 k5 x1 x2 x3 x4 m = some (r, m')) : am_AW am_nw ro (d + 1) mr_Ring_endsOf 46 [some (.ref 20), some (.int x1), some (.int x2), some (.int x3), some (.int x4)] [] (S0, m) (some (.int r)) (S0, m') := by
  unfold f_Ring_endsOf_b46 at h
  refine am_AW.run am_base_ok ok_Ring_endsOf (Nat.le_add_left 1 d) 5 (pc1 := 54) (ls1 := [some (.ref 20), some (.int x1), some (.int x2), some (.int x3), some (.int x4)]) (st1 := [.int x4, .ref 21, .int (1 : Int32), .int x3]) (σ1 := (S0, m)) rfl ?_
  by_cases g5 : am_in x4 27 = true
  rotate_left
  · rw [if_neg g5] at h
    cases h
  rw [if_pos g5] at h
  refine am_AW.iald ok_Ring_endsOf (Nat.le_add_left 1 d) S0_len rfl rfl g5 ?_
  refine am_AW.run am_base_ok ok_Ring_endsOf (Nat.le_add_left 1 d) 3 (pc1 := 61) (ls1 := [some (.ref 20), some (.int x1), some (.int x2), some (.int x3), some (.int x4)]) (st1 := [.int x4, .ref 22, .int (m.1 21 x4.toNatClampNeg), .int (1 : Int32), .int x3]) (σ1 := (S0, m)) rfl ?_
  by_cases g6 : am_in x4 27 = true
  rotate_left
  · rw [if_neg g6] at h
    cases h
  rw [if_pos g6] at h
  refine am_AW.iald ok_Ring_endsOf (Nat.le_add_left 1 d) S0_len rfl rfl g6 ?_
  refine am_AW.run am_base_ok ok_Ring_endsOf (Nat.le_add_left 1 d) 6 (pc1 := 68) (ls1 := [some (.ref 20), some (.int x1), some (.int x2), some (.int (x3 ||| (am_shl (1 : Int32) (((m.1 21 x4.toNatClampNeg) + (m.1 22 x4.toNatClampNeg)) - x2)))), some (.int x4)]) (st1 := []) (σ1 := (S0, m)) rfl ?_
  exact am_AW.weak (f_Ring_endsOf_b68_ok hd (hk5) x1 x2 (x3 ||| (am_shl (1 : Int32) (((m.1 21 x4.toNatClampNeg) + (m.1 22 x4.toNatClampNeg)) - x2))) x4  h) (by simp only [am_le, and_self])
set_option maxHeartbeats 4000000 in
set_option maxRecDepth 100000 in
theorem f_Ring_endsOf_b5_all {ro : am_Ro} {d : Nat} (hd : 1 ≤ d + 1) : ∀ (n : Nat) (x1 : Int32) (x2 : Int32) (x3 : Int32) (x4 : Int32) (m m' : am_Mm) (r : Int32), f_Ring_endsOf_b5 n x1 x2 x3 x4 m = some (r, m') → am_AW am_nw ro (d + 1) mr_Ring_endsOf 5 [some (.ref 20), some (.int x1), some (.int x2), some (.int x3), some (.int x4)] [] (S0, m) (some (.int r)) (S0, m') := by
  intro n
  induction n with
  | zero =>
    intro x1 x2 x3 x4 m m' r h
    rw [f_Ring_endsOf_b5] at h
    cases h
  | succ n ih =>
    intro x1 x2 x3 x4 m m' r h
    rw [f_Ring_endsOf_b5] at h
    refine am_AW.run am_base_ok ok_Ring_endsOf (Nat.le_add_left 1 d) 3 (pc1 := 11) (ls1 := [some (.ref 20), some (.int x1), some (.int x2), some (.int x3), some (.int x4)]) (st1 := [.int (m.1 20 6), .int x4]) (σ1 := (S0, m)) rfl ?_
    refine am_AW.brP ok_Ring_endsOf rfl rfl am_c_ge (fun c1 => ?_) (fun c1 => ?_)
    · rw [if_pos c1] at h
      refine am_AW.run am_base_ok ok_Ring_endsOf (Nat.le_add_left 1 d) 1 (pc1 := 75) (ls1 := [some (.ref 20), some (.int x1), some (.int x2), some (.int x3), some (.int x4)]) (st1 := [.int x3]) (σ1 := (S0, m)) rfl ?_
      obtain ⟨rfl, rfl⟩ := Prod.mk.inj (Option.some.inj h)
      exact am_AW.ret ok_Ring_endsOf rfl rfl rfl rfl
    · rw [if_neg c1] at h
      refine am_AW.run am_base_ok ok_Ring_endsOf (Nat.le_add_left 1 d) 6 (pc1 := 21) (ls1 := [some (.ref 20), some (.int x1), some (.int x2), some (.int x3), some (.int x4)]) (st1 := [.int (1 : Int32), .int ((am_shr x1 x4) &&& (1 : Int32))]) (σ1 := (S0, m)) rfl ?_
      refine am_AW.brN ok_Ring_endsOf rfl rfl am_c_ne (fun c2 => ?_) (fun c2 => ?_)
      · rw [if_pos c2] at h
        refine am_AW.run am_base_ok ok_Ring_endsOf (Nat.le_add_left 1 d) 3 (pc1 := 30) (ls1 := [some (.ref 20), some (.int x1), some (.int x2), some (.int x3), some (.int x4)]) (st1 := [.int x4, .ref 21]) (σ1 := (S0, m)) rfl ?_
        by_cases g3 : am_in x4 27 = true
        rotate_left
        · rw [if_neg g3] at h
          cases h
        rw [if_pos g3] at h
        refine am_AW.iald ok_Ring_endsOf (Nat.le_add_left 1 d) S0_len rfl rfl g3 ?_
        refine am_AW.run am_base_ok ok_Ring_endsOf (Nat.le_add_left 1 d) 1 (pc1 := 32) (ls1 := [some (.ref 20), some (.int x1), some (.int x2), some (.int x3), some (.int x4)]) (st1 := [.int x2, .int (m.1 21 x4.toNatClampNeg)]) (σ1 := (S0, m)) rfl ?_
        refine am_AW.brP ok_Ring_endsOf rfl rfl am_c_eq (fun c4 => ?_) (fun c4 => ?_)
        · rw [if_pos c4] at h
          exact am_AW.weak (f_Ring_endsOf_b46_ok hd (ih) x1 x2 x3 x4  h) (by simp only [am_le, and_self])
        · rw [if_neg c4] at h
          refine am_AW.run am_base_ok ok_Ring_endsOf (Nat.le_add_left 1 d) 3 (pc1 := 41) (ls1 := [some (.ref 20), some (.int x1), some (.int x2), some (.int x3), some (.int x4)]) (st1 := [.int x4, .ref 22]) (σ1 := (S0, m)) rfl ?_
          by_cases g7 : am_in x4 27 = true
          rotate_left
          · rw [if_neg g7] at h
            cases h
          rw [if_pos g7] at h
          refine am_AW.iald ok_Ring_endsOf (Nat.le_add_left 1 d) S0_len rfl rfl g7 ?_
          refine am_AW.run am_base_ok ok_Ring_endsOf (Nat.le_add_left 1 d) 1 (pc1 := 43) (ls1 := [some (.ref 20), some (.int x1), some (.int x2), some (.int x3), some (.int x4)]) (st1 := [.int x2, .int (m.1 22 x4.toNatClampNeg)]) (σ1 := (S0, m)) rfl ?_
          refine am_AW.brN ok_Ring_endsOf rfl rfl am_c_ne (fun c8 => ?_) (fun c8 => ?_)
          · rw [if_pos c8] at h
            exact am_AW.weak (f_Ring_endsOf_b46_ok hd (ih) x1 x2 x3 x4  h) (by simp only [am_le, and_self])
          · rw [if_neg c8] at h
            exact am_AW.weak (f_Ring_endsOf_b68_ok hd (ih) x1 x2 x3 x4  h) (by simp only [am_le, and_self])
      · rw [if_neg c2] at h
        exact am_AW.weak (f_Ring_endsOf_b68_ok hd (ih) x1 x2 x3 x4  h) (by simp only [am_le, and_self])
set_option maxHeartbeats 4000000 in
set_option maxRecDepth 100000 in
theorem f_Ring_endsOf_b5_ok {ro : am_Ro} {d : Nat} (hd : 1 ≤ d + 1) (x1 : Int32) (x2 : Int32) (x3 : Int32) (x4 : Int32) {m m' : am_Mm} {r : Int32} {n : Nat} (h : f_Ring_endsOf_b5 n x1 x2 x3 x4 m = some (r, m')) : am_AW am_nw ro (d + 1) mr_Ring_endsOf 5 [some (.ref 20), some (.int x1), some (.int x2), some (.int x3), some (.int x4)] [] (S0, m) (some (.int r)) (S0, m') :=
  f_Ring_endsOf_b5_all hd n x1 x2 x3 x4  m m' r h
set_option maxHeartbeats 4000000 in
set_option maxRecDepth 100000 in
theorem f_Ring_endsOf_ok {ro : am_Ro} {d : Nat} (hd : 1 ≤ d) (x1 : Int32) (x2 : Int32) {m m' : am_Mm} {r : Int32} (h : f_Ring_endsOf x1 x2 m = some (r, m')) : am_Mt am_nw ro d mr_Ring_endsOf [.ref 20, .int x1, .int x2] (S0, m) (some (.int r)) (S0, m') := by
  obtain ⟨d, rfl⟩ : ∃ d0, d = d0 + 1 := ⟨d - 1, by omega⟩
  refine am_Mt.of (by decide +kernel) (Nat.le_of_ble_eq_true rfl) ?_
  change am_AW am_nw ro (d + 1) mr_Ring_endsOf 0 [some (.ref 20), some (.int x1), some (.int x2), none, none] [] (S0, m) (some (.int r)) (S0, m')
  unfold f_Ring_endsOf at h
  refine am_AW.run am_base_ok ok_Ring_endsOf (Nat.le_add_left 1 d) 4 (pc1 := 5) (ls1 := [some (.ref 20), some (.int x1), some (.int x2), some (.int (0 : Int32)), some (.int (0 : Int32))]) (st1 := []) (σ1 := (S0, m)) rfl ?_
  exact am_AW.weak (f_Ring_endsOf_b5_ok hd x1 x2 (0 : Int32) (0 : Int32)  h) (by simp only [am_le, and_self])
/-! FriezePolygons$Ring.rising(II)I -/
def f_Ring_rising_b35 (k5 : Int32 → Int32 → Int32 → Int32 → am_Mm → Option (Int32 × am_Mm)) (x1 : Int32) (x2 : Int32) (x3 : Int32) (x4 : Int32) (m : am_Mm) : Option (Int32 × am_Mm) :=
  k5 x1 x2 x3 (x4 + (1 : Int32)) m
def f_Ring_rising_b5 : Nat → Int32 → Int32 → Int32 → Int32 → am_Mm → Option (Int32 × am_Mm)
  | 0, _, _, _, _, _ => none
  | n + 1, x1, x2, x3, x4, m =>
    if (m.1 20 6) ≤ x4 then
      some ((-1 : Int32), m)
    else
      if ((am_shr x1 x4) &&& (1 : Int32)) = (1 : Int32) then
        if x3 = x2 then
          some (x4, m)
        else
          f_Ring_rising_b35 (f_Ring_rising_b5 n) x1 x2 (x3 + (1 : Int32)) x4 m
      else
        f_Ring_rising_b35 (f_Ring_rising_b5 n) x1 x2 x3 x4 m
def f_Ring_rising (x1 : Int32) (x2 : Int32) (m : am_Mm) : Option (Int32 × am_Mm) :=
  f_Ring_rising_b5 am_F x1 x2 (0 : Int32) (0 : Int32) m
set_option maxHeartbeats 4000000 in
set_option maxRecDepth 100000 in
theorem f_Ring_rising_b35_ok {ro : am_Ro} {d : Nat} (hd : 1 ≤ d + 1) {k5 : Int32 → Int32 → Int32 → Int32 → am_Mm → Option (Int32 × am_Mm)} (hk5 : ∀ (x1 : Int32) (x2 : Int32) (x3 : Int32) (x4 : Int32) (m m' : am_Mm) (r : Int32), k5 x1 x2 x3 x4 m = some (r, m') → am_AW am_nw ro (d + 1) mr_Ring_rising 5 [some (.ref 20), some (.int x1), some (.int x2), some (.int x3), some (.int x4)] [] (S0, m) (some (.int r)) (S0, m')) (x1 : Int32) (x2 : Int32) (x3 : Int32) (x4 : Int32) {m m' : am_Mm} {r : Int32} (h : f_Ring_rising_b35 k5 x1 x2 x3 x4 m = some (r, m')) : am_AW am_nw ro (d + 1) mr_Ring_rising 35 [some (.ref 20), some (.int x1), some (.int x2), some (.int x3), some (.int x4)] [] (S0, m) (some (.int r)) (S0, m') := by
  unfold f_Ring_rising_b35 at h
  refine am_AW.run am_base_ok ok_Ring_rising (Nat.le_add_left 1 d) 2 (pc1 := 5) (ls1 := [some (.ref 20), some (.int x1), some (.int x2), some (.int x3), some (.int (x4 + (1 : Int32)))]) (st1 := []) (σ1 := (S0, m)) rfl ?_
  exact am_AW.weak (hk5 x1 x2 x3 (x4 + (1 : Int32))  _ _ _ h) (by simp only [am_le, and_self])
set_option maxHeartbeats 4000000 in
set_option maxRecDepth 100000 in
theorem f_Ring_rising_b5_all {ro : am_Ro} {d : Nat} (hd : 1 ≤ d + 1) : ∀ (n : Nat) (x1 : Int32) (x2 : Int32) (x3 : Int32) (x4 : Int32) (m m' : am_Mm) (r : Int32), f_Ring_rising_b5 n x1 x2 x3 x4 m = some (r, m') → am_AW am_nw ro (d + 1) mr_Ring_rising 5 [some (.ref 20), some (.int x1), some (.int x2), some (.int x3), some (.int x4)] [] (S0, m) (some (.int r)) (S0, m') := by
  intro n
  induction n with
  | zero =>
    intro x1 x2 x3 x4 m m' r h
    rw [f_Ring_rising_b5] at h
    cases h
  | succ n ih =>
    intro x1 x2 x3 x4 m m' r h
    rw [f_Ring_rising_b5] at h
    refine am_AW.run am_base_ok ok_Ring_rising (Nat.le_add_left 1 d) 3 (pc1 := 11) (ls1 := [some (.ref 20), some (.int x1), some (.int x2), some (.int x3), some (.int x4)]) (st1 := [.int (m.1 20 6), .int x4]) (σ1 := (S0, m)) rfl ?_
    refine am_AW.brP ok_Ring_rising rfl rfl am_c_ge (fun c1 => ?_) (fun c1 => ?_)
    · rw [if_pos c1] at h
      refine am_AW.run am_base_ok ok_Ring_rising (Nat.le_add_left 1 d) 1 (pc1 := 42) (ls1 := [some (.ref 20), some (.int x1), some (.int x2), some (.int x3), some (.int x4)]) (st1 := [.int (-1 : Int32)]) (σ1 := (S0, m)) rfl ?_
      obtain ⟨rfl, rfl⟩ := Prod.mk.inj (Option.some.inj h)
      exact am_AW.ret ok_Ring_rising rfl rfl rfl rfl
    · rw [if_neg c1] at h
      refine am_AW.run am_base_ok ok_Ring_rising (Nat.le_add_left 1 d) 6 (pc1 := 21) (ls1 := [some (.ref 20), some (.int x1), some (.int x2), some (.int x3), some (.int x4)]) (st1 := [.int (1 : Int32), .int ((am_shr x1 x4) &&& (1 : Int32))]) (σ1 := (S0, m)) rfl ?_
      refine am_AW.brN ok_Ring_rising rfl rfl am_c_ne (fun c2 => ?_) (fun c2 => ?_)
      · rw [if_pos c2] at h
        refine am_AW.run am_base_ok ok_Ring_rising (Nat.le_add_left 1 d) 2 (pc1 := 26) (ls1 := [some (.ref 20), some (.int x1), some (.int x2), some (.int x3), some (.int x4)]) (st1 := [.int x2, .int x3]) (σ1 := (S0, m)) rfl ?_
        refine am_AW.brN ok_Ring_rising rfl rfl am_c_ne (fun c3 => ?_) (fun c3 => ?_)
        · rw [if_pos c3] at h
          refine am_AW.run am_base_ok ok_Ring_rising (Nat.le_add_left 1 d) 1 (pc1 := 31) (ls1 := [some (.ref 20), some (.int x1), some (.int x2), some (.int x3), some (.int x4)]) (st1 := [.int x4]) (σ1 := (S0, m)) rfl ?_
          obtain ⟨rfl, rfl⟩ := Prod.mk.inj (Option.some.inj h)
          exact am_AW.ret ok_Ring_rising rfl rfl rfl rfl
        · rw [if_neg c3] at h
          refine am_AW.run am_base_ok ok_Ring_rising (Nat.le_add_left 1 d) 1 (pc1 := 35) (ls1 := [some (.ref 20), some (.int x1), some (.int x2), some (.int (x3 + (1 : Int32))), some (.int x4)]) (st1 := []) (σ1 := (S0, m)) rfl ?_
          exact am_AW.weak (f_Ring_rising_b35_ok hd (ih) x1 x2 (x3 + (1 : Int32)) x4  h) (by simp only [am_le, and_self])
      · rw [if_neg c2] at h
        exact am_AW.weak (f_Ring_rising_b35_ok hd (ih) x1 x2 x3 x4  h) (by simp only [am_le, and_self])
set_option maxHeartbeats 4000000 in
set_option maxRecDepth 100000 in
theorem f_Ring_rising_b5_ok {ro : am_Ro} {d : Nat} (hd : 1 ≤ d + 1) (x1 : Int32) (x2 : Int32) (x3 : Int32) (x4 : Int32) {m m' : am_Mm} {r : Int32} {n : Nat} (h : f_Ring_rising_b5 n x1 x2 x3 x4 m = some (r, m')) : am_AW am_nw ro (d + 1) mr_Ring_rising 5 [some (.ref 20), some (.int x1), some (.int x2), some (.int x3), some (.int x4)] [] (S0, m) (some (.int r)) (S0, m') :=
  f_Ring_rising_b5_all hd n x1 x2 x3 x4  m m' r h
set_option maxHeartbeats 4000000 in
set_option maxRecDepth 100000 in
theorem f_Ring_rising_ok {ro : am_Ro} {d : Nat} (hd : 1 ≤ d) (x1 : Int32) (x2 : Int32) {m m' : am_Mm} {r : Int32} (h : f_Ring_rising x1 x2 m = some (r, m')) : am_Mt am_nw ro d mr_Ring_rising [.ref 20, .int x1, .int x2] (S0, m) (some (.int r)) (S0, m') := by
  obtain ⟨d, rfl⟩ : ∃ d0, d = d0 + 1 := ⟨d - 1, by omega⟩
  refine am_Mt.of (by decide +kernel) (Nat.le_of_ble_eq_true rfl) ?_
  change am_AW am_nw ro (d + 1) mr_Ring_rising 0 [some (.ref 20), some (.int x1), some (.int x2), none, none] [] (S0, m) (some (.int r)) (S0, m')
  unfold f_Ring_rising at h
  refine am_AW.run am_base_ok ok_Ring_rising (Nat.le_add_left 1 d) 4 (pc1 := 5) (ls1 := [some (.ref 20), some (.int x1), some (.int x2), some (.int (0 : Int32)), some (.int (0 : Int32))]) (st1 := []) (σ1 := (S0, m)) rfl ?_
  exact am_AW.weak (f_Ring_rising_b5_ok hd x1 x2 (0 : Int32) (0 : Int32)  h) (by simp only [am_le, and_self])
/-! FriezePolygons$Ring.movedCorner(IZI)I -/
def f_Ring_movedCorner_b16 (x3 : Int32) (s0 : Int32) (m : am_Mm) : Option (Int32 × am_Mm) :=
  if (s0 + x3) < (m.1 20 5) then
    some ((s0 + x3), m)
  else
    some (((s0 + x3) - (m.1 20 5)), m)
def f_Ring_movedCorner (x1 : Int32) (x2 : Int32) (x3 : Int32) (m : am_Mm) : Option (Int32 × am_Mm) :=
  if x2 = (0 : Int32) then
    f_Ring_movedCorner_b16 x3 x1 m
  else
    f_Ring_movedCorner_b16 x3 (((m.1 20 5) - (1 : Int32)) - x1) m
set_option maxHeartbeats 4000000 in
set_option maxRecDepth 100000 in
theorem f_Ring_movedCorner_b16_ok {ro : am_Ro} {d : Nat} (hd : 1 ≤ d + 1) (x3 : Int32) (s0 : Int32) {m m' : am_Mm} {r : Int32} (h : f_Ring_movedCorner_b16 x3 s0 m = some (r, m')) : am_AW am_nw ro (d + 1) mr_Ring_movedCorner 16 [some (.ref 20), none, none, some (.int x3), none] [.int s0] (S0, m) (some (.int r)) (S0, m') := by
  unfold f_Ring_movedCorner_b16 at h
  refine am_AW.run am_base_ok ok_Ring_movedCorner (Nat.le_add_left 1 d) 6 (pc1 := 26) (ls1 := [some (.ref 20), none, none, some (.int x3), some (.int (s0 + x3))]) (st1 := [.int (m.1 20 5), .int (s0 + x3)]) (σ1 := (S0, m)) rfl ?_
  refine am_AW.brP ok_Ring_movedCorner rfl rfl am_c_lt (fun c2 => ?_) (fun c2 => ?_)
  · rw [if_pos c2] at h
    refine am_AW.run am_base_ok ok_Ring_movedCorner (Nat.le_add_left 1 d) 1 (pc1 := 41) (ls1 := [some (.ref 20), none, none, some (.int x3), some (.int (s0 + x3))]) (st1 := [.int (s0 + x3)]) (σ1 := (S0, m)) rfl ?_
    obtain ⟨rfl, rfl⟩ := Prod.mk.inj (Option.some.inj h)
    exact am_AW.ret ok_Ring_movedCorner rfl rfl rfl rfl
  · rw [if_neg c2] at h
    refine am_AW.run am_base_ok ok_Ring_movedCorner (Nat.le_add_left 1 d) 5 (pc1 := 41) (ls1 := [some (.ref 20), none, none, some (.int x3), some (.int (s0 + x3))]) (st1 := [.int ((s0 + x3) - (m.1 20 5))]) (σ1 := (S0, m)) rfl ?_
    obtain ⟨rfl, rfl⟩ := Prod.mk.inj (Option.some.inj h)
    exact am_AW.ret ok_Ring_movedCorner rfl rfl rfl rfl
set_option maxHeartbeats 4000000 in
set_option maxRecDepth 100000 in
theorem f_Ring_movedCorner_ok {ro : am_Ro} {d : Nat} (hd : 1 ≤ d) (x1 : Int32) (x2 : Int32) (x3 : Int32) {m m' : am_Mm} {r : Int32} (h : f_Ring_movedCorner x1 x2 x3 m = some (r, m')) : am_Mt am_nw ro d mr_Ring_movedCorner [.ref 20, .int x1, .int x2, .int x3] (S0, m) (some (.int r)) (S0, m') := by
  obtain ⟨d, rfl⟩ : ∃ d0, d = d0 + 1 := ⟨d - 1, by omega⟩
  refine am_Mt.of (by decide +kernel) (Nat.le_of_ble_eq_true rfl) ?_
  change am_AW am_nw ro (d + 1) mr_Ring_movedCorner 0 [some (.ref 20), some (.int x1), some (.int x2), some (.int x3), none] [] (S0, m) (some (.int r)) (S0, m')
  unfold f_Ring_movedCorner at h
  refine am_AW.run am_base_ok ok_Ring_movedCorner (Nat.le_add_left 1 d) 1 (pc1 := 1) (ls1 := [some (.ref 20), some (.int x1), some (.int x2), some (.int x3), none]) (st1 := [.int x2]) (σ1 := (S0, m)) rfl ?_
  refine am_AW.brP ok_Ring_movedCorner rfl rfl am_c_eq (fun c1 => ?_) (fun c1 => ?_)
  · rw [if_pos c1] at h
    refine am_AW.run am_base_ok ok_Ring_movedCorner (Nat.le_add_left 1 d) 1 (pc1 := 16) (ls1 := [some (.ref 20), some (.int x1), some (.int x2), some (.int x3), none]) (st1 := [.int x1]) (σ1 := (S0, m)) rfl ?_
    exact am_AW.weak (f_Ring_movedCorner_b16_ok hd x3 x1  h) (by simp only [am_le, and_self])
  · rw [if_neg c1] at h
    refine am_AW.run am_base_ok ok_Ring_movedCorner (Nat.le_add_left 1 d) 7 (pc1 := 16) (ls1 := [some (.ref 20), some (.int x1), some (.int x2), some (.int x3), none]) (st1 := [.int (((m.1 20 5) - (1 : Int32)) - x1)]) (σ1 := (S0, m)) rfl ?_
    exact am_AW.weak (f_Ring_movedCorner_b16_ok hd x3 (((m.1 20 5) - (1 : Int32)) - x1)  h) (by simp only [am_le, and_self])
/-! FriezePolygons$Ring.joinCorners(I)V -/
def f_Ring_joinCorners_b129 (k68 : Int32 → Int32 → am_Mm → Option am_Mm) (x1 : Int32) (x2 : Int32) (m : am_Mm) : Option am_Mm :=
  k68 x1 (x2 + (1 : Int32)) m
def f_Ring_joinCorners_b68 : Nat → Int32 → Int32 → am_Mm → Option am_Mm
  | 0, _, _, _ => none
  | n + 1, x1, x2, m =>
    if (m.1 20 6) ≤ x2 then
      some m
    else
      if ((am_shr x1 x2) &&& (1 : Int32)) = (1 : Int32) then
        if am_in x2 27 = true then
          if am_in (m.1 21 x2.toNatClampNeg) 9 = true then
            if am_in x2 27 = true then
              if am_in (m.1 21 x2.toNatClampNeg) 9 = true then
                if am_in x2 27 = true then
                  if am_in ((am_pI m 25 (m.1 21 x2.toNatClampNeg).toNatClampNeg ((m.1 25 (m.1 21 x2.toNatClampNeg).toNatClampNeg) ||| (am_shl (1 : Int32) (m.1 22 x2.toNatClampNeg)))).1 22 x2.toNatClampNeg) 9 = true then
                    if am_in x2 27 = true then
                      if am_in ((am_pI m 25 (m.1 21 x2.toNatClampNeg).toNatClampNeg ((m.1 25 (m.1 21 x2.toNatClampNeg).toNatClampNeg) ||| (am_shl (1 : Int32) (m.1 22 x2.toNatClampNeg)))).1 22 x2.toNatClampNeg) 9 = true then
                        f_Ring_joinCorners_b129 (f_Ring_joinCorners_b68 n) x1 x2 (am_pI (am_pI m 25 (m.1 21 x2.toNatClampNeg).toNatClampNeg ((m.1 25 (m.1 21 x2.toNatClampNeg).toNatClampNeg) ||| (am_shl (1 : Int32) (m.1 22 x2.toNatClampNeg)))) 25 ((am_pI m 25 (m.1 21 x2.toNatClampNeg).toNatClampNeg ((m.1 25 (m.1 21 x2.toNatClampNeg).toNatClampNeg) ||| (am_shl (1 : Int32) (m.1 22 x2.toNatClampNeg)))).1 22 x2.toNatClampNeg).toNatClampNeg (((am_pI m 25 (m.1 21 x2.toNatClampNeg).toNatClampNeg ((m.1 25 (m.1 21 x2.toNatClampNeg).toNatClampNeg) ||| (am_shl (1 : Int32) (m.1 22 x2.toNatClampNeg)))).1 25 ((am_pI m 25 (m.1 21 x2.toNatClampNeg).toNatClampNeg ((m.1 25 (m.1 21 x2.toNatClampNeg).toNatClampNeg) ||| (am_shl (1 : Int32) (m.1 22 x2.toNatClampNeg)))).1 22 x2.toNatClampNeg).toNatClampNeg) ||| (am_shl (1 : Int32) ((am_pI m 25 (m.1 21 x2.toNatClampNeg).toNatClampNeg ((m.1 25 (m.1 21 x2.toNatClampNeg).toNatClampNeg) ||| (am_shl (1 : Int32) (m.1 22 x2.toNatClampNeg)))).1 21 x2.toNatClampNeg))))
                      else none
                    else none
                  else none
                else none
              else none
            else none
          else none
        else none
      else
        f_Ring_joinCorners_b129 (f_Ring_joinCorners_b68 n) x1 x2 m
def f_Ring_joinCorners_b44 (k2 : Int32 → Int32 → am_Mm → Option am_Mm) (x1 : Int32) (x2 : Int32) (x3 : Int32) (s0 : Int32) (m : am_Mm) : Option am_Mm :=
  if am_in x2 9 = true then
    k2 x1 (x2 + (1 : Int32)) (am_pI m 25 x2.toNatClampNeg ((am_shl (1 : Int32) x3) ||| (am_shl (1 : Int32) s0)))
  else none
def f_Ring_joinCorners_b27 (k2 : Int32 → Int32 → am_Mm → Option am_Mm) (x1 : Int32) (x2 : Int32) (s0 : Int32) (m : am_Mm) : Option am_Mm :=
  if x2 ≤ (0 : Int32) then
    f_Ring_joinCorners_b44 k2 x1 x2 s0 ((m.1 20 5) - (1 : Int32)) m
  else
    f_Ring_joinCorners_b44 k2 x1 x2 s0 (x2 - (1 : Int32)) m
def f_Ring_joinCorners_b2 : Nat → Int32 → Int32 → am_Mm → Option am_Mm
  | 0, _, _, _ => none
  | n + 1, x1, x2, m =>
    if (m.1 20 5) ≤ x2 then
      f_Ring_joinCorners_b68 am_F x1 (0 : Int32) m
    else
      if (m.1 20 5) ≤ (x2 + (1 : Int32)) then
        f_Ring_joinCorners_b27 (f_Ring_joinCorners_b2 n) x1 x2 (0 : Int32) m
      else
        f_Ring_joinCorners_b27 (f_Ring_joinCorners_b2 n) x1 x2 (x2 + (1 : Int32)) m
def f_Ring_joinCorners (x1 : Int32) (m : am_Mm) : Option am_Mm :=
  f_Ring_joinCorners_b2 am_F x1 (0 : Int32) m
set_option maxHeartbeats 4000000 in
set_option maxRecDepth 100000 in
theorem f_Ring_joinCorners_b129_ok {ro : am_Ro} {d : Nat} (hd : 1 ≤ d + 1) {k68 : Int32 → Int32 → am_Mm → Option am_Mm} (hk68 : ∀ (x1 : Int32) (x2 : Int32) (m m' : am_Mm), k68 x1 x2 m = some m' → am_AW am_nw ro (d + 1) mr_Ring_joinCorners 68 [some (.ref 20), some (.int x1), some (.int x2), none, none] [] (S0, m) none (S0, m')) (x1 : Int32) (x2 : Int32) {m m' : am_Mm} (h : f_Ring_joinCorners_b129 k68 x1 x2 m = some m') : am_AW am_nw ro (d + 1) mr_Ring_joinCorners 129 [some (.ref 20), some (.int x1), some (.int x2), none, none] [] (S0, m) none (S0, m') := by
  unfold f_Ring_joinCorners_b129 at h
  refine am_AW.run am_base_ok ok_Ring_joinCorners (Nat.le_add_left 1 d) 2 (pc1 := 68) (ls1 := [some (.ref 20), some (.int x1), some (.int (x2 + (1 : Int32))), none, none]) (st1 := []) (σ1 := (S0, m)) rfl ?_
  exact am_AW.weak (hk68 x1 (x2 + (1 : Int32))  _ _ h) (by simp only [am_le, and_self])
set_option maxHeartbeats 4000000 in
set_option maxRecDepth 100000 in
theorem f_Ring_joinCorners_b68_all {ro : am_Ro} {d : Nat} (hd : 1 ≤ d + 1) : ∀ (n : Nat) (x1 : Int32) (x2 : Int32) (m m' : am_Mm), f_Ring_joinCorners_b68 n x1 x2 m = some m' → am_AW am_nw ro (d + 1) mr_Ring_joinCorners 68 [some (.ref 20), some (.int x1), some (.int x2), none, none] [] (S0, m) none (S0, m') := by
  intro n
  induction n with
  | zero =>
    intro x1 x2 m m' h
    rw [f_Ring_joinCorners_b68] at h
    cases h
  | succ n ih =>
    intro x1 x2 m m' h
    rw [f_Ring_joinCorners_b68] at h
    refine am_AW.run am_base_ok ok_Ring_joinCorners (Nat.le_add_left 1 d) 3 (pc1 := 73) (ls1 := [some (.ref 20), some (.int x1), some (.int x2), none, none]) (st1 := [.int (m.1 20 6), .int x2]) (σ1 := (S0, m)) rfl ?_
    refine am_AW.brP ok_Ring_joinCorners rfl rfl am_c_ge (fun c2 => ?_) (fun c2 => ?_)
    · rw [if_pos c2] at h
      obtain rfl := Option.some.inj h
      exact am_AW.ret ok_Ring_joinCorners rfl rfl rfl rfl
    · rw [if_neg c2] at h
      refine am_AW.run am_base_ok ok_Ring_joinCorners (Nat.le_add_left 1 d) 6 (pc1 := 82) (ls1 := [some (.ref 20), some (.int x1), some (.int x2), none, none]) (st1 := [.int (1 : Int32), .int ((am_shr x1 x2) &&& (1 : Int32))]) (σ1 := (S0, m)) rfl ?_
      refine am_AW.brN ok_Ring_joinCorners rfl rfl am_c_ne (fun c3 => ?_) (fun c3 => ?_)
      · rw [if_pos c3] at h
        refine am_AW.run am_base_ok ok_Ring_joinCorners (Nat.le_add_left 1 d) 5 (pc1 := 94) (ls1 := [some (.ref 20), some (.int x1), some (.int x2), none, none]) (st1 := [.int x2, .ref 21, .ref 25]) (σ1 := (S0, m)) rfl ?_
        by_cases g4 : am_in x2 27 = true
        rotate_left
        · rw [if_neg g4] at h
          cases h
        rw [if_pos g4] at h
        refine am_AW.iald ok_Ring_joinCorners (Nat.le_add_left 1 d) S0_len rfl rfl g4 ?_
        refine am_AW.run am_base_ok ok_Ring_joinCorners (Nat.le_add_left 1 d) 1 (pc1 := 96) (ls1 := [some (.ref 20), some (.int x1), some (.int x2), none, none]) (st1 := [.int (m.1 21 x2.toNatClampNeg), .ref 25, .int (m.1 21 x2.toNatClampNeg), .ref 25]) (σ1 := (S0, m)) rfl ?_
        by_cases g5 : am_in (m.1 21 x2.toNatClampNeg) 9 = true
        rotate_left
        · rw [if_neg g5] at h
          cases h
        rw [if_pos g5] at h
        refine am_AW.iald ok_Ring_joinCorners (Nat.le_add_left 1 d) S0_len rfl rfl g5 ?_
        refine am_AW.run am_base_ok ok_Ring_joinCorners (Nat.le_add_left 1 d) 4 (pc1 := 103) (ls1 := [some (.ref 20), some (.int x1), some (.int x2), none, none]) (st1 := [.int x2, .ref 22, .int (1 : Int32), .int (m.1 25 (m.1 21 x2.toNatClampNeg).toNatClampNeg), .int (m.1 21 x2.toNatClampNeg), .ref 25]) (σ1 := (S0, m)) rfl ?_
        by_cases g6 : am_in x2 27 = true
        rotate_left
        · rw [if_neg g6] at h
          cases h
        rw [if_pos g6] at h
        refine am_AW.iald ok_Ring_joinCorners (Nat.le_add_left 1 d) S0_len rfl rfl g6 ?_
        refine am_AW.run am_base_ok ok_Ring_joinCorners (Nat.le_add_left 1 d) 2 (pc1 := 106) (ls1 := [some (.ref 20), some (.int x1), some (.int x2), none, none]) (st1 := [.int ((m.1 25 (m.1 21 x2.toNatClampNeg).toNatClampNeg) ||| (am_shl (1 : Int32) (m.1 22 x2.toNatClampNeg))), .int (m.1 21 x2.toNatClampNeg), .ref 25]) (σ1 := (S0, m)) rfl ?_
        by_cases g7 : am_in (m.1 21 x2.toNatClampNeg) 9 = true
        rotate_left
        · rw [if_neg g7] at h
          cases h
        rw [if_pos g7] at h
        refine am_AW.iast ok_Ring_joinCorners (Nat.le_add_left 1 d) rfl rfl g7 ?_
        change am_AW am_nw ro (d + 1) mr_Ring_joinCorners 107 [some (.ref 20), some (.int x1), some (.int x2), none, none] [] (S0, (am_pI m 25 (m.1 21 x2.toNatClampNeg).toNatClampNeg ((m.1 25 (m.1 21 x2.toNatClampNeg).toNatClampNeg) ||| (am_shl (1 : Int32) (m.1 22 x2.toNatClampNeg))))) none (S0, m')
        refine am_AW.run am_base_ok ok_Ring_joinCorners (Nat.le_add_left 1 d) 5 (pc1 := 116) (ls1 := [some (.ref 20), some (.int x1), some (.int x2), none, none]) (st1 := [.int x2, .ref 22, .ref 25]) (σ1 := (S0, (am_pI m 25 (m.1 21 x2.toNatClampNeg).toNatClampNeg ((m.1 25 (m.1 21 x2.toNatClampNeg).toNatClampNeg) ||| (am_shl (1 : Int32) (m.1 22 x2.toNatClampNeg)))))) rfl ?_
        by_cases g8 : am_in x2 27 = true
        rotate_left
        · rw [if_neg g8] at h
          cases h
        rw [if_pos g8] at h
        refine am_AW.iald ok_Ring_joinCorners (Nat.le_add_left 1 d) S0_len rfl rfl g8 ?_
        refine am_AW.run am_base_ok ok_Ring_joinCorners (Nat.le_add_left 1 d) 1 (pc1 := 118) (ls1 := [some (.ref 20), some (.int x1), some (.int x2), none, none]) (st1 := [.int ((am_pI m 25 (m.1 21 x2.toNatClampNeg).toNatClampNeg ((m.1 25 (m.1 21 x2.toNatClampNeg).toNatClampNeg) ||| (am_shl (1 : Int32) (m.1 22 x2.toNatClampNeg)))).1 22 x2.toNatClampNeg), .ref 25, .int ((am_pI m 25 (m.1 21 x2.toNatClampNeg).toNatClampNeg ((m.1 25 (m.1 21 x2.toNatClampNeg).toNatClampNeg) ||| (am_shl (1 : Int32) (m.1 22 x2.toNatClampNeg)))).1 22 x2.toNatClampNeg), .ref 25]) (σ1 := (S0, (am_pI m 25 (m.1 21 x2.toNatClampNeg).toNatClampNeg ((m.1 25 (m.1 21 x2.toNatClampNeg).toNatClampNeg) ||| (am_shl (1 : Int32) (m.1 22 x2.toNatClampNeg)))))) rfl ?_
        by_cases g9 : am_in ((am_pI m 25 (m.1 21 x2.toNatClampNeg).toNatClampNeg ((m.1 25 (m.1 21 x2.toNatClampNeg).toNatClampNeg) ||| (am_shl (1 : Int32) (m.1 22 x2.toNatClampNeg)))).1 22 x2.toNatClampNeg) 9 = true
        rotate_left
        · rw [if_neg g9] at h
          cases h
        rw [if_pos g9] at h
        refine am_AW.iald ok_Ring_joinCorners (Nat.le_add_left 1 d) S0_len rfl rfl g9 ?_
        refine am_AW.run am_base_ok ok_Ring_joinCorners (Nat.le_add_left 1 d) 4 (pc1 := 125) (ls1 := [some (.ref 20), some (.int x1), some (.int x2), none, none]) (st1 := [.int x2, .ref 21, .int (1 : Int32), .int ((am_pI m 25 (m.1 21 x2.toNatClampNeg).toNatClampNeg ((m.1 25 (m.1 21 x2.toNatClampNeg).toNatClampNeg) ||| (am_shl (1 : Int32) (m.1 22 x2.toNatClampNeg)))).1 25 ((am_pI m 25 (m.1 21 x2.toNatClampNeg).toNatClampNeg ((m.1 25 (m.1 21 x2.toNatClampNeg).toNatClampNeg) ||| (am_shl (1 : Int32) (m.1 22 x2.toNatClampNeg)))).1 22 x2.toNatClampNeg).toNatClampNeg), .int ((am_pI m 25 (m.1 21 x2.toNatClampNeg).toNatClampNeg ((m.1 25 (m.1 21 x2.toNatClampNeg).toNatClampNeg) ||| (am_shl (1 : Int32) (m.1 22 x2.toNatClampNeg)))).1 22 x2.toNatClampNeg), .ref 25]) (σ1 := (S0, (am_pI m 25 (m.1 21 x2.toNatClampNeg).toNatClampNeg ((m.1 25 (m.1 21 x2.toNatClampNeg).toNatClampNeg) ||| (am_shl (1 : Int32) (m.1 22 x2.toNatClampNeg)))))) rfl ?_
        by_cases g10 : am_in x2 27 = true
        rotate_left
        · rw [if_neg g10] at h
          cases h
        rw [if_pos g10] at h
        refine am_AW.iald ok_Ring_joinCorners (Nat.le_add_left 1 d) S0_len rfl rfl g10 ?_
        refine am_AW.run am_base_ok ok_Ring_joinCorners (Nat.le_add_left 1 d) 2 (pc1 := 128) (ls1 := [some (.ref 20), some (.int x1), some (.int x2), none, none]) (st1 := [.int (((am_pI m 25 (m.1 21 x2.toNatClampNeg).toNatClampNeg ((m.1 25 (m.1 21 x2.toNatClampNeg).toNatClampNeg) ||| (am_shl (1 : Int32) (m.1 22 x2.toNatClampNeg)))).1 25 ((am_pI m 25 (m.1 21 x2.toNatClampNeg).toNatClampNeg ((m.1 25 (m.1 21 x2.toNatClampNeg).toNatClampNeg) ||| (am_shl (1 : Int32) (m.1 22 x2.toNatClampNeg)))).1 22 x2.toNatClampNeg).toNatClampNeg) ||| (am_shl (1 : Int32) ((am_pI m 25 (m.1 21 x2.toNatClampNeg).toNatClampNeg ((m.1 25 (m.1 21 x2.toNatClampNeg).toNatClampNeg) ||| (am_shl (1 : Int32) (m.1 22 x2.toNatClampNeg)))).1 21 x2.toNatClampNeg))), .int ((am_pI m 25 (m.1 21 x2.toNatClampNeg).toNatClampNeg ((m.1 25 (m.1 21 x2.toNatClampNeg).toNatClampNeg) ||| (am_shl (1 : Int32) (m.1 22 x2.toNatClampNeg)))).1 22 x2.toNatClampNeg), .ref 25]) (σ1 := (S0, (am_pI m 25 (m.1 21 x2.toNatClampNeg).toNatClampNeg ((m.1 25 (m.1 21 x2.toNatClampNeg).toNatClampNeg) ||| (am_shl (1 : Int32) (m.1 22 x2.toNatClampNeg)))))) rfl ?_
        by_cases g11 : am_in ((am_pI m 25 (m.1 21 x2.toNatClampNeg).toNatClampNeg ((m.1 25 (m.1 21 x2.toNatClampNeg).toNatClampNeg) ||| (am_shl (1 : Int32) (m.1 22 x2.toNatClampNeg)))).1 22 x2.toNatClampNeg) 9 = true
        rotate_left
        · rw [if_neg g11] at h
          cases h
        rw [if_pos g11] at h
        refine am_AW.iast ok_Ring_joinCorners (Nat.le_add_left 1 d) rfl rfl g11 ?_
        change am_AW am_nw ro (d + 1) mr_Ring_joinCorners 129 [some (.ref 20), some (.int x1), some (.int x2), none, none] [] (S0, (am_pI (am_pI m 25 (m.1 21 x2.toNatClampNeg).toNatClampNeg ((m.1 25 (m.1 21 x2.toNatClampNeg).toNatClampNeg) ||| (am_shl (1 : Int32) (m.1 22 x2.toNatClampNeg)))) 25 ((am_pI m 25 (m.1 21 x2.toNatClampNeg).toNatClampNeg ((m.1 25 (m.1 21 x2.toNatClampNeg).toNatClampNeg) ||| (am_shl (1 : Int32) (m.1 22 x2.toNatClampNeg)))).1 22 x2.toNatClampNeg).toNatClampNeg (((am_pI m 25 (m.1 21 x2.toNatClampNeg).toNatClampNeg ((m.1 25 (m.1 21 x2.toNatClampNeg).toNatClampNeg) ||| (am_shl (1 : Int32) (m.1 22 x2.toNatClampNeg)))).1 25 ((am_pI m 25 (m.1 21 x2.toNatClampNeg).toNatClampNeg ((m.1 25 (m.1 21 x2.toNatClampNeg).toNatClampNeg) ||| (am_shl (1 : Int32) (m.1 22 x2.toNatClampNeg)))).1 22 x2.toNatClampNeg).toNatClampNeg) ||| (am_shl (1 : Int32) ((am_pI m 25 (m.1 21 x2.toNatClampNeg).toNatClampNeg ((m.1 25 (m.1 21 x2.toNatClampNeg).toNatClampNeg) ||| (am_shl (1 : Int32) (m.1 22 x2.toNatClampNeg)))).1 21 x2.toNatClampNeg))))) none (S0, m')
        exact am_AW.weak (f_Ring_joinCorners_b129_ok hd (ih) x1 x2  h) (by simp only [am_le, and_self])
      · rw [if_neg c3] at h
        exact am_AW.weak (f_Ring_joinCorners_b129_ok hd (ih) x1 x2  h) (by simp only [am_le, and_self])
set_option maxHeartbeats 4000000 in
set_option maxRecDepth 100000 in
theorem f_Ring_joinCorners_b68_ok {ro : am_Ro} {d : Nat} (hd : 1 ≤ d + 1) (x1 : Int32) (x2 : Int32) {m m' : am_Mm} {n : Nat} (h : f_Ring_joinCorners_b68 n x1 x2 m = some m') : am_AW am_nw ro (d + 1) mr_Ring_joinCorners 68 [some (.ref 20), some (.int x1), some (.int x2), none, none] [] (S0, m) none (S0, m') :=
  f_Ring_joinCorners_b68_all hd n x1 x2  m m' h
set_option maxHeartbeats 4000000 in
set_option maxRecDepth 100000 in
theorem f_Ring_joinCorners_b44_ok {ro : am_Ro} {d : Nat} (hd : 1 ≤ d + 1) {k2 : Int32 → Int32 → am_Mm → Option am_Mm} (hk2 : ∀ (x1 : Int32) (x2 : Int32) (m m' : am_Mm), k2 x1 x2 m = some m' → am_AW am_nw ro (d + 1) mr_Ring_joinCorners 2 [some (.ref 20), some (.int x1), some (.int x2), none, none] [] (S0, m) none (S0, m')) (x1 : Int32) (x2 : Int32) (x3 : Int32) (s0 : Int32) {m m' : am_Mm} (h : f_Ring_joinCorners_b44 k2 x1 x2 x3 s0 m = some m') : am_AW am_nw ro (d + 1) mr_Ring_joinCorners 44 [some (.ref 20), some (.int x1), some (.int x2), some (.int x3), none] [.int s0] (S0, m) none (S0, m') := by
  unfold f_Ring_joinCorners_b44 at h
  refine am_AW.run am_base_ok ok_Ring_joinCorners (Nat.le_add_left 1 d) 11 (pc1 := 59) (ls1 := [some (.ref 20), some (.int x1), some (.int x2), some (.int x3), some (.int s0)]) (st1 := [.int ((am_shl (1 : Int32) x3) ||| (am_shl (1 : Int32) s0)), .int x2, .ref 25]) (σ1 := (S0, m)) rfl ?_
  by_cases g14 : am_in x2 9 = true
  rotate_left
  · rw [if_neg g14] at h
    cases h
  rw [if_pos g14] at h
  refine am_AW.iast ok_Ring_joinCorners (Nat.le_add_left 1 d) rfl rfl g14 ?_
  change am_AW am_nw ro (d + 1) mr_Ring_joinCorners 60 [some (.ref 20), some (.int x1), some (.int x2), some (.int x3), some (.int s0)] [] (S0, (am_pI m 25 x2.toNatClampNeg ((am_shl (1 : Int32) x3) ||| (am_shl (1 : Int32) s0)))) none (S0, m')
  refine am_AW.run am_base_ok ok_Ring_joinCorners (Nat.le_add_left 1 d) 2 (pc1 := 2) (ls1 := [some (.ref 20), some (.int x1), some (.int (x2 + (1 : Int32))), some (.int x3), some (.int s0)]) (st1 := []) (σ1 := (S0, (am_pI m 25 x2.toNatClampNeg ((am_shl (1 : Int32) x3) ||| (am_shl (1 : Int32) s0))))) rfl ?_
  exact am_AW.weak (hk2 x1 (x2 + (1 : Int32))  _ _ h) (by simp only [am_le, and_self])
set_option maxHeartbeats 4000000 in
set_option maxRecDepth 100000 in
theorem f_Ring_joinCorners_b27_ok {ro : am_Ro} {d : Nat} (hd : 1 ≤ d + 1) {k2 : Int32 → Int32 → am_Mm → Option am_Mm} (hk2 : ∀ (x1 : Int32) (x2 : Int32) (m m' : am_Mm), k2 x1 x2 m = some m' → am_AW am_nw ro (d + 1) mr_Ring_joinCorners 2 [some (.ref 20), some (.int x1), some (.int x2), none, none] [] (S0, m) none (S0, m')) (x1 : Int32) (x2 : Int32) (s0 : Int32) {m m' : am_Mm} (h : f_Ring_joinCorners_b27 k2 x1 x2 s0 m = some m') : am_AW am_nw ro (d + 1) mr_Ring_joinCorners 27 [some (.ref 20), some (.int x1), some (.int x2), none, none] [.int s0] (S0, m) none (S0, m') := by
  unfold f_Ring_joinCorners_b27 at h
  refine am_AW.run am_base_ok ok_Ring_joinCorners (Nat.le_add_left 1 d) 2 (pc1 := 29) (ls1 := [some (.ref 20), some (.int x1), some (.int x2), some (.int s0), none]) (st1 := [.int x2]) (σ1 := (S0, m)) rfl ?_
  refine am_AW.brP ok_Ring_joinCorners rfl rfl am_c_le (fun c13 => ?_) (fun c13 => ?_)
  · rw [if_pos c13] at h
    refine am_AW.run am_base_ok ok_Ring_joinCorners (Nat.le_add_left 1 d) 4 (pc1 := 44) (ls1 := [some (.ref 20), some (.int x1), some (.int x2), some (.int s0), none]) (st1 := [.int ((m.1 20 5) - (1 : Int32))]) (σ1 := (S0, m)) rfl ?_
    exact am_AW.weak (f_Ring_joinCorners_b44_ok hd (hk2) x1 x2 s0 ((m.1 20 5) - (1 : Int32))  h) (by simp only [am_le, and_self])
  · rw [if_neg c13] at h
    refine am_AW.run am_base_ok ok_Ring_joinCorners (Nat.le_add_left 1 d) 4 (pc1 := 44) (ls1 := [some (.ref 20), some (.int x1), some (.int x2), some (.int s0), none]) (st1 := [.int (x2 - (1 : Int32))]) (σ1 := (S0, m)) rfl ?_
    exact am_AW.weak (f_Ring_joinCorners_b44_ok hd (hk2) x1 x2 s0 (x2 - (1 : Int32))  h) (by simp only [am_le, and_self])
set_option maxHeartbeats 4000000 in
set_option maxRecDepth 100000 in
theorem f_Ring_joinCorners_b2_all {ro : am_Ro} {d : Nat} (hd : 1 ≤ d + 1) : ∀ (n : Nat) (x1 : Int32) (x2 : Int32) (m m' : am_Mm), f_Ring_joinCorners_b2 n x1 x2 m = some m' → am_AW am_nw ro (d + 1) mr_Ring_joinCorners 2 [some (.ref 20), some (.int x1), some (.int x2), none, none] [] (S0, m) none (S0, m') := by
  intro n
  induction n with
  | zero =>
    intro x1 x2 m m' h
    rw [f_Ring_joinCorners_b2] at h
    cases h
  | succ n ih =>
    intro x1 x2 m m' h
    rw [f_Ring_joinCorners_b2] at h
    refine am_AW.run am_base_ok ok_Ring_joinCorners (Nat.le_add_left 1 d) 3 (pc1 := 7) (ls1 := [some (.ref 20), some (.int x1), some (.int x2), none, none]) (st1 := [.int (m.1 20 5), .int x2]) (σ1 := (S0, m)) rfl ?_
    refine am_AW.brP ok_Ring_joinCorners rfl rfl am_c_ge (fun c1 => ?_) (fun c1 => ?_)
    · rw [if_pos c1] at h
      refine am_AW.run am_base_ok ok_Ring_joinCorners (Nat.le_add_left 1 d) 2 (pc1 := 68) (ls1 := [some (.ref 20), some (.int x1), some (.int (0 : Int32)), none, none]) (st1 := []) (σ1 := (S0, m)) rfl ?_
      exact am_AW.weak (f_Ring_joinCorners_b68_ok hd x1 (0 : Int32)  h) (by simp only [am_le, and_self])
    · rw [if_neg c1] at h
      refine am_AW.run am_base_ok ok_Ring_joinCorners (Nat.le_add_left 1 d) 5 (pc1 := 17) (ls1 := [some (.ref 20), some (.int x1), some (.int x2), none, none]) (st1 := [.int (m.1 20 5), .int (x2 + (1 : Int32))]) (σ1 := (S0, m)) rfl ?_
      refine am_AW.brP ok_Ring_joinCorners rfl rfl am_c_ge (fun c12 => ?_) (fun c12 => ?_)
      · rw [if_pos c12] at h
        refine am_AW.run am_base_ok ok_Ring_joinCorners (Nat.le_add_left 1 d) 1 (pc1 := 27) (ls1 := [some (.ref 20), some (.int x1), some (.int x2), none, none]) (st1 := [.int (0 : Int32)]) (σ1 := (S0, m)) rfl ?_
        exact am_AW.weak (f_Ring_joinCorners_b27_ok hd (ih) x1 x2 (0 : Int32)  h) (by simp only [am_le, and_self])
      · rw [if_neg c12] at h
        refine am_AW.run am_base_ok ok_Ring_joinCorners (Nat.le_add_left 1 d) 4 (pc1 := 27) (ls1 := [some (.ref 20), some (.int x1), some (.int x2), none, none]) (st1 := [.int (x2 + (1 : Int32))]) (σ1 := (S0, m)) rfl ?_
        exact am_AW.weak (f_Ring_joinCorners_b27_ok hd (ih) x1 x2 (x2 + (1 : Int32))  h) (by simp only [am_le, and_self])
set_option maxHeartbeats 4000000 in
set_option maxRecDepth 100000 in
theorem f_Ring_joinCorners_b2_ok {ro : am_Ro} {d : Nat} (hd : 1 ≤ d + 1) (x1 : Int32) (x2 : Int32) {m m' : am_Mm} {n : Nat} (h : f_Ring_joinCorners_b2 n x1 x2 m = some m') : am_AW am_nw ro (d + 1) mr_Ring_joinCorners 2 [some (.ref 20), some (.int x1), some (.int x2), none, none] [] (S0, m) none (S0, m') :=
  f_Ring_joinCorners_b2_all hd n x1 x2  m m' h
set_option maxHeartbeats 4000000 in
set_option maxRecDepth 100000 in
theorem f_Ring_joinCorners_ok {ro : am_Ro} {d : Nat} (hd : 1 ≤ d) (x1 : Int32) {m m' : am_Mm} (h : f_Ring_joinCorners x1 m = some m') : am_Mt am_nw ro d mr_Ring_joinCorners [.ref 20, .int x1] (S0, m) none (S0, m') := by
  obtain ⟨d, rfl⟩ : ∃ d0, d = d0 + 1 := ⟨d - 1, by omega⟩
  refine am_Mt.of (by decide +kernel) (Nat.le_of_ble_eq_true rfl) ?_
  change am_AW am_nw ro (d + 1) mr_Ring_joinCorners 0 [some (.ref 20), some (.int x1), none, none, none] [] (S0, m) none (S0, m')
  unfold f_Ring_joinCorners at h
  refine am_AW.run am_base_ok ok_Ring_joinCorners (Nat.le_add_left 1 d) 2 (pc1 := 2) (ls1 := [some (.ref 20), some (.int x1), some (.int (0 : Int32)), none, none]) (st1 := []) (σ1 := (S0, m)) rfl ?_
  exact am_AW.weak (f_Ring_joinCorners_b2_ok hd x1 (0 : Int32)  h) (by simp only [am_le, and_self])
/-! FriezePolygons$Ring.lowestOf(I)I -/
def f_Ring_lowestOf_b2 : Nat → Int32 → Int32 → am_Mm → Option (Int32 × am_Mm)
  | 0, _, _, _ => none
  | n + 1, x0, x1, m =>
    if (9 : Int32) ≤ x1 then
      some ((-1 : Int32), m)
    else
      if ((am_shr x0 x1) &&& (1 : Int32)) = (1 : Int32) then
        some (x1, m)
      else
        f_Ring_lowestOf_b2 n x0 (x1 + (1 : Int32)) m
def f_Ring_lowestOf (x0 : Int32) (m : am_Mm) : Option (Int32 × am_Mm) :=
  f_Ring_lowestOf_b2 am_F x0 (0 : Int32) m
set_option maxHeartbeats 4000000 in
set_option maxRecDepth 100000 in
theorem f_Ring_lowestOf_b2_all {ro : am_Ro} {d : Nat} (hd : 1 ≤ d + 1) : ∀ (n : Nat) (x0 : Int32) (x1 : Int32) (m m' : am_Mm) (r : Int32), f_Ring_lowestOf_b2 n x0 x1 m = some (r, m') → am_AW am_nw ro (d + 1) mr_Ring_lowestOf 2 [some (.int x0), some (.int x1)] [] (S0, m) (some (.int r)) (S0, m') := by
  intro n
  induction n with
  | zero =>
    intro x0 x1 m m' r h
    rw [f_Ring_lowestOf_b2] at h
    cases h
  | succ n ih =>
    intro x0 x1 m m' r h
    rw [f_Ring_lowestOf_b2] at h
    refine am_AW.run am_base_ok ok_Ring_lowestOf (Nat.le_add_left 1 d) 2 (pc1 := 5) (ls1 := [some (.int x0), some (.int x1)]) (st1 := [.int (9 : Int32), .int x1]) (σ1 := (S0, m)) rfl ?_
    refine am_AW.brP ok_Ring_lowestOf rfl rfl am_c_ge (fun c1 => ?_) (fun c1 => ?_)
    · rw [if_pos c1] at h
      refine am_AW.run am_base_ok ok_Ring_lowestOf (Nat.le_add_left 1 d) 1 (pc1 := 26) (ls1 := [some (.int x0), some (.int x1)]) (st1 := [.int (-1 : Int32)]) (σ1 := (S0, m)) rfl ?_
      obtain ⟨rfl, rfl⟩ := Prod.mk.inj (Option.some.inj h)
      exact am_AW.ret ok_Ring_lowestOf rfl rfl rfl rfl
    · rw [if_neg c1] at h
      refine am_AW.run am_base_ok ok_Ring_lowestOf (Nat.le_add_left 1 d) 6 (pc1 := 14) (ls1 := [some (.int x0), some (.int x1)]) (st1 := [.int (1 : Int32), .int ((am_shr x0 x1) &&& (1 : Int32))]) (σ1 := (S0, m)) rfl ?_
      refine am_AW.brN ok_Ring_lowestOf rfl rfl am_c_ne (fun c2 => ?_) (fun c2 => ?_)
      · rw [if_pos c2] at h
        refine am_AW.run am_base_ok ok_Ring_lowestOf (Nat.le_add_left 1 d) 1 (pc1 := 18) (ls1 := [some (.int x0), some (.int x1)]) (st1 := [.int x1]) (σ1 := (S0, m)) rfl ?_
        obtain ⟨rfl, rfl⟩ := Prod.mk.inj (Option.some.inj h)
        exact am_AW.ret ok_Ring_lowestOf rfl rfl rfl rfl
      · rw [if_neg c2] at h
        refine am_AW.run am_base_ok ok_Ring_lowestOf (Nat.le_add_left 1 d) 2 (pc1 := 2) (ls1 := [some (.int x0), some (.int (x1 + (1 : Int32)))]) (st1 := []) (σ1 := (S0, m)) rfl ?_
        exact am_AW.weak (ih x0 (x1 + (1 : Int32))  _ _ _ h) (by simp only [am_le, and_self])
set_option maxHeartbeats 4000000 in
set_option maxRecDepth 100000 in
theorem f_Ring_lowestOf_b2_ok {ro : am_Ro} {d : Nat} (hd : 1 ≤ d + 1) (x0 : Int32) (x1 : Int32) {m m' : am_Mm} {r : Int32} {n : Nat} (h : f_Ring_lowestOf_b2 n x0 x1 m = some (r, m')) : am_AW am_nw ro (d + 1) mr_Ring_lowestOf 2 [some (.int x0), some (.int x1)] [] (S0, m) (some (.int r)) (S0, m') :=
  f_Ring_lowestOf_b2_all hd n x0 x1  m m' r h
set_option maxHeartbeats 4000000 in
set_option maxRecDepth 100000 in
theorem f_Ring_lowestOf_ok {ro : am_Ro} {d : Nat} (hd : 1 ≤ d) (x0 : Int32) {m m' : am_Mm} {r : Int32} (h : f_Ring_lowestOf x0 m = some (r, m')) : am_Mt am_nw ro d mr_Ring_lowestOf [.int x0] (S0, m) (some (.int r)) (S0, m') := by
  obtain ⟨d, rfl⟩ : ∃ d0, d = d0 + 1 := ⟨d - 1, by omega⟩
  refine am_Mt.of (by decide +kernel) (Nat.le_of_ble_eq_true rfl) ?_
  change am_AW am_nw ro (d + 1) mr_Ring_lowestOf 0 [some (.int x0), none] [] (S0, m) (some (.int r)) (S0, m')
  unfold f_Ring_lowestOf at h
  refine am_AW.run am_base_ok ok_Ring_lowestOf (Nat.le_add_left 1 d) 2 (pc1 := 2) (ls1 := [some (.int x0), some (.int (0 : Int32))]) (st1 := []) (σ1 := (S0, m)) rfl ?_
  exact am_AW.weak (f_Ring_lowestOf_b2_ok hd x0 (0 : Int32)  h) (by simp only [am_le, and_self])
/-! FriezePolygons$Ring.farthest(II)I -/
def f_Ring_farthest_b14 : Nat → Int32 → Int32 → am_Mm → Option (Int32 × am_Mm)
  | 0, _, _, _ => none
  | n + 1, x1, x3, m =>
    if x3 ≤ (x1 + (1 : Int32)) then
      some ((x1 + (1 : Int32)), m)
    else
      if am_in x1 9 = true then
        if ((am_shr (m.1 25 x1.toNatClampNeg) x3) &&& (1 : Int32)) = (1 : Int32) then
          some (x3, m)
        else
          f_Ring_farthest_b14 n x1 (x3 + (-1 : Int32)) m
      else none
def f_Ring_farthest (x1 : Int32) (x2 : Int32) (m : am_Mm) : Option (Int32 × am_Mm) :=
  if x1 < (0 : Int32) then
    some (x2, m)
  else
    if x1 < (9 : Int32) then
      f_Ring_farthest_b14 am_F x1 x2 m
    else
      some (x2, m)
set_option maxHeartbeats 4000000 in
set_option maxRecDepth 100000 in
theorem f_Ring_farthest_b14_all {ro : am_Ro} {d : Nat} (hd : 1 ≤ d + 1) : ∀ (n : Nat) (x1 : Int32) (x3 : Int32) (m m' : am_Mm) (r : Int32), f_Ring_farthest_b14 n x1 x3 m = some (r, m') → am_AW am_nw ro (d + 1) mr_Ring_farthest 14 [some (.ref 20), some (.int x1), none, some (.int x3)] [] (S0, m) (some (.int r)) (S0, m') := by
  intro n
  induction n with
  | zero =>
    intro x1 x3 m m' r h
    rw [f_Ring_farthest_b14] at h
    cases h
  | succ n ih =>
    intro x1 x3 m m' r h
    rw [f_Ring_farthest_b14] at h
    refine am_AW.run am_base_ok ok_Ring_farthest (Nat.le_add_left 1 d) 4 (pc1 := 18) (ls1 := [some (.ref 20), some (.int x1), none, some (.int x3)]) (st1 := [.int (x1 + (1 : Int32)), .int x3]) (σ1 := (S0, m)) rfl ?_
    refine am_AW.brP ok_Ring_farthest rfl rfl am_c_le (fun c3 => ?_) (fun c3 => ?_)
    · rw [if_pos c3] at h
      refine am_AW.run am_base_ok ok_Ring_farthest (Nat.le_add_left 1 d) 3 (pc1 := 46) (ls1 := [some (.ref 20), some (.int x1), none, some (.int x3)]) (st1 := [.int (x1 + (1 : Int32))]) (σ1 := (S0, m)) rfl ?_
      obtain ⟨rfl, rfl⟩ := Prod.mk.inj (Option.some.inj h)
      exact am_AW.ret ok_Ring_farthest rfl rfl rfl rfl
    · rw [if_neg c3] at h
      refine am_AW.run am_base_ok ok_Ring_farthest (Nat.le_add_left 1 d) 3 (pc1 := 26) (ls1 := [some (.ref 20), some (.int x1), none, some (.int x3)]) (st1 := [.int x1, .ref 25]) (σ1 := (S0, m)) rfl ?_
      by_cases g4 : am_in x1 9 = true
      rotate_left
      · rw [if_neg g4] at h
        cases h
      rw [if_pos g4] at h
      refine am_AW.iald ok_Ring_farthest (Nat.le_add_left 1 d) S0_len rfl rfl g4 ?_
      refine am_AW.run am_base_ok ok_Ring_farthest (Nat.le_add_left 1 d) 5 (pc1 := 32) (ls1 := [some (.ref 20), some (.int x1), none, some (.int x3)]) (st1 := [.int (1 : Int32), .int ((am_shr (m.1 25 x1.toNatClampNeg) x3) &&& (1 : Int32))]) (σ1 := (S0, m)) rfl ?_
      refine am_AW.brN ok_Ring_farthest rfl rfl am_c_ne (fun c5 => ?_) (fun c5 => ?_)
      · rw [if_pos c5] at h
        refine am_AW.run am_base_ok ok_Ring_farthest (Nat.le_add_left 1 d) 1 (pc1 := 36) (ls1 := [some (.ref 20), some (.int x1), none, some (.int x3)]) (st1 := [.int x3]) (σ1 := (S0, m)) rfl ?_
        obtain ⟨rfl, rfl⟩ := Prod.mk.inj (Option.some.inj h)
        exact am_AW.ret ok_Ring_farthest rfl rfl rfl rfl
      · rw [if_neg c5] at h
        refine am_AW.run am_base_ok ok_Ring_farthest (Nat.le_add_left 1 d) 2 (pc1 := 14) (ls1 := [some (.ref 20), some (.int x1), none, some (.int (x3 + (-1 : Int32)))]) (st1 := []) (σ1 := (S0, m)) rfl ?_
        exact am_AW.weak (ih x1 (x3 + (-1 : Int32))  _ _ _ h) (by simp only [am_le, and_self])
set_option maxHeartbeats 4000000 in
set_option maxRecDepth 100000 in
theorem f_Ring_farthest_b14_ok {ro : am_Ro} {d : Nat} (hd : 1 ≤ d + 1) (x1 : Int32) (x3 : Int32) {m m' : am_Mm} {r : Int32} {n : Nat} (h : f_Ring_farthest_b14 n x1 x3 m = some (r, m')) : am_AW am_nw ro (d + 1) mr_Ring_farthest 14 [some (.ref 20), some (.int x1), none, some (.int x3)] [] (S0, m) (some (.int r)) (S0, m') :=
  f_Ring_farthest_b14_all hd n x1 x3  m m' r h
set_option maxHeartbeats 4000000 in
set_option maxRecDepth 100000 in
theorem f_Ring_farthest_ok {ro : am_Ro} {d : Nat} (hd : 1 ≤ d) (x1 : Int32) (x2 : Int32) {m m' : am_Mm} {r : Int32} (h : f_Ring_farthest x1 x2 m = some (r, m')) : am_Mt am_nw ro d mr_Ring_farthest [.ref 20, .int x1, .int x2] (S0, m) (some (.int r)) (S0, m') := by
  obtain ⟨d, rfl⟩ : ∃ d0, d = d0 + 1 := ⟨d - 1, by omega⟩
  refine am_Mt.of (by decide +kernel) (Nat.le_of_ble_eq_true rfl) ?_
  change am_AW am_nw ro (d + 1) mr_Ring_farthest 0 [some (.ref 20), some (.int x1), some (.int x2), none] [] (S0, m) (some (.int r)) (S0, m')
  unfold f_Ring_farthest at h
  refine am_AW.run am_base_ok ok_Ring_farthest (Nat.le_add_left 1 d) 1 (pc1 := 1) (ls1 := [some (.ref 20), some (.int x1), some (.int x2), none]) (st1 := [.int x1]) (σ1 := (S0, m)) rfl ?_
  refine am_AW.brP ok_Ring_farthest rfl rfl am_c_lt (fun c1 => ?_) (fun c1 => ?_)
  · rw [if_pos c1] at h
    refine am_AW.run am_base_ok ok_Ring_farthest (Nat.le_add_left 1 d) 1 (pc1 := 11) (ls1 := [some (.ref 20), some (.int x1), some (.int x2), none]) (st1 := [.int x2]) (σ1 := (S0, m)) rfl ?_
    obtain ⟨rfl, rfl⟩ := Prod.mk.inj (Option.some.inj h)
    exact am_AW.ret ok_Ring_farthest rfl rfl rfl rfl
  · rw [if_neg c1] at h
    refine am_AW.run am_base_ok ok_Ring_farthest (Nat.le_add_left 1 d) 2 (pc1 := 7) (ls1 := [some (.ref 20), some (.int x1), some (.int x2), none]) (st1 := [.int (9 : Int32), .int x1]) (σ1 := (S0, m)) rfl ?_
    refine am_AW.brP ok_Ring_farthest rfl rfl am_c_lt (fun c2 => ?_) (fun c2 => ?_)
    · rw [if_pos c2] at h
      refine am_AW.run am_base_ok ok_Ring_farthest (Nat.le_add_left 1 d) 2 (pc1 := 14) (ls1 := [some (.ref 20), some (.int x1), some (.int x2), some (.int x2)]) (st1 := []) (σ1 := (S0, m)) rfl ?_
      exact am_AW.weak (f_Ring_farthest_b14_ok hd x1 x2  h) (by simp only [am_le, and_self])
    · rw [if_neg c2] at h
      refine am_AW.run am_base_ok ok_Ring_farthest (Nat.le_add_left 1 d) 1 (pc1 := 11) (ls1 := [some (.ref 20), some (.int x1), some (.int x2), none]) (st1 := [.int x2]) (σ1 := (S0, m)) rfl ?_
      obtain ⟨rfl, rfl⟩ := Prod.mk.inj (Option.some.inj h)
      exact am_AW.ret ok_Ring_farthest rfl rfl rfl rfl
/-! FriezePolygons$Row.holds(II)Z -/
def f_Row_holds (p0 : Nat) (x1 : Int32) (x2 : Int32) (m : am_Mm) : Option (Int32 × am_Mm) :=
  if x1 < (0 : Int32) then
    some ((0 : Int32), m)
  else
    if x2 < (0 : Int32) then
      some ((0 : Int32), m)
    else
      if (m.1 p0 3) < x2 then
        some ((0 : Int32), m)
      else
        if ((m.1 p0 3) - x2) < x1 then
          some ((0 : Int32), m)
        else
          some ((1 : Int32), m)
set_option maxHeartbeats 4000000 in
set_option maxRecDepth 100000 in
theorem f_Row_holds_ok {ro : am_Ro} {d : Nat} (hd : 1 ≤ d) (p0 : Nat) (x1 : Int32) (x2 : Int32) (hp0 : p0 = 41 ∨ p0 = 43 ∨ p0 = 45 ∨ p0 = 47 ∨ p0 = 49 ∨ p0 = 51 ∨ p0 = 53 ∨ p0 = 55) {m m' : am_Mm} {r : Int32} (h : f_Row_holds p0 x1 x2 m = some (r, m')) : am_Mt am_nw ro d mr_Row_holds [.ref p0, .int x1, .int x2] (S0, m) (some (.int r)) (S0, m') := by
  obtain ⟨d, rfl⟩ : ∃ d0, d = d0 + 1 := ⟨d - 1, by omega⟩
  refine am_Mt.of (by decide +kernel) (Nat.le_of_ble_eq_true rfl) ?_
  change am_AW am_nw ro (d + 1) mr_Row_holds 0 [some (.ref p0), some (.int x1), some (.int x2)] [] (S0, m) (some (.int r)) (S0, m')
  unfold f_Row_holds at h
  refine am_AW.run am_base_ok ok_Row_holds (Nat.le_add_left 1 d) 1 (pc1 := 1) (ls1 := [some (.ref p0), some (.int x1), some (.int x2)]) (st1 := [.int x1]) (σ1 := (S0, m)) rfl ?_
  refine am_AW.brP ok_Row_holds rfl rfl am_c_lt (fun c1 => ?_) (fun c1 => ?_)
  · rw [if_pos c1] at h
    refine am_AW.run am_base_ok ok_Row_holds (Nat.le_add_left 1 d) 1 (pc1 := 31) (ls1 := [some (.ref p0), some (.int x1), some (.int x2)]) (st1 := [.int (0 : Int32)]) (σ1 := (S0, m)) rfl ?_
    obtain ⟨rfl, rfl⟩ := Prod.mk.inj (Option.some.inj h)
    exact am_AW.ret ok_Row_holds rfl rfl rfl (by decide)
  · rw [if_neg c1] at h
    refine am_AW.run am_base_ok ok_Row_holds (Nat.le_add_left 1 d) 1 (pc1 := 5) (ls1 := [some (.ref p0), some (.int x1), some (.int x2)]) (st1 := [.int x2]) (σ1 := (S0, m)) rfl ?_
    refine am_AW.brP ok_Row_holds rfl rfl am_c_lt (fun c2 => ?_) (fun c2 => ?_)
    · rw [if_pos c2] at h
      refine am_AW.run am_base_ok ok_Row_holds (Nat.le_add_left 1 d) 1 (pc1 := 31) (ls1 := [some (.ref p0), some (.int x1), some (.int x2)]) (st1 := [.int (0 : Int32)]) (σ1 := (S0, m)) rfl ?_
      obtain ⟨rfl, rfl⟩ := Prod.mk.inj (Option.some.inj h)
      exact am_AW.ret ok_Row_holds rfl rfl rfl (by decide)
    · rw [if_neg c2] at h
      refine am_AW.run am_base_ok ok_Row_holds (Nat.le_add_left 1 d) 2 (pc1 := 10) (ls1 := [some (.ref p0), some (.int x1), some (.int x2)]) (st1 := [.ref p0, .int x2]) (σ1 := (S0, m)) rfl ?_
      refine am_AW.geti ok_Row_holds (Nat.le_add_left 1 d) rfl (sh_41_43_45_47_49_51_53_55_0 hp0) rfl ?_
      refine am_AW.brP ok_Row_holds rfl rfl am_c_gt (fun c3 => ?_) (fun c3 => ?_)
      · rw [if_pos c3] at h
        refine am_AW.run am_base_ok ok_Row_holds (Nat.le_add_left 1 d) 1 (pc1 := 31) (ls1 := [some (.ref p0), some (.int x1), some (.int x2)]) (st1 := [.int (0 : Int32)]) (σ1 := (S0, m)) rfl ?_
        obtain ⟨rfl, rfl⟩ := Prod.mk.inj (Option.some.inj h)
        exact am_AW.ret ok_Row_holds rfl rfl rfl (by decide)
      · rw [if_neg c3] at h
        refine am_AW.run am_base_ok ok_Row_holds (Nat.le_add_left 1 d) 2 (pc1 := 18) (ls1 := [some (.ref p0), some (.int x1), some (.int x2)]) (st1 := [.ref p0, .int x1]) (σ1 := (S0, m)) rfl ?_
        refine am_AW.geti ok_Row_holds (Nat.le_add_left 1 d) rfl (sh_41_43_45_47_49_51_53_55_0 hp0) rfl ?_
        refine am_AW.run am_base_ok ok_Row_holds (Nat.le_add_left 1 d) 2 (pc1 := 23) (ls1 := [some (.ref p0), some (.int x1), some (.int x2)]) (st1 := [.int ((m.1 p0 3) - x2), .int x1]) (σ1 := (S0, m)) rfl ?_
        refine am_AW.brP ok_Row_holds rfl rfl am_c_gt (fun c4 => ?_) (fun c4 => ?_)
        · rw [if_pos c4] at h
          refine am_AW.run am_base_ok ok_Row_holds (Nat.le_add_left 1 d) 1 (pc1 := 31) (ls1 := [some (.ref p0), some (.int x1), some (.int x2)]) (st1 := [.int (0 : Int32)]) (σ1 := (S0, m)) rfl ?_
          obtain ⟨rfl, rfl⟩ := Prod.mk.inj (Option.some.inj h)
          exact am_AW.ret ok_Row_holds rfl rfl rfl (by decide)
        · rw [if_neg c4] at h
          refine am_AW.run am_base_ok ok_Row_holds (Nat.le_add_left 1 d) 2 (pc1 := 31) (ls1 := [some (.ref p0), some (.int x1), some (.int x2)]) (st1 := [.int (1 : Int32)]) (σ1 := (S0, m)) rfl ?_
          obtain ⟨rfl, rfl⟩ := Prod.mk.inj (Option.some.inj h)
          exact am_AW.ret ok_Row_holds rfl rfl rfl (by decide)
