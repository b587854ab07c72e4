/-! FriezePolygons$Asks.body10()I -/
def f_Asks_body10 (m : am_Mm) : Option (Int32 × am_Mm) :=
  (f_Asks_begins (10 : Int32) m).bind fun q3 =>
  some ((q3.1 38 4), q3)
set_option maxHeartbeats 4000000 in
set_option maxRecDepth 100000 in
theorem f_Asks_body10_ok {ro : am_Ro} {d : Nat} (hd : 2 ≤ d) {m m' : am_Mm} {r : Int32} (h : f_Asks_body10  m = some (r, m')) : am_Mt am_nw ro d mr_Asks_body10 [.ref 38] (S0, m) (some (.int r)) (S0, m') := by
  obtain ⟨d, rfl⟩ : ∃ d0, d = d0 + 1 := ⟨d - 1, by omega⟩
  refine am_Mt.of (by decide +kernel) (Nat.le_of_ble_eq_true rfl) ?_
  change am_AW am_nw ro (d + 1) mr_Asks_body10 0 [some (.ref 38)] [] (S0, m) (some (.int r)) (S0, m')
  unfold f_Asks_body10 at h
  refine am_AW.run am_base_ok ok_Asks_body10 (Nat.le_add_left 1 d) 2 (pc1 := 3) (ls1 := [some (.ref 38)]) (st1 := [.int (10 : Int32), .ref 38]) (σ1 := (S0, m)) rfl ?_
  obtain ⟨q3, hq3, h⟩ := Option.bind_eq_some_iff.mp h
  refine am_AW.callV ok_Asks_body10 am_nw_ok (As := [.int (10 : Int32)]) (rest := []) rfl rfl rfl oR_Asks_begins lk_Asks_31 iM_Asks_begins sE_Asks_begins (qc := kq1) rfl rfl rfl rfl (Nat.le_of_ble_eq_true rfl) (f_Asks_begins_ok (d := d) (by omega) (10 : Int32) hq3) ?_
  change am_AW am_nw ro (d + 1) mr_Asks_body10 6 [some (.ref 38)] [] (S0, q3) (some (.int r)) (S0, m')
  refine am_AW.run am_base_ok ok_Asks_body10 (Nat.le_add_left 1 d) 2 (pc1 := 10) (ls1 := [some (.ref 38)]) (st1 := [.int (q3.1 38 4)]) (σ1 := (S0, q3)) rfl ?_
  obtain ⟨rfl, rfl⟩ := Prod.mk.inj (Option.some.inj h)
  exact am_AW.ret ok_Asks_body10 rfl rfl rfl rfl
/-! FriezePolygons$Asks.body20()I -/
def f_Asks_body20 (m : am_Mm) : Option (Int32 × am_Mm) :=
  (f_Asks_begins (20 : Int32) m).bind fun q3 =>
  some ((q3.1 38 2), q3)
set_option maxHeartbeats 4000000 in
set_option maxRecDepth 100000 in
theorem f_Asks_body20_ok {ro : am_Ro} {d : Nat} (hd : 2 ≤ d) {m m' : am_Mm} {r : Int32} (h : f_Asks_body20  m = some (r, m')) : am_Mt am_nw ro d mr_Asks_body20 [.ref 38] (S0, m) (some (.int r)) (S0, m') := by
  obtain ⟨d, rfl⟩ : ∃ d0, d = d0 + 1 := ⟨d - 1, by omega⟩
  refine am_Mt.of (by decide +kernel) (Nat.le_of_ble_eq_true rfl) ?_
  change am_AW am_nw ro (d + 1) mr_Asks_body20 0 [some (.ref 38)] [] (S0, m) (some (.int r)) (S0, m')
  unfold f_Asks_body20 at h
  refine am_AW.run am_base_ok ok_Asks_body20 (Nat.le_add_left 1 d) 2 (pc1 := 3) (ls1 := [some (.ref 38)]) (st1 := [.int (20 : Int32), .ref 38]) (σ1 := (S0, m)) rfl ?_
  obtain ⟨q3, hq3, h⟩ := Option.bind_eq_some_iff.mp h
  refine am_AW.callV ok_Asks_body20 am_nw_ok (As := [.int (20 : Int32)]) (rest := []) rfl rfl rfl oR_Asks_begins lk_Asks_31 iM_Asks_begins sE_Asks_begins (qc := kq1) rfl rfl rfl rfl (Nat.le_of_ble_eq_true rfl) (f_Asks_begins_ok (d := d) (by omega) (20 : Int32) hq3) ?_
  change am_AW am_nw ro (d + 1) mr_Asks_body20 6 [some (.ref 38)] [] (S0, q3) (some (.int r)) (S0, m')
  refine am_AW.run am_base_ok ok_Asks_body20 (Nat.le_add_left 1 d) 2 (pc1 := 10) (ls1 := [some (.ref 38)]) (st1 := [.int (q3.1 38 2)]) (σ1 := (S0, q3)) rfl ?_
  obtain ⟨rfl, rfl⟩ := Prod.mk.inj (Option.some.inj h)
  exact am_AW.ret ok_Asks_body20 rfl rfl rfl rfl
/-! FriezePolygons$Ears.firstEar()I -/
def f_Ears_firstEar_b31 (k2 : Int32 → am_Mm → Option (Int32 × am_Mm)) (x1 : Int32) (m : am_Mm) : Option (Int32 × am_Mm) :=
  k2 (x1 + (1 : Int32)) m
def f_Ears_firstEar_b2 : Nat → Int32 → am_Mm → Option (Int32 × am_Mm)
  | 0, _, _ => none
  | n + 1, x1, m =>
    if (m.1 33 2) ≤ x1 then
      some ((-1 : Int32), m)
    else
      (f_Ears_isLeft x1 m).bind fun q4 =>
      if q4.1 = (0 : Int32) then
        f_Ears_firstEar_b31 (f_Ears_firstEar_b2 n) x1 q4.2
      else
        if am_in x1 9 = true then
          if (lg_cmp (q4.2.2 34 x1.toNatClampNeg) (1 : Int64)) = (0 : Int32) then
            some (x1, q4.2)
          else
            f_Ears_firstEar_b31 (f_Ears_firstEar_b2 n) x1 q4.2
        else none
def f_Ears_firstEar (m : am_Mm) : Option (Int32 × am_Mm) :=
  f_Ears_firstEar_b2 am_F (0 : Int32) m
set_option maxHeartbeats 4000000 in
set_option maxRecDepth 100000 in
theorem f_Ears_firstEar_b31_ok {ro : am_Ro} {d : Nat} (hd : 2 ≤ d + 1) {k2 : Int32 → am_Mm → Option (Int32 × am_Mm)} (hk2 : ∀ (x1 : Int32) (m m' : am_Mm) (r : Int32), k2 x1 m = some (r, m') → am_AW am_nw ro (d + 1) mr_Ears_firstEar 2 [some (.ref 33), some (.int x1)] [] (S0, m) (some (.int r)) (S0, m')) (x1 : Int32) {m m' : am_Mm} {r : Int32} (h : f_Ears_firstEar_b31 k2 x1 m = some (r, m')) : am_AW am_nw ro (d + 1) mr_Ears_firstEar 31 [some (.ref 33), some (.int x1)] [] (S0, m) (some (.int r)) (S0, m') := by
  unfold f_Ears_firstEar_b31 at h
  refine am_AW.run am_base_ok ok_Ears_firstEar (Nat.le_add_left 1 d) 2 (pc1 := 2) (ls1 := [some (.ref 33), some (.int (x1 + (1 : Int32)))]) (st1 := []) (σ1 := (S0, m)) rfl ?_
  exact am_AW.weak (hk2 (x1 + (1 : Int32))  _ _ _ h) (by simp only [am_le, and_self])
set_option maxHeartbeats 4000000 in
set_option maxRecDepth 100000 in
theorem f_Ears_firstEar_b2_all {ro : am_Ro} {d : Nat} (hd : 2 ≤ d + 1) : ∀ (n : Nat) (x1 : Int32) (m m' : am_Mm) (r : Int32), f_Ears_firstEar_b2 n x1 m = some (r, m') → am_AW am_nw ro (d + 1) mr_Ears_firstEar 2 [some (.ref 33), some (.int x1)] [] (S0, m) (some (.int r)) (S0, m') := by
  intro n
  induction n with
  | zero =>
    intro x1 m m' r h
    rw [f_Ears_firstEar_b2] at h
    cases h
  | succ n ih =>
    intro x1 m m' r h
    rw [f_Ears_firstEar_b2] at h
    refine am_AW.run am_base_ok ok_Ears_firstEar (Nat.le_add_left 1 d) 3 (pc1 := 7) (ls1 := [some (.ref 33), some (.int x1)]) (st1 := [.int (m.1 33 2), .int x1]) (σ1 := (S0, m)) rfl ?_
    refine am_AW.brP ok_Ears_firstEar rfl rfl am_c_ge (fun c1 => ?_) (fun c1 => ?_)
    · rw [if_pos c1] at h
      refine am_AW.run am_base_ok ok_Ears_firstEar (Nat.le_add_left 1 d) 1 (pc1 := 38) (ls1 := [some (.ref 33), some (.int x1)]) (st1 := [.int (-1 : Int32)]) (σ1 := (S0, m)) rfl ?_
      obtain ⟨rfl, rfl⟩ := Prod.mk.inj (Option.some.inj h)
      exact am_AW.ret ok_Ears_firstEar rfl rfl rfl rfl
    · rw [if_neg c1] at h
      refine am_AW.run am_base_ok ok_Ears_firstEar (Nat.le_add_left 1 d) 2 (pc1 := 12) (ls1 := [some (.ref 33), some (.int x1)]) (st1 := [.int x1, .ref 33]) (σ1 := (S0, m)) rfl ?_
      obtain ⟨q4, hq4, h⟩ := Option.bind_eq_some_iff.mp h
      refine am_AW.callV ok_Ears_firstEar am_nw_ok (As := [.int x1]) (rest := []) rfl rfl rfl oR_Ears_isLeft lk_Ears_50 iM_Ears_isLeft sE_Ears_isLeft (qc := kq2) rfl rfl rfl rfl (Nat.le_of_ble_eq_true rfl) (f_Ears_isLeft_ok (d := d) (by omega) x1 hq4) ?_
      change am_AW am_nw ro (d + 1) mr_Ears_firstEar 15 [some (.ref 33), some (.int x1)] [.int q4.1] (S0, q4.2) (some (.int r)) (S0, m')
      refine am_AW.brP ok_Ears_firstEar rfl rfl am_c_eq (fun c5 => ?_) (fun c5 => ?_)
      · rw [if_pos c5] at h
        exact am_AW.weak (f_Ears_firstEar_b31_ok hd (ih) x1  h) (by simp only [am_le, and_self])
      · rw [if_neg c5] at h
        refine am_AW.run am_base_ok ok_Ears_firstEar (Nat.le_add_left 1 d) 3 (pc1 := 23) (ls1 := [some (.ref 33), some (.int x1)]) (st1 := [.int x1, .ref 34]) (σ1 := (S0, q4.2)) rfl ?_
        by_cases g6 : am_in x1 9 = true
        rotate_left
        · rw [if_neg g6] at h
          cases h
        rw [if_pos g6] at h
        refine am_AW.lald ok_Ears_firstEar (Nat.le_add_left 1 d) rfl rfl g6 ?_
        refine am_AW.run am_base_ok ok_Ears_firstEar (Nat.le_add_left 1 d) 2 (pc1 := 26) (ls1 := [some (.ref 33), some (.int x1)]) (st1 := [.int (lg_cmp (q4.2.2 34 x1.toNatClampNeg) (1 : Int64))]) (σ1 := (S0, q4.2)) rfl ?_
        refine am_AW.brN ok_Ears_firstEar rfl rfl am_c_ne (fun c7 => ?_) (fun c7 => ?_)
        · rw [if_pos c7] at h
          refine am_AW.run am_base_ok ok_Ears_firstEar (Nat.le_add_left 1 d) 1 (pc1 := 30) (ls1 := [some (.ref 33), some (.int x1)]) (st1 := [.int x1]) (σ1 := (S0, q4.2)) rfl ?_
          obtain ⟨rfl, rfl⟩ := Prod.mk.inj (Option.some.inj h)
          exact am_AW.ret ok_Ears_firstEar rfl rfl rfl rfl
        · rw [if_neg c7] at h
          exact am_AW.weak (f_Ears_firstEar_b31_ok hd (ih) x1  h) (by simp only [am_le, and_self])
set_option maxHeartbeats 4000000 in
set_option maxRecDepth 100000 in
theorem f_Ears_firstEar_b2_ok {ro : am_Ro} {d : Nat} (hd : 2 ≤ d + 1) (x1 : Int32) {m m' : am_Mm} {r : Int32} {n : Nat} (h : f_Ears_firstEar_b2 n x1 m = some (r, m')) : am_AW am_nw ro (d + 1) mr_Ears_firstEar 2 [some (.ref 33), some (.int x1)] [] (S0, m) (some (.int r)) (S0, m') :=
  f_Ears_firstEar_b2_all hd n x1  m m' r h
set_option maxHeartbeats 4000000 in
set_option maxRecDepth 100000 in
theorem f_Ears_firstEar_ok {ro : am_Ro} {d : Nat} (hd : 2 ≤ d) {m m' : am_Mm} {r : Int32} (h : f_Ears_firstEar  m = some (r, m')) : am_Mt am_nw ro d mr_Ears_firstEar [.ref 33] (S0, m) (some (.int r)) (S0, m') := by
  obtain ⟨d, rfl⟩ : ∃ d0, d = d0 + 1 := ⟨d - 1, by omega⟩
  refine am_Mt.of (by decide +kernel) (Nat.le_of_ble_eq_true rfl) ?_
  change am_AW am_nw ro (d + 1) mr_Ears_firstEar 0 [some (.ref 33), none] [] (S0, m) (some (.int r)) (S0, m')
  unfold f_Ears_firstEar at h
  refine am_AW.run am_base_ok ok_Ears_firstEar (Nat.le_add_left 1 d) 2 (pc1 := 2) (ls1 := [some (.ref 33), some (.int (0 : Int32))]) (st1 := []) (σ1 := (S0, m)) rfl ?_
  exact am_AW.weak (f_Ears_firstEar_b2_ok hd (0 : Int32)  h) (by simp only [am_le, and_self])
/-! FriezePolygons$Ears.beside(II)I -/
def f_Ears_beside_b36 (k5 : Int32 → Int32 → Int32 → Int32 → am_Mm → Option (Int32 × am_Mm)) (x1 : Int32) (x2 : Int32) (x4 : Int32) (s0 : Int32) (m : am_Mm) : Option (Int32 × am_Mm) :=
  (f_Ears_isLeft s0 m).bind fun q5 =>
  if q5.1 = (0 : Int32) then
    k5 x1 x2 s0 (x4 + (1 : Int32)) q5.2
  else
    some (s0, q5.2)
def f_Ears_beside_b5 : Nat → Int32 → Int32 → Int32 → Int32 → am_Mm → Option (Int32 × am_Mm)
  | 0, _, _, _, _, _ => none
  | n + 1, x1, x2, x3, x4, m =>
    if (m.1 33 2) ≤ x4 then
      some (x1, m)
    else
      if (x3 + x2) < (m.1 33 2) then
        f_Ears_beside_b36 (f_Ears_beside_b5 n) x1 x2 x4 (x3 + x2) m
      else
        f_Ears_beside_b36 (f_Ears_beside_b5 n) x1 x2 x4 ((x3 + x2) - (m.1 33 2)) m
def f_Ears_beside (x1 : Int32) (x2 : Int32) (m : am_Mm) : Option (Int32 × am_Mm) :=
  f_Ears_beside_b5 am_F x1 x2 x1 (0 : Int32) m
set_option maxHeartbeats 4000000 in
set_option maxRecDepth 100000 in
theorem f_Ears_beside_b36_ok {ro : am_Ro} {d : Nat} (hd : 2 ≤ d + 1) {k5 : Int32 → Int32 → Int32 → Int32 → am_Mm → Option (Int32 × am_Mm)} (hk5 : ∀ (x1 : Int32) (x2 : Int32) (x3 : Int32) (x4 : Int32) (m m' : am_Mm) (r : Int32), k5 x1 x2 x3 x4 m = some (r, m') → am_AW am_nw ro (d + 1) mr_Ears_beside 5 [some (.ref 33), some (.int x1), some (.int x2), some (.int x3), some (.int x4)] [] (S0, m) (some (.int r)) (S0, m')) (x1 : Int32) (x2 : Int32) (x4 : Int32) (s0 : Int32) {m m' : am_Mm} {r : Int32} (h : f_Ears_beside_b36 k5 x1 x2 x4 s0 m = some (r, m')) : am_AW am_nw ro (d + 1) mr_Ears_beside 36 [some (.ref 33), some (.int x1), some (.int x2), none, some (.int x4)] [.int s0] (S0, m) (some (.int r)) (S0, m') := by
  unfold f_Ears_beside_b36 at h
  refine am_AW.run am_base_ok ok_Ears_beside (Nat.le_add_left 1 d) 3 (pc1 := 39) (ls1 := [some (.ref 33), some (.int x1), some (.int x2), some (.int s0), some (.int x4)]) (st1 := [.int s0, .ref 33]) (σ1 := (S0, m)) rfl ?_
  obtain ⟨q5, hq5, h⟩ := Option.bind_eq_some_iff.mp h
  refine am_AW.callV ok_Ears_beside am_nw_ok (As := [.int s0]) (rest := []) rfl rfl rfl oR_Ears_isLeft lk_Ears_50 iM_Ears_isLeft sE_Ears_isLeft (qc := kq2) rfl rfl rfl rfl (Nat.le_of_ble_eq_true rfl) (f_Ears_isLeft_ok (d := d) (by omega) s0 hq5) ?_
  change am_AW am_nw ro (d + 1) mr_Ears_beside 42 [some (.ref 33), some (.int x1), some (.int x2), some (.int s0), some (.int x4)] [.int q5.1] (S0, q5.2) (some (.int r)) (S0, m')
  refine am_AW.brP ok_Ears_beside rfl rfl am_c_eq (fun c6 => ?_) (fun c6 => ?_)
  · rw [if_pos c6] at h
    refine am_AW.run am_base_ok ok_Ears_beside (Nat.le_add_left 1 d) 2 (pc1 := 5) (ls1 := [some (.ref 33), some (.int x1), some (.int x2), some (.int s0), some (.int (x4 + (1 : Int32)))]) (st1 := []) (σ1 := (S0, q5.2)) rfl ?_
    exact am_AW.weak (hk5 x1 x2 s0 (x4 + (1 : Int32))  _ _ _ h) (by simp only [am_le, and_self])
  · rw [if_neg c6] at h
    refine am_AW.run am_base_ok ok_Ears_beside (Nat.le_add_left 1 d) 1 (pc1 := 46) (ls1 := [some (.ref 33), some (.int x1), some (.int x2), some (.int s0), some (.int x4)]) (st1 := [.int s0]) (σ1 := (S0, q5.2)) rfl ?_
    obtain ⟨rfl, rfl⟩ := Prod.mk.inj (Option.some.inj h)
    exact am_AW.ret ok_Ears_beside rfl rfl rfl rfl
set_option maxHeartbeats 4000000 in
set_option maxRecDepth 100000 in
theorem f_Ears_beside_b5_all {ro : am_Ro} {d : Nat} (hd : 2 ≤ d + 1) : ∀ (n : Nat) (x1 : Int32) (x2 : Int32) (x3 : Int32) (x4 : Int32) (m m' : am_Mm) (r : Int32), f_Ears_beside_b5 n x1 x2 x3 x4 m = some (r, m') → am_AW am_nw ro (d + 1) mr_Ears_beside 5 [some (.ref 33), some (.int x1), some (.int x2), some (.int x3), some (.int x4)] [] (S0, m) (some (.int r)) (S0, m') := by
  intro n
  induction n with
  | zero =>
    intro x1 x2 x3 x4 m m' r h
    rw [f_Ears_beside_b5] at h
    cases h
  | succ n ih =>
    intro x1 x2 x3 x4 m m' r h
    rw [f_Ears_beside_b5] at h
    refine am_AW.run am_base_ok ok_Ears_beside (Nat.le_add_left 1 d) 3 (pc1 := 11) (ls1 := [some (.ref 33), some (.int x1), some (.int x2), some (.int x3), some (.int x4)]) (st1 := [.int (m.1 33 2), .int x4]) (σ1 := (S0, m)) rfl ?_
    refine am_AW.brP ok_Ears_beside rfl rfl am_c_ge (fun c1 => ?_) (fun c1 => ?_)
    · rw [if_pos c1] at h
      refine am_AW.run am_base_ok ok_Ears_beside (Nat.le_add_left 1 d) 1 (pc1 := 54) (ls1 := [some (.ref 33), some (.int x1), some (.int x2), some (.int x3), some (.int x4)]) (st1 := [.int x1]) (σ1 := (S0, m)) rfl ?_
      obtain ⟨rfl, rfl⟩ := Prod.mk.inj (Option.some.inj h)
      exact am_AW.ret ok_Ears_beside rfl rfl rfl rfl
    · rw [if_neg c1] at h
      refine am_AW.run am_base_ok ok_Ears_beside (Nat.le_add_left 1 d) 7 (pc1 := 23) (ls1 := [some (.ref 33), some (.int x1), some (.int x2), some (.int (x3 + x2)), some (.int x4)]) (st1 := [.int (m.1 33 2), .int (x3 + x2)]) (σ1 := (S0, m)) rfl ?_
      refine am_AW.brP ok_Ears_beside rfl rfl am_c_lt (fun c2 => ?_) (fun c2 => ?_)
      · rw [if_pos c2] at h
        refine am_AW.run am_base_ok ok_Ears_beside (Nat.le_add_left 1 d) 1 (pc1 := 36) (ls1 := [some (.ref 33), some (.int x1), some (.int x2), some (.int (x3 + x2)), some (.int x4)]) (st1 := [.int (x3 + x2)]) (σ1 := (S0, m)) rfl ?_
        exact am_AW.weak (f_Ears_beside_b36_ok hd (ih) x1 x2 x4 (x3 + x2)  h) (by simp only [am_le, and_self])
      · rw [if_neg c2] at h
        refine am_AW.run am_base_ok ok_Ears_beside (Nat.le_add_left 1 d) 5 (pc1 := 36) (ls1 := [some (.ref 33), some (.int x1), some (.int x2), some (.int (x3 + x2)), some (.int x4)]) (st1 := [.int ((x3 + x2) - (m.1 33 2))]) (σ1 := (S0, m)) rfl ?_
        exact am_AW.weak (f_Ears_beside_b36_ok hd (ih) x1 x2 x4 ((x3 + x2) - (m.1 33 2))  h) (by simp only [am_le, and_self])
set_option maxHeartbeats 4000000 in
set_option maxRecDepth 100000 in
theorem f_Ears_beside_b5_ok {ro : am_Ro} {d : Nat} (hd : 2 ≤ d + 1) (x1 : Int32) (x2 : Int32) (x3 : Int32) (x4 : Int32) {m m' : am_Mm} {r : Int32} {n : Nat} (h : f_Ears_beside_b5 n x1 x2 x3 x4 m = some (r, m')) : am_AW am_nw ro (d + 1) mr_Ears_beside 5 [some (.ref 33), some (.int x1), some (.int x2), some (.int x3), some (.int x4)] [] (S0, m) (some (.int r)) (S0, m') :=
  f_Ears_beside_b5_all hd n x1 x2 x3 x4  m m' r h
set_option maxHeartbeats 4000000 in
set_option maxRecDepth 100000 in
theorem f_Ears_beside_ok {ro : am_Ro} {d : Nat} (hd : 2 ≤ d) (x1 : Int32) (x2 : Int32) {m m' : am_Mm} {r : Int32} (h : f_Ears_beside x1 x2 m = some (r, m')) : am_Mt am_nw ro d mr_Ears_beside [.ref 33, .int x1, .int x2] (S0, m) (some (.int r)) (S0, m') := by
  obtain ⟨d, rfl⟩ : ∃ d0, d = d0 + 1 := ⟨d - 1, by omega⟩
  refine am_Mt.of (by decide +kernel) (Nat.le_of_ble_eq_true rfl) ?_
  change am_AW am_nw ro (d + 1) mr_Ears_beside 0 [some (.ref 33), some (.int x1), some (.int x2), none, none] [] (S0, m) (some (.int r)) (S0, m')
  unfold f_Ears_beside at h
  refine am_AW.run am_base_ok ok_Ears_beside (Nat.le_add_left 1 d) 4 (pc1 := 5) (ls1 := [some (.ref 33), some (.int x1), some (.int x2), some (.int x1), some (.int (0 : Int32))]) (st1 := []) (σ1 := (S0, m)) rfl ?_
  exact am_AW.weak (f_Ears_beside_b5_ok hd x1 x2 x1 (0 : Int32)  h) (by simp only [am_le, and_self])
/-! FriezePolygons$Ears.isThreeOnes()Z -/
def f_Ears_isThreeOnes_b31 (k2 : Int32 → am_Mm → Option (Int32 × am_Mm)) (x1 : Int32) (m : am_Mm) : Option (Int32 × am_Mm) :=
  k2 (x1 + (1 : Int32)) m
def f_Ears_isThreeOnes_b2 : Nat → Int32 → am_Mm → Option (Int32 × am_Mm)
  | 0, _, _ => none
  | n + 1, x1, m =>
    if (m.1 33 2) ≤ x1 then
      some ((1 : Int32), m)
    else
      (f_Ears_isLeft x1 m).bind fun q4 =>
      if q4.1 = (0 : Int32) then
        f_Ears_isThreeOnes_b31 (f_Ears_isThreeOnes_b2 n) x1 q4.2
      else
        if am_in x1 9 = true then
          if (lg_cmp (q4.2.2 34 x1.toNatClampNeg) (1 : Int64)) = (0 : Int32) then
            f_Ears_isThreeOnes_b31 (f_Ears_isThreeOnes_b2 n) x1 q4.2
          else
            some ((0 : Int32), q4.2)
        else none
def f_Ears_isThreeOnes (m : am_Mm) : Option (Int32 × am_Mm) :=
  f_Ears_isThreeOnes_b2 am_F (0 : Int32) m
set_option maxHeartbeats 4000000 in
set_option maxRecDepth 100000 in
theorem f_Ears_isThreeOnes_b31_ok {ro : am_Ro} {d : Nat} (hd : 2 ≤ d + 1) {k2 : Int32 → am_Mm → Option (Int32 × am_Mm)} (hk2 : ∀ (x1 : Int32) (m m' : am_Mm) (r : Int32), k2 x1 m = some (r, m') → am_AW am_nw ro (d + 1) mr_Ears_isThreeOnes 2 [some (.ref 33), some (.int x1)] [] (S0, m) (some (.int r)) (S0, m')) (x1 : Int32) {m m' : am_Mm} {r : Int32} (h : f_Ears_isThreeOnes_b31 k2 x1 m = some (r, m')) : am_AW am_nw ro (d + 1) mr_Ears_isThreeOnes 31 [some (.ref 33), some (.int x1)] [] (S0, m) (some (.int r)) (S0, m') := by
  unfold f_Ears_isThreeOnes_b31 at h
  refine am_AW.run am_base_ok ok_Ears_isThreeOnes (Nat.le_add_left 1 d) 2 (pc1 := 2) (ls1 := [some (.ref 33), some (.int (x1 + (1 : Int32)))]) (st1 := []) (σ1 := (S0, m)) rfl ?_
  exact am_AW.weak (hk2 (x1 + (1 : Int32))  _ _ _ h) (by simp only [am_le, and_self])
set_option maxHeartbeats 4000000 in
set_option maxRecDepth 100000 in
theorem f_Ears_isThreeOnes_b2_all {ro : am_Ro} {d : Nat} (hd : 2 ≤ d + 1) : ∀ (n : Nat) (x1 : Int32) (m m' : am_Mm) (r : Int32), f_Ears_isThreeOnes_b2 n x1 m = some (r, m') → am_AW am_nw ro (d + 1) mr_Ears_isThreeOnes 2 [some (.ref 33), some (.int x1)] [] (S0, m) (some (.int r)) (S0, m') := by
  intro n
  induction n with
  | zero =>
    intro x1 m m' r h
    rw [f_Ears_isThreeOnes_b2] at h
    cases h
  | succ n ih =>
    intro x1 m m' r h
    rw [f_Ears_isThreeOnes_b2] at h
    refine am_AW.run am_base_ok ok_Ears_isThreeOnes (Nat.le_add_left 1 d) 3 (pc1 := 7) (ls1 := [some (.ref 33), some (.int x1)]) (st1 := [.int (m.1 33 2), .int x1]) (σ1 := (S0, m)) rfl ?_
    refine am_AW.brP ok_Ears_isThreeOnes rfl rfl am_c_ge (fun c1 => ?_) (fun c1 => ?_)
    · rw [if_pos c1] at h
      refine am_AW.run am_base_ok ok_Ears_isThreeOnes (Nat.le_add_left 1 d) 1 (pc1 := 38) (ls1 := [some (.ref 33), some (.int x1)]) (st1 := [.int (1 : Int32)]) (σ1 := (S0, m)) rfl ?_
      obtain ⟨rfl, rfl⟩ := Prod.mk.inj (Option.some.inj h)
      exact am_AW.ret ok_Ears_isThreeOnes rfl rfl rfl (by decide)
    · rw [if_neg c1] at h
      refine am_AW.run am_base_ok ok_Ears_isThreeOnes (Nat.le_add_left 1 d) 2 (pc1 := 12) (ls1 := [some (.ref 33), some (.int x1)]) (st1 := [.int x1, .ref 33]) (σ1 := (S0, m)) rfl ?_
      obtain ⟨q4, hq4, h⟩ := Option.bind_eq_some_iff.mp h
      refine am_AW.callV ok_Ears_isThreeOnes am_nw_ok (As := [.int x1]) (rest := []) rfl rfl rfl oR_Ears_isLeft lk_Ears_50 iM_Ears_isLeft sE_Ears_isLeft (qc := kq2) rfl rfl rfl rfl (Nat.le_of_ble_eq_true rfl) (f_Ears_isLeft_ok (d := d) (by omega) x1 hq4) ?_
      change am_AW am_nw ro (d + 1) mr_Ears_isThreeOnes 15 [some (.ref 33), some (.int x1)] [.int q4.1] (S0, q4.2) (some (.int r)) (S0, m')
      refine am_AW.brP ok_Ears_isThreeOnes rfl rfl am_c_eq (fun c5 => ?_) (fun c5 => ?_)
      · rw [if_pos c5] at h
        exact am_AW.weak (f_Ears_isThreeOnes_b31_ok hd (ih) x1  h) (by simp only [am_le, and_self])
      · rw [if_neg c5] at h
        refine am_AW.run am_base_ok ok_Ears_isThreeOnes (Nat.le_add_left 1 d) 3 (pc1 := 23) (ls1 := [some (.ref 33), some (.int x1)]) (st1 := [.int x1, .ref 34]) (σ1 := (S0, q4.2)) rfl ?_
        by_cases g6 : am_in x1 9 = true
        rotate_left
        · rw [if_neg g6] at h
          cases h
        rw [if_pos g6] at h
        refine am_AW.lald ok_Ears_isThreeOnes (Nat.le_add_left 1 d) rfl rfl g6 ?_
        refine am_AW.run am_base_ok ok_Ears_isThreeOnes (Nat.le_add_left 1 d) 2 (pc1 := 26) (ls1 := [some (.ref 33), some (.int x1)]) (st1 := [.int (lg_cmp (q4.2.2 34 x1.toNatClampNeg) (1 : Int64))]) (σ1 := (S0, q4.2)) rfl ?_
        refine am_AW.brP ok_Ears_isThreeOnes rfl rfl am_c_eq (fun c7 => ?_) (fun c7 => ?_)
        · rw [if_pos c7] at h
          exact am_AW.weak (f_Ears_isThreeOnes_b31_ok hd (ih) x1  h) (by simp only [am_le, and_self])
        · rw [if_neg c7] at h
          refine am_AW.run am_base_ok ok_Ears_isThreeOnes (Nat.le_add_left 1 d) 1 (pc1 := 30) (ls1 := [some (.ref 33), some (.int x1)]) (st1 := [.int (0 : Int32)]) (σ1 := (S0, q4.2)) rfl ?_
          obtain ⟨rfl, rfl⟩ := Prod.mk.inj (Option.some.inj h)
          exact am_AW.ret ok_Ears_isThreeOnes rfl rfl rfl (by decide)
set_option maxHeartbeats 4000000 in
set_option maxRecDepth 100000 in
theorem f_Ears_isThreeOnes_b2_ok {ro : am_Ro} {d : Nat} (hd : 2 ≤ d + 1) (x1 : Int32) {m m' : am_Mm} {r : Int32} {n : Nat} (h : f_Ears_isThreeOnes_b2 n x1 m = some (r, m')) : am_AW am_nw ro (d + 1) mr_Ears_isThreeOnes 2 [some (.ref 33), some (.int x1)] [] (S0, m) (some (.int r)) (S0, m') :=
  f_Ears_isThreeOnes_b2_all hd n x1  m m' r h
set_option maxHeartbeats 4000000 in
set_option maxRecDepth 100000 in
theorem f_Ears_isThreeOnes_ok {ro : am_Ro} {d : Nat} (hd : 2 ≤ d) {m m' : am_Mm} {r : Int32} (h : f_Ears_isThreeOnes  m = some (r, m')) : am_Mt am_nw ro d mr_Ears_isThreeOnes [.ref 33] (S0, m) (some (.int r)) (S0, m') := by
  obtain ⟨d, rfl⟩ : ∃ d0, d = d0 + 1 := ⟨d - 1, by omega⟩
  refine am_Mt.of (by decide +kernel) (Nat.le_of_ble_eq_true rfl) ?_
  change am_AW am_nw ro (d + 1) mr_Ears_isThreeOnes 0 [some (.ref 33), none] [] (S0, m) (some (.int r)) (S0, m')
  unfold f_Ears_isThreeOnes at h
  refine am_AW.run am_base_ok ok_Ears_isThreeOnes (Nat.le_add_left 1 d) 2 (pc1 := 2) (ls1 := [some (.ref 33), some (.int (0 : Int32))]) (st1 := []) (σ1 := (S0, m)) rfl ?_
  exact am_AW.weak (f_Ears_isThreeOnes_b2_ok hd (0 : Int32)  h) (by simp only [am_le, and_self])
/-! FriezePolygons$Frieze.grow(II)Z -/
def f_Frieze_grow_b114 (k19 : Int32 → Int32 → Int32 → am_Mm → Option (Int32 × am_Mm)) (x2 : Int32) (x3 : Int32) (x4 : Int32) (x5 : Int64) (x7 : Int64) (s0 : Int32) (m : am_Mm) : Option (Int32 × am_Mm) :=
  if s0 = (0 : Int32) then
    if am_in x3 9 = true then
      if am_in (x4 - (1 : Int32)) 21 = true then
        (f_Frieze_isWithin (m.1 31 x3.toNatClampNeg) (m.2 32 (x4 - (1 : Int32)).toNatClampNeg) x5 m).bind fun q14 =>
        if q14.1 = (0 : Int32) then
          some ((0 : Int32), q14.2)
        else
          if am_in x4 21 = true then
            k19 x2 x3 (x4 + (1 : Int32)) (am_pL q14.2 32 x4.toNatClampNeg x7)
          else none
      else none
    else none
  else
    some ((0 : Int32), m)
def f_Frieze_grow_b52 (k19 : Int32 → Int32 → Int32 → am_Mm → Option (Int32 × am_Mm)) (x2 : Int32) (x4 : Int32) (s0 : Int32) (m : am_Mm) : Option (Int32 × am_Mm) :=
  if am_in s0 9 = true then
    if am_in (x4 - (1 : Int32)) 21 = true then
      if am_in (x4 - (2 : Int32)) 21 = true then
        if am_in (x4 - (2 : Int32)) 21 = true then
          if (0 : Int32) ≤ (lg_cmp (((((m.1 31 s0.toNatClampNeg).toInt64) * (m.2 32 (x4 - (1 : Int32)).toNatClampNeg)) ^^^ (m.2 32 (x4 - (2 : Int32)).toNatClampNeg)) &&& ((((m.1 31 s0.toNatClampNeg).toInt64) * (m.2 32 (x4 - (1 : Int32)).toNatClampNeg)) ^^^ ((((m.1 31 s0.toNatClampNeg).toInt64) * (m.2 32 (x4 - (1 : Int32)).toNatClampNeg)) - (m.2 32 (x4 - (2 : Int32)).toNatClampNeg)))) (0 : Int64)) then
            f_Frieze_grow_b114 k19 x2 s0 x4 (((m.1 31 s0.toNatClampNeg).toInt64) * (m.2 32 (x4 - (1 : Int32)).toNatClampNeg)) ((((m.1 31 s0.toNatClampNeg).toInt64) * (m.2 32 (x4 - (1 : Int32)).toNatClampNeg)) - (m.2 32 (x4 - (2 : Int32)).toNatClampNeg)) (0 : Int32) m
          else
            f_Frieze_grow_b114 k19 x2 s0 x4 (((m.1 31 s0.toNatClampNeg).toInt64) * (m.2 32 (x4 - (1 : Int32)).toNatClampNeg)) ((((m.1 31 s0.toNatClampNeg).toInt64) * (m.2 32 (x4 - (1 : Int32)).toNatClampNeg)) - (m.2 32 (x4 - (2 : Int32)).toNatClampNeg)) (1 : Int32) m
        else none
      else none
    else none
  else none
def f_Frieze_grow_b19 : Nat → Int32 → Int32 → Int32 → am_Mm → Option (Int32 × am_Mm)
  | 0, _, _, _, _ => none
  | n + 1, x2, x3, x4, m =>
    if x2 < x4 then
      some ((1 : Int32), m)
    else
      if (Int32.ofNat 21) ≤ x4 then
        some ((1 : Int32), m)
      else
        if (m.1 30 2) ≤ (x3 + (1 : Int32)) then
          f_Frieze_grow_b52 (f_Frieze_grow_b19 n) x2 x4 (0 : Int32) m
        else
          f_Frieze_grow_b52 (f_Frieze_grow_b19 n) x2 x4 (x3 + (1 : Int32)) m
def f_Frieze_grow (x1 : Int32) (x2 : Int32) (m : am_Mm) : Option (Int32 × am_Mm) :=
  f_Frieze_grow_b19 am_F x2 x1 (2 : Int32) (am_pL (am_pL m 32 0 (0 : Int64)) 32 1 (1 : Int64))
set_option maxHeartbeats 4000000 in
set_option maxRecDepth 100000 in
theorem f_Frieze_grow_b114_ok {ro : am_Ro} {d : Nat} (hd : 2 ≤ d + 1) {k19 : Int32 → Int32 → Int32 → am_Mm → Option (Int32 × am_Mm)} (hk19 : ∀ (x2 : Int32) (x3 : Int32) (x4 : Int32) (m m' : am_Mm) (r : Int32), k19 x2 x3 x4 m = some (r, m') → am_AW am_nw ro (d + 1) mr_Frieze_grow 19 [some (.ref 30), none, some (.int x2), some (.int x3), some (.int x4), none, none, none, none, none] [] (S0, m) (some (.int r)) (S0, m')) (x2 : Int32) (x3 : Int32) (x4 : Int32) (x5 : Int64) (x7 : Int64) (s0 : Int32) {m m' : am_Mm} {r : Int32} (h : f_Frieze_grow_b114 k19 x2 x3 x4 x5 x7 s0 m = some (r, m')) : am_AW am_nw ro (d + 1) mr_Frieze_grow 114 [some (.ref 30), none, some (.int x2), some (.int x3), some (.int x4), some (.long x5), none, some (.long x7), none, none] [.int s0] (S0, m) (some (.int r)) (S0, m') := by
  unfold f_Frieze_grow_b114 at h
  refine am_AW.run am_base_ok ok_Frieze_grow (Nat.le_add_left 1 d) 2 (pc1 := 118) (ls1 := [some (.ref 30), none, some (.int x2), some (.int x3), some (.int x4), some (.long x5), none, some (.long x7), none, some (.int s0)]) (st1 := [.int s0]) (σ1 := (S0, m)) rfl ?_
  refine am_AW.brN ok_Frieze_grow rfl rfl am_c_ne (fun c9 => ?_) (fun c9 => ?_)
  · rw [if_pos c9] at h
    refine am_AW.run am_base_ok ok_Frieze_grow (Nat.le_add_left 1 d) 3 (pc1 := 126) (ls1 := [some (.ref 30), none, some (.int x2), some (.int x3), some (.int x4), some (.long x5), none, some (.long x7), none, some (.int s0)]) (st1 := [.int x3, .ref 31]) (σ1 := (S0, m)) rfl ?_
    by_cases g10 : am_in x3 9 = true
    rotate_left
    · rw [if_neg g10] at h
      cases h
    rw [if_pos g10] at h
    refine am_AW.iald ok_Frieze_grow (Nat.le_add_left 1 d) S0_len rfl rfl g10 ?_
    refine am_AW.run am_base_ok ok_Frieze_grow (Nat.le_add_left 1 d) 5 (pc1 := 135) (ls1 := [some (.ref 30), none, some (.int x2), some (.int x3), some (.int x4), some (.long x5), none, some (.long x7), none, some (.int s0)]) (st1 := [.int (x4 - (1 : Int32)), .ref 32, .int (m.1 31 x3.toNatClampNeg)]) (σ1 := (S0, m)) rfl ?_
    by_cases g11 : am_in (x4 - (1 : Int32)) 21 = true
    rotate_left
    · rw [if_neg g11] at h
      cases h
    rw [if_pos g11] at h
    refine am_AW.lald ok_Frieze_grow (Nat.le_add_left 1 d) rfl rfl g11 ?_
    refine am_AW.run am_base_ok ok_Frieze_grow (Nat.le_add_left 1 d) 1 (pc1 := 138) (ls1 := [some (.ref 30), none, some (.int x2), some (.int x3), some (.int x4), some (.long x5), none, some (.long x7), none, some (.int s0)]) (st1 := [.long x5, .long (m.2 32 (x4 - (1 : Int32)).toNatClampNeg), .int (m.1 31 x3.toNatClampNeg)]) (σ1 := (S0, m)) rfl ?_
    obtain ⟨q14, hq14, h⟩ := Option.bind_eq_some_iff.mp h
    refine am_AW.callS ok_Frieze_grow am_nw_ok (As := [.int (m.1 31 x3.toNatClampNeg), .long (m.2 32 (x4 - (1 : Int32)).toNatClampNeg), .long x5]) (rest := []) rfl rfl rfl oR_Frieze_isWithin lk_Frieze_36 sT_Frieze_isWithin rfl (Nat.le_of_ble_eq_true rfl) (f_Frieze_isWithin_ok (d := d) (by omega) (m.1 31 x3.toNatClampNeg) (m.2 32 (x4 - (1 : Int32)).toNatClampNeg) x5 hq14) ?_
    change am_AW am_nw ro (d + 1) mr_Frieze_grow 141 [some (.ref 30), none, some (.int x2), some (.int x3), some (.int x4), some (.long x5), none, some (.long x7), none, some (.int s0)] [.int q14.1] (S0, q14.2) (some (.int r)) (S0, m')
    refine am_AW.brN ok_Frieze_grow rfl rfl am_c_ne (fun c15 => ?_) (fun c15 => ?_)
    · rw [if_pos c15] at h
      refine am_AW.run am_base_ok ok_Frieze_grow (Nat.le_add_left 1 d) 1 (pc1 := 145) (ls1 := [some (.ref 30), none, some (.int x2), some (.int x3), some (.int x4), some (.long x5), none, some (.long x7), none, some (.int s0)]) (st1 := [.int (0 : Int32)]) (σ1 := (S0, q14.2)) rfl ?_
      obtain ⟨rfl, rfl⟩ := Prod.mk.inj (Option.some.inj h)
      exact am_AW.ret ok_Frieze_grow rfl rfl rfl (by decide)
    · rw [if_neg c15] at h
      refine am_AW.run am_base_ok ok_Frieze_grow (Nat.le_add_left 1 d) 4 (pc1 := 154) (ls1 := [some (.ref 30), none, some (.int x2), some (.int x3), some (.int x4), some (.long x5), none, some (.long x7), none, some (.int s0)]) (st1 := [.long x7, .int x4, .ref 32]) (σ1 := (S0, q14.2)) rfl ?_
      by_cases g16 : am_in x4 21 = true
      rotate_left
      · rw [if_neg g16] at h
        cases h
      rw [if_pos g16] at h
      refine am_AW.last ok_Frieze_grow (Nat.le_add_left 1 d) rfl rfl g16 ?_
      change am_AW am_nw ro (d + 1) mr_Frieze_grow 155 [some (.ref 30), none, some (.int x2), some (.int x3), some (.int x4), some (.long x5), none, some (.long x7), none, some (.int s0)] [] (S0, (am_pL q14.2 32 x4.toNatClampNeg x7)) (some (.int r)) (S0, m')
      refine am_AW.run am_base_ok ok_Frieze_grow (Nat.le_add_left 1 d) 2 (pc1 := 19) (ls1 := [some (.ref 30), none, some (.int x2), some (.int x3), some (.int (x4 + (1 : Int32))), some (.long x5), none, some (.long x7), none, some (.int s0)]) (st1 := []) (σ1 := (S0, (am_pL q14.2 32 x4.toNatClampNeg x7))) rfl ?_
      exact am_AW.weak (hk19 x2 x3 (x4 + (1 : Int32))  _ _ _ h) (by simp only [am_le, and_self])
  · rw [if_neg c9] at h
    refine am_AW.run am_base_ok ok_Frieze_grow (Nat.le_add_left 1 d) 1 (pc1 := 145) (ls1 := [some (.ref 30), none, some (.int x2), some (.int x3), some (.int x4), some (.long x5), none, some (.long x7), none, some (.int s0)]) (st1 := [.int (0 : Int32)]) (σ1 := (S0, m)) rfl ?_
    obtain ⟨rfl, rfl⟩ := Prod.mk.inj (Option.some.inj h)
    exact am_AW.ret ok_Frieze_grow rfl rfl rfl (by decide)
set_option maxHeartbeats 4000000 in
set_option maxRecDepth 100000 in
theorem f_Frieze_grow_b52_ok {ro : am_Ro} {d : Nat} (hd : 2 ≤ d + 1) {k19 : Int32 → Int32 → Int32 → am_Mm → Option (Int32 × am_Mm)} (hk19 : ∀ (x2 : Int32) (x3 : Int32) (x4 : Int32) (m m' : am_Mm) (r : Int32), k19 x2 x3 x4 m = some (r, m') → am_AW am_nw ro (d + 1) mr_Frieze_grow 19 [some (.ref 30), none, some (.int x2), some (.int x3), some (.int x4), none, none, none, none, none] [] (S0, m) (some (.int r)) (S0, m')) (x2 : Int32) (x4 : Int32) (s0 : Int32) {m m' : am_Mm} {r : Int32} (h : f_Frieze_grow_b52 k19 x2 x4 s0 m = some (r, m')) : am_AW am_nw ro (d + 1) mr_Frieze_grow 52 [some (.ref 30), none, some (.int x2), none, some (.int x4), none, none, none, none, none] [.int s0] (S0, m) (some (.int r)) (S0, m') := by
  unfold f_Frieze_grow_b52 at h
  refine am_AW.run am_base_ok ok_Frieze_grow (Nat.le_add_left 1 d) 4 (pc1 := 58) (ls1 := [some (.ref 30), none, some (.int x2), some (.int s0), some (.int x4), none, none, none, none, none]) (st1 := [.int s0, .ref 31]) (σ1 := (S0, m)) rfl ?_
  by_cases g4 : am_in s0 9 = true
  rotate_left
  · rw [if_neg g4] at h
    cases h
  rw [if_pos g4] at h
  refine am_AW.iald ok_Frieze_grow (Nat.le_add_left 1 d) S0_len rfl rfl g4 ?_
  refine am_AW.run am_base_ok ok_Frieze_grow (Nat.le_add_left 1 d) 6 (pc1 := 68) (ls1 := [some (.ref 30), none, some (.int x2), some (.int s0), some (.int x4), none, none, none, none, none]) (st1 := [.int (x4 - (1 : Int32)), .ref 32, .long ((m.1 31 s0.toNatClampNeg).toInt64)]) (σ1 := (S0, m)) rfl ?_
  by_cases g5 : am_in (x4 - (1 : Int32)) 21 = true
  rotate_left
  · rw [if_neg g5] at h
    cases h
  rw [if_pos g5] at h
  refine am_AW.lald ok_Frieze_grow (Nat.le_add_left 1 d) rfl rfl g5 ?_
  refine am_AW.run am_base_ok ok_Frieze_grow (Nat.le_add_left 1 d) 8 (pc1 := 82) (ls1 := [some (.ref 30), none, some (.int x2), some (.int s0), some (.int x4), some (.long (((m.1 31 s0.toNatClampNeg).toInt64) * (m.2 32 (x4 - (1 : Int32)).toNatClampNeg))), none, none, none, none]) (st1 := [.int (x4 - (2 : Int32)), .ref 32, .long (((m.1 31 s0.toNatClampNeg).toInt64) * (m.2 32 (x4 - (1 : Int32)).toNatClampNeg))]) (σ1 := (S0, m)) rfl ?_
  by_cases g6 : am_in (x4 - (2 : Int32)) 21 = true
  rotate_left
  · rw [if_neg g6] at h
    cases h
  rw [if_pos g6] at h
  refine am_AW.lald ok_Frieze_grow (Nat.le_add_left 1 d) rfl rfl g6 ?_
  refine am_AW.run am_base_ok ok_Frieze_grow (Nat.le_add_left 1 d) 8 (pc1 := 96) (ls1 := [some (.ref 30), none, some (.int x2), some (.int s0), some (.int x4), some (.long (((m.1 31 s0.toNatClampNeg).toInt64) * (m.2 32 (x4 - (1 : Int32)).toNatClampNeg))), none, some (.long ((((m.1 31 s0.toNatClampNeg).toInt64) * (m.2 32 (x4 - (1 : Int32)).toNatClampNeg)) - (m.2 32 (x4 - (2 : Int32)).toNatClampNeg))), none, none]) (st1 := [.int (x4 - (2 : Int32)), .ref 32, .long (((m.1 31 s0.toNatClampNeg).toInt64) * (m.2 32 (x4 - (1 : Int32)).toNatClampNeg))]) (σ1 := (S0, m)) rfl ?_
  by_cases g7 : am_in (x4 - (2 : Int32)) 21 = true
  rotate_left
  · rw [if_neg g7] at h
    cases h
  rw [if_pos g7] at h
  refine am_AW.lald ok_Frieze_grow (Nat.le_add_left 1 d) rfl rfl g7 ?_
  refine am_AW.run am_base_ok ok_Frieze_grow (Nat.le_add_left 1 d) 7 (pc1 := 106) (ls1 := [some (.ref 30), none, some (.int x2), some (.int s0), some (.int x4), some (.long (((m.1 31 s0.toNatClampNeg).toInt64) * (m.2 32 (x4 - (1 : Int32)).toNatClampNeg))), none, some (.long ((((m.1 31 s0.toNatClampNeg).toInt64) * (m.2 32 (x4 - (1 : Int32)).toNatClampNeg)) - (m.2 32 (x4 - (2 : Int32)).toNatClampNeg))), none, none]) (st1 := [.int (lg_cmp (((((m.1 31 s0.toNatClampNeg).toInt64) * (m.2 32 (x4 - (1 : Int32)).toNatClampNeg)) ^^^ (m.2 32 (x4 - (2 : Int32)).toNatClampNeg)) &&& ((((m.1 31 s0.toNatClampNeg).toInt64) * (m.2 32 (x4 - (1 : Int32)).toNatClampNeg)) ^^^ ((((m.1 31 s0.toNatClampNeg).toInt64) * (m.2 32 (x4 - (1 : Int32)).toNatClampNeg)) - (m.2 32 (x4 - (2 : Int32)).toNatClampNeg)))) (0 : Int64))]) (σ1 := (S0, m)) rfl ?_
  refine am_AW.brP ok_Frieze_grow rfl rfl am_c_ge (fun c8 => ?_) (fun c8 => ?_)
  · rw [if_pos c8] at h
    refine am_AW.run am_base_ok ok_Frieze_grow (Nat.le_add_left 1 d) 1 (pc1 := 114) (ls1 := [some (.ref 30), none, some (.int x2), some (.int s0), some (.int x4), some (.long (((m.1 31 s0.toNatClampNeg).toInt64) * (m.2 32 (x4 - (1 : Int32)).toNatClampNeg))), none, some (.long ((((m.1 31 s0.toNatClampNeg).toInt64) * (m.2 32 (x4 - (1 : Int32)).toNatClampNeg)) - (m.2 32 (x4 - (2 : Int32)).toNatClampNeg))), none, none]) (st1 := [.int (0 : Int32)]) (σ1 := (S0, m)) rfl ?_
    exact am_AW.weak (f_Frieze_grow_b114_ok hd (hk19) x2 s0 x4 (((m.1 31 s0.toNatClampNeg).toInt64) * (m.2 32 (x4 - (1 : Int32)).toNatClampNeg)) ((((m.1 31 s0.toNatClampNeg).toInt64) * (m.2 32 (x4 - (1 : Int32)).toNatClampNeg)) - (m.2 32 (x4 - (2 : Int32)).toNatClampNeg)) (0 : Int32)  h) (by simp only [am_le, and_self])
  · rw [if_neg c8] at h
    refine am_AW.run am_base_ok ok_Frieze_grow (Nat.le_add_left 1 d) 2 (pc1 := 114) (ls1 := [some (.ref 30), none, some (.int x2), some (.int s0), some (.int x4), some (.long (((m.1 31 s0.toNatClampNeg).toInt64) * (m.2 32 (x4 - (1 : Int32)).toNatClampNeg))), none, some (.long ((((m.1 31 s0.toNatClampNeg).toInt64) * (m.2 32 (x4 - (1 : Int32)).toNatClampNeg)) - (m.2 32 (x4 - (2 : Int32)).toNatClampNeg))), none, none]) (st1 := [.int (1 : Int32)]) (σ1 := (S0, m)) rfl ?_
    exact am_AW.weak (f_Frieze_grow_b114_ok hd (hk19) x2 s0 x4 (((m.1 31 s0.toNatClampNeg).toInt64) * (m.2 32 (x4 - (1 : Int32)).toNatClampNeg)) ((((m.1 31 s0.toNatClampNeg).toInt64) * (m.2 32 (x4 - (1 : Int32)).toNatClampNeg)) - (m.2 32 (x4 - (2 : Int32)).toNatClampNeg)) (1 : Int32)  h) (by simp only [am_le, and_self])
set_option maxHeartbeats 4000000 in
set_option maxRecDepth 100000 in
theorem f_Frieze_grow_b19_all {ro : am_Ro} {d : Nat} (hd : 2 ≤ d + 1) : ∀ (n : Nat) (x2 : Int32) (x3 : Int32) (x4 : Int32) (m m' : am_Mm) (r : Int32), f_Frieze_grow_b19 n x2 x3 x4 m = some (r, m') → am_AW am_nw ro (d + 1) mr_Frieze_grow 19 [some (.ref 30), none, some (.int x2), some (.int x3), some (.int x4), none, none, none, none, none] [] (S0, m) (some (.int r)) (S0, m') := by
  intro n
  induction n with
  | zero =>
    intro x2 x3 x4 m m' r h
    rw [f_Frieze_grow_b19] at h
    cases h
  | succ n ih =>
    intro x2 x3 x4 m m' r h
    rw [f_Frieze_grow_b19] at h
    refine am_AW.run am_base_ok ok_Frieze_grow (Nat.le_add_left 1 d) 2 (pc1 := 22) (ls1 := [some (.ref 30), none, some (.int x2), some (.int x3), some (.int x4), none, none, none, none, none]) (st1 := [.int x2, .int x4]) (σ1 := (S0, m)) rfl ?_
    refine am_AW.brP ok_Frieze_grow rfl rfl am_c_gt (fun c1 => ?_) (fun c1 => ?_)
    · rw [if_pos c1] at h
      refine am_AW.run am_base_ok ok_Frieze_grow (Nat.le_add_left 1 d) 1 (pc1 := 162) (ls1 := [some (.ref 30), none, some (.int x2), some (.int x3), some (.int x4), none, none, none, none, none]) (st1 := [.int (1 : Int32)]) (σ1 := (S0, m)) rfl ?_
      obtain ⟨rfl, rfl⟩ := Prod.mk.inj (Option.some.inj h)
      exact am_AW.ret ok_Frieze_grow rfl rfl rfl (by decide)
    · rw [if_neg c1] at h
      refine am_AW.run am_base_ok ok_Frieze_grow (Nat.le_add_left 1 d) 3 (pc1 := 31) (ls1 := [some (.ref 30), none, some (.int x2), some (.int x3), some (.int x4), none, none, none, none, none]) (st1 := [.ref 32, .int x4]) (σ1 := (S0, m)) rfl ?_
      refine am_AW.alen ok_Frieze_grow (Nat.le_add_left 1 d) S0_len rfl rfl (by decide) ?_
      refine am_AW.brP ok_Frieze_grow rfl rfl am_c_ge (fun c2 => ?_) (fun c2 => ?_)
      · rw [if_pos c2] at h
        refine am_AW.run am_base_ok ok_Frieze_grow (Nat.le_add_left 1 d) 1 (pc1 := 162) (ls1 := [some (.ref 30), none, some (.int x2), some (.int x3), some (.int x4), none, none, none, none, none]) (st1 := [.int (1 : Int32)]) (σ1 := (S0, m)) rfl ?_
        obtain ⟨rfl, rfl⟩ := Prod.mk.inj (Option.some.inj h)
        exact am_AW.ret ok_Frieze_grow rfl rfl rfl (by decide)
      · rw [if_neg c2] at h
        refine am_AW.run am_base_ok ok_Frieze_grow (Nat.le_add_left 1 d) 5 (pc1 := 42) (ls1 := [some (.ref 30), none, some (.int x2), some (.int x3), some (.int x4), none, none, none, none, none]) (st1 := [.int (m.1 30 2), .int (x3 + (1 : Int32))]) (σ1 := (S0, m)) rfl ?_
        refine am_AW.brP ok_Frieze_grow rfl rfl am_c_ge (fun c3 => ?_) (fun c3 => ?_)
        · rw [if_pos c3] at h
          refine am_AW.run am_base_ok ok_Frieze_grow (Nat.le_add_left 1 d) 1 (pc1 := 52) (ls1 := [some (.ref 30), none, some (.int x2), some (.int x3), some (.int x4), none, none, none, none, none]) (st1 := [.int (0 : Int32)]) (σ1 := (S0, m)) rfl ?_
          exact am_AW.weak (f_Frieze_grow_b52_ok hd (ih) x2 x4 (0 : Int32)  h) (by simp only [am_le, and_self])
        · rw [if_neg c3] at h
          refine am_AW.run am_base_ok ok_Frieze_grow (Nat.le_add_left 1 d) 4 (pc1 := 52) (ls1 := [some (.ref 30), none, some (.int x2), some (.int x3), some (.int x4), none, none, none, none, none]) (st1 := [.int (x3 + (1 : Int32))]) (σ1 := (S0, m)) rfl ?_
          exact am_AW.weak (f_Frieze_grow_b52_ok hd (ih) x2 x4 (x3 + (1 : Int32))  h) (by simp only [am_le, and_self])
set_option maxHeartbeats 4000000 in
set_option maxRecDepth 100000 in
theorem f_Frieze_grow_b19_ok {ro : am_Ro} {d : Nat} (hd : 2 ≤ d + 1) (x2 : Int32) (x3 : Int32) (x4 : Int32) {m m' : am_Mm} {r : Int32} {n : Nat} (h : f_Frieze_grow_b19 n x2 x3 x4 m = some (r, m')) : am_AW am_nw ro (d + 1) mr_Frieze_grow 19 [some (.ref 30), none, some (.int x2), some (.int x3), some (.int x4), none, none, none, none, none] [] (S0, m) (some (.int r)) (S0, m') :=
  f_Frieze_grow_b19_all hd n x2 x3 x4  m m' r h
set_option maxHeartbeats 4000000 in
set_option maxRecDepth 100000 in
theorem f_Frieze_grow_ok {ro : am_Ro} {d : Nat} (hd : 2 ≤ d) (x1 : Int32) (x2 : Int32) {m m' : am_Mm} {r : Int32} (h : f_Frieze_grow x1 x2 m = some (r, m')) : am_Mt am_nw ro d mr_Frieze_grow [.ref 30, .int x1, .int x2] (S0, m) (some (.int r)) (S0, m') := by
  obtain ⟨d, rfl⟩ : ∃ d0, d = d0 + 1 := ⟨d - 1, by omega⟩
  refine am_Mt.of (by decide +kernel) (Nat.le_of_ble_eq_true rfl) ?_
  change am_AW am_nw ro (d + 1) mr_Frieze_grow 0 [some (.ref 30), some (.int x1), some (.int x2), none, none, none, none, none, none, none] [] (S0, m) (some (.int r)) (S0, m')
  unfold f_Frieze_grow at h
  refine am_AW.run am_base_ok ok_Frieze_grow (Nat.le_add_left 1 d) 4 (pc1 := 6) (ls1 := [some (.ref 30), some (.int x1), some (.int x2), none, none, none, none, none, none, none]) (st1 := [.long (0 : Int64), .int (0 : Int32), .ref 32]) (σ1 := (S0, m)) rfl ?_
  refine am_AW.last ok_Frieze_grow (Nat.le_add_left 1 d) rfl rfl (by decide) ?_
  change am_AW am_nw ro (d + 1) mr_Frieze_grow 7 [some (.ref 30), some (.int x1), some (.int x2), none, none, none, none, none, none, none] [] (S0, (am_pL m 32 0 (0 : Int64))) (some (.int r)) (S0, m')
  refine am_AW.run am_base_ok ok_Frieze_grow (Nat.le_add_left 1 d) 4 (pc1 := 13) (ls1 := [some (.ref 30), some (.int x1), some (.int x2), none, none, none, none, none, none, none]) (st1 := [.long (1 : Int64), .int (1 : Int32), .ref 32]) (σ1 := (S0, (am_pL m 32 0 (0 : Int64)))) rfl ?_
  refine am_AW.last ok_Frieze_grow (Nat.le_add_left 1 d) rfl rfl (by decide) ?_
  change am_AW am_nw ro (d + 1) mr_Frieze_grow 14 [some (.ref 30), some (.int x1), some (.int x2), none, none, none, none, none, none, none] [] (S0, (am_pL (am_pL m 32 0 (0 : Int64)) 32 1 (1 : Int64))) (some (.int r)) (S0, m')
  refine am_AW.run am_base_ok ok_Frieze_grow (Nat.le_add_left 1 d) 4 (pc1 := 19) (ls1 := [some (.ref 30), some (.int x1), some (.int x2), some (.int x1), some (.int (2 : Int32)), none, none, none, none, none]) (st1 := []) (σ1 := (S0, (am_pL (am_pL m 32 0 (0 : Int64)) 32 1 (1 : Int64)))) rfl ?_
  exact am_AW.weak (f_Frieze_grow_b19_ok hd x2 x1 (2 : Int32)  h) (by simp only [am_le, and_self])
/-! FriezePolygons$Frieze.period()I -/
def f_Frieze_period_b2 : Nat → Int32 → am_Mm → Option (Int32 × am_Mm)
  | 0, _, _ => none
  | n + 1, x1, m =>
    if (m.1 30 2) ≤ x1 then
      some ((m.1 30 2), m)
    else
      (f_Frieze_isSameTurned x1 m).bind fun q4 =>
      if q4.1 = (0 : Int32) then
        f_Frieze_period_b2 n (x1 + (1 : Int32)) q4.2
      else
        some (x1, q4.2)
def f_Frieze_period (m : am_Mm) : Option (Int32 × am_Mm) :=
  f_Frieze_period_b2 am_F (1 : Int32) m
set_option maxHeartbeats 4000000 in
set_option maxRecDepth 100000 in
theorem f_Frieze_period_b2_all {ro : am_Ro} {d : Nat} (hd : 2 ≤ d + 1) : ∀ (n : Nat) (x1 : Int32) (m m' : am_Mm) (r : Int32), f_Frieze_period_b2 n x1 m = some (r, m') → am_AW am_nw ro (d + 1) mr_Frieze_period 2 [some (.ref 30), some (.int x1)] [] (S0, m) (some (.int r)) (S0, m') := by
  intro n
  induction n with
  | zero =>
    intro x1 m m' r h
    rw [f_Frieze_period_b2] at h
    cases h
  | succ n ih =>
    intro x1 m m' r h
    rw [f_Frieze_period_b2] at h
    refine am_AW.run am_base_ok ok_Frieze_period (Nat.le_add_left 1 d) 3 (pc1 := 7) (ls1 := [some (.ref 30), some (.int x1)]) (st1 := [.int (m.1 30 2), .int x1]) (σ1 := (S0, m)) rfl ?_
    refine am_AW.brP ok_Frieze_period rfl rfl am_c_ge (fun c1 => ?_) (fun c1 => ?_)
    · rw [if_pos c1] at h
      refine am_AW.run am_base_ok ok_Frieze_period (Nat.le_add_left 1 d) 2 (pc1 := 30) (ls1 := [some (.ref 30), some (.int x1)]) (st1 := [.int (m.1 30 2)]) (σ1 := (S0, m)) rfl ?_
      obtain ⟨rfl, rfl⟩ := Prod.mk.inj (Option.some.inj h)
      exact am_AW.ret ok_Frieze_period rfl rfl rfl rfl
    · rw [if_neg c1] at h
      refine am_AW.run am_base_ok ok_Frieze_period (Nat.le_add_left 1 d) 2 (pc1 := 12) (ls1 := [some (.ref 30), some (.int x1)]) (st1 := [.int x1, .ref 30]) (σ1 := (S0, m)) rfl ?_
      obtain ⟨q4, hq4, h⟩ := Option.bind_eq_some_iff.mp h
      refine am_AW.callV ok_Frieze_period am_nw_ok (As := [.int x1]) (rest := []) rfl rfl rfl oR_Frieze_isSameTurned lk_Frieze_44 iM_Frieze_isSameTurned sE_Frieze_isSameTurned (qc := kq5) rfl rfl rfl rfl (Nat.le_of_ble_eq_true rfl) (f_Frieze_isSameTurned_ok (d := d) (by omega) x1 hq4) ?_
      change am_AW am_nw ro (d + 1) mr_Frieze_period 15 [some (.ref 30), some (.int x1)] [.int q4.1] (S0, q4.2) (some (.int r)) (S0, m')
      refine am_AW.brP ok_Frieze_period rfl rfl am_c_eq (fun c5 => ?_) (fun c5 => ?_)
      · rw [if_pos c5] at h
        refine am_AW.run am_base_ok ok_Frieze_period (Nat.le_add_left 1 d) 2 (pc1 := 2) (ls1 := [some (.ref 30), some (.int (x1 + (1 : Int32)))]) (st1 := []) (σ1 := (S0, q4.2)) rfl ?_
        exact am_AW.weak (ih (x1 + (1 : Int32))  _ _ _ h) (by simp only [am_le, and_self])
      · rw [if_neg c5] at h
        refine am_AW.run am_base_ok ok_Frieze_period (Nat.le_add_left 1 d) 1 (pc1 := 19) (ls1 := [some (.ref 30), some (.int x1)]) (st1 := [.int x1]) (σ1 := (S0, q4.2)) rfl ?_
        obtain ⟨rfl, rfl⟩ := Prod.mk.inj (Option.some.inj h)
        exact am_AW.ret ok_Frieze_period rfl rfl rfl rfl
set_option maxHeartbeats 4000000 in
set_option maxRecDepth 100000 in
theorem f_Frieze_period_b2_ok {ro : am_Ro} {d : Nat} (hd : 2 ≤ d + 1) (x1 : Int32) {m m' : am_Mm} {r : Int32} {n : Nat} (h : f_Frieze_period_b2 n x1 m = some (r, m')) : am_AW am_nw ro (d + 1) mr_Frieze_period 2 [some (.ref 30), some (.int x1)] [] (S0, m) (some (.int r)) (S0, m') :=
  f_Frieze_period_b2_all hd n x1  m m' r h
set_option maxHeartbeats 4000000 in
set_option maxRecDepth 100000 in
theorem f_Frieze_period_ok {ro : am_Ro} {d : Nat} (hd : 2 ≤ d) {m m' : am_Mm} {r : Int32} (h : f_Frieze_period  m = some (r, m')) : am_Mt am_nw ro d mr_Frieze_period [.ref 30] (S0, m) (some (.int r)) (S0, m') := by
  obtain ⟨d, rfl⟩ : ∃ d0, d = d0 + 1 := ⟨d - 1, by omega⟩
  refine am_Mt.of (by decide +kernel) (Nat.le_of_ble_eq_true rfl) ?_
  change am_AW am_nw ro (d + 1) mr_Frieze_period 0 [some (.ref 30), none] [] (S0, m) (some (.int r)) (S0, m')
  unfold f_Frieze_period at h
  refine am_AW.run am_base_ok ok_Frieze_period (Nat.le_add_left 1 d) 2 (pc1 := 2) (ls1 := [some (.ref 30), some (.int (1 : Int32))]) (st1 := []) (σ1 := (S0, m)) rfl ?_
  exact am_AW.weak (f_Frieze_period_b2_ok hd (1 : Int32)  h) (by simp only [am_le, and_self])
/-! FriezePolygons$Ring.layOut(I)V -/
def f_Ring_layOut_b137 : Nat → Nat → Int32 → am_Mm → Option am_Mm
  | 0, _, _, _ => none
  | n + 1, p0, x2, m =>
    if (m.1 p0 6) ≤ x2 then
      some m
    else
      if am_in x2 27 = true then
        if am_in x2 27 = true then
          (f_Ring_crossing p0 (m.1 (p0 + 1) x2.toNatClampNeg) (m.1 (p0 + 2) x2.toNatClampNeg) m).bind fun q7 =>
          if am_in x2 27 = true then
            f_Ring_layOut_b137 n p0 (x2 + (1 : Int32)) (am_pI q7.2 (p0 + 3) x2.toNatClampNeg q7.1)
          else none
        else none
      else none
def f_Ring_layOut_b123 (k25 : Nat → Int32 → am_Mm → Option am_Mm) (k37 : Nat → Int32 → Int32 → am_Mm → Option am_Mm) (p0 : Nat) (x2 : Int32) (x3 : Int32) (m : am_Mm) : Option am_Mm :=
  k37 p0 x2 (x3 + (1 : Int32)) m
def f_Ring_layOut_b37 (k25 : Nat → Int32 → am_Mm → Option am_Mm) : Nat → Nat → Int32 → Int32 → am_Mm → Option am_Mm
  | 0, _, _, _, _ => none
  | n + 1, p0, x2, x3, m =>
    if (m.1 p0 5) ≤ x3 then
      k25 p0 (x2 + (1 : Int32)) m
    else
      (f_Ring_isCut p0 x2 x3 m).bind fun q12 =>
      if q12.1 = (0 : Int32) then
        f_Ring_layOut_b123 k25 (f_Ring_layOut_b37 k25 n) p0 x2 x3 q12.2
      else
        if (27 : Int32) ≤ (q12.2.1 p0 6) then
          f_Ring_layOut_b123 k25 (f_Ring_layOut_b37 k25 n) p0 x2 x3 q12.2
        else
          if am_in (q12.2.1 p0 6) 27 = true then
            if am_in ((am_pI q12.2 (p0 + 1) (q12.2.1 p0 6).toNatClampNeg x2).1 p0 6) 27 = true then
              if am_in x2 9 = true then
                if am_in x2 9 = true then
                  if am_in x3 9 = true then
                    if am_in x3 9 = true then
                      f_Ring_layOut_b123 k25 (f_Ring_layOut_b37 k25 n) p0 x2 x3 (am_pI (am_pI (am_pI (am_pI (am_pI q12.2 (p0 + 1) (q12.2.1 p0 6).toNatClampNeg x2) (p0 + 2) ((am_pI q12.2 (p0 + 1) (q12.2.1 p0 6).toNatClampNeg x2).1 p0 6).toNatClampNeg x3) (p0 + 4) x2.toNatClampNeg (((am_pI (am_pI q12.2 (p0 + 1) (q12.2.1 p0 6).toNatClampNeg x2) (p0 + 2) ((am_pI q12.2 (p0 + 1) (q12.2.1 p0 6).toNatClampNeg x2).1 p0 6).toNatClampNeg x3).1 (p0 + 4) x2.toNatClampNeg) ||| (am_shl (1 : Int32) ((am_pI (am_pI q12.2 (p0 + 1) (q12.2.1 p0 6).toNatClampNeg x2) (p0 + 2) ((am_pI q12.2 (p0 + 1) (q12.2.1 p0 6).toNatClampNeg x2).1 p0 6).toNatClampNeg x3).1 p0 6)))) (p0 + 4) x3.toNatClampNeg (((am_pI (am_pI (am_pI q12.2 (p0 + 1) (q12.2.1 p0 6).toNatClampNeg x2) (p0 + 2) ((am_pI q12.2 (p0 + 1) (q12.2.1 p0 6).toNatClampNeg x2).1 p0 6).toNatClampNeg x3) (p0 + 4) x2.toNatClampNeg (((am_pI (am_pI q12.2 (p0 + 1) (q12.2.1 p0 6).toNatClampNeg x2) (p0 + 2) ((am_pI q12.2 (p0 + 1) (q12.2.1 p0 6).toNatClampNeg x2).1 p0 6).toNatClampNeg x3).1 (p0 + 4) x2.toNatClampNeg) ||| (am_shl (1 : Int32) ((am_pI (am_pI q12.2 (p0 + 1) (q12.2.1 p0 6).toNatClampNeg x2) (p0 + 2) ((am_pI q12.2 (p0 + 1) (q12.2.1 p0 6).toNatClampNeg x2).1 p0 6).toNatClampNeg x3).1 p0 6)))).1 (p0 + 4) x3.toNatClampNeg) ||| (am_shl (1 : Int32) ((am_pI (am_pI (am_pI q12.2 (p0 + 1) (q12.2.1 p0 6).toNatClampNeg x2) (p0 + 2) ((am_pI q12.2 (p0 + 1) (q12.2.1 p0 6).toNatClampNeg x2).1 p0 6).toNatClampNeg x3) (p0 + 4) x2.toNatClampNeg (((am_pI (am_pI q12.2 (p0 + 1) (q12.2.1 p0 6).toNatClampNeg x2) (p0 + 2) ((am_pI q12.2 (p0 + 1) (q12.2.1 p0 6).toNatClampNeg x2).1 p0 6).toNatClampNeg x3).1 (p0 + 4) x2.toNatClampNeg) ||| (am_shl (1 : Int32) ((am_pI (am_pI q12.2 (p0 + 1) (q12.2.1 p0 6).toNatClampNeg x2) (p0 + 2) ((am_pI q12.2 (p0 + 1) (q12.2.1 p0 6).toNatClampNeg x2).1 p0 6).toNatClampNeg x3).1 p0 6)))).1 p0 6)))) p0 6 (((am_pI (am_pI (am_pI (am_pI q12.2 (p0 + 1) (q12.2.1 p0 6).toNatClampNeg x2) (p0 + 2) ((am_pI q12.2 (p0 + 1) (q12.2.1 p0 6).toNatClampNeg x2).1 p0 6).toNatClampNeg x3) (p0 + 4) x2.toNatClampNeg (((am_pI (am_pI q12.2 (p0 + 1) (q12.2.1 p0 6).toNatClampNeg x2) (p0 + 2) ((am_pI q12.2 (p0 + 1) (q12.2.1 p0 6).toNatClampNeg x2).1 p0 6).toNatClampNeg x3).1 (p0 + 4) x2.toNatClampNeg) ||| (am_shl (1 : Int32) ((am_pI (am_pI q12.2 (p0 + 1) (q12.2.1 p0 6).toNatClampNeg x2) (p0 + 2) ((am_pI q12.2 (p0 + 1) (q12.2.1 p0 6).toNatClampNeg x2).1 p0 6).toNatClampNeg x3).1 p0 6)))) (p0 + 4) x3.toNatClampNeg (((am_pI (am_pI (am_pI q12.2 (p0 + 1) (q12.2.1 p0 6).toNatClampNeg x2) (p0 + 2) ((am_pI q12.2 (p0 + 1) (q12.2.1 p0 6).toNatClampNeg x2).1 p0 6).toNatClampNeg x3) (p0 + 4) x2.toNatClampNeg (((am_pI (am_pI q12.2 (p0 + 1) (q12.2.1 p0 6).toNatClampNeg x2) (p0 + 2) ((am_pI q12.2 (p0 + 1) (q12.2.1 p0 6).toNatClampNeg x2).1 p0 6).toNatClampNeg x3).1 (p0 + 4) x2.toNatClampNeg) ||| (am_shl (1 : Int32) ((am_pI (am_pI q12.2 (p0 + 1) (q12.2.1 p0 6).toNatClampNeg x2) (p0 + 2) ((am_pI q12.2 (p0 + 1) (q12.2.1 p0 6).toNatClampNeg x2).1 p0 6).toNatClampNeg x3).1 p0 6)))).1 (p0 + 4) x3.toNatClampNeg) ||| (am_shl (1 : Int32) ((am_pI (am_pI (am_pI q12.2 (p0 + 1) (q12.2.1 p0 6).toNatClampNeg x2) (p0 + 2) ((am_pI q12.2 (p0 + 1) (q12.2.1 p0 6).toNatClampNeg x2).1 p0 6).toNatClampNeg x3) (p0 + 4) x2.toNatClampNeg (((am_pI (am_pI q12.2 (p0 + 1) (q12.2.1 p0 6).toNatClampNeg x2) (p0 + 2) ((am_pI q12.2 (p0 + 1) (q12.2.1 p0 6).toNatClampNeg x2).1 p0 6).toNatClampNeg x3).1 (p0 + 4) x2.toNatClampNeg) ||| (am_shl (1 : Int32) ((am_pI (am_pI q12.2 (p0 + 1) (q12.2.1 p0 6).toNatClampNeg x2) (p0 + 2) ((am_pI q12.2 (p0 + 1) (q12.2.1 p0 6).toNatClampNeg x2).1 p0 6).toNatClampNeg x3).1 p0 6)))).1 p0 6)))).1 p0 6) + (1 : Int32)))
                    else none
                  else none
                else none
              else none
            else none
          else none
def f_Ring_layOut_b25 : Nat → Nat → Int32 → am_Mm → Option am_Mm
  | 0, _, _, _ => none
  | n + 1, p0, x2, m =>
    if (m.1 p0 5) ≤ x2 then
      f_Ring_layOut_b137 am_F p0 (0 : Int32) m
    else
      f_Ring_layOut_b37 (f_Ring_layOut_b25 n) am_F p0 x2 (x2 + (2 : Int32)) m
def f_Ring_layOut (p0 : Nat) (x1 : Int32) (m : am_Mm) : Option am_Mm :=
  f_Ring_layOut_b25 am_F p0 (0 : Int32) (am_fl (am_pI (am_pI m p0 5 (am_min x1 (9 : Int32))) p0 6 (0 : Int32)) (p0 + 4) 9 (0 : Int32))
set_option maxHeartbeats 4000000 in
set_option maxRecDepth 100000 in
theorem f_Ring_layOut_b137_all {ro : am_Ro} {d : Nat} (hd : 2 ≤ d + 1) : ∀ (n : Nat) (p0 : Nat) (x2 : Int32) (hp0 : p0 = 6 ∨ p0 = 20) (m m' : am_Mm), f_Ring_layOut_b137 n p0 x2 m = some m' → am_AW am_nw ro (d + 1) mr_Ring_layOut 137 [some (.ref p0), none, some (.int x2), none] [] (S0, m) none (S0, m') := by
  intro n
  induction n with
  | zero =>
    intro p0 x2 hp0 m m' h
    rw [f_Ring_layOut_b137] at h
    cases h
  | succ n ih =>
    intro p0 x2 hp0 m m' h
    rw [f_Ring_layOut_b137] at h
    refine am_AW.run am_base_ok ok_Ring_layOut (Nat.le_add_left 1 d) 2 (pc1 := 139) (ls1 := [some (.ref p0), none, some (.int x2), none]) (st1 := [.ref p0, .int x2]) (σ1 := (S0, m)) rfl ?_
    refine am_AW.geti ok_Ring_layOut (Nat.le_add_left 1 d) rfl (sh_6_20_0 hp0) rfl ?_
    refine am_AW.brP ok_Ring_layOut rfl rfl am_c_ge (fun c2 => ?_) (fun c2 => ?_)
    · rw [if_pos c2] at h
      obtain rfl := Option.some.inj h
      exact am_AW.ret ok_Ring_layOut rfl rfl rfl rfl
    · rw [if_neg c2] at h
      refine am_AW.run am_base_ok ok_Ring_layOut (Nat.le_add_left 1 d) 1 (pc1 := 146) (ls1 := [some (.ref p0), none, some (.int x2), none]) (st1 := [.ref p0]) (σ1 := (S0, m)) rfl ?_
      refine am_AW.getf ok_Ring_layOut (Nat.le_add_left 1 d) rfl (sh_6_20_0 hp0) rfl ?_
      refine am_AW.run am_base_ok ok_Ring_layOut (Nat.le_add_left 1 d) 3 (pc1 := 152) (ls1 := [some (.ref p0), none, some (.int x2), none]) (st1 := [.ref p0, .ref p0, .int x2, .ref (p0 + 3)]) (σ1 := (S0, m)) rfl ?_
      refine am_AW.getf ok_Ring_layOut (Nat.le_add_left 1 d) rfl (sh_6_20_0 hp0) rfl ?_
      refine am_AW.run am_base_ok ok_Ring_layOut (Nat.le_add_left 1 d) 1 (pc1 := 156) (ls1 := [some (.ref p0), none, some (.int x2), none]) (st1 := [.int x2, .ref (p0 + 1), .ref p0, .int x2, .ref (p0 + 3)]) (σ1 := (S0, m)) rfl ?_
      by_cases g3 : am_in x2 27 = true
      rotate_left
      · rw [if_neg g3] at h
        cases h
      rw [if_pos g3] at h
      refine am_AW.iald ok_Ring_layOut (Nat.le_add_left 1 d) S0_len rfl (sh_6_20_1 hp0) g3 ?_
      refine am_AW.run am_base_ok ok_Ring_layOut (Nat.le_add_left 1 d) 1 (pc1 := 158) (ls1 := [some (.ref p0), none, some (.int x2), none]) (st1 := [.ref p0, .int (m.1 (p0 + 1) x2.toNatClampNeg), .ref p0, .int x2, .ref (p0 + 3)]) (σ1 := (S0, m)) rfl ?_
      refine am_AW.getf ok_Ring_layOut (Nat.le_add_left 1 d) rfl (sh_6_20_0 hp0) rfl ?_
      refine am_AW.run am_base_ok ok_Ring_layOut (Nat.le_add_left 1 d) 1 (pc1 := 162) (ls1 := [some (.ref p0), none, some (.int x2), none]) (st1 := [.int x2, .ref (p0 + 2), .int (m.1 (p0 + 1) x2.toNatClampNeg), .ref p0, .int x2, .ref (p0 + 3)]) (σ1 := (S0, m)) rfl ?_
      by_cases g4 : am_in x2 27 = true
      rotate_left
      · rw [if_neg g4] at h
        cases h
      rw [if_pos g4] at h
      refine am_AW.iald ok_Ring_layOut (Nat.le_add_left 1 d) S0_len rfl (sh_6_20_2 hp0) g4 ?_
      obtain ⟨q7, hq7, h⟩ := Option.bind_eq_some_iff.mp h
      refine am_AW.callV ok_Ring_layOut am_nw_ok (As := [.int (m.1 (p0 + 1) x2.toNatClampNeg), .int (m.1 (p0 + 2) x2.toNatClampNeg)]) (rest := [.int x2, .ref (p0 + 3)]) rfl rfl rfl oR_Ring_crossing lk_Ring_50 iM_Ring_crossing sE_Ring_crossing (qc := kq6) (sh_6_20_0 hp0) rfl rfl rfl (Nat.le_of_ble_eq_true rfl) (f_Ring_crossing_ok (d := d) (by omega) p0 (m.1 (p0 + 1) x2.toNatClampNeg) (m.1 (p0 + 2) x2.toNatClampNeg) hp0 hq7) ?_
      change am_AW am_nw ro (d + 1) mr_Ring_layOut 166 [some (.ref p0), none, some (.int x2), none] [.int q7.1, .int x2, .ref (p0 + 3)] (S0, q7.2) none (S0, m')
      by_cases g8 : am_in x2 27 = true
      rotate_left
      · rw [if_neg g8] at h
        cases h
      rw [if_pos g8] at h
      refine am_AW.iast ok_Ring_layOut (Nat.le_add_left 1 d) rfl (sh_6_20_3 hp0) g8 ?_
      change am_AW am_nw ro (d + 1) mr_Ring_layOut 167 [some (.ref p0), none, some (.int x2), none] [] (S0, (am_pI q7.2 (p0 + 3) x2.toNatClampNeg q7.1)) none (S0, m')
      refine am_AW.run am_base_ok ok_Ring_layOut (Nat.le_add_left 1 d) 2 (pc1 := 137) (ls1 := [some (.ref p0), none, some (.int (x2 + (1 : Int32))), none]) (st1 := []) (σ1 := (S0, (am_pI q7.2 (p0 + 3) x2.toNatClampNeg q7.1))) rfl ?_
      exact am_AW.weak (ih p0 (x2 + (1 : Int32)) hp0 _ _ h) (by simp only [am_le, and_self])
set_option maxHeartbeats 4000000 in
set_option maxRecDepth 100000 in
theorem f_Ring_layOut_b137_ok {ro : am_Ro} {d : Nat} (hd : 2 ≤ d + 1) (p0 : Nat) (x2 : Int32) (hp0 : p0 = 6 ∨ p0 = 20) {m m' : am_Mm} {n : Nat} (h : f_Ring_layOut_b137 n p0 x2 m = some m') : am_AW am_nw ro (d + 1) mr_Ring_layOut 137 [some (.ref p0), none, some (.int x2), none] [] (S0, m) none (S0, m') :=
  f_Ring_layOut_b137_all hd n p0 x2 hp0 m m' h
set_option maxHeartbeats 4000000 in
set_option maxRecDepth 100000 in
theorem f_Ring_layOut_b123_ok {ro : am_Ro} {d : Nat} (hd : 2 ≤ d + 1) {k25 : Nat → Int32 → am_Mm → Option am_Mm} (hk25 : ∀ (p0 : Nat) (x2 : Int32) (hp0 : p0 = 6 ∨ p0 = 20) (m m' : am_Mm), k25 p0 x2 m = some m' → am_AW am_nw ro (d + 1) mr_Ring_layOut 25 [some (.ref p0), none, some (.int x2), none] [] (S0, m) none (S0, m')) {k37 : Nat → Int32 → Int32 → am_Mm → Option am_Mm} (hk37 : ∀ (p0 : Nat) (x2 : Int32) (x3 : Int32) (hp0 : p0 = 6 ∨ p0 = 20) (m m' : am_Mm), k37 p0 x2 x3 m = some m' → am_AW am_nw ro (d + 1) mr_Ring_layOut 37 [some (.ref p0), none, some (.int x2), some (.int x3)] [] (S0, m) none (S0, m')) (p0 : Nat) (x2 : Int32) (x3 : Int32) (hp0 : p0 = 6 ∨ p0 = 20) {m m' : am_Mm} (h : f_Ring_layOut_b123 k25 k37 p0 x2 x3 m = some m') : am_AW am_nw ro (d + 1) mr_Ring_layOut 123 [some (.ref p0), none, some (.int x2), some (.int x3)] [] (S0, m) none (S0, m') := by
  unfold f_Ring_layOut_b123 at h
  refine am_AW.run am_base_ok ok_Ring_layOut (Nat.le_add_left 1 d) 2 (pc1 := 37) (ls1 := [some (.ref p0), none, some (.int x2), some (.int (x3 + (1 : Int32)))]) (st1 := []) (σ1 := (S0, m)) rfl ?_
  exact am_AW.weak (hk37 p0 x2 (x3 + (1 : Int32)) hp0 _ _ h) (by simp only [am_le, and_self])
set_option maxHeartbeats 4000000 in
set_option maxRecDepth 100000 in
theorem f_Ring_layOut_b37_all {ro : am_Ro} {d : Nat} (hd : 2 ≤ d + 1) {k25 : Nat → Int32 → am_Mm → Option am_Mm} (hk25 : ∀ (p0 : Nat) (x2 : Int32) (hp0 : p0 = 6 ∨ p0 = 20) (m m' : am_Mm), k25 p0 x2 m = some m' → am_AW am_nw ro (d + 1) mr_Ring_layOut 25 [some (.ref p0), none, some (.int x2), none] [] (S0, m) none (S0, m')) : ∀ (n : Nat) (p0 : Nat) (x2 : Int32) (x3 : Int32) (hp0 : p0 = 6 ∨ p0 = 20) (m m' : am_Mm), f_Ring_layOut_b37 k25 n p0 x2 x3 m = some m' → am_AW am_nw ro (d + 1) mr_Ring_layOut 37 [some (.ref p0), none, some (.int x2), some (.int x3)] [] (S0, m) none (S0, m') := by
  intro n
  induction n with
  | zero =>
    intro p0 x2 x3 hp0 m m' h
    rw [f_Ring_layOut_b37] at h
    cases h
  | succ n ih =>
    intro p0 x2 x3 hp0 m m' h
    rw [f_Ring_layOut_b37] at h
    refine am_AW.run am_base_ok ok_Ring_layOut (Nat.le_add_left 1 d) 2 (pc1 := 39) (ls1 := [some (.ref p0), none, some (.int x2), some (.int x3)]) (st1 := [.ref p0, .int x3]) (σ1 := (S0, m)) rfl ?_
    refine am_AW.geti ok_Ring_layOut (Nat.le_add_left 1 d) rfl (sh_6_20_0 hp0) rfl ?_
    refine am_AW.brP ok_Ring_layOut rfl rfl am_c_ge (fun c9 => ?_) (fun c9 => ?_)
    · rw [if_pos c9] at h
      refine am_AW.run am_base_ok ok_Ring_layOut (Nat.le_add_left 1 d) 2 (pc1 := 25) (ls1 := [some (.ref p0), none, some (.int (x2 + (1 : Int32))), some (.int x3)]) (st1 := []) (σ1 := (S0, m)) rfl ?_
      exact am_AW.weak (hk25 p0 (x2 + (1 : Int32)) hp0 _ _ h) (by simp only [am_le, and_self])
    · rw [if_neg c9] at h
      refine am_AW.run am_base_ok ok_Ring_layOut (Nat.le_add_left 1 d) 3 (pc1 := 48) (ls1 := [some (.ref p0), none, some (.int x2), some (.int x3)]) (st1 := [.int x3, .int x2, .ref p0]) (σ1 := (S0, m)) rfl ?_
      obtain ⟨q12, hq12, h⟩ := Option.bind_eq_some_iff.mp h
      refine am_AW.callV ok_Ring_layOut am_nw_ok (As := [.int x2, .int x3]) (rest := []) rfl rfl rfl oR_Ring_isCut lk_Ring_46 iM_Ring_isCut sE_Ring_isCut (qc := kq6) (sh_6_20_0 hp0) rfl rfl rfl (Nat.le_of_ble_eq_true rfl) (f_Ring_isCut_ok (d := d) (by omega) p0 x2 x3 hp0 hq12) ?_
      change am_AW am_nw ro (d + 1) mr_Ring_layOut 51 [some (.ref p0), none, some (.int x2), some (.int x3)] [.int q12.1] (S0, q12.2) none (S0, m')
      refine am_AW.brP ok_Ring_layOut rfl rfl am_c_eq (fun c13 => ?_) (fun c13 => ?_)
      · rw [if_pos c13] at h
        exact am_AW.weak (f_Ring_layOut_b123_ok hd (hk25) (ih) p0 x2 x3 hp0 h) (by simp only [am_le, and_self])
      · rw [if_neg c13] at h
        refine am_AW.run am_base_ok ok_Ring_layOut (Nat.le_add_left 1 d) 1 (pc1 := 55) (ls1 := [some (.ref p0), none, some (.int x2), some (.int x3)]) (st1 := [.ref p0]) (σ1 := (S0, q12.2)) rfl ?_
        refine am_AW.geti ok_Ring_layOut (Nat.le_add_left 1 d) rfl (sh_6_20_0 hp0) rfl ?_
        refine am_AW.run am_base_ok ok_Ring_layOut (Nat.le_add_left 1 d) 1 (pc1 := 60) (ls1 := [some (.ref p0), none, some (.int x2), some (.int x3)]) (st1 := [.int (27 : Int32), .int (q12.2.1 p0 6)]) (σ1 := (S0, q12.2)) rfl ?_
        refine am_AW.brP ok_Ring_layOut rfl rfl am_c_ge (fun c14 => ?_) (fun c14 => ?_)
        · rw [if_pos c14] at h
          exact am_AW.weak (f_Ring_layOut_b123_ok hd (hk25) (ih) p0 x2 x3 hp0 h) (by simp only [am_le, and_self])
        · rw [if_neg c14] at h
          refine am_AW.run am_base_ok ok_Ring_layOut (Nat.le_add_left 1 d) 1 (pc1 := 64) (ls1 := [some (.ref p0), none, some (.int x2), some (.int x3)]) (st1 := [.ref p0]) (σ1 := (S0, q12.2)) rfl ?_
          refine am_AW.getf ok_Ring_layOut (Nat.le_add_left 1 d) rfl (sh_6_20_0 hp0) rfl ?_
          refine am_AW.run am_base_ok ok_Ring_layOut (Nat.le_add_left 1 d) 1 (pc1 := 68) (ls1 := [some (.ref p0), none, some (.int x2), some (.int x3)]) (st1 := [.ref p0, .ref (p0 + 1)]) (σ1 := (S0, q12.2)) rfl ?_
          refine am_AW.geti ok_Ring_layOut (Nat.le_add_left 1 d) rfl (sh_6_20_0 hp0) rfl ?_
          refine am_AW.run am_base_ok ok_Ring_layOut (Nat.le_add_left 1 d) 1 (pc1 := 72) (ls1 := [some (.ref p0), none, some (.int x2), some (.int x3)]) (st1 := [.int x2, .int (q12.2.1 p0 6), .ref (p0 + 1)]) (σ1 := (S0, q12.2)) rfl ?_
          by_cases g15 : am_in (q12.2.1 p0 6) 27 = true
          rotate_left
          · rw [if_neg g15] at h
            cases h
          rw [if_pos g15] at h
          refine am_AW.iast ok_Ring_layOut (Nat.le_add_left 1 d) rfl (sh_6_20_1 hp0) g15 ?_
          change am_AW am_nw ro (d + 1) mr_Ring_layOut 73 [some (.ref p0), none, some (.int x2), some (.int x3)] [] (S0, (am_pI q12.2 (p0 + 1) (q12.2.1 p0 6).toNatClampNeg x2)) none (S0, m')
          refine am_AW.run am_base_ok ok_Ring_layOut (Nat.le_add_left 1 d) 1 (pc1 := 74) (ls1 := [some (.ref p0), none, some (.int x2), some (.int x3)]) (st1 := [.ref p0]) (σ1 := (S0, (am_pI q12.2 (p0 + 1) (q12.2.1 p0 6).toNatClampNeg x2))) rfl ?_
          refine am_AW.getf ok_Ring_layOut (Nat.le_add_left 1 d) rfl (sh_6_20_0 hp0) rfl ?_
          refine am_AW.run am_base_ok ok_Ring_layOut (Nat.le_add_left 1 d) 1 (pc1 := 78) (ls1 := [some (.ref p0), none, some (.int x2), some (.int x3)]) (st1 := [.ref p0, .ref (p0 + 2)]) (σ1 := (S0, (am_pI q12.2 (p0 + 1) (q12.2.1 p0 6).toNatClampNeg x2))) rfl ?_
          refine am_AW.geti ok_Ring_layOut (Nat.le_add_left 1 d) rfl (sh_6_20_0 hp0) rfl ?_
          refine am_AW.run am_base_ok ok_Ring_layOut (Nat.le_add_left 1 d) 1 (pc1 := 82) (ls1 := [some (.ref p0), none, some (.int x2), some (.int x3)]) (st1 := [.int x3, .int ((am_pI q12.2 (p0 + 1) (q12.2.1 p0 6).toNatClampNeg x2).1 p0 6), .ref (p0 + 2)]) (σ1 := (S0, (am_pI q12.2 (p0 + 1) (q12.2.1 p0 6).toNatClampNeg x2))) rfl ?_
          by_cases g16 : am_in ((am_pI q12.2 (p0 + 1) (q12.2.1 p0 6).toNatClampNeg x2).1 p0 6) 27 = true
          rotate_left
          · rw [if_neg g16] at h
            cases h
          rw [if_pos g16] at h
          refine am_AW.iast ok_Ring_layOut (Nat.le_add_left 1 d) rfl (sh_6_20_2 hp0) g16 ?_
          change am_AW am_nw ro (d + 1) mr_Ring_layOut 83 [some (.ref p0), none, some (.int x2), some (.int x3)] [] (S0, (am_pI (am_pI q12.2 (p0 + 1) (q12.2.1 p0 6).toNatClampNeg x2) (p0 + 2) ((am_pI q12.2 (p0 + 1) (q12.2.1 p0 6).toNatClampNeg x2).1 p0 6).toNatClampNeg x3)) none (S0, m')
          refine am_AW.run am_base_ok ok_Ring_layOut (Nat.le_add_left 1 d) 1 (pc1 := 84) (ls1 := [some (.ref p0), none, some (.int x2), some (.int x3)]) (st1 := [.ref p0]) (σ1 := (S0, (am_pI (am_pI q12.2 (p0 + 1) (q12.2.1 p0 6).toNatClampNeg x2) (p0 + 2) ((am_pI q12.2 (p0 + 1) (q12.2.1 p0 6).toNatClampNeg x2).1 p0 6).toNatClampNeg x3))) rfl ?_
          refine am_AW.getf ok_Ring_layOut (Nat.le_add_left 1 d) rfl (sh_6_20_0 hp0) rfl ?_
          refine am_AW.run am_base_ok ok_Ring_layOut (Nat.le_add_left 1 d) 2 (pc1 := 89) (ls1 := [some (.ref p0), none, some (.int x2), some (.int x3)]) (st1 := [.int x2, .ref (p0 + 4), .int x2, .ref (p0 + 4)]) (σ1 := (S0, (am_pI (am_pI q12.2 (p0 + 1) (q12.2.1 p0 6).toNatClampNeg x2) (p0 + 2) ((am_pI q12.2 (p0 + 1) (q12.2.1 p0 6).toNatClampNeg x2).1 p0 6).toNatClampNeg x3))) rfl ?_
          by_cases g17 : am_in x2 9 = true
          rotate_left
          · rw [if_neg g17] at h
            cases h
          rw [if_pos g17] at h
          refine am_AW.iald ok_Ring_layOut (Nat.le_add_left 1 d) S0_len rfl (sh_6_20_4 hp0) g17 ?_
          refine am_AW.run am_base_ok ok_Ring_layOut (Nat.le_add_left 1 d) 2 (pc1 := 92) (ls1 := [some (.ref p0), none, some (.int x2), some (.int x3)]) (st1 := [.ref p0, .int (1 : Int32), .int ((am_pI (am_pI q12.2 (p0 + 1) (q12.2.1 p0 6).toNatClampNeg x2) (p0 + 2) ((am_pI q12.2 (p0 + 1) (q12.2.1 p0 6).toNatClampNeg x2).1 p0 6).toNatClampNeg x3).1 (p0 + 4) x2.toNatClampNeg), .int x2, .ref (p0 + 4)]) (σ1 := (S0, (am_pI (am_pI q12.2 (p0 + 1) (q12.2.1 p0 6).toNatClampNeg x2) (p0 + 2) ((am_pI q12.2 (p0 + 1) (q12.2.1 p0 6).toNatClampNeg x2).1 p0 6).toNatClampNeg x3))) rfl ?_
          refine am_AW.geti ok_Ring_layOut (Nat.le_add_left 1 d) rfl (sh_6_20_0 hp0) rfl ?_
          refine am_AW.run am_base_ok ok_Ring_layOut (Nat.le_add_left 1 d) 2 (pc1 := 97) (ls1 := [some (.ref p0), none, some (.int x2), some (.int x3)]) (st1 := [.int (((am_pI (am_pI q12.2 (p0 + 1) (q12.2.1 p0 6).toNatClampNeg x2) (p0 + 2) ((am_pI q12.2 (p0 + 1) (q12.2.1 p0 6).toNatClampNeg x2).1 p0 6).toNatClampNeg x3).1 (p0 + 4) x2.toNatClampNeg) ||| (am_shl (1 : Int32) ((am_pI (am_pI q12.2 (p0 + 1) (q12.2.1 p0 6).toNatClampNeg x2) (p0 + 2) ((am_pI q12.2 (p0 + 1) (q12.2.1 p0 6).toNatClampNeg x2).1 p0 6).toNatClampNeg x3).1 p0 6))), .int x2, .ref (p0 + 4)]) (σ1 := (S0, (am_pI (am_pI q12.2 (p0 + 1) (q12.2.1 p0 6).toNatClampNeg x2) (p0 + 2) ((am_pI q12.2 (p0 + 1) (q12.2.1 p0 6).toNatClampNeg x2).1 p0 6).toNatClampNeg x3))) rfl ?_
          by_cases g18 : am_in x2 9 = true
          rotate_left
          · rw [if_neg g18] at h
            cases h
          rw [if_pos g18] at h
          refine am_AW.iast ok_Ring_layOut (Nat.le_add_left 1 d) rfl (sh_6_20_4 hp0) g18 ?_
          change am_AW am_nw ro (d + 1) mr_Ring_layOut 98 [some (.ref p0), none, some (.int x2), some (.int x3)] [] (S0, (am_pI (am_pI (am_pI q12.2 (p0 + 1) (q12.2.1 p0 6).toNatClampNeg x2) (p0 + 2) ((am_pI q12.2 (p0 + 1) (q12.2.1 p0 6).toNatClampNeg x2).1 p0 6).toNatClampNeg x3) (p0 + 4) x2.toNatClampNeg (((am_pI (am_pI q12.2 (p0 + 1) (q12.2.1 p0 6).toNatClampNeg x2) (p0 + 2) ((am_pI q12.2 (p0 + 1) (q12.2.1 p0 6).toNatClampNeg x2).1 p0 6).toNatClampNeg x3).1 (p0 + 4) x2.toNatClampNeg) ||| (am_shl (1 : Int32) ((am_pI (am_pI q12.2 (p0 + 1) (q12.2.1 p0 6).toNatClampNeg x2) (p0 + 2) ((am_pI q12.2 (p0 + 1) (q12.2.1 p0 6).toNatClampNeg x2).1 p0 6).toNatClampNeg x3).1 p0 6))))) none (S0, m')
          refine am_AW.run am_base_ok ok_Ring_layOut (Nat.le_add_left 1 d) 1 (pc1 := 99) (ls1 := [some (.ref p0), none, some (.int x2), some (.int x3)]) (st1 := [.ref p0]) (σ1 := (S0, (am_pI (am_pI (am_pI q12.2 (p0 + 1) (q12.2.1 p0 6).toNatClampNeg x2) (p0 + 2) ((am_pI q12.2 (p0 + 1) (q12.2.1 p0 6).toNatClampNeg x2).1 p0 6).toNatClampNeg x3) (p0 + 4) x2.toNatClampNeg (((am_pI (am_pI q12.2 (p0 + 1) (q12.2.1 p0 6).toNatClampNeg x2) (p0 + 2) ((am_pI q12.2 (p0 + 1) (q12.2.1 p0 6).toNatClampNeg x2).1 p0 6).toNatClampNeg x3).1 (p0 + 4) x2.toNatClampNeg) ||| (am_shl (1 : Int32) ((am_pI (am_pI q12.2 (p0 + 1) (q12.2.1 p0 6).toNatClampNeg x2) (p0 + 2) ((am_pI q12.2 (p0 + 1) (q12.2.1 p0 6).toNatClampNeg x2).1 p0 6).toNatClampNeg x3).1 p0 6)))))) rfl ?_
          refine am_AW.getf ok_Ring_layOut (Nat.le_add_left 1 d) rfl (sh_6_20_0 hp0) rfl ?_
          refine am_AW.run am_base_ok ok_Ring_layOut (Nat.le_add_left 1 d) 2 (pc1 := 104) (ls1 := [some (.ref p0), none, some (.int x2), some (.int x3)]) (st1 := [.int x3, .ref (p0 + 4), .int x3, .ref (p0 + 4)]) (σ1 := (S0, (am_pI (am_pI (am_pI q12.2 (p0 + 1) (q12.2.1 p0 6).toNatClampNeg x2) (p0 + 2) ((am_pI q12.2 (p0 + 1) (q12.2.1 p0 6).toNatClampNeg x2).1 p0 6).toNatClampNeg x3) (p0 + 4) x2.toNatClampNeg (((am_pI (am_pI q12.2 (p0 + 1) (q12.2.1 p0 6).toNatClampNeg x2) (p0 + 2) ((am_pI q12.2 (p0 + 1) (q12.2.1 p0 6).toNatClampNeg x2).1 p0 6).toNatClampNeg x3).1 (p0 + 4) x2.toNatClampNeg) ||| (am_shl (1 : Int32) ((am_pI (am_pI q12.2 (p0 + 1) (q12.2.1 p0 6).toNatClampNeg x2) (p0 + 2) ((am_pI q12.2 (p0 + 1) (q12.2.1 p0 6).toNatClampNeg x2).1 p0 6).toNatClampNeg x3).1 p0 6)))))) rfl ?_
          by_cases g19 : am_in x3 9 = true
          rotate_left
          · rw [if_neg g19] at h
            cases h
          rw [if_pos g19] at h
          refine am_AW.iald ok_Ring_layOut (Nat.le_add_left 1 d) S0_len rfl (sh_6_20_4 hp0) g19 ?_
          refine am_AW.run am_base_ok ok_Ring_layOut (Nat.le_add_left 1 d) 2 (pc1 := 107) (ls1 := [some (.ref p0), none, some (.int x2), some (.int x3)]) (st1 := [.ref p0, .int (1 : Int32), .int ((am_pI (am_pI (am_pI q12.2 (p0 + 1) (q12.2.1 p0 6).toNatClampNeg x2) (p0 + 2) ((am_pI q12.2 (p0 + 1) (q12.2.1 p0 6).toNatClampNeg x2).1 p0 6).toNatClampNeg x3) (p0 + 4) x2.toNatClampNeg (((am_pI (am_pI q12.2 (p0 + 1) (q12.2.1 p0 6).toNatClampNeg x2) (p0 + 2) ((am_pI q12.2 (p0 + 1) (q12.2.1 p0 6).toNatClampNeg x2).1 p0 6).toNatClampNeg x3).1 (p0 + 4) x2.toNatClampNeg) ||| (am_shl (1 : Int32) ((am_pI (am_pI q12.2 (p0 + 1) (q12.2.1 p0 6).toNatClampNeg x2) (p0 + 2) ((am_pI q12.2 (p0 + 1) (q12.2.1 p0 6).toNatClampNeg x2).1 p0 6).toNatClampNeg x3).1 p0 6)))).1 (p0 + 4) x3.toNatClampNeg), .int x3, .ref (p0 + 4)]) (σ1 := (S0, (am_pI (am_pI (am_pI q12.2 (p0 + 1) (q12.2.1 p0 6).toNatClampNeg x2) (p0 + 2) ((am_pI q12.2 (p0 + 1) (q12.2.1 p0 6).toNatClampNeg x2).1 p0 6).toNatClampNeg x3) (p0 + 4) x2.toNatClampNeg (((am_pI (am_pI q12.2 (p0 + 1) (q12.2.1 p0 6).toNatClampNeg x2) (p0 + 2) ((am_pI q12.2 (p0 + 1) (q12.2.1 p0 6).toNatClampNeg x2).1 p0 6).toNatClampNeg x3).1 (p0 + 4) x2.toNatClampNeg) ||| (am_shl (1 : Int32) ((am_pI (am_pI q12.2 (p0 + 1) (q12.2.1 p0 6).toNatClampNeg x2) (p0 + 2) ((am_pI q12.2 (p0 + 1) (q12.2.1 p0 6).toNatClampNeg x2).1 p0 6).toNatClampNeg x3).1 p0 6)))))) rfl ?_
          refine am_AW.geti ok_Ring_layOut (Nat.le_add_left 1 d) rfl (sh_6_20_0 hp0) rfl ?_
          refine am_AW.run am_base_ok ok_Ring_layOut (Nat.le_add_left 1 d) 2 (pc1 := 112) (ls1 := [some (.ref p0), none, some (.int x2), some (.int x3)]) (st1 := [.int (((am_pI (am_pI (am_pI q12.2 (p0 + 1) (q12.2.1 p0 6).toNatClampNeg x2) (p0 + 2) ((am_pI q12.2 (p0 + 1) (q12.2.1 p0 6).toNatClampNeg x2).1 p0 6).toNatClampNeg x3) (p0 + 4) x2.toNatClampNeg (((am_pI (am_pI q12.2 (p0 + 1) (q12.2.1 p0 6).toNatClampNeg x2) (p0 + 2) ((am_pI q12.2 (p0 + 1) (q12.2.1 p0 6).toNatClampNeg x2).1 p0 6).toNatClampNeg x3).1 (p0 + 4) x2.toNatClampNeg) ||| (am_shl (1 : Int32) ((am_pI (am_pI q12.2 (p0 + 1) (q12.2.1 p0 6).toNatClampNeg x2) (p0 + 2) ((am_pI q12.2 (p0 + 1) (q12.2.1 p0 6).toNatClampNeg x2).1 p0 6).toNatClampNeg x3).1 p0 6)))).1 (p0 + 4) x3.toNatClampNeg) ||| (am_shl (1 : Int32) ((am_pI (am_pI (am_pI q12.2 (p0 + 1) (q12.2.1 p0 6).toNatClampNeg x2) (p0 + 2) ((am_pI q12.2 (p0 + 1) (q12.2.1 p0 6).toNatClampNeg x2).1 p0 6).toNatClampNeg x3) (p0 + 4) x2.toNatClampNeg (((am_pI (am_pI q12.2 (p0 + 1) (q12.2.1 p0 6).toNatClampNeg x2) (p0 + 2) ((am_pI q12.2 (p0 + 1) (q12.2.1 p0 6).toNatClampNeg x2).1 p0 6).toNatClampNeg x3).1 (p0 + 4) x2.toNatClampNeg) ||| (am_shl (1 : Int32) ((am_pI (am_pI q12.2 (p0 + 1) (q12.2.1 p0 6).toNatClampNeg x2) (p0 + 2) ((am_pI q12.2 (p0 + 1) (q12.2.1 p0 6).toNatClampNeg x2).1 p0 6).toNatClampNeg x3).1 p0 6)))).1 p0 6))), .int x3, .ref (p0 + 4)]) (σ1 := (S0, (am_pI (am_pI (am_pI q12.2 (p0 + 1) (q12.2.1 p0 6).toNatClampNeg x2) (p0 + 2) ((am_pI q12.2 (p0 + 1) (q12.2.1 p0 6).toNatClampNeg x2).1 p0 6).toNatClampNeg x3) (p0 + 4) x2.toNatClampNeg (((am_pI (am_pI q12.2 (p0 + 1) (q12.2.1 p0 6).toNatClampNeg x2) (p0 + 2) ((am_pI q12.2 (p0 + 1) (q12.2.1 p0 6).toNatClampNeg x2).1 p0 6).toNatClampNeg x3).1 (p0 + 4) x2.toNatClampNeg) ||| (am_shl (1 : Int32) ((am_pI (am_pI q12.2 (p0 + 1) (q12.2.1 p0 6).toNatClampNeg x2) (p0 + 2) ((am_pI q12.2 (p0 + 1) (q12.2.1 p0 6).toNatClampNeg x2).1 p0 6).toNatClampNeg x3).1 p0 6)))))) rfl ?_
          by_cases g20 : am_in x3 9 = true
          rotate_left
          · rw [if_neg g20] at h
            cases h
          rw [if_pos g20] at h
          refine am_AW.iast ok_Ring_layOut (Nat.le_add_left 1 d) rfl (sh_6_20_4 hp0) g20 ?_
          change am_AW am_nw ro (d + 1) mr_Ring_layOut 113 [some (.ref p0), none, some (.int x2), some (.int x3)] [] (S0, (am_pI (am_pI (am_pI (am_pI q12.2 (p0 + 1) (q12.2.1 p0 6).toNatClampNeg x2) (p0 + 2) ((am_pI q12.2 (p0 + 1) (q12.2.1 p0 6).toNatClampNeg x2).1 p0 6).toNatClampNeg x3) (p0 + 4) x2.toNatClampNeg (((am_pI (am_pI q12.2 (p0 + 1) (q12.2.1 p0 6).toNatClampNeg x2) (p0 + 2) ((am_pI q12.2 (p0 + 1) (q12.2.1 p0 6).toNatClampNeg x2).1 p0 6).toNatClampNeg x3).1 (p0 + 4) x2.toNatClampNeg) ||| (am_shl (1 : Int32) ((am_pI (am_pI q12.2 (p0 + 1) (q12.2.1 p0 6).toNatClampNeg x2) (p0 + 2) ((am_pI q12.2 (p0 + 1) (q12.2.1 p0 6).toNatClampNeg x2).1 p0 6).toNatClampNeg x3).1 p0 6)))) (p0 + 4) x3.toNatClampNeg (((am_pI (am_pI (am_pI q12.2 (p0 + 1) (q12.2.1 p0 6).toNatClampNeg x2) (p0 + 2) ((am_pI q12.2 (p0 + 1) (q12.2.1 p0 6).toNatClampNeg x2).1 p0 6).toNatClampNeg x3) (p0 + 4) x2.toNatClampNeg (((am_pI (am_pI q12.2 (p0 + 1) (q12.2.1 p0 6).toNatClampNeg x2) (p0 + 2) ((am_pI q12.2 (p0 + 1) (q12.2.1 p0 6).toNatClampNeg x2).1 p0 6).toNatClampNeg x3).1 (p0 + 4) x2.toNatClampNeg) ||| (am_shl (1 : Int32) ((am_pI (am_pI q12.2 (p0 + 1) (q12.2.1 p0 6).toNatClampNeg x2) (p0 + 2) ((am_pI q12.2 (p0 + 1) (q12.2.1 p0 6).toNatClampNeg x2).1 p0 6).toNatClampNeg x3).1 p0 6)))).1 (p0 + 4) x3.toNatClampNeg) ||| (am_shl (1 : Int32) ((am_pI (am_pI (am_pI q12.2 (p0 + 1) (q12.2.1 p0 6).toNatClampNeg x2) (p0 + 2) ((am_pI q12.2 (p0 + 1) (q12.2.1 p0 6).toNatClampNeg x2).1 p0 6).toNatClampNeg x3) (p0 + 4) x2.toNatClampNeg (((am_pI (am_pI q12.2 (p0 + 1) (q12.2.1 p0 6).toNatClampNeg x2) (p0 + 2) ((am_pI q12.2 (p0 + 1) (q12.2.1 p0 6).toNatClampNeg x2).1 p0 6).toNatClampNeg x3).1 (p0 + 4) x2.toNatClampNeg) ||| (am_shl (1 : Int32) ((am_pI (am_pI q12.2 (p0 + 1) (q12.2.1 p0 6).toNatClampNeg x2) (p0 + 2) ((am_pI q12.2 (p0 + 1) (q12.2.1 p0 6).toNatClampNeg x2).1 p0 6).toNatClampNeg x3).1 p0 6)))).1 p0 6))))) none (S0, m')
          refine am_AW.run am_base_ok ok_Ring_layOut (Nat.le_add_left 1 d) 2 (pc1 := 115) (ls1 := [some (.ref p0), none, some (.int x2), some (.int x3)]) (st1 := [.ref p0, .ref p0]) (σ1 := (S0, (am_pI (am_pI (am_pI (am_pI q12.2 (p0 + 1) (q12.2.1 p0 6).toNatClampNeg x2) (p0 + 2) ((am_pI q12.2 (p0 + 1) (q12.2.1 p0 6).toNatClampNeg x2).1 p0 6).toNatClampNeg x3) (p0 + 4) x2.toNatClampNeg (((am_pI (am_pI q12.2 (p0 + 1) (q12.2.1 p0 6).toNatClampNeg x2) (p0 + 2) ((am_pI q12.2 (p0 + 1) (q12.2.1 p0 6).toNatClampNeg x2).1 p0 6).toNatClampNeg x3).1 (p0 + 4) x2.toNatClampNeg) ||| (am_shl (1 : Int32) ((am_pI (am_pI q12.2 (p0 + 1) (q12.2.1 p0 6).toNatClampNeg x2) (p0 + 2) ((am_pI q12.2 (p0 + 1) (q12.2.1 p0 6).toNatClampNeg x2).1 p0 6).toNatClampNeg x3).1 p0 6)))) (p0 + 4) x3.toNatClampNeg (((am_pI (am_pI (am_pI q12.2 (p0 + 1) (q12.2.1 p0 6).toNatClampNeg x2) (p0 + 2) ((am_pI q12.2 (p0 + 1) (q12.2.1 p0 6).toNatClampNeg x2).1 p0 6).toNatClampNeg x3) (p0 + 4) x2.toNatClampNeg (((am_pI (am_pI q12.2 (p0 + 1) (q12.2.1 p0 6).toNatClampNeg x2) (p0 + 2) ((am_pI q12.2 (p0 + 1) (q12.2.1 p0 6).toNatClampNeg x2).1 p0 6).toNatClampNeg x3).1 (p0 + 4) x2.toNatClampNeg) ||| (am_shl (1 : Int32) ((am_pI (am_pI q12.2 (p0 + 1) (q12.2.1 p0 6).toNatClampNeg x2) (p0 + 2) ((am_pI q12.2 (p0 + 1) (q12.2.1 p0 6).toNatClampNeg x2).1 p0 6).toNatClampNeg x3).1 p0 6)))).1 (p0 + 4) x3.toNatClampNeg) ||| (am_shl (1 : Int32) ((am_pI (am_pI (am_pI q12.2 (p0 + 1) (q12.2.1 p0 6).toNatClampNeg x2) (p0 + 2) ((am_pI q12.2 (p0 + 1) (q12.2.1 p0 6).toNatClampNeg x2).1 p0 6).toNatClampNeg x3) (p0 + 4) x2.toNatClampNeg (((am_pI (am_pI q12.2 (p0 + 1) (q12.2.1 p0 6).toNatClampNeg x2) (p0 + 2) ((am_pI q12.2 (p0 + 1) (q12.2.1 p0 6).toNatClampNeg x2).1 p0 6).toNatClampNeg x3).1 (p0 + 4) x2.toNatClampNeg) ||| (am_shl (1 : Int32) ((am_pI (am_pI q12.2 (p0 + 1) (q12.2.1 p0 6).toNatClampNeg x2) (p0 + 2) ((am_pI q12.2 (p0 + 1) (q12.2.1 p0 6).toNatClampNeg x2).1 p0 6).toNatClampNeg x3).1 p0 6)))).1 p0 6)))))) rfl ?_
          refine am_AW.geti ok_Ring_layOut (Nat.le_add_left 1 d) rfl (sh_6_20_0 hp0) rfl ?_
          refine am_AW.run am_base_ok ok_Ring_layOut (Nat.le_add_left 1 d) 2 (pc1 := 120) (ls1 := [some (.ref p0), none, some (.int x2), some (.int x3)]) (st1 := [.int (((am_pI (am_pI (am_pI (am_pI q12.2 (p0 + 1) (q12.2.1 p0 6).toNatClampNeg x2) (p0 + 2) ((am_pI q12.2 (p0 + 1) (q12.2.1 p0 6).toNatClampNeg x2).1 p0 6).toNatClampNeg x3) (p0 + 4) x2.toNatClampNeg (((am_pI (am_pI q12.2 (p0 + 1) (q12.2.1 p0 6).toNatClampNeg x2) (p0 + 2) ((am_pI q12.2 (p0 + 1) (q12.2.1 p0 6).toNatClampNeg x2).1 p0 6).toNatClampNeg x3).1 (p0 + 4) x2.toNatClampNeg) ||| (am_shl (1 : Int32) ((am_pI (am_pI q12.2 (p0 + 1) (q12.2.1 p0 6).toNatClampNeg x2) (p0 + 2) ((am_pI q12.2 (p0 + 1) (q12.2.1 p0 6).toNatClampNeg x2).1 p0 6).toNatClampNeg x3).1 p0 6)))) (p0 + 4) x3.toNatClampNeg (((am_pI (am_pI (am_pI q12.2 (p0 + 1) (q12.2.1 p0 6).toNatClampNeg x2) (p0 + 2) ((am_pI q12.2 (p0 + 1) (q12.2.1 p0 6).toNatClampNeg x2).1 p0 6).toNatClampNeg x3) (p0 + 4) x2.toNatClampNeg (((am_pI (am_pI q12.2 (p0 + 1) (q12.2.1 p0 6).toNatClampNeg x2) (p0 + 2) ((am_pI q12.2 (p0 + 1) (q12.2.1 p0 6).toNatClampNeg x2).1 p0 6).toNatClampNeg x3).1 (p0 + 4) x2.toNatClampNeg) ||| (am_shl (1 : Int32) ((am_pI (am_pI q12.2 (p0 + 1) (q12.2.1 p0 6).toNatClampNeg x2) (p0 + 2) ((am_pI q12.2 (p0 + 1) (q12.2.1 p0 6).toNatClampNeg x2).1 p0 6).toNatClampNeg x3).1 p0 6)))).1 (p0 + 4) x3.toNatClampNeg) ||| (am_shl (1 : Int32) ((am_pI (am_pI (am_pI q12.2 (p0 + 1) (q12.2.1 p0 6).toNatClampNeg x2) (p0 + 2) ((am_pI q12.2 (p0 + 1) (q12.2.1 p0 6).toNatClampNeg x2).1 p0 6).toNatClampNeg x3) (p0 + 4) x2.toNatClampNeg (((am_pI (am_pI q12.2 (p0 + 1) (q12.2.1 p0 6).toNatClampNeg x2) (p0 + 2) ((am_pI q12.2 (p0 + 1) (q12.2.1 p0 6).toNatClampNeg x2).1 p0 6).toNatClampNeg x3).1 (p0 + 4) x2.toNatClampNeg) ||| (am_shl (1 : Int32) ((am_pI (am_pI q12.2 (p0 + 1) (q12.2.1 p0 6).toNatClampNeg x2) (p0 + 2) ((am_pI q12.2 (p0 + 1) (q12.2.1 p0 6).toNatClampNeg x2).1 p0 6).toNatClampNeg x3).1 p0 6)))).1 p0 6)))).1 p0 6) + (1 : Int32)), .ref p0]) (σ1 := (S0, (am_pI (am_pI (am_pI (am_pI q12.2 (p0 + 1) (q12.2.1 p0 6).toNatClampNeg x2) (p0 + 2) ((am_pI q12.2 (p0 + 1) (q12.2.1 p0 6).toNatClampNeg x2).1 p0 6).toNatClampNeg x3) (p0 + 4) x2.toNatClampNeg (((am_pI (am_pI q12.2 (p0 + 1) (q12.2.1 p0 6).toNatClampNeg x2) (p0 + 2) ((am_pI q12.2 (p0 + 1) (q12.2.1 p0 6).toNatClampNeg x2).1 p0 6).toNatClampNeg x3).1 (p0 + 4) x2.toNatClampNeg) ||| (am_shl (1 : Int32) ((am_pI (am_pI q12.2 (p0 + 1) (q12.2.1 p0 6).toNatClampNeg x2) (p0 + 2) ((am_pI q12.2 (p0 + 1) (q12.2.1 p0 6).toNatClampNeg x2).1 p0 6).toNatClampNeg x3).1 p0 6)))) (p0 + 4) x3.toNatClampNeg (((am_pI (am_pI (am_pI q12.2 (p0 + 1) (q12.2.1 p0 6).toNatClampNeg x2) (p0 + 2) ((am_pI q12.2 (p0 + 1) (q12.2.1 p0 6).toNatClampNeg x2).1 p0 6).toNatClampNeg x3) (p0 + 4) x2.toNatClampNeg (((am_pI (am_pI q12.2 (p0 + 1) (q12.2.1 p0 6).toNatClampNeg x2) (p0 + 2) ((am_pI q12.2 (p0 + 1) (q12.2.1 p0 6).toNatClampNeg x2).1 p0 6).toNatClampNeg x3).1 (p0 + 4) x2.toNatClampNeg) ||| (am_shl (1 : Int32) ((am_pI (am_pI q12.2 (p0 + 1) (q12.2.1 p0 6).toNatClampNeg x2) (p0 + 2) ((am_pI q12.2 (p0 + 1) (q12.2.1 p0 6).toNatClampNeg x2).1 p0 6).toNatClampNeg x3).1 p0 6)))).1 (p0 + 4) x3.toNatClampNeg) ||| (am_shl (1 : Int32) ((am_pI (am_pI (am_pI q12.2 (p0 + 1) (q12.2.1 p0 6).toNatClampNeg x2) (p0 + 2) ((am_pI q12.2 (p0 + 1) (q12.2.1 p0 6).toNatClampNeg x2).1 p0 6).toNatClampNeg x3) (p0 + 4) x2.toNatClampNeg (((am_pI (am_pI q12.2 (p0 + 1) (q12.2.1 p0 6).toNatClampNeg x2) (p0 + 2) ((am_pI q12.2 (p0 + 1) (q12.2.1 p0 6).toNatClampNeg x2).1 p0 6).toNatClampNeg x3).1 (p0 + 4) x2.toNatClampNeg) ||| (am_shl (1 : Int32) ((am_pI (am_pI q12.2 (p0 + 1) (q12.2.1 p0 6).toNatClampNeg x2) (p0 + 2) ((am_pI q12.2 (p0 + 1) (q12.2.1 p0 6).toNatClampNeg x2).1 p0 6).toNatClampNeg x3).1 p0 6)))).1 p0 6)))))) rfl ?_
          refine am_AW.puti ok_Ring_layOut (Nat.le_add_left 1 d) rfl (sh_6_20_0 hp0) rfl (qc := kq6) rfl (by decide) ty_6_6 ?_
          exact am_AW.weak (f_Ring_layOut_b123_ok hd (hk25) (ih) p0 x2 x3 hp0 h) (by simp only [am_le, and_self])
set_option maxHeartbeats 4000000 in
set_option maxRecDepth 100000 in
theorem f_Ring_layOut_b37_ok {ro : am_Ro} {d : Nat} (hd : 2 ≤ d + 1) {k25 : Nat → Int32 → am_Mm → Option am_Mm} (hk25 : ∀ (p0 : Nat) (x2 : Int32) (hp0 : p0 = 6 ∨ p0 = 20) (m m' : am_Mm), k25 p0 x2 m = some m' → am_AW am_nw ro (d + 1) mr_Ring_layOut 25 [some (.ref p0), none, some (.int x2), none] [] (S0, m) none (S0, m')) (p0 : Nat) (x2 : Int32) (x3 : Int32) (hp0 : p0 = 6 ∨ p0 = 20) {m m' : am_Mm} {n : Nat} (h : f_Ring_layOut_b37 k25 n p0 x2 x3 m = some m') : am_AW am_nw ro (d + 1) mr_Ring_layOut 37 [some (.ref p0), none, some (.int x2), some (.int x3)] [] (S0, m) none (S0, m') :=
  f_Ring_layOut_b37_all hd hk25 n p0 x2 x3 hp0 m m' h
set_option maxHeartbeats 4000000 in
set_option maxRecDepth 100000 in
theorem f_Ring_layOut_b25_all {ro : am_Ro} {d : Nat} (hd : 2 ≤ d + 1) : ∀ (n : Nat) (p0 : Nat) (x2 : Int32) (hp0 : p0 = 6 ∨ p0 = 20) (m m' : am_Mm), f_Ring_layOut_b25 n p0 x2 m = some m' → am_AW am_nw ro (d + 1) mr_Ring_layOut 25 [some (.ref p0), none, some (.int x2), none] [] (S0, m) none (S0, m') := by
  intro n
  induction n with
  | zero =>
    intro p0 x2 hp0 m m' h
    rw [f_Ring_layOut_b25] at h
    cases h
  | succ n ih =>
    intro p0 x2 hp0 m m' h
    rw [f_Ring_layOut_b25] at h
    refine am_AW.run am_base_ok ok_Ring_layOut (Nat.le_add_left 1 d) 2 (pc1 := 27) (ls1 := [some (.ref p0), none, some (.int x2), none]) (st1 := [.ref p0, .int x2]) (σ1 := (S0, m)) rfl ?_
    refine am_AW.geti ok_Ring_layOut (Nat.le_add_left 1 d) rfl (sh_6_20_0 hp0) rfl ?_
    refine am_AW.brP ok_Ring_layOut rfl rfl am_c_ge (fun c1 => ?_) (fun c1 => ?_)
    · rw [if_pos c1] at h
      refine am_AW.run am_base_ok ok_Ring_layOut (Nat.le_add_left 1 d) 2 (pc1 := 137) (ls1 := [some (.ref p0), none, some (.int (0 : Int32)), none]) (st1 := []) (σ1 := (S0, m)) rfl ?_
      exact am_AW.weak (f_Ring_layOut_b137_ok hd p0 (0 : Int32) hp0 h) (by simp only [am_le, and_self])
    · rw [if_neg c1] at h
      refine am_AW.run am_base_ok ok_Ring_layOut (Nat.le_add_left 1 d) 4 (pc1 := 37) (ls1 := [some (.ref p0), none, some (.int x2), some (.int (x2 + (2 : Int32)))]) (st1 := []) (σ1 := (S0, m)) rfl ?_
      exact am_AW.weak (f_Ring_layOut_b37_ok hd (ih) p0 x2 (x2 + (2 : Int32)) hp0 h) (by simp only [am_le, and_self])
set_option maxHeartbeats 4000000 in
set_option maxRecDepth 100000 in
theorem f_Ring_layOut_b25_ok {ro : am_Ro} {d : Nat} (hd : 2 ≤ d + 1) (p0 : Nat) (x2 : Int32) (hp0 : p0 = 6 ∨ p0 = 20) {m m' : am_Mm} {n : Nat} (h : f_Ring_layOut_b25 n p0 x2 m = some m') : am_AW am_nw ro (d + 1) mr_Ring_layOut 25 [some (.ref p0), none, some (.int x2), none] [] (S0, m) none (S0, m') :=
  f_Ring_layOut_b25_all hd n p0 x2 hp0 m m' h
set_option maxHeartbeats 4000000 in
set_option maxRecDepth 100000 in
theorem f_Ring_layOut_ok {ro : am_Ro} {d : Nat} (hd : 2 ≤ d) (p0 : Nat) (x1 : Int32) (hp0 : p0 = 6 ∨ p0 = 20) {m m' : am_Mm} (h : f_Ring_layOut p0 x1 m = some m') : am_Mt am_nw ro d mr_Ring_layOut [.ref p0, .int x1] (S0, m) none (S0, m') := by
  obtain ⟨d, rfl⟩ : ∃ d0, d = d0 + 1 := ⟨d - 1, by omega⟩
  refine am_Mt.of (by decide +kernel) (Nat.le_of_ble_eq_true rfl) ?_
  change am_AW am_nw ro (d + 1) mr_Ring_layOut 0 [some (.ref p0), some (.int x1), none, none] [] (S0, m) none (S0, m')
  unfold f_Ring_layOut at h
  refine am_AW.run am_base_ok ok_Ring_layOut (Nat.le_add_left 1 d) 3 (pc1 := 4) (ls1 := [some (.ref p0), some (.int x1), none, none]) (st1 := [.int (9 : Int32), .int x1, .ref p0]) (σ1 := (S0, m)) rfl ?_
  refine am_AW.mmin ok_Ring_layOut (Nat.le_add_left 1 d) rfl lk_Ring_34 (Nat.le_of_ble_eq_true rfl) ?_
  change am_AW am_nw ro (d + 1) mr_Ring_layOut 7 [some (.ref p0), some (.int x1), none, none] [.int (am_min x1 (9 : Int32)), .ref p0] (S0, m) none (S0, m')
  refine am_AW.puti ok_Ring_layOut (Nat.le_add_left 1 d) rfl (sh_6_20_0 hp0) rfl (qc := kq6) rfl (by decide) ty_6_5 ?_
  refine am_AW.run am_base_ok ok_Ring_layOut (Nat.le_add_left 1 d) 2 (pc1 := 12) (ls1 := [some (.ref p0), some (.int x1), none, none]) (st1 := [.int (0 : Int32), .ref p0]) (σ1 := (S0, (am_pI m p0 5 (am_min x1 (9 : Int32))))) rfl ?_
  refine am_AW.puti ok_Ring_layOut (Nat.le_add_left 1 d) rfl (sh_6_20_0 hp0) rfl (qc := kq6) rfl (by decide) ty_6_6 ?_
  refine am_AW.run am_base_ok ok_Ring_layOut (Nat.le_add_left 1 d) 1 (pc1 := 16) (ls1 := [some (.ref p0), some (.int x1), none, none]) (st1 := [.ref p0]) (σ1 := (S0, (am_pI (am_pI m p0 5 (am_min x1 (9 : Int32))) p0 6 (0 : Int32)))) rfl ?_
  refine am_AW.getf ok_Ring_layOut (Nat.le_add_left 1 d) rfl (sh_6_20_0 hp0) rfl ?_
  refine am_AW.run am_base_ok ok_Ring_layOut (Nat.le_add_left 1 d) 1 (pc1 := 20) (ls1 := [some (.ref p0), some (.int x1), none, none]) (st1 := [.int (0 : Int32), .ref (p0 + 4)]) (σ1 := (S0, (am_pI (am_pI m p0 5 (am_min x1 (9 : Int32))) p0 6 (0 : Int32)))) rfl ?_
  refine am_AW.callS ok_Ring_layOut am_nw_ok (As := [.ref (p0 + 4), .int (0 : Int32)]) (rest := []) rfl rfl rfl oR_Arrays_fill lk_Ring_40 sT_Arrays_fill rfl (Nat.le_of_ble_eq_true rfl) (am_fill_ok (by omega) S0_len (by decide) (sh_6_20_4 hp0)) ?_
  change am_AW am_nw ro (d + 1) mr_Ring_layOut 23 [some (.ref p0), some (.int x1), none, none] [] (S0, (am_fl (am_pI (am_pI m p0 5 (am_min x1 (9 : Int32))) p0 6 (0 : Int32)) (p0 + 4) 9 (0 : Int32))) none (S0, m')
  refine am_AW.run am_base_ok ok_Ring_layOut (Nat.le_add_left 1 d) 2 (pc1 := 25) (ls1 := [some (.ref p0), some (.int x1), some (.int (0 : Int32)), none]) (st1 := []) (σ1 := (S0, (am_fl (am_pI (am_pI m p0 5 (am_min x1 (9 : Int32))) p0 6 (0 : Int32)) (p0 + 4) 9 (0 : Int32)))) rfl ?_
  exact am_AW.weak (f_Ring_layOut_b25_ok hd p0 (0 : Int32) hp0 h) (by simp only [am_le, and_self])
/-! FriezePolygons$Ring.numberOf(II)I -/
def f_Ring_numberOf (p0 : Nat) (x1 : Int32) (x2 : Int32) (m : am_Mm) : Option (Int32 × am_Mm) :=
  (f_Ring_isCut p0 (am_min x1 x2) (am_max x1 x2) m).bind fun q3 =>
  if q3.1 = (0 : Int32) then
    some ((-1 : Int32), q3.2)
  else
    if (am_min x1 x2) = (0 : Int32) then
      some (((am_max x1 x2) - (2 : Int32)), q3.2)
    else
      some ((((((((q3.2.1 p0 5) - (3 : Int32)) + (((am_min x1 x2) - (1 : Int32)) * ((q3.2.1 p0 5) - (2 : Int32)))) - (((am_min x1 x2) * ((am_min x1 x2) - (1 : Int32))) / (2 : Int32))) + (am_max x1 x2)) - (am_min x1 x2)) - (2 : Int32)), q3.2)
set_option maxHeartbeats 4000000 in
set_option maxRecDepth 100000 in
theorem f_Ring_numberOf_ok {ro : am_Ro} {d : Nat} (hd : 2 ≤ d) (p0 : Nat) (x1 : Int32) (x2 : Int32) (hp0 : p0 = 6 ∨ p0 = 20) {m m' : am_Mm} {r : Int32} (h : f_Ring_numberOf p0 x1 x2 m = some (r, m')) : am_Mt am_nw ro d mr_Ring_numberOf [.ref p0, .int x1, .int x2] (S0, m) (some (.int r)) (S0, m') := by
  obtain ⟨d, rfl⟩ : ∃ d0, d = d0 + 1 := ⟨d - 1, by omega⟩
  refine am_Mt.of (by decide +kernel) (Nat.le_of_ble_eq_true rfl) ?_
  change am_AW am_nw ro (d + 1) mr_Ring_numberOf 0 [some (.ref p0), some (.int x1), some (.int x2), none, none] [] (S0, m) (some (.int r)) (S0, m')
  unfold f_Ring_numberOf at h
  refine am_AW.run am_base_ok ok_Ring_numberOf (Nat.le_add_left 1 d) 2 (pc1 := 2) (ls1 := [some (.ref p0), some (.int x1), some (.int x2), none, none]) (st1 := [.int x2, .int x1]) (σ1 := (S0, m)) rfl ?_
  refine am_AW.mmin ok_Ring_numberOf (Nat.le_add_left 1 d) rfl lk_Ring_34 (Nat.le_of_ble_eq_true rfl) ?_
  change am_AW am_nw ro (d + 1) mr_Ring_numberOf 5 [some (.ref p0), some (.int x1), some (.int x2), none, none] [.int (am_min x1 x2)] (S0, m) (some (.int r)) (S0, m')
  refine am_AW.run am_base_ok ok_Ring_numberOf (Nat.le_add_left 1 d) 3 (pc1 := 8) (ls1 := [some (.ref p0), some (.int x1), some (.int x2), some (.int (am_min x1 x2)), none]) (st1 := [.int x2, .int x1]) (σ1 := (S0, m)) rfl ?_
  refine am_AW.mmax ok_Ring_numberOf (Nat.le_add_left 1 d) rfl lk_Ring_53 (Nat.le_of_ble_eq_true rfl) ?_
  change am_AW am_nw ro (d + 1) mr_Ring_numberOf 11 [some (.ref p0), some (.int x1), some (.int x2), some (.int (am_min x1 x2)), none] [.int (am_max x1 x2)] (S0, m) (some (.int r)) (S0, m')
  refine am_AW.run am_base_ok ok_Ring_numberOf (Nat.le_add_left 1 d) 4 (pc1 := 17) (ls1 := [some (.ref p0), some (.int x1), some (.int x2), some (.int (am_min x1 x2)), some (.int (am_max x1 x2))]) (st1 := [.int (am_max x1 x2), .int (am_min x1 x2), .ref p0]) (σ1 := (S0, m)) rfl ?_
  obtain ⟨q3, hq3, h⟩ := Option.bind_eq_some_iff.mp h
  refine am_AW.callV ok_Ring_numberOf am_nw_ok (As := [.int (am_min x1 x2), .int (am_max x1 x2)]) (rest := []) rfl rfl rfl oR_Ring_isCut lk_Ring_46 iM_Ring_isCut sE_Ring_isCut (qc := kq6) (sh_6_20_0 hp0) rfl rfl rfl (Nat.le_of_ble_eq_true rfl) (f_Ring_isCut_ok (d := d) (by omega) p0 (am_min x1 x2) (am_max x1 x2) hp0 hq3) ?_
  change am_AW am_nw ro (d + 1) mr_Ring_numberOf 20 [some (.ref p0), some (.int x1), some (.int x2), some (.int (am_min x1 x2)), some (.int (am_max x1 x2))] [.int q3.1] (S0, q3.2) (some (.int r)) (S0, m')
  refine am_AW.brN ok_Ring_numberOf rfl rfl am_c_ne (fun c4 => ?_) (fun c4 => ?_)
  · rw [if_pos c4] at h
    refine am_AW.run am_base_ok ok_Ring_numberOf (Nat.le_add_left 1 d) 1 (pc1 := 24) (ls1 := [some (.ref p0), some (.int x1), some (.int x2), some (.int (am_min x1 x2)), some (.int (am_max x1 x2))]) (st1 := [.int (-1 : Int32)]) (σ1 := (S0, q3.2)) rfl ?_
    obtain ⟨rfl, rfl⟩ := Prod.mk.inj (Option.some.inj h)
    exact am_AW.ret ok_Ring_numberOf rfl rfl rfl rfl
  · rw [if_neg c4] at h
    refine am_AW.run am_base_ok ok_Ring_numberOf (Nat.le_add_left 1 d) 1 (pc1 := 26) (ls1 := [some (.ref p0), some (.int x1), some (.int x2), some (.int (am_min x1 x2)), some (.int (am_max x1 x2))]) (st1 := [.int (am_min x1 x2)]) (σ1 := (S0, q3.2)) rfl ?_
    refine am_AW.brN ok_Ring_numberOf rfl rfl am_c_ne (fun c5 => ?_) (fun c5 => ?_)
    · rw [if_pos c5] at h
      refine am_AW.run am_base_ok ok_Ring_numberOf (Nat.le_add_left 1 d) 3 (pc1 := 33) (ls1 := [some (.ref p0), some (.int x1), some (.int x2), some (.int (am_min x1 x2)), some (.int (am_max x1 x2))]) (st1 := [.int ((am_max x1 x2) - (2 : Int32))]) (σ1 := (S0, q3.2)) rfl ?_
      obtain ⟨rfl, rfl⟩ := Prod.mk.inj (Option.some.inj h)
      exact am_AW.ret ok_Ring_numberOf rfl rfl rfl rfl
    · rw [if_neg c5] at h
      refine am_AW.run am_base_ok ok_Ring_numberOf (Nat.le_add_left 1 d) 1 (pc1 := 35) (ls1 := [some (.ref p0), some (.int x1), some (.int x2), some (.int (am_min x1 x2)), some (.int (am_max x1 x2))]) (st1 := [.ref p0]) (σ1 := (S0, q3.2)) rfl ?_
      refine am_AW.geti ok_Ring_numberOf (Nat.le_add_left 1 d) rfl (sh_6_20_0 hp0) rfl ?_
      refine am_AW.run am_base_ok ok_Ring_numberOf (Nat.le_add_left 1 d) 6 (pc1 := 44) (ls1 := [some (.ref p0), some (.int x1), some (.int x2), some (.int (am_min x1 x2)), some (.int (am_max x1 x2))]) (st1 := [.ref p0, .int ((am_min x1 x2) - (1 : Int32)), .int ((q3.2.1 p0 5) - (3 : Int32))]) (σ1 := (S0, q3.2)) rfl ?_
      refine am_AW.geti ok_Ring_numberOf (Nat.le_add_left 1 d) rfl (sh_6_20_0 hp0) rfl ?_
      refine am_AW.run am_base_ok ok_Ring_numberOf (Nat.le_add_left 1 d) 10 (pc1 := 57) (ls1 := [some (.ref p0), some (.int x1), some (.int x2), some (.int (am_min x1 x2)), some (.int (am_max x1 x2))]) (st1 := [.int (2 : Int32), .int ((am_min x1 x2) * ((am_min x1 x2) - (1 : Int32))), .int (((q3.2.1 p0 5) - (3 : Int32)) + (((am_min x1 x2) - (1 : Int32)) * ((q3.2.1 p0 5) - (2 : Int32))))]) (σ1 := (S0, q3.2)) rfl ?_
      refine am_AW.dvi ok_Ring_numberOf (Nat.le_add_left 1 d) (w := (((am_min x1 x2) * ((am_min x1 x2) - (1 : Int32))) / (2 : Int32))) (Or.inl ⟨rfl, rfl⟩) rfl (by decide) ?_
      refine am_AW.run am_base_ok ok_Ring_numberOf (Nat.le_add_left 1 d) 7 (pc1 := 66) (ls1 := [some (.ref p0), some (.int x1), some (.int x2), some (.int (am_min x1 x2)), some (.int (am_max x1 x2))]) (st1 := [.int (((((((q3.2.1 p0 5) - (3 : Int32)) + (((am_min x1 x2) - (1 : Int32)) * ((q3.2.1 p0 5) - (2 : Int32)))) - (((am_min x1 x2) * ((am_min x1 x2) - (1 : Int32))) / (2 : Int32))) + (am_max x1 x2)) - (am_min x1 x2)) - (2 : Int32))]) (σ1 := (S0, q3.2)) rfl ?_
      obtain ⟨rfl, rfl⟩ := Prod.mk.inj (Option.some.inj h)
      exact am_AW.ret ok_Ring_numberOf rfl rfl rfl rfl
/-! FriezePolygons$Ring.isFree(II)Z -/
def f_Ring_isFree (p0 : Nat) (x1 : Int32) (x2 : Int32) (m : am_Mm) : Option (Int32 × am_Mm) :=
  (f_Ring_isNumber p0 x2 m).bind fun q3 =>
  if q3.1 = (0 : Int32) then
    some ((0 : Int32), q3.2)
  else
    if am_in x2 27 = true then
      if (x1 &&& ((q3.2.1 (p0 + 3) x2.toNatClampNeg) ||| (am_shl (1 : Int32) x2))) = (0 : Int32) then
        some ((1 : Int32), q3.2)
      else
        some ((0 : Int32), q3.2)
    else none
set_option maxHeartbeats 4000000 in
set_option maxRecDepth 100000 in
theorem f_Ring_isFree_ok {ro : am_Ro} {d : Nat} (hd : 2 ≤ d) (p0 : Nat) (x1 : Int32) (x2 : Int32) (hp0 : p0 = 6 ∨ p0 = 20) {m m' : am_Mm} {r : Int32} (h : f_Ring_isFree p0 x1 x2 m = some (r, m')) : am_Mt am_nw ro d mr_Ring_isFree [.ref p0, .int x1, .int x2] (S0, m) (some (.int r)) (S0, m') := by
  obtain ⟨d, rfl⟩ : ∃ d0, d = d0 + 1 := ⟨d - 1, by omega⟩
  refine am_Mt.of (by decide +kernel) (Nat.le_of_ble_eq_true rfl) ?_
  change am_AW am_nw ro (d + 1) mr_Ring_isFree 0 [some (.ref p0), some (.int x1), some (.int x2)] [] (S0, m) (some (.int r)) (S0, m')
  unfold f_Ring_isFree at h
  refine am_AW.run am_base_ok ok_Ring_isFree (Nat.le_add_left 1 d) 2 (pc1 := 2) (ls1 := [some (.ref p0), some (.int x1), some (.int x2)]) (st1 := [.int x2, .ref p0]) (σ1 := (S0, m)) rfl ?_
  obtain ⟨q3, hq3, h⟩ := Option.bind_eq_some_iff.mp h
  refine am_AW.callV ok_Ring_isFree am_nw_ok (As := [.int x2]) (rest := []) rfl rfl rfl oR_Ring_isNumber lk_Ring_59 iM_Ring_isNumber sE_Ring_isNumber (qc := kq6) (sh_6_20_0 hp0) rfl rfl rfl (Nat.le_of_ble_eq_true rfl) (f_Ring_isNumber_ok (d := d) (by omega) p0 x2 hp0 hq3) ?_
  change am_AW am_nw ro (d + 1) mr_Ring_isFree 5 [some (.ref p0), some (.int x1), some (.int x2)] [.int q3.1] (S0, q3.2) (some (.int r)) (S0, m')
  refine am_AW.brP ok_Ring_isFree rfl rfl am_c_eq (fun c4 => ?_) (fun c4 => ?_)
  · rw [if_pos c4] at h
    refine am_AW.run am_base_ok ok_Ring_isFree (Nat.le_add_left 1 d) 1 (pc1 := 28) (ls1 := [some (.ref p0), some (.int x1), some (.int x2)]) (st1 := [.int (0 : Int32)]) (σ1 := (S0, q3.2)) rfl ?_
    obtain ⟨rfl, rfl⟩ := Prod.mk.inj (Option.some.inj h)
    exact am_AW.ret ok_Ring_isFree rfl rfl rfl (by decide)
  · rw [if_neg c4] at h
    refine am_AW.run am_base_ok ok_Ring_isFree (Nat.le_add_left 1 d) 2 (pc1 := 10) (ls1 := [some (.ref p0), some (.int x1), some (.int x2)]) (st1 := [.ref p0, .int x1]) (σ1 := (S0, q3.2)) rfl ?_
    refine am_AW.getf ok_Ring_isFree (Nat.le_add_left 1 d) rfl (sh_6_20_0 hp0) rfl ?_
    refine am_AW.run am_base_ok ok_Ring_isFree (Nat.le_add_left 1 d) 1 (pc1 := 14) (ls1 := [some (.ref p0), some (.int x1), some (.int x2)]) (st1 := [.int x2, .ref (p0 + 3), .int x1]) (σ1 := (S0, q3.2)) rfl ?_
    by_cases g5 : am_in x2 27 = true
    rotate_left
    · rw [if_neg g5] at h
      cases h
    rw [if_pos g5] at h
    refine am_AW.iald ok_Ring_isFree (Nat.le_add_left 1 d) S0_len rfl (sh_6_20_3 hp0) g5 ?_
    refine am_AW.run am_base_ok ok_Ring_isFree (Nat.le_add_left 1 d) 5 (pc1 := 20) (ls1 := [some (.ref p0), some (.int x1), some (.int x2)]) (st1 := [.int (x1 &&& ((q3.2.1 (p0 + 3) x2.toNatClampNeg) ||| (am_shl (1 : Int32) x2)))]) (σ1 := (S0, q3.2)) rfl ?_
    refine am_AW.brN ok_Ring_isFree rfl rfl am_c_ne (fun c6 => ?_) (fun c6 => ?_)
    · rw [if_pos c6] at h
      refine am_AW.run am_base_ok ok_Ring_isFree (Nat.le_add_left 1 d) 2 (pc1 := 28) (ls1 := [some (.ref p0), some (.int x1), some (.int x2)]) (st1 := [.int (1 : Int32)]) (σ1 := (S0, q3.2)) rfl ?_
      obtain ⟨rfl, rfl⟩ := Prod.mk.inj (Option.some.inj h)
      exact am_AW.ret ok_Ring_isFree rfl rfl rfl (by decide)
    · rw [if_neg c6] at h
      refine am_AW.run am_base_ok ok_Ring_isFree (Nat.le_add_left 1 d) 1 (pc1 := 28) (ls1 := [some (.ref p0), some (.int x1), some (.int x2)]) (st1 := [.int (0 : Int32)]) (σ1 := (S0, q3.2)) rfl ?_
      obtain ⟨rfl, rfl⟩ := Prod.mk.inj (Option.some.inj h)
      exact am_AW.ret ok_Ring_isFree rfl rfl rfl (by decide)
/-! FriezePolygons$Ring.cutsAt(II)I -/
def f_Ring_cutsAt (x1 : Int32) (x2 : Int32) (m : am_Mm) : Option (Int32 × am_Mm) :=
  if x2 < (0 : Int32) then
    some ((0 : Int32), m)
  else
    if (m.1 20 5) ≤ x2 then
      some ((0 : Int32), m)
    else
      if am_in x2 9 = true then
        (f_Integer_bitCount (x1 &&& (m.1 24 x2.toNatClampNeg)) m).bind fun q6 =>
        some (q6.1, q6.2)
      else none
set_option maxHeartbeats 4000000 in
set_option maxRecDepth 100000 in
theorem f_Ring_cutsAt_ok {ro : am_Ro} {d : Nat} (hd : 2 ≤ d) (x1 : Int32) (x2 : Int32) {m m' : am_Mm} {r : Int32} (h : f_Ring_cutsAt x1 x2 m = some (r, m')) : am_Mt am_nw ro d mr_Ring_cutsAt [.ref 20, .int x1, .int x2] (S0, m) (some (.int r)) (S0, m') := by
  obtain ⟨d, rfl⟩ : ∃ d0, d = d0 + 1 := ⟨d - 1, by omega⟩
  refine am_Mt.of (by decide +kernel) (Nat.le_of_ble_eq_true rfl) ?_
  change am_AW am_nw ro (d + 1) mr_Ring_cutsAt 0 [some (.ref 20), some (.int x1), some (.int x2)] [] (S0, m) (some (.int r)) (S0, m')
  unfold f_Ring_cutsAt at h
  refine am_AW.run am_base_ok ok_Ring_cutsAt (Nat.le_add_left 1 d) 1 (pc1 := 1) (ls1 := [some (.ref 20), some (.int x1), some (.int x2)]) (st1 := [.int x2]) (σ1 := (S0, m)) rfl ?_
  refine am_AW.brP ok_Ring_cutsAt rfl rfl am_c_lt (fun c1 => ?_) (fun c1 => ?_)
  · rw [if_pos c1] at h
    refine am_AW.run am_base_ok ok_Ring_cutsAt (Nat.le_add_left 1 d) 1 (pc1 := 27) (ls1 := [some (.ref 20), some (.int x1), some (.int x2)]) (st1 := [.int (0 : Int32)]) (σ1 := (S0, m)) rfl ?_
    obtain ⟨rfl, rfl⟩ := Prod.mk.inj (Option.some.inj h)
    exact am_AW.ret ok_Ring_cutsAt rfl rfl rfl rfl
  · rw [if_neg c1] at h
    refine am_AW.run am_base_ok ok_Ring_cutsAt (Nat.le_add_left 1 d) 3 (pc1 := 9) (ls1 := [some (.ref 20), some (.int x1), some (.int x2)]) (st1 := [.int (m.1 20 5), .int x2]) (σ1 := (S0, m)) rfl ?_
    refine am_AW.brP ok_Ring_cutsAt rfl rfl am_c_ge (fun c2 => ?_) (fun c2 => ?_)
    · rw [if_pos c2] at h
      refine am_AW.run am_base_ok ok_Ring_cutsAt (Nat.le_add_left 1 d) 1 (pc1 := 27) (ls1 := [some (.ref 20), some (.int x1), some (.int x2)]) (st1 := [.int (0 : Int32)]) (σ1 := (S0, m)) rfl ?_
      obtain ⟨rfl, rfl⟩ := Prod.mk.inj (Option.some.inj h)
      exact am_AW.ret ok_Ring_cutsAt rfl rfl rfl rfl
    · rw [if_neg c2] at h
      refine am_AW.run am_base_ok ok_Ring_cutsAt (Nat.le_add_left 1 d) 4 (pc1 := 18) (ls1 := [some (.ref 20), some (.int x1), some (.int x2)]) (st1 := [.int x2, .ref 24, .int x1]) (σ1 := (S0, m)) rfl ?_
      by_cases g3 : am_in x2 9 = true
      rotate_left
      · rw [if_neg g3] at h
        cases h
      rw [if_pos g3] at h
      refine am_AW.iald ok_Ring_cutsAt (Nat.le_add_left 1 d) S0_len rfl rfl g3 ?_
      refine am_AW.run am_base_ok ok_Ring_cutsAt (Nat.le_add_left 1 d) 1 (pc1 := 20) (ls1 := [some (.ref 20), some (.int x1), some (.int x2)]) (st1 := [.int (x1 &&& (m.1 24 x2.toNatClampNeg))]) (σ1 := (S0, m)) rfl ?_
      obtain ⟨q6, hq6, h⟩ := Option.bind_eq_some_iff.mp h
      refine am_AW.callS ok_Ring_cutsAt am_nw_ok (As := [.int (x1 &&& (m.1 24 x2.toNatClampNeg))]) (rest := []) rfl rfl rfl oR_Integer_bitCount lk_Ring_63 sT_Integer_bitCount rfl (Nat.le_of_ble_eq_true rfl) (f_Integer_bitCount_ok (d := d) (by omega) (x1 &&& (m.1 24 x2.toNatClampNeg)) hq6) ?_
      change am_AW am_nw ro (d + 1) mr_Ring_cutsAt 23 [some (.ref 20), some (.int x1), some (.int x2)] [.int q6.1] (S0, q6.2) (some (.int r)) (S0, m')
      refine am_AW.run am_base_ok ok_Ring_cutsAt (Nat.le_add_left 1 d) 1 (pc1 := 27) (ls1 := [some (.ref 20), some (.int x1), some (.int x2)]) (st1 := [.int q6.1]) (σ1 := (S0, q6.2)) rfl ?_
      obtain ⟨rfl, rfl⟩ := Prod.mk.inj (Option.some.inj h)
      exact am_AW.ret ok_Ring_cutsAt rfl rfl rfl rfl
/-! FriezePolygons$Ring.pieceUnder(II)I -/
def f_Ring_pieceUnder_b39 (k10 : Int32 → Int32 → Int32 → Int32 → Int32 → am_Mm → Option (Int32 × am_Mm)) (x1 : Int32) (x2 : Int32) (x3 : Int32) (x5 : Int32) (s1 : Int32) (s2 : Int32) (m : am_Mm) : Option (Int32 × am_Mm) :=
  (f_Ring_farthest s1 s2 m).bind fun q6 =>
  k10 x1 x2 (x3 ||| (am_shl (1 : Int32) q6.1)) q6.1 (x5 + (1 : Int32)) q6.2
def f_Ring_pieceUnder_b10 : Nat → Int32 → Int32 → Int32 → Int32 → Int32 → am_Mm → Option (Int32 × am_Mm)
  | 0, _, _, _, _, _, _ => none
  | n + 1, x1, x2, x3, x4, x5, m =>
    if (9 : Int32) ≤ x5 then
      some (x3, m)
    else
      if x2 ≤ x4 then
        some (x3, m)
      else
        if x4 = x1 then
          f_Ring_pieceUnder_b39 (f_Ring_pieceUnder_b10 n) x1 x2 x3 x5 x4 (x2 - (1 : Int32)) m
        else
          f_Ring_pieceUnder_b39 (f_Ring_pieceUnder_b10 n) x1 x2 x3 x5 x4 x2 m
def f_Ring_pieceUnder (x1 : Int32) (x2 : Int32) (m : am_Mm) : Option (Int32 × am_Mm) :=
  f_Ring_pieceUnder_b10 am_F x1 x2 (am_shl (1 : Int32) x1) x1 (0 : Int32) m
set_option maxHeartbeats 4000000 in
set_option maxRecDepth 100000 in
theorem f_Ring_pieceUnder_b39_ok {ro : am_Ro} {d : Nat} (hd : 2 ≤ d + 1) {k10 : Int32 → Int32 → Int32 → Int32 → Int32 → am_Mm → Option (Int32 × am_Mm)} (hk10 : ∀ (x1 : Int32) (x2 : Int32) (x3 : Int32) (x4 : Int32) (x5 : Int32) (m m' : am_Mm) (r : Int32), k10 x1 x2 x3 x4 x5 m = some (r, m') → am_AW am_nw ro (d + 1) mr_Ring_pieceUnder 10 [some (.ref 20), some (.int x1), some (.int x2), some (.int x3), some (.int x4), some (.int x5)] [] (S0, m) (some (.int r)) (S0, m')) (x1 : Int32) (x2 : Int32) (x3 : Int32) (x5 : Int32) (s1 : Int32) (s2 : Int32) {m m' : am_Mm} {r : Int32} (h : f_Ring_pieceUnder_b39 k10 x1 x2 x3 x5 s1 s2 m = some (r, m')) : am_AW am_nw ro (d + 1) mr_Ring_pieceUnder 39 [some (.ref 20), some (.int x1), some (.int x2), some (.int x3), none, some (.int x5)] [.int s2, .int s1, .ref 20] (S0, m) (some (.int r)) (S0, m') := by
  unfold f_Ring_pieceUnder_b39 at h
  obtain ⟨q6, hq6, h⟩ := Option.bind_eq_some_iff.mp h
  refine am_AW.callV ok_Ring_pieceUnder am_nw_ok (As := [.int s1, .int s2]) (rest := []) rfl rfl rfl oR_Ring_farthest lk_Ring_95 iM_Ring_farthest sE_Ring_farthest (qc := kq6) rfl rfl rfl rfl (Nat.le_of_ble_eq_true rfl) (f_Ring_farthest_ok (d := d) (by omega) s1 s2 hq6) ?_
  change am_AW am_nw ro (d + 1) mr_Ring_pieceUnder 42 [some (.ref 20), some (.int x1), some (.int x2), some (.int x3), none, some (.int x5)] [.int q6.1] (S0, q6.2) (some (.int r)) (S0, m')
  refine am_AW.run am_base_ok ok_Ring_pieceUnder (Nat.le_add_left 1 d) 9 (pc1 := 10) (ls1 := [some (.ref 20), some (.int x1), some (.int x2), some (.int (x3 ||| (am_shl (1 : Int32) q6.1))), some (.int q6.1), some (.int (x5 + (1 : Int32)))]) (st1 := []) (σ1 := (S0, q6.2)) rfl ?_
  exact am_AW.weak (hk10 x1 x2 (x3 ||| (am_shl (1 : Int32) q6.1)) q6.1 (x5 + (1 : Int32))  _ _ _ h) (by simp only [am_le, and_self])
set_option maxHeartbeats 4000000 in
set_option maxRecDepth 100000 in
theorem f_Ring_pieceUnder_b10_all {ro : am_Ro} {d : Nat} (hd : 2 ≤ d + 1) : ∀ (n : Nat) (x1 : Int32) (x2 : Int32) (x3 : Int32) (x4 : Int32) (x5 : Int32) (m m' : am_Mm) (r : Int32), f_Ring_pieceUnder_b10 n x1 x2 x3 x4 x5 m = some (r, m') → am_AW am_nw ro (d + 1) mr_Ring_pieceUnder 10 [some (.ref 20), some (.int x1), some (.int x2), some (.int x3), some (.int x4), some (.int x5)] [] (S0, m) (some (.int r)) (S0, m') := by
  intro n
  induction n with
  | zero =>
    intro x1 x2 x3 x4 x5 m m' r h
    rw [f_Ring_pieceUnder_b10] at h
    cases h
  | succ n ih =>
    intro x1 x2 x3 x4 x5 m m' r h
    rw [f_Ring_pieceUnder_b10] at h
    refine am_AW.run am_base_ok ok_Ring_pieceUnder (Nat.le_add_left 1 d) 2 (pc1 := 14) (ls1 := [some (.ref 20), some (.int x1), some (.int x2), some (.int x3), some (.int x4), some (.int x5)]) (st1 := [.int (9 : Int32), .int x5]) (σ1 := (S0, m)) rfl ?_
    refine am_AW.brP ok_Ring_pieceUnder rfl rfl am_c_ge (fun c1 => ?_) (fun c1 => ?_)
    · rw [if_pos c1] at h
      refine am_AW.run am_base_ok ok_Ring_pieceUnder (Nat.le_add_left 1 d) 1 (pc1 := 58) (ls1 := [some (.ref 20), some (.int x1), some (.int x2), some (.int x3), some (.int x4), some (.int x5)]) (st1 := [.int x3]) (σ1 := (S0, m)) rfl ?_
      obtain ⟨rfl, rfl⟩ := Prod.mk.inj (Option.some.inj h)
      exact am_AW.ret ok_Ring_pieceUnder rfl rfl rfl rfl
    · rw [if_neg c1] at h
      refine am_AW.run am_base_ok ok_Ring_pieceUnder (Nat.le_add_left 1 d) 2 (pc1 := 20) (ls1 := [some (.ref 20), some (.int x1), some (.int x2), some (.int x3), some (.int x4), some (.int x5)]) (st1 := [.int x2, .int x4]) (σ1 := (S0, m)) rfl ?_
      refine am_AW.brP ok_Ring_pieceUnder rfl rfl am_c_ge (fun c2 => ?_) (fun c2 => ?_)
      · rw [if_pos c2] at h
        refine am_AW.run am_base_ok ok_Ring_pieceUnder (Nat.le_add_left 1 d) 1 (pc1 := 58) (ls1 := [some (.ref 20), some (.int x1), some (.int x2), some (.int x3), some (.int x4), some (.int x5)]) (st1 := [.int x3]) (σ1 := (S0, m)) rfl ?_
        obtain ⟨rfl, rfl⟩ := Prod.mk.inj (Option.some.inj h)
        exact am_AW.ret ok_Ring_pieceUnder rfl rfl rfl rfl
      · rw [if_neg c2] at h
        refine am_AW.run am_base_ok ok_Ring_pieceUnder (Nat.le_add_left 1 d) 4 (pc1 := 29) (ls1 := [some (.ref 20), some (.int x1), some (.int x2), some (.int x3), some (.int x4), some (.int x5)]) (st1 := [.int x1, .int x4, .int x4, .ref 20]) (σ1 := (S0, m)) rfl ?_
        refine am_AW.brN ok_Ring_pieceUnder rfl rfl am_c_ne (fun c3 => ?_) (fun c3 => ?_)
        · rw [if_pos c3] at h
          refine am_AW.run am_base_ok ok_Ring_pieceUnder (Nat.le_add_left 1 d) 4 (pc1 := 39) (ls1 := [some (.ref 20), some (.int x1), some (.int x2), some (.int x3), some (.int x4), some (.int x5)]) (st1 := [.int (x2 - (1 : Int32)), .int x4, .ref 20]) (σ1 := (S0, m)) rfl ?_
          exact am_AW.weak (f_Ring_pieceUnder_b39_ok hd (ih) x1 x2 x3 x5 x4 (x2 - (1 : Int32))  h) (by simp only [am_le, and_self])
        · rw [if_neg c3] at h
          refine am_AW.run am_base_ok ok_Ring_pieceUnder (Nat.le_add_left 1 d) 1 (pc1 := 39) (ls1 := [some (.ref 20), some (.int x1), some (.int x2), some (.int x3), some (.int x4), some (.int x5)]) (st1 := [.int x2, .int x4, .ref 20]) (σ1 := (S0, m)) rfl ?_
          exact am_AW.weak (f_Ring_pieceUnder_b39_ok hd (ih) x1 x2 x3 x5 x4 x2  h) (by simp only [am_le, and_self])
set_option maxHeartbeats 4000000 in
set_option maxRecDepth 100000 in
theorem f_Ring_pieceUnder_b10_ok {ro : am_Ro} {d : Nat} (hd : 2 ≤ d + 1) (x1 : Int32) (x2 : Int32) (x3 : Int32) (x4 : Int32) (x5 : Int32) {m m' : am_Mm} {r : Int32} {n : Nat} (h : f_Ring_pieceUnder_b10 n x1 x2 x3 x4 x5 m = some (r, m')) : am_AW am_nw ro (d + 1) mr_Ring_pieceUnder 10 [some (.ref 20), some (.int x1), some (.int x2), some (.int x3), some (.int x4), some (.int x5)] [] (S0, m) (some (.int r)) (S0, m') :=
  f_Ring_pieceUnder_b10_all hd n x1 x2 x3 x4 x5  m m' r h
set_option maxHeartbeats 4000000 in
set_option maxRecDepth 100000 in
theorem f_Ring_pieceUnder_ok {ro : am_Ro} {d : Nat} (hd : 2 ≤ d) (x1 : Int32) (x2 : Int32) {m m' : am_Mm} {r : Int32} (h : f_Ring_pieceUnder x1 x2 m = some (r, m')) : am_Mt am_nw ro d mr_Ring_pieceUnder [.ref 20, .int x1, .int x2] (S0, m) (some (.int r)) (S0, m') := by
  obtain ⟨d, rfl⟩ : ∃ d0, d = d0 + 1 := ⟨d - 1, by omega⟩
  refine am_Mt.of (by decide +kernel) (Nat.le_of_ble_eq_true rfl) ?_
  change am_AW am_nw ro (d + 1) mr_Ring_pieceUnder 0 [some (.ref 20), some (.int x1), some (.int x2), none, none, none] [] (S0, m) (some (.int r)) (S0, m')
  unfold f_Ring_pieceUnder at h
  refine am_AW.run am_base_ok ok_Ring_pieceUnder (Nat.le_add_left 1 d) 8 (pc1 := 10) (ls1 := [some (.ref 20), some (.int x1), some (.int x2), some (.int (am_shl (1 : Int32) x1)), some (.int x1), some (.int (0 : Int32))]) (st1 := []) (σ1 := (S0, m)) rfl ?_
  exact am_AW.weak (f_Ring_pieceUnder_b10_ok hd x1 x2 (am_shl (1 : Int32) x1) x1 (0 : Int32)  h) (by simp only [am_le, and_self])
/-! FriezePolygons$Row.make(II)V -/
def f_Row_make (p0 : Nat) (x1 : Int32) (x2 : Int32) (m : am_Mm) : Option am_Mm :=
  some (am_pI (am_pI (am_pI (am_fl m (p0 + 1) 40 (0 : Int32)) p0 1 (1 : Int32)) p0 2 x1) p0 3 x2)
set_option maxHeartbeats 4000000 in
set_option maxRecDepth 100000 in
theorem f_Row_make_ok {ro : am_Ro} {d : Nat} (hd : 2 ≤ d) (p0 : Nat) (x1 : Int32) (x2 : Int32) (hp0 : p0 = 41 ∨ p0 = 43 ∨ p0 = 45 ∨ p0 = 47 ∨ p0 = 49 ∨ p0 = 51 ∨ p0 = 53 ∨ p0 = 55) {m m' : am_Mm} (h : f_Row_make p0 x1 x2 m = some m') : am_Mt am_nw ro d mr_Row_make [.ref p0, .int x1, .int x2] (S0, m) none (S0, m') := by
  obtain ⟨d, rfl⟩ : ∃ d0, d = d0 + 1 := ⟨d - 1, by omega⟩
  refine am_Mt.of (by decide +kernel) (Nat.le_of_ble_eq_true rfl) ?_
  change am_AW am_nw ro (d + 1) mr_Row_make 0 [some (.ref p0), some (.int x1), some (.int x2)] [] (S0, m) none (S0, m')
  unfold f_Row_make at h
  refine am_AW.run am_base_ok ok_Row_make (Nat.le_add_left 1 d) 1 (pc1 := 1) (ls1 := [some (.ref p0), some (.int x1), some (.int x2)]) (st1 := [.ref p0]) (σ1 := (S0, m)) rfl ?_
  refine am_AW.getf ok_Row_make (Nat.le_add_left 1 d) rfl (sh_41_43_45_47_49_51_53_55_0 hp0) rfl ?_
  refine am_AW.run am_base_ok ok_Row_make (Nat.le_add_left 1 d) 1 (pc1 := 5) (ls1 := [some (.ref p0), some (.int x1), some (.int x2)]) (st1 := [.int (0 : Int32), .ref (p0 + 1)]) (σ1 := (S0, m)) rfl ?_
  refine am_AW.callS ok_Row_make am_nw_ok (As := [.ref (p0 + 1), .int (0 : Int32)]) (rest := []) rfl rfl rfl oR_Arrays_fill lk_Row_26 sT_Arrays_fill rfl (Nat.le_of_ble_eq_true rfl) (am_fill_ok (by omega) S0_len (by decide) (sh_41_43_45_47_49_51_53_55_1 hp0)) ?_
  change am_AW am_nw ro (d + 1) mr_Row_make 8 [some (.ref p0), some (.int x1), some (.int x2)] [] (S0, (am_fl m (p0 + 1) 40 (0 : Int32))) none (S0, m')
  refine am_AW.run am_base_ok ok_Row_make (Nat.le_add_left 1 d) 2 (pc1 := 10) (ls1 := [some (.ref p0), some (.int x1), some (.int x2)]) (st1 := [.int (1 : Int32), .ref p0]) (σ1 := (S0, (am_fl m (p0 + 1) 40 (0 : Int32)))) rfl ?_
  refine am_AW.putz ok_Row_make (Nat.le_add_left 1 d) rfl (sh_41_43_45_47_49_51_53_55_0 hp0) rfl (qc := kq7) rfl (by decide) ty_7_1 (by decide) ?_
  refine am_AW.run am_base_ok ok_Row_make (Nat.le_add_left 1 d) 2 (pc1 := 15) (ls1 := [some (.ref p0), some (.int x1), some (.int x2)]) (st1 := [.int x1, .ref p0]) (σ1 := (S0, (am_pI (am_fl m (p0 + 1) 40 (0 : Int32)) p0 1 (1 : Int32)))) rfl ?_
  refine am_AW.puti ok_Row_make (Nat.le_add_left 1 d) rfl (sh_41_43_45_47_49_51_53_55_0 hp0) rfl (qc := kq7) rfl (by decide) ty_7_2 ?_
  refine am_AW.run am_base_ok ok_Row_make (Nat.le_add_left 1 d) 2 (pc1 := 20) (ls1 := [some (.ref p0), some (.int x1), some (.int x2)]) (st1 := [.int x2, .ref p0]) (σ1 := (S0, (am_pI (am_pI (am_fl m (p0 + 1) 40 (0 : Int32)) p0 1 (1 : Int32)) p0 2 x1))) rfl ?_
  refine am_AW.puti ok_Row_make (Nat.le_add_left 1 d) rfl (sh_41_43_45_47_49_51_53_55_0 hp0) rfl (qc := kq7) rfl (by decide) ty_7_3 ?_
  obtain rfl := Option.some.inj h
  exact am_AW.ret ok_Row_make rfl rfl rfl rfl
/-! FriezePolygons$Tape.isSign(I)Z -/
def f_Tape_isSign (x1 : Int32) (m : am_Mm) : Option (Int32 × am_Mm) :=
  if (m.1 2 7) = x1 then
    some ((1 : Int32), m)
  else
    (f_Tape_refuse (1 : Int32) m).bind fun q4 =>
    if q4.1 = (0 : Int32) then
      some ((0 : Int32), q4.2)
    else
      some ((1 : Int32), q4.2)
set_option maxHeartbeats 4000000 in
set_option maxRecDepth 100000 in
theorem f_Tape_isSign_ok {ro : am_Ro} {d : Nat} (hd : 2 ≤ d) (x1 : Int32) {m m' : am_Mm} {r : Int32} (h : f_Tape_isSign x1 m = some (r, m')) : am_Mt am_nw ro d mr_Tape_isSign [.ref 2, .int x1] (S0, m) (some (.int r)) (S0, m') := by
  obtain ⟨d, rfl⟩ : ∃ d0, d = d0 + 1 := ⟨d - 1, by omega⟩
  refine am_Mt.of (by decide +kernel) (Nat.le_of_ble_eq_true rfl) ?_
  change am_AW am_nw ro (d + 1) mr_Tape_isSign 0 [some (.ref 2), some (.int x1)] [] (S0, m) (some (.int r)) (S0, m')
  unfold f_Tape_isSign at h
  refine am_AW.run am_base_ok ok_Tape_isSign (Nat.le_add_left 1 d) 3 (pc1 := 5) (ls1 := [some (.ref 2), some (.int x1)]) (st1 := [.int x1, .int (m.1 2 7)]) (σ1 := (S0, m)) rfl ?_
  refine am_AW.brP ok_Tape_isSign rfl rfl am_c_eq (fun c1 => ?_) (fun c1 => ?_)
  · rw [if_pos c1] at h
    refine am_AW.run am_base_ok ok_Tape_isSign (Nat.le_add_left 1 d) 2 (pc1 := 21) (ls1 := [some (.ref 2), some (.int x1)]) (st1 := [.int (1 : Int32)]) (σ1 := (S0, m)) rfl ?_
    obtain ⟨rfl, rfl⟩ := Prod.mk.inj (Option.some.inj h)
    exact am_AW.ret ok_Tape_isSign rfl rfl rfl (by decide)
  · rw [if_neg c1] at h
    refine am_AW.run am_base_ok ok_Tape_isSign (Nat.le_add_left 1 d) 2 (pc1 := 10) (ls1 := [some (.ref 2), some (.int x1)]) (st1 := [.int (1 : Int32), .ref 2]) (σ1 := (S0, m)) rfl ?_
    obtain ⟨q4, hq4, h⟩ := Option.bind_eq_some_iff.mp h
    refine am_AW.callV ok_Tape_isSign am_nw_ok (As := [.int (1 : Int32)]) (rest := []) rfl rfl rfl oR_Tape_refuse lk_Tape_68 iM_Tape_refuse sE_Tape_refuse (qc := kq8) rfl rfl rfl rfl (Nat.le_of_ble_eq_true rfl) (f_Tape_refuse_ok (d := d) (by omega) (1 : Int32) hq4) ?_
    change am_AW am_nw ro (d + 1) mr_Tape_isSign 13 [some (.ref 2), some (.int x1)] [.int q4.1] (S0, q4.2) (some (.int r)) (S0, m')
    refine am_AW.brP ok_Tape_isSign rfl rfl am_c_eq (fun c5 => ?_) (fun c5 => ?_)
    · rw [if_pos c5] at h
      refine am_AW.run am_base_ok ok_Tape_isSign (Nat.le_add_left 1 d) 1 (pc1 := 21) (ls1 := [some (.ref 2), some (.int x1)]) (st1 := [.int (0 : Int32)]) (σ1 := (S0, q4.2)) rfl ?_
      obtain ⟨rfl, rfl⟩ := Prod.mk.inj (Option.some.inj h)
      exact am_AW.ret ok_Tape_isSign rfl rfl rfl (by decide)
    · rw [if_neg c5] at h
      refine am_AW.run am_base_ok ok_Tape_isSign (Nat.le_add_left 1 d) 2 (pc1 := 21) (ls1 := [some (.ref 2), some (.int x1)]) (st1 := [.int (1 : Int32)]) (σ1 := (S0, q4.2)) rfl ?_
      obtain ⟨rfl, rfl⟩ := Prod.mk.inj (Option.some.inj h)
      exact am_AW.ret ok_Tape_isSign rfl rfl rfl (by decide)
/-! FriezePolygons$Tape.isNumberUpTo(I)Z -/
def f_Tape_isNumberUpTo (x1 : Int32) (m : am_Mm) : Option (Int32 × am_Mm) :=
  if (m.1 2 7) = (256 : Int32) then
    if (m.1 2 8) ≤ x1 then
      some ((1 : Int32), m)
    else
      (f_Tape_refuse (2 : Int32) m).bind fun q5 =>
      if q5.1 = (0 : Int32) then
        some ((0 : Int32), q5.2)
      else
        some ((1 : Int32), q5.2)
  else
    (f_Tape_refuse (1 : Int32) m).bind fun q9 =>
    if q9.1 = (0 : Int32) ∨ q9.1 = (1 : Int32) then
      some (q9.1, q9.2)
    else none
set_option maxHeartbeats 4000000 in
set_option maxRecDepth 100000 in
theorem f_Tape_isNumberUpTo_ok {ro : am_Ro} {d : Nat} (hd : 2 ≤ d) (x1 : Int32) {m m' : am_Mm} {r : Int32} (h : f_Tape_isNumberUpTo x1 m = some (r, m')) : am_Mt am_nw ro d mr_Tape_isNumberUpTo [.ref 2, .int x1] (S0, m) (some (.int r)) (S0, m') := by
  obtain ⟨d, rfl⟩ : ∃ d0, d = d0 + 1 := ⟨d - 1, by omega⟩
  refine am_Mt.of (by decide +kernel) (Nat.le_of_ble_eq_true rfl) ?_
  change am_AW am_nw ro (d + 1) mr_Tape_isNumberUpTo 0 [some (.ref 2), some (.int x1)] [] (S0, m) (some (.int r)) (S0, m')
  unfold f_Tape_isNumberUpTo at h
  refine am_AW.run am_base_ok ok_Tape_isNumberUpTo (Nat.le_add_left 1 d) 3 (pc1 := 7) (ls1 := [some (.ref 2), some (.int x1)]) (st1 := [.int (256 : Int32), .int (m.1 2 7)]) (σ1 := (S0, m)) rfl ?_
  refine am_AW.brP ok_Tape_isNumberUpTo rfl rfl am_c_eq (fun c1 => ?_) (fun c1 => ?_)
  · rw [if_pos c1] at h
    refine am_AW.run am_base_ok ok_Tape_isNumberUpTo (Nat.le_add_left 1 d) 3 (pc1 := 21) (ls1 := [some (.ref 2), some (.int x1)]) (st1 := [.int x1, .int (m.1 2 8)]) (σ1 := (S0, m)) rfl ?_
    refine am_AW.brP ok_Tape_isNumberUpTo rfl rfl am_c_le (fun c2 => ?_) (fun c2 => ?_)
    · rw [if_pos c2] at h
      refine am_AW.run am_base_ok ok_Tape_isNumberUpTo (Nat.le_add_left 1 d) 2 (pc1 := 37) (ls1 := [some (.ref 2), some (.int x1)]) (st1 := [.int (1 : Int32)]) (σ1 := (S0, m)) rfl ?_
      obtain ⟨rfl, rfl⟩ := Prod.mk.inj (Option.some.inj h)
      exact am_AW.ret ok_Tape_isNumberUpTo rfl rfl rfl (by decide)
    · rw [if_neg c2] at h
      refine am_AW.run am_base_ok ok_Tape_isNumberUpTo (Nat.le_add_left 1 d) 2 (pc1 := 26) (ls1 := [some (.ref 2), some (.int x1)]) (st1 := [.int (2 : Int32), .ref 2]) (σ1 := (S0, m)) rfl ?_
      obtain ⟨q5, hq5, h⟩ := Option.bind_eq_some_iff.mp h
      refine am_AW.callV ok_Tape_isNumberUpTo am_nw_ok (As := [.int (2 : Int32)]) (rest := []) rfl rfl rfl oR_Tape_refuse lk_Tape_68 iM_Tape_refuse sE_Tape_refuse (qc := kq8) rfl rfl rfl rfl (Nat.le_of_ble_eq_true rfl) (f_Tape_refuse_ok (d := d) (by omega) (2 : Int32) hq5) ?_
      change am_AW am_nw ro (d + 1) mr_Tape_isNumberUpTo 29 [some (.ref 2), some (.int x1)] [.int q5.1] (S0, q5.2) (some (.int r)) (S0, m')
      refine am_AW.brP ok_Tape_isNumberUpTo rfl rfl am_c_eq (fun c6 => ?_) (fun c6 => ?_)
      · rw [if_pos c6] at h
        refine am_AW.run am_base_ok ok_Tape_isNumberUpTo (Nat.le_add_left 1 d) 1 (pc1 := 37) (ls1 := [some (.ref 2), some (.int x1)]) (st1 := [.int (0 : Int32)]) (σ1 := (S0, q5.2)) rfl ?_
        obtain ⟨rfl, rfl⟩ := Prod.mk.inj (Option.some.inj h)
        exact am_AW.ret ok_Tape_isNumberUpTo rfl rfl rfl (by decide)
      · rw [if_neg c6] at h
        refine am_AW.run am_base_ok ok_Tape_isNumberUpTo (Nat.le_add_left 1 d) 2 (pc1 := 37) (ls1 := [some (.ref 2), some (.int x1)]) (st1 := [.int (1 : Int32)]) (σ1 := (S0, q5.2)) rfl ?_
        obtain ⟨rfl, rfl⟩ := Prod.mk.inj (Option.some.inj h)
        exact am_AW.ret ok_Tape_isNumberUpTo rfl rfl rfl (by decide)
  · rw [if_neg c1] at h
    refine am_AW.run am_base_ok ok_Tape_isNumberUpTo (Nat.le_add_left 1 d) 2 (pc1 := 12) (ls1 := [some (.ref 2), some (.int x1)]) (st1 := [.int (1 : Int32), .ref 2]) (σ1 := (S0, m)) rfl ?_
    obtain ⟨q9, hq9, h⟩ := Option.bind_eq_some_iff.mp h
    refine am_AW.callV ok_Tape_isNumberUpTo am_nw_ok (As := [.int (1 : Int32)]) (rest := []) rfl rfl rfl oR_Tape_refuse lk_Tape_68 iM_Tape_refuse sE_Tape_refuse (qc := kq8) rfl rfl rfl rfl (Nat.le_of_ble_eq_true rfl) (f_Tape_refuse_ok (d := d) (by omega) (1 : Int32) hq9) ?_
    change am_AW am_nw ro (d + 1) mr_Tape_isNumberUpTo 15 [some (.ref 2), some (.int x1)] [.int q9.1] (S0, q9.2) (some (.int r)) (S0, m')
    by_cases g10 : q9.1 = (0 : Int32) ∨ q9.1 = (1 : Int32)
    rotate_left
    · rw [if_neg g10] at h
      cases h
    rw [if_pos g10] at h
    obtain ⟨rfl, rfl⟩ := Prod.mk.inj (Option.some.inj h)
    exact am_AW.ret ok_Tape_isNumberUpTo rfl rfl rfl (am_rokZ g10)
/-! FriezePolygons$Tape.nextNumber()V -/
def f_Tape_nextNumber_b104 (s1 : Int32) (m : am_Mm) : Option am_Mm :=
  some (am_pI m 2 7 s1)
def f_Tape_nextNumber_b81 (m : am_Mm) : Option am_Mm :=
  if (2 : Int32) < ((m.1 2 6) - (m.1 2 5)) then
    f_Tape_nextNumber_b104 (258 : Int32) m
  else
    f_Tape_nextNumber_b104 (256 : Int32) m
def f_Tape_nextNumber_b18 : Nat → Int32 → am_Mm → Option am_Mm
  | 0, _, _ => none
  | n + 1, x1, m =>
    if (m.1 2 3) ≤ x1 then
      f_Tape_nextNumber_b81 m
    else
      if (120 : Int32) ≤ x1 then
        f_Tape_nextNumber_b81 m
      else
        if am_in x1 120 = true then
          (f_Tape_isFigure (m.1 12 x1.toNatClampNeg) m).bind fun q7 =>
          if q7.1 = (0 : Int32) then
            f_Tape_nextNumber_b81 q7.2
          else
            if am_in x1 120 = true then
              f_Tape_nextNumber_b18 n (x1 + (1 : Int32)) (am_pI (am_pI q7.2 2 8 ((((am_rem (q7.2.1 2 8) (10 : Int32)) * (10 : Int32)) + (q7.2.1 12 x1.toNatClampNeg)) - (48 : Int32))) 2 6 (x1 + (1 : Int32)))
            else none
        else none
def f_Tape_nextNumber (m : am_Mm) : Option am_Mm :=
  f_Tape_nextNumber_b18 am_F ((am_pI (am_pI m 2 8 (0 : Int32)) 2 6 ((am_pI m 2 8 (0 : Int32)).1 2 5)).1 2 5) (am_pI (am_pI m 2 8 (0 : Int32)) 2 6 ((am_pI m 2 8 (0 : Int32)).1 2 5))
set_option maxHeartbeats 4000000 in
set_option maxRecDepth 100000 in
theorem f_Tape_nextNumber_b104_ok {ro : am_Ro} {d : Nat} (hd : 2 ≤ d + 1) (s1 : Int32) {m m' : am_Mm} (h : f_Tape_nextNumber_b104 s1 m = some m') : am_AW am_nw ro (d + 1) mr_Tape_nextNumber 104 [none, none] [.int s1, .ref 2] (S0, m) none (S0, m') := by
  unfold f_Tape_nextNumber_b104 at h
  refine am_AW.puti ok_Tape_nextNumber (Nat.le_add_left 1 d) rfl rfl rfl (qc := kq8) rfl (by decide) ty_8_7 ?_
  obtain rfl := Option.some.inj h
  exact am_AW.ret ok_Tape_nextNumber rfl rfl rfl rfl
set_option maxHeartbeats 4000000 in
set_option maxRecDepth 100000 in
theorem f_Tape_nextNumber_b81_ok {ro : am_Ro} {d : Nat} (hd : 2 ≤ d + 1) {m m' : am_Mm} (h : f_Tape_nextNumber_b81  m = some m') : am_AW am_nw ro (d + 1) mr_Tape_nextNumber 81 [some (.ref 2), none] [] (S0, m) none (S0, m') := by
  unfold f_Tape_nextNumber_b81 at h
  refine am_AW.run am_base_ok ok_Tape_nextNumber (Nat.le_add_left 1 d) 7 (pc1 := 92) (ls1 := [some (.ref 2), none]) (st1 := [.int (2 : Int32), .int ((m.1 2 6) - (m.1 2 5)), .ref 2]) (σ1 := (S0, m)) rfl ?_
  refine am_AW.brP ok_Tape_nextNumber rfl rfl am_c_gt (fun c2 => ?_) (fun c2 => ?_)
  · rw [if_pos c2] at h
    refine am_AW.run am_base_ok ok_Tape_nextNumber (Nat.le_add_left 1 d) 1 (pc1 := 104) (ls1 := [some (.ref 2), none]) (st1 := [.int (258 : Int32), .ref 2]) (σ1 := (S0, m)) rfl ?_
    exact am_AW.weak (f_Tape_nextNumber_b104_ok hd (258 : Int32)  h) (by simp only [am_le, and_self])
  · rw [if_neg c2] at h
    refine am_AW.run am_base_ok ok_Tape_nextNumber (Nat.le_add_left 1 d) 2 (pc1 := 104) (ls1 := [some (.ref 2), none]) (st1 := [.int (256 : Int32), .ref 2]) (σ1 := (S0, m)) rfl ?_
    exact am_AW.weak (f_Tape_nextNumber_b104_ok hd (256 : Int32)  h) (by simp only [am_le, and_self])
set_option maxHeartbeats 4000000 in
set_option maxRecDepth 100000 in
theorem f_Tape_nextNumber_b18_all {ro : am_Ro} {d : Nat} (hd : 2 ≤ d + 1) : ∀ (n : Nat) (x1 : Int32) (m m' : am_Mm), f_Tape_nextNumber_b18 n x1 m = some m' → am_AW am_nw ro (d + 1) mr_Tape_nextNumber 18 [some (.ref 2), some (.int x1)] [] (S0, m) none (S0, m') := by
  intro n
  induction n with
  | zero =>
    intro x1 m m' h
    rw [f_Tape_nextNumber_b18] at h
    cases h
  | succ n ih =>
    intro x1 m m' h
    rw [f_Tape_nextNumber_b18] at h
    refine am_AW.run am_base_ok ok_Tape_nextNumber (Nat.le_add_left 1 d) 3 (pc1 := 23) (ls1 := [some (.ref 2), some (.int x1)]) (st1 := [.int (m.1 2 3), .int x1]) (σ1 := (S0, m)) rfl ?_
    refine am_AW.brP ok_Tape_nextNumber rfl rfl am_c_ge (fun c1 => ?_) (fun c1 => ?_)
    · rw [if_pos c1] at h
      exact am_AW.weak (f_Tape_nextNumber_b81_ok hd   h) (by simp only [am_le, and_self])
    · rw [if_neg c1] at h
      refine am_AW.run am_base_ok ok_Tape_nextNumber (Nat.le_add_left 1 d) 2 (pc1 := 29) (ls1 := [some (.ref 2), some (.int x1)]) (st1 := [.int (120 : Int32), .int x1]) (σ1 := (S0, m)) rfl ?_
      refine am_AW.brP ok_Tape_nextNumber rfl rfl am_c_ge (fun c3 => ?_) (fun c3 => ?_)
      · rw [if_pos c3] at h
        exact am_AW.weak (f_Tape_nextNumber_b81_ok hd   h) (by simp only [am_le, and_self])
      · rw [if_neg c3] at h
        refine am_AW.run am_base_ok ok_Tape_nextNumber (Nat.le_add_left 1 d) 3 (pc1 := 37) (ls1 := [some (.ref 2), some (.int x1)]) (st1 := [.int x1, .ref 12]) (σ1 := (S0, m)) rfl ?_
        by_cases g4 : am_in x1 120 = true
        rotate_left
        · rw [if_neg g4] at h
          cases h
        rw [if_pos g4] at h
        refine am_AW.iald ok_Tape_nextNumber (Nat.le_add_left 1 d) S0_len rfl rfl g4 ?_
        obtain ⟨q7, hq7, h⟩ := Option.bind_eq_some_iff.mp h
        refine am_AW.callS ok_Tape_nextNumber am_nw_ok (As := [.int (m.1 12 x1.toNatClampNeg)]) (rest := []) rfl rfl rfl oR_Tape_isFigure lk_Tape_99 sT_Tape_isFigure rfl (Nat.le_of_ble_eq_true rfl) (f_Tape_isFigure_ok (d := d) (by omega) (m.1 12 x1.toNatClampNeg) hq7) ?_
        change am_AW am_nw ro (d + 1) mr_Tape_nextNumber 41 [some (.ref 2), some (.int x1)] [.int q7.1] (S0, q7.2) none (S0, m')
        refine am_AW.brP ok_Tape_nextNumber rfl rfl am_c_eq (fun c8 => ?_) (fun c8 => ?_)
        · rw [if_pos c8] at h
          exact am_AW.weak (f_Tape_nextNumber_b81_ok hd   h) (by simp only [am_le, and_self])
        · rw [if_neg c8] at h
          refine am_AW.run am_base_ok ok_Tape_nextNumber (Nat.le_add_left 1 d) 4 (pc1 := 51) (ls1 := [some (.ref 2), some (.int x1)]) (st1 := [.int (10 : Int32), .int (q7.2.1 2 8), .ref 2]) (σ1 := (S0, q7.2)) rfl ?_
          refine am_AW.dvi ok_Tape_nextNumber (Nat.le_add_left 1 d) (w := (am_rem (q7.2.1 2 8) (10 : Int32))) (Or.inr ⟨rfl, rfl⟩) rfl (by decide) ?_
          refine am_AW.run am_base_ok ok_Tape_nextNumber (Nat.le_add_left 1 d) 5 (pc1 := 60) (ls1 := [some (.ref 2), some (.int x1)]) (st1 := [.int x1, .ref 12, .int ((am_rem (q7.2.1 2 8) (10 : Int32)) * (10 : Int32)), .ref 2]) (σ1 := (S0, q7.2)) rfl ?_
          by_cases g9 : am_in x1 120 = true
          rotate_left
          · rw [if_neg g9] at h
            cases h
          rw [if_pos g9] at h
          refine am_AW.iald ok_Tape_nextNumber (Nat.le_add_left 1 d) S0_len rfl rfl g9 ?_
          refine am_AW.run am_base_ok ok_Tape_nextNumber (Nat.le_add_left 1 d) 3 (pc1 := 65) (ls1 := [some (.ref 2), some (.int x1)]) (st1 := [.int ((((am_rem (q7.2.1 2 8) (10 : Int32)) * (10 : Int32)) + (q7.2.1 12 x1.toNatClampNeg)) - (48 : Int32)), .ref 2]) (σ1 := (S0, q7.2)) rfl ?_
          refine am_AW.puti ok_Tape_nextNumber (Nat.le_add_left 1 d) rfl rfl rfl (qc := kq8) rfl (by decide) ty_8_8 ?_
          refine am_AW.run am_base_ok ok_Tape_nextNumber (Nat.le_add_left 1 d) 4 (pc1 := 72) (ls1 := [some (.ref 2), some (.int x1)]) (st1 := [.int (x1 + (1 : Int32)), .ref 2]) (σ1 := (S0, (am_pI q7.2 2 8 ((((am_rem (q7.2.1 2 8) (10 : Int32)) * (10 : Int32)) + (q7.2.1 12 x1.toNatClampNeg)) - (48 : Int32))))) rfl ?_
          refine am_AW.puti ok_Tape_nextNumber (Nat.le_add_left 1 d) rfl rfl rfl (qc := kq8) rfl (by decide) ty_8_6 ?_
          refine am_AW.run am_base_ok ok_Tape_nextNumber (Nat.le_add_left 1 d) 2 (pc1 := 18) (ls1 := [some (.ref 2), some (.int (x1 + (1 : Int32)))]) (st1 := []) (σ1 := (S0, (am_pI (am_pI q7.2 2 8 ((((am_rem (q7.2.1 2 8) (10 : Int32)) * (10 : Int32)) + (q7.2.1 12 x1.toNatClampNeg)) - (48 : Int32))) 2 6 (x1 + (1 : Int32))))) rfl ?_
          exact am_AW.weak (ih (x1 + (1 : Int32))  _ _ h) (by simp only [am_le, and_self])
set_option maxHeartbeats 4000000 in
set_option maxRecDepth 100000 in
theorem f_Tape_nextNumber_b18_ok {ro : am_Ro} {d : Nat} (hd : 2 ≤ d + 1) (x1 : Int32) {m m' : am_Mm} {n : Nat} (h : f_Tape_nextNumber_b18 n x1 m = some m') : am_AW am_nw ro (d + 1) mr_Tape_nextNumber 18 [some (.ref 2), some (.int x1)] [] (S0, m) none (S0, m') :=
  f_Tape_nextNumber_b18_all hd n x1  m m' h
set_option maxHeartbeats 4000000 in
set_option maxRecDepth 100000 in
theorem f_Tape_nextNumber_ok {ro : am_Ro} {d : Nat} (hd : 2 ≤ d) {m m' : am_Mm} (h : f_Tape_nextNumber  m = some m') : am_Mt am_nw ro d mr_Tape_nextNumber [.ref 2] (S0, m) none (S0, m') := by
  obtain ⟨d, rfl⟩ : ∃ d0, d = d0 + 1 := ⟨d - 1, by omega⟩
  refine am_Mt.of (by decide +kernel) (Nat.le_of_ble_eq_true rfl) ?_
  change am_AW am_nw ro (d + 1) mr_Tape_nextNumber 0 [some (.ref 2), none] [] (S0, m) none (S0, m')
  unfold f_Tape_nextNumber at h
  refine am_AW.run am_base_ok ok_Tape_nextNumber (Nat.le_add_left 1 d) 2 (pc1 := 2) (ls1 := [some (.ref 2), none]) (st1 := [.int (0 : Int32), .ref 2]) (σ1 := (S0, m)) rfl ?_
  refine am_AW.puti ok_Tape_nextNumber (Nat.le_add_left 1 d) rfl rfl rfl (qc := kq8) rfl (by decide) ty_8_8 ?_
  refine am_AW.run am_base_ok ok_Tape_nextNumber (Nat.le_add_left 1 d) 3 (pc1 := 10) (ls1 := [some (.ref 2), none]) (st1 := [.int ((am_pI m 2 8 (0 : Int32)).1 2 5), .ref 2]) (σ1 := (S0, (am_pI m 2 8 (0 : Int32)))) rfl ?_
  refine am_AW.puti ok_Tape_nextNumber (Nat.le_add_left 1 d) rfl rfl rfl (qc := kq8) rfl (by decide) ty_8_6 ?_
  refine am_AW.run am_base_ok ok_Tape_nextNumber (Nat.le_add_left 1 d) 3 (pc1 := 18) (ls1 := [some (.ref 2), some (.int ((am_pI (am_pI m 2 8 (0 : Int32)) 2 6 ((am_pI m 2 8 (0 : Int32)).1 2 5)).1 2 5))]) (st1 := []) (σ1 := (S0, (am_pI (am_pI m 2 8 (0 : Int32)) 2 6 ((am_pI m 2 8 (0 : Int32)).1 2 5)))) rfl ?_
  exact am_AW.weak (f_Tape_nextNumber_b18_ok hd ((am_pI (am_pI m 2 8 (0 : Int32)) 2 6 ((am_pI m 2 8 (0 : Int32)).1 2 5)).1 2 5)  h) (by simp only [am_le, and_self])
/-! FriezePolygons.copy(IIIII)I -/
def f_C_copy_b49 (m : am_Mm) : Option (Int32 × am_Mm) :=
  (f_C_found (1 : Int32) m).bind fun q14 =>
  some (q14.1, q14.2)
def f_C_copy_b97 (m : am_Mm) : Option (Int32 × am_Mm) :=
  (f_C_found (2 : Int32) m).bind fun q23 =>
  some (q23.1, q23.2)
def f_C_copy (x1 : Int32) (x2 : Int32) (x3 : Int32) (x4 : Int32) (x5 : Int32) (m : am_Mm) : Option (Int32 × am_Mm) :=
  (f_C_isRow x1 m).bind fun q3 =>
  if q3.1 = (0 : Int32) then
    some ((-1000001 : Int32), q3.2)
  else
    (f_C_isRow x3 q3.2).bind fun q7 =>
    if q7.1 = (0 : Int32) then
      some ((-1000001 : Int32), q7.2)
    else
      if am_in x1 8 = true then
        if am_in x3 8 = true then
          if (q7.2.1 (am_rw x1) 1) = (0 : Int32) then
            f_C_copy_b49 q7.2
          else
            if (q7.2.1 (am_rw x3) 1) = (0 : Int32) then
              f_C_copy_b49 q7.2
            else
              if (q7.2.1 (am_rw x1) 2) = (q7.2.1 (am_rw x3) 2) then
                (f_Row_holds (am_rw x1) x2 x5 q7.2).bind fun q19 =>
                if q19.1 = (0 : Int32) then
                  f_C_copy_b97 q19.2
                else
                  (f_Row_holds (am_rw x3) x4 x5 q19.2).bind fun q26 =>
                  if q26.1 = (0 : Int32) then
                    f_C_copy_b97 q26.2
                  else
                    if ¬ x2 < 0 ∧ ¬ x4 < 0 ∧ ¬ x5 < 0 ∧ x2.toNatClampNeg + x5.toNatClampNeg ≤ 40 ∧ x4.toNatClampNeg + x5.toNatClampNeg ≤ 40 then
                      (f_C_fine x5 (am_pC q26.2 ((am_rw x1) + 1) x2.toNatClampNeg ((am_rw x3) + 1) x4.toNatClampNeg x5.toNatClampNeg)).bind fun q31 =>
                      some (q31.1, q31.2)
                    else none
              else
                (f_C_found (5 : Int32) q7.2).bind fun q34 =>
                some (q34.1, q34.2)
        else none
      else none
set_option maxHeartbeats 4000000 in
set_option maxRecDepth 100000 in
theorem f_C_copy_b49_ok {ro : am_Ro} {d : Nat} (hd : 2 ≤ d + 1) {m m' : am_Mm} {r : Int32} (h : f_C_copy_b49  m = some (r, m')) : am_AW am_nw ro (d + 1) mr_C_copy 49 [some (.ref 0), none, none, none, none, none, none, none] [] (S0, m) (some (.int r)) (S0, m') := by
  unfold f_C_copy_b49 at h
  refine am_AW.run am_base_ok ok_C_copy (Nat.le_add_left 1 d) 2 (pc1 := 51) (ls1 := [some (.ref 0), none, none, none, none, none, none, none]) (st1 := [.int (1 : Int32), .ref 0]) (σ1 := (S0, m)) rfl ?_
  obtain ⟨q14, hq14, h⟩ := Option.bind_eq_some_iff.mp h
  refine am_AW.callV ok_C_copy am_nw_ok (As := [.int (1 : Int32)]) (rest := []) rfl rfl rfl oR_C_found lk_C_92 iM_C_found sE_C_found (qc := kq9) rfl rfl rfl rfl (Nat.le_of_ble_eq_true rfl) (f_C_found_ok (d := d) (by omega) (1 : Int32) hq14) ?_
  change am_AW am_nw ro (d + 1) mr_C_copy 54 [some (.ref 0), none, none, none, none, none, none, none] [.int q14.1] (S0, q14.2) (some (.int r)) (S0, m')
  obtain ⟨rfl, rfl⟩ := Prod.mk.inj (Option.some.inj h)
  exact am_AW.ret ok_C_copy rfl rfl rfl rfl
set_option maxHeartbeats 4000000 in
set_option maxRecDepth 100000 in
theorem f_C_copy_b97_ok {ro : am_Ro} {d : Nat} (hd : 2 ≤ d + 1) {m m' : am_Mm} {r : Int32} (h : f_C_copy_b97  m = some (r, m')) : am_AW am_nw ro (d + 1) mr_C_copy 97 [some (.ref 0), none, none, none, none, none, none, none] [] (S0, m) (some (.int r)) (S0, m') := by
  unfold f_C_copy_b97 at h
  refine am_AW.run am_base_ok ok_C_copy (Nat.le_add_left 1 d) 2 (pc1 := 99) (ls1 := [some (.ref 0), none, none, none, none, none, none, none]) (st1 := [.int (2 : Int32), .ref 0]) (σ1 := (S0, m)) rfl ?_
  obtain ⟨q23, hq23, h⟩ := Option.bind_eq_some_iff.mp h
  refine am_AW.callV ok_C_copy am_nw_ok (As := [.int (2 : Int32)]) (rest := []) rfl rfl rfl oR_C_found lk_C_92 iM_C_found sE_C_found (qc := kq9) rfl rfl rfl rfl (Nat.le_of_ble_eq_true rfl) (f_C_found_ok (d := d) (by omega) (2 : Int32) hq23) ?_
  change am_AW am_nw ro (d + 1) mr_C_copy 102 [some (.ref 0), none, none, none, none, none, none, none] [.int q23.1] (S0, q23.2) (some (.int r)) (S0, m')
  obtain ⟨rfl, rfl⟩ := Prod.mk.inj (Option.some.inj h)
  exact am_AW.ret ok_C_copy rfl rfl rfl rfl
set_option maxHeartbeats 4000000 in
set_option maxRecDepth 100000 in
theorem f_C_copy_ok {ro : am_Ro} {d : Nat} (hd : 2 ≤ d) (x1 : Int32) (x2 : Int32) (x3 : Int32) (x4 : Int32) (x5 : Int32) {m m' : am_Mm} {r : Int32} (h : f_C_copy x1 x2 x3 x4 x5 m = some (r, m')) : am_Mt am_nw ro d mr_C_copy [.ref 0, .int x1, .int x2, .int x3, .int x4, .int x5] (S0, m) (some (.int r)) (S0, m') := by
  obtain ⟨d, rfl⟩ : ∃ d0, d = d0 + 1 := ⟨d - 1, by omega⟩
  refine am_Mt.of (by decide +kernel) (Nat.le_of_ble_eq_true rfl) ?_
  change am_AW am_nw ro (d + 1) mr_C_copy 0 [some (.ref 0), some (.int x1), some (.int x2), some (.int x3), some (.int x4), some (.int x5), none, none] [] (S0, m) (some (.int r)) (S0, m')
  unfold f_C_copy at h
  refine am_AW.run am_base_ok ok_C_copy (Nat.le_add_left 1 d) 1 (pc1 := 1) (ls1 := [some (.ref 0), some (.int x1), some (.int x2), some (.int x3), some (.int x4), some (.int x5), none, none]) (st1 := [.int x1]) (σ1 := (S0, m)) rfl ?_
  obtain ⟨q3, hq3, h⟩ := Option.bind_eq_some_iff.mp h
  refine am_AW.callS ok_C_copy am_nw_ok (As := [.int x1]) (rest := []) rfl rfl rfl oR_C_isRow lk_C_87 sT_C_isRow rfl (Nat.le_of_ble_eq_true rfl) (f_C_isRow_ok (d := d) (by omega) x1 hq3) ?_
  change am_AW am_nw ro (d + 1) mr_C_copy 4 [some (.ref 0), some (.int x1), some (.int x2), some (.int x3), some (.int x4), some (.int x5), none, none] [.int q3.1] (S0, q3.2) (some (.int r)) (S0, m')
  refine am_AW.brP ok_C_copy rfl rfl am_c_eq (fun c4 => ?_) (fun c4 => ?_)
  · rw [if_pos c4] at h
    refine am_AW.run am_base_ok ok_C_copy (Nat.le_add_left 1 d) 1 (pc1 := 16) (ls1 := [some (.ref 0), some (.int x1), some (.int x2), some (.int x3), some (.int x4), some (.int x5), none, none]) (st1 := [.int (-1000001 : Int32)]) (σ1 := (S0, q3.2)) rfl ?_
    obtain ⟨rfl, rfl⟩ := Prod.mk.inj (Option.some.inj h)
    exact am_AW.ret ok_C_copy rfl rfl rfl rfl
  · rw [if_neg c4] at h
    refine am_AW.run am_base_ok ok_C_copy (Nat.le_add_left 1 d) 1 (pc1 := 8) (ls1 := [some (.ref 0), some (.int x1), some (.int x2), some (.int x3), some (.int x4), some (.int x5), none, none]) (st1 := [.int x3]) (σ1 := (S0, q3.2)) rfl ?_
    obtain ⟨q7, hq7, h⟩ := Option.bind_eq_some_iff.mp h
    refine am_AW.callS ok_C_copy am_nw_ok (As := [.int x3]) (rest := []) rfl rfl rfl oR_C_isRow lk_C_87 sT_C_isRow rfl (Nat.le_of_ble_eq_true rfl) (f_C_isRow_ok (d := d) (by omega) x3 hq7) ?_
    change am_AW am_nw ro (d + 1) mr_C_copy 11 [some (.ref 0), some (.int x1), some (.int x2), some (.int x3), some (.int x4), some (.int x5), none, none] [.int q7.1] (S0, q7.2) (some (.int r)) (S0, m')
    refine am_AW.brN ok_C_copy rfl rfl am_c_ne (fun c8 => ?_) (fun c8 => ?_)
    · rw [if_pos c8] at h
      refine am_AW.run am_base_ok ok_C_copy (Nat.le_add_left 1 d) 1 (pc1 := 16) (ls1 := [some (.ref 0), some (.int x1), some (.int x2), some (.int x3), some (.int x4), some (.int x5), none, none]) (st1 := [.int (-1000001 : Int32)]) (σ1 := (S0, q7.2)) rfl ?_
      obtain ⟨rfl, rfl⟩ := Prod.mk.inj (Option.some.inj h)
      exact am_AW.ret ok_C_copy rfl rfl rfl rfl
    · rw [if_neg c8] at h
      refine am_AW.run am_base_ok ok_C_copy (Nat.le_add_left 1 d) 3 (pc1 := 22) (ls1 := [some (.ref 0), some (.int x1), some (.int x2), some (.int x3), some (.int x4), some (.int x5), none, none]) (st1 := [.int x1, .ref 1]) (σ1 := (S0, q7.2)) rfl ?_
      by_cases g9 : am_in x1 8 = true
      rotate_left
      · rw [if_neg g9] at h
        cases h
      rw [if_pos g9] at h
      refine am_AW.aald ok_C_copy (Nat.le_add_left 1 d) rfl (am_rw_at g9) ?_
      refine am_AW.run am_base_ok ok_C_copy (Nat.le_add_left 1 d) 4 (pc1 := 30) (ls1 := [some (.ref 0), some (.int x1), some (.int x2), some (.int x3), some (.int x4), some (.int x5), some (.ref (am_rw x1)), none]) (st1 := [.int x3, .ref 1]) (σ1 := (S0, q7.2)) rfl ?_
      by_cases g10 : am_in x3 8 = true
      rotate_left
      · rw [if_neg g10] at h
        cases h
      rw [if_pos g10] at h
      refine am_AW.aald ok_C_copy (Nat.le_add_left 1 d) rfl (am_rw_at g10) ?_
      refine am_AW.run am_base_ok ok_C_copy (Nat.le_add_left 1 d) 2 (pc1 := 35) (ls1 := [some (.ref 0), some (.int x1), some (.int x2), some (.int x3), some (.int x4), some (.int x5), some (.ref (am_rw x1)), some (.ref (am_rw x3))]) (st1 := [.ref (am_rw x1)]) (σ1 := (S0, q7.2)) rfl ?_
      refine am_AW.geti ok_C_copy (Nat.le_add_left 1 d) rfl (sh_41_43_45_47_49_51_53_55_0 (am_rw_in g9)) rfl ?_
      refine am_AW.brP ok_C_copy rfl rfl am_c_eq (fun c11 => ?_) (fun c11 => ?_)
      · rw [if_pos c11] at h
        exact am_AW.weak (f_C_copy_b49_ok hd   h) (by simp only [am_le, and_self])
      · rw [if_neg c11] at h
        refine am_AW.run am_base_ok ok_C_copy (Nat.le_add_left 1 d) 1 (pc1 := 43) (ls1 := [some (.ref 0), some (.int x1), some (.int x2), some (.int x3), some (.int x4), some (.int x5), some (.ref (am_rw x1)), some (.ref (am_rw x3))]) (st1 := [.ref (am_rw x3)]) (σ1 := (S0, q7.2)) rfl ?_
        refine am_AW.geti ok_C_copy (Nat.le_add_left 1 d) rfl (sh_41_43_45_47_49_51_53_55_0 (am_rw_in g10)) rfl ?_
        refine am_AW.brN ok_C_copy rfl rfl am_c_ne (fun c15 => ?_) (fun c15 => ?_)
        · rw [if_pos c15] at h
          exact am_AW.weak (f_C_copy_b49_ok hd   h) (by simp only [am_le, and_self])
        · rw [if_neg c15] at h
          refine am_AW.run am_base_ok ok_C_copy (Nat.le_add_left 1 d) 1 (pc1 := 57) (ls1 := [some (.ref 0), some (.int x1), some (.int x2), some (.int x3), some (.int x4), some (.int x5), some (.ref (am_rw x1)), some (.ref (am_rw x3))]) (st1 := [.ref (am_rw x1)]) (σ1 := (S0, q7.2)) rfl ?_
          refine am_AW.geti ok_C_copy (Nat.le_add_left 1 d) rfl (sh_41_43_45_47_49_51_53_55_0 (am_rw_in g9)) rfl ?_
          refine am_AW.run am_base_ok ok_C_copy (Nat.le_add_left 1 d) 1 (pc1 := 62) (ls1 := [some (.ref 0), some (.int x1), some (.int x2), some (.int x3), some (.int x4), some (.int x5), some (.ref (am_rw x1)), some (.ref (am_rw x3))]) (st1 := [.ref (am_rw x3), .int (q7.2.1 (am_rw x1) 2)]) (σ1 := (S0, q7.2)) rfl ?_
          refine am_AW.geti ok_C_copy (Nat.le_add_left 1 d) rfl (sh_41_43_45_47_49_51_53_55_0 (am_rw_in g10)) rfl ?_
          refine am_AW.brP ok_C_copy rfl rfl am_c_eq (fun c16 => ?_) (fun c16 => ?_)
          · rw [if_pos c16] at h
            refine am_AW.run am_base_ok ok_C_copy (Nat.le_add_left 1 d) 3 (pc1 := 79) (ls1 := [some (.ref 0), some (.int x1), some (.int x2), some (.int x3), some (.int x4), some (.int x5), some (.ref (am_rw x1)), some (.ref (am_rw x3))]) (st1 := [.int x5, .int x2, .ref (am_rw x1)]) (σ1 := (S0, q7.2)) rfl ?_
            obtain ⟨q19, hq19, h⟩ := Option.bind_eq_some_iff.mp h
            refine am_AW.callV ok_C_copy am_nw_ok (As := [.int x2, .int x5]) (rest := []) rfl rfl rfl oR_Row_holds lk_C_118 iM_Row_holds sE_Row_holds (qc := kq7) (sh_41_43_45_47_49_51_53_55_0 (am_rw_in g9)) rfl rfl rfl (Nat.le_of_ble_eq_true rfl) (f_Row_holds_ok (d := d) (by omega) (am_rw x1) x2 x5 (am_rw_in g9) hq19) ?_
            change am_AW am_nw ro (d + 1) mr_C_copy 82 [some (.ref 0), some (.int x1), some (.int x2), some (.int x3), some (.int x4), some (.int x5), some (.ref (am_rw x1)), some (.ref (am_rw x3))] [.int q19.1] (S0, q19.2) (some (.int r)) (S0, m')
            refine am_AW.brP ok_C_copy rfl rfl am_c_eq (fun c20 => ?_) (fun c20 => ?_)
            · rw [if_pos c20] at h
              exact am_AW.weak (f_C_copy_b97_ok hd   h) (by simp only [am_le, and_self])
            · rw [if_neg c20] at h
              refine am_AW.run am_base_ok ok_C_copy (Nat.le_add_left 1 d) 3 (pc1 := 91) (ls1 := [some (.ref 0), some (.int x1), some (.int x2), some (.int x3), some (.int x4), some (.int x5), some (.ref (am_rw x1)), some (.ref (am_rw x3))]) (st1 := [.int x5, .int x4, .ref (am_rw x3)]) (σ1 := (S0, q19.2)) rfl ?_
              obtain ⟨q26, hq26, h⟩ := Option.bind_eq_some_iff.mp h
              refine am_AW.callV ok_C_copy am_nw_ok (As := [.int x4, .int x5]) (rest := []) rfl rfl rfl oR_Row_holds lk_C_118 iM_Row_holds sE_Row_holds (qc := kq7) (sh_41_43_45_47_49_51_53_55_0 (am_rw_in g10)) rfl rfl rfl (Nat.le_of_ble_eq_true rfl) (f_Row_holds_ok (d := d) (by omega) (am_rw x3) x4 x5 (am_rw_in g10) hq26) ?_
              change am_AW am_nw ro (d + 1) mr_C_copy 94 [some (.ref 0), some (.int x1), some (.int x2), some (.int x3), some (.int x4), some (.int x5), some (.ref (am_rw x1)), some (.ref (am_rw x3))] [.int q26.1] (S0, q26.2) (some (.int r)) (S0, m')
              refine am_AW.brN ok_C_copy rfl rfl am_c_ne (fun c27 => ?_) (fun c27 => ?_)
              · rw [if_pos c27] at h
                exact am_AW.weak (f_C_copy_b97_ok hd   h) (by simp only [am_le, and_self])
              · rw [if_neg c27] at h
                refine am_AW.run am_base_ok ok_C_copy (Nat.le_add_left 1 d) 1 (pc1 := 105) (ls1 := [some (.ref 0), some (.int x1), some (.int x2), some (.int x3), some (.int x4), some (.int x5), some (.ref (am_rw x1)), some (.ref (am_rw x3))]) (st1 := [.ref (am_rw x1)]) (σ1 := (S0, q26.2)) rfl ?_
                refine am_AW.getf ok_C_copy (Nat.le_add_left 1 d) rfl (sh_41_43_45_47_49_51_53_55_0 (am_rw_in g9)) rfl ?_
                refine am_AW.run am_base_ok ok_C_copy (Nat.le_add_left 1 d) 2 (pc1 := 111) (ls1 := [some (.ref 0), some (.int x1), some (.int x2), some (.int x3), some (.int x4), some (.int x5), some (.ref (am_rw x1)), some (.ref (am_rw x3))]) (st1 := [.ref (am_rw x3), .int x2, .ref ((am_rw x1) + 1)]) (σ1 := (S0, q26.2)) rfl ?_
                refine am_AW.getf ok_C_copy (Nat.le_add_left 1 d) rfl (sh_41_43_45_47_49_51_53_55_0 (am_rw_in g10)) rfl ?_
                refine am_AW.run am_base_ok ok_C_copy (Nat.le_add_left 1 d) 2 (pc1 := 118) (ls1 := [some (.ref 0), some (.int x1), some (.int x2), some (.int x3), some (.int x4), some (.int x5), some (.ref (am_rw x1)), some (.ref (am_rw x3))]) (st1 := [.int x5, .int x4, .ref ((am_rw x3) + 1), .int x2, .ref ((am_rw x1) + 1)]) (σ1 := (S0, q26.2)) rfl ?_
                by_cases g28 : ¬ x2 < 0 ∧ ¬ x4 < 0 ∧ ¬ x5 < 0 ∧ x2.toNatClampNeg + x5.toNatClampNeg ≤ 40 ∧ x4.toNatClampNeg + x5.toNatClampNeg ≤ 40
                rotate_left
                · rw [if_neg g28] at h
                  cases h
                rw [if_pos g28] at h
                refine am_AW.acpy ok_C_copy (Nat.le_add_left 1 d) rfl (sh_41_43_45_47_49_51_53_55_1 (am_rw_in g9)) (sh_41_43_45_47_49_51_53_55_1 (am_rw_in g10)) (Nat.le_of_ble_eq_true rfl) g28 ?_
                refine am_AW.run am_base_ok ok_C_copy (Nat.le_add_left 1 d) 2 (pc1 := 124) (ls1 := [some (.ref 0), some (.int x1), some (.int x2), some (.int x3), some (.int x4), some (.int x5), some (.ref (am_rw x1)), some (.ref (am_rw x3))]) (st1 := [.int x5, .ref 0]) (σ1 := (S0, (am_pC q26.2 ((am_rw x1) + 1) x2.toNatClampNeg ((am_rw x3) + 1) x4.toNatClampNeg x5.toNatClampNeg))) rfl ?_
                obtain ⟨q31, hq31, h⟩ := Option.bind_eq_some_iff.mp h
                refine am_AW.callV ok_C_copy am_nw_ok (As := [.int x5]) (rest := []) rfl rfl rfl oR_C_fine lk_C_100 iM_C_fine sE_C_fine (qc := kq9) rfl rfl rfl rfl (Nat.le_of_ble_eq_true rfl) (f_C_fine_ok (d := d) (by omega) x5 hq31) ?_
                change am_AW am_nw ro (d + 1) mr_C_copy 127 [some (.ref 0), some (.int x1), some (.int x2), some (.int x3), some (.int x4), some (.int x5), some (.ref (am_rw x1)), some (.ref (am_rw x3))] [.int q31.1] (S0, q31.2) (some (.int r)) (S0, m')
                obtain ⟨rfl, rfl⟩ := Prod.mk.inj (Option.some.inj h)
                exact am_AW.ret ok_C_copy rfl rfl rfl rfl
          · rw [if_neg c16] at h
            refine am_AW.run am_base_ok ok_C_copy (Nat.le_add_left 1 d) 2 (pc1 := 70) (ls1 := [some (.ref 0), some (.int x1), some (.int x2), some (.int x3), some (.int x4), some (.int x5), some (.ref (am_rw x1)), some (.ref (am_rw x3))]) (st1 := [.int (5 : Int32), .ref 0]) (σ1 := (S0, q7.2)) rfl ?_
            obtain ⟨q34, hq34, h⟩ := Option.bind_eq_some_iff.mp h
            refine am_AW.callV ok_C_copy am_nw_ok (As := [.int (5 : Int32)]) (rest := []) rfl rfl rfl oR_C_found lk_C_92 iM_C_found sE_C_found (qc := kq9) rfl rfl rfl rfl (Nat.le_of_ble_eq_true rfl) (f_C_found_ok (d := d) (by omega) (5 : Int32) hq34) ?_
            change am_AW am_nw ro (d + 1) mr_C_copy 73 [some (.ref 0), some (.int x1), some (.int x2), some (.int x3), some (.int x4), some (.int x5), some (.ref (am_rw x1)), some (.ref (am_rw x3))] [.int q34.1] (S0, q34.2) (some (.int r)) (S0, m')
            obtain ⟨rfl, rfl⟩ := Prod.mk.inj (Option.some.inj h)
            exact am_AW.ret ok_C_copy rfl rfl rfl rfl
/-! FriezePolygons.drop(I)I -/
def f_C_drop (x1 : Int32) (m : am_Mm) : Option (Int32 × am_Mm) :=
  (f_C_isRow x1 m).bind fun q3 =>
  if q3.1 = (0 : Int32) then
    some ((-1000001 : Int32), q3.2)
  else
    if am_in x1 8 = true then
      if (q3.2.1 (am_rw x1) 1) = (0 : Int32) then
        (f_C_found (1 : Int32) q3.2).bind fun q9 =>
        some (q9.1, q9.2)
      else
        if am_in x1 8 = true then
          if am_in x1 8 = true then
            (f_C_fine ((am_pI q3.2 (am_rw x1) 1 (0 : Int32)).1 (am_rw x1) 3) (am_pI q3.2 (am_rw x1) 1 (0 : Int32))).bind fun q14 =>
            some (q14.1, q14.2)
          else none
        else none
    else none
set_option maxHeartbeats 4000000 in
set_option maxRecDepth 100000 in
theorem f_C_drop_ok {ro : am_Ro} {d : Nat} (hd : 2 ≤ d) (x1 : Int32) {m m' : am_Mm} {r : Int32} (h : f_C_drop x1 m = some (r, m')) : am_Mt am_nw ro d mr_C_drop [.ref 0, .int x1] (S0, m) (some (.int r)) (S0, m') := by
  obtain ⟨d, rfl⟩ : ∃ d0, d = d0 + 1 := ⟨d - 1, by omega⟩
  refine am_Mt.of (by decide +kernel) (Nat.le_of_ble_eq_true rfl) ?_
  change am_AW am_nw ro (d + 1) mr_C_drop 0 [some (.ref 0), some (.int x1)] [] (S0, m) (some (.int r)) (S0, m')
  unfold f_C_drop at h
  refine am_AW.run am_base_ok ok_C_drop (Nat.le_add_left 1 d) 1 (pc1 := 1) (ls1 := [some (.ref 0), some (.int x1)]) (st1 := [.int x1]) (σ1 := (S0, m)) rfl ?_
  obtain ⟨q3, hq3, h⟩ := Option.bind_eq_some_iff.mp h
  refine am_AW.callS ok_C_drop am_nw_ok (As := [.int x1]) (rest := []) rfl rfl rfl oR_C_isRow lk_C_87 sT_C_isRow rfl (Nat.le_of_ble_eq_true rfl) (f_C_isRow_ok (d := d) (by omega) x1 hq3) ?_
  change am_AW am_nw ro (d + 1) mr_C_drop 4 [some (.ref 0), some (.int x1)] [.int q3.1] (S0, q3.2) (some (.int r)) (S0, m')
  refine am_AW.brN ok_C_drop rfl rfl am_c_ne (fun c4 => ?_) (fun c4 => ?_)
  · rw [if_pos c4] at h
    refine am_AW.run am_base_ok ok_C_drop (Nat.le_add_left 1 d) 1 (pc1 := 9) (ls1 := [some (.ref 0), some (.int x1)]) (st1 := [.int (-1000001 : Int32)]) (σ1 := (S0, q3.2)) rfl ?_
    obtain ⟨rfl, rfl⟩ := Prod.mk.inj (Option.some.inj h)
    exact am_AW.ret ok_C_drop rfl rfl rfl rfl
  · rw [if_neg c4] at h
    refine am_AW.run am_base_ok ok_C_drop (Nat.le_add_left 1 d) 3 (pc1 := 15) (ls1 := [some (.ref 0), some (.int x1)]) (st1 := [.int x1, .ref 1]) (σ1 := (S0, q3.2)) rfl ?_
    by_cases g5 : am_in x1 8 = true
    rotate_left
    · rw [if_neg g5] at h
      cases h
    rw [if_pos g5] at h
    refine am_AW.aald ok_C_drop (Nat.le_add_left 1 d) rfl (am_rw_at g5) ?_
    refine am_AW.geti ok_C_drop (Nat.le_add_left 1 d) rfl (sh_41_43_45_47_49_51_53_55_0 (am_rw_in g5)) rfl ?_
    refine am_AW.brN ok_C_drop rfl rfl am_c_ne (fun c6 => ?_) (fun c6 => ?_)
    · rw [if_pos c6] at h
      refine am_AW.run am_base_ok ok_C_drop (Nat.le_add_left 1 d) 2 (pc1 := 24) (ls1 := [some (.ref 0), some (.int x1)]) (st1 := [.int (1 : Int32), .ref 0]) (σ1 := (S0, q3.2)) rfl ?_
      obtain ⟨q9, hq9, h⟩ := Option.bind_eq_some_iff.mp h
      refine am_AW.callV ok_C_drop am_nw_ok (As := [.int (1 : Int32)]) (rest := []) rfl rfl rfl oR_C_found lk_C_92 iM_C_found sE_C_found (qc := kq9) rfl rfl rfl rfl (Nat.le_of_ble_eq_true rfl) (f_C_found_ok (d := d) (by omega) (1 : Int32) hq9) ?_
      change am_AW am_nw ro (d + 1) mr_C_drop 27 [some (.ref 0), some (.int x1)] [.int q9.1] (S0, q9.2) (some (.int r)) (S0, m')
      obtain ⟨rfl, rfl⟩ := Prod.mk.inj (Option.some.inj h)
      exact am_AW.ret ok_C_drop rfl rfl rfl rfl
    · rw [if_neg c6] at h
      refine am_AW.run am_base_ok ok_C_drop (Nat.le_add_left 1 d) 3 (pc1 := 33) (ls1 := [some (.ref 0), some (.int x1)]) (st1 := [.int x1, .ref 1]) (σ1 := (S0, q3.2)) rfl ?_
      by_cases g10 : am_in x1 8 = true
      rotate_left
      · rw [if_neg g10] at h
        cases h
      rw [if_pos g10] at h
      refine am_AW.aald ok_C_drop (Nat.le_add_left 1 d) rfl (am_rw_at g10) ?_
      refine am_AW.run am_base_ok ok_C_drop (Nat.le_add_left 1 d) 1 (pc1 := 35) (ls1 := [some (.ref 0), some (.int x1)]) (st1 := [.int (0 : Int32), .ref (am_rw x1)]) (σ1 := (S0, q3.2)) rfl ?_
      refine am_AW.putz ok_C_drop (Nat.le_add_left 1 d) rfl (sh_41_43_45_47_49_51_53_55_0 (am_rw_in g10)) rfl (qc := kq7) rfl (by decide) ty_7_1 (by decide) ?_
      refine am_AW.run am_base_ok ok_C_drop (Nat.le_add_left 1 d) 4 (pc1 := 44) (ls1 := [some (.ref 0), some (.int x1)]) (st1 := [.int x1, .ref 1, .ref 0]) (σ1 := (S0, (am_pI q3.2 (am_rw x1) 1 (0 : Int32)))) rfl ?_
      by_cases g11 : am_in x1 8 = true
      rotate_left
      · rw [if_neg g11] at h
        cases h
      rw [if_pos g11] at h
      refine am_AW.aald ok_C_drop (Nat.le_add_left 1 d) rfl (am_rw_at g11) ?_
      refine am_AW.geti ok_C_drop (Nat.le_add_left 1 d) rfl (sh_41_43_45_47_49_51_53_55_0 (am_rw_in g11)) rfl ?_
      obtain ⟨q14, hq14, h⟩ := Option.bind_eq_some_iff.mp h
      refine am_AW.callV ok_C_drop am_nw_ok (As := [.int ((am_pI q3.2 (am_rw x1) 1 (0 : Int32)).1 (am_rw x1) 3)]) (rest := []) rfl rfl rfl oR_C_fine lk_C_100 iM_C_fine sE_C_fine (qc := kq9) rfl rfl rfl rfl (Nat.le_of_ble_eq_true rfl) (f_C_fine_ok (d := d) (by omega) ((am_pI q3.2 (am_rw x1) 1 (0 : Int32)).1 (am_rw x1) 3) hq14) ?_
      change am_AW am_nw ro (d + 1) mr_C_drop 51 [some (.ref 0), some (.int x1)] [.int q14.1] (S0, q14.2) (some (.int r)) (S0, m')
      obtain ⟨rfl, rfl⟩ := Prod.mk.inj (Option.some.inj h)
      exact am_AW.ret ok_C_drop rfl rfl rfl rfl
/-! FriezePolygons.feed(I)I -/
def f_C_feed (x1 : Int32) (m : am_Mm) : Option (Int32 × am_Mm) :=
  if x1 < (0 : Int32) then
    some ((-1000001 : Int32), m)
  else
    if x1 ≤ (255 : Int32) then
      (f_Tape_take x1 m).bind fun q5 =>
      if q5.1 = (0 : Int32) then
        some ((-1000003 : Int32), q5.2)
      else
        some ((q5.2.1 2 3), q5.2)
    else
      some ((-1000001 : Int32), m)
set_option maxHeartbeats 4000000 in
set_option maxRecDepth 100000 in
theorem f_C_feed_ok {ro : am_Ro} {d : Nat} (hd : 2 ≤ d) (x1 : Int32) {m m' : am_Mm} {r : Int32} (h : f_C_feed x1 m = some (r, m')) : am_Mt am_nw ro d mr_C_feed [.ref 0, .int x1] (S0, m) (some (.int r)) (S0, m') := by
  obtain ⟨d, rfl⟩ : ∃ d0, d = d0 + 1 := ⟨d - 1, by omega⟩
  refine am_Mt.of (by decide +kernel) (Nat.le_of_ble_eq_true rfl) ?_
  change am_AW am_nw ro (d + 1) mr_C_feed 0 [some (.ref 0), some (.int x1)] [] (S0, m) (some (.int r)) (S0, m')
  unfold f_C_feed at h
  refine am_AW.run am_base_ok ok_C_feed (Nat.le_add_left 1 d) 1 (pc1 := 1) (ls1 := [some (.ref 0), some (.int x1)]) (st1 := [.int x1]) (σ1 := (S0, m)) rfl ?_
  refine am_AW.brP ok_C_feed rfl rfl am_c_lt (fun c1 => ?_) (fun c1 => ?_)
  · rw [if_pos c1] at h
    refine am_AW.run am_base_ok ok_C_feed (Nat.le_add_left 1 d) 1 (pc1 := 13) (ls1 := [some (.ref 0), some (.int x1)]) (st1 := [.int (-1000001 : Int32)]) (σ1 := (S0, m)) rfl ?_
    obtain ⟨rfl, rfl⟩ := Prod.mk.inj (Option.some.inj h)
    exact am_AW.ret ok_C_feed rfl rfl rfl rfl
  · rw [if_neg c1] at h
    refine am_AW.run am_base_ok ok_C_feed (Nat.le_add_left 1 d) 2 (pc1 := 8) (ls1 := [some (.ref 0), some (.int x1)]) (st1 := [.int (255 : Int32), .int x1]) (σ1 := (S0, m)) rfl ?_
    refine am_AW.brP ok_C_feed rfl rfl am_c_le (fun c2 => ?_) (fun c2 => ?_)
    · rw [if_pos c2] at h
      refine am_AW.run am_base_ok ok_C_feed (Nat.le_add_left 1 d) 3 (pc1 := 19) (ls1 := [some (.ref 0), some (.int x1)]) (st1 := [.int x1, .ref 2]) (σ1 := (S0, m)) rfl ?_
      obtain ⟨q5, hq5, h⟩ := Option.bind_eq_some_iff.mp h
      refine am_AW.callV ok_C_feed am_nw_ok (As := [.int x1]) (rest := []) rfl rfl rfl oR_Tape_take lk_C_134 iM_Tape_take sE_Tape_take (qc := kq8) rfl rfl rfl rfl (Nat.le_of_ble_eq_true rfl) (f_Tape_take_ok (d := d) (by omega) x1 hq5) ?_
      change am_AW am_nw ro (d + 1) mr_C_feed 22 [some (.ref 0), some (.int x1)] [.int q5.1] (S0, q5.2) (some (.int r)) (S0, m')
      refine am_AW.brP ok_C_feed rfl rfl am_c_eq (fun c6 => ?_) (fun c6 => ?_)
      · rw [if_pos c6] at h
        refine am_AW.run am_base_ok ok_C_feed (Nat.le_add_left 1 d) 1 (pc1 := 37) (ls1 := [some (.ref 0), some (.int x1)]) (st1 := [.int (-1000003 : Int32)]) (σ1 := (S0, q5.2)) rfl ?_
        obtain ⟨rfl, rfl⟩ := Prod.mk.inj (Option.some.inj h)
        exact am_AW.ret ok_C_feed rfl rfl rfl rfl
      · rw [if_neg c6] at h
        refine am_AW.run am_base_ok ok_C_feed (Nat.le_add_left 1 d) 4 (pc1 := 37) (ls1 := [some (.ref 0), some (.int x1)]) (st1 := [.int (q5.2.1 2 3)]) (σ1 := (S0, q5.2)) rfl ?_
        obtain ⟨rfl, rfl⟩ := Prod.mk.inj (Option.some.inj h)
        exact am_AW.ret ok_C_feed rfl rfl rfl rfl
    · rw [if_neg c2] at h
      refine am_AW.run am_base_ok ok_C_feed (Nat.le_add_left 1 d) 1 (pc1 := 13) (ls1 := [some (.ref 0), some (.int x1)]) (st1 := [.int (-1000001 : Int32)]) (σ1 := (S0, m)) rfl ?_
      obtain ⟨rfl, rfl⟩ := Prod.mk.inj (Option.some.inj h)
      exact am_AW.ret ok_C_feed rfl rfl rfl rfl
/-! FriezePolygons.undo()I -/
def f_C_undo (m : am_Mm) : Option (Int32 × am_Mm) :=
  if (m.1 26 3) = (0 : Int32) then
    some ((-1000002 : Int32), m)
  else
    (f_Acts_takeBack m).bind fun q4 =>
    some ((q4.1 26 3), q4)
set_option maxHeartbeats 4000000 in
set_option maxRecDepth 100000 in
theorem f_C_undo_ok {ro : am_Ro} {d : Nat} (hd : 2 ≤ d) {m m' : am_Mm} {r : Int32} (h : f_C_undo  m = some (r, m')) : am_Mt am_nw ro d mr_C_undo [.ref 0] (S0, m) (some (.int r)) (S0, m') := by
  obtain ⟨d, rfl⟩ : ∃ d0, d = d0 + 1 := ⟨d - 1, by omega⟩
  refine am_Mt.of (by decide +kernel) (Nat.le_of_ble_eq_true rfl) ?_
  change am_AW am_nw ro (d + 1) mr_C_undo 0 [some (.ref 0)] [] (S0, m) (some (.int r)) (S0, m')
  unfold f_C_undo at h
  refine am_AW.run am_base_ok ok_C_undo (Nat.le_add_left 1 d) 3 (pc1 := 7) (ls1 := [some (.ref 0)]) (st1 := [.int (m.1 26 3)]) (σ1 := (S0, m)) rfl ?_
  refine am_AW.brN ok_C_undo rfl rfl am_c_ne (fun c1 => ?_) (fun c1 => ?_)
  · rw [if_pos c1] at h
    refine am_AW.run am_base_ok ok_C_undo (Nat.le_add_left 1 d) 1 (pc1 := 12) (ls1 := [some (.ref 0)]) (st1 := [.int (-1000002 : Int32)]) (σ1 := (S0, m)) rfl ?_
    obtain ⟨rfl, rfl⟩ := Prod.mk.inj (Option.some.inj h)
    exact am_AW.ret ok_C_undo rfl rfl rfl rfl
  · rw [if_neg c1] at h
    refine am_AW.run am_base_ok ok_C_undo (Nat.le_add_left 1 d) 4 (pc1 := 21) (ls1 := [some (.ref 0)]) (st1 := [.ref 13, .ref 26]) (σ1 := (S0, m)) rfl ?_
    obtain ⟨q4, hq4, h⟩ := Option.bind_eq_some_iff.mp h
    refine am_AW.callV ok_C_undo am_nw_ok (As := [.ref 13]) (rest := []) rfl rfl rfl oR_Acts_takeBack lk_C_164 iM_Acts_takeBack sE_Acts_takeBack (qc := kq0) rfl rfl rfl rfl (Nat.le_of_ble_eq_true rfl) (f_Acts_takeBack_ok (d := d) (by omega)  hq4) ?_
    change am_AW am_nw ro (d + 1) mr_C_undo 24 [some (.ref 0)] [] (S0, q4) (some (.int r)) (S0, m')
    refine am_AW.run am_base_ok ok_C_undo (Nat.le_add_left 1 d) 3 (pc1 := 31) (ls1 := [some (.ref 0)]) (st1 := [.int (q4.1 26 3)]) (σ1 := (S0, q4)) rfl ?_
    obtain ⟨rfl, rfl⟩ := Prod.mk.inj (Option.some.inj h)
    exact am_AW.ret ok_C_undo rfl rfl rfl rfl
/-! FriezePolygons.image(I)I -/
def f_C_image (x1 : Int32) (m : am_Mm) : Option (Int32 × am_Mm) :=
  if x1 < (0 : Int32) then
    some ((-1000001 : Int32), m)
  else
    if x1 < (2 : Int32) then
      (f_C_isThere m).bind fun q5 =>
      if q5.1 = (0 : Int32) then
        some ((-1000002 : Int32), q5.2)
      else
        if am_in x1 2 = true then
          (f_Figure_take (am_im x1) 13 q5.2).bind fun q10 =>
          some ((1 : Int32), q10)
        else none
    else
      some ((-1000001 : Int32), m)
set_option maxHeartbeats 4000000 in
set_option maxRecDepth 100000 in
theorem f_C_image_ok {ro : am_Ro} {d : Nat} (hd : 2 ≤ d) (x1 : Int32) {m m' : am_Mm} {r : Int32} (h : f_C_image x1 m = some (r, m')) : am_Mt am_nw ro d mr_C_image [.ref 0, .int x1] (S0, m) (some (.int r)) (S0, m') := by
  obtain ⟨d, rfl⟩ : ∃ d0, d = d0 + 1 := ⟨d - 1, by omega⟩
  refine am_Mt.of (by decide +kernel) (Nat.le_of_ble_eq_true rfl) ?_
  change am_AW am_nw ro (d + 1) mr_C_image 0 [some (.ref 0), some (.int x1)] [] (S0, m) (some (.int r)) (S0, m')
  unfold f_C_image at h
  refine am_AW.run am_base_ok ok_C_image (Nat.le_add_left 1 d) 1 (pc1 := 1) (ls1 := [some (.ref 0), some (.int x1)]) (st1 := [.int x1]) (σ1 := (S0, m)) rfl ?_
  refine am_AW.brP ok_C_image rfl rfl am_c_lt (fun c1 => ?_) (fun c1 => ?_)
  · rw [if_pos c1] at h
    refine am_AW.run am_base_ok ok_C_image (Nat.le_add_left 1 d) 1 (pc1 := 11) (ls1 := [some (.ref 0), some (.int x1)]) (st1 := [.int (-1000001 : Int32)]) (σ1 := (S0, m)) rfl ?_
    obtain ⟨rfl, rfl⟩ := Prod.mk.inj (Option.some.inj h)
    exact am_AW.ret ok_C_image rfl rfl rfl rfl
  · rw [if_neg c1] at h
    refine am_AW.run am_base_ok ok_C_image (Nat.le_add_left 1 d) 2 (pc1 := 6) (ls1 := [some (.ref 0), some (.int x1)]) (st1 := [.int (2 : Int32), .int x1]) (σ1 := (S0, m)) rfl ?_
    refine am_AW.brP ok_C_image rfl rfl am_c_lt (fun c2 => ?_) (fun c2 => ?_)
    · rw [if_pos c2] at h
      refine am_AW.run am_base_ok ok_C_image (Nat.le_add_left 1 d) 1 (pc1 := 13) (ls1 := [some (.ref 0), some (.int x1)]) (st1 := [.ref 0]) (σ1 := (S0, m)) rfl ?_
      obtain ⟨q5, hq5, h⟩ := Option.bind_eq_some_iff.mp h
      refine am_AW.callV ok_C_image am_nw_ok (As := []) (rest := []) rfl rfl rfl oR_C_isThere lk_C_198 iM_C_isThere sE_C_isThere (qc := kq9) rfl rfl rfl rfl (Nat.le_of_ble_eq_true rfl) (f_C_isThere_ok (d := d) (by omega)  hq5) ?_
      change am_AW am_nw ro (d + 1) mr_C_image 16 [some (.ref 0), some (.int x1)] [.int q5.1] (S0, q5.2) (some (.int r)) (S0, m')
      refine am_AW.brN ok_C_image rfl rfl am_c_ne (fun c6 => ?_) (fun c6 => ?_)
      · rw [if_pos c6] at h
        refine am_AW.run am_base_ok ok_C_image (Nat.le_add_left 1 d) 1 (pc1 := 21) (ls1 := [some (.ref 0), some (.int x1)]) (st1 := [.int (-1000002 : Int32)]) (σ1 := (S0, q5.2)) rfl ?_
        obtain ⟨rfl, rfl⟩ := Prod.mk.inj (Option.some.inj h)
        exact am_AW.ret ok_C_image rfl rfl rfl rfl
      · rw [if_neg c6] at h
        refine am_AW.run am_base_ok ok_C_image (Nat.le_add_left 1 d) 3 (pc1 := 27) (ls1 := [some (.ref 0), some (.int x1)]) (st1 := [.int x1, .ref 19]) (σ1 := (S0, q5.2)) rfl ?_
        by_cases g7 : am_in x1 2 = true
        rotate_left
        · rw [if_neg g7] at h
          cases h
        rw [if_pos g7] at h
        refine am_AW.aald ok_C_image (Nat.le_add_left 1 d) rfl (am_im_at g7) ?_
        refine am_AW.run am_base_ok ok_C_image (Nat.le_add_left 1 d) 2 (pc1 := 32) (ls1 := [some (.ref 0), some (.int x1)]) (st1 := [.ref 13, .ref (am_im x1)]) (σ1 := (S0, q5.2)) rfl ?_
        obtain ⟨q10, hq10, h⟩ := Option.bind_eq_some_iff.mp h
        refine am_AW.callV ok_C_image am_nw_ok (As := [.ref 13]) (rest := []) rfl rfl rfl oR_Figure_take lk_C_318 iM_Figure_take sE_Figure_take (qc := kq3) (sh_57_60_0 (am_im_in g7)) rfl rfl rfl (Nat.le_of_ble_eq_true rfl) (f_Figure_take_ok (d := d) (by omega) (am_im x1) 13 (by rcases (am_im_in g7) with h | h <;> simp [h]) (by simp) hq10) ?_
        change am_AW am_nw ro (d + 1) mr_C_image 35 [some (.ref 0), some (.int x1)] [] (S0, q10) (some (.int r)) (S0, m')
        refine am_AW.run am_base_ok ok_C_image (Nat.le_add_left 1 d) 1 (pc1 := 36) (ls1 := [some (.ref 0), some (.int x1)]) (st1 := [.int (1 : Int32)]) (σ1 := (S0, q10)) rfl ?_
        obtain ⟨rfl, rfl⟩ := Prod.mk.inj (Option.some.inj h)
        exact am_AW.ret ok_C_image rfl rfl rfl rfl
    · rw [if_neg c2] at h
      refine am_AW.run am_base_ok ok_C_image (Nat.le_add_left 1 d) 1 (pc1 := 11) (ls1 := [some (.ref 0), some (.int x1)]) (st1 := [.int (-1000001 : Int32)]) (σ1 := (S0, m)) rfl ?_
      obtain ⟨rfl, rfl⟩ := Prod.mk.inj (Option.some.inj h)
      exact am_AW.ret ok_C_image rfl rfl rfl rfl
