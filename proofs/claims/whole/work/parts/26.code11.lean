/-! FriezePolygonsModel.areCountsSo(II)Z -/
def f_M_areCountsSo_b42 (k5 : Int32 → Int32 → Int32 → Int32 → am_Mm → Option (Int32 × am_Mm)) (x1 : Int32) (x2 : Int32) (x4 : Int32) (s0 : Int32) (m : am_Mm) : Option (Int32 × am_Mm) :=
  k5 x1 x2 s0 (x4 + (1 : Int32)) m
def f_M_areCountsSo_b5 : Nat → Int32 → Int32 → Int32 → Int32 → am_Mm → Option (Int32 × am_Mm)
  | 0, _, _, _, _, _ => none
  | n + 1, x1, x2, x3, x4, m =>
    if x2 ≤ x4 then
      if x3 = (0 : Int32) ∨ x3 = (1 : Int32) then
        some (x3, m)
      else none
    else
      if x3 = (0 : Int32) then
        f_M_areCountsSo_b42 (f_M_areCountsSo_b5 n) x1 x2 x4 (0 : Int32) m
      else
        (f_M_countOf 69 x4 m).bind fun q6 =>
        if am_in (x1 + x4) 320 = true then
          if q6.1 = (q6.2.1 66 (x1 + x4).toNatClampNeg) then
            f_M_areCountsSo_b42 (f_M_areCountsSo_b5 n) x1 x2 x4 (1 : Int32) q6.2
          else
            f_M_areCountsSo_b42 (f_M_areCountsSo_b5 n) x1 x2 x4 (0 : Int32) q6.2
        else none
def f_M_areCountsSo (x1 : Int32) (x2 : Int32) (m : am_Mm) : Option (Int32 × am_Mm) :=
  f_M_areCountsSo_b5 am_F x1 x2 (1 : Int32) (0 : Int32) m
set_option maxHeartbeats 4000000 in
set_option maxRecDepth 100000 in
theorem f_M_areCountsSo_b42_ok {ro : am_Ro} {d : Nat} (hd : 6 ≤ d + 1) {k5 : Int32 → Int32 → Int32 → Int32 → am_Mm → Option (Int32 × am_Mm)} (hk5 : ∀ (x1 : Int32) (x2 : Int32) (x3 : Int32) (x4 : Int32) (m m' : am_Mm) (r : Int32), k5 x1 x2 x3 x4 m = some (r, m') → am_AW am_nw ro (d + 1) mr_M_areCountsSo 5 [some (.ref 63), some (.int x1), some (.int x2), some (.int x3), some (.int x4)] [] (S0, m) (some (.int r)) (S0, m')) (x1 : Int32) (x2 : Int32) (x4 : Int32) (s0 : Int32) {m m' : am_Mm} {r : Int32} (h : f_M_areCountsSo_b42 k5 x1 x2 x4 s0 m = some (r, m')) : am_AW am_nw ro (d + 1) mr_M_areCountsSo 42 [some (.ref 63), some (.int x1), some (.int x2), none, some (.int x4)] [.int s0] (S0, m) (some (.int r)) (S0, m') := by
  unfold f_M_areCountsSo_b42 at h
  refine am_AW.run am_base_ok ok_M_areCountsSo (Nat.le_add_left 1 d) 3 (pc1 := 5) (ls1 := [some (.ref 63), some (.int x1), some (.int x2), some (.int s0), some (.int (x4 + (1 : Int32)))]) (st1 := []) (σ1 := (S0, m)) rfl ?_
  exact am_AW.weak (hk5 x1 x2 s0 (x4 + (1 : Int32))  _ _ _ h) (by simp only [am_le, and_self])
set_option maxHeartbeats 4000000 in
set_option maxRecDepth 100000 in
theorem f_M_areCountsSo_b5_all {ro : am_Ro} {d : Nat} (hd : 6 ≤ d + 1) : ∀ (n : Nat) (x1 : Int32) (x2 : Int32) (x3 : Int32) (x4 : Int32) (m m' : am_Mm) (r : Int32), f_M_areCountsSo_b5 n x1 x2 x3 x4 m = some (r, m') → am_AW am_nw ro (d + 1) mr_M_areCountsSo 5 [some (.ref 63), some (.int x1), some (.int x2), some (.int x3), some (.int x4)] [] (S0, m) (some (.int r)) (S0, m') := by
  intro n
  induction n with
  | zero =>
    intro x1 x2 x3 x4 m m' r h
    rw [f_M_areCountsSo_b5] at h
    cases h
  | succ n ih =>
    intro x1 x2 x3 x4 m m' r h
    rw [f_M_areCountsSo_b5] at h
    refine am_AW.run am_base_ok ok_M_areCountsSo (Nat.le_add_left 1 d) 2 (pc1 := 8) (ls1 := [some (.ref 63), some (.int x1), some (.int x2), some (.int x3), some (.int x4)]) (st1 := [.int x2, .int x4]) (σ1 := (S0, m)) rfl ?_
    refine am_AW.brP ok_M_areCountsSo rfl rfl am_c_ge (fun c1 => ?_) (fun c1 => ?_)
    · rw [if_pos c1] at h
      refine am_AW.run am_base_ok ok_M_areCountsSo (Nat.le_add_left 1 d) 1 (pc1 := 50) (ls1 := [some (.ref 63), some (.int x1), some (.int x2), some (.int x3), some (.int x4)]) (st1 := [.int x3]) (σ1 := (S0, m)) rfl ?_
      by_cases g2 : x3 = (0 : Int32) ∨ x3 = (1 : Int32)
      rotate_left
      · rw [if_neg g2] at h
        cases h
      rw [if_pos g2] at h
      obtain ⟨rfl, rfl⟩ := Prod.mk.inj (Option.some.inj h)
      exact am_AW.ret ok_M_areCountsSo rfl rfl rfl (am_rokZ g2)
    · rw [if_neg c1] at h
      refine am_AW.run am_base_ok ok_M_areCountsSo (Nat.le_add_left 1 d) 1 (pc1 := 12) (ls1 := [some (.ref 63), some (.int x1), some (.int x2), some (.int x3), some (.int x4)]) (st1 := [.int x3]) (σ1 := (S0, m)) rfl ?_
      refine am_AW.brP ok_M_areCountsSo rfl rfl am_c_eq (fun c3 => ?_) (fun c3 => ?_)
      · rw [if_pos c3] at h
        refine am_AW.run am_base_ok ok_M_areCountsSo (Nat.le_add_left 1 d) 1 (pc1 := 42) (ls1 := [some (.ref 63), some (.int x1), some (.int x2), some (.int x3), some (.int x4)]) (st1 := [.int (0 : Int32)]) (σ1 := (S0, m)) rfl ?_
        exact am_AW.weak (f_M_areCountsSo_b42_ok hd (ih) x1 x2 x4 (0 : Int32)  h) (by simp only [am_le, and_self])
      · rw [if_neg c3] at h
        refine am_AW.run am_base_ok ok_M_areCountsSo (Nat.le_add_left 1 d) 4 (pc1 := 22) (ls1 := [some (.ref 63), some (.int x1), some (.int x2), some (.int x3), some (.int x4)]) (st1 := [.int x4, .ref 69, .ref 63]) (σ1 := (S0, m)) rfl ?_
        obtain ⟨q6, hq6, h⟩ := Option.bind_eq_some_iff.mp h
        refine am_AW.callV ok_M_areCountsSo am_nw_ok (As := [.ref 69, .int x4]) (rest := []) rfl rfl rfl oR_M_countOf lk_M_236 iM_M_countOf sE_M_countOf (qc := kq10) rfl rfl rfl rfl (Nat.le_of_ble_eq_true rfl) (f_M_countOf_ok (d := d) (by omega) 69 x4 (by simp) hq6) ?_
        change am_AW am_nw ro (d + 1) mr_M_areCountsSo 25 [some (.ref 63), some (.int x1), some (.int x2), some (.int x3), some (.int x4)] [.int q6.1] (S0, q6.2) (some (.int r)) (S0, m')
        refine am_AW.run am_base_ok ok_M_areCountsSo (Nat.le_add_left 1 d) 5 (pc1 := 33) (ls1 := [some (.ref 63), some (.int x1), some (.int x2), some (.int x3), some (.int x4)]) (st1 := [.int (x1 + x4), .ref 66, .int q6.1]) (σ1 := (S0, q6.2)) rfl ?_
        by_cases g7 : am_in (x1 + x4) 320 = true
        rotate_left
        · rw [if_neg g7] at h
          cases h
        rw [if_pos g7] at h
        refine am_AW.iald ok_M_areCountsSo (Nat.le_add_left 1 d) S0_len rfl rfl g7 ?_
        refine am_AW.brN ok_M_areCountsSo rfl rfl am_c_ne (fun c8 => ?_) (fun c8 => ?_)
        · rw [if_pos c8] at h
          refine am_AW.run am_base_ok ok_M_areCountsSo (Nat.le_add_left 1 d) 2 (pc1 := 42) (ls1 := [some (.ref 63), some (.int x1), some (.int x2), some (.int x3), some (.int x4)]) (st1 := [.int (1 : Int32)]) (σ1 := (S0, q6.2)) rfl ?_
          exact am_AW.weak (f_M_areCountsSo_b42_ok hd (ih) x1 x2 x4 (1 : Int32)  h) (by simp only [am_le, and_self])
        · rw [if_neg c8] at h
          refine am_AW.run am_base_ok ok_M_areCountsSo (Nat.le_add_left 1 d) 1 (pc1 := 42) (ls1 := [some (.ref 63), some (.int x1), some (.int x2), some (.int x3), some (.int x4)]) (st1 := [.int (0 : Int32)]) (σ1 := (S0, q6.2)) rfl ?_
          exact am_AW.weak (f_M_areCountsSo_b42_ok hd (ih) x1 x2 x4 (0 : Int32)  h) (by simp only [am_le, and_self])
set_option maxHeartbeats 4000000 in
set_option maxRecDepth 100000 in
theorem f_M_areCountsSo_b5_ok {ro : am_Ro} {d : Nat} (hd : 6 ≤ d + 1) (x1 : Int32) (x2 : Int32) (x3 : Int32) (x4 : Int32) {m m' : am_Mm} {r : Int32} {n : Nat} (h : f_M_areCountsSo_b5 n x1 x2 x3 x4 m = some (r, m')) : am_AW am_nw ro (d + 1) mr_M_areCountsSo 5 [some (.ref 63), some (.int x1), some (.int x2), some (.int x3), some (.int x4)] [] (S0, m) (some (.int r)) (S0, m') :=
  f_M_areCountsSo_b5_all hd n x1 x2 x3 x4  m m' r h
set_option maxHeartbeats 4000000 in
set_option maxRecDepth 100000 in
theorem f_M_areCountsSo_ok {ro : am_Ro} {d : Nat} (hd : 6 ≤ d) (x1 : Int32) (x2 : Int32) {m m' : am_Mm} {r : Int32} (h : f_M_areCountsSo x1 x2 m = some (r, m')) : am_Mt am_nw ro d mr_M_areCountsSo [.ref 63, .int x1, .int x2] (S0, m) (some (.int r)) (S0, m') := by
  obtain ⟨d, rfl⟩ : ∃ d0, d = d0 + 1 := ⟨d - 1, by omega⟩
  refine am_Mt.of (by decide +kernel) (Nat.le_of_ble_eq_true rfl) ?_
  change am_AW am_nw ro (d + 1) mr_M_areCountsSo 0 [some (.ref 63), some (.int x1), some (.int x2), none, none] [] (S0, m) (some (.int r)) (S0, m')
  unfold f_M_areCountsSo at h
  refine am_AW.run am_base_ok ok_M_areCountsSo (Nat.le_add_left 1 d) 4 (pc1 := 5) (ls1 := [some (.ref 63), some (.int x1), some (.int x2), some (.int (1 : Int32)), some (.int (0 : Int32))]) (st1 := []) (σ1 := (S0, m)) rfl ?_
  exact am_AW.weak (f_M_areCountsSo_b5_ok hd x1 x2 (1 : Int32) (0 : Int32)  h) (by simp only [am_le, and_self])
/-! FriezePolygonsModel.lentSize(I)I -/
def f_M_lentSize (x1 : Int32) (m : am_Mm) : Option (Int32 × am_Mm) :=
  (f_M_began (10 : Int32) m).bind fun q3 =>
  (f_M_countOf 67 x1 q3).bind fun q6 =>
  some (q6.1, q6.2)
set_option maxHeartbeats 4000000 in
set_option maxRecDepth 100000 in
theorem f_M_lentSize_ok {ro : am_Ro} {d : Nat} (hd : 6 ≤ d) (x1 : Int32) {m m' : am_Mm} {r : Int32} (h : f_M_lentSize x1 m = some (r, m')) : am_Mt am_nw ro d mr_M_lentSize [.ref 63, .int x1] (S0, m) (some (.int r)) (S0, m') := by
  obtain ⟨d, rfl⟩ : ∃ d0, d = d0 + 1 := ⟨d - 1, by omega⟩
  refine am_Mt.of (by decide +kernel) (Nat.le_of_ble_eq_true rfl) ?_
  change am_AW am_nw ro (d + 1) mr_M_lentSize 0 [some (.ref 63), some (.int x1)] [] (S0, m) (some (.int r)) (S0, m')
  unfold f_M_lentSize at h
  refine am_AW.run am_base_ok ok_M_lentSize (Nat.le_add_left 1 d) 2 (pc1 := 3) (ls1 := [some (.ref 63), some (.int x1)]) (st1 := [.int (10 : Int32), .ref 63]) (σ1 := (S0, m)) rfl ?_
  obtain ⟨q3, hq3, h⟩ := Option.bind_eq_some_iff.mp h
  refine am_AW.callV ok_M_lentSize am_nw_ok (As := [.int (10 : Int32)]) (rest := []) rfl rfl rfl oR_M_began lk_M_327 iM_M_began sE_M_began (qc := kq10) rfl rfl rfl rfl (Nat.le_of_ble_eq_true rfl) (f_M_began_ok (d := d) (by omega) (10 : Int32) hq3) ?_
  change am_AW am_nw ro (d + 1) mr_M_lentSize 6 [some (.ref 63), some (.int x1)] [] (S0, q3) (some (.int r)) (S0, m')
  refine am_AW.run am_base_ok ok_M_lentSize (Nat.le_add_left 1 d) 4 (pc1 := 12) (ls1 := [some (.ref 63), some (.int x1)]) (st1 := [.int x1, .ref 67, .ref 63]) (σ1 := (S0, q3)) rfl ?_
  obtain ⟨q6, hq6, h⟩ := Option.bind_eq_some_iff.mp h
  refine am_AW.callV ok_M_lentSize am_nw_ok (As := [.ref 67, .int x1]) (rest := []) rfl rfl rfl oR_M_countOf lk_M_236 iM_M_countOf sE_M_countOf (qc := kq10) rfl rfl rfl rfl (Nat.le_of_ble_eq_true rfl) (f_M_countOf_ok (d := d) (by omega) 67 x1 (by simp) hq6) ?_
  change am_AW am_nw ro (d + 1) mr_M_lentSize 15 [some (.ref 63), some (.int x1)] [.int q6.1] (S0, q6.2) (some (.int r)) (S0, m')
  obtain ⟨rfl, rfl⟩ := Prod.mk.inj (Option.some.inj h)
  exact am_AW.ret ok_M_lentSize rfl rfl rfl rfl
/-! FriezePolygonsModel.count(I)I -/
def f_M_count_b63 (k42 : Int32 → Int32 → am_Mm → Option (Int32 × am_Mm)) (x3 : Int32) (s0 : Int32) (s1 : Int32) (m : am_Mm) : Option (Int32 × am_Mm) :=
  k42 (s0 + s1) (x3 + (1 : Int32)) m
def f_M_count_b42 : Nat → Int32 → Int32 → am_Mm → Option (Int32 × am_Mm)
  | 0, _, _, _ => none
  | n + 1, x2, x3, m =>
    if (8 : Int32) ≤ x3 then
      some (x2, m)
    else
      if am_in x3 8 = true then
        if (m.1 64 x3.toNatClampNeg) < (0 : Int32) then
          f_M_count_b63 (f_M_count_b42 n) x3 x2 (0 : Int32) m
        else
          f_M_count_b63 (f_M_count_b42 n) x3 x2 (1 : Int32) m
      else none
def f_M_count_b92 : Nat → Int32 → Int32 → am_Mm → Option (Int32 × am_Mm)
  | 0, _, _, _ => none
  | n + 1, x2, x3, m =>
    if (m.1 67 0) ≤ x3 then
      some (x2, m)
    else
      (f_M_countOf 67 x3 m).bind fun q17 =>
      f_M_count_b92 n (x2 + q17.1) (x3 + (1 : Int32)) q17.2
def f_M_count (x1 : Int32) (m : am_Mm) : Option (Int32 × am_Mm) :=
  if x1 = (0 : Int32) then
    f_M_count_b42 am_F (0 : Int32) (0 : Int32) m
  else
    if x1 = (1 : Int32) then
      some ((m.1 67 0), m)
    else
      if x1 = (2 : Int32) then
        (f_M_sizeOf (m.1 67 1) m).bind fun q11 =>
        some (q11.1, q11.2)
      else
        if x1 = (3 : Int32) then
          f_M_count_b92 am_F (0 : Int32) (0 : Int32) m
        else
          if x1 = (4 : Int32) then
            some ((m.1 63 8), m)
          else
            if x1 = (5 : Int32) then
              some ((m.1 63 10), m)
            else
              some ((-1000001 : Int32), m)
set_option maxHeartbeats 4000000 in
set_option maxRecDepth 100000 in
theorem f_M_count_b63_ok {ro : am_Ro} {d : Nat} (hd : 6 ≤ d + 1) {k42 : Int32 → Int32 → am_Mm → Option (Int32 × am_Mm)} (hk42 : ∀ (x2 : Int32) (x3 : Int32) (m m' : am_Mm) (r : Int32), k42 x2 x3 m = some (r, m') → am_AW am_nw ro (d + 1) mr_M_count 42 [some (.ref 63), none, some (.int x2), some (.int x3)] [] (S0, m) (some (.int r)) (S0, m')) (x3 : Int32) (s0 : Int32) (s1 : Int32) {m m' : am_Mm} {r : Int32} (h : f_M_count_b63 k42 x3 s0 s1 m = some (r, m')) : am_AW am_nw ro (d + 1) mr_M_count 63 [some (.ref 63), none, none, some (.int x3)] [.int s1, .int s0] (S0, m) (some (.int r)) (S0, m') := by
  unfold f_M_count_b63 at h
  refine am_AW.run am_base_ok ok_M_count (Nat.le_add_left 1 d) 4 (pc1 := 42) (ls1 := [some (.ref 63), none, some (.int (s0 + s1)), some (.int (x3 + (1 : Int32)))]) (st1 := []) (σ1 := (S0, m)) rfl ?_
  exact am_AW.weak (hk42 (s0 + s1) (x3 + (1 : Int32))  _ _ _ h) (by simp only [am_le, and_self])
set_option maxHeartbeats 4000000 in
set_option maxRecDepth 100000 in
theorem f_M_count_b42_all {ro : am_Ro} {d : Nat} (hd : 6 ≤ d + 1) : ∀ (n : Nat) (x2 : Int32) (x3 : Int32) (m m' : am_Mm) (r : Int32), f_M_count_b42 n x2 x3 m = some (r, m') → am_AW am_nw ro (d + 1) mr_M_count 42 [some (.ref 63), none, some (.int x2), some (.int x3)] [] (S0, m) (some (.int r)) (S0, m') := by
  intro n
  induction n with
  | zero =>
    intro x2 x3 m m' r h
    rw [f_M_count_b42] at h
    cases h
  | succ n ih =>
    intro x2 x3 m m' r h
    rw [f_M_count_b42] at h
    refine am_AW.run am_base_ok ok_M_count (Nat.le_add_left 1 d) 2 (pc1 := 45) (ls1 := [some (.ref 63), none, some (.int x2), some (.int x3)]) (st1 := [.int (8 : Int32), .int x3]) (σ1 := (S0, m)) rfl ?_
    refine am_AW.brP ok_M_count rfl rfl am_c_ge (fun c2 => ?_) (fun c2 => ?_)
    · rw [if_pos c2] at h
      refine am_AW.run am_base_ok ok_M_count (Nat.le_add_left 1 d) 1 (pc1 := 72) (ls1 := [some (.ref 63), none, some (.int x2), some (.int x3)]) (st1 := [.int x2]) (σ1 := (S0, m)) rfl ?_
      obtain ⟨rfl, rfl⟩ := Prod.mk.inj (Option.some.inj h)
      exact am_AW.ret ok_M_count rfl rfl rfl rfl
    · rw [if_neg c2] at h
      refine am_AW.run am_base_ok ok_M_count (Nat.le_add_left 1 d) 4 (pc1 := 54) (ls1 := [some (.ref 63), none, some (.int x2), some (.int x3)]) (st1 := [.int x3, .ref 64, .int x2]) (σ1 := (S0, m)) rfl ?_
      by_cases g3 : am_in x3 8 = true
      rotate_left
      · rw [if_neg g3] at h
        cases h
      rw [if_pos g3] at h
      refine am_AW.iald ok_M_count (Nat.le_add_left 1 d) S0_len rfl rfl g3 ?_
      refine am_AW.brP ok_M_count rfl rfl am_c_lt (fun c4 => ?_) (fun c4 => ?_)
      · rw [if_pos c4] at h
        refine am_AW.run am_base_ok ok_M_count (Nat.le_add_left 1 d) 1 (pc1 := 63) (ls1 := [some (.ref 63), none, some (.int x2), some (.int x3)]) (st1 := [.int (0 : Int32), .int x2]) (σ1 := (S0, m)) rfl ?_
        exact am_AW.weak (f_M_count_b63_ok hd (ih) x3 x2 (0 : Int32)  h) (by simp only [am_le, and_self])
      · rw [if_neg c4] at h
        refine am_AW.run am_base_ok ok_M_count (Nat.le_add_left 1 d) 2 (pc1 := 63) (ls1 := [some (.ref 63), none, some (.int x2), some (.int x3)]) (st1 := [.int (1 : Int32), .int x2]) (σ1 := (S0, m)) rfl ?_
        exact am_AW.weak (f_M_count_b63_ok hd (ih) x3 x2 (1 : Int32)  h) (by simp only [am_le, and_self])
set_option maxHeartbeats 4000000 in
set_option maxRecDepth 100000 in
theorem f_M_count_b42_ok {ro : am_Ro} {d : Nat} (hd : 6 ≤ d + 1) (x2 : Int32) (x3 : Int32) {m m' : am_Mm} {r : Int32} {n : Nat} (h : f_M_count_b42 n x2 x3 m = some (r, m')) : am_AW am_nw ro (d + 1) mr_M_count 42 [some (.ref 63), none, some (.int x2), some (.int x3)] [] (S0, m) (some (.int r)) (S0, m') :=
  f_M_count_b42_all hd n x2 x3  m m' r h
set_option maxHeartbeats 4000000 in
set_option maxRecDepth 100000 in
theorem f_M_count_b92_all {ro : am_Ro} {d : Nat} (hd : 6 ≤ d + 1) : ∀ (n : Nat) (x2 : Int32) (x3 : Int32) (m m' : am_Mm) (r : Int32), f_M_count_b92 n x2 x3 m = some (r, m') → am_AW am_nw ro (d + 1) mr_M_count 92 [some (.ref 63), none, some (.int x2), some (.int x3)] [] (S0, m) (some (.int r)) (S0, m') := by
  intro n
  induction n with
  | zero =>
    intro x2 x3 m m' r h
    rw [f_M_count_b92] at h
    cases h
  | succ n ih =>
    intro x2 x3 m m' r h
    rw [f_M_count_b92] at h
    refine am_AW.run am_base_ok ok_M_count (Nat.le_add_left 1 d) 4 (pc1 := 98) (ls1 := [some (.ref 63), none, some (.int x2), some (.int x3)]) (st1 := [.int (0 : Int32), .ref 67, .int x3]) (σ1 := (S0, m)) rfl ?_
    refine am_AW.iald ok_M_count (Nat.le_add_left 1 d) S0_len rfl rfl (by decide) ?_
    change am_AW am_nw ro (d + 1) mr_M_count 99 [some (.ref 63), none, some (.int x2), some (.int x3)] [.int (m.1 67 0), .int x3] (S0, m) (some (.int r)) (S0, m')
    refine am_AW.brP ok_M_count rfl rfl am_c_ge (fun c14 => ?_) (fun c14 => ?_)
    · rw [if_pos c14] at h
      refine am_AW.run am_base_ok ok_M_count (Nat.le_add_left 1 d) 1 (pc1 := 121) (ls1 := [some (.ref 63), none, some (.int x2), some (.int x3)]) (st1 := [.int x2]) (σ1 := (S0, m)) rfl ?_
      obtain ⟨rfl, rfl⟩ := Prod.mk.inj (Option.some.inj h)
      exact am_AW.ret ok_M_count rfl rfl rfl rfl
    · rw [if_neg c14] at h
      refine am_AW.run am_base_ok ok_M_count (Nat.le_add_left 1 d) 5 (pc1 := 109) (ls1 := [some (.ref 63), none, some (.int x2), some (.int x3)]) (st1 := [.int x3, .ref 67, .ref 63, .int x2]) (σ1 := (S0, m)) rfl ?_
      obtain ⟨q17, hq17, h⟩ := Option.bind_eq_some_iff.mp h
      refine am_AW.callV ok_M_count am_nw_ok (As := [.ref 67, .int x3]) (rest := [.int x2]) rfl rfl rfl oR_M_countOf lk_M_236 iM_M_countOf sE_M_countOf (qc := kq10) rfl rfl rfl rfl (Nat.le_of_ble_eq_true rfl) (f_M_countOf_ok (d := d) (by omega) 67 x3 (by simp) hq17) ?_
      change am_AW am_nw ro (d + 1) mr_M_count 112 [some (.ref 63), none, some (.int x2), some (.int x3)] [.int q17.1, .int x2] (S0, q17.2) (some (.int r)) (S0, m')
      refine am_AW.run am_base_ok ok_M_count (Nat.le_add_left 1 d) 4 (pc1 := 92) (ls1 := [some (.ref 63), none, some (.int (x2 + q17.1)), some (.int (x3 + (1 : Int32)))]) (st1 := []) (σ1 := (S0, q17.2)) rfl ?_
      exact am_AW.weak (ih (x2 + q17.1) (x3 + (1 : Int32))  _ _ _ h) (by simp only [am_le, and_self])
set_option maxHeartbeats 4000000 in
set_option maxRecDepth 100000 in
theorem f_M_count_b92_ok {ro : am_Ro} {d : Nat} (hd : 6 ≤ d + 1) (x2 : Int32) (x3 : Int32) {m m' : am_Mm} {r : Int32} {n : Nat} (h : f_M_count_b92 n x2 x3 m = some (r, m')) : am_AW am_nw ro (d + 1) mr_M_count 92 [some (.ref 63), none, some (.int x2), some (.int x3)] [] (S0, m) (some (.int r)) (S0, m') :=
  f_M_count_b92_all hd n x2 x3  m m' r h
set_option maxHeartbeats 4000000 in
set_option maxRecDepth 100000 in
theorem f_M_count_ok {ro : am_Ro} {d : Nat} (hd : 6 ≤ d) (x1 : Int32) {m m' : am_Mm} {r : Int32} (h : f_M_count x1 m = some (r, m')) : am_Mt am_nw ro d mr_M_count [.ref 63, .int x1] (S0, m) (some (.int r)) (S0, m') := by
  obtain ⟨d, rfl⟩ : ∃ d0, d = d0 + 1 := ⟨d - 1, by omega⟩
  refine am_Mt.of (by decide +kernel) (Nat.le_of_ble_eq_true rfl) ?_
  change am_AW am_nw ro (d + 1) mr_M_count 0 [some (.ref 63), some (.int x1), none, none] [] (S0, m) (some (.int r)) (S0, m')
  unfold f_M_count at h
  refine am_AW.run am_base_ok ok_M_count (Nat.le_add_left 1 d) 3 (pc1 := 3) (ls1 := [some (.ref 63), some (.int x1), some (.int (0 : Int32)), none]) (st1 := [.int x1]) (σ1 := (S0, m)) rfl ?_
  by_cases c1 : x1 = (0 : Int32)
  · rw [if_pos c1] at h
    refine am_AW.sw ok_M_count rfl (t := 40) (by rw [c1]; decide +kernel) ?_
    refine am_AW.run am_base_ok ok_M_count (Nat.le_add_left 1 d) 2 (pc1 := 42) (ls1 := [some (.ref 63), some (.int x1), some (.int (0 : Int32)), some (.int (0 : Int32))]) (st1 := []) (σ1 := (S0, m)) rfl ?_
    exact am_AW.weak (f_M_count_b42_ok hd (0 : Int32) (0 : Int32)  h) (by simp only [am_le, and_self])
  rw [if_neg c1] at h
  by_cases c5 : x1 = (1 : Int32)
  · rw [if_pos c5] at h
    refine am_AW.sw ok_M_count rfl (t := 73) (by rw [c5]; decide +kernel) ?_
    refine am_AW.run am_base_ok ok_M_count (Nat.le_add_left 1 d) 3 (pc1 := 78) (ls1 := [some (.ref 63), some (.int x1), some (.int (0 : Int32)), none]) (st1 := [.int (0 : Int32), .ref 67]) (σ1 := (S0, m)) rfl ?_
    refine am_AW.iald ok_M_count (Nat.le_add_left 1 d) S0_len rfl rfl (by decide) ?_
    change am_AW am_nw ro (d + 1) mr_M_count 79 [some (.ref 63), some (.int x1), some (.int (0 : Int32)), none] [.int (m.1 67 0)] (S0, m) (some (.int r)) (S0, m')
    obtain ⟨rfl, rfl⟩ := Prod.mk.inj (Option.some.inj h)
    exact am_AW.ret ok_M_count rfl rfl rfl rfl
  rw [if_neg c5] at h
  by_cases c7 : x1 = (2 : Int32)
  · rw [if_pos c7] at h
    refine am_AW.sw ok_M_count rfl (t := 80) (by rw [c7]; decide +kernel) ?_
    refine am_AW.run am_base_ok ok_M_count (Nat.le_add_left 1 d) 3 (pc1 := 85) (ls1 := [some (.ref 63), some (.int x1), some (.int (0 : Int32)), none]) (st1 := [.int (1 : Int32), .ref 67]) (σ1 := (S0, m)) rfl ?_
    refine am_AW.iald ok_M_count (Nat.le_add_left 1 d) S0_len rfl rfl (by decide) ?_
    change am_AW am_nw ro (d + 1) mr_M_count 86 [some (.ref 63), some (.int x1), some (.int (0 : Int32)), none] [.int (m.1 67 1)] (S0, m) (some (.int r)) (S0, m')
    obtain ⟨q11, hq11, h⟩ := Option.bind_eq_some_iff.mp h
    refine am_AW.callS ok_M_count am_nw_ok (As := [.int (m.1 67 1)]) (rest := []) rfl rfl rfl oR_M_sizeOf lk_M_198 sT_M_sizeOf rfl (Nat.le_of_ble_eq_true rfl) (f_M_sizeOf_ok (d := d) (by omega) (m.1 67 1) hq11) ?_
    change am_AW am_nw ro (d + 1) mr_M_count 89 [some (.ref 63), some (.int x1), some (.int (0 : Int32)), none] [.int q11.1] (S0, q11.2) (some (.int r)) (S0, m')
    obtain ⟨rfl, rfl⟩ := Prod.mk.inj (Option.some.inj h)
    exact am_AW.ret ok_M_count rfl rfl rfl rfl
  rw [if_neg c7] at h
  by_cases c12 : x1 = (3 : Int32)
  · rw [if_pos c12] at h
    refine am_AW.sw ok_M_count rfl (t := 90) (by rw [c12]; decide +kernel) ?_
    refine am_AW.run am_base_ok ok_M_count (Nat.le_add_left 1 d) 2 (pc1 := 92) (ls1 := [some (.ref 63), some (.int x1), some (.int (0 : Int32)), some (.int (0 : Int32))]) (st1 := []) (σ1 := (S0, m)) rfl ?_
    exact am_AW.weak (f_M_count_b92_ok hd (0 : Int32) (0 : Int32)  h) (by simp only [am_le, and_self])
  rw [if_neg c12] at h
  by_cases c18 : x1 = (4 : Int32)
  · rw [if_pos c18] at h
    refine am_AW.sw ok_M_count rfl (t := 122) (by rw [c18]; decide +kernel) ?_
    refine am_AW.run am_base_ok ok_M_count (Nat.le_add_left 1 d) 2 (pc1 := 126) (ls1 := [some (.ref 63), some (.int x1), some (.int (0 : Int32)), none]) (st1 := [.int (m.1 63 8)]) (σ1 := (S0, m)) rfl ?_
    obtain ⟨rfl, rfl⟩ := Prod.mk.inj (Option.some.inj h)
    exact am_AW.ret ok_M_count rfl rfl rfl rfl
  rw [if_neg c18] at h
  by_cases c19 : x1 = (5 : Int32)
  · rw [if_pos c19] at h
    refine am_AW.sw ok_M_count rfl (t := 127) (by rw [c19]; decide +kernel) ?_
    refine am_AW.run am_base_ok ok_M_count (Nat.le_add_left 1 d) 2 (pc1 := 131) (ls1 := [some (.ref 63), some (.int x1), some (.int (0 : Int32)), none]) (st1 := [.int (m.1 63 10)]) (σ1 := (S0, m)) rfl ?_
    obtain ⟨rfl, rfl⟩ := Prod.mk.inj (Option.some.inj h)
    exact am_AW.ret ok_M_count rfl rfl rfl rfl
  rw [if_neg c19] at h
  have o20 : (x1).toInt < 0 ∨ 5 < (x1).toInt := by
    have := lv_neT c1 (a := 0) (by decide)
    have := lv_neT c5 (a := 1) (by decide)
    have := lv_neT c7 (a := 2) (by decide)
    have := lv_neT c12 (a := 3) (by decide)
    have := lv_neT c18 (a := 4) (by decide)
    have := lv_neT c19 (a := 5) (by decide)
    omega
  refine am_AW.sw ok_M_count rfl (t := 132) (by simp only [am_sw, if_pos o20]; decide +kernel) ?_
  refine am_AW.run am_base_ok ok_M_count (Nat.le_add_left 1 d) 1 (pc1 := 134) (ls1 := [some (.ref 63), some (.int x1), some (.int (0 : Int32)), none]) (st1 := [.int (-1000001 : Int32)]) (σ1 := (S0, m)) rfl ?_
  obtain ⟨rfl, rfl⟩ := Prod.mk.inj (Option.some.inj h)
  exact am_AW.ret ok_M_count rfl rfl rfl rfl
/-! FriezePolygons.ask(II)I -/
def f_C_ask (x1 : Int32) (x2 : Int32) (m : am_Mm) : Option (Int32 × am_Mm) :=
  (f_C_isCorner x1 m).bind fun q3 =>
  if q3.1 = (0 : Int32) then
    some ((-1000001 : Int32), q3.2)
  else
    if x2 < (0 : Int32) then
      some ((-1000001 : Int32), q3.2)
    else
      if x2 ≤ (1 : Int32) then
        if am_in x1 9 = true then
          (f_Figure_countOf 13 x1 q3.2).bind fun q10 =>
          (f_Ring_cutsAt (q10.2.1 13 3) x1 q10.2).bind fun q13 =>
          (f_Asks_turnTo x1 (q3.2.1 14 x1.toNatClampNeg) q10.1 q13.1 q13.2).bind fun q16 =>
          if x2 = (0 : Int32) then
            (f_Asks_size q16).bind fun q20 =>
            some (q20.1, q20.2)
          else
            (f_Asks_mark q16).bind fun q23 =>
            some (q23.1, q23.2)
        else none
      else
        some ((-1000001 : Int32), q3.2)
set_option maxHeartbeats 4000000 in
set_option maxRecDepth 100000 in
theorem f_C_ask_ok {ro : am_Ro} {d : Nat} (hd : 7 ≤ d) (x1 : Int32) (x2 : Int32) {m m' : am_Mm} {r : Int32} (h : f_C_ask x1 x2 m = some (r, m')) : am_Mt am_nw ro d mr_C_ask [.ref 0, .int x1, .int x2] (S0, m) (some (.int r)) (S0, m') := by
  obtain ⟨d, rfl⟩ : ∃ d0, d = d0 + 1 := ⟨d - 1, by omega⟩
  refine am_Mt.of (by decide +kernel) (Nat.le_of_ble_eq_true rfl) ?_
  change am_AW am_nw ro (d + 1) mr_C_ask 0 [some (.ref 0), some (.int x1), some (.int x2)] [] (S0, m) (some (.int r)) (S0, m')
  unfold f_C_ask at h
  refine am_AW.run am_base_ok ok_C_ask (Nat.le_add_left 1 d) 2 (pc1 := 2) (ls1 := [some (.ref 0), some (.int x1), some (.int x2)]) (st1 := [.int x1, .ref 0]) (σ1 := (S0, m)) rfl ?_
  obtain ⟨q3, hq3, h⟩ := Option.bind_eq_some_iff.mp h
  refine am_AW.callV ok_C_ask am_nw_ok (As := [.int x1]) (rest := []) rfl rfl rfl oR_C_isCorner lk_C_201 iM_C_isCorner sE_C_isCorner (qc := kq9) rfl rfl rfl rfl (Nat.le_of_ble_eq_true rfl) (f_C_isCorner_ok (d := d) (by omega) x1 hq3) ?_
  change am_AW am_nw ro (d + 1) mr_C_ask 5 [some (.ref 0), some (.int x1), some (.int x2)] [.int q3.1] (S0, q3.2) (some (.int r)) (S0, m')
  refine am_AW.brP ok_C_ask rfl rfl am_c_eq (fun c4 => ?_) (fun c4 => ?_)
  · rw [if_pos c4] at h
    refine am_AW.run am_base_ok ok_C_ask (Nat.le_add_left 1 d) 1 (pc1 := 19) (ls1 := [some (.ref 0), some (.int x1), some (.int x2)]) (st1 := [.int (-1000001 : Int32)]) (σ1 := (S0, q3.2)) rfl ?_
    obtain ⟨rfl, rfl⟩ := Prod.mk.inj (Option.some.inj h)
    exact am_AW.ret ok_C_ask rfl rfl rfl rfl
  · rw [if_neg c4] at h
    refine am_AW.run am_base_ok ok_C_ask (Nat.le_add_left 1 d) 1 (pc1 := 9) (ls1 := [some (.ref 0), some (.int x1), some (.int x2)]) (st1 := [.int x2]) (σ1 := (S0, q3.2)) rfl ?_
    refine am_AW.brP ok_C_ask rfl rfl am_c_lt (fun c5 => ?_) (fun c5 => ?_)
    · rw [if_pos c5] at h
      refine am_AW.run am_base_ok ok_C_ask (Nat.le_add_left 1 d) 1 (pc1 := 19) (ls1 := [some (.ref 0), some (.int x1), some (.int x2)]) (st1 := [.int (-1000001 : Int32)]) (σ1 := (S0, q3.2)) rfl ?_
      obtain ⟨rfl, rfl⟩ := Prod.mk.inj (Option.some.inj h)
      exact am_AW.ret ok_C_ask rfl rfl rfl rfl
    · rw [if_neg c5] at h
      refine am_AW.run am_base_ok ok_C_ask (Nat.le_add_left 1 d) 2 (pc1 := 14) (ls1 := [some (.ref 0), some (.int x1), some (.int x2)]) (st1 := [.int (1 : Int32), .int x2]) (σ1 := (S0, q3.2)) rfl ?_
      refine am_AW.brP ok_C_ask rfl rfl am_c_le (fun c6 => ?_) (fun c6 => ?_)
      · rw [if_pos c6] at h
        refine am_AW.run am_base_ok ok_C_ask (Nat.le_add_left 1 d) 7 (pc1 := 33) (ls1 := [some (.ref 0), some (.int x1), some (.int x2)]) (st1 := [.int x1, .ref 14, .int x1, .ref 38]) (σ1 := (S0, q3.2)) rfl ?_
        by_cases g7 : am_in x1 9 = true
        rotate_left
        · rw [if_neg g7] at h
          cases h
        rw [if_pos g7] at h
        refine am_AW.iald ok_C_ask (Nat.le_add_left 1 d) S0_len rfl rfl g7 ?_
        refine am_AW.run am_base_ok ok_C_ask (Nat.le_add_left 1 d) 5 (pc1 := 43) (ls1 := [some (.ref 0), some (.int x1), some (.int x2)]) (st1 := [.ref 20, .int x1, .ref 13, .int (q3.2.1 14 x1.toNatClampNeg), .int x1, .ref 38]) (σ1 := (S0, q3.2)) rfl ?_
        obtain ⟨q10, hq10, h⟩ := Option.bind_eq_some_iff.mp h
        refine am_AW.callV ok_C_ask am_nw_ok (As := [.int x1, .ref 20]) (rest := [.int (q3.2.1 14 x1.toNatClampNeg), .int x1, .ref 38]) rfl rfl rfl oR_Figure_countOf lk_C_222 iM_Figure_countOf sE_Figure_countOf (qc := kq3) rfl rfl rfl rfl (Nat.le_of_ble_eq_true rfl) (f_Figure_countOf_ok (d := d) (by omega) 13 x1 (by simp) hq10) ?_
        change am_AW am_nw ro (d + 1) mr_C_ask 46 [some (.ref 0), some (.int x1), some (.int x2)] [.int q10.1, .int (q3.2.1 14 x1.toNatClampNeg), .int x1, .ref 38] (S0, q10.2) (some (.int r)) (S0, m')
        refine am_AW.run am_base_ok ok_C_ask (Nat.le_add_left 1 d) 6 (pc1 := 58) (ls1 := [some (.ref 0), some (.int x1), some (.int x2)]) (st1 := [.int x1, .int (q10.2.1 13 3), .ref 20, .int q10.1, .int (q3.2.1 14 x1.toNatClampNeg), .int x1, .ref 38]) (σ1 := (S0, q10.2)) rfl ?_
        obtain ⟨q13, hq13, h⟩ := Option.bind_eq_some_iff.mp h
        refine am_AW.callV ok_C_ask am_nw_ok (As := [.int (q10.2.1 13 3), .int x1]) (rest := [.int q10.1, .int (q3.2.1 14 x1.toNatClampNeg), .int x1, .ref 38]) rfl rfl rfl oR_Ring_cutsAt lk_C_226 iM_Ring_cutsAt sE_Ring_cutsAt (qc := kq6) rfl rfl rfl rfl (Nat.le_of_ble_eq_true rfl) (f_Ring_cutsAt_ok (d := d) (by omega) (q10.2.1 13 3) x1 hq13) ?_
        change am_AW am_nw ro (d + 1) mr_C_ask 61 [some (.ref 0), some (.int x1), some (.int x2)] [.int q13.1, .int q10.1, .int (q3.2.1 14 x1.toNatClampNeg), .int x1, .ref 38] (S0, q13.2) (some (.int r)) (S0, m')
        obtain ⟨q16, hq16, h⟩ := Option.bind_eq_some_iff.mp h
        refine am_AW.callV ok_C_ask am_nw_ok (As := [.int x1, .int (q3.2.1 14 x1.toNatClampNeg), .int q10.1, .int q13.1]) (rest := []) rfl rfl rfl oR_Asks_turnTo lk_C_323 iM_Asks_turnTo sE_Asks_turnTo (qc := kq1) rfl rfl rfl rfl (Nat.le_of_ble_eq_true rfl) (f_Asks_turnTo_ok (d := d) (by omega) x1 (q3.2.1 14 x1.toNatClampNeg) q10.1 q13.1 hq16) ?_
        change am_AW am_nw ro (d + 1) mr_C_ask 64 [some (.ref 0), some (.int x1), some (.int x2)] [] (S0, q16) (some (.int r)) (S0, m')
        refine am_AW.run am_base_ok ok_C_ask (Nat.le_add_left 1 d) 1 (pc1 := 65) (ls1 := [some (.ref 0), some (.int x1), some (.int x2)]) (st1 := [.int x2]) (σ1 := (S0, q16)) rfl ?_
        refine am_AW.brN ok_C_ask rfl rfl am_c_ne (fun c17 => ?_) (fun c17 => ?_)
        · rw [if_pos c17] at h
          refine am_AW.run am_base_ok ok_C_ask (Nat.le_add_left 1 d) 2 (pc1 := 72) (ls1 := [some (.ref 0), some (.int x1), some (.int x2)]) (st1 := [.ref 38]) (σ1 := (S0, q16)) rfl ?_
          obtain ⟨q20, hq20, h⟩ := Option.bind_eq_some_iff.mp h
          refine am_AW.callV ok_C_ask am_nw_ok (As := []) (rest := []) rfl rfl rfl oR_Asks_size lk_C_327 iM_Asks_size sE_Asks_size (qc := kq1) rfl rfl rfl rfl (Nat.le_of_ble_eq_true rfl) (f_Asks_size_ok (d := d) (by omega)  hq20) ?_
          change am_AW am_nw ro (d + 1) mr_C_ask 75 [some (.ref 0), some (.int x1), some (.int x2)] [.int q20.1] (S0, q20.2) (some (.int r)) (S0, m')
          refine am_AW.run am_base_ok ok_C_ask (Nat.le_add_left 1 d) 1 (pc1 := 85) (ls1 := [some (.ref 0), some (.int x1), some (.int x2)]) (st1 := [.int q20.1]) (σ1 := (S0, q20.2)) rfl ?_
          obtain ⟨rfl, rfl⟩ := Prod.mk.inj (Option.some.inj h)
          exact am_AW.ret ok_C_ask rfl rfl rfl rfl
        · rw [if_neg c17] at h
          refine am_AW.run am_base_ok ok_C_ask (Nat.le_add_left 1 d) 2 (pc1 := 82) (ls1 := [some (.ref 0), some (.int x1), some (.int x2)]) (st1 := [.ref 38]) (σ1 := (S0, q16)) rfl ?_
          obtain ⟨q23, hq23, h⟩ := Option.bind_eq_some_iff.mp h
          refine am_AW.callV ok_C_ask am_nw_ok (As := []) (rest := []) rfl rfl rfl oR_Asks_mark lk_C_330 iM_Asks_mark sE_Asks_mark (qc := kq1) rfl rfl rfl rfl (Nat.le_of_ble_eq_true rfl) (f_Asks_mark_ok (d := d) (by omega)  hq23) ?_
          change am_AW am_nw ro (d + 1) mr_C_ask 85 [some (.ref 0), some (.int x1), some (.int x2)] [.int q23.1] (S0, q23.2) (some (.int r)) (S0, m')
          obtain ⟨rfl, rfl⟩ := Prod.mk.inj (Option.some.inj h)
          exact am_AW.ret ok_C_ask rfl rfl rfl rfl
      · rw [if_neg c6] at h
        refine am_AW.run am_base_ok ok_C_ask (Nat.le_add_left 1 d) 1 (pc1 := 19) (ls1 := [some (.ref 0), some (.int x1), some (.int x2)]) (st1 := [.int (-1000001 : Int32)]) (σ1 := (S0, q3.2)) rfl ?_
        obtain ⟨rfl, rfl⟩ := Prod.mk.inj (Option.some.inj h)
        exact am_AW.ret ok_C_ask rfl rfl rfl rfl
/-! FriezePolygonsModel.frieze(II)J -/
def f_M_frieze_b20 (m : am_Mm) : Option (Int64 × am_Mm) :=
  some ((-1000001 : Int64), m)
def f_M_frieze (x1 : Int32) (x2 : Int32) (m : am_Mm) : Option (Int64 × am_Mm) :=
  (f_M_isCorner x1 m).bind fun q3 =>
  if q3.1 = (0 : Int32) then
    f_M_frieze_b20 q3.2
  else
    (f_M_in (x2.toInt64) (0 : Int64) (20 : Int64) q3.2).bind fun q7 =>
    if q7.1 = (0 : Int32) then
      f_M_frieze_b20 q7.2
    else
      (f_M_grown x1 x2 (am_pI q7.2 63 0 (0 : Int32))).bind fun q11 =>
      if (q11.2.1 63 19) = (0 : Int32) then
        some (q11.1, q11.2)
      else
        (f_M_finding (6 : Int32) q11.2).bind fun q15 =>
        some ((q15.1.toInt64), q15.2)
set_option maxHeartbeats 4000000 in
set_option maxRecDepth 100000 in
theorem f_M_frieze_b20_ok {ro : am_Ro} {d : Nat} (hd : 7 ≤ d + 1) {m m' : am_Mm} {r : Int64} (h : f_M_frieze_b20  m = some (r, m')) : am_AW am_nw ro (d + 1) mr_M_frieze 20 [none, none, none, none, none] [] (S0, m) (some (.long r)) (S0, m') := by
  unfold f_M_frieze_b20 at h
  refine am_AW.run am_base_ok ok_M_frieze (Nat.le_add_left 1 d) 1 (pc1 := 23) (ls1 := [none, none, none, none, none]) (st1 := [.long (-1000001 : Int64)]) (σ1 := (S0, m)) rfl ?_
  obtain ⟨rfl, rfl⟩ := Prod.mk.inj (Option.some.inj h)
  exact am_AW.ret ok_M_frieze rfl rfl rfl rfl
set_option maxHeartbeats 4000000 in
set_option maxRecDepth 100000 in
theorem f_M_frieze_ok {ro : am_Ro} {d : Nat} (hd : 7 ≤ d) (x1 : Int32) (x2 : Int32) {m m' : am_Mm} {r : Int64} (h : f_M_frieze x1 x2 m = some (r, m')) : am_Mt am_nw ro d mr_M_frieze [.ref 63, .int x1, .int x2] (S0, m) (some (.long r)) (S0, m') := by
  obtain ⟨d, rfl⟩ : ∃ d0, d = d0 + 1 := ⟨d - 1, by omega⟩
  refine am_Mt.of (by decide +kernel) (Nat.le_of_ble_eq_true rfl) ?_
  change am_AW am_nw ro (d + 1) mr_M_frieze 0 [some (.ref 63), some (.int x1), some (.int x2), none, none] [] (S0, m) (some (.long r)) (S0, m')
  unfold f_M_frieze at h
  refine am_AW.run am_base_ok ok_M_frieze (Nat.le_add_left 1 d) 2 (pc1 := 2) (ls1 := [some (.ref 63), some (.int x1), some (.int x2), none, none]) (st1 := [.int x1, .ref 63]) (σ1 := (S0, m)) rfl ?_
  obtain ⟨q3, hq3, h⟩ := Option.bind_eq_some_iff.mp h
  refine am_AW.callV ok_M_frieze am_nw_ok (As := [.int x1]) (rest := []) rfl rfl rfl oR_M_isCorner lk_M_192 iM_M_isCorner sE_M_isCorner (qc := kq10) rfl rfl rfl rfl (Nat.le_of_ble_eq_true rfl) (f_M_isCorner_ok (d := d) (by omega) x1 hq3) ?_
  change am_AW am_nw ro (d + 1) mr_M_frieze 5 [some (.ref 63), some (.int x1), some (.int x2), none, none] [.int q3.1] (S0, q3.2) (some (.long r)) (S0, m')
  refine am_AW.brP ok_M_frieze rfl rfl am_c_eq (fun c4 => ?_) (fun c4 => ?_)
  · rw [if_pos c4] at h
    exact am_AW.weak (f_M_frieze_b20_ok hd   h) (by simp only [am_le, and_self])
  · rw [if_neg c4] at h
    refine am_AW.run am_base_ok ok_M_frieze (Nat.le_add_left 1 d) 4 (pc1 := 14) (ls1 := [some (.ref 63), some (.int x1), some (.int x2), none, none]) (st1 := [.long (20 : Int64), .long (0 : Int64), .long (x2.toInt64)]) (σ1 := (S0, q3.2)) rfl ?_
    obtain ⟨q7, hq7, h⟩ := Option.bind_eq_some_iff.mp h
    refine am_AW.callS ok_M_frieze am_nw_ok (As := [.long (x2.toInt64), .long (0 : Int64), .long (20 : Int64)]) (rest := []) rfl rfl rfl oR_M_in lk_M_60 sT_M_in rfl (Nat.le_of_ble_eq_true rfl) (f_M_in_ok (d := d) (by omega) (x2.toInt64) (0 : Int64) (20 : Int64) hq7) ?_
    change am_AW am_nw ro (d + 1) mr_M_frieze 17 [some (.ref 63), some (.int x1), some (.int x2), none, none] [.int q7.1] (S0, q7.2) (some (.long r)) (S0, m')
    refine am_AW.brN ok_M_frieze rfl rfl am_c_ne (fun c8 => ?_) (fun c8 => ?_)
    · rw [if_pos c8] at h
      exact am_AW.weak (f_M_frieze_b20_ok hd   h) (by simp only [am_le, and_self])
    · rw [if_neg c8] at h
      refine am_AW.run am_base_ok ok_M_frieze (Nat.le_add_left 1 d) 2 (pc1 := 26) (ls1 := [some (.ref 63), some (.int x1), some (.int x2), none, none]) (st1 := [.int (0 : Int32), .ref 63]) (σ1 := (S0, q7.2)) rfl ?_
      refine am_AW.puti ok_M_frieze (Nat.le_add_left 1 d) rfl rfl rfl (qc := kq10) rfl (by decide) ty_10_0 ?_
      refine am_AW.run am_base_ok ok_M_frieze (Nat.le_add_left 1 d) 5 (pc1 := 36) (ls1 := [some (.ref 63), some (.int x1), some (.int x2), none, none]) (st1 := [.int x2, .int x1, .ref 67, .ref 63]) (σ1 := (S0, (am_pI q7.2 63 0 (0 : Int32)))) rfl ?_
      obtain ⟨q11, hq11, h⟩ := Option.bind_eq_some_iff.mp h
      refine am_AW.callV ok_M_frieze am_nw_ok (As := [.ref 67, .int x1, .int x2]) (rest := []) rfl rfl rfl oR_M_grown lk_M_247 iM_M_grown sE_M_grown (qc := kq10) rfl rfl rfl rfl (Nat.le_of_ble_eq_true rfl) (f_M_grown_ok (d := d) (by omega) x1 x2 hq11) ?_
      change am_AW am_nw ro (d + 1) mr_M_frieze 39 [some (.ref 63), some (.int x1), some (.int x2), none, none] [.long q11.1] (S0, q11.2) (some (.long r)) (S0, m')
      refine am_AW.run am_base_ok ok_M_frieze (Nat.le_add_left 1 d) 3 (pc1 := 44) (ls1 := [some (.ref 63), some (.int x1), some (.int x2), some (.long q11.1), none]) (st1 := [.int (q11.2.1 63 19)]) (σ1 := (S0, q11.2)) rfl ?_
      refine am_AW.brP ok_M_frieze rfl rfl am_c_eq (fun c12 => ?_) (fun c12 => ?_)
      · rw [if_pos c12] at h
        refine am_AW.run am_base_ok ok_M_frieze (Nat.le_add_left 1 d) 1 (pc1 := 58) (ls1 := [some (.ref 63), some (.int x1), some (.int x2), some (.long q11.1), none]) (st1 := [.long q11.1]) (σ1 := (S0, q11.2)) rfl ?_
        obtain ⟨rfl, rfl⟩ := Prod.mk.inj (Option.some.inj h)
        exact am_AW.ret ok_M_frieze rfl rfl rfl rfl
      · rw [if_neg c12] at h
        refine am_AW.run am_base_ok ok_M_frieze (Nat.le_add_left 1 d) 2 (pc1 := 50) (ls1 := [some (.ref 63), some (.int x1), some (.int x2), some (.long q11.1), none]) (st1 := [.int (6 : Int32), .ref 63]) (σ1 := (S0, q11.2)) rfl ?_
        obtain ⟨q15, hq15, h⟩ := Option.bind_eq_some_iff.mp h
        refine am_AW.callV ok_M_frieze am_nw_ok (As := [.int (6 : Int32)]) (rest := []) rfl rfl rfl oR_M_finding lk_M_71 iM_M_finding sE_M_finding (qc := kq10) rfl rfl rfl rfl (Nat.le_of_ble_eq_true rfl) (f_M_finding_ok (d := d) (by omega) (6 : Int32) hq15) ?_
        change am_AW am_nw ro (d + 1) mr_M_frieze 53 [some (.ref 63), some (.int x1), some (.int x2), some (.long q11.1), none] [.int q15.1] (S0, q15.2) (some (.long r)) (S0, m')
        refine am_AW.run am_base_ok ok_M_frieze (Nat.le_add_left 1 d) 2 (pc1 := 58) (ls1 := [some (.ref 63), some (.int x1), some (.int x2), some (.long q11.1), none]) (st1 := [.long (q15.1.toInt64)]) (σ1 := (S0, q15.2)) rfl ?_
        obtain ⟨rfl, rfl⟩ := Prod.mk.inj (Option.some.inj h)
        exact am_AW.ret ok_M_frieze rfl rfl rfl rfl
/-! FriezePolygonsModel.doesClose()Z -/
def f_M_doesClose_b57 (k11 : Int32 → Int32 → Int32 → am_Mm → Option (Int32 × am_Mm)) (x1 : Int32) (x3 : Int32) (s0 : Int32) (m : am_Mm) : Option (Int32 × am_Mm) :=
  k11 x1 s0 (x3 + (1 : Int32)) m
def f_M_doesClose_b11 : Nat → Int32 → Int32 → Int32 → am_Mm → Option (Int32 × am_Mm)
  | 0, _, _, _, _ => none
  | n + 1, x1, x2, x3, m =>
    if x1 ≤ x3 then
      if x2 = (0 : Int32) ∨ x2 = (1 : Int32) then
        some (x2, m)
      else none
    else
      if x2 = (0 : Int32) then
        f_M_doesClose_b57 (f_M_doesClose_b11 n) x1 x3 (0 : Int32) m
      else
        (f_M_grown x3 x1 m).bind fun q7 =>
        if (lg_cmp q7.1 (0 : Int64)) = (0 : Int32) then
          (f_M_grown x3 (x1 - (1 : Int32)) q7.2).bind fun q11 =>
          if (lg_cmp q11.1 (1 : Int64)) = (0 : Int32) then
            f_M_doesClose_b57 (f_M_doesClose_b11 n) x1 x3 (1 : Int32) q11.2
          else
            f_M_doesClose_b57 (f_M_doesClose_b11 n) x1 x3 (0 : Int32) q11.2
        else
          f_M_doesClose_b57 (f_M_doesClose_b11 n) x1 x3 (0 : Int32) q7.2
def f_M_doesClose (m : am_Mm) : Option (Int32 × am_Mm) :=
  f_M_doesClose_b11 am_F (m.1 67 0) (1 : Int32) (0 : Int32) m
set_option maxHeartbeats 4000000 in
set_option maxRecDepth 100000 in
theorem f_M_doesClose_b57_ok {ro : am_Ro} {d : Nat} (hd : 7 ≤ d + 1) {k11 : Int32 → Int32 → Int32 → am_Mm → Option (Int32 × am_Mm)} (hk11 : ∀ (x1 : Int32) (x2 : Int32) (x3 : Int32) (m m' : am_Mm) (r : Int32), k11 x1 x2 x3 m = some (r, m') → am_AW am_nw ro (d + 1) mr_M_doesClose 11 [some (.ref 63), some (.int x1), some (.int x2), some (.int x3)] [] (S0, m) (some (.int r)) (S0, m')) (x1 : Int32) (x3 : Int32) (s0 : Int32) {m m' : am_Mm} {r : Int32} (h : f_M_doesClose_b57 k11 x1 x3 s0 m = some (r, m')) : am_AW am_nw ro (d + 1) mr_M_doesClose 57 [some (.ref 63), some (.int x1), none, some (.int x3)] [.int s0] (S0, m) (some (.int r)) (S0, m') := by
  unfold f_M_doesClose_b57 at h
  refine am_AW.run am_base_ok ok_M_doesClose (Nat.le_add_left 1 d) 3 (pc1 := 11) (ls1 := [some (.ref 63), some (.int x1), some (.int s0), some (.int (x3 + (1 : Int32)))]) (st1 := []) (σ1 := (S0, m)) rfl ?_
  exact am_AW.weak (hk11 x1 s0 (x3 + (1 : Int32))  _ _ _ h) (by simp only [am_le, and_self])
set_option maxHeartbeats 4000000 in
set_option maxRecDepth 100000 in
theorem f_M_doesClose_b11_all {ro : am_Ro} {d : Nat} (hd : 7 ≤ d + 1) : ∀ (n : Nat) (x1 : Int32) (x2 : Int32) (x3 : Int32) (m m' : am_Mm) (r : Int32), f_M_doesClose_b11 n x1 x2 x3 m = some (r, m') → am_AW am_nw ro (d + 1) mr_M_doesClose 11 [some (.ref 63), some (.int x1), some (.int x2), some (.int x3)] [] (S0, m) (some (.int r)) (S0, m') := by
  intro n
  induction n with
  | zero =>
    intro x1 x2 x3 m m' r h
    rw [f_M_doesClose_b11] at h
    cases h
  | succ n ih =>
    intro x1 x2 x3 m m' r h
    rw [f_M_doesClose_b11] at h
    refine am_AW.run am_base_ok ok_M_doesClose (Nat.le_add_left 1 d) 2 (pc1 := 13) (ls1 := [some (.ref 63), some (.int x1), some (.int x2), some (.int x3)]) (st1 := [.int x1, .int x3]) (σ1 := (S0, m)) rfl ?_
    refine am_AW.brP ok_M_doesClose rfl rfl am_c_ge (fun c2 => ?_) (fun c2 => ?_)
    · rw [if_pos c2] at h
      refine am_AW.run am_base_ok ok_M_doesClose (Nat.le_add_left 1 d) 1 (pc1 := 65) (ls1 := [some (.ref 63), some (.int x1), some (.int x2), some (.int x3)]) (st1 := [.int x2]) (σ1 := (S0, m)) rfl ?_
      by_cases g3 : x2 = (0 : Int32) ∨ x2 = (1 : Int32)
      rotate_left
      · rw [if_neg g3] at h
        cases h
      rw [if_pos g3] at h
      obtain ⟨rfl, rfl⟩ := Prod.mk.inj (Option.some.inj h)
      exact am_AW.ret ok_M_doesClose rfl rfl rfl (am_rokZ g3)
    · rw [if_neg c2] at h
      refine am_AW.run am_base_ok ok_M_doesClose (Nat.le_add_left 1 d) 1 (pc1 := 17) (ls1 := [some (.ref 63), some (.int x1), some (.int x2), some (.int x3)]) (st1 := [.int x2]) (σ1 := (S0, m)) rfl ?_
      refine am_AW.brP ok_M_doesClose rfl rfl am_c_eq (fun c4 => ?_) (fun c4 => ?_)
      · rw [if_pos c4] at h
        refine am_AW.run am_base_ok ok_M_doesClose (Nat.le_add_left 1 d) 1 (pc1 := 57) (ls1 := [some (.ref 63), some (.int x1), some (.int x2), some (.int x3)]) (st1 := [.int (0 : Int32)]) (σ1 := (S0, m)) rfl ?_
        exact am_AW.weak (f_M_doesClose_b57_ok hd (ih) x1 x3 (0 : Int32)  h) (by simp only [am_le, and_self])
      · rw [if_neg c4] at h
        refine am_AW.run am_base_ok ok_M_doesClose (Nat.le_add_left 1 d) 5 (pc1 := 27) (ls1 := [some (.ref 63), some (.int x1), some (.int x2), some (.int x3)]) (st1 := [.int x1, .int x3, .ref 67, .ref 63]) (σ1 := (S0, m)) rfl ?_
        obtain ⟨q7, hq7, h⟩ := Option.bind_eq_some_iff.mp h
        refine am_AW.callV ok_M_doesClose am_nw_ok (As := [.ref 67, .int x3, .int x1]) (rest := []) rfl rfl rfl oR_M_grown lk_M_247 iM_M_grown sE_M_grown (qc := kq10) rfl rfl rfl rfl (Nat.le_of_ble_eq_true rfl) (f_M_grown_ok (d := d) (by omega) x3 x1 hq7) ?_
        change am_AW am_nw ro (d + 1) mr_M_doesClose 30 [some (.ref 63), some (.int x1), some (.int x2), some (.int x3)] [.long q7.1] (S0, q7.2) (some (.int r)) (S0, m')
        refine am_AW.run am_base_ok ok_M_doesClose (Nat.le_add_left 1 d) 2 (pc1 := 32) (ls1 := [some (.ref 63), some (.int x1), some (.int x2), some (.int x3)]) (st1 := [.int (lg_cmp q7.1 (0 : Int64))]) (σ1 := (S0, q7.2)) rfl ?_
        refine am_AW.brN ok_M_doesClose rfl rfl am_c_ne (fun c8 => ?_) (fun c8 => ?_)
        · rw [if_pos c8] at h
          refine am_AW.run am_base_ok ok_M_doesClose (Nat.le_add_left 1 d) 7 (pc1 := 44) (ls1 := [some (.ref 63), some (.int x1), some (.int x2), some (.int x3)]) (st1 := [.int (x1 - (1 : Int32)), .int x3, .ref 67, .ref 63]) (σ1 := (S0, q7.2)) rfl ?_
          obtain ⟨q11, hq11, h⟩ := Option.bind_eq_some_iff.mp h
          refine am_AW.callV ok_M_doesClose am_nw_ok (As := [.ref 67, .int x3, .int (x1 - (1 : Int32))]) (rest := []) rfl rfl rfl oR_M_grown lk_M_247 iM_M_grown sE_M_grown (qc := kq10) rfl rfl rfl rfl (Nat.le_of_ble_eq_true rfl) (f_M_grown_ok (d := d) (by omega) x3 (x1 - (1 : Int32)) hq11) ?_
          change am_AW am_nw ro (d + 1) mr_M_doesClose 47 [some (.ref 63), some (.int x1), some (.int x2), some (.int x3)] [.long q11.1] (S0, q11.2) (some (.int r)) (S0, m')
          refine am_AW.run am_base_ok ok_M_doesClose (Nat.le_add_left 1 d) 2 (pc1 := 49) (ls1 := [some (.ref 63), some (.int x1), some (.int x2), some (.int x3)]) (st1 := [.int (lg_cmp q11.1 (1 : Int64))]) (σ1 := (S0, q11.2)) rfl ?_
          refine am_AW.brN ok_M_doesClose rfl rfl am_c_ne (fun c12 => ?_) (fun c12 => ?_)
          · rw [if_pos c12] at h
            refine am_AW.run am_base_ok ok_M_doesClose (Nat.le_add_left 1 d) 2 (pc1 := 57) (ls1 := [some (.ref 63), some (.int x1), some (.int x2), some (.int x3)]) (st1 := [.int (1 : Int32)]) (σ1 := (S0, q11.2)) rfl ?_
            exact am_AW.weak (f_M_doesClose_b57_ok hd (ih) x1 x3 (1 : Int32)  h) (by simp only [am_le, and_self])
          · rw [if_neg c12] at h
            refine am_AW.run am_base_ok ok_M_doesClose (Nat.le_add_left 1 d) 1 (pc1 := 57) (ls1 := [some (.ref 63), some (.int x1), some (.int x2), some (.int x3)]) (st1 := [.int (0 : Int32)]) (σ1 := (S0, q11.2)) rfl ?_
            exact am_AW.weak (f_M_doesClose_b57_ok hd (ih) x1 x3 (0 : Int32)  h) (by simp only [am_le, and_self])
        · rw [if_neg c8] at h
          refine am_AW.run am_base_ok ok_M_doesClose (Nat.le_add_left 1 d) 1 (pc1 := 57) (ls1 := [some (.ref 63), some (.int x1), some (.int x2), some (.int x3)]) (st1 := [.int (0 : Int32)]) (σ1 := (S0, q7.2)) rfl ?_
          exact am_AW.weak (f_M_doesClose_b57_ok hd (ih) x1 x3 (0 : Int32)  h) (by simp only [am_le, and_self])
set_option maxHeartbeats 4000000 in
set_option maxRecDepth 100000 in
theorem f_M_doesClose_b11_ok {ro : am_Ro} {d : Nat} (hd : 7 ≤ d + 1) (x1 : Int32) (x2 : Int32) (x3 : Int32) {m m' : am_Mm} {r : Int32} {n : Nat} (h : f_M_doesClose_b11 n x1 x2 x3 m = some (r, m')) : am_AW am_nw ro (d + 1) mr_M_doesClose 11 [some (.ref 63), some (.int x1), some (.int x2), some (.int x3)] [] (S0, m) (some (.int r)) (S0, m') :=
  f_M_doesClose_b11_all hd n x1 x2 x3  m m' r h
set_option maxHeartbeats 4000000 in
set_option maxRecDepth 100000 in
theorem f_M_doesClose_ok {ro : am_Ro} {d : Nat} (hd : 7 ≤ d) {m m' : am_Mm} {r : Int32} (h : f_M_doesClose  m = some (r, m')) : am_Mt am_nw ro d mr_M_doesClose [.ref 63] (S0, m) (some (.int r)) (S0, m') := by
  obtain ⟨d, rfl⟩ : ∃ d0, d = d0 + 1 := ⟨d - 1, by omega⟩
  refine am_Mt.of (by decide +kernel) (Nat.le_of_ble_eq_true rfl) ?_
  change am_AW am_nw ro (d + 1) mr_M_doesClose 0 [some (.ref 63), none, none, none] [] (S0, m) (some (.int r)) (S0, m')
  unfold f_M_doesClose at h
  refine am_AW.run am_base_ok ok_M_doesClose (Nat.le_add_left 1 d) 3 (pc1 := 5) (ls1 := [some (.ref 63), none, none, none]) (st1 := [.int (0 : Int32), .ref 67]) (σ1 := (S0, m)) rfl ?_
  refine am_AW.iald ok_M_doesClose (Nat.le_add_left 1 d) S0_len rfl rfl (by decide) ?_
  change am_AW am_nw ro (d + 1) mr_M_doesClose 6 [some (.ref 63), none, none, none] [.int (m.1 67 0)] (S0, m) (some (.int r)) (S0, m')
  refine am_AW.run am_base_ok ok_M_doesClose (Nat.le_add_left 1 d) 5 (pc1 := 11) (ls1 := [some (.ref 63), some (.int (m.1 67 0)), some (.int (1 : Int32)), some (.int (0 : Int32))]) (st1 := []) (σ1 := (S0, m)) rfl ?_
  exact am_AW.weak (f_M_doesClose_b11_ok hd (m.1 67 0) (1 : Int32) (0 : Int32)  h) (by simp only [am_le, and_self])
/-! FriezePolygonsModel.with(Z)I -/
def f_M_with_b72 (k12 : Int32 → Int32 → Int32 → Int32 → am_Mm → Option (Int32 × am_Mm)) (k21 : Int32 → Int32 → Int32 → Int32 → Int32 → am_Mm → Option (Int32 × am_Mm)) (x1 : Int32) (x2 : Int32) (x4 : Int32) (x5 : Int32) (s0 : Int32) (s1 : Int32) (m : am_Mm) : Option (Int32 × am_Mm) :=
  k21 x1 x2 (s0 ||| s1) x4 (x5 + (1 : Int32)) m
def f_M_with_b64 (k12 : Int32 → Int32 → Int32 → Int32 → am_Mm → Option (Int32 × am_Mm)) (k21 : Int32 → Int32 → Int32 → Int32 → Int32 → am_Mm → Option (Int32 × am_Mm)) (x1 : Int32) (x2 : Int32) (x4 : Int32) (x5 : Int32) (s0 : Int32) (m : am_Mm) : Option (Int32 × am_Mm) :=
  f_M_with_b72 k12 k21 x1 x2 x4 x5 s0 (am_shl (1 : Int32) x4) m
def f_M_with_b53 (k12 : Int32 → Int32 → Int32 → Int32 → am_Mm → Option (Int32 × am_Mm)) (k21 : Int32 → Int32 → Int32 → Int32 → Int32 → am_Mm → Option (Int32 × am_Mm)) (x1 : Int32) (x2 : Int32) (x4 : Int32) (x5 : Int32) (x6 : Int64) (s0 : Int32) (m : am_Mm) : Option (Int32 × am_Mm) :=
  if x1 = (0 : Int32) then
    if (0 : Int32) ≤ (lg_cmp x6 (0 : Int64)) then
      f_M_with_b72 k12 k21 x1 x2 x4 x5 s0 (0 : Int32) m
    else
      f_M_with_b64 k12 k21 x1 x2 x4 x5 s0 m
  else
    f_M_with_b72 k12 k21 x1 x2 x4 x5 s0 (0 : Int32) m
def f_M_with_b21 (k12 : Int32 → Int32 → Int32 → Int32 → am_Mm → Option (Int32 × am_Mm)) : Nat → Int32 → Int32 → Int32 → Int32 → Int32 → am_Mm → Option (Int32 × am_Mm)
  | 0, _, _, _, _, _, _ => none
  | n + 1, x1, x2, x3, x4, x5, m =>
    if x2 ≤ x5 then
      k12 x1 x2 x3 (x4 + (1 : Int32)) m
    else
      (f_M_grown x4 x5 m).bind fun q6 =>
      if x1 = (0 : Int32) then
        f_M_with_b53 k12 (f_M_with_b21 k12 n) x1 x2 x4 x5 q6.1 x3 q6.2
      else
        if (lg_cmp q6.1 (0 : Int64)) = (0 : Int32) then
          f_M_with_b64 k12 (f_M_with_b21 k12 n) x1 x2 x4 x5 x3 q6.2
        else
          f_M_with_b53 k12 (f_M_with_b21 k12 n) x1 x2 x4 x5 q6.1 x3 q6.2
def f_M_with_b12 : Nat → Int32 → Int32 → Int32 → Int32 → am_Mm → Option (Int32 × am_Mm)
  | 0, _, _, _, _, _ => none
  | n + 1, x1, x2, x3, x4, m =>
    if x2 ≤ x4 then
      some (x3, m)
    else
      f_M_with_b21 (f_M_with_b12 n) am_F x1 x2 x3 x4 (1 : Int32) m
def f_M_with (x1 : Int32) (m : am_Mm) : Option (Int32 × am_Mm) :=
  f_M_with_b12 am_F x1 (m.1 67 0) (0 : Int32) (0 : Int32) m
set_option maxHeartbeats 4000000 in
set_option maxRecDepth 100000 in
theorem f_M_with_b72_ok {ro : am_Ro} {d : Nat} (hd : 7 ≤ d + 1) {k12 : Int32 → Int32 → Int32 → Int32 → am_Mm → Option (Int32 × am_Mm)} (hk12 : ∀ (x1 : Int32) (x2 : Int32) (x3 : Int32) (x4 : Int32) (m m' : am_Mm) (r : Int32), k12 x1 x2 x3 x4 m = some (r, m') → am_AW am_nw ro (d + 1) mr_M_with 12 [some (.ref 63), some (.int x1), some (.int x2), some (.int x3), some (.int x4), none, none, none] [] (S0, m) (some (.int r)) (S0, m')) {k21 : Int32 → Int32 → Int32 → Int32 → Int32 → am_Mm → Option (Int32 × am_Mm)} (hk21 : ∀ (x1 : Int32) (x2 : Int32) (x3 : Int32) (x4 : Int32) (x5 : Int32) (m m' : am_Mm) (r : Int32), k21 x1 x2 x3 x4 x5 m = some (r, m') → am_AW am_nw ro (d + 1) mr_M_with 21 [some (.ref 63), some (.int x1), some (.int x2), some (.int x3), some (.int x4), some (.int x5), none, none] [] (S0, m) (some (.int r)) (S0, m')) (x1 : Int32) (x2 : Int32) (x4 : Int32) (x5 : Int32) (s0 : Int32) (s1 : Int32) {m m' : am_Mm} {r : Int32} (h : f_M_with_b72 k12 k21 x1 x2 x4 x5 s0 s1 m = some (r, m')) : am_AW am_nw ro (d + 1) mr_M_with 72 [some (.ref 63), some (.int x1), some (.int x2), none, some (.int x4), some (.int x5), none, none] [.int s1, .int s0] (S0, m) (some (.int r)) (S0, m') := by
  unfold f_M_with_b72 at h
  refine am_AW.run am_base_ok ok_M_with (Nat.le_add_left 1 d) 4 (pc1 := 21) (ls1 := [some (.ref 63), some (.int x1), some (.int x2), some (.int (s0 ||| s1)), some (.int x4), some (.int (x5 + (1 : Int32))), none, none]) (st1 := []) (σ1 := (S0, m)) rfl ?_
  exact am_AW.weak (hk21 x1 x2 (s0 ||| s1) x4 (x5 + (1 : Int32))  _ _ _ h) (by simp only [am_le, and_self])
set_option maxHeartbeats 4000000 in
set_option maxRecDepth 100000 in
theorem f_M_with_b64_ok {ro : am_Ro} {d : Nat} (hd : 7 ≤ d + 1) {k12 : Int32 → Int32 → Int32 → Int32 → am_Mm → Option (Int32 × am_Mm)} (hk12 : ∀ (x1 : Int32) (x2 : Int32) (x3 : Int32) (x4 : Int32) (m m' : am_Mm) (r : Int32), k12 x1 x2 x3 x4 m = some (r, m') → am_AW am_nw ro (d + 1) mr_M_with 12 [some (.ref 63), some (.int x1), some (.int x2), some (.int x3), some (.int x4), none, none, none] [] (S0, m) (some (.int r)) (S0, m')) {k21 : Int32 → Int32 → Int32 → Int32 → Int32 → am_Mm → Option (Int32 × am_Mm)} (hk21 : ∀ (x1 : Int32) (x2 : Int32) (x3 : Int32) (x4 : Int32) (x5 : Int32) (m m' : am_Mm) (r : Int32), k21 x1 x2 x3 x4 x5 m = some (r, m') → am_AW am_nw ro (d + 1) mr_M_with 21 [some (.ref 63), some (.int x1), some (.int x2), some (.int x3), some (.int x4), some (.int x5), none, none] [] (S0, m) (some (.int r)) (S0, m')) (x1 : Int32) (x2 : Int32) (x4 : Int32) (x5 : Int32) (s0 : Int32) {m m' : am_Mm} {r : Int32} (h : f_M_with_b64 k12 k21 x1 x2 x4 x5 s0 m = some (r, m')) : am_AW am_nw ro (d + 1) mr_M_with 64 [some (.ref 63), some (.int x1), some (.int x2), none, some (.int x4), some (.int x5), none, none] [.int s0] (S0, m) (some (.int r)) (S0, m') := by
  unfold f_M_with_b64 at h
  refine am_AW.run am_base_ok ok_M_with (Nat.le_add_left 1 d) 4 (pc1 := 72) (ls1 := [some (.ref 63), some (.int x1), some (.int x2), none, some (.int x4), some (.int x5), none, none]) (st1 := [.int (am_shl (1 : Int32) x4), .int s0]) (σ1 := (S0, m)) rfl ?_
  exact am_AW.weak (f_M_with_b72_ok hd (hk12) (hk21) x1 x2 x4 x5 s0 (am_shl (1 : Int32) x4)  h) (by simp only [am_le, and_self])
set_option maxHeartbeats 4000000 in
set_option maxRecDepth 100000 in
theorem f_M_with_b53_ok {ro : am_Ro} {d : Nat} (hd : 7 ≤ d + 1) {k12 : Int32 → Int32 → Int32 → Int32 → am_Mm → Option (Int32 × am_Mm)} (hk12 : ∀ (x1 : Int32) (x2 : Int32) (x3 : Int32) (x4 : Int32) (m m' : am_Mm) (r : Int32), k12 x1 x2 x3 x4 m = some (r, m') → am_AW am_nw ro (d + 1) mr_M_with 12 [some (.ref 63), some (.int x1), some (.int x2), some (.int x3), some (.int x4), none, none, none] [] (S0, m) (some (.int r)) (S0, m')) {k21 : Int32 → Int32 → Int32 → Int32 → Int32 → am_Mm → Option (Int32 × am_Mm)} (hk21 : ∀ (x1 : Int32) (x2 : Int32) (x3 : Int32) (x4 : Int32) (x5 : Int32) (m m' : am_Mm) (r : Int32), k21 x1 x2 x3 x4 x5 m = some (r, m') → am_AW am_nw ro (d + 1) mr_M_with 21 [some (.ref 63), some (.int x1), some (.int x2), some (.int x3), some (.int x4), some (.int x5), none, none] [] (S0, m) (some (.int r)) (S0, m')) (x1 : Int32) (x2 : Int32) (x4 : Int32) (x5 : Int32) (x6 : Int64) (s0 : Int32) {m m' : am_Mm} {r : Int32} (h : f_M_with_b53 k12 k21 x1 x2 x4 x5 x6 s0 m = some (r, m')) : am_AW am_nw ro (d + 1) mr_M_with 53 [some (.ref 63), some (.int x1), some (.int x2), none, some (.int x4), some (.int x5), some (.long x6), none] [.int s0] (S0, m) (some (.int r)) (S0, m') := by
  unfold f_M_with_b53 at h
  refine am_AW.run am_base_ok ok_M_with (Nat.le_add_left 1 d) 1 (pc1 := 54) (ls1 := [some (.ref 63), some (.int x1), some (.int x2), none, some (.int x4), some (.int x5), some (.long x6), none]) (st1 := [.int x1, .int s0]) (σ1 := (S0, m)) rfl ?_
  refine am_AW.brN ok_M_with rfl rfl am_c_ne (fun c8 => ?_) (fun c8 => ?_)
  · rw [if_pos c8] at h
    refine am_AW.run am_base_ok ok_M_with (Nat.le_add_left 1 d) 3 (pc1 := 61) (ls1 := [some (.ref 63), some (.int x1), some (.int x2), none, some (.int x4), some (.int x5), some (.long x6), none]) (st1 := [.int (lg_cmp x6 (0 : Int64)), .int s0]) (σ1 := (S0, m)) rfl ?_
    refine am_AW.brP ok_M_with rfl rfl am_c_ge (fun c9 => ?_) (fun c9 => ?_)
    · rw [if_pos c9] at h
      refine am_AW.run am_base_ok ok_M_with (Nat.le_add_left 1 d) 1 (pc1 := 72) (ls1 := [some (.ref 63), some (.int x1), some (.int x2), none, some (.int x4), some (.int x5), some (.long x6), none]) (st1 := [.int (0 : Int32), .int s0]) (σ1 := (S0, m)) rfl ?_
      exact am_AW.weak (f_M_with_b72_ok hd (hk12) (hk21) x1 x2 x4 x5 s0 (0 : Int32)  h) (by simp only [am_le, and_self])
    · rw [if_neg c9] at h
      exact am_AW.weak (f_M_with_b64_ok hd (hk12) (hk21) x1 x2 x4 x5 s0  h) (by simp only [am_le, and_self])
  · rw [if_neg c8] at h
    refine am_AW.run am_base_ok ok_M_with (Nat.le_add_left 1 d) 1 (pc1 := 72) (ls1 := [some (.ref 63), some (.int x1), some (.int x2), none, some (.int x4), some (.int x5), some (.long x6), none]) (st1 := [.int (0 : Int32), .int s0]) (σ1 := (S0, m)) rfl ?_
    exact am_AW.weak (f_M_with_b72_ok hd (hk12) (hk21) x1 x2 x4 x5 s0 (0 : Int32)  h) (by simp only [am_le, and_self])
set_option maxHeartbeats 4000000 in
set_option maxRecDepth 100000 in
theorem f_M_with_b21_all {ro : am_Ro} {d : Nat} (hd : 7 ≤ d + 1) {k12 : Int32 → Int32 → Int32 → Int32 → am_Mm → Option (Int32 × am_Mm)} (hk12 : ∀ (x1 : Int32) (x2 : Int32) (x3 : Int32) (x4 : Int32) (m m' : am_Mm) (r : Int32), k12 x1 x2 x3 x4 m = some (r, m') → am_AW am_nw ro (d + 1) mr_M_with 12 [some (.ref 63), some (.int x1), some (.int x2), some (.int x3), some (.int x4), none, none, none] [] (S0, m) (some (.int r)) (S0, m')) : ∀ (n : Nat) (x1 : Int32) (x2 : Int32) (x3 : Int32) (x4 : Int32) (x5 : Int32) (m m' : am_Mm) (r : Int32), f_M_with_b21 k12 n x1 x2 x3 x4 x5 m = some (r, m') → am_AW am_nw ro (d + 1) mr_M_with 21 [some (.ref 63), some (.int x1), some (.int x2), some (.int x3), some (.int x4), some (.int x5), none, none] [] (S0, m) (some (.int r)) (S0, m') := by
  intro n
  induction n with
  | zero =>
    intro x1 x2 x3 x4 x5 m m' r h
    rw [f_M_with_b21] at h
    cases h
  | succ n ih =>
    intro x1 x2 x3 x4 x5 m m' r h
    rw [f_M_with_b21] at h
    refine am_AW.run am_base_ok ok_M_with (Nat.le_add_left 1 d) 2 (pc1 := 24) (ls1 := [some (.ref 63), some (.int x1), some (.int x2), some (.int x3), some (.int x4), some (.int x5), none, none]) (st1 := [.int x2, .int x5]) (σ1 := (S0, m)) rfl ?_
    refine am_AW.brP ok_M_with rfl rfl am_c_ge (fun c3 => ?_) (fun c3 => ?_)
    · rw [if_pos c3] at h
      refine am_AW.run am_base_ok ok_M_with (Nat.le_add_left 1 d) 2 (pc1 := 12) (ls1 := [some (.ref 63), some (.int x1), some (.int x2), some (.int x3), some (.int (x4 + (1 : Int32))), some (.int x5), none, none]) (st1 := []) (σ1 := (S0, m)) rfl ?_
      exact am_AW.weak (hk12 x1 x2 x3 (x4 + (1 : Int32))  _ _ _ h) (by simp only [am_le, and_self])
    · rw [if_neg c3] at h
      refine am_AW.run am_base_ok ok_M_with (Nat.le_add_left 1 d) 5 (pc1 := 36) (ls1 := [some (.ref 63), some (.int x1), some (.int x2), some (.int x3), some (.int x4), some (.int x5), none, none]) (st1 := [.int x5, .int x4, .ref 67, .ref 63]) (σ1 := (S0, m)) rfl ?_
      obtain ⟨q6, hq6, h⟩ := Option.bind_eq_some_iff.mp h
      refine am_AW.callV ok_M_with am_nw_ok (As := [.ref 67, .int x4, .int x5]) (rest := []) rfl rfl rfl oR_M_grown lk_M_247 iM_M_grown sE_M_grown (qc := kq10) rfl rfl rfl rfl (Nat.le_of_ble_eq_true rfl) (f_M_grown_ok (d := d) (by omega) x4 x5 hq6) ?_
      change am_AW am_nw ro (d + 1) mr_M_with 39 [some (.ref 63), some (.int x1), some (.int x2), some (.int x3), some (.int x4), some (.int x5), none, none] [.long q6.1] (S0, q6.2) (some (.int r)) (S0, m')
      refine am_AW.run am_base_ok ok_M_with (Nat.le_add_left 1 d) 3 (pc1 := 43) (ls1 := [some (.ref 63), some (.int x1), some (.int x2), some (.int x3), some (.int x4), some (.int x5), some (.long q6.1), none]) (st1 := [.int x1, .int x3]) (σ1 := (S0, q6.2)) rfl ?_
      refine am_AW.brP ok_M_with rfl rfl am_c_eq (fun c7 => ?_) (fun c7 => ?_)
      · rw [if_pos c7] at h
        exact am_AW.weak (f_M_with_b53_ok hd (hk12) (ih) x1 x2 x4 x5 q6.1 x3  h) (by simp only [am_le, and_self])
      · rw [if_neg c7] at h
        refine am_AW.run am_base_ok ok_M_with (Nat.le_add_left 1 d) 3 (pc1 := 50) (ls1 := [some (.ref 63), some (.int x1), some (.int x2), some (.int x3), some (.int x4), some (.int x5), some (.long q6.1), none]) (st1 := [.int (lg_cmp q6.1 (0 : Int64)), .int x3]) (σ1 := (S0, q6.2)) rfl ?_
        refine am_AW.brP ok_M_with rfl rfl am_c_eq (fun c10 => ?_) (fun c10 => ?_)
        · rw [if_pos c10] at h
          exact am_AW.weak (f_M_with_b64_ok hd (hk12) (ih) x1 x2 x4 x5 x3  h) (by simp only [am_le, and_self])
        · rw [if_neg c10] at h
          exact am_AW.weak (f_M_with_b53_ok hd (hk12) (ih) x1 x2 x4 x5 q6.1 x3  h) (by simp only [am_le, and_self])
set_option maxHeartbeats 4000000 in
set_option maxRecDepth 100000 in
theorem f_M_with_b21_ok {ro : am_Ro} {d : Nat} (hd : 7 ≤ d + 1) {k12 : Int32 → Int32 → Int32 → Int32 → am_Mm → Option (Int32 × am_Mm)} (hk12 : ∀ (x1 : Int32) (x2 : Int32) (x3 : Int32) (x4 : Int32) (m m' : am_Mm) (r : Int32), k12 x1 x2 x3 x4 m = some (r, m') → am_AW am_nw ro (d + 1) mr_M_with 12 [some (.ref 63), some (.int x1), some (.int x2), some (.int x3), some (.int x4), none, none, none] [] (S0, m) (some (.int r)) (S0, m')) (x1 : Int32) (x2 : Int32) (x3 : Int32) (x4 : Int32) (x5 : Int32) {m m' : am_Mm} {r : Int32} {n : Nat} (h : f_M_with_b21 k12 n x1 x2 x3 x4 x5 m = some (r, m')) : am_AW am_nw ro (d + 1) mr_M_with 21 [some (.ref 63), some (.int x1), some (.int x2), some (.int x3), some (.int x4), some (.int x5), none, none] [] (S0, m) (some (.int r)) (S0, m') :=
  f_M_with_b21_all hd hk12 n x1 x2 x3 x4 x5  m m' r h
set_option maxHeartbeats 4000000 in
set_option maxRecDepth 100000 in
theorem f_M_with_b12_all {ro : am_Ro} {d : Nat} (hd : 7 ≤ d + 1) : ∀ (n : Nat) (x1 : Int32) (x2 : Int32) (x3 : Int32) (x4 : Int32) (m m' : am_Mm) (r : Int32), f_M_with_b12 n x1 x2 x3 x4 m = some (r, m') → am_AW am_nw ro (d + 1) mr_M_with 12 [some (.ref 63), some (.int x1), some (.int x2), some (.int x3), some (.int x4), none, none, none] [] (S0, m) (some (.int r)) (S0, m') := by
  intro n
  induction n with
  | zero =>
    intro x1 x2 x3 x4 m m' r h
    rw [f_M_with_b12] at h
    cases h
  | succ n ih =>
    intro x1 x2 x3 x4 m m' r h
    rw [f_M_with_b12] at h
    refine am_AW.run am_base_ok ok_M_with (Nat.le_add_left 1 d) 2 (pc1 := 15) (ls1 := [some (.ref 63), some (.int x1), some (.int x2), some (.int x3), some (.int x4), none, none, none]) (st1 := [.int x2, .int x4]) (σ1 := (S0, m)) rfl ?_
    refine am_AW.brP ok_M_with rfl rfl am_c_ge (fun c2 => ?_) (fun c2 => ?_)
    · rw [if_pos c2] at h
      refine am_AW.run am_base_ok ok_M_with (Nat.le_add_left 1 d) 1 (pc1 := 87) (ls1 := [some (.ref 63), some (.int x1), some (.int x2), some (.int x3), some (.int x4), none, none, none]) (st1 := [.int x3]) (σ1 := (S0, m)) rfl ?_
      obtain ⟨rfl, rfl⟩ := Prod.mk.inj (Option.some.inj h)
      exact am_AW.ret ok_M_with rfl rfl rfl rfl
    · rw [if_neg c2] at h
      refine am_AW.run am_base_ok ok_M_with (Nat.le_add_left 1 d) 2 (pc1 := 21) (ls1 := [some (.ref 63), some (.int x1), some (.int x2), some (.int x3), some (.int x4), some (.int (1 : Int32)), none, none]) (st1 := []) (σ1 := (S0, m)) rfl ?_
      exact am_AW.weak (f_M_with_b21_ok hd (ih) x1 x2 x3 x4 (1 : Int32)  h) (by simp only [am_le, and_self])
set_option maxHeartbeats 4000000 in
set_option maxRecDepth 100000 in
theorem f_M_with_b12_ok {ro : am_Ro} {d : Nat} (hd : 7 ≤ d + 1) (x1 : Int32) (x2 : Int32) (x3 : Int32) (x4 : Int32) {m m' : am_Mm} {r : Int32} {n : Nat} (h : f_M_with_b12 n x1 x2 x3 x4 m = some (r, m')) : am_AW am_nw ro (d + 1) mr_M_with 12 [some (.ref 63), some (.int x1), some (.int x2), some (.int x3), some (.int x4), none, none, none] [] (S0, m) (some (.int r)) (S0, m') :=
  f_M_with_b12_all hd n x1 x2 x3 x4  m m' r h
set_option maxHeartbeats 4000000 in
set_option maxRecDepth 100000 in
theorem f_M_with_ok {ro : am_Ro} {d : Nat} (hd : 7 ≤ d) (x1 : Int32) {m m' : am_Mm} {r : Int32} (h : f_M_with x1 m = some (r, m')) : am_Mt am_nw ro d mr_M_with [.ref 63, .int x1] (S0, m) (some (.int r)) (S0, m') := by
  obtain ⟨d, rfl⟩ : ∃ d0, d = d0 + 1 := ⟨d - 1, by omega⟩
  refine am_Mt.of (by decide +kernel) (Nat.le_of_ble_eq_true rfl) ?_
  change am_AW am_nw ro (d + 1) mr_M_with 0 [some (.ref 63), some (.int x1), none, none, none, none, none, none] [] (S0, m) (some (.int r)) (S0, m')
  unfold f_M_with at h
  refine am_AW.run am_base_ok ok_M_with (Nat.le_add_left 1 d) 3 (pc1 := 5) (ls1 := [some (.ref 63), some (.int x1), none, none, none, none, none, none]) (st1 := [.int (0 : Int32), .ref 67]) (σ1 := (S0, m)) rfl ?_
  refine am_AW.iald ok_M_with (Nat.le_add_left 1 d) S0_len rfl rfl (by decide) ?_
  change am_AW am_nw ro (d + 1) mr_M_with 6 [some (.ref 63), some (.int x1), none, none, none, none, none, none] [.int (m.1 67 0)] (S0, m) (some (.int r)) (S0, m')
  refine am_AW.run am_base_ok ok_M_with (Nat.le_add_left 1 d) 5 (pc1 := 12) (ls1 := [some (.ref 63), some (.int x1), some (.int (m.1 67 0)), some (.int (0 : Int32)), some (.int (0 : Int32)), none, none, none]) (st1 := []) (σ1 := (S0, m)) rfl ?_
  exact am_AW.weak (f_M_with_b12_ok hd x1 (m.1 67 0) (0 : Int32) (0 : Int32)  h) (by simp only [am_le, and_self])
/-! FriezePolygonsModel.flips(I)I -/
def f_M_flips (x1 : Int32) (m : am_Mm) : Option (Int32 × am_Mm) :=
  (f_M_isThere m).bind fun q3 =>
  if q3.1 = (0 : Int32) then
    some ((-1000002 : Int32), q3.2)
  else
    (f_M_isRow x1 q3.2).bind fun q7 =>
    if q7.1 = (0 : Int32) then
      some ((-1000001 : Int32), q7.2)
    else
      (f_M_lacks x1 (0 : Int32) (q7.2.1 67 0) q7.2).bind fun q12 =>
      if q12.1 = (0 : Int32) then
        (f_M_readBack ((40 : Int32) * x1) q12.2).bind fun q16 =>
        if q16.1 = (-1000000 : Int32) then
          some ((-1000000 : Int32), q16.2)
        else
          (f_M_isTriangled q16.2).bind fun q20 =>
          if q20.1 = (0 : Int32) then
            some ((-1000000 : Int32), q20.2)
          else
            (f_M_flipsBetween q16.1 (q20.2.1 67 1) q20.2).bind fun q25 =>
            some (q25.1, q25.2)
      else
        some (q12.1, q12.2)
set_option maxHeartbeats 4000000 in
set_option maxRecDepth 100000 in
theorem f_M_flips_ok {ro : am_Ro} {d : Nat} (hd : 7 ≤ d) (x1 : Int32) {m m' : am_Mm} {r : Int32} (h : f_M_flips x1 m = some (r, m')) : am_Mt am_nw ro d mr_M_flips [.ref 63, .int x1] (S0, m) (some (.int r)) (S0, m') := by
  obtain ⟨d, rfl⟩ : ∃ d0, d = d0 + 1 := ⟨d - 1, by omega⟩
  refine am_Mt.of (by decide +kernel) (Nat.le_of_ble_eq_true rfl) ?_
  change am_AW am_nw ro (d + 1) mr_M_flips 0 [some (.ref 63), some (.int x1), none, none] [] (S0, m) (some (.int r)) (S0, m')
  unfold f_M_flips at h
  refine am_AW.run am_base_ok ok_M_flips (Nat.le_add_left 1 d) 1 (pc1 := 1) (ls1 := [some (.ref 63), some (.int x1), none, none]) (st1 := [.ref 63]) (σ1 := (S0, m)) rfl ?_
  obtain ⟨q3, hq3, h⟩ := Option.bind_eq_some_iff.mp h
  refine am_AW.callV ok_M_flips am_nw_ok (As := []) (rest := []) rfl rfl rfl oR_M_isThere lk_M_188 iM_M_isThere sE_M_isThere (qc := kq10) rfl rfl rfl rfl (Nat.le_of_ble_eq_true rfl) (f_M_isThere_ok (d := d) (by omega)  hq3) ?_
  change am_AW am_nw ro (d + 1) mr_M_flips 4 [some (.ref 63), some (.int x1), none, none] [.int q3.1] (S0, q3.2) (some (.int r)) (S0, m')
  refine am_AW.brN ok_M_flips rfl rfl am_c_ne (fun c4 => ?_) (fun c4 => ?_)
  · rw [if_pos c4] at h
    refine am_AW.run am_base_ok ok_M_flips (Nat.le_add_left 1 d) 1 (pc1 := 9) (ls1 := [some (.ref 63), some (.int x1), none, none]) (st1 := [.int (-1000002 : Int32)]) (σ1 := (S0, q3.2)) rfl ?_
    obtain ⟨rfl, rfl⟩ := Prod.mk.inj (Option.some.inj h)
    exact am_AW.ret ok_M_flips rfl rfl rfl rfl
  · rw [if_neg c4] at h
    refine am_AW.run am_base_ok ok_M_flips (Nat.le_add_left 1 d) 1 (pc1 := 11) (ls1 := [some (.ref 63), some (.int x1), none, none]) (st1 := [.int x1]) (σ1 := (S0, q3.2)) rfl ?_
    obtain ⟨q7, hq7, h⟩ := Option.bind_eq_some_iff.mp h
    refine am_AW.callS ok_M_flips am_nw_ok (As := [.int x1]) (rest := []) rfl rfl rfl oR_M_isRow lk_M_64 sT_M_isRow rfl (Nat.le_of_ble_eq_true rfl) (f_M_isRow_ok (d := d) (by omega) x1 hq7) ?_
    change am_AW am_nw ro (d + 1) mr_M_flips 14 [some (.ref 63), some (.int x1), none, none] [.int q7.1] (S0, q7.2) (some (.int r)) (S0, m')
    refine am_AW.brN ok_M_flips rfl rfl am_c_ne (fun c8 => ?_) (fun c8 => ?_)
    · rw [if_pos c8] at h
      refine am_AW.run am_base_ok ok_M_flips (Nat.le_add_left 1 d) 1 (pc1 := 19) (ls1 := [some (.ref 63), some (.int x1), none, none]) (st1 := [.int (-1000001 : Int32)]) (σ1 := (S0, q7.2)) rfl ?_
      obtain ⟨rfl, rfl⟩ := Prod.mk.inj (Option.some.inj h)
      exact am_AW.ret ok_M_flips rfl rfl rfl rfl
    · rw [if_neg c8] at h
      refine am_AW.run am_base_ok ok_M_flips (Nat.le_add_left 1 d) 6 (pc1 := 28) (ls1 := [some (.ref 63), some (.int x1), none, none]) (st1 := [.int (0 : Int32), .ref 67, .int (0 : Int32), .int x1, .ref 63]) (σ1 := (S0, q7.2)) rfl ?_
      refine am_AW.iald ok_M_flips (Nat.le_add_left 1 d) S0_len rfl rfl (by decide) ?_
      change am_AW am_nw ro (d + 1) mr_M_flips 29 [some (.ref 63), some (.int x1), none, none] [.int (q7.2.1 67 0), .int (0 : Int32), .int x1, .ref 63] (S0, q7.2) (some (.int r)) (S0, m')
      obtain ⟨q12, hq12, h⟩ := Option.bind_eq_some_iff.mp h
      refine am_AW.callV ok_M_flips am_nw_ok (As := [.int x1, .int (0 : Int32), .int (q7.2.1 67 0)]) (rest := []) rfl rfl rfl oR_M_lacks lk_M_222 iM_M_lacks sE_M_lacks (qc := kq10) rfl rfl rfl rfl (Nat.le_of_ble_eq_true rfl) (f_M_lacks_ok (d := d) (by omega) x1 (0 : Int32) (q7.2.1 67 0) hq12) ?_
      change am_AW am_nw ro (d + 1) mr_M_flips 32 [some (.ref 63), some (.int x1), none, none] [.int q12.1] (S0, q12.2) (some (.int r)) (S0, m')
      refine am_AW.run am_base_ok ok_M_flips (Nat.le_add_left 1 d) 2 (pc1 := 34) (ls1 := [some (.ref 63), some (.int x1), some (.int q12.1), none]) (st1 := [.int q12.1]) (σ1 := (S0, q12.2)) rfl ?_
      refine am_AW.brP ok_M_flips rfl rfl am_c_eq (fun c13 => ?_) (fun c13 => ?_)
      · rw [if_pos c13] at h
        refine am_AW.run am_base_ok ok_M_flips (Nat.le_add_left 1 d) 4 (pc1 := 44) (ls1 := [some (.ref 63), some (.int x1), some (.int q12.1), none]) (st1 := [.int ((40 : Int32) * x1), .ref 63]) (σ1 := (S0, q12.2)) rfl ?_
        obtain ⟨q16, hq16, h⟩ := Option.bind_eq_some_iff.mp h
        refine am_AW.callV ok_M_flips am_nw_ok (As := [.int ((40 : Int32) * x1)]) (rest := []) rfl rfl rfl oR_M_readBack lk_M_225 iM_M_readBack sE_M_readBack (qc := kq10) rfl rfl rfl rfl (Nat.le_of_ble_eq_true rfl) (f_M_readBack_ok (d := d) (by omega) ((40 : Int32) * x1) hq16) ?_
        change am_AW am_nw ro (d + 1) mr_M_flips 47 [some (.ref 63), some (.int x1), some (.int q12.1), none] [.int q16.1] (S0, q16.2) (some (.int r)) (S0, m')
        refine am_AW.run am_base_ok ok_M_flips (Nat.le_add_left 1 d) 3 (pc1 := 51) (ls1 := [some (.ref 63), some (.int x1), some (.int q12.1), some (.int q16.1)]) (st1 := [.int (-1000000 : Int32), .int q16.1]) (σ1 := (S0, q16.2)) rfl ?_
        refine am_AW.brP ok_M_flips rfl rfl am_c_eq (fun c17 => ?_) (fun c17 => ?_)
        · rw [if_pos c17] at h
          refine am_AW.run am_base_ok ok_M_flips (Nat.le_add_left 1 d) 2 (pc1 := 80) (ls1 := [some (.ref 63), some (.int x1), some (.int q12.1), some (.int q16.1)]) (st1 := [.int (-1000000 : Int32)]) (σ1 := (S0, q16.2)) rfl ?_
          obtain ⟨rfl, rfl⟩ := Prod.mk.inj (Option.some.inj h)
          exact am_AW.ret ok_M_flips rfl rfl rfl rfl
        · rw [if_neg c17] at h
          refine am_AW.run am_base_ok ok_M_flips (Nat.le_add_left 1 d) 2 (pc1 := 58) (ls1 := [some (.ref 63), some (.int x1), some (.int q12.1), some (.int q16.1)]) (st1 := [.ref 67]) (σ1 := (S0, q16.2)) rfl ?_
          obtain ⟨q20, hq20, h⟩ := Option.bind_eq_some_iff.mp h
          refine am_AW.callS ok_M_flips am_nw_ok (As := [.ref 67]) (rest := []) rfl rfl rfl oR_M_isTriangled lk_M_262 sT_M_isTriangled rfl (Nat.le_of_ble_eq_true rfl) (f_M_isTriangled_ok (d := d) (by omega)  hq20) ?_
          change am_AW am_nw ro (d + 1) mr_M_flips 61 [some (.ref 63), some (.int x1), some (.int q12.1), some (.int q16.1)] [.int q20.1] (S0, q20.2) (some (.int r)) (S0, m')
          refine am_AW.brN ok_M_flips rfl rfl am_c_ne (fun c21 => ?_) (fun c21 => ?_)
          · rw [if_pos c21] at h
            refine am_AW.run am_base_ok ok_M_flips (Nat.le_add_left 1 d) 2 (pc1 := 80) (ls1 := [some (.ref 63), some (.int x1), some (.int q12.1), some (.int q16.1)]) (st1 := [.int (-1000000 : Int32)]) (σ1 := (S0, q20.2)) rfl ?_
            obtain ⟨rfl, rfl⟩ := Prod.mk.inj (Option.some.inj h)
            exact am_AW.ret ok_M_flips rfl rfl rfl rfl
          · rw [if_neg c21] at h
            refine am_AW.run am_base_ok ok_M_flips (Nat.le_add_left 1 d) 5 (pc1 := 76) (ls1 := [some (.ref 63), some (.int x1), some (.int q12.1), some (.int q16.1)]) (st1 := [.int (1 : Int32), .ref 67, .int q16.1, .ref 63]) (σ1 := (S0, q20.2)) rfl ?_
            refine am_AW.iald ok_M_flips (Nat.le_add_left 1 d) S0_len rfl rfl (by decide) ?_
            change am_AW am_nw ro (d + 1) mr_M_flips 77 [some (.ref 63), some (.int x1), some (.int q12.1), some (.int q16.1)] [.int (q20.2.1 67 1), .int q16.1, .ref 63] (S0, q20.2) (some (.int r)) (S0, m')
            obtain ⟨q25, hq25, h⟩ := Option.bind_eq_some_iff.mp h
            refine am_AW.callV ok_M_flips am_nw_ok (As := [.int q16.1, .int (q20.2.1 67 1)]) (rest := []) rfl rfl rfl oR_M_flipsBetween lk_M_284 iM_M_flipsBetween sE_M_flipsBetween (qc := kq10) rfl rfl rfl rfl (Nat.le_of_ble_eq_true rfl) (f_M_flipsBetween_ok (d := d) (by omega) q16.1 (q20.2.1 67 1) hq25) ?_
            change am_AW am_nw ro (d + 1) mr_M_flips 80 [some (.ref 63), some (.int x1), some (.int q12.1), some (.int q16.1)] [.int q25.1] (S0, q25.2) (some (.int r)) (S0, m')
            obtain ⟨rfl, rfl⟩ := Prod.mk.inj (Option.some.inj h)
            exact am_AW.ret ok_M_flips rfl rfl rfl rfl
      · rw [if_neg c13] at h
        refine am_AW.run am_base_ok ok_M_flips (Nat.le_add_left 1 d) 1 (pc1 := 38) (ls1 := [some (.ref 63), some (.int x1), some (.int q12.1), none]) (st1 := [.int q12.1]) (σ1 := (S0, q12.2)) rfl ?_
        obtain ⟨rfl, rfl⟩ := Prod.mk.inj (Option.some.inj h)
        exact am_AW.ret ok_M_flips rfl rfl rfl rfl
/-! FriezePolygonsModel.fitting(IIII)I -/
def f_M_fitting_b128 (k45 : Int32 → Int32 → Int32 → Int32 → Int32 → Int32 → Int32 → am_Mm → Option (Int32 × am_Mm)) (x1 : Int32) (x2 : Int32) (x3 : Int32) (x4 : Int32) (x6 : Int32) (x7 : Int32) (s0 : Int32) (s1 : Int32) (m : am_Mm) : Option (Int32 × am_Mm) :=
  k45 x1 x2 x3 x4 (s0 ||| s1) x6 (x7 + (1 : Int32)) m
def f_M_fitting_b110 (k45 : Int32 → Int32 → Int32 → Int32 → Int32 → Int32 → Int32 → am_Mm → Option (Int32 × am_Mm)) (x1 : Int32) (x2 : Int32) (x3 : Int32) (x4 : Int32) (x6 : Int32) (x7 : Int32) (s0 : Int32) (m : am_Mm) : Option (Int32 × am_Mm) :=
  (f_M_areCountsSo x3 x4 m).bind fun q12 =>
  if q12.1 = (0 : Int32) then
    f_M_fitting_b128 k45 x1 x2 x3 x4 x6 x7 s0 (0 : Int32) q12.2
  else
    f_M_fitting_b128 k45 x1 x2 x3 x4 x6 x7 s0 (am_shl (1 : Int32) x7) q12.2
def f_M_fitting_b91 (k45 : Int32 → Int32 → Int32 → Int32 → Int32 → Int32 → Int32 → am_Mm → Option (Int32 × am_Mm)) (x1 : Int32) (x2 : Int32) (x3 : Int32) (x4 : Int32) (x5 : Int32) (x6 : Int32) (x7 : Int32) (m : am_Mm) : Option (Int32 × am_Mm) :=
  if x2 < (2 : Int32) then
    f_M_fitting_b110 k45 x1 x2 x3 x4 x6 x7 x5 m
  else
    (f_M_isFree 67 x7 m).bind fun q16 =>
    if q16.1 = (0 : Int32) then
      f_M_fitting_b128 k45 x1 x2 x3 x4 x6 x7 x5 (0 : Int32) q16.2
    else
      f_M_fitting_b110 k45 x1 x2 x3 x4 x6 x7 x5 q16.2
def f_M_fitting_b45 : Nat → Int32 → Int32 → Int32 → Int32 → Int32 → Int32 → Int32 → am_Mm → Option (Int32 × am_Mm)
  | 0, _, _, _, _, _, _, _, _ => none
  | n + 1, x1, x2, x3, x4, x5, x6, x7, m =>
    if x6 < x7 then
      some (x5, m)
    else
      (f_M_layThen m).bind fun q6 =>
      if (2 : Int32) ≤ x2 then
        f_M_fitting_b91 (f_M_fitting_b45 n) x1 x2 x3 x4 x5 x6 x7 (am_pI q6 69 1 ((q6.1 69 1) ||| (am_shl (1 : Int32) x7)))
      else
        if am_in (((2 : Int32) + ((2 : Int32) * x1)) + x2) 20 = true then
          f_M_fitting_b91 (f_M_fitting_b45 n) x1 x2 x3 x4 x5 x6 x7 (am_pI q6 69 (((2 : Int32) + ((2 : Int32) * x1)) + x2).toNatClampNeg x7)
        else none
def f_M_fitting_b43 (x1 : Int32) (x2 : Int32) (x3 : Int32) (x4 : Int32) (x5 : Int32) (x6 : Int32) (s0 : Int32) (m : am_Mm) : Option (Int32 × am_Mm) :=
  f_M_fitting_b45 am_F x1 x2 x3 x4 x5 x6 s0 m
def f_M_fitting_b32 (x1 : Int32) (x2 : Int32) (x3 : Int32) (x4 : Int32) (x5 : Int32) (s0 : Int32) (m : am_Mm) : Option (Int32 × am_Mm) :=
  if x2 = (0 : Int32) then
    f_M_fitting_b43 x1 x2 x3 x4 x5 s0 (1 : Int32) m
  else
    f_M_fitting_b43 x1 x2 x3 x4 x5 s0 (0 : Int32) m
def f_M_fitting (x1 : Int32) (x2 : Int32) (x3 : Int32) (x4 : Int32) (m : am_Mm) : Option (Int32 × am_Mm) :=
  if x2 = (0 : Int32) then
    f_M_fitting_b32 x1 x2 x3 x4 (0 : Int32) (5 : Int32) m
  else
    if x2 = (1 : Int32) then
      f_M_fitting_b32 x1 x2 x3 x4 (0 : Int32) (9 : Int32) m
    else
      (f_M_manyCuts (m.1 67 0) m).bind fun q23 =>
      f_M_fitting_b32 x1 x2 x3 x4 (0 : Int32) (q23.1 - (1 : Int32)) q23.2
set_option maxHeartbeats 4000000 in
set_option maxRecDepth 100000 in
theorem f_M_fitting_b128_ok {ro : am_Ro} {d : Nat} (hd : 7 ≤ d + 1) {k45 : Int32 → Int32 → Int32 → Int32 → Int32 → Int32 → Int32 → am_Mm → Option (Int32 × am_Mm)} (hk45 : ∀ (x1 : Int32) (x2 : Int32) (x3 : Int32) (x4 : Int32) (x5 : Int32) (x6 : Int32) (x7 : Int32) (m m' : am_Mm) (r : Int32), k45 x1 x2 x3 x4 x5 x6 x7 m = some (r, m') → am_AW am_nw ro (d + 1) mr_M_fitting 45 [some (.ref 63), some (.int x1), some (.int x2), some (.int x3), some (.int x4), some (.int x5), some (.int x6), some (.int x7)] [] (S0, m) (some (.int r)) (S0, m')) (x1 : Int32) (x2 : Int32) (x3 : Int32) (x4 : Int32) (x6 : Int32) (x7 : Int32) (s0 : Int32) (s1 : Int32) {m m' : am_Mm} {r : Int32} (h : f_M_fitting_b128 k45 x1 x2 x3 x4 x6 x7 s0 s1 m = some (r, m')) : am_AW am_nw ro (d + 1) mr_M_fitting 128 [some (.ref 63), some (.int x1), some (.int x2), some (.int x3), some (.int x4), none, some (.int x6), some (.int x7)] [.int s1, .int s0] (S0, m) (some (.int r)) (S0, m') := by
  unfold f_M_fitting_b128 at h
  refine am_AW.run am_base_ok ok_M_fitting (Nat.le_add_left 1 d) 4 (pc1 := 45) (ls1 := [some (.ref 63), some (.int x1), some (.int x2), some (.int x3), some (.int x4), some (.int (s0 ||| s1)), some (.int x6), some (.int (x7 + (1 : Int32)))]) (st1 := []) (σ1 := (S0, m)) rfl ?_
  exact am_AW.weak (hk45 x1 x2 x3 x4 (s0 ||| s1) x6 (x7 + (1 : Int32))  _ _ _ h) (by simp only [am_le, and_self])
set_option maxHeartbeats 4000000 in
set_option maxRecDepth 100000 in
theorem f_M_fitting_b110_ok {ro : am_Ro} {d : Nat} (hd : 7 ≤ d + 1) {k45 : Int32 → Int32 → Int32 → Int32 → Int32 → Int32 → Int32 → am_Mm → Option (Int32 × am_Mm)} (hk45 : ∀ (x1 : Int32) (x2 : Int32) (x3 : Int32) (x4 : Int32) (x5 : Int32) (x6 : Int32) (x7 : Int32) (m m' : am_Mm) (r : Int32), k45 x1 x2 x3 x4 x5 x6 x7 m = some (r, m') → am_AW am_nw ro (d + 1) mr_M_fitting 45 [some (.ref 63), some (.int x1), some (.int x2), some (.int x3), some (.int x4), some (.int x5), some (.int x6), some (.int x7)] [] (S0, m) (some (.int r)) (S0, m')) (x1 : Int32) (x2 : Int32) (x3 : Int32) (x4 : Int32) (x6 : Int32) (x7 : Int32) (s0 : Int32) {m m' : am_Mm} {r : Int32} (h : f_M_fitting_b110 k45 x1 x2 x3 x4 x6 x7 s0 m = some (r, m')) : am_AW am_nw ro (d + 1) mr_M_fitting 110 [some (.ref 63), some (.int x1), some (.int x2), some (.int x3), some (.int x4), none, some (.int x6), some (.int x7)] [.int s0] (S0, m) (some (.int r)) (S0, m') := by
  unfold f_M_fitting_b110 at h
  refine am_AW.run am_base_ok ok_M_fitting (Nat.le_add_left 1 d) 3 (pc1 := 114) (ls1 := [some (.ref 63), some (.int x1), some (.int x2), some (.int x3), some (.int x4), none, some (.int x6), some (.int x7)]) (st1 := [.int x4, .int x3, .ref 63, .int s0]) (σ1 := (S0, m)) rfl ?_
  obtain ⟨q12, hq12, h⟩ := Option.bind_eq_some_iff.mp h
  refine am_AW.callV ok_M_fitting am_nw_ok (As := [.int x3, .int x4]) (rest := [.int s0]) rfl rfl rfl oR_M_areCountsSo lk_M_294 iM_M_areCountsSo sE_M_areCountsSo (qc := kq10) rfl rfl rfl rfl (Nat.le_of_ble_eq_true rfl) (f_M_areCountsSo_ok (d := d) (by omega) x3 x4 hq12) ?_
  change am_AW am_nw ro (d + 1) mr_M_fitting 117 [some (.ref 63), some (.int x1), some (.int x2), some (.int x3), some (.int x4), none, some (.int x6), some (.int x7)] [.int q12.1, .int s0] (S0, q12.2) (some (.int r)) (S0, m')
  refine am_AW.brP ok_M_fitting rfl rfl am_c_eq (fun c13 => ?_) (fun c13 => ?_)
  · rw [if_pos c13] at h
    refine am_AW.run am_base_ok ok_M_fitting (Nat.le_add_left 1 d) 1 (pc1 := 128) (ls1 := [some (.ref 63), some (.int x1), some (.int x2), some (.int x3), some (.int x4), none, some (.int x6), some (.int x7)]) (st1 := [.int (0 : Int32), .int s0]) (σ1 := (S0, q12.2)) rfl ?_
    exact am_AW.weak (f_M_fitting_b128_ok hd (hk45) x1 x2 x3 x4 x6 x7 s0 (0 : Int32)  h) (by simp only [am_le, and_self])
  · rw [if_neg c13] at h
    refine am_AW.run am_base_ok ok_M_fitting (Nat.le_add_left 1 d) 4 (pc1 := 128) (ls1 := [some (.ref 63), some (.int x1), some (.int x2), some (.int x3), some (.int x4), none, some (.int x6), some (.int x7)]) (st1 := [.int (am_shl (1 : Int32) x7), .int s0]) (σ1 := (S0, q12.2)) rfl ?_
    exact am_AW.weak (f_M_fitting_b128_ok hd (hk45) x1 x2 x3 x4 x6 x7 s0 (am_shl (1 : Int32) x7)  h) (by simp only [am_le, and_self])
set_option maxHeartbeats 4000000 in
set_option maxRecDepth 100000 in
theorem f_M_fitting_b91_ok {ro : am_Ro} {d : Nat} (hd : 7 ≤ d + 1) {k45 : Int32 → Int32 → Int32 → Int32 → Int32 → Int32 → Int32 → am_Mm → Option (Int32 × am_Mm)} (hk45 : ∀ (x1 : Int32) (x2 : Int32) (x3 : Int32) (x4 : Int32) (x5 : Int32) (x6 : Int32) (x7 : Int32) (m m' : am_Mm) (r : Int32), k45 x1 x2 x3 x4 x5 x6 x7 m = some (r, m') → am_AW am_nw ro (d + 1) mr_M_fitting 45 [some (.ref 63), some (.int x1), some (.int x2), some (.int x3), some (.int x4), some (.int x5), some (.int x6), some (.int x7)] [] (S0, m) (some (.int r)) (S0, m')) (x1 : Int32) (x2 : Int32) (x3 : Int32) (x4 : Int32) (x5 : Int32) (x6 : Int32) (x7 : Int32) {m m' : am_Mm} {r : Int32} (h : f_M_fitting_b91 k45 x1 x2 x3 x4 x5 x6 x7 m = some (r, m')) : am_AW am_nw ro (d + 1) mr_M_fitting 91 [some (.ref 63), some (.int x1), some (.int x2), some (.int x3), some (.int x4), some (.int x5), some (.int x6), some (.int x7)] [] (S0, m) (some (.int r)) (S0, m') := by
  unfold f_M_fitting_b91 at h
  refine am_AW.run am_base_ok ok_M_fitting (Nat.le_add_left 1 d) 3 (pc1 := 95) (ls1 := [some (.ref 63), some (.int x1), some (.int x2), some (.int x3), some (.int x4), some (.int x5), some (.int x6), some (.int x7)]) (st1 := [.int (2 : Int32), .int x2, .int x5]) (σ1 := (S0, m)) rfl ?_
  refine am_AW.brP ok_M_fitting rfl rfl am_c_lt (fun c9 => ?_) (fun c9 => ?_)
  · rw [if_pos c9] at h
    exact am_AW.weak (f_M_fitting_b110_ok hd (hk45) x1 x2 x3 x4 x6 x7 x5  h) (by simp only [am_le, and_self])
  · rw [if_neg c9] at h
    refine am_AW.run am_base_ok ok_M_fitting (Nat.le_add_left 1 d) 3 (pc1 := 104) (ls1 := [some (.ref 63), some (.int x1), some (.int x2), some (.int x3), some (.int x4), some (.int x5), some (.int x6), some (.int x7)]) (st1 := [.int x7, .ref 67, .int x5]) (σ1 := (S0, m)) rfl ?_
    obtain ⟨q16, hq16, h⟩ := Option.bind_eq_some_iff.mp h
    refine am_AW.callS ok_M_fitting am_nw_ok (As := [.ref 67, .int x7]) (rest := [.int x5]) rfl rfl rfl oR_M_isFree lk_M_170 sT_M_isFree rfl (Nat.le_of_ble_eq_true rfl) (f_M_isFree_ok (d := d) (by omega) 67 x7 (by simp) hq16) ?_
    change am_AW am_nw ro (d + 1) mr_M_fitting 107 [some (.ref 63), some (.int x1), some (.int x2), some (.int x3), some (.int x4), some (.int x5), some (.int x6), some (.int x7)] [.int q16.1, .int x5] (S0, q16.2) (some (.int r)) (S0, m')
    refine am_AW.brP ok_M_fitting rfl rfl am_c_eq (fun c17 => ?_) (fun c17 => ?_)
    · rw [if_pos c17] at h
      refine am_AW.run am_base_ok ok_M_fitting (Nat.le_add_left 1 d) 1 (pc1 := 128) (ls1 := [some (.ref 63), some (.int x1), some (.int x2), some (.int x3), some (.int x4), some (.int x5), some (.int x6), some (.int x7)]) (st1 := [.int (0 : Int32), .int x5]) (σ1 := (S0, q16.2)) rfl ?_
      exact am_AW.weak (f_M_fitting_b128_ok hd (hk45) x1 x2 x3 x4 x6 x7 x5 (0 : Int32)  h) (by simp only [am_le, and_self])
    · rw [if_neg c17] at h
      exact am_AW.weak (f_M_fitting_b110_ok hd (hk45) x1 x2 x3 x4 x6 x7 x5  h) (by simp only [am_le, and_self])
set_option maxHeartbeats 4000000 in
set_option maxRecDepth 100000 in
theorem f_M_fitting_b45_all {ro : am_Ro} {d : Nat} (hd : 7 ≤ d + 1) : ∀ (n : Nat) (x1 : Int32) (x2 : Int32) (x3 : Int32) (x4 : Int32) (x5 : Int32) (x6 : Int32) (x7 : Int32) (m m' : am_Mm) (r : Int32), f_M_fitting_b45 n x1 x2 x3 x4 x5 x6 x7 m = some (r, m') → am_AW am_nw ro (d + 1) mr_M_fitting 45 [some (.ref 63), some (.int x1), some (.int x2), some (.int x3), some (.int x4), some (.int x5), some (.int x6), some (.int x7)] [] (S0, m) (some (.int r)) (S0, m') := by
  intro n
  induction n with
  | zero =>
    intro x1 x2 x3 x4 x5 x6 x7 m m' r h
    rw [f_M_fitting_b45] at h
    cases h
  | succ n ih =>
    intro x1 x2 x3 x4 x5 x6 x7 m m' r h
    rw [f_M_fitting_b45] at h
    refine am_AW.run am_base_ok ok_M_fitting (Nat.le_add_left 1 d) 2 (pc1 := 49) (ls1 := [some (.ref 63), some (.int x1), some (.int x2), some (.int x3), some (.int x4), some (.int x5), some (.int x6), some (.int x7)]) (st1 := [.int x6, .int x7]) (σ1 := (S0, m)) rfl ?_
    refine am_AW.brP ok_M_fitting rfl rfl am_c_gt (fun c3 => ?_) (fun c3 => ?_)
    · rw [if_pos c3] at h
      refine am_AW.run am_base_ok ok_M_fitting (Nat.le_add_left 1 d) 1 (pc1 := 139) (ls1 := [some (.ref 63), some (.int x1), some (.int x2), some (.int x3), some (.int x4), some (.int x5), some (.int x6), some (.int x7)]) (st1 := [.int x5]) (σ1 := (S0, m)) rfl ?_
      obtain ⟨rfl, rfl⟩ := Prod.mk.inj (Option.some.inj h)
      exact am_AW.ret ok_M_fitting rfl rfl rfl rfl
    · rw [if_neg c3] at h
      refine am_AW.run am_base_ok ok_M_fitting (Nat.le_add_left 1 d) 1 (pc1 := 53) (ls1 := [some (.ref 63), some (.int x1), some (.int x2), some (.int x3), some (.int x4), some (.int x5), some (.int x6), some (.int x7)]) (st1 := [.ref 63]) (σ1 := (S0, m)) rfl ?_
      obtain ⟨q6, hq6, h⟩ := Option.bind_eq_some_iff.mp h
      refine am_AW.callV ok_M_fitting am_nw_ok (As := []) (rest := []) rfl rfl rfl oR_M_layThen lk_M_291 iM_M_layThen sE_M_layThen (qc := kq10) rfl rfl rfl rfl (Nat.le_of_ble_eq_true rfl) (f_M_layThen_ok (d := d) (by omega)  hq6) ?_
      change am_AW am_nw ro (d + 1) mr_M_fitting 56 [some (.ref 63), some (.int x1), some (.int x2), some (.int x3), some (.int x4), some (.int x5), some (.int x6), some (.int x7)] [] (S0, q6) (some (.int r)) (S0, m')
      refine am_AW.run am_base_ok ok_M_fitting (Nat.le_add_left 1 d) 2 (pc1 := 58) (ls1 := [some (.ref 63), some (.int x1), some (.int x2), some (.int x3), some (.int x4), some (.int x5), some (.int x6), some (.int x7)]) (st1 := [.int (2 : Int32), .int x2]) (σ1 := (S0, q6)) rfl ?_
      refine am_AW.brP ok_M_fitting rfl rfl am_c_ge (fun c7 => ?_) (fun c7 => ?_)
      · rw [if_pos c7] at h
        refine am_AW.run am_base_ok ok_M_fitting (Nat.le_add_left 1 d) 4 (pc1 := 84) (ls1 := [some (.ref 63), some (.int x1), some (.int x2), some (.int x3), some (.int x4), some (.int x5), some (.int x6), some (.int x7)]) (st1 := [.int (1 : Int32), .ref 69, .int (1 : Int32), .ref 69]) (σ1 := (S0, q6)) rfl ?_
        refine am_AW.iald ok_M_fitting (Nat.le_add_left 1 d) S0_len rfl rfl (by decide) ?_
        change am_AW am_nw ro (d + 1) mr_M_fitting 85 [some (.ref 63), some (.int x1), some (.int x2), some (.int x3), some (.int x4), some (.int x5), some (.int x6), some (.int x7)] [.int (q6.1 69 1), .int (1 : Int32), .ref 69] (S0, q6) (some (.int r)) (S0, m')
        refine am_AW.run am_base_ok ok_M_fitting (Nat.le_add_left 1 d) 4 (pc1 := 90) (ls1 := [some (.ref 63), some (.int x1), some (.int x2), some (.int x3), some (.int x4), some (.int x5), some (.int x6), some (.int x7)]) (st1 := [.int ((q6.1 69 1) ||| (am_shl (1 : Int32) x7)), .int (1 : Int32), .ref 69]) (σ1 := (S0, q6)) rfl ?_
        refine am_AW.iast ok_M_fitting (Nat.le_add_left 1 d) rfl rfl (by decide) ?_
        change am_AW am_nw ro (d + 1) mr_M_fitting 91 [some (.ref 63), some (.int x1), some (.int x2), some (.int x3), some (.int x4), some (.int x5), some (.int x6), some (.int x7)] [] (S0, (am_pI q6 69 1 ((q6.1 69 1) ||| (am_shl (1 : Int32) x7)))) (some (.int r)) (S0, m')
        exact am_AW.weak (f_M_fitting_b91_ok hd (ih) x1 x2 x3 x4 x5 x6 x7  h) (by simp only [am_le, and_self])
      · rw [if_neg c7] at h
        refine am_AW.run am_base_ok ok_M_fitting (Nat.le_add_left 1 d) 10 (pc1 := 74) (ls1 := [some (.ref 63), some (.int x1), some (.int x2), some (.int x3), some (.int x4), some (.int x5), some (.int x6), some (.int x7)]) (st1 := [.int x7, .int (((2 : Int32) + ((2 : Int32) * x1)) + x2), .ref 69]) (σ1 := (S0, q6)) rfl ?_
        by_cases g18 : am_in (((2 : Int32) + ((2 : Int32) * x1)) + x2) 20 = true
        rotate_left
        · rw [if_neg g18] at h
          cases h
        rw [if_pos g18] at h
        refine am_AW.iast ok_M_fitting (Nat.le_add_left 1 d) rfl rfl g18 ?_
        change am_AW am_nw ro (d + 1) mr_M_fitting 75 [some (.ref 63), some (.int x1), some (.int x2), some (.int x3), some (.int x4), some (.int x5), some (.int x6), some (.int x7)] [] (S0, (am_pI q6 69 (((2 : Int32) + ((2 : Int32) * x1)) + x2).toNatClampNeg x7)) (some (.int r)) (S0, m')
        refine am_AW.run am_base_ok ok_M_fitting (Nat.le_add_left 1 d) 1 (pc1 := 91) (ls1 := [some (.ref 63), some (.int x1), some (.int x2), some (.int x3), some (.int x4), some (.int x5), some (.int x6), some (.int x7)]) (st1 := []) (σ1 := (S0, (am_pI q6 69 (((2 : Int32) + ((2 : Int32) * x1)) + x2).toNatClampNeg x7))) rfl ?_
        exact am_AW.weak (f_M_fitting_b91_ok hd (ih) x1 x2 x3 x4 x5 x6 x7  h) (by simp only [am_le, and_self])
set_option maxHeartbeats 4000000 in
set_option maxRecDepth 100000 in
theorem f_M_fitting_b45_ok {ro : am_Ro} {d : Nat} (hd : 7 ≤ d + 1) (x1 : Int32) (x2 : Int32) (x3 : Int32) (x4 : Int32) (x5 : Int32) (x6 : Int32) (x7 : Int32) {m m' : am_Mm} {r : Int32} {n : Nat} (h : f_M_fitting_b45 n x1 x2 x3 x4 x5 x6 x7 m = some (r, m')) : am_AW am_nw ro (d + 1) mr_M_fitting 45 [some (.ref 63), some (.int x1), some (.int x2), some (.int x3), some (.int x4), some (.int x5), some (.int x6), some (.int x7)] [] (S0, m) (some (.int r)) (S0, m') :=
  f_M_fitting_b45_all hd n x1 x2 x3 x4 x5 x6 x7  m m' r h
set_option maxHeartbeats 4000000 in
set_option maxRecDepth 100000 in
theorem f_M_fitting_b43_ok {ro : am_Ro} {d : Nat} (hd : 7 ≤ d + 1) (x1 : Int32) (x2 : Int32) (x3 : Int32) (x4 : Int32) (x5 : Int32) (x6 : Int32) (s0 : Int32) {m m' : am_Mm} {r : Int32} (h : f_M_fitting_b43 x1 x2 x3 x4 x5 x6 s0 m = some (r, m')) : am_AW am_nw ro (d + 1) mr_M_fitting 43 [some (.ref 63), some (.int x1), some (.int x2), some (.int x3), some (.int x4), some (.int x5), some (.int x6), none] [.int s0] (S0, m) (some (.int r)) (S0, m') := by
  unfold f_M_fitting_b43 at h
  refine am_AW.run am_base_ok ok_M_fitting (Nat.le_add_left 1 d) 1 (pc1 := 45) (ls1 := [some (.ref 63), some (.int x1), some (.int x2), some (.int x3), some (.int x4), some (.int x5), some (.int x6), some (.int s0)]) (st1 := []) (σ1 := (S0, m)) rfl ?_
  exact am_AW.weak (f_M_fitting_b45_ok hd x1 x2 x3 x4 x5 x6 s0  h) (by simp only [am_le, and_self])
set_option maxHeartbeats 4000000 in
set_option maxRecDepth 100000 in
theorem f_M_fitting_b32_ok {ro : am_Ro} {d : Nat} (hd : 7 ≤ d + 1) (x1 : Int32) (x2 : Int32) (x3 : Int32) (x4 : Int32) (x5 : Int32) (s0 : Int32) {m m' : am_Mm} {r : Int32} (h : f_M_fitting_b32 x1 x2 x3 x4 x5 s0 m = some (r, m')) : am_AW am_nw ro (d + 1) mr_M_fitting 32 [some (.ref 63), some (.int x1), some (.int x2), some (.int x3), some (.int x4), some (.int x5), none, none] [.int s0] (S0, m) (some (.int r)) (S0, m') := by
  unfold f_M_fitting_b32 at h
  refine am_AW.run am_base_ok ok_M_fitting (Nat.le_add_left 1 d) 2 (pc1 := 35) (ls1 := [some (.ref 63), some (.int x1), some (.int x2), some (.int x3), some (.int x4), some (.int x5), some (.int s0), none]) (st1 := [.int x2]) (σ1 := (S0, m)) rfl ?_
  refine am_AW.brN ok_M_fitting rfl rfl am_c_ne (fun c2 => ?_) (fun c2 => ?_)
  · rw [if_pos c2] at h
    refine am_AW.run am_base_ok ok_M_fitting (Nat.le_add_left 1 d) 2 (pc1 := 43) (ls1 := [some (.ref 63), some (.int x1), some (.int x2), some (.int x3), some (.int x4), some (.int x5), some (.int s0), none]) (st1 := [.int (1 : Int32)]) (σ1 := (S0, m)) rfl ?_
    exact am_AW.weak (f_M_fitting_b43_ok hd x1 x2 x3 x4 x5 s0 (1 : Int32)  h) (by simp only [am_le, and_self])
  · rw [if_neg c2] at h
    refine am_AW.run am_base_ok ok_M_fitting (Nat.le_add_left 1 d) 1 (pc1 := 43) (ls1 := [some (.ref 63), some (.int x1), some (.int x2), some (.int x3), some (.int x4), some (.int x5), some (.int s0), none]) (st1 := [.int (0 : Int32)]) (σ1 := (S0, m)) rfl ?_
    exact am_AW.weak (f_M_fitting_b43_ok hd x1 x2 x3 x4 x5 s0 (0 : Int32)  h) (by simp only [am_le, and_self])
set_option maxHeartbeats 4000000 in
set_option maxRecDepth 100000 in
theorem f_M_fitting_ok {ro : am_Ro} {d : Nat} (hd : 7 ≤ d) (x1 : Int32) (x2 : Int32) (x3 : Int32) (x4 : Int32) {m m' : am_Mm} {r : Int32} (h : f_M_fitting x1 x2 x3 x4 m = some (r, m')) : am_Mt am_nw ro d mr_M_fitting [.ref 63, .int x1, .int x2, .int x3, .int x4] (S0, m) (some (.int r)) (S0, m') := by
  obtain ⟨d, rfl⟩ : ∃ d0, d = d0 + 1 := ⟨d - 1, by omega⟩
  refine am_Mt.of (by decide +kernel) (Nat.le_of_ble_eq_true rfl) ?_
  change am_AW am_nw ro (d + 1) mr_M_fitting 0 [some (.ref 63), some (.int x1), some (.int x2), some (.int x3), some (.int x4), none, none, none] [] (S0, m) (some (.int r)) (S0, m')
  unfold f_M_fitting at h
  refine am_AW.run am_base_ok ok_M_fitting (Nat.le_add_left 1 d) 3 (pc1 := 4) (ls1 := [some (.ref 63), some (.int x1), some (.int x2), some (.int x3), some (.int x4), some (.int (0 : Int32)), none, none]) (st1 := [.int x2]) (σ1 := (S0, m)) rfl ?_
  refine am_AW.brN ok_M_fitting rfl rfl am_c_ne (fun c1 => ?_) (fun c1 => ?_)
  · rw [if_pos c1] at h
    refine am_AW.run am_base_ok ok_M_fitting (Nat.le_add_left 1 d) 2 (pc1 := 32) (ls1 := [some (.ref 63), some (.int x1), some (.int x2), some (.int x3), some (.int x4), some (.int (0 : Int32)), none, none]) (st1 := [.int (5 : Int32)]) (σ1 := (S0, m)) rfl ?_
    exact am_AW.weak (f_M_fitting_b32_ok hd x1 x2 x3 x4 (0 : Int32) (5 : Int32)  h) (by simp only [am_le, and_self])
  · rw [if_neg c1] at h
    refine am_AW.run am_base_ok ok_M_fitting (Nat.le_add_left 1 d) 2 (pc1 := 13) (ls1 := [some (.ref 63), some (.int x1), some (.int x2), some (.int x3), some (.int x4), some (.int (0 : Int32)), none, none]) (st1 := [.int (1 : Int32), .int x2]) (σ1 := (S0, m)) rfl ?_
    refine am_AW.brN ok_M_fitting rfl rfl am_c_ne (fun c19 => ?_) (fun c19 => ?_)
    · rw [if_pos c19] at h
      refine am_AW.run am_base_ok ok_M_fitting (Nat.le_add_left 1 d) 2 (pc1 := 32) (ls1 := [some (.ref 63), some (.int x1), some (.int x2), some (.int x3), some (.int x4), some (.int (0 : Int32)), none, none]) (st1 := [.int (9 : Int32)]) (σ1 := (S0, m)) rfl ?_
      exact am_AW.weak (f_M_fitting_b32_ok hd x1 x2 x3 x4 (0 : Int32) (9 : Int32)  h) (by simp only [am_le, and_self])
    · rw [if_neg c19] at h
      refine am_AW.run am_base_ok ok_M_fitting (Nat.le_add_left 1 d) 3 (pc1 := 26) (ls1 := [some (.ref 63), some (.int x1), some (.int x2), some (.int x3), some (.int x4), some (.int (0 : Int32)), none, none]) (st1 := [.int (0 : Int32), .ref 67]) (σ1 := (S0, m)) rfl ?_
      refine am_AW.iald ok_M_fitting (Nat.le_add_left 1 d) S0_len rfl rfl (by decide) ?_
      change am_AW am_nw ro (d + 1) mr_M_fitting 27 [some (.ref 63), some (.int x1), some (.int x2), some (.int x3), some (.int x4), some (.int (0 : Int32)), none, none] [.int (m.1 67 0)] (S0, m) (some (.int r)) (S0, m')
      obtain ⟨q23, hq23, h⟩ := Option.bind_eq_some_iff.mp h
      refine am_AW.callS ok_M_fitting am_nw_ok (As := [.int (m.1 67 0)]) (rest := []) rfl rfl rfl oR_M_manyCuts lk_M_87 sT_M_manyCuts rfl (Nat.le_of_ble_eq_true rfl) (f_M_manyCuts_ok (d := d) (by omega) (m.1 67 0) hq23) ?_
      change am_AW am_nw ro (d + 1) mr_M_fitting 30 [some (.ref 63), some (.int x1), some (.int x2), some (.int x3), some (.int x4), some (.int (0 : Int32)), none, none] [.int q23.1] (S0, q23.2) (some (.int r)) (S0, m')
      refine am_AW.run am_base_ok ok_M_fitting (Nat.le_add_left 1 d) 2 (pc1 := 32) (ls1 := [some (.ref 63), some (.int x1), some (.int x2), some (.int x3), some (.int x4), some (.int (0 : Int32)), none, none]) (st1 := [.int (q23.1 - (1 : Int32))]) (σ1 := (S0, q23.2)) rfl ?_
      exact am_AW.weak (f_M_fitting_b32_ok hd x1 x2 x3 x4 (0 : Int32) (q23.1 - (1 : Int32))  h) (by simp only [am_le, and_self])
/-! FriezePolygonsModel.fixedSize(I)I -/
def f_M_fixedSize_b28 (x1 : Int32) (x2 : Int32) (m : am_Mm) : Option (Int32 × am_Mm) :=
  (f_M_began (13 : Int32) m).bind fun q8 =>
  (f_M_lentSize x1 q8).bind fun q11 =>
  if x2 = (0 : Int32) then
    some ((q11.1 - (100 : Int32)), q11.2)
  else
    some (((2 : Int32) * (q11.1 - (100 : Int32))), q11.2)
def f_M_fixedSize_b17 (x1 : Int32) (s0 : Int32) (m : am_Mm) : Option (Int32 × am_Mm) :=
  if s0 = (0 : Int32) then
    f_M_fixedSize_b28 x1 s0 m
  else
    (f_M_began (14 : Int32) m).bind fun q15 =>
    f_M_fixedSize_b28 x1 s0 q15
def f_M_fixedSize (x1 : Int32) (m : am_Mm) : Option (Int32 × am_Mm) :=
  (f_M_kindOf 67 x1 m).bind fun q3 =>
  if q3.1 = (5 : Int32) then
    f_M_fixedSize_b17 x1 (1 : Int32) q3.2
  else
    f_M_fixedSize_b17 x1 (0 : Int32) q3.2
set_option maxHeartbeats 4000000 in
set_option maxRecDepth 100000 in
theorem f_M_fixedSize_b28_ok {ro : am_Ro} {d : Nat} (hd : 7 ≤ d + 1) (x1 : Int32) (x2 : Int32) {m m' : am_Mm} {r : Int32} (h : f_M_fixedSize_b28 x1 x2 m = some (r, m')) : am_AW am_nw ro (d + 1) mr_M_fixedSize 28 [some (.ref 63), some (.int x1), some (.int x2), none] [] (S0, m) (some (.int r)) (S0, m') := by
  unfold f_M_fixedSize_b28 at h
  refine am_AW.run am_base_ok ok_M_fixedSize (Nat.le_add_left 1 d) 2 (pc1 := 31) (ls1 := [some (.ref 63), some (.int x1), some (.int x2), none]) (st1 := [.int (13 : Int32), .ref 63]) (σ1 := (S0, m)) rfl ?_
  obtain ⟨q8, hq8, h⟩ := Option.bind_eq_some_iff.mp h
  refine am_AW.callV ok_M_fixedSize am_nw_ok (As := [.int (13 : Int32)]) (rest := []) rfl rfl rfl oR_M_began lk_M_327 iM_M_began sE_M_began (qc := kq10) rfl rfl rfl rfl (Nat.le_of_ble_eq_true rfl) (f_M_began_ok (d := d) (by omega) (13 : Int32) hq8) ?_
  change am_AW am_nw ro (d + 1) mr_M_fixedSize 34 [some (.ref 63), some (.int x1), some (.int x2), none] [] (S0, q8) (some (.int r)) (S0, m')
  refine am_AW.run am_base_ok ok_M_fixedSize (Nat.le_add_left 1 d) 2 (pc1 := 36) (ls1 := [some (.ref 63), some (.int x1), some (.int x2), none]) (st1 := [.int x1, .ref 63]) (σ1 := (S0, q8)) rfl ?_
  obtain ⟨q11, hq11, h⟩ := Option.bind_eq_some_iff.mp h
  refine am_AW.callV ok_M_fixedSize am_nw_ok (As := [.int x1]) (rest := []) rfl rfl rfl oR_M_lentSize lk_M_330 iM_M_lentSize sE_M_lentSize (qc := kq10) rfl rfl rfl rfl (Nat.le_of_ble_eq_true rfl) (f_M_lentSize_ok (d := d) (by omega) x1 hq11) ?_
  change am_AW am_nw ro (d + 1) mr_M_fixedSize 39 [some (.ref 63), some (.int x1), some (.int x2), none] [.int q11.1] (S0, q11.2) (some (.int r)) (S0, m')
  refine am_AW.run am_base_ok ok_M_fixedSize (Nat.le_add_left 1 d) 4 (pc1 := 44) (ls1 := [some (.ref 63), some (.int x1), some (.int x2), some (.int (q11.1 - (100 : Int32)))]) (st1 := [.int x2]) (σ1 := (S0, q11.2)) rfl ?_
  refine am_AW.brP ok_M_fixedSize rfl rfl am_c_eq (fun c12 => ?_) (fun c12 => ?_)
  · rw [if_pos c12] at h
    refine am_AW.run am_base_ok ok_M_fixedSize (Nat.le_add_left 1 d) 1 (pc1 := 54) (ls1 := [some (.ref 63), some (.int x1), some (.int x2), some (.int (q11.1 - (100 : Int32)))]) (st1 := [.int (q11.1 - (100 : Int32))]) (σ1 := (S0, q11.2)) rfl ?_
    obtain ⟨rfl, rfl⟩ := Prod.mk.inj (Option.some.inj h)
    exact am_AW.ret ok_M_fixedSize rfl rfl rfl rfl
  · rw [if_neg c12] at h
    refine am_AW.run am_base_ok ok_M_fixedSize (Nat.le_add_left 1 d) 4 (pc1 := 54) (ls1 := [some (.ref 63), some (.int x1), some (.int x2), some (.int (q11.1 - (100 : Int32)))]) (st1 := [.int ((2 : Int32) * (q11.1 - (100 : Int32)))]) (σ1 := (S0, q11.2)) rfl ?_
    obtain ⟨rfl, rfl⟩ := Prod.mk.inj (Option.some.inj h)
    exact am_AW.ret ok_M_fixedSize rfl rfl rfl rfl
set_option maxHeartbeats 4000000 in
set_option maxRecDepth 100000 in
theorem f_M_fixedSize_b17_ok {ro : am_Ro} {d : Nat} (hd : 7 ≤ d + 1) (x1 : Int32) (s0 : Int32) {m m' : am_Mm} {r : Int32} (h : f_M_fixedSize_b17 x1 s0 m = some (r, m')) : am_AW am_nw ro (d + 1) mr_M_fixedSize 17 [some (.ref 63), some (.int x1), none, none] [.int s0] (S0, m) (some (.int r)) (S0, m') := by
  unfold f_M_fixedSize_b17 at h
  refine am_AW.run am_base_ok ok_M_fixedSize (Nat.le_add_left 1 d) 2 (pc1 := 19) (ls1 := [some (.ref 63), some (.int x1), some (.int s0), none]) (st1 := [.int s0]) (σ1 := (S0, m)) rfl ?_
  refine am_AW.brP ok_M_fixedSize rfl rfl am_c_eq (fun c5 => ?_) (fun c5 => ?_)
  · rw [if_pos c5] at h
    exact am_AW.weak (f_M_fixedSize_b28_ok hd x1 s0  h) (by simp only [am_le, and_self])
  · rw [if_neg c5] at h
    refine am_AW.run am_base_ok ok_M_fixedSize (Nat.le_add_left 1 d) 2 (pc1 := 25) (ls1 := [some (.ref 63), some (.int x1), some (.int s0), none]) (st1 := [.int (14 : Int32), .ref 63]) (σ1 := (S0, m)) rfl ?_
    obtain ⟨q15, hq15, h⟩ := Option.bind_eq_some_iff.mp h
    refine am_AW.callV ok_M_fixedSize am_nw_ok (As := [.int (14 : Int32)]) (rest := []) rfl rfl rfl oR_M_began lk_M_327 iM_M_began sE_M_began (qc := kq10) rfl rfl rfl rfl (Nat.le_of_ble_eq_true rfl) (f_M_began_ok (d := d) (by omega) (14 : Int32) hq15) ?_
    change am_AW am_nw ro (d + 1) mr_M_fixedSize 28 [some (.ref 63), some (.int x1), some (.int s0), none] [] (S0, q15) (some (.int r)) (S0, m')
    exact am_AW.weak (f_M_fixedSize_b28_ok hd x1 s0  h) (by simp only [am_le, and_self])
set_option maxHeartbeats 4000000 in
set_option maxRecDepth 100000 in
theorem f_M_fixedSize_ok {ro : am_Ro} {d : Nat} (hd : 7 ≤ d) (x1 : Int32) {m m' : am_Mm} {r : Int32} (h : f_M_fixedSize x1 m = some (r, m')) : am_Mt am_nw ro d mr_M_fixedSize [.ref 63, .int x1] (S0, m) (some (.int r)) (S0, m') := by
  obtain ⟨d, rfl⟩ : ∃ d0, d = d0 + 1 := ⟨d - 1, by omega⟩
  refine am_Mt.of (by decide +kernel) (Nat.le_of_ble_eq_true rfl) ?_
  change am_AW am_nw ro (d + 1) mr_M_fixedSize 0 [some (.ref 63), some (.int x1), none, none] [] (S0, m) (some (.int r)) (S0, m')
  unfold f_M_fixedSize at h
  refine am_AW.run am_base_ok ok_M_fixedSize (Nat.le_add_left 1 d) 3 (pc1 := 5) (ls1 := [some (.ref 63), some (.int x1), none, none]) (st1 := [.int x1, .ref 67]) (σ1 := (S0, m)) rfl ?_
  obtain ⟨q3, hq3, h⟩ := Option.bind_eq_some_iff.mp h
  refine am_AW.callS ok_M_fixedSize am_nw_ok (As := [.ref 67, .int x1]) (rest := []) rfl rfl rfl oR_M_kindOf lk_M_115 sT_M_kindOf rfl (Nat.le_of_ble_eq_true rfl) (f_M_kindOf_ok (d := d) (by omega) 67 x1 (by simp) hq3) ?_
  change am_AW am_nw ro (d + 1) mr_M_fixedSize 8 [some (.ref 63), some (.int x1), none, none] [.int q3.1] (S0, q3.2) (some (.int r)) (S0, m')
  refine am_AW.run am_base_ok ok_M_fixedSize (Nat.le_add_left 1 d) 1 (pc1 := 9) (ls1 := [some (.ref 63), some (.int x1), none, none]) (st1 := [.int (5 : Int32), .int q3.1]) (σ1 := (S0, q3.2)) rfl ?_
  refine am_AW.brN ok_M_fixedSize rfl rfl am_c_ne (fun c4 => ?_) (fun c4 => ?_)
  · rw [if_pos c4] at h
    refine am_AW.run am_base_ok ok_M_fixedSize (Nat.le_add_left 1 d) 2 (pc1 := 17) (ls1 := [some (.ref 63), some (.int x1), none, none]) (st1 := [.int (1 : Int32)]) (σ1 := (S0, q3.2)) rfl ?_
    exact am_AW.weak (f_M_fixedSize_b17_ok hd x1 (1 : Int32)  h) (by simp only [am_le, and_self])
  · rw [if_neg c4] at h
    refine am_AW.run am_base_ok ok_M_fixedSize (Nat.le_add_left 1 d) 1 (pc1 := 17) (ls1 := [some (.ref 63), some (.int x1), none, none]) (st1 := [.int (0 : Int32)]) (σ1 := (S0, q3.2)) rfl ?_
    exact am_AW.weak (f_M_fixedSize_b17_ok hd x1 (0 : Int32)  h) (by simp only [am_le, and_self])
/-! FriezePolygonsModel.whole(I)I -/
def f_M_whole (x1 : Int32) (m : am_Mm) : Option (Int32 × am_Mm) :=
  (f_M_isThere m).bind fun q3 =>
  if q3.1 = (0 : Int32) then
    some ((-1000002 : Int32), q3.2)
  else
    if x1 = (0 : Int32) then
      (f_M_sizeOf (q3.2.1 67 1) q3.2).bind fun q9 =>
      some (q9.1, q9.2)
    else
      if x1 = (1 : Int32) then
        some ((q3.2.1 67 1), q3.2)
      else
        if x1 = (2 : Int32) then
          (f_M_sizeOf (q3.2.1 67 1) q3.2).bind fun q16 =>
          some ((q16.1 + (1 : Int32)), q16.2)
        else
          if x1 = (3 : Int32) then
            (f_M_doesClose q3.2).bind fun q20 =>
            if q20.1 = (0 : Int32) then
              some ((0 : Int32), q20.2)
            else
              some ((1 : Int32), q20.2)
          else
            if x1 = (4 : Int32) then
              (f_M_period q3.2).bind fun q25 =>
              some (q25.1, q25.2)
            else
              if x1 = (5 : Int32) then
                (f_M_with (1 : Int32) q3.2).bind fun q29 =>
                some (q29.1, q29.2)
              else
                if x1 = (6 : Int32) then
                  (f_M_with (0 : Int32) q3.2).bind fun q33 =>
                  some (q33.1, q33.2)
                else
                  if x1 = (7 : Int32) then
                    (f_M_isTriangled q3.2).bind fun q37 =>
                    if q37.1 = (0 : Int32) then
                      some ((0 : Int32), q37.2)
                    else
                      some ((1 : Int32), q37.2)
                  else
                    if x1 = (8 : Int32) then
                      (f_M_manyCuts (q3.2.1 67 0) q3.2).bind fun q43 =>
                      some (q43.1, q43.2)
                    else
                      some ((-1000001 : Int32), q3.2)
set_option maxHeartbeats 4000000 in
set_option maxRecDepth 100000 in
theorem f_M_whole_ok {ro : am_Ro} {d : Nat} (hd : 8 ≤ d) (x1 : Int32) {m m' : am_Mm} {r : Int32} (h : f_M_whole x1 m = some (r, m')) : am_Mt am_nw ro d mr_M_whole [.ref 63, .int x1] (S0, m) (some (.int r)) (S0, m') := by
  obtain ⟨d, rfl⟩ : ∃ d0, d = d0 + 1 := ⟨d - 1, by omega⟩
  refine am_Mt.of (by decide +kernel) (Nat.le_of_ble_eq_true rfl) ?_
  change am_AW am_nw ro (d + 1) mr_M_whole 0 [some (.ref 63), some (.int x1)] [] (S0, m) (some (.int r)) (S0, m')
  unfold f_M_whole at h
  refine am_AW.run am_base_ok ok_M_whole (Nat.le_add_left 1 d) 1 (pc1 := 1) (ls1 := [some (.ref 63), some (.int x1)]) (st1 := [.ref 63]) (σ1 := (S0, m)) rfl ?_
  obtain ⟨q3, hq3, h⟩ := Option.bind_eq_some_iff.mp h
  refine am_AW.callV ok_M_whole am_nw_ok (As := []) (rest := []) rfl rfl rfl oR_M_isThere lk_M_188 iM_M_isThere sE_M_isThere (qc := kq10) rfl rfl rfl rfl (Nat.le_of_ble_eq_true rfl) (f_M_isThere_ok (d := d) (by omega)  hq3) ?_
  change am_AW am_nw ro (d + 1) mr_M_whole 4 [some (.ref 63), some (.int x1)] [.int q3.1] (S0, q3.2) (some (.int r)) (S0, m')
  refine am_AW.brN ok_M_whole rfl rfl am_c_ne (fun c4 => ?_) (fun c4 => ?_)
  · rw [if_pos c4] at h
    refine am_AW.run am_base_ok ok_M_whole (Nat.le_add_left 1 d) 1 (pc1 := 9) (ls1 := [some (.ref 63), some (.int x1)]) (st1 := [.int (-1000002 : Int32)]) (σ1 := (S0, q3.2)) rfl ?_
    obtain ⟨rfl, rfl⟩ := Prod.mk.inj (Option.some.inj h)
    exact am_AW.ret ok_M_whole rfl rfl rfl rfl
  · rw [if_neg c4] at h
    refine am_AW.run am_base_ok ok_M_whole (Nat.le_add_left 1 d) 1 (pc1 := 11) (ls1 := [some (.ref 63), some (.int x1)]) (st1 := [.int x1]) (σ1 := (S0, q3.2)) rfl ?_
    by_cases c5 : x1 = (0 : Int32)
    · rw [if_pos c5] at h
      refine am_AW.sw ok_M_whole rfl (t := 60) (by rw [c5]; decide +kernel) ?_
      refine am_AW.run am_base_ok ok_M_whole (Nat.le_add_left 1 d) 3 (pc1 := 65) (ls1 := [some (.ref 63), some (.int x1)]) (st1 := [.int (1 : Int32), .ref 67]) (σ1 := (S0, q3.2)) rfl ?_
      refine am_AW.iald ok_M_whole (Nat.le_add_left 1 d) S0_len rfl rfl (by decide) ?_
      change am_AW am_nw ro (d + 1) mr_M_whole 66 [some (.ref 63), some (.int x1)] [.int (q3.2.1 67 1)] (S0, q3.2) (some (.int r)) (S0, m')
      obtain ⟨q9, hq9, h⟩ := Option.bind_eq_some_iff.mp h
      refine am_AW.callS ok_M_whole am_nw_ok (As := [.int (q3.2.1 67 1)]) (rest := []) rfl rfl rfl oR_M_sizeOf lk_M_198 sT_M_sizeOf rfl (Nat.le_of_ble_eq_true rfl) (f_M_sizeOf_ok (d := d) (by omega) (q3.2.1 67 1) hq9) ?_
      change am_AW am_nw ro (d + 1) mr_M_whole 69 [some (.ref 63), some (.int x1)] [.int q9.1] (S0, q9.2) (some (.int r)) (S0, m')
      obtain ⟨rfl, rfl⟩ := Prod.mk.inj (Option.some.inj h)
      exact am_AW.ret ok_M_whole rfl rfl rfl rfl
    rw [if_neg c5] at h
    by_cases c10 : x1 = (1 : Int32)
    · rw [if_pos c10] at h
      refine am_AW.sw ok_M_whole rfl (t := 70) (by rw [c10]; decide +kernel) ?_
      refine am_AW.run am_base_ok ok_M_whole (Nat.le_add_left 1 d) 3 (pc1 := 75) (ls1 := [some (.ref 63), some (.int x1)]) (st1 := [.int (1 : Int32), .ref 67]) (σ1 := (S0, q3.2)) rfl ?_
      refine am_AW.iald ok_M_whole (Nat.le_add_left 1 d) S0_len rfl rfl (by decide) ?_
      change am_AW am_nw ro (d + 1) mr_M_whole 76 [some (.ref 63), some (.int x1)] [.int (q3.2.1 67 1)] (S0, q3.2) (some (.int r)) (S0, m')
      obtain ⟨rfl, rfl⟩ := Prod.mk.inj (Option.some.inj h)
      exact am_AW.ret ok_M_whole rfl rfl rfl rfl
    rw [if_neg c10] at h
    by_cases c12 : x1 = (2 : Int32)
    · rw [if_pos c12] at h
      refine am_AW.sw ok_M_whole rfl (t := 77) (by rw [c12]; decide +kernel) ?_
      refine am_AW.run am_base_ok ok_M_whole (Nat.le_add_left 1 d) 3 (pc1 := 82) (ls1 := [some (.ref 63), some (.int x1)]) (st1 := [.int (1 : Int32), .ref 67]) (σ1 := (S0, q3.2)) rfl ?_
      refine am_AW.iald ok_M_whole (Nat.le_add_left 1 d) S0_len rfl rfl (by decide) ?_
      change am_AW am_nw ro (d + 1) mr_M_whole 83 [some (.ref 63), some (.int x1)] [.int (q3.2.1 67 1)] (S0, q3.2) (some (.int r)) (S0, m')
      obtain ⟨q16, hq16, h⟩ := Option.bind_eq_some_iff.mp h
      refine am_AW.callS ok_M_whole am_nw_ok (As := [.int (q3.2.1 67 1)]) (rest := []) rfl rfl rfl oR_M_sizeOf lk_M_198 sT_M_sizeOf rfl (Nat.le_of_ble_eq_true rfl) (f_M_sizeOf_ok (d := d) (by omega) (q3.2.1 67 1) hq16) ?_
      change am_AW am_nw ro (d + 1) mr_M_whole 86 [some (.ref 63), some (.int x1)] [.int q16.1] (S0, q16.2) (some (.int r)) (S0, m')
      refine am_AW.run am_base_ok ok_M_whole (Nat.le_add_left 1 d) 2 (pc1 := 88) (ls1 := [some (.ref 63), some (.int x1)]) (st1 := [.int (q16.1 + (1 : Int32))]) (σ1 := (S0, q16.2)) rfl ?_
      obtain ⟨rfl, rfl⟩ := Prod.mk.inj (Option.some.inj h)
      exact am_AW.ret ok_M_whole rfl rfl rfl rfl
    rw [if_neg c12] at h
    by_cases c17 : x1 = (3 : Int32)
    · rw [if_pos c17] at h
      refine am_AW.sw ok_M_whole rfl (t := 89) (by rw [c17]; decide +kernel) ?_
      refine am_AW.run am_base_ok ok_M_whole (Nat.le_add_left 1 d) 1 (pc1 := 90) (ls1 := [some (.ref 63), some (.int x1)]) (st1 := [.ref 63]) (σ1 := (S0, q3.2)) rfl ?_
      obtain ⟨q20, hq20, h⟩ := Option.bind_eq_some_iff.mp h
      refine am_AW.callV ok_M_whole am_nw_ok (As := []) (rest := []) rfl rfl rfl oR_M_doesClose lk_M_251 iM_M_doesClose sE_M_doesClose (qc := kq10) rfl rfl rfl rfl (Nat.le_of_ble_eq_true rfl) (f_M_doesClose_ok (d := d) (by omega)  hq20) ?_
      change am_AW am_nw ro (d + 1) mr_M_whole 93 [some (.ref 63), some (.int x1)] [.int q20.1] (S0, q20.2) (some (.int r)) (S0, m')
      refine am_AW.brP ok_M_whole rfl rfl am_c_eq (fun c21 => ?_) (fun c21 => ?_)
      · rw [if_pos c21] at h
        refine am_AW.run am_base_ok ok_M_whole (Nat.le_add_left 1 d) 1 (pc1 := 101) (ls1 := [some (.ref 63), some (.int x1)]) (st1 := [.int (0 : Int32)]) (σ1 := (S0, q20.2)) rfl ?_
        obtain ⟨rfl, rfl⟩ := Prod.mk.inj (Option.some.inj h)
        exact am_AW.ret ok_M_whole rfl rfl rfl rfl
      · rw [if_neg c21] at h
        refine am_AW.run am_base_ok ok_M_whole (Nat.le_add_left 1 d) 2 (pc1 := 101) (ls1 := [some (.ref 63), some (.int x1)]) (st1 := [.int (1 : Int32)]) (σ1 := (S0, q20.2)) rfl ?_
        obtain ⟨rfl, rfl⟩ := Prod.mk.inj (Option.some.inj h)
        exact am_AW.ret ok_M_whole rfl rfl rfl rfl
    rw [if_neg c17] at h
    by_cases c22 : x1 = (4 : Int32)
    · rw [if_pos c22] at h
      refine am_AW.sw ok_M_whole rfl (t := 102) (by rw [c22]; decide +kernel) ?_
      refine am_AW.run am_base_ok ok_M_whole (Nat.le_add_left 1 d) 1 (pc1 := 103) (ls1 := [some (.ref 63), some (.int x1)]) (st1 := [.ref 63]) (σ1 := (S0, q3.2)) rfl ?_
      obtain ⟨q25, hq25, h⟩ := Option.bind_eq_some_iff.mp h
      refine am_AW.callV ok_M_whole am_nw_ok (As := []) (rest := []) rfl rfl rfl oR_M_period lk_M_254 iM_M_period sE_M_period (qc := kq10) rfl rfl rfl rfl (Nat.le_of_ble_eq_true rfl) (f_M_period_ok (d := d) (by omega)  hq25) ?_
      change am_AW am_nw ro (d + 1) mr_M_whole 106 [some (.ref 63), some (.int x1)] [.int q25.1] (S0, q25.2) (some (.int r)) (S0, m')
      obtain ⟨rfl, rfl⟩ := Prod.mk.inj (Option.some.inj h)
      exact am_AW.ret ok_M_whole rfl rfl rfl rfl
    rw [if_neg c22] at h
    by_cases c26 : x1 = (5 : Int32)
    · rw [if_pos c26] at h
      refine am_AW.sw ok_M_whole rfl (t := 107) (by rw [c26]; decide +kernel) ?_
      refine am_AW.run am_base_ok ok_M_whole (Nat.le_add_left 1 d) 2 (pc1 := 109) (ls1 := [some (.ref 63), some (.int x1)]) (st1 := [.int (1 : Int32), .ref 63]) (σ1 := (S0, q3.2)) rfl ?_
      obtain ⟨q29, hq29, h⟩ := Option.bind_eq_some_iff.mp h
      refine am_AW.callV ok_M_whole am_nw_ok (As := [.int (1 : Int32)]) (rest := []) rfl rfl rfl oR_M_with lk_M_258 iM_M_with sE_M_with (qc := kq10) rfl rfl rfl rfl (Nat.le_of_ble_eq_true rfl) (f_M_with_ok (d := d) (by omega) (1 : Int32) hq29) ?_
      change am_AW am_nw ro (d + 1) mr_M_whole 112 [some (.ref 63), some (.int x1)] [.int q29.1] (S0, q29.2) (some (.int r)) (S0, m')
      obtain ⟨rfl, rfl⟩ := Prod.mk.inj (Option.some.inj h)
      exact am_AW.ret ok_M_whole rfl rfl rfl rfl
    rw [if_neg c26] at h
    by_cases c30 : x1 = (6 : Int32)
    · rw [if_pos c30] at h
      refine am_AW.sw ok_M_whole rfl (t := 113) (by rw [c30]; decide +kernel) ?_
      refine am_AW.run am_base_ok ok_M_whole (Nat.le_add_left 1 d) 2 (pc1 := 115) (ls1 := [some (.ref 63), some (.int x1)]) (st1 := [.int (0 : Int32), .ref 63]) (σ1 := (S0, q3.2)) rfl ?_
      obtain ⟨q33, hq33, h⟩ := Option.bind_eq_some_iff.mp h
      refine am_AW.callV ok_M_whole am_nw_ok (As := [.int (0 : Int32)]) (rest := []) rfl rfl rfl oR_M_with lk_M_258 iM_M_with sE_M_with (qc := kq10) rfl rfl rfl rfl (Nat.le_of_ble_eq_true rfl) (f_M_with_ok (d := d) (by omega) (0 : Int32) hq33) ?_
      change am_AW am_nw ro (d + 1) mr_M_whole 118 [some (.ref 63), some (.int x1)] [.int q33.1] (S0, q33.2) (some (.int r)) (S0, m')
      obtain ⟨rfl, rfl⟩ := Prod.mk.inj (Option.some.inj h)
      exact am_AW.ret ok_M_whole rfl rfl rfl rfl
    rw [if_neg c30] at h
    by_cases c34 : x1 = (7 : Int32)
    · rw [if_pos c34] at h
      refine am_AW.sw ok_M_whole rfl (t := 119) (by rw [c34]; decide +kernel) ?_
      refine am_AW.run am_base_ok ok_M_whole (Nat.le_add_left 1 d) 2 (pc1 := 123) (ls1 := [some (.ref 63), some (.int x1)]) (st1 := [.ref 67]) (σ1 := (S0, q3.2)) rfl ?_
      obtain ⟨q37, hq37, h⟩ := Option.bind_eq_some_iff.mp h
      refine am_AW.callS ok_M_whole am_nw_ok (As := [.ref 67]) (rest := []) rfl rfl rfl oR_M_isTriangled lk_M_262 sT_M_isTriangled rfl (Nat.le_of_ble_eq_true rfl) (f_M_isTriangled_ok (d := d) (by omega)  hq37) ?_
      change am_AW am_nw ro (d + 1) mr_M_whole 126 [some (.ref 63), some (.int x1)] [.int q37.1] (S0, q37.2) (some (.int r)) (S0, m')
      refine am_AW.brP ok_M_whole rfl rfl am_c_eq (fun c38 => ?_) (fun c38 => ?_)
      · rw [if_pos c38] at h
        refine am_AW.run am_base_ok ok_M_whole (Nat.le_add_left 1 d) 1 (pc1 := 134) (ls1 := [some (.ref 63), some (.int x1)]) (st1 := [.int (0 : Int32)]) (σ1 := (S0, q37.2)) rfl ?_
        obtain ⟨rfl, rfl⟩ := Prod.mk.inj (Option.some.inj h)
        exact am_AW.ret ok_M_whole rfl rfl rfl rfl
      · rw [if_neg c38] at h
        refine am_AW.run am_base_ok ok_M_whole (Nat.le_add_left 1 d) 2 (pc1 := 134) (ls1 := [some (.ref 63), some (.int x1)]) (st1 := [.int (1 : Int32)]) (σ1 := (S0, q37.2)) rfl ?_
        obtain ⟨rfl, rfl⟩ := Prod.mk.inj (Option.some.inj h)
        exact am_AW.ret ok_M_whole rfl rfl rfl rfl
    rw [if_neg c34] at h
    by_cases c39 : x1 = (8 : Int32)
    · rw [if_pos c39] at h
      refine am_AW.sw ok_M_whole rfl (t := 135) (by rw [c39]; decide +kernel) ?_
      refine am_AW.run am_base_ok ok_M_whole (Nat.le_add_left 1 d) 3 (pc1 := 140) (ls1 := [some (.ref 63), some (.int x1)]) (st1 := [.int (0 : Int32), .ref 67]) (σ1 := (S0, q3.2)) rfl ?_
      refine am_AW.iald ok_M_whole (Nat.le_add_left 1 d) S0_len rfl rfl (by decide) ?_
      change am_AW am_nw ro (d + 1) mr_M_whole 141 [some (.ref 63), some (.int x1)] [.int (q3.2.1 67 0)] (S0, q3.2) (some (.int r)) (S0, m')
      obtain ⟨q43, hq43, h⟩ := Option.bind_eq_some_iff.mp h
      refine am_AW.callS ok_M_whole am_nw_ok (As := [.int (q3.2.1 67 0)]) (rest := []) rfl rfl rfl oR_M_manyCuts lk_M_87 sT_M_manyCuts rfl (Nat.le_of_ble_eq_true rfl) (f_M_manyCuts_ok (d := d) (by omega) (q3.2.1 67 0) hq43) ?_
      change am_AW am_nw ro (d + 1) mr_M_whole 144 [some (.ref 63), some (.int x1)] [.int q43.1] (S0, q43.2) (some (.int r)) (S0, m')
      obtain ⟨rfl, rfl⟩ := Prod.mk.inj (Option.some.inj h)
      exact am_AW.ret ok_M_whole rfl rfl rfl rfl
    rw [if_neg c39] at h
    have o44 : (x1).toInt < 0 ∨ 8 < (x1).toInt := by
      have := lv_neT c5 (a := 0) (by decide)
      have := lv_neT c10 (a := 1) (by decide)
      have := lv_neT c12 (a := 2) (by decide)
      have := lv_neT c17 (a := 3) (by decide)
      have := lv_neT c22 (a := 4) (by decide)
      have := lv_neT c26 (a := 5) (by decide)
      have := lv_neT c30 (a := 6) (by decide)
      have := lv_neT c34 (a := 7) (by decide)
      have := lv_neT c39 (a := 8) (by decide)
      omega
    refine am_AW.sw ok_M_whole rfl (t := 145) (by simp only [am_sw, if_pos o44]; decide +kernel) ?_
    refine am_AW.run am_base_ok ok_M_whole (Nat.le_add_left 1 d) 1 (pc1 := 147) (ls1 := [some (.ref 63), some (.int x1)]) (st1 := [.int (-1000001 : Int32)]) (σ1 := (S0, q3.2)) rfl ?_
    obtain ⟨rfl, rfl⟩ := Prod.mk.inj (Option.some.inj h)
    exact am_AW.ret ok_M_whole rfl rfl rfl rfl
/-! FriezePolygonsModel.who(IIIII)I -/
def f_M_who (x1 : Int32) (x2 : Int32) (x3 : Int32) (x4 : Int32) (x5 : Int32) (m : am_Mm) : Option (Int32 × am_Mm) :=
  (f_M_isCorner x1 m).bind fun q3 =>
  if q3.1 = (0 : Int32) then
    some ((-1000001 : Int32), q3.2)
  else
    (f_M_in (x2.toInt64) (0 : Int64) (2 : Int64) q3.2).bind fun q7 =>
    if q7.1 = (0 : Int32) then
      some ((-1000001 : Int32), q7.2)
    else
      (f_M_isRow x3 q7.2).bind fun q11 =>
      if q11.1 = (0 : Int32) then
        some ((-1000001 : Int32), q11.2)
      else
        (f_M_in (x5.toInt64) (1 : Int64) ((q11.2.1 67 0).toInt64) q11.2).bind fun q16 =>
        if q16.1 = (0 : Int32) then
          some ((-1000001 : Int32), q16.2)
        else
          (f_M_lacks x3 x4 x5 q16.2).bind fun q20 =>
          if q20.1 = (0 : Int32) then
            (f_M_fitting x1 x2 (((40 : Int32) * x3) + x4) x5 q20.2).bind fun q24 =>
            some (q24.1, q24.2)
          else
            some (q20.1, q20.2)
set_option maxHeartbeats 4000000 in
set_option maxRecDepth 100000 in
theorem f_M_who_ok {ro : am_Ro} {d : Nat} (hd : 8 ≤ d) (x1 : Int32) (x2 : Int32) (x3 : Int32) (x4 : Int32) (x5 : Int32) {m m' : am_Mm} {r : Int32} (h : f_M_who x1 x2 x3 x4 x5 m = some (r, m')) : am_Mt am_nw ro d mr_M_who [.ref 63, .int x1, .int x2, .int x3, .int x4, .int x5] (S0, m) (some (.int r)) (S0, m') := by
  obtain ⟨d, rfl⟩ : ∃ d0, d = d0 + 1 := ⟨d - 1, by omega⟩
  refine am_Mt.of (by decide +kernel) (Nat.le_of_ble_eq_true rfl) ?_
  change am_AW am_nw ro (d + 1) mr_M_who 0 [some (.ref 63), some (.int x1), some (.int x2), some (.int x3), some (.int x4), some (.int x5), none] [] (S0, m) (some (.int r)) (S0, m')
  unfold f_M_who at h
  refine am_AW.run am_base_ok ok_M_who (Nat.le_add_left 1 d) 2 (pc1 := 2) (ls1 := [some (.ref 63), some (.int x1), some (.int x2), some (.int x3), some (.int x4), some (.int x5), none]) (st1 := [.int x1, .ref 63]) (σ1 := (S0, m)) rfl ?_
  obtain ⟨q3, hq3, h⟩ := Option.bind_eq_some_iff.mp h
  refine am_AW.callV ok_M_who am_nw_ok (As := [.int x1]) (rest := []) rfl rfl rfl oR_M_isCorner lk_M_192 iM_M_isCorner sE_M_isCorner (qc := kq10) rfl rfl rfl rfl (Nat.le_of_ble_eq_true rfl) (f_M_isCorner_ok (d := d) (by omega) x1 hq3) ?_
  change am_AW am_nw ro (d + 1) mr_M_who 5 [some (.ref 63), some (.int x1), some (.int x2), some (.int x3), some (.int x4), some (.int x5), none] [.int q3.1] (S0, q3.2) (some (.int r)) (S0, m')
  refine am_AW.brP ok_M_who rfl rfl am_c_eq (fun c4 => ?_) (fun c4 => ?_)
  · rw [if_pos c4] at h
    refine am_AW.run am_base_ok ok_M_who (Nat.le_add_left 1 d) 1 (pc1 := 46) (ls1 := [some (.ref 63), some (.int x1), some (.int x2), some (.int x3), some (.int x4), some (.int x5), none]) (st1 := [.int (-1000001 : Int32)]) (σ1 := (S0, q3.2)) rfl ?_
    obtain ⟨rfl, rfl⟩ := Prod.mk.inj (Option.some.inj h)
    exact am_AW.ret ok_M_who rfl rfl rfl rfl
  · rw [if_neg c4] at h
    refine am_AW.run am_base_ok ok_M_who (Nat.le_add_left 1 d) 4 (pc1 := 14) (ls1 := [some (.ref 63), some (.int x1), some (.int x2), some (.int x3), some (.int x4), some (.int x5), none]) (st1 := [.long (2 : Int64), .long (0 : Int64), .long (x2.toInt64)]) (σ1 := (S0, q3.2)) rfl ?_
    obtain ⟨q7, hq7, h⟩ := Option.bind_eq_some_iff.mp h
    refine am_AW.callS ok_M_who am_nw_ok (As := [.long (x2.toInt64), .long (0 : Int64), .long (2 : Int64)]) (rest := []) rfl rfl rfl oR_M_in lk_M_60 sT_M_in rfl (Nat.le_of_ble_eq_true rfl) (f_M_in_ok (d := d) (by omega) (x2.toInt64) (0 : Int64) (2 : Int64) hq7) ?_
    change am_AW am_nw ro (d + 1) mr_M_who 17 [some (.ref 63), some (.int x1), some (.int x2), some (.int x3), some (.int x4), some (.int x5), none] [.int q7.1] (S0, q7.2) (some (.int r)) (S0, m')
    refine am_AW.brP ok_M_who rfl rfl am_c_eq (fun c8 => ?_) (fun c8 => ?_)
    · rw [if_pos c8] at h
      refine am_AW.run am_base_ok ok_M_who (Nat.le_add_left 1 d) 1 (pc1 := 46) (ls1 := [some (.ref 63), some (.int x1), some (.int x2), some (.int x3), some (.int x4), some (.int x5), none]) (st1 := [.int (-1000001 : Int32)]) (σ1 := (S0, q7.2)) rfl ?_
      obtain ⟨rfl, rfl⟩ := Prod.mk.inj (Option.some.inj h)
      exact am_AW.ret ok_M_who rfl rfl rfl rfl
    · rw [if_neg c8] at h
      refine am_AW.run am_base_ok ok_M_who (Nat.le_add_left 1 d) 1 (pc1 := 21) (ls1 := [some (.ref 63), some (.int x1), some (.int x2), some (.int x3), some (.int x4), some (.int x5), none]) (st1 := [.int x3]) (σ1 := (S0, q7.2)) rfl ?_
      obtain ⟨q11, hq11, h⟩ := Option.bind_eq_some_iff.mp h
      refine am_AW.callS ok_M_who am_nw_ok (As := [.int x3]) (rest := []) rfl rfl rfl oR_M_isRow lk_M_64 sT_M_isRow rfl (Nat.le_of_ble_eq_true rfl) (f_M_isRow_ok (d := d) (by omega) x3 hq11) ?_
      change am_AW am_nw ro (d + 1) mr_M_who 24 [some (.ref 63), some (.int x1), some (.int x2), some (.int x3), some (.int x4), some (.int x5), none] [.int q11.1] (S0, q11.2) (some (.int r)) (S0, m')
      refine am_AW.brP ok_M_who rfl rfl am_c_eq (fun c12 => ?_) (fun c12 => ?_)
      · rw [if_pos c12] at h
        refine am_AW.run am_base_ok ok_M_who (Nat.le_add_left 1 d) 1 (pc1 := 46) (ls1 := [some (.ref 63), some (.int x1), some (.int x2), some (.int x3), some (.int x4), some (.int x5), none]) (st1 := [.int (-1000001 : Int32)]) (σ1 := (S0, q11.2)) rfl ?_
        obtain ⟨rfl, rfl⟩ := Prod.mk.inj (Option.some.inj h)
        exact am_AW.ret ok_M_who rfl rfl rfl rfl
      · rw [if_neg c12] at h
        refine am_AW.run am_base_ok ok_M_who (Nat.le_add_left 1 d) 6 (pc1 := 36) (ls1 := [some (.ref 63), some (.int x1), some (.int x2), some (.int x3), some (.int x4), some (.int x5), none]) (st1 := [.int (0 : Int32), .ref 67, .long (1 : Int64), .long (x5.toInt64)]) (σ1 := (S0, q11.2)) rfl ?_
        refine am_AW.iald ok_M_who (Nat.le_add_left 1 d) S0_len rfl rfl (by decide) ?_
        change am_AW am_nw ro (d + 1) mr_M_who 37 [some (.ref 63), some (.int x1), some (.int x2), some (.int x3), some (.int x4), some (.int x5), none] [.int (q11.2.1 67 0), .long (1 : Int64), .long (x5.toInt64)] (S0, q11.2) (some (.int r)) (S0, m')
        refine am_AW.run am_base_ok ok_M_who (Nat.le_add_left 1 d) 1 (pc1 := 38) (ls1 := [some (.ref 63), some (.int x1), some (.int x2), some (.int x3), some (.int x4), some (.int x5), none]) (st1 := [.long ((q11.2.1 67 0).toInt64), .long (1 : Int64), .long (x5.toInt64)]) (σ1 := (S0, q11.2)) rfl ?_
        obtain ⟨q16, hq16, h⟩ := Option.bind_eq_some_iff.mp h
        refine am_AW.callS ok_M_who am_nw_ok (As := [.long (x5.toInt64), .long (1 : Int64), .long ((q11.2.1 67 0).toInt64)]) (rest := []) rfl rfl rfl oR_M_in lk_M_60 sT_M_in rfl (Nat.le_of_ble_eq_true rfl) (f_M_in_ok (d := d) (by omega) (x5.toInt64) (1 : Int64) ((q11.2.1 67 0).toInt64) hq16) ?_
        change am_AW am_nw ro (d + 1) mr_M_who 41 [some (.ref 63), some (.int x1), some (.int x2), some (.int x3), some (.int x4), some (.int x5), none] [.int q16.1] (S0, q16.2) (some (.int r)) (S0, m')
        refine am_AW.brN ok_M_who rfl rfl am_c_ne (fun c17 => ?_) (fun c17 => ?_)
        · rw [if_pos c17] at h
          refine am_AW.run am_base_ok ok_M_who (Nat.le_add_left 1 d) 1 (pc1 := 46) (ls1 := [some (.ref 63), some (.int x1), some (.int x2), some (.int x3), some (.int x4), some (.int x5), none]) (st1 := [.int (-1000001 : Int32)]) (σ1 := (S0, q16.2)) rfl ?_
          obtain ⟨rfl, rfl⟩ := Prod.mk.inj (Option.some.inj h)
          exact am_AW.ret ok_M_who rfl rfl rfl rfl
        · rw [if_neg c17] at h
          refine am_AW.run am_base_ok ok_M_who (Nat.le_add_left 1 d) 4 (pc1 := 53) (ls1 := [some (.ref 63), some (.int x1), some (.int x2), some (.int x3), some (.int x4), some (.int x5), none]) (st1 := [.int x5, .int x4, .int x3, .ref 63]) (σ1 := (S0, q16.2)) rfl ?_
          obtain ⟨q20, hq20, h⟩ := Option.bind_eq_some_iff.mp h
          refine am_AW.callV ok_M_who am_nw_ok (As := [.int x3, .int x4, .int x5]) (rest := []) rfl rfl rfl oR_M_lacks lk_M_222 iM_M_lacks sE_M_lacks (qc := kq10) rfl rfl rfl rfl (Nat.le_of_ble_eq_true rfl) (f_M_lacks_ok (d := d) (by omega) x3 x4 x5 hq20) ?_
          change am_AW am_nw ro (d + 1) mr_M_who 56 [some (.ref 63), some (.int x1), some (.int x2), some (.int x3), some (.int x4), some (.int x5), none] [.int q20.1] (S0, q20.2) (some (.int r)) (S0, m')
          refine am_AW.run am_base_ok ok_M_who (Nat.le_add_left 1 d) 2 (pc1 := 60) (ls1 := [some (.ref 63), some (.int x1), some (.int x2), some (.int x3), some (.int x4), some (.int x5), some (.int q20.1)]) (st1 := [.int q20.1]) (σ1 := (S0, q20.2)) rfl ?_
          refine am_AW.brP ok_M_who rfl rfl am_c_eq (fun c21 => ?_) (fun c21 => ?_)
          · rw [if_pos c21] at h
            refine am_AW.run am_base_ok ok_M_who (Nat.le_add_left 1 d) 9 (pc1 := 80) (ls1 := [some (.ref 63), some (.int x1), some (.int x2), some (.int x3), some (.int x4), some (.int x5), some (.int q20.1)]) (st1 := [.int x5, .int (((40 : Int32) * x3) + x4), .int x2, .int x1, .ref 63]) (σ1 := (S0, q20.2)) rfl ?_
            obtain ⟨q24, hq24, h⟩ := Option.bind_eq_some_iff.mp h
            refine am_AW.callV ok_M_who am_nw_ok (As := [.int x1, .int x2, .int (((40 : Int32) * x3) + x4), .int x5]) (rest := []) rfl rfl rfl oR_M_fitting lk_M_297 iM_M_fitting sE_M_fitting (qc := kq10) rfl rfl rfl rfl (Nat.le_of_ble_eq_true rfl) (f_M_fitting_ok (d := d) (by omega) x1 x2 (((40 : Int32) * x3) + x4) x5 hq24) ?_
            change am_AW am_nw ro (d + 1) mr_M_who 83 [some (.ref 63), some (.int x1), some (.int x2), some (.int x3), some (.int x4), some (.int x5), some (.int q20.1)] [.int q24.1] (S0, q24.2) (some (.int r)) (S0, m')
            obtain ⟨rfl, rfl⟩ := Prod.mk.inj (Option.some.inj h)
            exact am_AW.ret ok_M_who rfl rfl rfl rfl
          · rw [if_neg c21] at h
            refine am_AW.run am_base_ok ok_M_who (Nat.le_add_left 1 d) 2 (pc1 := 83) (ls1 := [some (.ref 63), some (.int x1), some (.int x2), some (.int x3), some (.int x4), some (.int x5), some (.int q20.1)]) (st1 := [.int q20.1]) (σ1 := (S0, q20.2)) rfl ?_
            obtain ⟨rfl, rfl⟩ := Prod.mk.inj (Option.some.inj h)
            exact am_AW.ret ok_M_who rfl rfl rfl rfl
/-! FriezePolygonsModel.markOf(I)I -/
def f_M_markOf_b55 (x1 : Int32) (x2 : Int32) (m : am_Mm) : Option (Int32 × am_Mm) :=
  (f_M_began (21 : Int32) m).bind fun q8 =>
  (f_M_began (20 : Int32) q8).bind fun q11 =>
  (f_M_cutsAt 67 x1 q11).bind fun q14 =>
  if x2 = (1 : Int32) then
    some ((x1 + q14.1), q14.2)
  else
    if x2 = (3 : Int32) then
      some (((x1 + q14.1) - (1000 : Int32)), q14.2)
    else
      some (((2 : Int32) * (x1 + q14.1)), q14.2)
def f_M_markOf_b52 (x1 : Int32) (x2 : Int32) (s1 : Int32) (m : am_Mm) : Option (Int32 × am_Mm) :=
  (f_M_began s1 m).bind fun q20 =>
  f_M_markOf_b55 x1 x2 q20
def f_M_markOf (x1 : Int32) (m : am_Mm) : Option (Int32 × am_Mm) :=
  (f_M_kindOf 67 x1 m).bind fun q3 =>
  if q3.1 < (4 : Int32) then
    if q3.1 = (1 : Int32) then
      f_M_markOf_b55 x1 q3.1 q3.2
    else
      if q3.1 = (3 : Int32) then
        f_M_markOf_b52 x1 q3.1 (22 : Int32) q3.2
      else
        f_M_markOf_b52 x1 q3.1 (24 : Int32) q3.2
  else
    (f_M_began (23 : Int32) q3.2).bind fun q23 =>
    (f_M_began (20 : Int32) q23).bind fun q26 =>
    (f_M_fixedSize x1 q26).bind fun q29 =>
    some ((x1 - q29.1), q29.2)
set_option maxHeartbeats 4000000 in
set_option maxRecDepth 100000 in
theorem f_M_markOf_b55_ok {ro : am_Ro} {d : Nat} (hd : 8 ≤ d + 1) (x1 : Int32) (x2 : Int32) {m m' : am_Mm} {r : Int32} (h : f_M_markOf_b55 x1 x2 m = some (r, m')) : am_AW am_nw ro (d + 1) mr_M_markOf 55 [some (.ref 63), some (.int x1), some (.int x2), none] [] (S0, m) (some (.int r)) (S0, m') := by
  unfold f_M_markOf_b55 at h
  refine am_AW.run am_base_ok ok_M_markOf (Nat.le_add_left 1 d) 2 (pc1 := 58) (ls1 := [some (.ref 63), some (.int x1), some (.int x2), none]) (st1 := [.int (21 : Int32), .ref 63]) (σ1 := (S0, m)) rfl ?_
  obtain ⟨q8, hq8, h⟩ := Option.bind_eq_some_iff.mp h
  refine am_AW.callV ok_M_markOf am_nw_ok (As := [.int (21 : Int32)]) (rest := []) rfl rfl rfl oR_M_began lk_M_327 iM_M_began sE_M_began (qc := kq10) rfl rfl rfl rfl (Nat.le_of_ble_eq_true rfl) (f_M_began_ok (d := d) (by omega) (21 : Int32) hq8) ?_
  change am_AW am_nw ro (d + 1) mr_M_markOf 61 [some (.ref 63), some (.int x1), some (.int x2), none] [] (S0, q8) (some (.int r)) (S0, m')
  refine am_AW.run am_base_ok ok_M_markOf (Nat.le_add_left 1 d) 2 (pc1 := 64) (ls1 := [some (.ref 63), some (.int x1), some (.int x2), none]) (st1 := [.int (20 : Int32), .ref 63]) (σ1 := (S0, q8)) rfl ?_
  obtain ⟨q11, hq11, h⟩ := Option.bind_eq_some_iff.mp h
  refine am_AW.callV ok_M_markOf am_nw_ok (As := [.int (20 : Int32)]) (rest := []) rfl rfl rfl oR_M_began lk_M_327 iM_M_began sE_M_began (qc := kq10) rfl rfl rfl rfl (Nat.le_of_ble_eq_true rfl) (f_M_began_ok (d := d) (by omega) (20 : Int32) hq11) ?_
  change am_AW am_nw ro (d + 1) mr_M_markOf 67 [some (.ref 63), some (.int x1), some (.int x2), none] [] (S0, q11) (some (.int r)) (S0, m')
  refine am_AW.run am_base_ok ok_M_markOf (Nat.le_add_left 1 d) 5 (pc1 := 74) (ls1 := [some (.ref 63), some (.int x1), some (.int x2), none]) (st1 := [.int x1, .ref 67, .ref 63, .int x1]) (σ1 := (S0, q11)) rfl ?_
  obtain ⟨q14, hq14, h⟩ := Option.bind_eq_some_iff.mp h
  refine am_AW.callV ok_M_markOf am_nw_ok (As := [.ref 67, .int x1]) (rest := [.int x1]) rfl rfl rfl oR_M_cutsAt lk_M_111 iM_M_cutsAt sE_M_cutsAt (qc := kq10) rfl rfl rfl rfl (Nat.le_of_ble_eq_true rfl) (f_M_cutsAt_ok (d := d) (by omega) 67 x1 (by simp) hq14) ?_
  change am_AW am_nw ro (d + 1) mr_M_markOf 77 [some (.ref 63), some (.int x1), some (.int x2), none] [.int q14.1, .int x1] (S0, q14.2) (some (.int r)) (S0, m')
  refine am_AW.run am_base_ok ok_M_markOf (Nat.le_add_left 1 d) 4 (pc1 := 81) (ls1 := [some (.ref 63), some (.int x1), some (.int x2), some (.int (x1 + q14.1))]) (st1 := [.int (1 : Int32), .int x2]) (σ1 := (S0, q14.2)) rfl ?_
  refine am_AW.brN ok_M_markOf rfl rfl am_c_ne (fun c15 => ?_) (fun c15 => ?_)
  · rw [if_pos c15] at h
    refine am_AW.run am_base_ok ok_M_markOf (Nat.le_add_left 1 d) 2 (pc1 := 104) (ls1 := [some (.ref 63), some (.int x1), some (.int x2), some (.int (x1 + q14.1))]) (st1 := [.int (x1 + q14.1)]) (σ1 := (S0, q14.2)) rfl ?_
    obtain ⟨rfl, rfl⟩ := Prod.mk.inj (Option.some.inj h)
    exact am_AW.ret ok_M_markOf rfl rfl rfl rfl
  · rw [if_neg c15] at h
    refine am_AW.run am_base_ok ok_M_markOf (Nat.le_add_left 1 d) 2 (pc1 := 90) (ls1 := [some (.ref 63), some (.int x1), some (.int x2), some (.int (x1 + q14.1))]) (st1 := [.int (3 : Int32), .int x2]) (σ1 := (S0, q14.2)) rfl ?_
    refine am_AW.brN ok_M_markOf rfl rfl am_c_ne (fun c16 => ?_) (fun c16 => ?_)
    · rw [if_pos c16] at h
      refine am_AW.run am_base_ok ok_M_markOf (Nat.le_add_left 1 d) 4 (pc1 := 104) (ls1 := [some (.ref 63), some (.int x1), some (.int x2), some (.int (x1 + q14.1))]) (st1 := [.int ((x1 + q14.1) - (1000 : Int32))]) (σ1 := (S0, q14.2)) rfl ?_
      obtain ⟨rfl, rfl⟩ := Prod.mk.inj (Option.some.inj h)
      exact am_AW.ret ok_M_markOf rfl rfl rfl rfl
    · rw [if_neg c16] at h
      refine am_AW.run am_base_ok ok_M_markOf (Nat.le_add_left 1 d) 3 (pc1 := 104) (ls1 := [some (.ref 63), some (.int x1), some (.int x2), some (.int (x1 + q14.1))]) (st1 := [.int ((2 : Int32) * (x1 + q14.1))]) (σ1 := (S0, q14.2)) rfl ?_
      obtain ⟨rfl, rfl⟩ := Prod.mk.inj (Option.some.inj h)
      exact am_AW.ret ok_M_markOf rfl rfl rfl rfl
set_option maxHeartbeats 4000000 in
set_option maxRecDepth 100000 in
theorem f_M_markOf_b52_ok {ro : am_Ro} {d : Nat} (hd : 8 ≤ d + 1) (x1 : Int32) (x2 : Int32) (s1 : Int32) {m m' : am_Mm} {r : Int32} (h : f_M_markOf_b52 x1 x2 s1 m = some (r, m')) : am_AW am_nw ro (d + 1) mr_M_markOf 52 [some (.ref 63), some (.int x1), some (.int x2), none] [.int s1, .ref 63] (S0, m) (some (.int r)) (S0, m') := by
  unfold f_M_markOf_b52 at h
  obtain ⟨q20, hq20, h⟩ := Option.bind_eq_some_iff.mp h
  refine am_AW.callV ok_M_markOf am_nw_ok (As := [.int s1]) (rest := []) rfl rfl rfl oR_M_began lk_M_327 iM_M_began sE_M_began (qc := kq10) rfl rfl rfl rfl (Nat.le_of_ble_eq_true rfl) (f_M_began_ok (d := d) (by omega) s1 hq20) ?_
  change am_AW am_nw ro (d + 1) mr_M_markOf 55 [some (.ref 63), some (.int x1), some (.int x2), none] [] (S0, q20) (some (.int r)) (S0, m')
  exact am_AW.weak (f_M_markOf_b55_ok hd x1 x2  h) (by simp only [am_le, and_self])
set_option maxHeartbeats 4000000 in
set_option maxRecDepth 100000 in
theorem f_M_markOf_ok {ro : am_Ro} {d : Nat} (hd : 8 ≤ d) (x1 : Int32) {m m' : am_Mm} {r : Int32} (h : f_M_markOf x1 m = some (r, m')) : am_Mt am_nw ro d mr_M_markOf [.ref 63, .int x1] (S0, m) (some (.int r)) (S0, m') := by
  obtain ⟨d, rfl⟩ : ∃ d0, d = d0 + 1 := ⟨d - 1, by omega⟩
  refine am_Mt.of (by decide +kernel) (Nat.le_of_ble_eq_true rfl) ?_
  change am_AW am_nw ro (d + 1) mr_M_markOf 0 [some (.ref 63), some (.int x1), none, none] [] (S0, m) (some (.int r)) (S0, m')
  unfold f_M_markOf at h
  refine am_AW.run am_base_ok ok_M_markOf (Nat.le_add_left 1 d) 3 (pc1 := 5) (ls1 := [some (.ref 63), some (.int x1), none, none]) (st1 := [.int x1, .ref 67]) (σ1 := (S0, m)) rfl ?_
  obtain ⟨q3, hq3, h⟩ := Option.bind_eq_some_iff.mp h
  refine am_AW.callS ok_M_markOf am_nw_ok (As := [.ref 67, .int x1]) (rest := []) rfl rfl rfl oR_M_kindOf lk_M_115 sT_M_kindOf rfl (Nat.le_of_ble_eq_true rfl) (f_M_kindOf_ok (d := d) (by omega) 67 x1 (by simp) hq3) ?_
  change am_AW am_nw ro (d + 1) mr_M_markOf 8 [some (.ref 63), some (.int x1), none, none] [.int q3.1] (S0, q3.2) (some (.int r)) (S0, m')
  refine am_AW.run am_base_ok ok_M_markOf (Nat.le_add_left 1 d) 3 (pc1 := 11) (ls1 := [some (.ref 63), some (.int x1), some (.int q3.1), none]) (st1 := [.int (4 : Int32), .int q3.1]) (σ1 := (S0, q3.2)) rfl ?_
  refine am_AW.brP ok_M_markOf rfl rfl am_c_lt (fun c4 => ?_) (fun c4 => ?_)
  · rw [if_pos c4] at h
    refine am_AW.run am_base_ok ok_M_markOf (Nat.le_add_left 1 d) 2 (pc1 := 36) (ls1 := [some (.ref 63), some (.int x1), some (.int q3.1), none]) (st1 := [.int (1 : Int32), .int q3.1]) (σ1 := (S0, q3.2)) rfl ?_
    refine am_AW.brP ok_M_markOf rfl rfl am_c_eq (fun c5 => ?_) (fun c5 => ?_)
    · rw [if_pos c5] at h
      exact am_AW.weak (f_M_markOf_b55_ok hd x1 q3.1  h) (by simp only [am_le, and_self])
    · rw [if_neg c5] at h
      refine am_AW.run am_base_ok ok_M_markOf (Nat.le_add_left 1 d) 3 (pc1 := 42) (ls1 := [some (.ref 63), some (.int x1), some (.int q3.1), none]) (st1 := [.int (3 : Int32), .int q3.1, .ref 63]) (σ1 := (S0, q3.2)) rfl ?_
      refine am_AW.brN ok_M_markOf rfl rfl am_c_ne (fun c17 => ?_) (fun c17 => ?_)
      · rw [if_pos c17] at h
        refine am_AW.run am_base_ok ok_M_markOf (Nat.le_add_left 1 d) 2 (pc1 := 52) (ls1 := [some (.ref 63), some (.int x1), some (.int q3.1), none]) (st1 := [.int (22 : Int32), .ref 63]) (σ1 := (S0, q3.2)) rfl ?_
        exact am_AW.weak (f_M_markOf_b52_ok hd x1 q3.1 (22 : Int32)  h) (by simp only [am_le, and_self])
      · rw [if_neg c17] at h
        refine am_AW.run am_base_ok ok_M_markOf (Nat.le_add_left 1 d) 1 (pc1 := 52) (ls1 := [some (.ref 63), some (.int x1), some (.int q3.1), none]) (st1 := [.int (24 : Int32), .ref 63]) (σ1 := (S0, q3.2)) rfl ?_
        exact am_AW.weak (f_M_markOf_b52_ok hd x1 q3.1 (24 : Int32)  h) (by simp only [am_le, and_self])
  · rw [if_neg c4] at h
    refine am_AW.run am_base_ok ok_M_markOf (Nat.le_add_left 1 d) 2 (pc1 := 17) (ls1 := [some (.ref 63), some (.int x1), some (.int q3.1), none]) (st1 := [.int (23 : Int32), .ref 63]) (σ1 := (S0, q3.2)) rfl ?_
    obtain ⟨q23, hq23, h⟩ := Option.bind_eq_some_iff.mp h
    refine am_AW.callV ok_M_markOf am_nw_ok (As := [.int (23 : Int32)]) (rest := []) rfl rfl rfl oR_M_began lk_M_327 iM_M_began sE_M_began (qc := kq10) rfl rfl rfl rfl (Nat.le_of_ble_eq_true rfl) (f_M_began_ok (d := d) (by omega) (23 : Int32) hq23) ?_
    change am_AW am_nw ro (d + 1) mr_M_markOf 20 [some (.ref 63), some (.int x1), some (.int q3.1), none] [] (S0, q23) (some (.int r)) (S0, m')
    refine am_AW.run am_base_ok ok_M_markOf (Nat.le_add_left 1 d) 2 (pc1 := 23) (ls1 := [some (.ref 63), some (.int x1), some (.int q3.1), none]) (st1 := [.int (20 : Int32), .ref 63]) (σ1 := (S0, q23)) rfl ?_
    obtain ⟨q26, hq26, h⟩ := Option.bind_eq_some_iff.mp h
    refine am_AW.callV ok_M_markOf am_nw_ok (As := [.int (20 : Int32)]) (rest := []) rfl rfl rfl oR_M_began lk_M_327 iM_M_began sE_M_began (qc := kq10) rfl rfl rfl rfl (Nat.le_of_ble_eq_true rfl) (f_M_began_ok (d := d) (by omega) (20 : Int32) hq26) ?_
    change am_AW am_nw ro (d + 1) mr_M_markOf 26 [some (.ref 63), some (.int x1), some (.int q3.1), none] [] (S0, q26) (some (.int r)) (S0, m')
    refine am_AW.run am_base_ok ok_M_markOf (Nat.le_add_left 1 d) 3 (pc1 := 29) (ls1 := [some (.ref 63), some (.int x1), some (.int q3.1), none]) (st1 := [.int x1, .ref 63, .int x1]) (σ1 := (S0, q26)) rfl ?_
    obtain ⟨q29, hq29, h⟩ := Option.bind_eq_some_iff.mp h
    refine am_AW.callV ok_M_markOf am_nw_ok (As := [.int x1]) (rest := [.int x1]) rfl rfl rfl oR_M_fixedSize lk_M_333 iM_M_fixedSize sE_M_fixedSize (qc := kq10) rfl rfl rfl rfl (Nat.le_of_ble_eq_true rfl) (f_M_fixedSize_ok (d := d) (by omega) x1 hq29) ?_
    change am_AW am_nw ro (d + 1) mr_M_markOf 32 [some (.ref 63), some (.int x1), some (.int q3.1), none] [.int q29.1, .int x1] (S0, q29.2) (some (.int r)) (S0, m')
    refine am_AW.run am_base_ok ok_M_markOf (Nat.le_add_left 1 d) 1 (pc1 := 33) (ls1 := [some (.ref 63), some (.int x1), some (.int q3.1), none]) (st1 := [.int (x1 - q29.1)]) (σ1 := (S0, q29.2)) rfl ?_
    obtain ⟨rfl, rfl⟩ := Prod.mk.inj (Option.some.inj h)
    exact am_AW.ret ok_M_markOf rfl rfl rfl rfl
/-! FriezePolygonsModel.askedSize(I)I -/
def f_M_askedSize_b31 (x1 : Int32) (x2 : Int32) (m : am_Mm) : Option (Int32 × am_Mm) :=
  (f_M_began (11 : Int32) m).bind fun q11 =>
  (f_M_lentSize x1 q11).bind fun q14 =>
  (f_M_markOf x1 q14.2).bind fun q17 =>
  if x2 = (2 : Int32) then
    some ((-(q14.1 + q17.1)), q17.2)
  else
    some ((q14.1 + q17.1), q17.2)
def f_M_askedSize (x1 : Int32) (m : am_Mm) : Option (Int32 × am_Mm) :=
  (f_M_kindOf 67 x1 m).bind fun q3 =>
  if q3.1 < (4 : Int32) then
    if q3.1 = (2 : Int32) then
      (f_M_began (12 : Int32) q3.2).bind fun q8 =>
      f_M_askedSize_b31 x1 q3.1 q8
    else
      f_M_askedSize_b31 x1 q3.1 q3.2
  else
    (f_M_fixedSize x1 q3.2).bind fun q21 =>
    some (q21.1, q21.2)
set_option maxHeartbeats 4000000 in
set_option maxRecDepth 100000 in
theorem f_M_askedSize_b31_ok {ro : am_Ro} {d : Nat} (hd : 9 ≤ d + 1) (x1 : Int32) (x2 : Int32) {m m' : am_Mm} {r : Int32} (h : f_M_askedSize_b31 x1 x2 m = some (r, m')) : am_AW am_nw ro (d + 1) mr_M_askedSize 31 [some (.ref 63), some (.int x1), some (.int x2), none] [] (S0, m) (some (.int r)) (S0, m') := by
  unfold f_M_askedSize_b31 at h
  refine am_AW.run am_base_ok ok_M_askedSize (Nat.le_add_left 1 d) 2 (pc1 := 34) (ls1 := [some (.ref 63), some (.int x1), some (.int x2), none]) (st1 := [.int (11 : Int32), .ref 63]) (σ1 := (S0, m)) rfl ?_
  obtain ⟨q11, hq11, h⟩ := Option.bind_eq_some_iff.mp h
  refine am_AW.callV ok_M_askedSize am_nw_ok (As := [.int (11 : Int32)]) (rest := []) rfl rfl rfl oR_M_began lk_M_327 iM_M_began sE_M_began (qc := kq10) rfl rfl rfl rfl (Nat.le_of_ble_eq_true rfl) (f_M_began_ok (d := d) (by omega) (11 : Int32) hq11) ?_
  change am_AW am_nw ro (d + 1) mr_M_askedSize 37 [some (.ref 63), some (.int x1), some (.int x2), none] [] (S0, q11) (some (.int r)) (S0, m')
  refine am_AW.run am_base_ok ok_M_askedSize (Nat.le_add_left 1 d) 2 (pc1 := 39) (ls1 := [some (.ref 63), some (.int x1), some (.int x2), none]) (st1 := [.int x1, .ref 63]) (σ1 := (S0, q11)) rfl ?_
  obtain ⟨q14, hq14, h⟩ := Option.bind_eq_some_iff.mp h
  refine am_AW.callV ok_M_askedSize am_nw_ok (As := [.int x1]) (rest := []) rfl rfl rfl oR_M_lentSize lk_M_330 iM_M_lentSize sE_M_lentSize (qc := kq10) rfl rfl rfl rfl (Nat.le_of_ble_eq_true rfl) (f_M_lentSize_ok (d := d) (by omega) x1 hq14) ?_
  change am_AW am_nw ro (d + 1) mr_M_askedSize 42 [some (.ref 63), some (.int x1), some (.int x2), none] [.int q14.1] (S0, q14.2) (some (.int r)) (S0, m')
  refine am_AW.run am_base_ok ok_M_askedSize (Nat.le_add_left 1 d) 4 (pc1 := 46) (ls1 := [some (.ref 63), some (.int x1), some (.int x2), some (.int q14.1)]) (st1 := [.int x1, .ref 63, .int q14.1]) (σ1 := (S0, q14.2)) rfl ?_
  obtain ⟨q17, hq17, h⟩ := Option.bind_eq_some_iff.mp h
  refine am_AW.callV ok_M_askedSize am_nw_ok (As := [.int x1]) (rest := [.int q14.1]) rfl rfl rfl oR_M_markOf lk_M_336 iM_M_markOf sE_M_markOf (qc := kq10) rfl rfl rfl rfl (Nat.le_of_ble_eq_true rfl) (f_M_markOf_ok (d := d) (by omega) x1 hq17) ?_
  change am_AW am_nw ro (d + 1) mr_M_askedSize 49 [some (.ref 63), some (.int x1), some (.int x2), some (.int q14.1)] [.int q17.1, .int q14.1] (S0, q17.2) (some (.int r)) (S0, m')
  refine am_AW.run am_base_ok ok_M_askedSize (Nat.le_add_left 1 d) 4 (pc1 := 53) (ls1 := [some (.ref 63), some (.int x1), some (.int x2), some (.int (q14.1 + q17.1))]) (st1 := [.int (2 : Int32), .int x2]) (σ1 := (S0, q17.2)) rfl ?_
  refine am_AW.brN ok_M_askedSize rfl rfl am_c_ne (fun c18 => ?_) (fun c18 => ?_)
  · rw [if_pos c18] at h
    refine am_AW.run am_base_ok ok_M_askedSize (Nat.le_add_left 1 d) 3 (pc1 := 62) (ls1 := [some (.ref 63), some (.int x1), some (.int x2), some (.int (q14.1 + q17.1))]) (st1 := [.int (-(q14.1 + q17.1))]) (σ1 := (S0, q17.2)) rfl ?_
    obtain ⟨rfl, rfl⟩ := Prod.mk.inj (Option.some.inj h)
    exact am_AW.ret ok_M_askedSize rfl rfl rfl rfl
  · rw [if_neg c18] at h
    refine am_AW.run am_base_ok ok_M_askedSize (Nat.le_add_left 1 d) 1 (pc1 := 62) (ls1 := [some (.ref 63), some (.int x1), some (.int x2), some (.int (q14.1 + q17.1))]) (st1 := [.int (q14.1 + q17.1)]) (σ1 := (S0, q17.2)) rfl ?_
    obtain ⟨rfl, rfl⟩ := Prod.mk.inj (Option.some.inj h)
    exact am_AW.ret ok_M_askedSize rfl rfl rfl rfl
set_option maxHeartbeats 4000000 in
set_option maxRecDepth 100000 in
theorem f_M_askedSize_ok {ro : am_Ro} {d : Nat} (hd : 9 ≤ d) (x1 : Int32) {m m' : am_Mm} {r : Int32} (h : f_M_askedSize x1 m = some (r, m')) : am_Mt am_nw ro d mr_M_askedSize [.ref 63, .int x1] (S0, m) (some (.int r)) (S0, m') := by
  obtain ⟨d, rfl⟩ : ∃ d0, d = d0 + 1 := ⟨d - 1, by omega⟩
  refine am_Mt.of (by decide +kernel) (Nat.le_of_ble_eq_true rfl) ?_
  change am_AW am_nw ro (d + 1) mr_M_askedSize 0 [some (.ref 63), some (.int x1), none, none] [] (S0, m) (some (.int r)) (S0, m')
  unfold f_M_askedSize at h
  refine am_AW.run am_base_ok ok_M_askedSize (Nat.le_add_left 1 d) 3 (pc1 := 5) (ls1 := [some (.ref 63), some (.int x1), none, none]) (st1 := [.int x1, .ref 67]) (σ1 := (S0, m)) rfl ?_
  obtain ⟨q3, hq3, h⟩ := Option.bind_eq_some_iff.mp h
  refine am_AW.callS ok_M_askedSize am_nw_ok (As := [.ref 67, .int x1]) (rest := []) rfl rfl rfl oR_M_kindOf lk_M_115 sT_M_kindOf rfl (Nat.le_of_ble_eq_true rfl) (f_M_kindOf_ok (d := d) (by omega) 67 x1 (by simp) hq3) ?_
  change am_AW am_nw ro (d + 1) mr_M_askedSize 8 [some (.ref 63), some (.int x1), none, none] [.int q3.1] (S0, q3.2) (some (.int r)) (S0, m')
  refine am_AW.run am_base_ok ok_M_askedSize (Nat.le_add_left 1 d) 3 (pc1 := 11) (ls1 := [some (.ref 63), some (.int x1), some (.int q3.1), none]) (st1 := [.int (4 : Int32), .int q3.1]) (σ1 := (S0, q3.2)) rfl ?_
  refine am_AW.brP ok_M_askedSize rfl rfl am_c_lt (fun c4 => ?_) (fun c4 => ?_)
  · rw [if_pos c4] at h
    refine am_AW.run am_base_ok ok_M_askedSize (Nat.le_add_left 1 d) 2 (pc1 := 22) (ls1 := [some (.ref 63), some (.int x1), some (.int q3.1), none]) (st1 := [.int (2 : Int32), .int q3.1]) (σ1 := (S0, q3.2)) rfl ?_
    refine am_AW.brN ok_M_askedSize rfl rfl am_c_ne (fun c5 => ?_) (fun c5 => ?_)
    · rw [if_pos c5] at h
      refine am_AW.run am_base_ok ok_M_askedSize (Nat.le_add_left 1 d) 2 (pc1 := 28) (ls1 := [some (.ref 63), some (.int x1), some (.int q3.1), none]) (st1 := [.int (12 : Int32), .ref 63]) (σ1 := (S0, q3.2)) rfl ?_
      obtain ⟨q8, hq8, h⟩ := Option.bind_eq_some_iff.mp h
      refine am_AW.callV ok_M_askedSize am_nw_ok (As := [.int (12 : Int32)]) (rest := []) rfl rfl rfl oR_M_began lk_M_327 iM_M_began sE_M_began (qc := kq10) rfl rfl rfl rfl (Nat.le_of_ble_eq_true rfl) (f_M_began_ok (d := d) (by omega) (12 : Int32) hq8) ?_
      change am_AW am_nw ro (d + 1) mr_M_askedSize 31 [some (.ref 63), some (.int x1), some (.int q3.1), none] [] (S0, q8) (some (.int r)) (S0, m')
      exact am_AW.weak (f_M_askedSize_b31_ok hd x1 q3.1  h) (by simp only [am_le, and_self])
    · rw [if_neg c5] at h
      exact am_AW.weak (f_M_askedSize_b31_ok hd x1 q3.1  h) (by simp only [am_le, and_self])
  · rw [if_neg c4] at h
    refine am_AW.run am_base_ok ok_M_askedSize (Nat.le_add_left 1 d) 2 (pc1 := 16) (ls1 := [some (.ref 63), some (.int x1), some (.int q3.1), none]) (st1 := [.int x1, .ref 63]) (σ1 := (S0, q3.2)) rfl ?_
    obtain ⟨q21, hq21, h⟩ := Option.bind_eq_some_iff.mp h
    refine am_AW.callV ok_M_askedSize am_nw_ok (As := [.int x1]) (rest := []) rfl rfl rfl oR_M_fixedSize lk_M_333 iM_M_fixedSize sE_M_fixedSize (qc := kq10) rfl rfl rfl rfl (Nat.le_of_ble_eq_true rfl) (f_M_fixedSize_ok (d := d) (by omega) x1 hq21) ?_
    change am_AW am_nw ro (d + 1) mr_M_askedSize 19 [some (.ref 63), some (.int x1), some (.int q3.1), none] [.int q21.1] (S0, q21.2) (some (.int r)) (S0, m')
    obtain ⟨rfl, rfl⟩ := Prod.mk.inj (Option.some.inj h)
    exact am_AW.ret ok_M_askedSize rfl rfl rfl rfl
/-! FriezePolygonsModel.ask(II)I -/
def f_M_ask (x1 : Int32) (x2 : Int32) (m : am_Mm) : Option (Int32 × am_Mm) :=
  (f_M_isCorner x1 m).bind fun q3 =>
  if q3.1 = (0 : Int32) then
    some ((-1000001 : Int32), q3.2)
  else
    (f_M_in (x2.toInt64) (0 : Int64) (1 : Int64) q3.2).bind fun q7 =>
    if q7.1 = (0 : Int32) then
      some ((-1000001 : Int32), q7.2)
    else
      if x2 = (0 : Int32) then
        (f_M_askedSize x1 (am_pI q7.2 63 25 (0 : Int32))).bind fun q12 =>
        some (q12.1, q12.2)
      else
        (f_M_markOf x1 (am_pI q7.2 63 25 (0 : Int32))).bind fun q15 =>
        some (q15.1, q15.2)
set_option maxHeartbeats 4000000 in
set_option maxRecDepth 100000 in
theorem f_M_ask_ok {ro : am_Ro} {d : Nat} (hd : 10 ≤ d) (x1 : Int32) (x2 : Int32) {m m' : am_Mm} {r : Int32} (h : f_M_ask x1 x2 m = some (r, m')) : am_Mt am_nw ro d mr_M_ask [.ref 63, .int x1, .int x2] (S0, m) (some (.int r)) (S0, m') := by
  obtain ⟨d, rfl⟩ : ∃ d0, d = d0 + 1 := ⟨d - 1, by omega⟩
  refine am_Mt.of (by decide +kernel) (Nat.le_of_ble_eq_true rfl) ?_
  change am_AW am_nw ro (d + 1) mr_M_ask 0 [some (.ref 63), some (.int x1), some (.int x2)] [] (S0, m) (some (.int r)) (S0, m')
  unfold f_M_ask at h
  refine am_AW.run am_base_ok ok_M_ask (Nat.le_add_left 1 d) 2 (pc1 := 2) (ls1 := [some (.ref 63), some (.int x1), some (.int x2)]) (st1 := [.int x1, .ref 63]) (σ1 := (S0, m)) rfl ?_
  obtain ⟨q3, hq3, h⟩ := Option.bind_eq_some_iff.mp h
  refine am_AW.callV ok_M_ask am_nw_ok (As := [.int x1]) (rest := []) rfl rfl rfl oR_M_isCorner lk_M_192 iM_M_isCorner sE_M_isCorner (qc := kq10) rfl rfl rfl rfl (Nat.le_of_ble_eq_true rfl) (f_M_isCorner_ok (d := d) (by omega) x1 hq3) ?_
  change am_AW am_nw ro (d + 1) mr_M_ask 5 [some (.ref 63), some (.int x1), some (.int x2)] [.int q3.1] (S0, q3.2) (some (.int r)) (S0, m')
  refine am_AW.brP ok_M_ask rfl rfl am_c_eq (fun c4 => ?_) (fun c4 => ?_)
  · rw [if_pos c4] at h
    refine am_AW.run am_base_ok ok_M_ask (Nat.le_add_left 1 d) 1 (pc1 := 20) (ls1 := [some (.ref 63), some (.int x1), some (.int x2)]) (st1 := [.int (-1000001 : Int32)]) (σ1 := (S0, q3.2)) rfl ?_
    obtain ⟨rfl, rfl⟩ := Prod.mk.inj (Option.some.inj h)
    exact am_AW.ret ok_M_ask rfl rfl rfl rfl
  · rw [if_neg c4] at h
    refine am_AW.run am_base_ok ok_M_ask (Nat.le_add_left 1 d) 4 (pc1 := 12) (ls1 := [some (.ref 63), some (.int x1), some (.int x2)]) (st1 := [.long (1 : Int64), .long (0 : Int64), .long (x2.toInt64)]) (σ1 := (S0, q3.2)) rfl ?_
    obtain ⟨q7, hq7, h⟩ := Option.bind_eq_some_iff.mp h
    refine am_AW.callS ok_M_ask am_nw_ok (As := [.long (x2.toInt64), .long (0 : Int64), .long (1 : Int64)]) (rest := []) rfl rfl rfl oR_M_in lk_M_60 sT_M_in rfl (Nat.le_of_ble_eq_true rfl) (f_M_in_ok (d := d) (by omega) (x2.toInt64) (0 : Int64) (1 : Int64) hq7) ?_
    change am_AW am_nw ro (d + 1) mr_M_ask 15 [some (.ref 63), some (.int x1), some (.int x2)] [.int q7.1] (S0, q7.2) (some (.int r)) (S0, m')
    refine am_AW.brN ok_M_ask rfl rfl am_c_ne (fun c8 => ?_) (fun c8 => ?_)
    · rw [if_pos c8] at h
      refine am_AW.run am_base_ok ok_M_ask (Nat.le_add_left 1 d) 1 (pc1 := 20) (ls1 := [some (.ref 63), some (.int x1), some (.int x2)]) (st1 := [.int (-1000001 : Int32)]) (σ1 := (S0, q7.2)) rfl ?_
      obtain ⟨rfl, rfl⟩ := Prod.mk.inj (Option.some.inj h)
      exact am_AW.ret ok_M_ask rfl rfl rfl rfl
    · rw [if_neg c8] at h
      refine am_AW.run am_base_ok ok_M_ask (Nat.le_add_left 1 d) 2 (pc1 := 23) (ls1 := [some (.ref 63), some (.int x1), some (.int x2)]) (st1 := [.int (0 : Int32), .ref 63]) (σ1 := (S0, q7.2)) rfl ?_
      refine am_AW.puti ok_M_ask (Nat.le_add_left 1 d) rfl rfl rfl (qc := kq10) rfl (by decide) ty_10_25 ?_
      refine am_AW.run am_base_ok ok_M_ask (Nat.le_add_left 1 d) 1 (pc1 := 27) (ls1 := [some (.ref 63), some (.int x1), some (.int x2)]) (st1 := [.int x2]) (σ1 := (S0, (am_pI q7.2 63 25 (0 : Int32)))) rfl ?_
      refine am_AW.brN ok_M_ask rfl rfl am_c_ne (fun c9 => ?_) (fun c9 => ?_)
      · rw [if_pos c9] at h
        refine am_AW.run am_base_ok ok_M_ask (Nat.le_add_left 1 d) 2 (pc1 := 32) (ls1 := [some (.ref 63), some (.int x1), some (.int x2)]) (st1 := [.int x1, .ref 63]) (σ1 := (S0, (am_pI q7.2 63 25 (0 : Int32)))) rfl ?_
        obtain ⟨q12, hq12, h⟩ := Option.bind_eq_some_iff.mp h
        refine am_AW.callV ok_M_ask am_nw_ok (As := [.int x1]) (rest := []) rfl rfl rfl oR_M_askedSize lk_M_339 iM_M_askedSize sE_M_askedSize (qc := kq10) rfl rfl rfl rfl (Nat.le_of_ble_eq_true rfl) (f_M_askedSize_ok (d := d) (by omega) x1 hq12) ?_
        change am_AW am_nw ro (d + 1) mr_M_ask 35 [some (.ref 63), some (.int x1), some (.int x2)] [.int q12.1] (S0, q12.2) (some (.int r)) (S0, m')
        refine am_AW.run am_base_ok ok_M_ask (Nat.le_add_left 1 d) 1 (pc1 := 43) (ls1 := [some (.ref 63), some (.int x1), some (.int x2)]) (st1 := [.int q12.1]) (σ1 := (S0, q12.2)) rfl ?_
        obtain ⟨rfl, rfl⟩ := Prod.mk.inj (Option.some.inj h)
        exact am_AW.ret ok_M_ask rfl rfl rfl rfl
      · rw [if_neg c9] at h
        refine am_AW.run am_base_ok ok_M_ask (Nat.le_add_left 1 d) 2 (pc1 := 40) (ls1 := [some (.ref 63), some (.int x1), some (.int x2)]) (st1 := [.int x1, .ref 63]) (σ1 := (S0, (am_pI q7.2 63 25 (0 : Int32)))) rfl ?_
        obtain ⟨q15, hq15, h⟩ := Option.bind_eq_some_iff.mp h
        refine am_AW.callV ok_M_ask am_nw_ok (As := [.int x1]) (rest := []) rfl rfl rfl oR_M_markOf lk_M_336 iM_M_markOf sE_M_markOf (qc := kq10) rfl rfl rfl rfl (Nat.le_of_ble_eq_true rfl) (f_M_markOf_ok (d := d) (by omega) x1 hq15) ?_
        change am_AW am_nw ro (d + 1) mr_M_ask 43 [some (.ref 63), some (.int x1), some (.int x2)] [.int q15.1] (S0, q15.2) (some (.int r)) (S0, m')
        obtain ⟨rfl, rfl⟩ := Prod.mk.inj (Option.some.inj h)
        exact am_AW.ret ok_M_ask rfl rfl rfl rfl
