/-! THE CLAIM OUT OF ONE WALK OF THE LAW'S BODY. Your part is whole_start (and what it stands on); all else here is the same for every law, but numbers. -/
def lw_P (b : Addr) (xs : List Int32) (args : Array Value) (s : State) : Prop := args = #[.ref b] ∧ s.IntsAt b xs ∧ xs.length ≤ 3072 ∧ (Jvm.Cond.and given_1 narrow_1).before args s = true
def lw_Q (_ : Array Value) (s : State) (o : Outcome) (t : State) : Prop := o = .returned (some (.int 1)) ∧ Framed s o t [] 600000 7302250
def lw_Z (below : List Frame) (a : Array Value) (s : State) : State → Prop := fun t => ∃ o, t.status = .running ∧ Ended t below o ∧ lw_Q a s o t
/-- the law's own end, with 1 on the stack, nothing written that was there before, its room as the claim has it -/
theorem lw_ret {p : Program} {l : Launch} {e : Env} {s : State} {m : MethodId} {below : List Frame} {meth : Method} {c : Code} {b : Nat} (hx : p.tables.exec = Jvm.exec) (hb : c.code = code) (hr : meth.sig.returnType = ret) (hlocks : meth.locks = false) {pc : Nat} {H : Heap} {ls : Array Slot} (hdg : decode code pc = .ok (.ireturn, 1)) : W p l e room_1 s m #[Value.ref b] below meth c H [] 600000 7302250 (lw_Z below #[Value.ref b] s) (F0 m pc ls [.int 1]) := by
  intro T hT X
  obtain ⟨fs, hret, hrun, hended, hW, hframe⟩ := X.leave (v := some (.int 1)) (hlocks := hlocks) (fun h => by rw [hr] at h; cases h)
  have hmeth' : T.vm.method? m = some meth := X.method'
  refine ⟨T.setFrames fs, ?_, .returned (some (.int 1)), hrun, hended, rfl, ⟨_, rfl⟩, hW, hframe⟩
  jvm_step X.here [X.here.top, hx, hb, hdg, hmeth', hr, ret, narrow_b1]
  (try refine ⟨rfl, ?_⟩); (try refine ⟨rfl, ?_⟩)
  first | (intro acts; rw [hret _ acts rfl rfl rfl]) | rw [hret _ _ rfl rfl rfl]
  exact Steps.refl _
/-- what holds at the law's entry: the machine, the code, the tables' words (any of lw_tbl by 'hts w (by decide +kernel)'), the script of L ints xs at the cell b, what the Statement gives of the start (any of its parts by flat_of_before) -/
def lw_At (p : Program) (s : State) (m : MethodId) (meth : Method) (c : Code) (b L : Nat) (xs : Nat → Int32) : Prop :=
  p.tables.exec = Jvm.exec ∧ c.code = code ∧ meth.sig.returnType = ret ∧ c.maxLocals = 4 ∧ s.vm.findClass R_law = some m.cls ∧ (∀ w ∈ lw_tbl, w.before #[Value.ref b] s = true) ∧ va_X b L xs s s.heap ∧ b < s.heap.size ∧ meth.locks = false ∧ (Jvm.Cond.and given_1 narrow_1).before #[Value.ref b] s = true
theorem am_nw_tbl : ∀ w ∈ am_nw, w ∈ lw_tbl := by
  have h : am_nw = ([105, 108, 114, 146, 210, 211, 213, 216, 236, 254, 270, 286, 312, 759] : List Nat).filterMap (fun i => lw_tbl[i]?) := by decide +kernel
  intro w hw
  rw [h] at hw
  obtain ⟨i, -, hi⟩ := List.mem_filterMap.mp hw
  exact List.mem_of_getElem? hi
theorem am_ls_tbl : Cond.laysStatic "FriezePolygons" "WAYS_OF" "[I" ∈ lw_tbl := List.mem_of_getElem? (i := 760) (by decide +kernel)
def am_wv (j : Nat) : Int32 := ([0, 0, 1, 1, 2, 5, 14, 42, 132, 429] : List Int32).getD j 0
/-- the arrays that nobody writes: WAYS_OF, the script -/
def am_roL (L : Nat) (xs : Nat → Int32) : am_Ro := fun j => if j = 0 then (10, am_wv) else (L, xs)
/-- WHAT REMAINS: the law's loop, as a function over the memory, comes to its end with true -/
def am_Pure : Prop := ∀ (L : Nat) (xs : Nat → Int32), L ≤ 3072 → ∃ m', f_L_law_b18 (am_roL L xs) am_F (0 : Int32) am_m0 = some ((1 : Int32), m')
theorem am_Zb_z : am_Zb am_mz 0 := fun _ _ => ⟨rfl, rfl⟩
set_option maxHeartbeats 8000000 in
set_option maxRecDepth 100000 in
theorem am_law_AW {ro : am_Ro} {d : Nat} (hd : 11 ≤ d + 1) {m' : am_Mm} (h : f_L_law_b18 ro am_F (0 : Int32) am_m0 = some ((1 : Int32), m')) : am_AW am_nw ro (d + 1) mr_L_law 0 [some (.ref (am_rB + 1)), none, none, none] [] ([], am_mz) (some (.int (1 : Int32))) (S0, m') := by
  refine am_AW.new0 ok_L_law (Nat.le_add_left 1 d) (qc := kq9) rfl rfl (by decide) df_9 ⟨rfl, rfl⟩ ?_
  change am_AW am_nw ro (d + 1) mr_L_law 3 [some (.ref (am_rB + 1)), none, none, none] [.ref 0] (Sx0, am_mz) (some (.int (1 : Int32))) (S0, m')
  refine am_AW.run am_base_ok ok_L_law (Nat.le_add_left 1 d) 1 (pc1 := 4) (ls1 := [some (.ref (am_rB + 1)), none, none, none]) (st1 := [.ref 0, .ref 0]) (σ1 := (Sx0, am_mz)) rfl ?_
  refine am_AW.callI ok_L_law am_nw_ok (As := []) (rest := [.ref 0]) rfl rfl rfl oR_C_init rfl rfl iM_C_init (Or.inl lk_L_9) rfl (Nat.le_of_ble_eq_true rfl) (in_1 (ro := ro) (d := d) (by omega) am_mz am_Zb_z) ?_
  change am_AW am_nw ro (d + 1) mr_L_law 7 [some (.ref (am_rB + 1)), none, none, none] [.ref 0] (Sx124, am_m1) (some (.int (1 : Int32))) (S0, m')
  refine am_AW.run am_base_ok ok_L_law (Nat.le_add_left 1 d) 1 (pc1 := 8) (ls1 := [some (.ref (am_rB + 1)), some (.ref 0), none, none]) (st1 := []) (σ1 := (Sx124, am_m1)) rfl ?_
  have hz : am_Zb am_m1 63 := am_Zb_pI am_Zb_z (by decide)
  refine am_AW.new0 ok_L_law (Nat.le_add_left 1 d) (qc := kq10) rfl rfl (by decide) df_10 (hz 63 (Nat.le_refl _)) ?_
  change am_AW am_nw ro (d + 1) mr_L_law 11 [some (.ref (am_rB + 1)), some (.ref 0), none, none] [.ref 63] (Sx125, am_m1) (some (.int (1 : Int32))) (S0, m')
  refine am_AW.run am_base_ok ok_L_law (Nat.le_add_left 1 d) 1 (pc1 := 12) (ls1 := [some (.ref (am_rB + 1)), some (.ref 0), none, none]) (st1 := [.ref 63, .ref 63]) (σ1 := (Sx125, am_m1)) rfl ?_
  refine am_AW.callI ok_L_law am_nw_ok (As := []) (rest := [.ref 63]) rfl rfl rfl oR_M_init rfl rfl iM_M_init (Or.inl lk_L_12) rfl (Nat.le_of_ble_eq_true rfl) (in_23 (ro := ro) (d := d) (by omega) am_m1 hz) ?_
  change am_AW am_nw ro (d + 1) mr_L_law 15 [some (.ref (am_rB + 1)), some (.ref 0), none, none] [.ref 63] (S0, am_m0) (some (.int (1 : Int32))) (S0, m')
  refine am_AW.run am_base_ok ok_L_law (Nat.le_add_left 1 d) 3 (pc1 := 18) (ls1 := [some (.ref (am_rB + 1)), some (.ref 0), some (.ref 63), some (.int (0 : Int32))]) (st1 := []) (σ1 := (S0, am_m0)) rfl ?_
  exact f_L_law_b18_ok hd (0 : Int32) h
theorem am_known {args : Array Value} {s : State} (htb : ∀ w ∈ am_tb, w.before args s = true) : ∃ (dC : Nat → ClassId) (dI : Nat → Nat → Nat), ∀ (k : Nat) (q : vw_C), kcs[k]? = some q → u_Kn s q.1 q.2.1 q.2.2 (dC k) (dI k) := by
  have h : ∀ k : Nat, ∃ z : ClassId × (Nat → Nat), ∀ q : vw_C, kcs[k]? = some q → u_Kn s q.1 q.2.1 q.2.2 z.1 z.2 := by
    intro k
    cases hq : kcs[k]? with
    | none => exact ⟨(0, fun _ => 0), fun q h => by cases h⟩
    | some q =>
      obtain ⟨cC, iS, h⟩ := u_known htb (am_hin hq) (htb _ (am_tb_in (kcs_ok k q hq).2.2.2.1 rfl))
      exact ⟨(cC, iS), fun q' h' => by cases h'; exact h⟩
  exact ⟨fun k => (Classical.choose (h k)).1, fun k => (Classical.choose (h k)).2, fun k q hq => Classical.choose_spec (h k) q hq⟩
theorem am_arrC {args : Array Value} {s : State} {ty : FieldType} (h : (Cond.arrayClass ty).before args s = true) : ∃ cA : ClassId, ArrOfT s cA ty ∧ s.vm.findClass ("[" ++ ty.toString) = some cA := by
  obtain ⟨cA, kA, comp, h1, h2, h3⟩ := Cond.arrayClass_spec h
  exact ⟨cA, fun n z => ⟨fun k h => (by cases h), kA, h2, comp, h3⟩, h1⟩
theorem am_arrO {s : State} {C : String} (h : va_Nw (.arrayOver (.object C)) s) : ∃ cA : ClassId, ArrOfT s cA (.object C) ∧ va_RA s cA (.object C) := by
  obtain ⟨comp, c, k, h1, h2, h3, h4, h5⟩ := Cond.arrayOver_spec h
  exact ⟨c, fun n z => ⟨fun k h => (by cases h), k, h3, comp, h4⟩, k, comp, h3, h4, h1, h5⟩
theorem am_len31 {args : Array Value} {s : State} {tm : Term} {v : Value} {t : Nat} {cell : Cell} (hv : (Term.length tm).eval args s none [] s = some v) (ht : tm.eval args s none [] s = some (.ref t)) (hat : s.arrayAt? t = some cell) : cell.slots.size < 2 ^ 31 := by
  simp only [Term.eval, ht, hat, Option.bind_eq_bind, Option.bind_some] at hv
  by_cases hlt : cell.slots.size < 2147483648
  · exact hlt
  · simp [hlt] at hv
theorem am_ways {args : Array Value} {s : State} {A : Nat → Prop} (hts : ∀ w ∈ lw_tbl, w.before args s = true) (hgv : (Jvm.Cond.and given_1 narrow_1).before args s = true) (hA : ∀ a : Nat, a < s.heap.size → ¬ A a) : ∃ t : Nat, va_X t 10 am_wv s s.heap ∧ t < s.heap.size ∧ va_Z "FriezePolygons" "WAYS_OF" "[I" (.ref t) A s s.heap := by
  have hs := flat_of_before _ hgv
  have harr : (Cond.arrayOf (.static "FriezePolygons" "WAYS_OF" "[I") .int).before args s = true := hs _ (by decide +kernel)
  have hlen := va_eqt (hs (Cond.eq (.length (.static "FriezePolygons" "WAYS_OF" "[I")) (.int 10)) (by decide +kernel))
  have hel : ∀ j : Nat, j < 10 → (Term.elem (.static "FriezePolygons" "WAYS_OF" "[I") (.int (Int32.ofNat j))).eval args s none [] s = some (.int (am_wv j)) := by
    intro j hj
    match j, hj with
    | 0, _ => exact va_eqt (hs (Cond.eq (.elem (.static "FriezePolygons" "WAYS_OF" "[I") (.int 0)) (.int 0)) (by decide +kernel))
    | 1, _ => exact va_eqt (hs (Cond.eq (.elem (.static "FriezePolygons" "WAYS_OF" "[I") (.int 1)) (.int 0)) (by decide +kernel))
    | 2, _ => exact va_eqt (hs (Cond.eq (.elem (.static "FriezePolygons" "WAYS_OF" "[I") (.int 2)) (.int 1)) (by decide +kernel))
    | 3, _ => exact va_eqt (hs (Cond.eq (.elem (.static "FriezePolygons" "WAYS_OF" "[I") (.int 3)) (.int 1)) (by decide +kernel))
    | 4, _ => exact va_eqt (hs (Cond.eq (.elem (.static "FriezePolygons" "WAYS_OF" "[I") (.int 4)) (.int 2)) (by decide +kernel))
    | 5, _ => exact va_eqt (hs (Cond.eq (.elem (.static "FriezePolygons" "WAYS_OF" "[I") (.int 5)) (.int 5)) (by decide +kernel))
    | 6, _ => exact va_eqt (hs (Cond.eq (.elem (.static "FriezePolygons" "WAYS_OF" "[I") (.int 6)) (.int 14)) (by decide +kernel))
    | 7, _ => exact va_eqt (hs (Cond.eq (.elem (.static "FriezePolygons" "WAYS_OF" "[I") (.int 7)) (.int 42)) (by decide +kernel))
    | 8, _ => exact va_eqt (hs (Cond.eq (.elem (.static "FriezePolygons" "WAYS_OF" "[I") (.int 8)) (.int 132)) (by decide +kernel))
    | 9, _ => exact va_eqt (hs (Cond.eq (.elem (.static "FriezePolygons" "WAYS_OF" "[I") (.int 9)) (.int 429)) (by decide +kernel))
  obtain ⟨t, ht, cell, h1, h2, h3, h4, h5, h6, h7⟩ := va_Tof (f := fun j => .int (am_wv j)) (A := A) (N := 10) (by decide) harr hlen hel hA
  obtain ⟨t2, cell2, ht2, hat, -⟩ := Term.length_spec hlen
  cases ht.symm.trans ht2
  obtain ⟨hcell, -, -, -⟩ := State.arrayAt?_spec hat
  cases h1.symm.trans hcell
  have hsz : cell.slots.size < 2 ^ 31 := am_len31 hlen ht hat
  have h10 : cell.slots.size = 10 := (nI_eq hsz (by decide)).mp h5
  exact ⟨t, ⟨cell, h1, h2, h3, h10, h6⟩, (Array.getElem?_eq_some_iff.mp h1).1, va_Zof (hts _ am_ls_tbl) (hts _ (kcs_ok 9 _ rfl).2.2.2.2.1) ht hA⟩
set_option maxHeartbeats 8000000 in
set_option maxRecDepth 100000 in
/-- THE LAW, from its entry, out of what remains -/
theorem whole_start0 (hp : am_Pure) {p : Program} {e : Env} {s : State} {m : MethodId} {below : List Frame} {meth : Method} {c : Code} (l : Launch) {b L : Nat} {xs : Nat → Int32} (hL : L ≤ 3072) (C0 : lw_At p s m meth c b L xs) : W p l e room_1 s m #[Value.ref b] below meth c s.heap [] 0 0 (lw_Z below #[Value.ref b] s) (entryFrame m ([Value.ref b] : List Value).toArray 4) := by
  obtain ⟨hx, hb, hr, hml, hown, hts, hX, hbl, hlocks, hgv⟩ := C0
  have htb : ∀ w ∈ am_tb, w.before #[Value.ref b] s = true := fun w hw => hts w (List.mem_filter.mp hw).1
  have hnw : ∀ w ∈ am_nw, va_Nw w s := by
    intro w hw
    have h1 := hts w (am_nw_tbl w hw)
    rcases am_nw_ok w hw with ⟨a, i, y, h0, rfl⟩ | ⟨a, i, b0, n, d, h0, rfl⟩ | ⟨C, rfl⟩
    · exact va_Nw.of rfl h1
    · exact va_Nw.of rfl h1
    · exact va_AO.of h1
  obtain ⟨dC, dI, hKc⟩ := am_known htb
  obtain ⟨c1, a1, n1⟩ := am_arrC (htb _ am_base_ok.2.2.1)
  obtain ⟨c2, a2, n2⟩ := am_arrC (htb _ am_base_ok.2.2.2.1)
  obtain ⟨c3, a3, n3⟩ := am_arrC (htb _ am_base_ok.2.2.2.2.1)
  obtain ⟨c4, a4, n4⟩ := am_arrO (C := "FriezePolygons$Row") (hnw _ (am_hasN_in (po := 0) (by decide +kernel)))
  obtain ⟨c5, a5, n5⟩ := am_arrO (C := "FriezePolygons$Figure") (hnw _ (am_hasN_in (po := 5) (by decide +kernel)))
  obtain ⟨tw, hXw, htw, hZw⟩ := am_ways (A := fun q => s.heap.size ≤ q) hts hgv (fun a h => Nat.not_le.mpr h)
  obtain ⟨m', hm'⟩ := hp L xs hL
  have hAW := am_law_AW (d := 11) (by decide) hm'
  let K : am_Kx := (s.heap.size, (dC, dI), (fun t => if t = 1 then c1 else if t = 2 then c2 else if t = 3 then c3 else if t = 4 then c4 else c5), (fun j => if j = 0 then tw else b), am_roL L xs)
  have hK : va_K K.2.1 kcs (am_tys K) s := by
    refine ⟨hKc, fun k q hk => ?_⟩
    match k, hk with
    | 0, hk => cases hk; exact ⟨a1, n1⟩
    | 1, hk => cases hk; exact ⟨a2, n2⟩
    | 2, hk => cases hk; exact ⟨a3, n3⟩
    | 3, hk => cases hk; exact ⟨a4, n4⟩
    | 4, hk => cases hk; exact ⟨a5, n5⟩
    | n + 5, hk => simp [am_tys] at hk
  have hRO : am_RO K s s.heap := by
    refine ⟨fun j hj => ?_, hZw⟩
    match j, hj with
    | 0, _ => exact ⟨hXw, htw⟩
    | 1, _ => exact ⟨hX, hbl⟩
  have cx : am_Cx K am_nw (11 + 1) mr_L_law room_1 p s m #[Value.ref b] meth c :=
    ⟨hx, hb, hml, hown, htb, hK, hRO, hnw, ⟨by decide, by decide⟩, fun h => absurd h (by decide), Nat.le_refl _⟩
  have hWd : am_Wd K ([], am_mz) s.heap := ⟨rfl, by decide, fun k q h => by simp [am_ws] at h⟩
  have hLH := am_entry_LH K [.ref (am_rB + 1)] (n := 4) (by decide)
  have h1 : am_cv K (.ref (am_rB + 1)) = .ref b := by
    show Value.ref (if am_rB ≤ am_rB + 1 then _ else _) = _
    rw [if_pos (by decide)]
    rfl
  have h2 : ([.ref (am_rB + 1)] : List Value).map (am_cv K) = [.ref b] := by rw [List.map_cons, h1]; rfl
  rw [h2] at hLH
  rw [lg_entry_eq]
  refine hAW.2.2 K rfl p l e room_1 s m #[Value.ref b] below meth c _ cx s.heap [] 0 0 _ (by show 0 + (S0.length - 0) ≤ 600000; decide +kernel) (by show 0 + (am_slots S0 - am_slots []) ≤ 7302250; decide +kernel) hWd rfl va_S.rf hLH (fun H' locs' pc' la' q1 q2 q3 q4 => ?_)
  refine va_forget (fun q hq => q4.2.2 q hq) ?_
  refine W.widen (k := 600000) (n := 7302250) (by show 0 + (S0.length - 0) ≤ 600000; decide +kernel) (by show 0 + (am_slots S0 - am_slots []) ≤ 7302250; decide +kernel) ?_
  exact lw_ret hx hb hr hlocks q1
