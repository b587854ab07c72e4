/-! ===== one instruction: arrays made, arraycopy; all instructions; branches, switches, calls, returns ===== -/
section AMJ
variable {nw : List Cond} {ro : am_Ro} {d : Nat} {r : am_Mr} {pc : Nat} {ls : am_Lc} {st : List Value} {σ : am_Sg} {v : Option Value} {σ' : am_Sg}
theorem am_cats (K : am_Kx) (t : List Value) : ((t.map (am_cv K)).map fun v => v.category).sum = (t.map fun v => v.category).sum := by
  rw [List.map_map]
  congr 1
  exact List.map_congr_left (fun v _ => am_cv_cat K v)
theorem am_step_newarray {ty : ArrayType} {n a b po : Nat} {z : Int} {pc1 : Nat} {ls1 : am_Lc} {st1 : List Value} {σ1 : am_Sg} (hbs : am_base) (hd : decode r.2.1 pc = .ok (.newarray ty, n))
    (h : am_step ro (.newarray ty, n, a, b, po, z) (pc, ls, st, σ) = some (pc1, ls1, st1, σ1)) (hk : am_AW nw ro d r pc1 ls1 st1 σ1 v σ') : am_AW nw ro d r pc ls st σ v σ' := by
  simp only [am_step] at h
  split at h
  · rename_i i t
    split at h
    · rename_i hn
      cases hn
      obtain ⟨σ2, hw, e2⟩ := Option.map_eq_some_iff.mp h
      cases e2
      unfold am_newa at hw
      split at hw
      · cases hw
      · rename_i hc
        have hc1 : ¬ i < 0 := fun q => hc (Or.inl q)
        have hc2 : i.toNatClampNeg ≤ 100000 := Nat.not_lt.mp fun q => hc (Or.inr (Or.inl q))
        have hlt : σ.1.length < 1000 := Nat.not_le.mp fun q => hc (Or.inr (Or.inr q))
        obtain ⟨-, -, wI, wL, wZ, -⟩ := hbs
        split at hw
        · cases hw
          have hsl : am_sl1 (1, i.toNatClampNeg, []) = i.toNatClampNeg := rfl
          refine am_AW.via hk (by simp) (by simp only [am_sl_push]; omega) (fun K hro p l e R s m args below meth c Q cx H locs nc ns la b1 b2 hW hz hS hL k => ?_)
          simp only [am_sl_push, hsl, List.length_append, List.length_cons, List.length_nil, Nat.add_sub_cancel_left] at b1 b2 k
          refine va_newaK (atype := .int) cx.1 cx.2.1 (cx.2.2.2.2.1 _ wI) rfl hd rfl hc1 rfl (by show _ * 4 ≤ _; omega) (by omega) b2 rfl (fun H1 cA e1 z1 o1 hA hN => ?_)
          have eA : cA = K.2.2.1 1 := Option.some.inj (hN.symm.trans (cx.2.2.2.2.2.1.2 0 _ rfl).2)
          subst eA
          have e4 : am_cv K (.ref σ.1.length) = .ref H.size := by
            show Value.ref _ = _
            rw [am_eta_new hW hlt]
          have k2 := k H1 locs la (am_Wd_push (sh := (1, i.toNatClampNeg, [])) hW hlt z1 o1 rfl (fun q hq => ⟨am_up_o (Nat.ne_of_lt hq), rfl⟩) ?_) (am_S_push hS z1 o1) hL
          · rw [List.map_cons, e4] at k2
            exact k2
          · show va_at _ _ (_, .inl (K.2.2.1 1, i.toNatClampNeg, .inl (va_up σ.2.1 σ.1.length (fun _ => (0 : Int32)) σ.1.length))) H1
            rw [am_up_s]
            exact e1
        · cases hw
          have hsl : am_sl1 (2, i.toNatClampNeg, []) = i.toNatClampNeg := rfl
          refine am_AW.via hk (by simp) (by simp only [am_sl_push]; omega) (fun K hro p l e R s m args below meth c Q cx H locs nc ns la b1 b2 hW hz hS hL k => ?_)
          simp only [am_sl_push, hsl, List.length_append, List.length_cons, List.length_nil, Nat.add_sub_cancel_left] at b1 b2 k
          refine va_newaK (atype := .long) cx.1 cx.2.1 (cx.2.2.2.2.1 _ wL) rfl hd rfl hc1 rfl (by show _ * 8 ≤ _; omega) (by omega) b2 rfl (fun H1 cA e1 z1 o1 hA hN => ?_)
          have eA : cA = K.2.2.1 2 := Option.some.inj (hN.symm.trans (cx.2.2.2.2.2.1.2 1 _ rfl).2)
          subst eA
          have e4 : am_cv K (.ref σ.1.length) = .ref H.size := by
            show Value.ref _ = _
            rw [am_eta_new hW hlt]
          have k2 := k H1 locs la (am_Wd_push (sh := (2, i.toNatClampNeg, [])) hW hlt z1 o1 rfl (fun q hq => ⟨rfl, am_up_o (Nat.ne_of_lt hq)⟩) ?_) (am_S_push hS z1 o1) hL
          · rw [List.map_cons, e4] at k2
            exact k2
          · show va_at _ _ (_, .inl (K.2.2.1 2, i.toNatClampNeg, .inr (.inl (va_up σ.2.2 σ.1.length (fun _ => (0 : Int64)) σ.1.length)))) H1
            rw [am_up_s]
            exact e1
        · cases hw
          have hsl : am_sl1 (3, i.toNatClampNeg, []) = i.toNatClampNeg := rfl
          refine am_AW.via hk (by simp) (by simp only [am_sl_push]; omega) (fun K hro p l e R s m args below meth c Q cx H locs nc ns la b1 b2 hW hz hS hL k => ?_)
          simp only [am_sl_push, hsl, List.length_append, List.length_cons, List.length_nil, Nat.add_sub_cancel_left] at b1 b2 k
          refine va_newaK (atype := .boolean) cx.1 cx.2.1 (cx.2.2.2.2.1 _ wZ) rfl hd rfl hc1 rfl (by show _ * 1 ≤ _; omega) (by omega) b2 rfl (fun H1 cA e1 z1 o1 hA hN => ?_)
          have eA : cA = K.2.2.1 3 := Option.some.inj (hN.symm.trans (cx.2.2.2.2.2.1.2 2 _ rfl).2)
          subst eA
          have e4 : am_cv K (.ref σ.1.length) = .ref H.size := by
            show Value.ref _ = _
            rw [am_eta_new hW hlt]
          have k2 := k H1 locs la (am_Wd_push (sh := (3, i.toNatClampNeg, [])) hW hlt z1 o1 rfl (fun q hq => ⟨am_up_o (Nat.ne_of_lt hq), rfl⟩) ?_) (am_S_push hS z1 o1) hL
          · rw [List.map_cons, e4] at k2
            exact k2
          · show va_at _ _ (_, .inl (K.2.2.1 3, i.toNatClampNeg, .inl (va_up σ.2.1 σ.1.length (fun _ => (0 : Int32)) σ.1.length))) H1
            rw [am_up_s]
            exact e1
        · cases hw
    · cases h
  · cases h
theorem am_step_anewarray {x : Nat} {n a b po : Nat} {z : Int} {pc1 : Nat} {ls1 : am_Lc} {st1 : List Value} {σ1 : am_Sg} (hd : decode r.2.1 pc = .ok (.anewarray x, n)) (ho : am_okE nw r.1.cls (.anewarray x, n, a, b, po, z))
    (h : am_step ro (.anewarray x, n, a, b, po, z) (pc, ls, st, σ) = some (pc1, ls1, st1, σ1)) (hk : am_AW nw ro d r pc1 ls1 st1 σ1 v σ') : am_AW nw ro d r pc ls st σ v σ' := by
  simp only [am_step] at h
  split at h
  · rename_i i t
    split at h
    · rename_i hn
      cases hn
      obtain ⟨σ2, hw, e2⟩ := Option.map_eq_some_iff.mp h
      cases e2
      unfold am_newq at hw
      split at hw
      · cases hw
      · rename_i hc
        cases hw
        have hc1 : ¬ i < 0 := fun q => hc (Or.inl q)
        have hc2 : i.toNatClampNeg ≤ 100000 := Nat.not_lt.mp fun q => hc (Or.inr (Or.inl q))
        have hlt : σ.1.length < 1000 := Nat.not_le.mp fun q => hc (Or.inr (Or.inr (Or.inl q)))
        have ht : a = 4 ∨ a = 5 := Decidable.byContradiction fun q => hc (Or.inr (Or.inr (Or.inr q)))
        obtain ⟨qc, hq, hlink, hover⟩ := ho
        have hsl : am_sl1 (a, i.toNatClampNeg, List.replicate i.toNatClampNeg Value.null) = i.toNatClampNeg := by rcases ht with rfl | rfl <;> rfl
        refine am_AW.via hk (by simp) (by simp only [am_sl_push]; omega) (fun K hro p l e R s m args below meth c Q cx H locs nc ns la b1 b2 hW hz hS hL k => ?_)
        simp only [am_sl_push, hsl, List.length_append, List.length_cons, List.length_nil, Nat.add_sub_cancel_left] at b1 b2 k
        refine W.anew (C := qc.1) cx.1 cx.2.1 cx.2.2.2.1 (cx.2.2.2.2.1 _ hlink) (va_AO.use (show va_AO qc.1 s from cx.2.2.2.2.2.2.2.1 _ hover)) rfl hd rfl hc1 (by omega) (by omega) b2 (fun cA kA comp f1 f2 f3 f4 => ?_)
        generalize hH1 : H.push ({ cls := cA, slots := Array.replicate i.toNatClampNeg .null, vm := .none } : Cell) = H1
        have z1 : H1.size = H.size + 1 := by rw [← hH1, Array.size_push]
        have e1 : H1[H.size]? = some (arrV cA i.toNatClampNeg (fun _ => .null)) := by rw [← hH1, Array.getElem?_push_size, ← arrV_new]
        have o1 : ∀ q : Nat, q < H.size → H1[q]? = H[q]? := fun q hq => by rw [← hH1, Array.getElem?_push, if_neg (Nat.ne_of_lt hq)]
        have eA : cA = K.2.2.1 a := by
          rcases ht with rfl | rfl
          · cases hq
            obtain ⟨_, _, -, -, -, h4⟩ := (cx.2.2.2.2.2.1.2 3 _ rfl).2
            exact Option.some.inj (f1.symm.trans h4)
          · cases hq
            obtain ⟨_, _, -, -, -, h4⟩ := (cx.2.2.2.2.2.1.2 4 _ rfl).2
            exact Option.some.inj (f1.symm.trans h4)
        subst eA
        have e4 : am_cv K (.ref σ.1.length) = .ref H.size := by
          show Value.ref _ = _
          rw [am_eta_new hW hlt]
        have k2 := k H1 locs la (am_Wd_push (sh := (a, i.toNatClampNeg, List.replicate i.toNatClampNeg Value.null)) hW hlt z1 o1 rfl (fun q hq => ⟨rfl, rfl⟩) ?_) (am_S_push hS z1 o1) hL
        · rw [List.map_cons, e4] at k2
          exact k2
        · have e6 : (fun k => am_or K ((List.replicate i.toNatClampNeg Value.null).getD k .null)) = fun _ => none := by
            funext k
            simp [List.getD, List.getElem?_replicate]
            split <;> rfl
          have e7 : am_cell K (σ.2.1 σ.1.length) (σ.2.2 σ.1.length) (a, i.toNatClampNeg, List.replicate i.toNatClampNeg Value.null) = .inl (K.2.2.1 a, i.toNatClampNeg, .inr (.inr (.inr (.inr (fun _ => none))))) := by
            rw [← e6]
            rcases ht with rfl | rfl <;> rfl
          show va_at _ _ (_, am_cell K (σ.2.1 σ.1.length) (σ.2.2 σ.1.length) (a, i.toNatClampNeg, List.replicate i.toNatClampNeg Value.null)) H1
          rw [e7]
          exact e1
    · cases h
  · cases h
theorem am_step_special {x : Nat} {n a b po : Nat} {z : Int} {pc1 : Nat} {ls1 : am_Lc} {st1 : List Value} {σ1 : am_Sg} (hbs : am_base) (hd1 : 1 ≤ d) (hd : decode r.2.1 pc = .ok (.invokespecial x, n)) (ho : am_okE nw r.1.cls (.invokespecial x, n, a, b, po, z))
    (h : am_step ro (.invokespecial x, n, a, b, po, z) (pc, ls, st, σ) = some (pc1, ls1, st1, σ1)) (hk : am_AW nw ro d r pc1 ls1 st1 σ1 v σ') : am_AW nw ro d r pc ls st σ v σ' := by
  simp only [am_step] at h
  split at h
  · rename_i q t
    split at h
    · rename_i hn
      obtain ⟨hn, hb, hs⟩ := hn
      cases hn
      cases h
      refine am_AW.pure hk (fun K hro p l e R s m args below meth c Q cx H locs nc ns la hW hS hL k => ?_)
      obtain ⟨hf, hl⟩ := cx.2.2.2.2.2.2.2.2.1
      refine W.objInit (a := am_eta K q) (rest := st1.map (am_cv K)) cx.1 cx.2.1 cx.2.2.2.1 (cx.2.2.2.2.1 _ (ho hb)) (cx.2.2.2.2.1 _ hbs.1) (cx.2.2.2.2.1 _ hbs.2.1) rfl (hL.2.1.trans cx.2.2.1.symm) rfl hd (by omega) ?_ k
      have := lv_room (m := m) (pc := pc) (ls := la) (rest := (Value.ref q :: st1).map (am_cv K)) (st := st1.map (am_cv K)) (by rw [am_cats]; exact hs)
      omega
    · cases h
  · cases h
theorem am_step_static {x : Nat} {n a b po : Nat} {z : Int} {pc1 : Nat} {ls1 : am_Lc} {st1 : List Value} {σ1 : am_Sg} (hbs : am_base) (hd1 : 1 ≤ d) (hd : decode r.2.1 pc = .ok (.invokestatic x, n)) (ho : am_okE nw r.1.cls (.invokestatic x, n, a, b, po, z))
    (h : am_step ro (.invokestatic x, n, a, b, po, z) (pc, ls, st, σ) = some (pc1, ls1, st1, σ1)) (hk : am_AW nw ro d r pc1 ls1 st1 σ1 v σ') : am_AW nw ro d r pc ls st σ v σ' := by
  simp only [am_step] at h
  split at h
  · rename_i i dp p1 sp p0 t
    split at h
    · rename_i hn
      obtain ⟨hn, hb, hs⟩ := hn
      cases hn
      obtain ⟨σ2, hw, e2⟩ := Option.map_eq_some_iff.mp h
      cases e2
      unfold am_cpy at hw
      split at hw
      · rename_i n0 fs0 n1 fs1 hp0 hp1
        split at hw
        · rename_i hi
          cases hw
          obtain ⟨g1, g2, g3, g4, g5⟩ := hi
          refine am_AW.put hk rfl rfl (fun K hro p l e R s m args below meth c Q cx H locs nc ns la hW hz hS hL k => ?_)
          obtain ⟨hf, hl⟩ := cx.2.2.2.2.2.2.2.2.1
          show W p l e R s m args below meth c H locs nc ns Q (F0 m pc la (.int i :: .int dp :: .ref (am_eta K p1) :: .int sp :: .ref (am_eta K p0) :: st1.map (am_cv K)))
          rw [am_eta_at hW hp0, am_eta_at hW hp1]
          refine va_copyi (D := K.2.1) (cl := kcs) (ty := .int) cx.1 cx.2.1 (cx.2.2.1.trans hL.2.1.symm) cx.2.2.2.1 (cx.2.2.2.2.1 _ (ho hb)) (cx.2.2.2.2.1 _ hbs.2.2.2.2.2.1) (cx.2.2.2.2.1 _ hbs.2.2.2.2.2.2.1) (cx.2.2.2.2.1 _ hbs.2.2.2.2.2.2.2) cx.2.2.2.2.2.1 hW.2.2 (am_ws_D K σ) (am_S_self hS) p0 p1 0 0 (am_ws_at K hp0) (am_ws_at K hp1) rfl rfl rfl g1 g2 g3 g4 g5 (fun _ _ => rfl) (by omega) ?_ hd (fun H1 locs1 hP1 _ hS1 => ?_)
          · rw [am_cats]
            have : nativeFrameWords "java/lang/System" "arraycopy" 5 = 7 := by decide +kernel
            omega
          · refine am_W_sz hz hS hS1 (fun z1 hS2 => k H1 locs1 la ?_ hS2 hL)
            refine am_Wd_set (p := p1) (sh := (1, n1, fs1)) hW z1 (am_wd_lt hp1) (am_set_self hp1) (fun q' hq' => ⟨am_up_o hq', rfl⟩) ?_ hP1
            show (Sum.inl (K.2.2.1 1, n1, .inl (va_up σ.2.1 p1 _ p1)) : va_E) = _
            rw [am_up_s]
        · cases hw
      · cases hw
    · cases h
  · cases h
/-- what a method's code must be -/
def am_okM (nw : List Cond) (r : am_Mr) : Prop := ∀ pc e, r.2.2.2.2[pc]? = some (some e) → decode r.2.1 pc = .ok (e.1, e.2.1) ∧ am_okE nw r.1.cls e ∧ (∀ x (q : vw_C), e.1 = .putfield x → kcs[e.2.2.1]? = some q → (q.2.1 e.2.2.2.1).2.2.2 = true → r.1.name = "<init>")
/-- ONE INSTRUCTION -/
theorem am_AW.step {e : am_En} {pc1 : Nat} {ls1 : am_Lc} {st1 : List Value} {σ1 : am_Sg} (hbs : am_base) (hM : am_okM nw r) (hd1 : 1 ≤ d) (he : r.2.2.2.2[pc]? = some (some e)) (h : am_step ro e (pc, ls, st, σ) = some (pc1, ls1, st1, σ1)) (hk : am_AW nw ro d r pc1 ls1 st1 σ1 v σ') : am_AW nw ro d r pc ls st σ v σ' := by
  obtain ⟨hd, ho, hp⟩ := hM pc e he
  obtain ⟨i, n, a, b, po, z⟩ := e
  cases i
  case iconst x => exact am_step_a hd ho h hk (Or.inl ⟨x, rfl⟩)
  case bipush x => exact am_step_a hd ho h hk (Or.inr (Or.inl ⟨x, rfl⟩))
  case sipush x => exact am_step_a hd ho h hk (Or.inr (Or.inr (Or.inl ⟨x, rfl⟩)))
  case lconst x => exact am_step_a hd ho h hk (Or.inr (Or.inr (Or.inr (Or.inl ⟨x, rfl⟩))))
  case ldc x => exact am_step_a hd ho h hk (Or.inr (Or.inr (Or.inr (Or.inr (Or.inl ⟨x, rfl⟩)))))
  case ldc_w x => exact am_step_a hd ho h hk (Or.inr (Or.inr (Or.inr (Or.inr (Or.inr (Or.inl ⟨x, rfl⟩))))))
  case ldc2_w x => exact am_step_a hd ho h hk (Or.inr (Or.inr (Or.inr (Or.inr (Or.inr (Or.inr ⟨x, rfl⟩))))))
  case iload x => exact am_step_b hd h hk (Or.inl ⟨x, rfl⟩)
  case iload_n x => exact am_step_b hd h hk (Or.inr (Or.inl ⟨x, rfl⟩))
  case lload x => exact am_step_b hd h hk (Or.inr (Or.inr (Or.inl ⟨x, rfl⟩)))
  case lload_n x => exact am_step_b hd h hk (Or.inr (Or.inr (Or.inr (Or.inl ⟨x, rfl⟩))))
  case aload x => exact am_step_b hd h hk (Or.inr (Or.inr (Or.inr (Or.inr (Or.inl ⟨x, rfl⟩)))))
  case aload_n x => exact am_step_b hd h hk (Or.inr (Or.inr (Or.inr (Or.inr (Or.inr ⟨x, rfl⟩)))))
  case istore x => exact am_step_c hd h hk (Or.inl ⟨x, rfl⟩)
  case istore_n x => exact am_step_c hd h hk (Or.inr (Or.inl ⟨x, rfl⟩))
  case lstore x => exact am_step_c hd h hk (Or.inr (Or.inr (Or.inl ⟨x, rfl⟩)))
  case lstore_n x => exact am_step_c hd h hk (Or.inr (Or.inr (Or.inr (Or.inl ⟨x, rfl⟩))))
  case astore x => exact am_step_c hd h hk (Or.inr (Or.inr (Or.inr (Or.inr (Or.inl ⟨x, rfl⟩)))))
  case astore_n x => exact am_step_c hd h hk (Or.inr (Or.inr (Or.inr (Or.inr (Or.inr ⟨x, rfl⟩)))))
  case iinc x y => exact am_step_iinc hd h hk
  case iadd => exact am_step_d hd h hk (by simp)
  case isub => exact am_step_d hd h hk (by simp)
  case imul => exact am_step_d hd h hk (by simp)
  case iand => exact am_step_d hd h hk (by simp)
  case ior => exact am_step_d hd h hk (by simp)
  case ixor => exact am_step_d hd h hk (by simp)
  case ishl => exact am_step_d hd h hk (by simp)
  case ishr => exact am_step_d hd h hk (by simp)
  case iushr => exact am_step_d hd h hk (by simp)
  case ladd => exact am_step_e hd h hk (by simp)
  case lsub => exact am_step_e hd h hk (by simp)
  case lmul => exact am_step_e hd h hk (by simp)
  case land => exact am_step_e hd h hk (by simp)
  case lxor => exact am_step_e hd h hk (by simp)
  case idiv => exact am_step_f hd h hk (by simp)
  case irem => exact am_step_f hd h hk (by simp)
  case ldiv => exact am_step_f hd h hk (by simp)
  case lrem => exact am_step_f hd h hk (by simp)
  case ineg => exact am_step_g hd h hk (by simp)
  case i2b => exact am_step_g hd h hk (by simp)
  case i2s => exact am_step_g hd h hk (by simp)
  case lneg => exact am_step_h hd h hk (by simp)
  case i2l => exact am_step_h hd h hk (by simp)
  case l2i => exact am_step_h hd h hk (by simp)
  case lcmp => exact am_step_h hd h hk (by simp)
  case dup => exact am_step_h hd h hk (by simp)
  case dup2 => exact am_step_h hd h hk (by simp)
  case goto o => exact am_step_goto hd h hk
  case getfield x => exact am_step_getfield hd ho h hk
  case putfield x => exact am_step_putfield hd ho (fun q hq => hp x q rfl hq) h hk
  case getstatic x => exact am_step_getstatic hd ho h hk
  case iaload => exact am_step_iaload hd h hk
  case baload => exact am_step_xaload (Or.inl rfl) hd h hk
  case laload => exact am_step_xaload (Or.inr rfl) hd h hk
  case aaload => exact am_step_aaload hd h hk
  case iastore => exact am_step_iastore hd h hk
  case bastore => exact am_step_bastore hd h hk
  case lastore => exact am_step_lastore hd h hk
  case aastore => exact am_step_aastore hd h hk
  case arraylength => exact am_step_arraylength hd h hk
  case new x => exact am_step_new hd ho h hk
  case newarray x => exact am_step_newarray hbs hd h hk
  case anewarray x => exact am_step_anewarray hd ho h hk
  case invokespecial x => exact am_step_special hbs hd1 hd ho h hk
  case invokestatic x => exact am_step_static hbs hd1 hd ho h hk
  all_goals (simp [am_step] at h)
end AMJ
