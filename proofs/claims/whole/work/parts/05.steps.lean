/-! ===== one instruction ===== -/
/-- what an instruction links, is in the tables -/
def am_okE (nw : List Cond) (own : String) (e : am_En) : Prop := match e.1 with
  | .getfield i => ∃ q : vw_C, kcs[e.2.2.1]? = some q ∧ e.2.2.2.1 < q.2.2 ∧ Cond.fieldLink own i q.1 (q.2.1 e.2.2.2.1).2.1 (q.2.1 e.2.2.2.1).2.2.1 ∈ am_tb
  | .putfield i => ∃ q : vw_C, kcs[e.2.2.1]? = some q ∧ e.2.2.2.1 < q.2.2 ∧ Cond.fieldLink own i q.1 (q.2.1 e.2.2.2.1).2.1 (q.2.1 e.2.2.2.1).2.2.1 ∈ am_tb ∧ ((q.2.1 e.2.2.2.1).2.2.2 = true → own = q.1)
  | .ldc i => Cond.constant own i (Int32.ofInt e.2.2.2.2.2) ∈ am_tb
  | .ldc_w i => Cond.constant own i (Int32.ofInt e.2.2.2.2.2) ∈ am_tb
  | .ldc2_w i => Cond.constantLong own i (Int64.ofInt e.2.2.2.2.2) ∈ am_tb
  | .new i => ∃ q : vw_C, kcs[e.2.2.1]? = some q ∧ Cond.classLink own i q.1 ∈ am_tb
  | .anewarray i => ∃ q : vw_C, kcs[am_cc e.2.2.1]? = some q ∧ Cond.classLink own i q.1 ∈ am_tb ∧ Cond.arrayOver (.object q.1) ∈ nw
  | .getstatic i => Cond.fieldLinkNest own i "FriezePolygons" "WAYS_OF" "[I" "FriezePolygons" ∈ nw
  | .invokespecial i => e.2.2.2.1 = 9 → Cond.methodLink own i objectInit ∈ am_tb
  | .invokestatic i => e.2.2.2.1 = 8 → Cond.methodLink own i arraycopyName ∈ am_tb
  | _ => True
/-- words that all methods share -/
def am_base : Prop := Cond.instanceMethod objectInit ∈ am_tb ∧ Cond.code objectInit ⟨#[0xb1]⟩ 1 none ∈ am_tb ∧ Cond.arrayClass .int ∈ am_tb ∧ Cond.arrayClass .long ∈ am_tb ∧ Cond.arrayClass .boolean ∈ am_tb ∧ Cond.native arraycopyName ∈ am_tb ∧ Cond.static arraycopyName ∈ am_tb ∧ Cond.initialized "java/lang/System" ∈ am_tb
section AMT
variable {nw : List Cond} {ro : am_Ro} {d : Nat} {r : am_Mr} {pc : Nat} {ls : am_Lc} {st : List Value} {σ : am_Sg} {v : Option Value} {σ' : am_Sg}
/-- numbers, locals, the stack -/
theorem am_step_a {i : Instr} {n a b po : Nat} {z : Int} {pc1 : Nat} {ls1 : am_Lc} {st1 : List Value} {σ1 : am_Sg} (hd : decode r.2.1 pc = .ok (i, n)) (ho : am_okE nw r.1.cls (i, n, a, b, po, z))
    (h : am_step ro (i, n, a, b, po, z) (pc, ls, st, σ) = some (pc1, ls1, st1, σ1)) (hk : am_AW nw ro d r pc1 ls1 st1 σ1 v σ')
    (hi : (∃ x, i = .iconst x) ∨ (∃ x, i = .bipush x) ∨ (∃ x, i = .sipush x) ∨ (∃ x, i = .lconst x) ∨ (∃ x, i = .ldc x) ∨ (∃ x, i = .ldc_w x) ∨ (∃ x, i = .ldc2_w x)) : am_AW nw ro d r pc ls st σ v σ' := by
  rcases hi with ⟨x, rfl⟩ | ⟨x, rfl⟩ | ⟨x, rfl⟩ | ⟨x, rfl⟩ | ⟨x, rfl⟩ | ⟨x, rfl⟩ | ⟨x, rfl⟩ <;> obtain ⟨e1, e2⟩ := am_push_inv (h : am_push _ _ _ _ = _) <;> cases e2 <;> cases (e1 : n = _) <;>
    refine am_AW.pure hk (fun K hro p l e R s m args below meth c Q cx H locs nc ns la hW hS hL k => ?_)
  · exact lv_iconst cx.1 cx.2.1 hd rfl k
  · exact lv_bipush cx.1 cx.2.1 hd rfl k
  · exact lv_sipush cx.1 cx.2.1 hd rfl k
  · exact lv_lconst cx.1 cx.2.1 hd rfl k
  · exact lv_ldc cx.1 cx.2.1 cx.2.2.2.1 (cx.2.2.2.2.1 _ ho) hd k
  · exact lv_ldcw cx.1 cx.2.1 cx.2.2.2.1 (cx.2.2.2.2.1 _ ho) hd k
  · exact lv_ldc2 cx.1 cx.2.1 cx.2.2.2.1 (cx.2.2.2.2.1 _ ho) hd k
theorem am_step_b {i : Instr} {n a b po : Nat} {z : Int} {pc1 : Nat} {ls1 : am_Lc} {st1 : List Value} {σ1 : am_Sg} (hd : decode r.2.1 pc = .ok (i, n))
    (h : am_step ro (i, n, a, b, po, z) (pc, ls, st, σ) = some (pc1, ls1, st1, σ1)) (hk : am_AW nw ro d r pc1 ls1 st1 σ1 v σ')
    (hi : (∃ x, i = .iload x) ∨ (∃ x, i = .iload_n x) ∨ (∃ x, i = .lload x) ∨ (∃ x, i = .lload_n x) ∨ (∃ x, i = .aload x) ∨ (∃ x, i = .aload_n x)) : am_AW nw ro d r pc ls st σ v σ' := by
  rcases hi with ⟨x, rfl⟩ | ⟨x, rfl⟩ | ⟨x, rfl⟩ | ⟨x, rfl⟩ | ⟨x, rfl⟩ | ⟨x, rfl⟩
  · obtain ⟨y, hy, e1, e2⟩ := am_ildv_inv (h : am_ildv _ _ _ _ = _); cases e2; cases (e1 : n = _)
    refine am_AW.pure hk (fun K hro p l e R s m args below meth c Q cx H locs nc ns la hW hS hL k => ?_)
    exact lv_iload cx.1 cx.2.1 hd (hL.2.2.2 _ _ hy) k
  · obtain ⟨y, hy, e1, e2⟩ := am_ildv_inv (h : am_ildv _ _ _ _ = _); cases e2; cases (e1 : n = _)
    refine am_AW.pure hk (fun K hro p l e R s m args below meth c Q cx H locs nc ns la hW hS hL k => ?_)
    exact lv_iload_n cx.1 cx.2.1 hd rfl (hL.2.2.2 _ _ hy) k
  · obtain ⟨y, hy, e1, e2⟩ := am_lldv_inv (h : am_lldv _ _ _ _ = _); cases e2; cases (e1 : n = _)
    refine am_AW.pure hk (fun K hro p l e R s m args below meth c Q cx H locs nc ns la hW hS hL k => ?_)
    exact lv_lload cx.1 cx.2.1 hd (hL.2.2.2 _ _ hy) k
  · obtain ⟨y, hy, e1, e2⟩ := am_lldv_inv (h : am_lldv _ _ _ _ = _); cases e2; cases (e1 : n = _)
    refine am_AW.pure hk (fun K hro p l e R s m args below meth c Q cx H locs nc ns la hW hS hL k => ?_)
    exact lv_lload_n cx.1 cx.2.1 hd rfl (hL.2.2.2 _ _ hy) k
  · obtain ⟨y, hy, e1, e2⟩ := am_aldv_inv (h : am_aldv _ _ _ _ = _); cases e2; cases (e1 : n = _)
    refine am_AW.pure hk (fun K hro p l e R s m args below meth c Q cx H locs nc ns la hW hS hL k => ?_)
    exact lv_aload cx.1 cx.2.1 hd (hL.2.2.2 _ _ hy) k
  · obtain ⟨y, hy, e1, e2⟩ := am_aldv_inv (h : am_aldv _ _ _ _ = _); cases e2; cases (e1 : n = _)
    refine am_AW.pure hk (fun K hro p l e R s m args below meth c Q cx H locs nc ns la hW hS hL k => ?_)
    exact lv_aload_n cx.1 cx.2.1 hd rfl (hL.2.2.2 _ _ hy) k
theorem am_step_c {i : Instr} {n a b po : Nat} {z : Int} {pc1 : Nat} {ls1 : am_Lc} {st1 : List Value} {σ1 : am_Sg} (hd : decode r.2.1 pc = .ok (i, n))
    (h : am_step ro (i, n, a, b, po, z) (pc, ls, st, σ) = some (pc1, ls1, st1, σ1)) (hk : am_AW nw ro d r pc1 ls1 st1 σ1 v σ')
    (hi : (∃ x, i = .istore x) ∨ (∃ x, i = .istore_n x) ∨ (∃ x, i = .lstore x) ∨ (∃ x, i = .lstore_n x) ∨ (∃ x, i = .astore x) ∨ (∃ x, i = .astore_n x)) : am_AW nw ro d r pc ls st σ v σ' := by
  rcases hi with ⟨x, rfl⟩ | ⟨x, rfl⟩ | ⟨x, rfl⟩ | ⟨x, rfl⟩ | ⟨x, rfl⟩ | ⟨x, rfl⟩
  · obtain ⟨y, t, hy, e1, e3, e2⟩ := am_istv_inv (h : am_istv _ _ _ _ = _); cases e2; cases (e1 : n = _); cases (hy : st = _)
    refine am_AW.loc hk (fun K hro p l e R s m args below meth c Q cx H locs nc ns la hL k => ?_)
    exact lv_istore cx.1 cx.2.1 hd (am_LH_has hL) (hL.1 ▸ e3) rfl (fun la1 h1 => k la1 (am_st1_LH hL.1 h1))
  · obtain ⟨y, t, hy, e1, e3, e2⟩ := am_istv_inv (h : am_istv _ _ _ _ = _); cases e2; cases (e1 : n = _); cases (hy : st = _)
    refine am_AW.loc hk (fun K hro p l e R s m args below meth c Q cx H locs nc ns la hL k => ?_)
    exact lv_istore_n cx.1 cx.2.1 hd rfl (am_LH_has hL) (hL.1 ▸ e3) rfl (fun la1 h1 => k la1 (am_st1_LH hL.1 h1))
  · obtain ⟨y, t, hy, e1, e3, e2⟩ := am_lstv_inv (h : am_lstv _ _ _ _ = _); cases e2; cases (e1 : n = _); cases (hy : st = _)
    refine am_AW.loc hk (fun K hro p l e R s m args below meth c Q cx H locs nc ns la hL k => ?_)
    exact lv_lstore cx.1 cx.2.1 hd (am_LH_has hL) (hL.1 ▸ e3) rfl (fun la1 h1 => k la1 (am_st2_LH hL.1 h1))
  · obtain ⟨y, t, hy, e1, e3, e2⟩ := am_lstv_inv (h : am_lstv _ _ _ _ = _); cases e2; cases (e1 : n = _); cases (hy : st = _)
    refine am_AW.loc hk (fun K hro p l e R s m args below meth c Q cx H locs nc ns la hL k => ?_)
    exact lv_lstore_n cx.1 cx.2.1 hd rfl (am_LH_has hL) (hL.1 ▸ e3) rfl (fun la1 h1 => k la1 (am_st2_LH hL.1 h1))
  · obtain ⟨y, t, hy, e1, e3, e2⟩ := am_astv_inv (h : am_astv _ _ _ _ = _); cases e2; cases (e1 : n = _); cases (hy : st = _)
    refine am_AW.loc hk (fun K hro p l e R s m args below meth c Q cx H locs nc ns la hL k => ?_)
    exact lv_astore cx.1 cx.2.1 hd (am_LH_has hL) (hL.1 ▸ e3) rfl (fun la1 h1 => k la1 (am_st1_LH hL.1 h1))
  · obtain ⟨y, t, hy, e1, e3, e2⟩ := am_astv_inv (h : am_astv _ _ _ _ = _); cases e2; cases (e1 : n = _); cases (hy : st = _)
    refine am_AW.loc hk (fun K hro p l e R s m args below meth c Q cx H locs nc ns la hL k => ?_)
    exact lv_astore_n cx.1 cx.2.1 hd rfl (am_LH_has hL) (hL.1 ▸ e3) rfl (fun la1 h1 => k la1 (am_st1_LH hL.1 h1))
theorem am_step_iinc {x : Nat} {y : Int} {n a b po : Nat} {z : Int} {pc1 : Nat} {ls1 : am_Lc} {st1 : List Value} {σ1 : am_Sg} (hd : decode r.2.1 pc = .ok (.iinc x y, n))
    (h : am_step ro (.iinc x y, n, a, b, po, z) (pc, ls, st, σ) = some (pc1, ls1, st1, σ1)) (hk : am_AW nw ro d r pc1 ls1 st1 σ1 v σ') : am_AW nw ro d r pc ls st σ v σ' := by
  simp only [am_step] at h
  split at h
  · rename_i w hw
    split at h
    · rename_i hn
      cases hn; cases h
      refine am_AW.loc hk (fun K hro p l e R s m args below meth c Q cx H locs nc ns la hL k => ?_)
      obtain ⟨j, hj⟩ := List.getElem?_of_mem (am_prs_in (K := K) hw)
      exact lv_iinc cx.1 cx.2.1 hd (am_LH_has hL) hj rfl (hL.1 ▸ (List.getElem?_eq_some_iff.mp hw).1) rfl (fun la1 h1 => k la1 (am_st1_LH hL.1 h1))
    · cases h
  · cases h
theorem am_step_d {i : Instr} {n a b po : Nat} {z : Int} {pc1 : Nat} {ls1 : am_Lc} {st1 : List Value} {σ1 : am_Sg} (hd : decode r.2.1 pc = .ok (i, n))
    (h : am_step ro (i, n, a, b, po, z) (pc, ls, st, σ) = some (pc1, ls1, st1, σ1)) (hk : am_AW nw ro d r pc1 ls1 st1 σ1 v σ')
    (hi : i = .iadd ∨ i = .isub ∨ i = .imul ∨ i = .iand ∨ i = .ior ∨ i = .ixor ∨ i = .ishl ∨ i = .ishr ∨ i = .iushr) : am_AW nw ro d r pc ls st σ v σ' := by
  rcases hi with rfl | rfl | rfl | rfl | rfl | rfl | rfl | rfl | rfl <;> obtain ⟨x, y, t, hy, e1, e2⟩ := am_b2_inv (h : am_b2 _ _ _ = _) <;> cases e2 <;> cases (e1 : n = _) <;> cases (hy : st = _) <;>
    refine am_AW.pure hk (fun K hro p l e R s m args below meth c Q cx H locs nc ns la hW hS hL k => ?_)
  · exact lv_iadd cx.1 cx.2.1 hd k
  · exact lv_isub cx.1 cx.2.1 hd k
  · exact lv_imul cx.1 cx.2.1 hd k
  · exact lv_iand cx.1 cx.2.1 hd k
  · exact lv_ior cx.1 cx.2.1 hd k
  · exact lv_ixor cx.1 cx.2.1 hd k
  · exact lv_ishl cx.1 cx.2.1 hd k
  · exact lv_ishr cx.1 cx.2.1 hd k
  · exact lv_iushr cx.1 cx.2.1 hd rfl k
theorem am_step_e {i : Instr} {n a b po : Nat} {z : Int} {pc1 : Nat} {ls1 : am_Lc} {st1 : List Value} {σ1 : am_Sg} (hd : decode r.2.1 pc = .ok (i, n))
    (h : am_step ro (i, n, a, b, po, z) (pc, ls, st, σ) = some (pc1, ls1, st1, σ1)) (hk : am_AW nw ro d r pc1 ls1 st1 σ1 v σ')
    (hi : i = .ladd ∨ i = .lsub ∨ i = .lmul ∨ i = .land ∨ i = .lxor) : am_AW nw ro d r pc ls st σ v σ' := by
  rcases hi with rfl | rfl | rfl | rfl | rfl <;> obtain ⟨x, y, t, hy, e1, e2⟩ := am_lb2_inv (h : am_lb2 _ _ _ = _) <;> cases e2 <;> cases (e1 : n = _) <;> cases (hy : st = _) <;>
    refine am_AW.pure hk (fun K hro p l e R s m args below meth c Q cx H locs nc ns la hW hS hL k => ?_)
  · exact lv_ladd cx.1 cx.2.1 hd k
  · exact lv_lsub cx.1 cx.2.1 hd k
  · exact lv_lmul cx.1 cx.2.1 hd k
  · exact lv_land cx.1 cx.2.1 hd k
  · exact lv_lxor cx.1 cx.2.1 hd k
theorem am_step_f {i : Instr} {n a b po : Nat} {z : Int} {pc1 : Nat} {ls1 : am_Lc} {st1 : List Value} {σ1 : am_Sg} (hd : decode r.2.1 pc = .ok (i, n))
    (h : am_step ro (i, n, a, b, po, z) (pc, ls, st, σ) = some (pc1, ls1, st1, σ1)) (hk : am_AW nw ro d r pc1 ls1 st1 σ1 v σ')
    (hi : i = .idiv ∨ i = .irem ∨ i = .ldiv ∨ i = .lrem) : am_AW nw ro d r pc ls st σ v σ' := by
  rcases hi with rfl | rfl | rfl | rfl
  · obtain ⟨x, y, t, hy, e1, e3, e2⟩ := am_d2_inv (h : am_d2 _ _ _ = _); cases e2; cases (e1 : n = _); cases (hy : st = _)
    refine am_AW.pure hk (fun K hro p l e R s m args below meth c Q cx H locs nc ns la hW hS hL k => ?_)
    exact lv_idiv cx.1 cx.2.1 hd e3 k
  · obtain ⟨x, y, t, hy, e1, e3, e2⟩ := am_d2_inv (h : am_d2 _ _ _ = _); cases e2; cases (e1 : n = _); cases (hy : st = _)
    refine am_AW.pure hk (fun K hro p l e R s m args below meth c Q cx H locs nc ns la hW hS hL k => ?_)
    exact lv_irem cx.1 cx.2.1 hd e3 k
  · obtain ⟨x, y, t, hy, e1, e3, e2⟩ := am_ld2_inv (h : am_ld2 _ _ _ = _); cases e2; cases (e1 : n = _); cases (hy : st = _)
    refine am_AW.pure hk (fun K hro p l e R s m args below meth c Q cx H locs nc ns la hW hS hL k => ?_)
    exact lv_ldiv cx.1 cx.2.1 hd e3 k
  · obtain ⟨x, y, t, hy, e1, e3, e2⟩ := am_ld2_inv (h : am_ld2 _ _ _ = _); cases e2; cases (e1 : n = _); cases (hy : st = _)
    refine am_AW.pure hk (fun K hro p l e R s m args below meth c Q cx H locs nc ns la hW hS hL k => ?_)
    exact lv_lrem cx.1 cx.2.1 hd e3 k
theorem am_step_g {i : Instr} {n a b po : Nat} {z : Int} {pc1 : Nat} {ls1 : am_Lc} {st1 : List Value} {σ1 : am_Sg} (hd : decode r.2.1 pc = .ok (i, n))
    (h : am_step ro (i, n, a, b, po, z) (pc, ls, st, σ) = some (pc1, ls1, st1, σ1)) (hk : am_AW nw ro d r pc1 ls1 st1 σ1 v σ')
    (hi : i = .ineg ∨ i = .i2b ∨ i = .i2s) : am_AW nw ro d r pc ls st σ v σ' := by
  rcases hi with rfl | rfl | rfl <;> obtain ⟨x, t, hy, e1, e2⟩ := am_u1_inv (h : am_u1 _ _ _ = _) <;> cases e2 <;> cases (e1 : n = _) <;> cases (hy : st = _) <;>
    refine am_AW.pure hk (fun K hro p l e R s m args below meth c Q cx H locs nc ns la hW hS hL k => ?_)
  · exact lv_ineg cx.1 cx.2.1 hd k
  · exact lv_i2b cx.1 cx.2.1 hd rfl k
  · exact lv_i2s cx.1 cx.2.1 hd rfl k
theorem am_step_h {i : Instr} {n a b po : Nat} {z : Int} {pc1 : Nat} {ls1 : am_Lc} {st1 : List Value} {σ1 : am_Sg} (hd : decode r.2.1 pc = .ok (i, n))
    (h : am_step ro (i, n, a, b, po, z) (pc, ls, st, σ) = some (pc1, ls1, st1, σ1)) (hk : am_AW nw ro d r pc1 ls1 st1 σ1 v σ')
    (hi : i = .lneg ∨ i = .i2l ∨ i = .l2i ∨ i = .lcmp ∨ i = .dup ∨ i = .dup2) : am_AW nw ro d r pc ls st σ v σ' := by
  rcases hi with rfl | rfl | rfl | rfl | rfl | rfl <;> simp only [am_step] at h <;> split at h
  all_goals first
    | cases h; done
    | (split at h
       · rename_i hn
         cases hn; cases h
         refine am_AW.pure hk (fun K hro p l e R s m args below meth c Q cx H locs nc ns la hW hS hL k => ?_)
         first
           | exact lv_lneg cx.1 cx.2.1 hd k
           | exact lv_i2l cx.1 cx.2.1 hd rfl k
           | exact lv_l2i cx.1 cx.2.1 hd rfl k
           | exact W.lcmp cx.1 cx.2.1 hd k
           | exact lv_dup cx.1 cx.2.1 hd rfl k
           | exact lv_dup2_11 cx.1 cx.2.1 hd rfl rfl k
           | exact lv_dup2_2 cx.1 cx.2.1 hd rfl k
       · cases h)
theorem am_step_goto {o : Int} {n a b po : Nat} {z : Int} {pc1 : Nat} {ls1 : am_Lc} {st1 : List Value} {σ1 : am_Sg} (hd : decode r.2.1 pc = .ok (.goto o, n))
    (h : am_step ro (.goto o, n, a, b, po, z) (pc, ls, st, σ) = some (pc1, ls1, st1, σ1)) (hk : am_AW nw ro d r pc1 ls1 st1 σ1 v σ') : am_AW nw ro d r pc ls st σ v σ' := by
  simp only [am_step] at h
  split at h
  · rename_i hn
    obtain ⟨hn, hp⟩ := hn
    cases hn; cases h
    refine am_AW.pure hk (fun K hro p l e R s m args below meth c Q cx H locs nc ns la hW hS hL k => ?_)
    exact lv_goto cx.1 cx.2.1 hd (Int.toNat_of_nonneg hp).symm k
  · cases h
end AMT
