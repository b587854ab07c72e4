/-! ===== what the abstract machine does, the machine does ===== -/
/-- where a method stands -/
def am_Cx (K : am_Kx) (nw : List Cond) (d : Nat) (r : am_Mr) (R : Room) (p : Program) (s : State) (m : MethodId) (args : Array Value) (meth : Method) (c : Code) : Prop :=
  p.tables.exec = Jvm.exec ∧ c.code = r.2.1 ∧ c.maxLocals = r.2.2.1 ∧ s.vm.findClass r.1.cls = some m.cls ∧ (∀ w ∈ am_tb, w.before args s = true) ∧ va_K K.2.1 kcs (am_tys K) s ∧ am_RO K s s.heap ∧ (∀ w ∈ nw, va_Nw w s) ∧ (d ≤ R.frames ∧ 38 * d ≤ R.locals) ∧ (r.1.name = "<init>" → meth.name = "<init>") ∧ K.1 ≤ s.heap.size
/-- the instruction that ends a method -/
def am_ri (v : Option Value) : Instr := match v with
  | none => .return_
  | some (.long _) => .lreturn
  | some _ => .ireturn
def am_rok (t : Option FieldType) (v : Option Value) : Bool := match t, v with
  | none, none => true
  | some .int, some (.int _) => true
  | some .boolean, some (.int x) => x == 0 || x == 1
  | some .long, some (.long _) => true
  | _, _ => false
/-- from here on the method ends with v and the cells σ' -/
def am_AW (nw : List Cond) (ro : am_Ro) (d : Nat) (r : am_Mr) (pc : Nat) (ls : am_Lc) (st : List Value) (σ : am_Sg) (v : Option Value) (σ' : am_Sg) : Prop :=
  σ.1.length ≤ σ'.1.length ∧ am_slots σ.1 ≤ am_slots σ'.1 ∧
  ∀ (K : am_Kx), K.2.2.2.2 = ro → ∀ (p : Program) (l : Launch) (e : Env) (R : Room) (s : State) (m : MethodId) (args : Array Value) (below : List Frame) (meth : Method) (c : Code) (Q : State → Prop), am_Cx K nw d r R p s m args meth c →
  ∀ (H : Heap) (locs : List Loc) (nc ns : Nat) (la : Array Slot), nc + (σ'.1.length - σ.1.length) ≤ R.cells → ns + (am_slots σ'.1 - am_slots σ.1) ≤ R.slots → am_Wd K σ H → H.size = s.heap.size + nc → va_S (am_A K) s.heap H locs → am_LH K la r.2.2.1 ls →
  (∀ (H' : Heap) (locs' : List Loc) (pc' : Nat) (la' : Array Slot), decode r.2.1 pc' = .ok (am_ri v, 1) → am_rok r.2.2.2.1 v = true → am_Wd K σ' H' → va_S (am_A K) s.heap H' locs' →
    W p l e R s m args below meth c H' locs' (nc + (σ'.1.length - σ.1.length)) (ns + (am_slots σ'.1 - am_slots σ.1)) Q (F0 m pc' la' (v.toList.map (am_cv K)))) →
  W p l e R s m args below meth c H locs nc ns Q (F0 m pc la (st.map (am_cv K)))
section AMS
variable {nw : List Cond} {ro : am_Ro} {d : Nat} {r : am_Mr} {pc : Nat} {ls : am_Lc} {st : List Value} {σ : am_Sg} {v : Option Value} {σ' : am_Sg}
/-- by way of a later point -/
theorem am_AW.via {pc1 : Nat} {ls1 : am_Lc} {st1 : List Value} {σ1 : am_Sg} (hk : am_AW nw ro d r pc1 ls1 st1 σ1 v σ') (h1 : σ.1.length ≤ σ1.1.length) (h2 : am_slots σ.1 ≤ am_slots σ1.1)
    (h : ∀ (K : am_Kx), K.2.2.2.2 = ro → ∀ (p : Program) (l : Launch) (e : Env) (R : Room) (s : State) (m : MethodId) (args : Array Value) (below : List Frame) (meth : Method) (c : Code) (Q : State → Prop), am_Cx K nw d r R p s m args meth c →
      ∀ (H : Heap) (locs : List Loc) (nc ns : Nat) (la : Array Slot), nc + (σ1.1.length - σ.1.length) ≤ R.cells → ns + (am_slots σ1.1 - am_slots σ.1) ≤ R.slots → am_Wd K σ H → H.size = s.heap.size + nc → va_S (am_A K) s.heap H locs → am_LH K la r.2.2.1 ls →
      (∀ (H1 : Heap) (locs1 : List Loc) (la1 : Array Slot), am_Wd K σ1 H1 → va_S (am_A K) s.heap H1 locs1 → am_LH K la1 r.2.2.1 ls1 → W p l e R s m args below meth c H1 locs1 (nc + (σ1.1.length - σ.1.length)) (ns + (am_slots σ1.1 - am_slots σ.1)) Q (F0 m pc1 la1 (st1.map (am_cv K)))) →
      W p l e R s m args below meth c H locs nc ns Q (F0 m pc la (st.map (am_cv K)))) : am_AW nw ro d r pc ls st σ v σ' := by
  obtain ⟨g1, g2, hk⟩ := hk
  refine ⟨Nat.le_trans h1 g1, Nat.le_trans h2 g2, fun K hro p l e R s m args below meth c Q cx H locs nc ns la b1 b2 hW hz hS hL kr => ?_⟩
  refine h K hro p l e R s m args below meth c Q cx H locs nc ns la (by omega) (by omega) hW hz hS hL (fun H1 locs1 la1 hW1 hS1 hL1 => ?_)
  have hz1 : H1.size = s.heap.size + (nc + (σ1.1.length - σ.1.length)) := by
    have a1 := hW.1
    have a2 := hW1.1
    omega
  refine hk K hro p l e R s m args below meth c Q cx H1 locs1 _ _ la1 (by omega) (by omega) hW1 hz1 hS1 hL1 (fun H' locs' pc' la' q1 q2 q3 q4 => ?_)
  have e1 : nc + (σ1.1.length - σ.1.length) + (σ'.1.length - σ1.1.length) = nc + (σ'.1.length - σ.1.length) := by omega
  have e2 : ns + (am_slots σ1.1 - am_slots σ.1) + (am_slots σ'.1 - am_slots σ1.1) = ns + (am_slots σ'.1 - am_slots σ.1) := by omega
  rw [e1, e2]
  exact kr H' locs' pc' la' q1 q2 q3 q4
/-- the cells stay as many as they were -/
theorem am_AW.put {pc1 : Nat} {ls1 : am_Lc} {st1 : List Value} {σ1 : am_Sg} (hk : am_AW nw ro d r pc1 ls1 st1 σ1 v σ') (h1 : σ1.1.length = σ.1.length) (h2 : am_slots σ1.1 = am_slots σ.1)
    (h : ∀ (K : am_Kx), K.2.2.2.2 = ro → ∀ (p : Program) (l : Launch) (e : Env) (R : Room) (s : State) (m : MethodId) (args : Array Value) (below : List Frame) (meth : Method) (c : Code) (Q : State → Prop), am_Cx K nw d r R p s m args meth c →
      ∀ (H : Heap) (locs : List Loc) (nc ns : Nat) (la : Array Slot), am_Wd K σ H → H.size = s.heap.size + nc → va_S (am_A K) s.heap H locs → am_LH K la r.2.2.1 ls →
      (∀ (H1 : Heap) (locs1 : List Loc) (la1 : Array Slot), am_Wd K σ1 H1 → va_S (am_A K) s.heap H1 locs1 → am_LH K la1 r.2.2.1 ls1 → W p l e R s m args below meth c H1 locs1 nc ns Q (F0 m pc1 la1 (st1.map (am_cv K)))) →
      W p l e R s m args below meth c H locs nc ns Q (F0 m pc la (st.map (am_cv K)))) : am_AW nw ro d r pc ls st σ v σ' := by
  refine am_AW.via hk (by omega) (by omega) (fun K hro p l e R s m args below meth c Q cx H locs nc ns la b1 b2 hW hz hS hL kr => ?_)
  refine h K hro p l e R s m args below meth c Q cx H locs nc ns la hW hz hS hL (fun H1 locs1 la1 hW1 hS1 hL1 => ?_)
  have h3 := kr H1 locs1 la1 hW1 hS1 hL1
  rw [h1, h2, Nat.sub_self, Nat.sub_self] at h3
  exact h3
/-- the stack alone -/
theorem am_AW.pure {pc1 : Nat} {st1 : List Value} (hk : am_AW nw ro d r pc1 ls st1 σ v σ')
    (h : ∀ (K : am_Kx), K.2.2.2.2 = ro → ∀ (p : Program) (l : Launch) (e : Env) (R : Room) (s : State) (m : MethodId) (args : Array Value) (below : List Frame) (meth : Method) (c : Code) (Q : State → Prop), am_Cx K nw d r R p s m args meth c →
      ∀ (H : Heap) (locs : List Loc) (nc ns : Nat) (la : Array Slot), am_Wd K σ H → va_S (am_A K) s.heap H locs → am_LH K la r.2.2.1 ls →
      W p l e R s m args below meth c H locs nc ns Q (F0 m pc1 la (st1.map (am_cv K))) →
      W p l e R s m args below meth c H locs nc ns Q (F0 m pc la (st.map (am_cv K)))) : am_AW nw ro d r pc ls st σ v σ' :=
  am_AW.put hk rfl rfl (fun K hro p l e R s m args below meth c Q cx H locs nc ns la hW _ hS hL kr => h K hro p l e R s m args below meth c Q cx H locs nc ns la hW hS hL (kr H locs la hW hS hL))
/-- a local too -/
theorem am_AW.loc {pc1 : Nat} {ls1 : am_Lc} {st1 : List Value} (hk : am_AW nw ro d r pc1 ls1 st1 σ v σ')
    (h : ∀ (K : am_Kx), K.2.2.2.2 = ro → ∀ (p : Program) (l : Launch) (e : Env) (R : Room) (s : State) (m : MethodId) (args : Array Value) (below : List Frame) (meth : Method) (c : Code) (Q : State → Prop), am_Cx K nw d r R p s m args meth c →
      ∀ (H : Heap) (locs : List Loc) (nc ns : Nat) (la : Array Slot), am_LH K la r.2.2.1 ls →
      (∀ (la1 : Array Slot), am_LH K la1 r.2.2.1 ls1 → W p l e R s m args below meth c H locs nc ns Q (F0 m pc1 la1 (st1.map (am_cv K)))) →
      W p l e R s m args below meth c H locs nc ns Q (F0 m pc la (st.map (am_cv K)))) : am_AW nw ro d r pc ls st σ v σ' :=
  am_AW.put hk rfl rfl (fun K hro p l e R s m args below meth c Q cx H locs nc ns la hW _ hS hL kr => h K hro p l e R s m args below meth c Q cx H locs nc ns la hL (fun la1 h1 => kr H locs la1 hW hS h1))
/-- behind a store the heap is as large as before -/
theorem am_W_sz {A : Nat → Prop} {p : Program} {l : Launch} {e : Env} {R : Room} {s : State} {m : MethodId} {args : Array Value} {below : List Frame} {meth : Method} {c : Code} {H H1 : Heap} {locs locs1 : List Loc} {nc ns : Nat} {Q : State → Prop} {g : JFrame}
    (hz : H.size = s.heap.size + nc) (hS : va_S A s.heap H locs) (h1 : va_S A H H1 locs1) (k : H1.size = H.size → va_S A s.heap H1 locs1 → W p l e R s m args below meth c H1 locs1 nc ns Q g) : W p l e R s m args below meth c H1 locs1 nc ns Q g := by
  intro T hT X
  have h2 : T.heap.size ≤ s.heap.size + nc := X.same.2.2.1
  rw [hT] at h2
  have h3 := h1.1
  refine k (by omega) ⟨Nat.le_trans hS.1 h1.1, fun q q1 q2 => ?_, h1.2.2⟩ T hT X
  rw [h1.2.1 q (Nat.lt_of_lt_of_le q1 hS.1) q2]
  exact hS.2.1 q q1 q2
theorem am_S_self {A : Nat → Prop} {H0 H : Heap} {locs : List Loc} (h : va_S A H0 H locs) : va_S A H H locs := ⟨Nat.le_refl _, fun _ _ _ => rfl, h.2.2⟩
/-! families of instructions -/
theorem am_push_inv {e : am_En} {c c' : am_Cf} {n : Nat} {x : Value} (h : am_push e c n x = some c') : e.2.1 = n ∧ c' = (c.1 + n, c.2.1, x :: c.2.2.1, c.2.2.2) := by
  unfold am_push at h
  split at h
  · cases h; exact ⟨by assumption, rfl⟩
  · cases h
theorem am_ildv_inv {e : am_En} {c c' : am_Cf} {n i : Nat} (h : am_ildv e c n i = some c') : ∃ x, c.2.1[i]? = some (some (.int x)) ∧ e.2.1 = n ∧ c' = (c.1 + n, c.2.1, .int x :: c.2.2.1, c.2.2.2) := by
  unfold am_ildv at h
  split at h
  · rename_i x hx
    exact ⟨x, hx, am_push_inv h⟩
  · cases h
theorem am_lldv_inv {e : am_En} {c c' : am_Cf} {n i : Nat} (h : am_lldv e c n i = some c') : ∃ x, c.2.1[i]? = some (some (.long x)) ∧ e.2.1 = n ∧ c' = (c.1 + n, c.2.1, .long x :: c.2.2.1, c.2.2.2) := by
  unfold am_lldv at h
  split at h
  · rename_i x hx
    exact ⟨x, hx, am_push_inv h⟩
  · cases h
theorem am_aldv_inv {e : am_En} {c c' : am_Cf} {n i : Nat} (h : am_aldv e c n i = some c') : ∃ x, c.2.1[i]? = some (some (.ref x)) ∧ e.2.1 = n ∧ c' = (c.1 + n, c.2.1, .ref x :: c.2.2.1, c.2.2.2) := by
  unfold am_aldv at h
  split at h
  · rename_i x hx
    exact ⟨x, hx, am_push_inv h⟩
  · cases h
theorem am_istv_inv {e : am_En} {c c' : am_Cf} {n i : Nat} (h : am_istv e c n i = some c') : ∃ x r, c.2.2.1 = .int x :: r ∧ e.2.1 = n ∧ i < c.2.1.length ∧ c' = (c.1 + n, am_st1 c.2.1 i (.int x), r, c.2.2.2) := by
  unfold am_istv at h
  split at h
  · rename_i x r hx
    split at h
    · rename_i hc
      cases h; exact ⟨x, r, hx, hc.1, hc.2, rfl⟩
    · cases h
  · cases h
theorem am_astv_inv {e : am_En} {c c' : am_Cf} {n i : Nat} (h : am_astv e c n i = some c') : ∃ x r, c.2.2.1 = .ref x :: r ∧ e.2.1 = n ∧ i < c.2.1.length ∧ c' = (c.1 + n, am_st1 c.2.1 i (.ref x), r, c.2.2.2) := by
  unfold am_astv at h
  split at h
  · rename_i x r hx
    split at h
    · rename_i hc
      cases h; exact ⟨x, r, hx, hc.1, hc.2, rfl⟩
    · cases h
  · cases h
theorem am_lstv_inv {e : am_En} {c c' : am_Cf} {n i : Nat} (h : am_lstv e c n i = some c') : ∃ x r, c.2.2.1 = .long x :: r ∧ e.2.1 = n ∧ i + 1 < c.2.1.length ∧ c' = (c.1 + n, am_st2 c.2.1 i (.long x), r, c.2.2.2) := by
  unfold am_lstv at h
  split at h
  · rename_i x r hx
    split at h
    · rename_i hc
      cases h; exact ⟨x, r, hx, hc.1, hc.2, rfl⟩
    · cases h
  · cases h
theorem am_b2_inv {e : am_En} {c c' : am_Cf} {f : Int32 → Int32 → Int32} (h : am_b2 e c f = some c') : ∃ x y r, c.2.2.1 = .int y :: .int x :: r ∧ e.2.1 = 1 ∧ c' = (c.1 + 1, c.2.1, .int (f x y) :: r, c.2.2.2) := by
  unfold am_b2 at h
  split at h
  · rename_i y x r hx
    split at h
    · rename_i hc
      cases h; exact ⟨x, y, r, hx, hc, rfl⟩
    · cases h
  · cases h
theorem am_d2_inv {e : am_En} {c c' : am_Cf} {f : Int32 → Int32 → Int32} (h : am_d2 e c f = some c') : ∃ x y r, c.2.2.1 = .int y :: .int x :: r ∧ e.2.1 = 1 ∧ ¬ y = 0 ∧ c' = (c.1 + 1, c.2.1, .int (f x y) :: r, c.2.2.2) := by
  unfold am_d2 at h
  split at h
  · rename_i y x r hx
    split at h
    · rename_i hc
      cases h; exact ⟨x, y, r, hx, hc.1, hc.2, rfl⟩
    · cases h
  · cases h
theorem am_lb2_inv {e : am_En} {c c' : am_Cf} {f : Int64 → Int64 → Int64} (h : am_lb2 e c f = some c') : ∃ x y r, c.2.2.1 = .long y :: .long x :: r ∧ e.2.1 = 1 ∧ c' = (c.1 + 1, c.2.1, .long (f x y) :: r, c.2.2.2) := by
  unfold am_lb2 at h
  split at h
  · rename_i y x r hx
    split at h
    · rename_i hc
      cases h; exact ⟨x, y, r, hx, hc, rfl⟩
    · cases h
  · cases h
theorem am_ld2_inv {e : am_En} {c c' : am_Cf} {f : Int64 → Int64 → Int64} (h : am_ld2 e c f = some c') : ∃ x y r, c.2.2.1 = .long y :: .long x :: r ∧ e.2.1 = 1 ∧ ¬ y = 0 ∧ c' = (c.1 + 1, c.2.1, .long (f x y) :: r, c.2.2.2) := by
  unfold am_ld2 at h
  split at h
  · rename_i y x r hx
    split at h
    · rename_i hc
      cases h; exact ⟨x, y, r, hx, hc.1, hc.2, rfl⟩
    · cases h
  · cases h
theorem am_u1_inv {e : am_En} {c c' : am_Cf} {f : Int32 → Int32} (h : am_u1 e c f = some c') : ∃ x r, c.2.2.1 = .int x :: r ∧ e.2.1 = 1 ∧ c' = (c.1 + 1, c.2.1, .int (f x) :: r, c.2.2.2) := by
  unfold am_u1 at h
  split at h
  · rename_i x r hx
    split at h
    · rename_i hc
      cases h; exact ⟨x, r, hx, hc, rfl⟩
    · cases h
  · cases h
/-! cells -/
theorem am_get_inv {σ : am_Sg} {ci k p : Nat} {x : Value} (h : am_get σ ci k p = some x) : ∃ fs, σ.1[p]? = some (0, ci, fs) ∧ ((∃ z, fs[k]? = some (.int z) ∧ x = .int (σ.2.1 p k)) ∨ ∃ q, fs[k]? = some (.ref q) ∧ x = .ref q) := by
  unfold am_get at h
  split at h
  · rename_i n fs hp
    split at h
    · rename_i hn
      subst hn
      refine ⟨fs, hp, ?_⟩
      split at h
      · rename_i z hz
        cases h
        exact Or.inl ⟨z, hz, rfl⟩
      · rename_i q hz
        cases h
        exact Or.inr ⟨q, hz, rfl⟩
      · cases h
    · cases h
  · cases h
theorem am_put_inv {σ σ1 : am_Sg} {ty : FieldType} {ci k p : Nat} {x : Value} (h : am_put σ ty ci k p x = some σ1) : ∃ fs, σ.1[p]? = some (0, ci, fs) ∧ ((∃ z y, fs[k]? = some (.int z) ∧ x = .int y ∧ am_fit ty y = true ∧ σ1 = am_putI σ p k y) ∨ ∃ q, fs[k]? = some .null ∧ x = .ref q ∧ am_isR ty = true ∧ σ1 = (σ.1.set p (0, ci, fs.set k (.ref q)), σ.2)) := by
  unfold am_put at h
  split at h
  · rename_i n fs hp
    split at h
    · rename_i hn
      subst hn
      refine ⟨fs, hp, ?_⟩
      split at h
      · rename_i z y hz
        split at h
        · rename_i hf
          cases h
          exact Or.inl ⟨z, y, hz, rfl, hf, rfl⟩
        · cases h
      · rename_i q hz
        split at h
        · rename_i hf
          cases h
          exact Or.inr ⟨q, hz, rfl, hf, rfl⟩
        · cases h
      · cases h
    · cases h
  · cases h
theorem am_fs_int {K : am_Kx} {fs : List Value} {f : Nat → Int32} {k : Nat} {z y : Int32} (h : fs[k]? = some (.int z)) : fs.mapIdx (am_fv K (upd f k y)) = (fs.mapIdx (am_fv K f)).set k (.int y) := by
  apply List.ext_getElem?
  intro j
  rw [List.getElem?_set]
  simp only [List.getElem?_mapIdx, List.length_mapIdx]
  have hk := (List.getElem?_eq_some_iff.mp h).1
  by_cases hj : k = j
  · subst hj
    rw [h, if_pos rfl, if_pos hk]
    simp [am_fv, upd]
  · rw [if_neg hj]
    have hj' : ¬ j = k := fun q => hj q.symm
    cases hf : fs[j]? with
    | none => rfl
    | some w =>
      simp only [Option.map_some, Option.some.injEq]
      cases w <;> simp [am_fv, upd, hj']
theorem am_fs_ref {K : am_Kx} {fs : List Value} {f : Nat → Int32} {k q : Nat} : (fs.set k (.ref q)).mapIdx (am_fv K f) = (fs.mapIdx (am_fv K f)).set k (.ref (am_eta K q)) := by
  apply List.ext_getElem?
  intro j
  rw [List.getElem?_set]
  simp only [List.getElem?_mapIdx, List.length_mapIdx, List.getElem?_set]
  by_cases hj : k = j
  · subst hj
    by_cases hk : k < fs.length
    · simp [hk, am_fv, am_cv]
    · simp [hk]
  · simp [hj]
theorem am_sl_set {S : List am_Sh} {p : Nat} {a b : am_Sh} (h : S[p]? = some a) (hab : am_sl1 a = am_sl1 b) : am_slots (S.set p b) = am_slots S := by
  unfold am_slots
  congr 1
  apply List.ext_getElem?
  intro j
  rw [List.getElem?_map, List.getElem?_map, List.getElem?_set]
  by_cases hj : p = j
  · subst hj
    have := (List.getElem?_eq_some_iff.mp h).1
    rw [if_pos rfl, if_pos this, h]
    simp [hab]
  · simp [hj]
theorem am_sl_push (S : List am_Sh) (a : am_Sh) : am_slots (S ++ [a]) = am_slots S + am_sl1 a := by simp [am_slots]
end AMS
