/-! ===== the machine's words, its cells in the heap ===== -/
def am_tb : List Cond := lw_tbl.filter goodWord
theorem am_tb_in {w : Cond} (h : w ∈ lw_tbl) (g : goodWord w = true) : w ∈ am_tb := List.mem_filter.mpr ⟨h, g⟩
theorem am_tb_good : ∀ w ∈ am_tb, (w.onTables && w.keeps) = true ∨ ∃ ty, w = .arrayClass ty := fun _ h => good_of_word (List.mem_filter.mp h).2
/-- what is fixed of a run: where its cells begin; its classes; its array classes; the arrays that nobody writes: where they lie, what they hold -/
abbrev am_Kx : Type := Nat × va_G × (Nat → ClassId) × (Nat → Nat) × am_Ro
def am_eta (K : am_Kx) (k : Nat) : Nat := if am_rB ≤ k then K.2.2.2.1 (k - am_rB) else K.1 + k
def am_cv (K : am_Kx) (v : Value) : Value := match v with
  | .ref k => .ref (am_eta K k)
  | v => v
def am_or (K : am_Kx) (v : Value) : Option Nat := match v with
  | .ref k => some (am_eta K k)
  | _ => none
def am_fv (K : am_Kx) (f : Nat → Int32) (k : Nat) (v : Value) : Value := match v with
  | .int _ => .int (f k)
  | v => am_cv K v
def am_cell (K : am_Kx) (fI : Nat → Int32) (fL : Nat → Int64) (sh : am_Sh) : va_E := match sh with
  | (0, n, fs) => .inr (n, fs.mapIdx (am_fv K fI))
  | (1, n, _) => .inl (K.2.2.1 1, n, .inl fI)
  | (2, n, _) => .inl (K.2.2.1 2, n, .inr (.inl fL))
  | (3, n, _) => .inl (K.2.2.1 3, n, .inl fI)
  | (t, n, fs) => .inl (K.2.2.1 t, n, .inr (.inr (.inr (.inr (fun k => am_or K (fs.getD k .null))))))
def am_ws (K : am_Kx) (σ : am_Sg) : va_W := σ.1.mapIdx (fun p sh => (K.1 + p, am_cell K (σ.2.1 p) (σ.2.2 p) sh))
def am_tys (K : am_Kx) : List (ClassId × FieldType) := [(K.2.2.1 1, .int), (K.2.2.1 2, .long), (K.2.2.1 3, .boolean), (K.2.2.1 4, .object "FriezePolygons$Row"), (K.2.2.1 5, .object "FriezePolygons$Figure")]
def am_A (K : am_Kx) : Nat → Prop := fun q => K.1 ≤ q
def am_Wd (K : am_Kx) (σ : am_Sg) (H : Heap) : Prop := H.size = K.1 + σ.1.length ∧ σ.1.length ≤ 1000 ∧ va_P K.2.1 kcs (am_ws K σ) H
theorem am_in_vp {i : Int32} {n : Nat} (h : am_in i n = true) : vp_in i n := by
  unfold am_in at h
  unfold vp_in
  simpa using h
theorem am_ws_at (K : am_Kx) {σ : am_Sg} {p : Nat} {sh : am_Sh} (h : σ.1[p]? = some sh) : (am_ws K σ)[p]? = some (K.1 + p, am_cell K (σ.2.1 p) (σ.2.2 p) sh) := by
  simp [am_ws, List.getElem?_mapIdx, h]
theorem am_ws_len (K : am_Kx) (σ : am_Sg) : (am_ws K σ).length = σ.1.length := by simp [am_ws]
theorem am_ws_D (K : am_Kx) (σ : am_Sg) : va_D (am_A K) (am_ws K σ) := by
  refine ⟨fun i j p q hi hj h => ?_, fun k q hk => ?_⟩
  · simp only [am_ws, List.getElem?_mapIdx, Option.map_eq_some_iff] at hi hj
    obtain ⟨a, -, rfl⟩ := hi
    obtain ⟨b, -, rfl⟩ := hj
    simpa using h
  · simp only [am_ws, List.getElem?_mapIdx, Option.map_eq_some_iff] at hk
    obtain ⟨a, -, rfl⟩ := hk
    exact Nat.le_add_right _ _
theorem am_lt {K : am_Kx} {σ : am_Sg} {H : Heap} (h : am_Wd K σ H) {p : Nat} {sh : am_Sh} (hp : σ.1[p]? = some sh) : p < am_rB := by
  have h1 : p < σ.1.length := (List.getElem?_eq_some_iff.mp hp).1
  have h2 := h.2.1
  show p < 1000000
  omega
theorem am_eta_lt {K : am_Kx} {p : Nat} (h : p < am_rB) : am_eta K p = K.1 + p := if_neg (Nat.not_le.mpr h)
theorem am_eta_at {K : am_Kx} {σ : am_Sg} {H : Heap} (h : am_Wd K σ H) {p : Nat} {sh : am_Sh} (hp : σ.1[p]? = some sh) : am_eta K p = K.1 + p := am_eta_lt (am_lt h hp)
/-- a cell is changed -/
theorem am_ws_set {K : am_Kx} {σ σ' : am_Sg} {p : Nat} {sh : am_Sh} {e : va_E} (hp : p < σ.1.length) (hS : σ'.1 = σ.1.set p sh) (ho : ∀ q, q ≠ p → σ'.2.1 q = σ.2.1 q ∧ σ'.2.2 q = σ.2.2 q) (he : am_cell K (σ'.2.1 p) (σ'.2.2 p) sh = e) : (am_ws K σ).set p (K.1 + p, e) = am_ws K σ' := by
  apply List.ext_getElem?
  intro k
  rw [List.getElem?_set]
  simp only [am_ws, List.getElem?_mapIdx, hS, List.length_mapIdx]
  by_cases hk : p = k
  · subst hk
    simp [hp, he]
  · have h1 := ho k (fun q => hk q.symm)
    simp [hk, h1.1, h1.2]
theorem am_Wd_set {K : am_Kx} {σ σ' : am_Sg} {p : Nat} {sh : am_Sh} {e : va_E} {H H1 : Heap} (h : am_Wd K σ H) (z : H1.size = H.size) (hp : p < σ.1.length) (hS : σ'.1 = σ.1.set p sh) (ho : ∀ q, q ≠ p → σ'.2.1 q = σ.2.1 q ∧ σ'.2.2 q = σ.2.2 q) (he : am_cell K (σ'.2.1 p) (σ'.2.2 p) sh = e) (hP : va_P K.2.1 kcs ((am_ws K σ).set p (K.1 + p, e)) H1) : am_Wd K σ' H1 := by
  rw [am_ws_set hp hS ho he] at hP
  refine ⟨?_, ?_, hP⟩
  · rw [z, h.1, hS, List.length_set]
  · rw [hS, List.length_set]; exact h.2.1
/-- a cell comes -/
theorem am_Wd_push {K : am_Kx} {σ σ' : am_Sg} {sh : am_Sh} {H H1 : Heap} (h : am_Wd K σ H) (hlt : σ.1.length < 1000) (z : H1.size = H.size + 1) (o : ∀ q : Nat, q < H.size → H1[q]? = H[q]?) (hS : σ'.1 = σ.1 ++ [sh]) (ho : ∀ q, q < σ.1.length → σ'.2.1 q = σ.2.1 q ∧ σ'.2.2 q = σ.2.2 q) (hn : va_at K.2.1 kcs (H.size, am_cell K (σ'.2.1 σ.1.length) (σ'.2.2 σ.1.length) sh) H1) : am_Wd K σ' H1 := by
  have hl : σ'.1.length = σ.1.length + 1 := by rw [hS]; simp
  refine ⟨by rw [z, h.1, hl]; omega, by omega, fun k q hk => ?_⟩
  simp only [am_ws, List.getElem?_mapIdx, Option.map_eq_some_iff] at hk
  obtain ⟨a, ha, rfl⟩ := hk
  rw [hS] at ha
  by_cases hk : k < σ.1.length
  · rw [List.getElem?_append_left hk] at ha
    have h1 := h.2.2 k _ (am_ws_at K ha)
    rw [(ho k hk).1, (ho k hk).2]
    refine h1.kept (o _ ?_)
    rw [h.1]
    show K.1 + k < _
    omega
  · have hk2 : k = σ.1.length := by
      have := (List.getElem?_eq_some_iff.mp ha).1
      simp at this
      omega
    subst hk2
    simp at ha
    subst ha
    rw [← h.1]
    exact hn
theorem am_wd_lt {σ : am_Sg} {p : Nat} {sh : am_Sh} (hp : σ.1[p]? = some sh) : p < σ.1.length := (List.getElem?_eq_some_iff.mp hp).1
/-- words of the classes' fields among the tables' -/
theorem am_hin {ci : Nat} {q : vw_C} (h : kcs[ci]? = some q) : ∀ w ∈ u_ws q.1 q.2.1 q.2.2, w ∈ am_tb := by
  intro w hw
  refine am_tb_in ((kcs_ok ci q h).1 w hw) ?_
  obtain ⟨k, -, rfl⟩ := List.mem_map.mp hw
  unfold u_lay
  split <;> rfl
theorem am_decl {ci : Nat} {q : vw_C} (h : kcs[ci]? = some q) {k : Nat} (hk : k < q.2.2) : (q.2.1 k).1 = q.1 := (kcs_ok ci q h).2.2.2.2.2 k hk
/-- the arrays that nobody writes -/
def am_RO (K : am_Kx) (U : State) (H : Heap) : Prop := (∀ j, j < 2 → va_X (K.2.2.2.1 j) (K.2.2.2.2 j).1 (K.2.2.2.2 j).2 U H ∧ K.2.2.2.1 j < K.1) ∧ va_Z "FriezePolygons" "WAYS_OF" "[I" (.ref (K.2.2.2.1 0)) (am_A K) U H
/-- links among nest mates, and arrays over classes -/
def am_nwM (w : Cond) : Prop := (∃ a i y h, w = .methodLinkNest a i y h) ∨ (∃ a i b n d h, w = .fieldLinkNest a i b n d h) ∨ ∃ C, w = .arrayOver (.object C)
/-! locals -/
def am_LH (K : am_Kx) (la : Array Slot) (n : Nat) (ls : am_Lc) : Prop := ls.length = n ∧ la.size = n ∧ lv_wf la ∧ ∀ (i : Nat) (v : Value), ls[i]? = some (some v) → la[i]? = some (.val (am_cv K v))
/-- the known ones as the kit has them -/
def am_prs (K : am_Kx) (ls : am_Lc) : List (Nat × Value) := (List.range ls.length).filterMap (fun i => match ls[i]? with
  | some (some v) => some (i, am_cv K v)
  | _ => none)
theorem am_prs_in {K : am_Kx} {ls : am_Lc} {i : Nat} {v : Value} (h : ls[i]? = some (some v)) : (i, am_cv K v) ∈ am_prs K ls := by
  refine List.mem_filterMap.mpr ⟨i, List.mem_range.mpr (List.getElem?_eq_some_iff.mp h).1, ?_⟩
  rw [h]
theorem am_LH_has {K : am_Kx} {la : Array Slot} {n : Nat} {ls : am_Lc} (h : am_LH K la n ls) : lv_has la n (am_prs K ls) := by
  refine ⟨h.2.1, h.2.2.1, fun q hq => ?_⟩
  obtain ⟨i, -, hi⟩ := List.mem_filterMap.mp hq
  split at hi
  · rename_i v hv
    cases hi
    exact h.2.2.2 i v hv
  · cases hi
theorem am_cv_cat (K : am_Kx) (v : Value) : (am_cv K v).category = v.category := by cases v <;> rfl
theorem am_clr_len (ls : am_Lc) (i : Nat) : (am_clr ls i).length = ls.length := by
  unfold am_clr
  split
  · rfl
  · split <;> simp
theorem am_clr_at {ls : am_Lc} {i k : Nat} {v : Value} (h : (am_clr ls i)[k]? = some (some v)) : ls[k]? = some (some v) ∧ ¬ (k + 1 = i ∧ v.category = 2) := by
  unfold am_clr at h
  split at h
  · exact ⟨h, fun q => by omega⟩
  · rename_i j
    split at h
    · rename_i x hx
      rw [List.getElem?_set] at h
      by_cases hk : j = k
      · subst hk
        rw [if_pos rfl] at h
        split at h <;> cases h
      · rw [if_neg hk] at h
        exact ⟨h, fun q => hk (by omega)⟩
    · rename_i x hx
      rw [List.getElem?_set] at h
      by_cases hk : j = k
      · subst hk
        rw [if_pos rfl] at h
        split at h <;> cases h
      · rw [if_neg hk] at h
        exact ⟨h, fun q => hk (by omega)⟩
    · rename_i n1 n2
      refine ⟨h, fun q => ?_⟩
      have : k = j := by omega
      subst this
      cases v <;> simp [Value.category] at q
      · exact n1 _ h
      · exact n2 _ h
theorem am_st1_LH {K : am_Kx} {la' : Array Slot} {n i : Nat} {ls : am_Lc} {v : Value} (hl : ls.length = n) (h : lv_has la' n ((i, am_cv K v) :: (am_prs K ls).filter (fun q => !(q.1 == i) && !(q.1 + 1 == i && q.2.category == 2)))) : am_LH K la' n (am_st1 ls i v) := by
  refine ⟨by simp [am_st1, am_clr_len, hl], h.1, h.2.1, fun k w hk => ?_⟩
  unfold am_st1 at hk
  rw [List.getElem?_set] at hk
  by_cases hik : i = k
  · subst hik
    rw [if_pos rfl] at hk
    split at hk
    · cases hk
      exact h.2.2 _ List.mem_cons_self
    · cases hk
  · rw [if_neg hik] at hk
    obtain ⟨h1, h2⟩ := am_clr_at hk
    refine h.2.2 (k, am_cv K w) (List.mem_cons_of_mem _ (List.mem_filter.mpr ⟨am_prs_in h1, ?_⟩))
    simp only [am_cv_cat, Bool.and_eq_true, Bool.not_eq_true', beq_eq_false_iff_ne, ne_eq, Bool.and_eq_false_iff]
    refine ⟨fun q => hik q.symm, ?_⟩
    by_cases h3 : k + 1 = i
    · exact Or.inr (fun q => h2 ⟨h3, q⟩)
    · exact Or.inl h3
theorem am_st2_LH {K : am_Kx} {la' : Array Slot} {n i : Nat} {ls : am_Lc} {v : Value} (hl : ls.length = n) (h : lv_has la' n ((i, am_cv K v) :: (am_prs K ls).filter (fun q => !(q.1 == i) && (!(q.1 == i + 1) && !(q.1 + 1 == i && q.2.category == 2))))) : am_LH K la' n (am_st2 ls i v) := by
  refine ⟨by simp [am_st2, am_clr_len, hl], h.1, h.2.1, fun k w hk => ?_⟩
  unfold am_st2 at hk
  rw [List.getElem?_set] at hk
  by_cases hik1 : i + 1 = k
  · subst hik1
    rw [if_pos rfl] at hk
    split at hk <;> cases hk
  · rw [if_neg hik1, List.getElem?_set] at hk
    by_cases hik : i = k
    · subst hik
      rw [if_pos rfl] at hk
      split at hk
      · cases hk
        exact h.2.2 _ List.mem_cons_self
      · cases hk
    · rw [if_neg hik] at hk
      obtain ⟨h1, h2⟩ := am_clr_at hk
      refine h.2.2 (k, am_cv K w) (List.mem_cons_of_mem _ (List.mem_filter.mpr ⟨am_prs_in h1, ?_⟩))
      simp only [am_cv_cat, Bool.and_eq_true, Bool.not_eq_true', beq_eq_false_iff_ne, ne_eq, Bool.and_eq_false_iff]
      refine ⟨fun q => hik q.symm, fun q => hik1 q.symm, ?_⟩
      by_cases h3 : k + 1 = i
      · exact Or.inr (fun q => h2 ⟨h3, q⟩)
      · exact Or.inl h3
/-- a method's entry -/
theorem am_entry_args (K : am_Kx) : ∀ (vs : List Value) (pre : am_Lc) (k : Nat) (v : Value), (pre ++ (vs.flatMap fun v => if v.category = 2 then [some v, none] else [some v]))[k]? = some (some v) → pre.length ≤ k → (k, am_cv K v) ∈ lv_args pre.length (vs.map (am_cv K)) := by
  intro vs
  induction vs with
  | nil =>
    intro pre k v h hk
    rw [List.getElem?_append_right hk] at h
    simp at h
  | cons x t ih =>
    intro pre k v h hk
    rw [List.flatMap_cons, ← List.append_assoc] at h
    simp only [List.map_cons, lv_args, am_cv_cat]
    by_cases h2 : x.category = 2
    · rw [if_pos h2] at h ⊢
      by_cases hk2 : pre.length + 2 ≤ k
      · have := ih (pre ++ [some x, none]) k v h (by simpa using hk2)
        simp only [List.length_append, List.length_cons, List.length_nil] at this
        exact List.mem_cons_of_mem _ this
      · rw [List.getElem?_append_left (by simp; omega), List.getElem?_append_right hk] at h
        by_cases hk3 : k = pre.length
        · subst hk3
          simp at h
          subst h
          exact List.mem_cons_self
        · rw [show k - pre.length = 1 by omega] at h
          simp at h
    · rw [if_neg h2] at h ⊢
      by_cases hk2 : pre.length + 1 ≤ k
      · have := ih (pre ++ [some x]) k v h (by simpa using hk2)
        simp only [List.length_append, List.length_cons, List.length_nil] at this
        exact List.mem_cons_of_mem _ this
      · rw [List.getElem?_append_left (by simp; omega), List.getElem?_append_right hk] at h
        have hk3 : k = pre.length := by omega
        subst hk3
        simp at h
        subst h
        exact List.mem_cons_self
theorem am_sl_len (K : am_Kx) (vs : List Value) : (lg_sl (vs.map (am_cv K))).length = (vs.flatMap fun v => if v.category = 2 then [some v, (none : Option Value)] else [some v]).length := by
  induction vs with
  | nil => rfl
  | cons x t ih =>
    have e1 : lg_sl ((x :: t).map (am_cv K)) = (if (am_cv K x).category = 2 then [.val (am_cv K x), .second] else [.val (am_cv K x)]) ++ lg_sl (t.map (am_cv K)) := by simp [lg_sl]
    rw [e1, List.flatMap_cons, List.length_append, List.length_append, ih, am_cv_cat]
    split <;> rfl
theorem am_entry_LH (K : am_Kx) (vs : List Value) {n : Nat} (h : (vs.flatMap fun v => if v.category = 2 then [some v, (none : Option Value)] else [some v]).length ≤ n) : am_LH K ((lg_sl (vs.map (am_cv K)) ++ List.replicate (n - (lg_sl (vs.map (am_cv K))).length) Slot.unset).toArray) n (am_entry vs n) := by
  have h1 := lv_entry (vs.map (am_cv K)) (n := n) (by rw [am_sl_len]; exact h)
  refine ⟨?_, h1.1, h1.2.1, fun k v hk => ?_⟩
  · unfold am_entry
    rw [List.length_append, List.length_replicate]
    omega
  · unfold am_entry at hk
    by_cases hk2 : k < (vs.flatMap fun v => if v.category = 2 then [some v, (none : Option Value)] else [some v]).length
    · rw [List.getElem?_append_left hk2] at hk
      exact h1.2.2 _ (am_entry_args K vs [] k v (by simpa using hk) (Nat.zero_le _))
    · rw [List.getElem?_append_right (by omega)] at hk
      rw [List.getElem?_replicate] at hk
      split at hk <;> cases hk
