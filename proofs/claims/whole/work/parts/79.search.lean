/-! ===== the class's search ===== -/
def mb (a : Nat → Nat) (u t : Nat) : Prop := ∃ i, i < u ∧ a i = t
def inj (a : Nat → Nat) (u : Nat) : Prop := ∀ i j, i < j → j < u → a i ≠ a j
theorem dl_inj {a : Nat → Nat} : ∀ {u : Nat}, inj a u → (dl a u).length = u
  | 0, _ => rfl
  | u + 1, h => by
    have ih := dl_inj (a := a) (u := u) (fun i j p q => h i j p (by omega))
    rw [dl, if_neg, List.length_cons, ih]
    intro q
    obtain ⟨j, hj, e⟩ := (dl_mem a (a u) u).mp q
    exact h j u hj (by omega) e
theorem T_len2 {n u : Nat} {a : Nat → Nat} (h : 4 ≤ n) (h9 : n ≤ 9) (hi : inj a u) (hT : ∀ i, i < u → Tr3 n (a i)) : u ≤ 429 := by
  have := T_len h h9 (dl a u) (dl_nd a u) (fun x hx => by obtain ⟨j, hj, e⟩ := (dl_mem a x u).mp hx; rw [← e]; exact hT j hj)
  rwa [dl_inj hi] at this
theorem nI_mod (a : Nat) : nI a = nI (a % 2 ^ 32) := by
  show Int32.ofNat a = Int32.ofNat (a % 2 ^ 32)
  apply Int32.toBitVec_inj.mp
  apply BitVec.eq_of_toNat_eq
  show (BitVec.ofNat 32 a).toNat = (BitVec.ofNat 32 (a % 2 ^ 32)).toNat
  rw [BitVec.toNat_ofNat, BitVec.toNat_ofNat, Nat.mod_mod]
def hs (x : Nat) : Nat := x * 2654435761 % 2 ^ 32 / 2 ^ 22
theorem hs_lt (x : Nat) : hs x < 1024 := by unfold hs; omega
theorem hs_e (x : Nat) : am_ushr (nI x * (-1640531535 : Int32)) (22 : Int32) = nI (hs x) := by
  rw [show (-1640531535 : Int32) = nI 2654435761 by decide, pk_mul, nI_mod, show (22 : Int32) = nI 22 from rfl, nq_ushr (Nat.mod_lt _ (by decide)) (by decide)]
  rfl
theorem hs_p (h i : Nat) : (nI h + nI i) &&& (1023 : Int32) = nI ((h + i) % 1024) := by
  rw [nI_add, show (1023 : Int32) = nI (2 ^ 10 - 1) from rfl, fa_mask]
/-- what the search has met -/
def Hs (m : am_Mm) (a : Nat → Nat) (u : Nat) : Prop := m.1 35 2 = nI u ∧ (∀ i, i < u → m.1 36 i = nI (a i)) ∧ ∃ P : Nat → Nat, (∀ i, i < u → P i < 1024 ∧ m.1 37 (P i) = nI (a i) ∧ ∃ d, d < 1024 ∧ P i = (hs (a i) + d) % 1024 ∧ ∀ e, e < d → ∃ k, k < u ∧ P k = (hs (a i) + e) % 1024) ∧ ∀ s, s < 1024 → m.1 37 s = nI 0 ∨ ∃ i, i < u ∧ P i = s
def BS (n : Nat) (m : am_Mm) (a : Nat → Nat) (u : Nat) : Prop := Hs m a u ∧ inj a u ∧ ∀ i, i < u → Tr3 n (a i)
theorem T_pos {n x : Nat} (h : 4 ≤ n) (h9 : n ≤ 9) (hx : Tr3 n x) : 0 < x ∧ x < 2 ^ 27 := by
  refine ⟨?_, cu_V_lt h h9 hx.1⟩
  rcases Nat.eq_zero_or_pos x with z | z
  · subst z
    have := hx.2
    rw [show pc 0 30 = 0 by decide] at this
    omega
  · exact z
/-- two memories alike but for what the search uses -/
def onlyS (m m' : am_Mm) : Prop := ∀ p k, p ≠ 25 → ¬ (35 ≤ p ∧ p ≤ 37) → m'.1 p k = m.1 p k
theorem hc_meet {n x u : Nat} {a : Nat → Nat} {m : am_Mm} (h : 4 ≤ n) (h9 : n ≤ 9) (hB : BS n m a u) (hx : Tr3 n x) : ∃ m' a' u', f_FlipSearch_meet (nI x) m = some m' ∧ BS n m' a' u' ∧ u ≤ u' ∧ (∀ i, i < u → a' i = a i) ∧ (∀ t, mb a' u' t ↔ mb a u t ∨ t = x) ∧ ∀ p k, ¬ (35 ≤ p ∧ p ≤ 37) → m'.1 p k = m.1 p k := by
  obtain ⟨⟨h35, h36, P, hP1, hP2⟩, hin, hT⟩ := hB
  have u429 := T_len2 h h9 hin hT
  obtain ⟨x0, xl⟩ := T_pos h h9 hx
  have hh := hs_lt x
  have unf : f_FlipSearch_meet (nI x) m = f_FlipSearch_meet_b10 am_F (nI x) (nI (hs x)) (nI 0) m := by
    unfold f_FlipSearch_meet
    rw [hs_e]; rfl
  -- a slot that is taken, and is another's
  have step : ∀ e f k, e < 1024 → k < u → P k = (hs x + e) % 1024 → a k ≠ x → f_FlipSearch_meet_b10 (f + 1) (nI x) (nI (hs x)) (nI e) m = f_FlipSearch_meet_b10 f (nI x) (nI (hs x)) (nI (e + 1)) m := by
    intro e f k he hk ek ne
    have hm := Nat.mod_lt (hs x + e) (show 0 < 1024 by decide)
    have vk := (hP1 k hk).2.1
    rw [ek] at vk
    obtain ⟨ak0, akl⟩ := T_pos h h9 (hT k hk)
    rw [f_FlipSearch_meet_b10, hs_p, if_neg (show ¬ (1024 : Int32) ≤ nI e from nI_ge he (by decide)), if_pos (am_in_nI hm (by decide)), if_pos (am_in_nI hm (by decide)), ml_cl (by omega), vk, if_neg (fun z => ne ((nI_eq (by omega) (by omega)).mp z)), if_neg (show ¬ nI (a k) = (0 : Int32) from fun z => by have := (nI_eq (b := 0) (by omega) (by omega)).mp z; omega), nI_1]
  have hit : ∀ e f k, e < 1024 → k < u → P k = (hs x + e) % 1024 → a k = x → f_FlipSearch_meet_b10 (f + 1) (nI x) (nI (hs x)) (nI e) m = some m := by
    intro e f k he hk ek ne
    have hm := Nat.mod_lt (hs x + e) (show 0 < 1024 by decide)
    have vk := (hP1 k hk).2.1
    rw [ek, ne] at vk
    rw [f_FlipSearch_meet_b10, hs_p, if_neg (show ¬ (1024 : Int32) ≤ nI e from nI_ge he (by decide)), if_pos (am_in_nI hm (by decide)), ml_cl (by omega), vk, if_pos rfl]
  by_cases hmem : mb a u x
  · obtain ⟨i0, hi0, e0⟩ := hmem
    obtain ⟨q1, q2, d, hd, q3, q4⟩ := hP1 i0 hi0
    rw [e0] at q3 q4
    have L : ∀ t e f, e + t = d → t < f → f_FlipSearch_meet_b10 f (nI x) (nI (hs x)) (nI e) m = some m := by
      intro t
      induction t with
      | zero =>
        intro e f he hf
        obtain ⟨f, rfl⟩ : ∃ z, f = z + 1 := ⟨f - 1, by omega⟩
        have he : e = d := by omega
        subst he
        exact hit e f i0 hd hi0 q3 e0
      | succ t ih =>
        intro e f he hf
        obtain ⟨f, rfl⟩ : ∃ z, f = z + 1 := ⟨f - 1, by omega⟩
        obtain ⟨k, hk, ek⟩ := q4 e (by omega)
        by_cases z : a k = x
        · exact hit e f k (by omega) hk ek z
        · rw [step e f k (by omega) hk ek z]
          exact ih (e + 1) f (by omega) (by omega)
    refine ⟨m, a, u, by rw [unf]; exact L d 0 am_F (by omega) (by show d < 5000; omega), ⟨⟨h35, h36, P, hP1, hP2⟩, hin, hT⟩, Nat.le_refl _, fun _ _ => rfl, fun t => ⟨Or.inl, fun z => ?_⟩, fun _ _ _ => rfl⟩
    rcases z with z | z
    · exact z
    · subst z; exact ⟨i0, hi0, e0⟩
  · have nx : ∀ k, k < u → a k ≠ x := fun k hk z => hmem ⟨k, hk, z⟩
    -- a free slot
    have ex : ∃ d, d < 1024 ∧ ¬ ∃ k, k < u ∧ P k = (hs x + d) % 1024 := by
      apply Classical.byContradiction
      intro w
      have all : ∀ d, d < 1024 → ∃ k, k < u ∧ P k = (hs x + d) % 1024 := fun d hd => Classical.byContradiction fun z => w ⟨d, hd, z⟩
      have := fb_holes u 1024 (fun d => if hd : d < 1024 then Classical.choose (all d hd) else 0) (fun d hd => by
        simp only [hd, dif_pos]
        exact (Classical.choose_spec (all d hd)).1) (fun d d' q hd' e => by
        have hd : d < 1024 := by omega
        simp only [hd, hd', dif_pos] at e
        have s1 := (Classical.choose_spec (all d hd)).2
        have s2 := (Classical.choose_spec (all d' hd')).2
        rw [e, s2] at s1
        omega)
      omega
    obtain ⟨d, hd, fd, md⟩ := @fb_first (fun d => ¬ ∃ k, k < u ∧ P k = (hs x + d) % 1024) (fun _ => Classical.propDecidable _) 1024 ex
    have taken : ∀ e, e < d → ∃ k, k < u ∧ P k = (hs x + e) % 1024 := fun e he => Classical.byContradiction fun z => md e he z
    obtain ⟨S, hS⟩ : ∃ S, S = (hs x + d) % 1024 := ⟨_, rfl⟩
    have hm : S < 1024 := by rw [hS]; exact Nat.mod_lt _ (by decide)
    have vz : m.1 37 S = nI 0 := by
      rcases hP2 S hm with q | ⟨k, hk, q⟩
      · exact q
      · exact absurd ⟨k, hk, by rw [q, hS]⟩ fd
    have L : ∀ t e f, e + t = d → t < f → f_FlipSearch_meet_b10 f (nI x) (nI (hs x)) (nI e) m = some (am_pI (am_pI (am_pI m 37 S (nI x)) 36 u (nI x)) 35 2 (nI (u + 1))) := by
      intro t
      induction t with
      | zero =>
        intro e f he hf
        obtain ⟨f, rfl⟩ : ∃ z, f = z + 1 := ⟨f - 1, by omega⟩
        have he : e = d := by omega
        subst he
        rw [f_FlipSearch_meet_b10, hs_p, ← hS, if_neg (show ¬ (1024 : Int32) ≤ nI e from nI_ge hd (by decide)), if_pos (am_in_nI hm (by decide)), if_pos (am_in_nI hm (by decide)), if_pos (am_in_nI hm (by decide)), ml_cl (by omega), vz, if_neg (fun z => by have := (nI_eq (by omega) (by omega)).mp z; omega), if_pos e00, h35, if_neg (nI_pos (by omega)), if_neg (show ¬ (512 : Int32) ≤ nI u from nI_ge (show u < 512 by omega) (by decide)), ml_o m (nI x) (show ¬ ((35 : Nat) = 37 ∧ (2 : Nat) = S) by omega), h35, if_pos (am_in_nI (by omega) (by omega)), ml_cl (by omega), ml_o _ (nI x) (show ¬ ((35 : Nat) = 36 ∧ (2 : Nat) = u) by omega), ml_o m (nI x) (show ¬ ((35 : Nat) = 37 ∧ (2 : Nat) = S) by omega), h35, nI_1]
      | succ t ih =>
        intro e f he hf
        obtain ⟨f, rfl⟩ : ∃ z, f = z + 1 := ⟨f - 1, by omega⟩
        obtain ⟨k, hk, ek⟩ := taken e (by omega)
        rw [step e f k (by omega) hk ek (nx k hk)]
        exact ih (e + 1) f (by omega) (by omega)
    have au : ∀ i, i < u → (fun i => if i = u then x else a i) i = a i := fun i hi => if_neg (by omega)
    refine ⟨am_pI (am_pI (am_pI m 37 S (nI x)) 36 u (nI x)) 35 2 (nI (u + 1)), fun i => if i = u then x else a i, u + 1, by rw [unf]; exact L d 0 am_F (by omega) (by show d < 5000; omega), ⟨⟨ml_s _ _ _ _, fun i hi => ?_, fun i => if i = u then S else P i, fun i hi => ?_, fun s hs' => ?_⟩, fun i j p q => ?_, fun i hi => ?_⟩, by omega, au, fun t => ?_, fun p k q => ?_⟩
    · by_cases z : i = u
      · subst z
        rw [ml_o _ _ (by omega), ml_s]
        exact congrArg nI (if_pos rfl).symm
      · rw [ml_o _ _ (by omega), ml_o _ _ (by omega), ml_o _ _ (by omega)]
        exact (h36 i (by omega)).trans (congrArg nI (if_neg z).symm)
    · by_cases z : i = u
      · subst z
        simp only [if_true]
        refine ⟨hm, by rw [ml_o _ _ (by omega), ml_o _ _ (by omega), ml_s], d, hd, hS, fun e he => ?_⟩
        obtain ⟨k, hk, ek⟩ := taken e he
        exact ⟨k, by omega, Eq.trans (if_neg (by omega)) ek⟩
      · simp only [z, if_false]
        obtain ⟨q1, q2, d', hd', q3, q4⟩ := hP1 i (by omega)
        have ne : P i ≠ S := fun w => fd ⟨i, by omega, by rw [w, hS]⟩
        refine ⟨q1, by rw [ml_o _ _ (by omega), ml_o _ _ (by omega), ml_o _ _ (by omega)]; exact q2, d', hd', q3, fun e he => ?_⟩
        obtain ⟨k, hk, ek⟩ := q4 e he
        exact ⟨k, by omega, Eq.trans (if_neg (by omega)) ek⟩
    · by_cases z : s = S
      · subst z
        exact Or.inr ⟨u, by omega, if_pos rfl⟩
      · rw [ml_o _ _ (by omega), ml_o _ _ (by omega), ml_o _ _ (by omega)]
        rcases hP2 s hs' with q | ⟨k, hk, q⟩
        · exact Or.inl q
        · exact Or.inr ⟨k, by omega, Eq.trans (if_neg (by omega)) q⟩
    · by_cases z : j = u
      · subst z
        simp only [if_true]
        rw [if_neg (by omega)]
        exact nx i p
      · simp only [z, if_false]
        rw [if_neg (by omega)]
        exact hin i j p (by omega)
    · by_cases z : i = u
      · subst z; simp only [if_true]; exact hx
      · simp only [z, if_false]; exact hT i (by omega)
    · constructor
      · rintro ⟨i, hi, e⟩
        by_cases z : i = u
        · subst z
          right
          simp only [if_true] at e
          exact e.symm
        · left
          simp only [z, if_false] at e
          exact ⟨i, by omega, e⟩
      · rintro (⟨i, hi, e⟩ | e)
        · exact ⟨i, by omega, Eq.trans (if_neg (by omega)) e⟩
        · exact ⟨u, by omega, Eq.trans (if_pos rfl) e.symm⟩
    · rw [ml_o _ _ (by omega), ml_o _ _ (by omega), ml_o _ _ (by omega)]
theorem hc_around {n w u : Nat} {a : Nat → Nat} {m : am_Mm} (h : 4 ≤ n) (h9 : n ≤ 9) (hR : rl_Ring m.1 20 n) (hB : BS n m a u) (hw : Tr3 n w) : ∃ m' a' u', f_FlipSearch_meetAround (nI w) m = some m' ∧ BS n m' a' u' ∧ u ≤ u' ∧ (∀ i, i < u → a' i = a i) ∧ (∀ t, mb a' u' t ↔ mb a u t ∨ Ed n w t) ∧ onlyS m m' := by
  have hv := hw.1
  have hcu := cu_V_lt h h9 hv
  have h27 := cu_N27 h h9
  obtain ⟨m1, j1, j2, j3⟩ := hc_join h h9 hR hcu
  have hR1 := only25_ring j2 hR
  have hB1 : BS n m1 a u := by
    obtain ⟨⟨h35, h36, P, hP1, hP2⟩, hin, hT⟩ := hB
    refine ⟨⟨by rw [j2.1 _ _ (by omega)]; exact h35, fun i hi => by rw [j2.1 _ _ (by omega)]; exact h36 i hi, P, fun i hi => ?_, fun s hs => by rw [j2.1 _ _ (by omega)]; exact hP2 s hs⟩, hin, hT⟩
    rw [j2.1 _ _ (by omega)]; exact hP1 i hi
  have L : ∀ t k f a' u' (m0 : am_Mm), k + t = cu_N n → t < f → BS n m0 a' u' → (∀ p k, ¬ (35 ≤ p ∧ p ≤ 37) → m0.1 p k = m1.1 p k) → u ≤ u' → (∀ i, i < u → a' i = a i) → (∀ t, mb a' u' t ↔ mb a u t ∨ ∃ i j, i < k ∧ fl n w i = some j ∧ t = nd w (2 ^ i) ||| 2 ^ j) → ∃ m' a'' u'', f_FlipSearch_meetAround_b7 f (nI w) (nI k) m0 = some m' ∧ BS n m' a'' u'' ∧ u ≤ u'' ∧ (∀ i, i < u → a'' i = a i) ∧ (∀ t, mb a'' u'' t ↔ mb a u t ∨ Ed n w t) ∧ onlyS m m' := by
    intro t
    induction t with
    | zero =>
      intro k f a' u' m0 hk hf B fr hu ha hmb
      obtain ⟨f, rfl⟩ : ∃ z, f = z + 1 := ⟨f - 1, by omega⟩
      have hk : k = cu_N n := by omega
      subst hk
      refine ⟨m0, a', u', ?_, B, hu, ha, hmb, fun p k q1 q2 => by rw [fr p k q2, j2.1 p k q1]⟩
      rw [f_FlipSearch_meetAround_b7, fr _ _ (by omega), hR1.2.1, if_pos (nI_le (Nat.le_refl _) (by omega))]
    | succ t ih =>
      intro k f a' u' m0 hk hf B fr hu ha hmb
      obtain ⟨f, rfl⟩ : ∃ z, f = z + 1 := ⟨f - 1, by omega⟩
      have hR0 : rl_Ring m0.1 20 n := by
        have hR' := hR1
        unfold rl_Ring at hR' ⊢
        simp (disch := omega) only [Nat.reduceAdd, fr]
        exact hR'
      have skip : fl n w k = none → ∀ t, mb a' u' t ↔ mb a u t ∨ ∃ i j, i < k + 1 ∧ fl n w i = some j ∧ t = nd w (2 ^ i) ||| 2 ^ j := by
        intro hn t
        rw [hmb t]
        constructor
        · rintro (q | ⟨i, j, q1, q2⟩)
          · exact Or.inl q
          · exact Or.inr ⟨i, j, by omega, q2⟩
        · rintro (q | ⟨i, j, q1, q2, q3⟩)
          · exact Or.inl q
          · by_cases z : i = k
            · subst z; rw [hn] at q2; cases q2
            · exact Or.inr ⟨i, j, by omega, q2, q3⟩
      rw [f_FlipSearch_meetAround_b7, fr 20 6 (by omega), hR1.2.1, if_neg (nI_ge (by omega) (by omega))]
      unfold f_FlipSearch_meetAround_b52
      by_cases hb : w.testBit k = true
      · rw [if_pos (by rw [nq1, nq_bit1 (by omega) (by omega)]; exact hb), hc_flJ h h9 hR0 hv (by omega) hb (fun c hc => by rw [fr _ _ (by omega)]; exact j3 c hc), Option.bind_some]
        cases hf' : fl n w k with
        | none =>
          rw [if_pos (show fv (-1) none < (0 : Int32) by decide), nI_1]
          exact ih (k + 1) f a' u' m0 (by omega) (by omega) B fr hu ha (skip hf')
        | some j =>
          have o := fl_ok h h9 hv (show k < cu_N n by omega) hf'
          rw [if_neg (show ¬ fv (-1) (some j) < (0 : Int32) from nI_pos (by omega))]
          have s1 : (nI w &&& ((am_shl (1 : Int32) (nI k)) ^^^ (-1 : Int32))) ||| (am_shl (1 : Int32) (fv (-1) (some j))) = nI (nd w (2 ^ k) ||| 2 ^ j) := by
            show (nI w &&& ((am_shl (1 : Int32) (nI k)) ^^^ (-1 : Int32))) ||| (am_shl (1 : Int32) (nI j)) = _
            simp (disch := omega) only [nq0, nq1, nq2, nq3, nq4, nq5, nq6, nq7, nq8, nq9, nq10, nq11, nq20, nq24, nq27, nq30, nq40, nI_add, pk_sub, pk_mul, nq_div, nq_rem, nq_shl1, nq_shl2, nq_bit1, nq_bit0, nq_or, nq_and, nq_nd, ml_cl, nq_in, nq_le, nq_nle, nq_lt, nq_nlt, nq_eq, nq_ne, nq_eqT, Option.bind_some, Bool.false_eq_true, Bool.true_eq_false, ↓reduceIte]
          dsimp only
          rw [s1]
          have hT : Tr3 n (nd w (2 ^ k) ||| 2 ^ j) := Ed_T h h9 hw ⟨k, j, by omega, hf', rfl⟩
          obtain ⟨m2, a2, u2, c1, c2, c3, c4, c5, c6⟩ := hc_meet h h9 B hT
          rw [c1, Option.bind_some, nI_1]
          refine ih (k + 1) f a2 u2 m2 (by omega) (by omega) c2 (fun p k q => by rw [c6 p k q, fr p k q]) (by omega) (fun i hi => by rw [c4 i (by omega), ha i hi]) (fun t => ?_)
          rw [c5 t, hmb t]
          constructor
          · rintro ((q | ⟨i, j', q1, q2⟩) | q)
            · exact Or.inl q
            · exact Or.inr ⟨i, j', by omega, q2⟩
            · exact Or.inr ⟨k, j, by omega, hf', q⟩
          · rintro (q | ⟨i, j', q1, q2, q3⟩)
            · exact Or.inl (Or.inl q)
            · by_cases z : i = k
              · subst z
                rw [hf'] at q2
                cases q2
                exact Or.inr q3
              · exact Or.inl (Or.inr ⟨i, j', by omega, q2, q3⟩)
      · rw [if_neg (by rw [nq1, nq_bit1 (by omega) (by omega)]; exact hb), nI_1]
        have hf' : fl n w k = none := by unfold fl; rw [if_neg hb]
        exact ih (k + 1) f a' u' m0 (by omega) (by omega) B fr hu ha (skip hf')
  unfold f_FlipSearch_meetAround
  rw [j1, Option.bind_some]
  exact L (cu_N n) 0 am_F a u m1 (by omega) (by show _ < 5000; omega) hB1 (fun _ _ _ => rfl) (Nat.le_refl _) (fun _ _ => rfl) (fun t => ⟨Or.inl, fun z => by
    rcases z with z | ⟨i, j, q, _⟩
    · exact z
    · omega⟩)
def isD (n s t k : Nat) : Prop := Rk n k s t ∧ ∀ j, j < k → ¬ Rk n j s t
theorem isD_one {n s t k l : Nat} (h1 : isD n s t k) (h2 : isD n s t l) : k = l := by
  rcases Nat.lt_trichotomy k l with q | q | q
  · exact absurd h1.1 (h2.2 k q)
  · exact q
  · exact absurd h2.1 (h1.2 l q)
theorem onlyS_t {a b c : am_Mm} (h : onlyS a b) (h2 : onlyS b c) : onlyS a c := fun p k q1 q2 => by rw [h2 p k q1 q2, h p k q1 q2]
theorem onlyS_ring {m m' : am_Mm} {n : Nat} (h : onlyS m m') (hR : rl_Ring m.1 20 n) : rl_Ring m'.1 20 n := by
  have h' : ∀ p k, (20 ≤ p ∧ p ≤ 24) → m'.1 p k = m.1 p k := fun p k q => h p k (by omega) (by omega)
  unfold rl_Ring at hR ⊢
  simp (disch := omega) only [Nat.reduceAdd, h']
  exact hR
theorem hc_few {n s g : Nat} {m : am_Mm} (h : 4 ≤ n) (h9 : n ≤ 9) (hR : rl_Ring m.1 20 n) (hs : Tr3 n s) (hg : Tr3 n g) : ∃ k m', f_FlipSearch_fewest (nI s) (nI g) m = some (nI k, m') ∧ isD n s g k ∧ onlyS m m' := by
  have hc := conn h h9 hs hg
  obtain ⟨g0, gl⟩ := T_pos h h9 hg
  have L : ∀ t far f A a u (m0 : am_Mm), far + t = 13 → t + 1 < f → onlyS m m0 → BS n m0 a u → A ≤ u → (∀ t, mb a u t ↔ Rk n far s t) → (∀ j, j < far → ∀ t, Rk n j s t → mb a A t) → (∀ i t, i < A → Ed n (a i) t → mb a u t) → (∀ i, i < A → a i ≠ g) → ∃ k m', f_FlipSearch_fewest_b24 f (nI g) (nI A) (nI far) m0 = some (nI k, m') ∧ isD n s g k ∧ onlyS m m' := by
    intro t
    induction t with
    | zero =>
      intro far f A a u m0 hf1 hf2 ho B hA q1 q2 q3 q4
      exfalso
      obtain ⟨i, hi, e⟩ := q2 12 (by omega) g hc
      exact q4 i hi e
    | succ t ih =>
      intro far f A a u m0 hf1 hf2 ho B hA q1 q2 q3 q4
      obtain ⟨f, rfl⟩ : ∃ z, f = z + 1 := ⟨f - 1, by omega⟩
      have u429 := T_len2 h h9 B.2.1 B.2.2
      have I : ∀ s' at_ gf a' u' (m1 : am_Mm), at_ + s' = u → s' < gf → onlyS m m1 → BS n m1 a' u' → A ≤ at_ → u ≤ u' → (∀ i, i < u → a' i = a i) → (∀ t, mb a' u' t → Rk n (far + 1) s t) → (∀ i t, i < at_ → Ed n (a' i) t → mb a' u' t) → (∀ i, i < at_ → a' i ≠ g) → ∃ k m', f_FlipSearch_fewest_b38 (f_FlipSearch_fewest_b24 f) gf (nI g) (nI at_) (nI far) (nI u) m1 = some (nI k, m') ∧ isD n s g k ∧ onlyS m m' := by
        intro s'
        induction s' with
        | zero =>
          intro at_ gf a' u' m1 e1 e2 ho1 B1 e3 e4 ea p1 p2 p3
          obtain ⟨gf, rfl⟩ : ∃ z, gf = z + 1 := ⟨gf - 1, by omega⟩
          have e1 : at_ = u := by omega
          subst e1
          rw [f_FlipSearch_fewest_b38, if_pos (nI_le (Nat.le_refl _) (by omega))]
          unfold f_FlipSearch_fewest_b85
          rw [nI_1]
          have sub : ∀ t, mb a at_ t → mb a' at_ t := fun t ⟨i, hi, e⟩ => ⟨i, hi, by rw [ea i hi]; exact e⟩
          refine ih (far + 1) f at_ a' u' m1 (by omega) (by omega) ho1 B1 e4 (fun t => ⟨p1 t, fun w => ?_⟩) (fun j hj t w => ?_) p2 p3
          · rcases w with w | ⟨v, w1, w2⟩
            · obtain ⟨i, hi, e⟩ := (q1 t).mpr w
              exact ⟨i, by omega, by rw [ea i hi]; exact e⟩
            · obtain ⟨i, hi, e⟩ := (q1 v).mpr w1
              exact p2 i t hi (by rw [ea i hi, e]; exact w2)
          · exact sub t ((q1 t).mpr (Rk_mono (by omega) w))
        | succ s' ih2 =>
          intro at_ gf a' u' m1 e1 e2 ho1 B1 e3 e4 ea p1 p2 p3
          obtain ⟨gf, rfl⟩ : ∃ z, gf = z + 1 := ⟨gf - 1, by omega⟩
          have v36 := B1.1.2.1 at_ (by omega)
          have hTa := B1.2.2 at_ (by omega)
          obtain ⟨a0, al'⟩ := T_pos h h9 hTa
          have inb : Rk n far s (a' at_) := (q1 _).mp ⟨at_, by omega, (ea at_ (by omega)).symm⟩
          rw [f_FlipSearch_fewest_b38, if_neg (nI_ge (by omega) (by omega)), if_neg (show ¬ (512 : Int32) ≤ nI at_ from nI_ge (show at_ < 512 by omega) (by decide)), if_pos (am_in_nI (by omega) (by omega)), if_pos (am_in_nI (by omega) (by omega)), ml_cl (by omega), v36]
          by_cases z : a' at_ = g
          · rw [if_pos (by rw [z])]
            refine ⟨far, m1, rfl, ⟨by rw [← z]; exact inb, fun j hj w => ?_⟩, ho1⟩
            obtain ⟨i, hi, e⟩ := q2 j hj g w
            exact q4 i hi e
          · rw [if_neg (fun w => z ((nI_eq (by omega) (by omega)).mp w))]
            obtain ⟨m2, a2, u2, c1, c2, c3, c4, c5, c6⟩ := hc_around h h9 (onlyS_ring ho1 hR) B1 hTa
            rw [c1, Option.bind_some, nI_1]
            refine ih2 (at_ + 1) gf a2 u2 m2 (by omega) (by omega) (onlyS_t ho1 c6) c2 (by omega) (by omega) (fun i hi => by rw [c4 i (by omega), ea i hi]) (fun t w => ?_) (fun i t hi w => ?_) (fun i hi => ?_)
            · rcases (c5 t).mp w with w | w
              · exact p1 t w
              · exact Or.inr ⟨a' at_, inb, w⟩
            · rw [c4 i (by omega)] at w
              by_cases y : i = at_
              · subst y; exact (c5 t).mpr (Or.inr w)
              · exact (c5 t).mpr (Or.inl (p2 i t (by omega) w))
            · rw [c4 i (by omega)]
              by_cases y : i = at_
              · subst y; exact z
              · exact p3 i (by omega)
      rw [f_FlipSearch_fewest_b24, if_neg (show ¬ (512 : Int32) ≤ nI far from nI_ge (show far < 512 by omega) (by decide)), B.1.1]
      exact I (u - A) A am_F a u m0 (by omega) (by show _ < 5000; omega) ho B (Nat.le_refl _) (Nat.le_refl _) (fun _ _ => rfl) (fun t w => Or.inl ((q1 t).mp w)) q3 q4
  have B0 : BS n (am_pI (am_fl m 37 1024 (0 : Int32)) 35 2 (0 : Int32)) (fun _ => 0) 0 := by
    refine ⟨⟨ml_s _ _ _ _, fun i hi => absurd hi (Nat.not_lt_zero i), fun _ => 0, fun i hi => absurd hi (Nat.not_lt_zero i), fun s hs => Or.inl ?_⟩, fun i j _ q => absurd q (Nat.not_lt_zero j), fun i hi => absurd hi (Nat.not_lt_zero i)⟩
    rw [ml_o _ _ (by omega), ml_fl, if_pos ⟨rfl, hs⟩]; rfl
  obtain ⟨m1, a1, u1, c1, c2, c3, c4, c5, c6⟩ := hc_meet h h9 B0 hs
  have ho1 : onlyS m m1 := fun p k q1 q2 => by rw [c6 p k q2, ml_o _ _ (by omega), ml_fl, if_neg (by omega)]
  unfold f_FlipSearch_fewest
  rw [c1, Option.bind_some]
  refine L 13 0 am_F 0 a1 u1 m1 (by omega) (by show _ < 5000; omega) ho1 c2 (Nat.zero_le _) (fun t => ?_) (fun j hj => absurd hj (Nat.not_lt_zero j)) (fun i t hi => absurd hi (Nat.not_lt_zero i)) (fun i hi => absurd hi (Nat.not_lt_zero i))
  rw [c5 t]
  constructor
  · rintro (⟨i, hi, _⟩ | e)
    · exact absurd hi (Nat.not_lt_zero i)
    · exact e.symm
  · intro e
    have e : s = t := e
    exact Or.inr e.symm
