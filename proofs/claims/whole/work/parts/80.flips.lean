/-! ===== the model's search, and flips ===== -/
def MS (n : Nat) (m : am_Mm) (a : Nat → Nat) (u : Nat) : Prop := (∀ i, i < u → m.1 74 i = nI (a i)) ∧ inj a u ∧ ∀ i, i < u → Tr3 n (a i)
theorem hm_known {n x lo u : Nat} {a : Nat → Nat} {m : am_Mm} (h : 4 ≤ n) (h9 : n ≤ 9) (hB : MS n m a u) (hx : x < 2 ^ 27) (hl : lo ≤ u) : ∃ r, f_M_isKnown (nI x) (nI lo) (nI u) m = some (nI r, m) ∧ ((r = 0 ∧ ∀ i, lo ≤ i → i < u → a i ≠ x) ∨ (r = 1 ∧ ∃ i, lo ≤ i ∧ i < u ∧ a i = x)) := by
  have u429 := T_len2 h h9 hB.2.1 hB.2.2
  have L : ∀ t k f r, k + t = u → t < f → ((r = 0 ∧ ∀ i, lo ≤ i → i < k → a i ≠ x) ∨ (r = 1 ∧ ∃ i, lo ≤ i ∧ i < u ∧ a i = x)) → lo ≤ k → ∃ r', f_M_isKnown_b6 f (nI x) (nI u) (nI r) (nI k) m = some (nI r', m) ∧ ((r' = 0 ∧ ∀ i, lo ≤ i → i < u → a i ≠ x) ∨ (r' = 1 ∧ ∃ i, lo ≤ i ∧ i < u ∧ a i = x)) := by
    intro t
    induction t with
    | zero =>
      intro k f r hk hf hr _
      obtain ⟨f, rfl⟩ : ∃ z, f = z + 1 := ⟨f - 1, by omega⟩
      have hk : k = u := by omega
      subst hk
      refine ⟨r, ?_, hr⟩
      rw [f_M_isKnown_b6, if_pos (nI_le (Nat.le_refl _) (by omega)), if_pos]
      rcases hr with ⟨rfl, _⟩ | ⟨rfl, _⟩
      · exact Or.inl e00
      · exact Or.inr e11
    | succ t ih =>
      intro k f r hk hf hr hlk
      obtain ⟨f, rfl⟩ : ∃ z, f = z + 1 := ⟨f - 1, by omega⟩
      have ha := T_pos h h9 (hB.2.2 k (by omega))
      have k1 : ∀ s, f_M_isKnown_b33 (f_M_isKnown_b6 f) (nI x) (nI u) (nI k) s m = f_M_isKnown_b6 f (nI x) (nI u) s (nI (k + 1)) m := fun s => by
        unfold f_M_isKnown_b33; rw [nI_1]
      rw [f_M_isKnown_b6, if_neg (nI_ge (by omega) (by omega))]
      rcases hr with ⟨rfl, q⟩ | ⟨rfl, q⟩
      · rw [if_pos e00, if_pos (am_in_nI (by omega) (by omega)), ml_cl (by omega), hB.1 k (by omega)]
        by_cases z : a k = x
        · rw [if_pos (by rw [z]), k1]
          exact ih (k + 1) f 1 (by omega) (by omega) (Or.inr ⟨rfl, k, hlk, by omega, z⟩) (by omega)
        · rw [if_neg (fun w => z ((nI_eq (by omega) (by omega)).mp w)), k1]
          refine ih (k + 1) f 0 (by omega) (by omega) (Or.inl ⟨rfl, fun i q1 q2 => ?_⟩) (by omega)
          by_cases y : i = k
          · subst y; exact z
          · exact q i q1 (by omega)
      · rw [if_neg ne01, k1]
        exact ih (k + 1) f 1 (by omega) (by omega) (Or.inr ⟨rfl, q⟩) (by omega)
  unfold f_M_isKnown
  exact L (u - lo) lo am_F 0 (by omega) (by show _ < 5000; omega) (Or.inl ⟨rfl, fun i q1 q2 => by omega⟩) (Nat.le_refl _)
def onlyB (m m' : am_Mm) : Prop := ∀ p k, p ≠ 69 → p ≠ 74 → m'.1 p k = m.1 p k
theorem hm_steps {n at_ u : Nat} {a : Nat → Nat} {m : am_Mm} (h : 4 ≤ n) (h9 : n ≤ 9) (hB : MS n m a u) (hat : at_ < u) : ∃ m' a' u', f_M_steps (nI n) (nI at_) (nI u) m = some (nI u', m') ∧ MS n m' a' u' ∧ u ≤ u' ∧ (∀ i, i < u → a' i = a i) ∧ (∀ t, mb a' u' t ↔ mb a u t ∨ Ed n (a at_) t) ∧ onlyB m m' := by
  have h27 := cu_N27 h h9
  have hw := hB.2.2 at_ hat
  obtain ⟨w, ew⟩ : ∃ w, w = a at_ := ⟨_, rfl⟩
  rw [← ew] at hw ⊢
  have hwl := (T_pos h h9 hw).2
  have u429' := T_len2 h h9 hB.2.1 hB.2.2
  have L : ∀ t k f a' u' (m0 : am_Mm), k + t = cu_N n → t < f → MS n m0 a' u' → m0.1 69 0 = nI n → onlyB m m0 → u ≤ u' → (∀ i, i < u → a' i = a i) → (∀ t, mb a' u' t ↔ mb a u t ∨ ∃ i j, i < k ∧ fl n w i = some j ∧ t = nd w (2 ^ i) ||| 2 ^ j) → ∃ m' a'' u'', f_M_steps_b13 f (nI n) (nI at_) (nI u') (nI k) m0 = some (nI u'', m') ∧ MS n m' a'' u'' ∧ u ≤ u'' ∧ (∀ i, i < u → a'' i = a i) ∧ (∀ t, mb a'' u'' t ↔ mb a u t ∨ Ed n w t) ∧ onlyB m m' := by
    intro t
    induction t with
    | zero =>
      intro k f a' u' m0 hk hf B e0 fr hu ha hmb
      obtain ⟨f, rfl⟩ : ∃ z, f = z + 1 := ⟨f - 1, by omega⟩
      have hk : k = cu_N n := by omega
      subst hk
      refine ⟨m0, a', u', ?_, B, hu, ha, hmb, fr⟩
      rw [f_M_steps_b13, hm_many h h9, Option.bind_some, if_pos (nI_le (Nat.le_refl _) (by omega))]
    | succ t ih =>
      intro k f a' u' m0 hk hf B e0 fr hu ha hmb
      obtain ⟨f, rfl⟩ : ∃ z, f = z + 1 := ⟨f - 1, by omega⟩
      have u429 := T_len2 h h9 B.2.1 B.2.2
      have va : m0.1 74 at_ = nI w := by rw [B.1 at_ (by omega), ha at_ hat, ← ew]
      obtain ⟨m1, em1⟩ : ∃ m1, m1 = am_pI m0 69 1 (nI w) := ⟨_, rfl⟩
      have g1 : ∀ p k, ¬ (p = 69 ∧ k = 1) → m1.1 p k = m0.1 p k := fun p k q => by rw [em1, ml_o _ _ q]
      have B1 : MS n m1 a' u' := ⟨fun i hi => by rw [g1 _ _ (by omega)]; exact B.1 i hi, B.2⟩
      have e01 : m1.1 69 0 = nI n := by rw [g1 _ _ (by omega)]; exact e0
      have e11' : m1.1 69 1 = nI w := by rw [em1, ml_s]
      have va1 : m1.1 74 at_ = nI w := by rw [g1 _ _ (by omega)]; exact va
      have fr1 : onlyB m m1 := fun p k q1 q2 => by rw [g1 _ _ (by omega), fr p k q1 q2]
      have skip : fl n w k = none → ∀ t, mb a' u' t ↔ mb a u t ∨ ∃ i j, i < k + 1 ∧ fl n w i = some j ∧ t = nd w (2 ^ i) ||| 2 ^ j := by
        intro hn t
        rw [hmb t]
        constructor
        · rintro (q | ⟨i, j, q1, q2⟩)
          · exact Or.inl q
          · exact Or.inr ⟨i, j, by omega, q2⟩
        · rintro (q | ⟨i, j, q1, q2, q3⟩)
          · exact Or.inl q
          · by_cases z : i = k
            · subst z; rw [hn] at q2; cases q2
            · exact Or.inr ⟨i, j, by omega, q2, q3⟩
      have b132 : ∀ (uu : Nat) mm, f_M_steps_b132 (f_M_steps_b13 f) (nI n) (nI at_) (nI uu) (nI k) mm = f_M_steps_b13 f (nI n) (nI at_) (nI uu) (nI (k + 1)) mm := fun uu mm => by
        unfold f_M_steps_b132; rw [nI_1]
      have hnone : fl n w k = none → ∃ m' a'' u'', f_M_steps_b62 (f_M_steps_b13 f) (nI n) (nI at_) (nI u') (nI k) (-1000000 : Int32) m1 = some (nI u'', m') ∧ MS n m' a'' u'' ∧ u ≤ u'' ∧ (∀ i, i < u → a'' i = a i) ∧ (∀ t, mb a'' u'' t ↔ mb a u t ∨ Ed n w t) ∧ onlyB m m' := by
        intro hn
        obtain ⟨r, c1, c2⟩ := hm_known (x := w) (lo := 0) h h9 B1 hwl (Nat.zero_le _)
        have r1 : r = 1 := by
          rcases c2 with ⟨_, q⟩ | ⟨q, _⟩
          · exact absurd (by rw [ha at_ hat, ew]) (q at_ (Nat.zero_le _) (by omega))
          · exact q
        subst r1
        unfold f_M_steps_b62
        rw [if_pos rfl, if_pos (am_in_nI (by omega) (by omega)), ml_cl (by omega), va1]
        unfold f_M_steps_b98
        have c1' : f_M_isKnown (nI w) (0 : Int32) (nI u') m1 = some (nI 1, m1) := c1
        rw [c1', Option.bind_some, if_neg ne01, b132]
        exact ih (k + 1) f a' u' m1 (by omega) (by omega) B1 e01 fr1 hu ha (skip hn)
      rw [f_M_steps_b13, hm_many h h9, Option.bind_some, if_neg (nI_ge (by omega) (by omega)), if_pos (am_in_nI (by omega) (by omega)), if_pos (am_in_nI (by omega) (by omega)), ml_cl (by omega)]
      dsimp only
      rw [va, ← em1, va1]
      by_cases hb : w.testBit k = true
      · rw [nq_has1 (by omega) (by omega) hb, Option.bind_some, if_neg ne01]
        dsimp only
        rw [hm_fl h h9 e01 e11' hwl (by omega), Option.bind_some]
        cases hf' : fl n w k with
        | none => exact hnone hf'
        | some j =>
          have o := fl_ok h h9 hw.1 (show k < cu_N n by omega) hf'
          have ne : ¬ fv (-1000000) (some j) = (-1000000 : Int32) := fun v => by
            have q2 : nI j = (-1000000 : Int32) := v
            have q3 := congrArg Int32.toInt q2
            rw [nI_toInt (by omega)] at q3
            have : (-1000000 : Int32).toInt = -1000000 := by decide
            omega
          have s1 : (nI w &&& ((am_shl (1 : Int32) (nI k)) ^^^ (-1 : Int32))) ||| (am_shl (1 : Int32) (fv (-1000000) (some j))) = nI (nd w (2 ^ k) ||| 2 ^ j) := by
            show (nI w &&& ((am_shl (1 : Int32) (nI k)) ^^^ (-1 : Int32))) ||| (am_shl (1 : Int32) (nI j)) = _
            simp (disch := omega) only [nq0, nq1, nq2, nq3, nq4, nq5, nq6, nq7, nq8, nq9, nq10, nq11, nq20, nq24, nq27, nq30, nq40, nI_add, pk_sub, pk_mul, nq_div, nq_rem, nq_shl1, nq_shl2, nq_bit1, nq_bit0, nq_or, nq_and, nq_nd, ml_cl, nq_in, nq_le, nq_nle, nq_lt, nq_nlt, nq_eq, nq_ne, nq_eqT, Option.bind_some, Bool.false_eq_true, Bool.true_eq_false, ↓reduceIte]
          have hT : Tr3 n (nd w (2 ^ k) ||| 2 ^ j) := Ed_T h h9 hw ⟨k, j, by omega, hf', rfl⟩
          unfold f_M_steps_b62
          rw [if_neg ne, if_pos (am_in_nI (by omega) (by omega)), ml_cl (by omega), va1, s1]
          obtain ⟨x, hx⟩ : ∃ x, x = nd w (2 ^ k) ||| 2 ^ j := ⟨_, rfl⟩
          rw [← hx] at hT ⊢
          obtain ⟨r, c1, c2⟩ := hm_known (x := x) (lo := 0) h h9 B1 (T_pos h h9 hT).2 (Nat.zero_le _)
          have c1' : f_M_isKnown (nI x) (0 : Int32) (nI u') m1 = some (nI r, m1) := c1
          unfold f_M_steps_b98
          rw [c1', Option.bind_some]
          have ext : ∀ (P : Nat → Prop), (∀ t, P t ↔ mb a' u' t ∨ t = x) → ∀ t, P t ↔ mb a u t ∨ ∃ i j, i < k + 1 ∧ fl n w i = some j ∧ t = nd w (2 ^ i) ||| 2 ^ j := by
            intro P c5 t
            rw [c5 t, hmb t]
            constructor
            · rintro ((q | ⟨i, j', q1, q2⟩) | q)
              · exact Or.inl q
              · exact Or.inr ⟨i, j', by omega, q2⟩
              · exact Or.inr ⟨k, j, by omega, hf', by rw [q, hx]⟩
            · rintro (q | ⟨i, j', q1, q2, q3⟩)
              · exact Or.inl (Or.inl q)
              · by_cases z : i = k
                · subst z
                  rw [hf'] at q2
                  cases q2
                  exact Or.inr (by rw [q3, hx])
                · exact Or.inl (Or.inr ⟨i, j', by omega, q2, q3⟩)
          rcases c2 with ⟨rfl, c2⟩ | ⟨rfl, i0, _, c2, c3⟩
          · have nx : ∀ i, i < u' → a' i ≠ x := fun i hi => c2 i (Nat.zero_le _) hi
            have inj2 : inj (fun i => if i = u' then x else a' i) (u' + 1) := by
              intro i j p q
              by_cases z : j = u'
              · subst z
                simp only [if_true]
                rw [if_neg (by omega)]
                exact nx i p
              · simp only [z, if_false]
                rw [if_neg (by omega)]
                exact B.2.1 i j p (by omega)
            have T2 : ∀ i, i < u' + 1 → Tr3 n ((fun i => if i = u' then x else a' i) i) := by
              intro i hi
              by_cases z : i = u'
              · subst z; simp only [if_true]; exact hT
              · simp only [z, if_false]; exact B.2.2 i (by omega)
            have u2 := T_len2 h h9 inj2 T2
            rw [if_pos e00, if_neg (show ¬ (429 : Int32) ≤ nI u' from nI_ge (show u' < 429 by omega) (by decide)), if_pos (am_in_nI (by omega) (by omega)), nI_1, b132, ml_cl (by omega)]
            refine ih (k + 1) f (fun i => if i = u' then x else a' i) (u' + 1) (am_pI m1 74 u' (nI x)) (by omega) (by omega) ⟨fun i hi => ?_, inj2, T2⟩ (by rw [ml_o _ _ (by omega)]; exact e01) (fun p k q1 q2 => by rw [ml_o _ _ (by omega)]; exact fr1 p k q1 q2) (by omega) (fun i hi => Eq.trans (if_neg (by omega)) (ha i hi)) (ext _ (fun t => ?_))
            · by_cases z : i = u'
              · subst z
                rw [ml_s]
                exact congrArg nI (if_pos rfl).symm
              · rw [ml_o _ _ (by omega)]
                exact (B1.1 i (by omega)).trans (congrArg nI (if_neg z).symm)
            · constructor
              · rintro ⟨i, hi, e⟩
                by_cases z : i = u'
                · subst z
                  right
                  simp only [if_true] at e
                  exact e.symm
                · left
                  simp only [z, if_false] at e
                  exact ⟨i, by omega, e⟩
              · rintro (⟨i, hi, e⟩ | e)
                · exact ⟨i, by omega, Eq.trans (if_neg (by omega)) e⟩
                · exact ⟨u', by omega, Eq.trans (if_pos rfl) e.symm⟩
          · rw [if_neg ne01, b132]
            refine ih (k + 1) f a' u' m1 (by omega) (by omega) B1 e01 fr1 hu ha (ext _ (fun t => ⟨Or.inl, fun z => ?_⟩))
            rcases z with z | z
            · exact z
            · subst z; exact ⟨i0, c2, c3⟩
      · rw [nq_has0 (by omega) (by omega) hb, Option.bind_some, if_pos e00]
        dsimp only
        exact hnone (by unfold fl; rw [if_neg hb])
  unfold f_M_steps
  exact L (cu_N n) 0 am_F a u (am_pI m 69 0 (nI n)) (by omega) (by show _ < 5000; omega) ⟨fun i hi => by rw [ml_o _ _ (by omega)]; exact hB.1 i hi, hB.2⟩ (ml_s _ _ _ _) (fun p k q1 q2 => by rw [ml_o _ _ (by omega)]) (Nat.le_refl _) (fun _ _ => rfl) (fun t => ⟨Or.inl, fun z => by
    rcases z with z | ⟨i, j, q, _⟩
    · exact z
    · omega⟩)
theorem onlyB_t {a b c : am_Mm} (h : onlyB a b) (h2 : onlyB b c) : onlyB a c := fun p k q1 q2 => by rw [h2 p k q1 q2, h p k q1 q2]
theorem hm_few {n s g : Nat} {m : am_Mm} (h : 4 ≤ n) (h9 : n ≤ 9) (e0 : m.1 67 0 = nI n) (hs : Tr3 n s) (hg : Tr3 n g) : ∃ k m', f_M_flipsBetween (nI s) (nI g) m = some (nI k, m') ∧ isD n s g k ∧ onlyB m m' := by
  have hc := conn h h9 hs hg
  obtain ⟨g0, gl⟩ := T_pos h h9 hg
  have L : ∀ t far f A a u (m0 : am_Mm), far + t = 13 → t + 1 < f → onlyB m m0 → MS n m0 a u → A ≤ u → (∀ t, mb a u t ↔ Rk n far s t) → (∀ j, j < far → ∀ t, Rk n j s t → mb a A t) → (∀ i t, i < A → Ed n (a i) t → mb a u t) → (∀ i, i < A → a i ≠ g) → ∃ k m', f_M_flipsBetween_b23 f (nI g) (nI n) (nI u) (nI A) (nI far) m0 = some (nI k, m') ∧ isD n s g k ∧ onlyB m m' := by
    intro t
    induction t with
    | zero =>
      intro far f A a u m0 hf1 hf2 ho B hA q1 q2 q3 q4
      exfalso
      obtain ⟨i, hi, e⟩ := q2 12 (by omega) g hc
      exact q4 i hi e
    | succ t ih =>
      intro far f A a u m0 hf1 hf2 ho B hA q1 q2 q3 q4
      obtain ⟨f, rfl⟩ : ∃ z, f = z + 1 := ⟨f - 1, by omega⟩
      have u429 := T_len2 h h9 B.2.1 B.2.2
      obtain ⟨r, c1, c2⟩ := hm_known (x := g) (lo := A) h h9 B gl hA
      rw [f_M_flipsBetween_b23, c1, Option.bind_some]
      rcases c2 with ⟨rfl, c2⟩ | ⟨rfl, i0, _, c2, c3⟩
      · have ng : ∀ i, i < u → a i ≠ g := fun i hi => by
          by_cases z : i < A
          · exact q4 i z
          · exact c2 i (by omega) hi
        have hlt : A < u := by
          rcases Nat.lt_or_ge A u with z | z
          · exact z
          · exfalso
            have e : A = u := by omega
            subst e
            have cl : ∀ k t, Rk n k s t → mb a A t := by
              intro k
              induction k with
              | zero => intro t w; exact (q1 t).mpr (Rk_mono (Nat.zero_le _) w)
              | succ k ih3 =>
                intro t w
                rcases w with w | ⟨v, w1, w2⟩
                · exact ih3 t w
                · obtain ⟨i, hi, e⟩ := ih3 v w1
                  exact q3 i t hi (by rw [e]; exact w2)
            obtain ⟨i, hi, e⟩ := cl 12 g hc
            exact ng i hi e
        rw [if_pos e00, if_neg (nI_ge hlt (by omega))]
        have I : ∀ s' at_ gf a' u' (m1 : am_Mm), at_ + s' = u → s' < gf → onlyB m m1 → MS n m1 a' u' → u ≤ u' → (∀ i, i < u → a' i = a i) → (∀ t, mb a' u' t → Rk n (far + 1) s t) → (∀ t, mb a u t → mb a' u' t) → (∀ i t, i < at_ → Ed n (a' i) t → mb a' u' t) → ∃ k m', f_M_flipsBetween_b50 (f_M_flipsBetween_b23 f) gf (nI g) (nI n) (nI u') (nI far) (nI u) (nI at_) m1 = some (nI k, m') ∧ isD n s g k ∧ onlyB m m' := by
          intro s'
          induction s' with
          | zero =>
            intro at_ gf a' u' m1 e1 e2 ho1 B1 e4 ea p1 p4 p2
            obtain ⟨gf, rfl⟩ : ∃ z, gf = z + 1 := ⟨gf - 1, by omega⟩
            have e1 : at_ = u := by omega
            subst e1
            rw [f_M_flipsBetween_b50, if_pos (nI_le (Nat.le_refl _) (by omega)), nI_1]
            refine ih (far + 1) f at_ a' u' m1 (by omega) (by omega) ho1 B1 e4 (fun t => ⟨p1 t, fun w => ?_⟩) (fun j hj t w => ?_) p2 (fun i hi => by rw [ea i hi]; exact ng i hi)
            · rcases w with w | ⟨v, w1, w2⟩
              · exact p4 t ((q1 t).mpr w)
              · obtain ⟨i, hi, e⟩ := (q1 v).mpr w1
                exact p2 i t hi (by rw [ea i hi, e]; exact w2)
            · obtain ⟨i, hi, e⟩ := (q1 t).mpr (Rk_mono (show j ≤ far by omega) w)
              exact ⟨i, hi, by rw [ea i hi]; exact e⟩
          | succ s' ih2 =>
            intro at_ gf a' u' m1 e1 e2 ho1 B1 e4 ea p1 p4 p2
            obtain ⟨gf, rfl⟩ : ∃ z, gf = z + 1 := ⟨gf - 1, by omega⟩
            have inb : Rk n far s (a' at_) := (q1 _).mp ⟨at_, by omega, (ea at_ (by omega)).symm⟩
            obtain ⟨m2, a2, u2, c1, c2, c3, c4, c5, c6⟩ := hm_steps h h9 B1 (show at_ < u' by omega)
            rw [f_M_flipsBetween_b50, if_neg (nI_ge (by omega) (by omega)), c1, Option.bind_some, nI_1]
            dsimp only
            refine ih2 (at_ + 1) gf a2 u2 m2 (by omega) (by omega) (onlyB_t ho1 c6) c2 (by omega) (fun i hi => by rw [c4 i (by omega), ea i hi]) (fun t w => ?_) (fun t w => (c5 t).mpr (Or.inl (p4 t w))) (fun i t hi w => ?_)
            · rcases (c5 t).mp w with w | w
              · exact p1 t w
              · exact Or.inr ⟨a' at_, inb, w⟩
            · rw [c4 i (by omega)] at w
              by_cases y : i = at_
              · subst y; exact (c5 t).mpr (Or.inr w)
              · exact (c5 t).mpr (Or.inl (p2 i t (by omega) w))
        dsimp only
        exact I (u - A) A am_F a u m0 (by omega) (by show _ < 5000; omega) ho B (Nat.le_refl _) (fun _ _ => rfl) (fun t w => Or.inl ((q1 t).mp w)) (fun _ w => w) q3
      · rw [if_neg ne01]
        refine ⟨far, m0, rfl, ⟨(q1 g).mp ⟨i0, c2, c3⟩, fun j hj w => ?_⟩, ho⟩
        obtain ⟨i, hi, e⟩ := q2 j hj g w
        exact q4 i hi e
  unfold f_M_flipsBetween
  rw [e0]
  refine L 13 0 am_F 0 (fun _ => s) 1 (am_pI m 74 0 (nI s)) (by omega) (by show _ < 5000; omega) (fun p k q1 q2 => by rw [ml_o _ _ (by omega)]) ⟨fun i hi => ?_, fun i j p q => by omega, fun i hi => hs⟩ (by omega) (fun t => ⟨fun ⟨i, hi, e⟩ => e, fun e => ⟨0, by omega, e⟩⟩) (fun j hj => absurd hj (Nat.not_lt_zero j)) (fun i t hi => absurd hi (Nat.not_lt_zero i)) (fun i hi => absurd hi (Nat.not_lt_zero i))
  have : i = 0 := by omega
  subst this
  exact ml_s _ _ _ _
theorem sm_S {m m' : am_Mm} (h : onlyS m m') : sm m m' := fun p k q => h p k (fun z => by
  subst z
  rcases q with q | q | q | q | q | q
  · unfold rl_StatF at q; omega
  · unfold rl_RowsF at q; omega
  · unfold rl_TapeF at q; omega
  · unfold rl_AskF at q; omega
  · unfold rl_PolyF at q; omega
  · unfold rl_ImgF at q; omega) (fun z => by
  rcases q with q | q | q | q | q | q
  · unfold rl_StatF at q; omega
  · unfold rl_RowsF at q; omega
  · unfold rl_TapeF at q; omega
  · unfold rl_AskF at q; omega
  · unfold rl_PolyF at q; omega
  · unfold rl_ImgF at q; omega)
theorem sm_B {m m' : am_Mm} (h : onlyB m m') : sm m m' := fun p k q => h p k (fun z => by
  subst z
  rcases q with q | q | q | q | q | q
  · unfold rl_StatF at q; omega
  · unfold rl_RowsF at q; omega
  · unfold rl_TapeF at q; omega
  · unfold rl_AskF at q; omega
  · unfold rl_PolyF at q; omega
  · unfold rl_ImgF at q; omega) (fun z => by
  subst z
  rcases q with q | q | q | q | q | q
  · unfold rl_StatF at q; omega
  · unfold rl_RowsF at q; omega
  · unfold rl_TapeF at q; omega
  · unfold rl_AskF at q; omega
  · unfold rl_PolyF at q; omega
  · unfold rl_ImgF at q; omega)
theorem pz_flips : ∀ a0 : Int32, am_Pz rl_All (f_C_flips a0) (f_M_flips a0) := by
  intro x m h
  unfold f_C_flips
  rcases vw_of h with hn | ⟨n, cu, kd, ow, V⟩
  · unfold f_C_refusalOfWhole
    rw [hc_there hn.1 (by omega)]
    refine ⟨-1000002, m, m, rfl, ?_, h⟩
    unfold f_M_flips
    rw [hm_there hn.2.2.1 (by omega)]; rfl
  · have V0 := V
    obtain ⟨ok, hR, hF, hP⟩ := V
    have h4 := ok.1
    have h9 := ok.2.1
    rcases rf_of h V0 x 0 with ⟨q1, q2⟩ | ⟨r, hr, rfl, q1, ⟨z, hz, q2, q3⟩ | ⟨i, hi, e0, q2, q3⟩⟩
    · refine ⟨-1000001, m, m, by rw [q1]; rfl, ?_, h⟩
      unfold f_M_flips
      rw [hm_th1 hP.1 h4 h9, Option.bind_some, if_neg ne01, q2]; rfl
    · refine ⟨-1000010 - z, am_pI m 0 12 z, am_pI (am_pI (am_pI m 0 12 z) 63 0 0) 63 0 z, ?_, ?_, ?_⟩
      · rw [q2, Option.bind_some, if_neg (pz_ne z hz).2]
      · unfold f_M_flips
        rw [hm_th1 (n := n) (by rw [ml_o _ _ (by omega)]; exact hP.1) h4 h9, Option.bind_some, if_neg ne01, q1, Option.bind_some, if_neg ml_n10, ml_o m z (show ¬ ((67 : Nat) = 0 ∧ (0 : Nat) = 12) by omega), hP.1, q3, Option.bind_some, if_neg (pz_ne z hz).2]
      · rw [ml_pp]; exact rl_All_stat h z
    · have i0 : i = 0 := ((nI_eq (a := 0) (b := i) (by omega) (by omega)).mp e0).symm
      subst i0
      obtain ⟨m1, c1, c2⟩ := hc_cuts (w := fun c => m.1 (42 + 2 * r) (0 + c)) h4 h9 hR hr hi (fun c _ => rfl)
      have hA := sm_All (sm_33 c2) h
      have q2' : f_C_refusalOfWhole (nI r) (0 : Int32) m = some (0, m) := q2
      have c1' : f_Ears_cutsOf (41 + 2 * r) (0 : Int32) m = some (fv (-1) (rB n fun c => m.1 (42 + 2 * r) (0 + c)), m1) := c1
      have F1 : m1.1 13 2 = nI n ∧ m1.1 13 3 = nI cu := by
        rw [c2 _ _ (by omega), c2 _ _ (by omega)]; exact ⟨hF.1, hF.2.1⟩
      have T1 := hc_tri h4 h9 ok.2.2.1 F1.1 F1.2
      have CN : ∀ mm, f_C_flips_b43 mm = some ((-1000000 : Int32), am_pI mm 0 12 0) := fun mm => rfl
      have M0 : ∀ mm : am_Mm, (∀ p k, p = 64 ∨ p = 65 ∨ p = 66 ∨ p = 67 → mm.1 p k = m.1 p k) → ∃ m2, (∀ p k, p ≠ 72 → m2.1 p k = (am_pI mm 63 0 0).1 p k) ∧ f_M_flips (nI r) mm = if fv (-1000000) (rB n (fun c => m.1 (42 + 2 * r) (0 + c))) = (-1000000 : Int32) then some ((-1000000 : Int32), m2) else if nI (if pc cu 30 = n - 3 then 1 else 0) = (0 : Int32) then some ((-1000000 : Int32), m2) else (f_M_flipsBetween (fv (-1000000) (rB n (fun c => m.1 (42 + 2 * r) (0 + c)))) (nI cu) m2).bind fun q25 => some (q25.1, q25.2) := by
        intro mm g
        obtain ⟨m2, d1, d2⟩ := hm_cuts (m := am_pI mm 63 0 0) (o := 40 * r) (w := fun c => m.1 (42 + 2 * r) (0 + c)) h4 h9 (by rw [ml_o _ _ (by omega), g _ _ (by omega)]; exact hP.1) (by omega) (fun c hc => by rw [ml_o _ _ (by omega), g _ _ (by omega)]; exact rB_w h hr hi c hc)
        have P2 : m2.1 67 0 = nI n ∧ m2.1 67 1 = nI cu := by
          rw [d2 _ _ (by omega), d2 _ _ (by omega), ml_o _ _ (by omega), ml_o _ _ (by omega), g _ _ (by omega), g _ _ (by omega)]; exact ⟨hP.1, hP.2.1⟩
        refine ⟨m2, d2, ?_⟩
        unfold f_M_flips
        have q3' : f_M_lacks (nI r) (0 : Int32) (nI n) mm = some (nI 0, am_pI mm 63 0 0) := q3 mm (g _ _ (by omega)) (g _ _ (by omega))
        rw [hm_th1 (n := n) (by rw [g _ _ (by omega)]; exact hP.1) h4 h9, Option.bind_some, if_neg ne01, q1, Option.bind_some, if_neg ml_n10]
        dsimp only
        rw [g 67 0 (by omega), hP.1, q3', Option.bind_some, if_pos e00, nq40, pk_mul, d1, Option.bind_some]
        dsimp only
        rw [hm_tri h4 h9 ok.2.2.1 P2.1 P2.2, Option.bind_some]
        dsimp only
        rw [P2.2]
      have g0 : ∀ p k, p = 64 ∨ p = 65 ∨ p = 66 ∨ p = 67 → (am_pI m1 0 12 0).1 p k = m.1 p k := fun p k z1 => by rw [ml_o _ _ (by omega), c2 p k (by omega)]
      rw [q2', Option.bind_some, if_pos rfl, if_pos (am_in_nI hr (by decide)), ml_rw hr, c1', Option.bind_some]
      cases hb : rB n (fun c => m.1 (42 + 2 * r) (0 + c)) with
      | none =>
        obtain ⟨m2, d2, d1⟩ := M0 (am_pI m1 0 12 0) g0
        rw [hb, if_pos (show fv (-1000000) none = (-1000000 : Int32) from rfl)] at d1
        exact ⟨-1000000, am_pI m1 0 12 0, m2, by rfl, d1, sm_All (sm_72 d2) (rl_All_stat hA 0)⟩
      | some j =>
        have hv' := rB_V h4 h9 hb
        have hlt := cu_V_lt h4 h9 hv'.1
        have ne : ¬ fv (-1000000) (some j) = (-1000000 : Int32) := fun v => by
          have q2 : nI j = (-1000000 : Int32) := v
          have q3 := congrArg Int32.toInt q2
          rw [nI_toInt (by omega)] at q3
          have : (-1000000 : Int32).toInt = -1000000 := by decide
          omega
        rw [if_neg (show ¬ fv (-1) (some j) < (0 : Int32) from nI_pos (by omega))]
        dsimp only
        rw [T1, Option.bind_some]
        dsimp only
        by_cases ht : pc cu 30 = n - 3
        · have hTc : Tr3 n cu := ⟨ok.2.2.1, ht⟩
          have hTj : Tr3 n j := hv'
          have R1 : rl_Ring m1.1 20 n := by
            have hR' := hR
            unfold rl_Ring at hR' ⊢
            simp (disch := omega) only [Nat.reduceAdd, c2]
            exact hR'
          obtain ⟨k, m2, a1, a2, a3⟩ := hc_few h4 h9 R1 hTc hTj
          have g2 : ∀ p k, p = 64 ∨ p = 65 ∨ p = 66 ∨ p = 67 → (am_pI m2 0 12 0).1 p k = m.1 p k := fun p k z1 => by rw [ml_o _ _ (by omega), a3 p k (by omega) (by omega), c2 p k (by omega)]
          obtain ⟨m3, d2, d1⟩ := M0 (am_pI m2 0 12 0) g2
          rw [hb, if_neg ne, if_pos ht, if_neg ne01] at d1
          have p3 : m3.1 67 0 = nI n := by rw [d2 _ _ (by omega), ml_o _ _ (by omega), g2 _ _ (by omega)]; exact hP.1
          obtain ⟨k', m4, b1, b2, b3⟩ := hm_few h4 h9 p3 hTj hTc
          have ek : k' = k := isD_one b2 ⟨Rk_sym h4 h9 hTc _ _ a2.1, fun j' hj' w => a2.2 j' hj' (Rk_sym h4 h9 hTj _ _ w)⟩
          subst ek
          have b1' : f_M_flipsBetween (fv (-1000000) (some j)) (nI cu) m3 = some (nI k', m4) := b1
          rw [b1', Option.bind_some] at d1
          refine ⟨nI k', am_pI m2 0 12 0, m4, ?_, d1, sm_All (sm_t (sm_72 d2) (sm_B b3)) (rl_All_stat (sm_All (sm_S a3) hA) 0)⟩
          rw [if_pos ht, if_neg ne01, F1.2]
          have a1' : f_FlipSearch_fewest (nI cu) (fv (-1) (some j)) m1 = some (nI k', m2) := a1
          rw [a1']
          rfl
        · obtain ⟨m2, d2, d1⟩ := M0 (am_pI m1 0 12 0) g0
          rw [hb, if_neg ne, if_neg ht, if_pos e00] at d1
          refine ⟨-1000000, am_pI m1 0 12 0, m2, ?_, d1, sm_All (sm_72 d2) (rl_All_stat hA 0)⟩
          rw [if_neg ht, if_pos e00, CN]
