/-! ===== kinds, numbers, cuts by rows ===== -/
def cs (n K cu : Nat) (kd ow : Nat → Nat) (w : Nat → Int32) : Bool := decide (∀ c, c < K → cI n cu kd ow c = w c)
def bts (P : Nat → Bool) : Nat → Nat
  | 0 => 0
  | k + 1 => if P k then bts P k ||| 2 ^ k else bts P k
theorem hc_cs {n K cu r i : Nat} {kd ow : Nat → Nat} {w : Nat → Int32} {m : am_Mm} (hok : rl_OK n cu kd ow) (hR : rl_Ring m.1 20 n) (hF : rl_Fig m.1 16 n cu kd ow) (hK : K ≤ n) (hi : i + K ≤ 40) (ew : ∀ c, c < K → m.1 (42 + 2 * r) (i + c) = w c) : f_Figure_countsAs (41 + 2 * r) (nI i) (nI K) m = some (nI (if cs n K cu kd ow w then 1 else 0), m) := by
  have h9 := hok.2.1
  have L : ∀ t k f, k + t = K → t < f → ((∀ c, k ≤ c → c < K → cI n cu kd ow c = w c) → f_Figure_countsAs_b3 f (41 + 2 * r) (nI i) (nI K) (nI k) m = some (nI 1, m)) ∧ (¬ (∀ c, k ≤ c → c < K → cI n cu kd ow c = w c) → f_Figure_countsAs_b3 f (41 + 2 * r) (nI i) (nI K) (nI k) m = some (nI 0, m)) := by
    intro t
    induction t with
    | zero =>
      intro k f hk hf
      obtain ⟨f, rfl⟩ : ∃ z, f = z + 1 := ⟨f - 1, by omega⟩
      refine ⟨fun _ => ?_, fun q => absurd (fun c q1 q2 => absurd q1 (by omega)) q⟩
      rw [f_Figure_countsAs_b3, if_pos (nI_le (by omega) (by omega))]; rfl
    | succ t ih =>
      intro k f hk hf
      obtain ⟨f, rfl⟩ : ∃ z, f = z + 1 := ⟨f - 1, by omega⟩
      have ih1 := ih (k + 1) f (by omega) (by omega)
      rw [f_Figure_countsAs_b3, if_neg (nI_ge (by omega) (by omega)), hF.1, if_neg (nI_ge (by omega) (by omega)), hc_ct hok hR hF (show k < n by omega), Option.bind_some, nI_add]
      unfold f_Row_itemAt
      rw [if_neg (nI_pos (by omega)), if_neg (show ¬ Int32.ofNat 40 ≤ nI (i + k) from nI_ge (show i + k < 40 by omega) (by decide)), if_pos (am_in_nI (by omega) (by omega)), Option.bind_some, ml_cl (by omega), show 41 + 2 * r + 1 = 42 + 2 * r by omega]
      dsimp only
      rw [ew k (by omega), nI_1]
      by_cases y : cI n cu kd ow k = w k
      · rw [if_pos y]
        have e : (∀ c, k ≤ c → c < K → cI n cu kd ow c = w c) ↔ (∀ c, k + 1 ≤ c → c < K → cI n cu kd ow c = w c) := by
          refine ⟨fun q c a => q c (by omega), fun q c a b => ?_⟩
          by_cases z : c = k
          · subst z; exact y
          · exact q c (by omega) b
        rw [e]
        exact ih1
      · rw [if_neg y]
        exact ⟨fun q => absurd (q k (Nat.le_refl _) (by omega)) y, fun _ => rfl⟩
  have L0 := L K 0 am_F (by omega) (by show K < 5000; omega)
  unfold cs
  by_cases q : ∀ c, c < K → cI n cu kd ow c = w c
  · rw [decide_eq_true q]; exact L0.1 (fun c _ => q c)
  · rw [decide_eq_false q]; exact L0.2 (fun z => q (fun c => z c (Nat.zero_le c)))
theorem hm_cs {n K cu o : Nat} {kd ow : Nat → Nat} {w : Nat → Int32} {m : am_Mm} (hok : rl_OK n cu kd ow) (hP : rl_Pol m.1 69 0 n cu kd ow) (hK : K ≤ n) (ho : o + K ≤ 320) (ew : ∀ c, c < K → m.1 66 (o + c) = w c) : f_M_areCountsSo (nI o) (nI K) m = some (nI (if cs n K cu kd ow w then 1 else 0), m) := by
  have h9 := hok.2.1
  have L0 : ∀ t k f, k + t = K → t < f → f_M_areCountsSo_b5 f (nI o) (nI K) (nI 0) (nI k) m = some (nI 0, m) := by
    intro t
    induction t with
    | zero =>
      intro k f hk hf
      obtain ⟨f, rfl⟩ : ∃ z, f = z + 1 := ⟨f - 1, by omega⟩
      rw [f_M_areCountsSo_b5, if_pos (nI_le (by omega) (by omega)), if_pos (Or.inl e00)]
    | succ t ih =>
      intro k f hk hf
      obtain ⟨f, rfl⟩ : ∃ z, f = z + 1 := ⟨f - 1, by omega⟩
      rw [f_M_areCountsSo_b5, if_neg (nI_ge (by omega) (by omega)), if_pos e00]
      unfold f_M_areCountsSo_b42
      rw [nI_1]
      exact ih (k + 1) f (by omega) (by omega)
  have L : ∀ t k f, k + t = K → t < f → ((∀ c, k ≤ c → c < K → cI n cu kd ow c = w c) → f_M_areCountsSo_b5 f (nI o) (nI K) (nI 1) (nI k) m = some (nI 1, m)) ∧ (¬ (∀ c, k ≤ c → c < K → cI n cu kd ow c = w c) → f_M_areCountsSo_b5 f (nI o) (nI K) (nI 1) (nI k) m = some (nI 0, m)) := by
    intro t
    induction t with
    | zero =>
      intro k f hk hf
      obtain ⟨f, rfl⟩ : ∃ z, f = z + 1 := ⟨f - 1, by omega⟩
      refine ⟨fun _ => ?_, fun q => absurd (fun c q1 q2 => absurd q1 (by omega)) q⟩
      rw [f_M_areCountsSo_b5, if_pos (nI_le (by omega) (by omega)), if_pos (Or.inr e11)]
    | succ t ih =>
      intro k f hk hf
      obtain ⟨f, rfl⟩ : ∃ z, f = z + 1 := ⟨f - 1, by omega⟩
      have ih1 := ih (k + 1) f (by omega) (by omega)
      rw [f_M_areCountsSo_b5, if_neg (nI_ge (by omega) (by omega)), if_neg ne01, hm_ct hok hP (show k < n by omega), Option.bind_some, nI_add, if_pos (am_in_nI (by omega) (by omega)), ml_cl (by omega)]
      unfold f_M_areCountsSo_b42
      dsimp only
      rw [ew k (by omega), nI_1]
      by_cases y : cI n cu kd ow k = w k
      · rw [if_pos y]
        have e : (∀ c, k ≤ c → c < K → cI n cu kd ow c = w c) ↔ (∀ c, k + 1 ≤ c → c < K → cI n cu kd ow c = w c) := by
          refine ⟨fun q c a => q c (by omega), fun q c a b => ?_⟩
          by_cases z : c = k
          · subst z; exact y
          · exact q c (by omega) b
        rw [e]
        exact ih1
      · rw [if_neg y]
        exact ⟨fun q => absurd (q k (Nat.le_refl _) (by omega)) y, fun _ => L0 t (k + 1) f (by omega) (by omega)⟩
  have L1 := L K 0 am_F (by omega) (by show K < 5000; omega)
  unfold cs
  by_cases q : ∀ c, c < K → cI n cu kd ow c = w c
  · rw [decide_eq_true q]; exact L1.1 (fun c _ => q c)
  · rw [decide_eq_false q]; exact L1.2 (fun z => q (fun c => z c (Nat.zero_le c)))
/-- what a trial of v gives -/
def wq (n K cu : Nat) (kd ow : Nat → Nat) (w : Nat → Int32) (c q v : Nat) : Bool :=
  if q = 0 then decide (1 ≤ v) && cs n K cu (fun d => if d = c then v else kd d) ow w
  else if q = 1 then cs n K cu kd (fun d => if d = c then v else ow d) w
  else decide (cu &&& (cu_acr n v ||| 2 ^ v) = 0) && cs n K (cu ||| 2 ^ v) kd ow w
theorem fr_iff {n cu i : Nat} : fr n cu i ↔ cu &&& (cu_acr n i ||| 2 ^ i) = 0 := by
  unfold fr
  refine ⟨fun q => Nat.eq_of_testBit_eq fun j => ?_, fun q => ?_⟩
  · rw [Nat.zero_testBit, Nat.testBit_and, Nat.testBit_or, cu_acr_tb, Nat.testBit_two_pow]
    by_cases hj : cu.testBit j = true
    · have ne : ¬ i = j := fun z => by subst z; rw [q.1] at hj; cases hj
      by_cases hjN : j < cu_N n
      · rw [cu_x_sym, q.2 j hjN hj]
        simp [ne]
      · simp [ne, hjN]
    · simp [hj]
  · have t : ∀ j, (cu &&& (cu_acr n i ||| 2 ^ i)).testBit j = false := fun j => by rw [q, Nat.zero_testBit]
    simp only [Nat.testBit_and, Nat.testBit_or, cu_acr_tb, Nat.testBit_two_pow] at t
    refine ⟨by have := t i; simpa using this, fun k hk hb => ?_⟩
    have := t k
    rw [hb, cu_x_sym] at this
    simp [hk] at this
    exact this.1
theorem hc_kb {n K cu r i c : Nat} {kd ow : Nat → Nat} {w : Nat → Int32} {m : am_Mm} (V : vw m n cu kd ow) (hr : r < 8) (hK : K ≤ n) (hi : i + K ≤ 40) (hc : c < n) (ew : ∀ c, c < K → m.1 (42 + 2 * r) (i + c) = w c) : ∃ m', f_C_kindsBy (nI c) (41 + 2 * r) (nI i) (nI K) m = some (nI (bts (wq n K cu kd ow w c 0) 6), m') ∧ ∀ p k, ¬ (16 ≤ p ∧ p ≤ 18) → m'.1 p k = m.1 p k := by
  obtain ⟨ok, hR, hF, hP⟩ := V
  have h9 := ok.2.1
  obtain ⟨mt, a1, a2, a3, a4, a5⟩ := hc_take (p0 := 16) (p1 := 13) (m := m) (by omega)
  have L : ∀ t v f (m0 : am_Mm), v + t = 6 → 1 ≤ v → t < f → m0.1 16 2 = nI n → m0.1 16 3 = nI cu → (∀ d, d < n → d ≠ c → m0.1 17 d = nI (kd d)) → (∀ d, d < n → m0.1 18 d = nI (ow d)) → (∀ p k, ¬ (16 ≤ p ∧ p ≤ 18) → m0.1 p k = m.1 p k) → ∃ m', f_C_kindsBy_b17 f (nI c) (41 + 2 * r) (nI i) (nI K) (nI (bts (wq n K cu kd ow w c 0) v)) (nI v) m0 = some (nI (bts (wq n K cu kd ow w c 0) 6), m') ∧ ∀ p k, ¬ (16 ≤ p ∧ p ≤ 18) → m'.1 p k = m.1 p k := by
    intro t
    induction t with
    | zero =>
      intro v f m0 hv h1 hf b1 b2 b3 b4 b5
      obtain ⟨f, rfl⟩ : ∃ z, f = z + 1 := ⟨f - 1, by omega⟩
      have hv : v = 6 := by omega
      subst hv
      refine ⟨m0, ?_, b5⟩
      rw [f_C_kindsBy_b17, if_pos (show (5 : Int32) < nI 6 by decide)]
    | succ t ih =>
      intro v f m0 hv h1 hf b1 b2 b3 b4 b5
      obtain ⟨f, rfl⟩ : ∃ z, f = z + 1 := ⟨f - 1, by omega⟩
      have fr0 : ∀ p k, ¬ (16 ≤ p ∧ p ≤ 18) → (am_pI m0 17 c (nI v)).1 p k = m.1 p k := fun p k q => by rw [ml_o _ _ (by omega), b5 p k q]
      have hR2 : rl_Ring (am_pI m0 17 c (nI v)).1 20 n := by
        have hR' := hR
        unfold rl_Ring at hR' ⊢
        simp (disch := omega) only [Nat.reduceAdd, fr0]
        exact hR'
      have hF2 : rl_Fig (am_pI m0 17 c (nI v)).1 16 n cu (fun d => if d = c then v else kd d) ow := by
        refine ⟨by rw [ml_o _ _ (by omega)]; exact b1, by rw [ml_o _ _ (by omega)]; exact b2, fun d hd => ⟨?_, by rw [ml_o _ _ (by omega)]; exact b4 d hd⟩⟩
        by_cases z : d = c
        · subst z; simp only [if_true]; exact ml_s _ _ _ _
        · simp only [z, if_false]; rw [ml_o _ _ (by omega)]; exact b3 d hd z
      have ok2 : rl_OK n cu (fun d => if d = c then v else kd d) ow := by
        refine ⟨ok.1, ok.2.1, ok.2.2.1, fun d hd => ?_⟩
        have := ok.2.2.2 d hd
        by_cases z : d = c
        · simp only [z, if_true]; exact ⟨by omega, by omega, (ok.2.2.2 c hc).2.2⟩
        · simp only [z, if_false]; exact this
      have S := hc_cs (r := r) (i := i) (w := w) ok2 hR2 hF2 hK hi (fun d hd => by rw [fr0 _ _ (by omega)]; exact ew d hd)
      have wv : wq n K cu kd ow w c 0 v = cs n K cu (fun d => if d = c then v else kd d) ow w := by
        unfold wq
        rw [if_pos rfl, decide_eq_true h1, Bool.true_and]
      obtain ⟨m', r1, r2⟩ := ih (v + 1) f (am_pI m0 17 c (nI v)) (by omega) (by omega) (by omega) hF2.1 hF2.2.1 (fun d hd z => by rw [ml_o _ _ (by omega)]; exact b3 d hd z) (fun d hd => by rw [ml_o _ _ (by omega)]; exact b4 d hd) fr0
      refine ⟨m', ?_, r2⟩
      rw [← r1, f_C_kindsBy_b17, if_neg (show ¬ (5 : Int32) < nI v from nI_nlt (show v ≤ 5 by omega) (by decide)), if_pos (am_in_nI (by omega) (by omega)), ml_cl (by omega), S, Option.bind_some, bts, wv]
      unfold f_C_kindsBy_b61
      by_cases z : cs n K cu (fun d => if d = c then v else kd d) ow w = true
      · rw [if_pos z, if_neg ne01, if_pos z, nI_1, nq1, nq_shl1 (by omega), nq_or]
      · rw [if_neg z, if_pos e00, if_neg z, nI_1]
  obtain ⟨m', r1, r2⟩ := L 5 1 am_F mt (by omega) (by omega) (by show 5 < 5000; omega) (by rw [a2]; exact hF.1) (by rw [a3]; exact hF.2.1) (fun d hd _ => by rw [(a4 d (by omega)).1]; exact (hF.2.2 d hd).1) (fun d hd => by rw [(a4 d (by omega)).2]; exact (hF.2.2 d hd).2) a5
  refine ⟨m', ?_, r2⟩
  unfold f_C_kindsBy
  rw [a1, Option.bind_some]
  exact r1
theorem hc_ob {n K cu r i c : Nat} {kd ow : Nat → Nat} {w : Nat → Int32} {m : am_Mm} (V : vw m n cu kd ow) (hr : r < 8) (hK : K ≤ n) (hi : i + K ≤ 40) (hc : c < n) (ew : ∀ c, c < K → m.1 (42 + 2 * r) (i + c) = w c) : ∃ m', f_C_ownBy (nI c) (41 + 2 * r) (nI i) (nI K) m = some (nI (bts (wq n K cu kd ow w c 1) 10), m') ∧ ∀ p k, ¬ (16 ≤ p ∧ p ≤ 18) → m'.1 p k = m.1 p k := by
  obtain ⟨ok, hR, hF, hP⟩ := V
  have h9 := ok.2.1
  obtain ⟨mt, a1, a2, a3, a4, a5⟩ := hc_take (p0 := 16) (p1 := 13) (m := m) (by omega)
  have L : ∀ t v f (m0 : am_Mm), v + t = 10 → t < f → m0.1 16 2 = nI n → m0.1 16 3 = nI cu → (∀ d, d < n → m0.1 17 d = nI (kd d)) → (∀ d, d < n → d ≠ c → m0.1 18 d = nI (ow d)) → (∀ p k, ¬ (16 ≤ p ∧ p ≤ 18) → m0.1 p k = m.1 p k) → ∃ m', f_C_ownBy_b17 f (nI c) (41 + 2 * r) (nI i) (nI K) (nI (bts (wq n K cu kd ow w c 1) v)) (nI v) m0 = some (nI (bts (wq n K cu kd ow w c 1) 10), m') ∧ ∀ p k, ¬ (16 ≤ p ∧ p ≤ 18) → m'.1 p k = m.1 p k := by
    intro t
    induction t with
    | zero =>
      intro v f m0 hv hf b1 b2 b3 b4 b5
      obtain ⟨f, rfl⟩ : ∃ z, f = z + 1 := ⟨f - 1, by omega⟩
      have hv : v = 10 := by omega
      subst hv
      refine ⟨m0, ?_, b5⟩
      rw [f_C_ownBy_b17, if_pos (show (9 : Int32) < nI 10 by decide)]
    | succ t ih =>
      intro v f m0 hv hf b1 b2 b3 b4 b5
      obtain ⟨f, rfl⟩ : ∃ z, f = z + 1 := ⟨f - 1, by omega⟩
      have fr0 : ∀ p k, ¬ (16 ≤ p ∧ p ≤ 18) → (am_pI m0 18 c (nI v)).1 p k = m.1 p k := fun p k q => by rw [ml_o _ _ (by omega), b5 p k q]
      have hR2 : rl_Ring (am_pI m0 18 c (nI v)).1 20 n := by
        have hR' := hR
        unfold rl_Ring at hR' ⊢
        simp (disch := omega) only [Nat.reduceAdd, fr0]
        exact hR'
      have hF2 : rl_Fig (am_pI m0 18 c (nI v)).1 16 n cu kd (fun d => if d = c then v else ow d) := by
        refine ⟨by rw [ml_o _ _ (by omega)]; exact b1, by rw [ml_o _ _ (by omega)]; exact b2, fun d hd => ⟨by rw [ml_o _ _ (by omega)]; exact b3 d hd, ?_⟩⟩
        by_cases z : d = c
        · subst z; simp only [if_true]; exact ml_s _ _ _ _
        · simp only [z, if_false]; rw [ml_o _ _ (by omega)]; exact b4 d hd z
      have ok2 : rl_OK n cu kd (fun d => if d = c then v else ow d) := by
        refine ⟨ok.1, ok.2.1, ok.2.2.1, fun d hd => ?_⟩
        have := ok.2.2.2 d hd
        by_cases z : d = c
        · simp only [z, if_true]; exact ⟨(ok.2.2.2 c hc).1, (ok.2.2.2 c hc).2.1, by omega⟩
        · simp only [z, if_false]; exact this
      have S := hc_cs (r := r) (i := i) (w := w) ok2 hR2 hF2 hK hi (fun d hd => by rw [fr0 _ _ (by omega)]; exact ew d hd)
      have wv : wq n K cu kd ow w c 1 v = cs n K cu kd (fun d => if d = c then v else ow d) w := by
        unfold wq
        rw [if_neg (by decide), if_pos rfl]
      obtain ⟨m', r1, r2⟩ := ih (v + 1) f (am_pI m0 18 c (nI v)) (by omega) (by omega) hF2.1 hF2.2.1 (fun d hd => by rw [ml_o _ _ (by omega)]; exact b3 d hd) (fun d hd z => by rw [ml_o _ _ (by omega)]; exact b4 d hd z) fr0
      refine ⟨m', ?_, r2⟩
      rw [← r1, f_C_ownBy_b17, if_neg (show ¬ (9 : Int32) < nI v from nI_nlt (show v ≤ 9 by omega) (by decide)), if_pos (am_in_nI (by omega) (by omega)), ml_cl (by omega), S, Option.bind_some, bts, wv]
      unfold f_C_ownBy_b62
      by_cases z : cs n K cu kd (fun d => if d = c then v else ow d) w = true
      · rw [if_pos z, if_neg ne01, if_pos z, nI_1, nq1, nq_shl1 (by omega), nq_or]
      · rw [if_neg z, if_pos e00, if_neg z, nI_1]
  obtain ⟨m', r1, r2⟩ := L 10 0 am_F mt (by omega) (by show 10 < 5000; omega) (by rw [a2]; exact hF.1) (by rw [a3]; exact hF.2.1) (fun d hd => by rw [(a4 d (by omega)).1]; exact (hF.2.2 d hd).1) (fun d hd _ => by rw [(a4 d (by omega)).2]; exact (hF.2.2 d hd).2) a5
  refine ⟨m', ?_, r2⟩
  unfold f_C_ownBy
  rw [a1, Option.bind_some]
  exact r1
theorem hc_cb {n K cu r i c : Nat} {kd ow : Nat → Nat} {w : Nat → Int32} {m : am_Mm} (V : vw m n cu kd ow) (hr : r < 8) (hK : K ≤ n) (hi : i + K ≤ 40) (ew : ∀ c, c < K → m.1 (42 + 2 * r) (i + c) = w c) : ∃ m', f_C_cutsBy (41 + 2 * r) (nI i) (nI K) m = some (nI (bts (wq n K cu kd ow w c 2) (cu_N n)), m') ∧ ∀ p k, ¬ (16 ≤ p ∧ p ≤ 18) → m'.1 p k = m.1 p k := by
  obtain ⟨ok, hR, hF, hP⟩ := V
  have h4 := ok.1
  have h9 := ok.2.1
  have hv := ok.2.2.1
  have hcu := cu_V_lt h4 h9 hv
  have h27 := cu_N27 h4 h9
  obtain ⟨mt, a1, a2, a3, a4, a5⟩ := hc_take (p0 := 16) (p1 := 13) (m := m) (by omega)
  have L : ∀ t v f (m0 : am_Mm), v + t = cu_N n → t < f → m0.1 16 2 = nI n → (∀ d, d < n → m0.1 17 d = nI (kd d)) → (∀ d, d < n → m0.1 18 d = nI (ow d)) → (∀ p k, ¬ (16 ≤ p ∧ p ≤ 18) → m0.1 p k = m.1 p k) → ∃ m', f_C_cutsBy_b17 f (41 + 2 * r) (nI i) (nI K) (nI (bts (wq n K cu kd ow w c 2) v)) (nI v) m0 = some (nI (bts (wq n K cu kd ow w c 2) (cu_N n)), m') ∧ ∀ p k, ¬ (16 ≤ p ∧ p ≤ 18) → m'.1 p k = m.1 p k := by
    intro t
    induction t with
    | zero =>
      intro v f m0 hv hf b1 b3 b4 b5
      obtain ⟨f, rfl⟩ : ∃ z, f = z + 1 := ⟨f - 1, by omega⟩
      have hv : v = cu_N n := by omega
      subst hv
      refine ⟨m0, ?_, b5⟩
      rw [f_C_cutsBy_b17, b5 _ _ (by omega), hR.2.1, if_pos (nI_le (Nat.le_refl _) (by omega))]
    | succ t ih =>
      intro v f m0 hvt hf b1 b3 b4 b5
      obtain ⟨f, rfl⟩ : ∃ z, f = z + 1 := ⟨f - 1, by omega⟩
      have e13 : m0.1 13 3 = nI cu := by rw [b5 _ _ (by omega)]; exact hF.2.1
      have s1 : nI cu ||| am_shl (1 : Int32) (nI v) = nI (cu ||| 2 ^ v) := by simp (disch := omega) only [nq0, nq1, nq2, nq3, nq4, nq5, nq6, nq7, nq8, nq9, nq10, nq11, nq20, nq24, nq27, nq30, nq40, nI_add, pk_sub, pk_mul, nq_div, nq_rem, nq_shl1, nq_shl2, nq_bit1, nq_bit0, nq_or, nq_and, nq_nd, ml_cl, nq_in, nq_le, nq_nle, nq_lt, nq_nlt, nq_eq, nq_ne, nq_eqT, Option.bind_some, Bool.false_eq_true, Bool.true_eq_false, ↓reduceIte]
      have fr0 : ∀ p k, ¬ (16 ≤ p ∧ p ≤ 18) → (am_pI m0 16 3 (nI (cu ||| 2 ^ v))).1 p k = m.1 p k := fun p k q => by rw [ml_o _ _ (by omega), b5 p k q]
      have hR2 : rl_Ring (am_pI m0 16 3 (nI (cu ||| 2 ^ v))).1 20 n := by
        have hR' := hR
        unfold rl_Ring at hR' ⊢
        simp (disch := omega) only [Nat.reduceAdd, fr0]
        exact hR'
      have hF2 : rl_Fig (am_pI m0 16 3 (nI (cu ||| 2 ^ v))).1 16 n (cu ||| 2 ^ v) kd ow := ⟨by rw [ml_o _ _ (by omega)]; exact b1, ml_s _ _ _ _, fun d hd => ⟨by rw [ml_o _ _ (by omega)]; exact b3 d hd, by rw [ml_o _ _ (by omega)]; exact b4 d hd⟩⟩
      have fre := hc_free (m := am_pI m0 16 3 (nI (cu ||| 2 ^ v))) h4 h9 hR2 hcu (show v < cu_N n by omega)
      obtain ⟨m', r1, r2⟩ := ih (v + 1) f (am_pI m0 16 3 (nI (cu ||| 2 ^ v))) (by omega) (by omega) hF2.1 (fun d hd => (hF2.2.2 d hd).1) (fun d hd => (hF2.2.2 d hd).2) fr0
      refine ⟨m', ?_, r2⟩
      rw [← r1, f_C_cutsBy_b17, b5 20 6 (by omega), hR.2.1, if_neg (nI_ge (by omega) (by omega)), e13, s1, ml_o m0 (nI (cu ||| 2 ^ v)) (show ¬ ((13 : Nat) = 16 ∧ (3 : Nat) = 3) by omega), e13, bts]
      unfold f_C_cutsBy_b93
      have wv : wq n K cu kd ow w c 2 v = (decide (cu &&& (cu_acr n v ||| 2 ^ v) = 0) && cs n K (cu ||| 2 ^ v) kd ow w) := by
        unfold wq
        rw [if_neg (by decide), if_neg (by decide)]
      rw [wv]
      by_cases hf : fr n cu v
      · have ok2 : rl_OK n (cu ||| 2 ^ v) kd ow := ⟨h4, h9, cu_V_add (by omega) hv hf, ok.2.2.2⟩
        have S := hc_cs (r := r) (i := i) (w := w) ok2 hR2 hF2 hK hi (fun d hd => by rw [fr0 _ _ (by omega)]; exact ew d hd)
        rw [fre.1 hf, Option.bind_some, if_neg ne01, S, Option.bind_some, decide_eq_true (fr_iff.mp hf), Bool.true_and]
        by_cases z : cs n K (cu ||| 2 ^ v) kd ow w = true
        · rw [if_pos z, if_neg ne01, if_pos z, nI_1, nq1, nq_shl1 (by omega), nq_or]
        · rw [if_neg z, if_pos e00, if_neg z, nI_1]
      · rw [fre.2 hf, Option.bind_some, if_pos e00, decide_eq_false (fun z => hf (fr_iff.mpr z)), Bool.false_and, nI_1]
        rfl
  obtain ⟨m', r1, r2⟩ := L (cu_N n) 0 am_F mt (by omega) (by show _ < 5000; omega) (by rw [a2]; exact hF.1) (fun d hd => by rw [(a4 d (by omega)).1]; exact (hF.2.2 d hd).1) (fun d hd => by rw [(a4 d (by omega)).2]; exact (hF.2.2 d hd).2) a5
  refine ⟨m', ?_, r2⟩
  unfold f_C_cutsBy
  rw [a1, Option.bind_some]
  exact r1
theorem hm_fit {n K cu o c q hi : Nat} {kd ow : Nat → Nat} {w : Nat → Int32} {m : am_Mm} (ok : rl_OK n cu kd ow) (hP : rl_Pol m.1 67 0 n cu kd ow) (hK : K ≤ n) (ho : o + K ≤ 320) (hc : c < n) (hq : q < 3) (hh : hi ≤ 27) (hq0 : q = 0 → hi = 6) (hq1 : q = 1 → hi = 10) (hq2 : q = 2 → hi = cu_N n) (ew : ∀ c, c < K → m.1 66 (o + c) = w c) : ∀ t v f (m0 : am_Mm), v + t = hi → (q = 0 → 1 ≤ v) → 1 ≤ hi → t < f → (∀ p k, p ≠ 69 → m0.1 p k = m.1 p k) → ∃ m', f_M_fitting_b45 f (nI c) (nI q) (nI o) (nI K) (nI (bts (wq n K cu kd ow w c q) v)) (nI (hi - 1)) (nI v) m0 = some (nI (bts (wq n K cu kd ow w c q) hi), m') ∧ ∀ p k, p ≠ 69 → m'.1 p k = m.1 p k := by
  have h4 := ok.1
  have h9 := ok.2.1
  have hv := ok.2.2.1
  have hcu := cu_V_lt h4 h9 hv
  have h27 := cu_N27 h4 h9
  intro t
  induction t with
  | zero =>
    intro v f m0 hvt h1 h0 hf b5
    obtain ⟨f, rfl⟩ : ∃ z, f = z + 1 := ⟨f - 1, by omega⟩
    have hvt : v = hi := by omega
    subst hvt
    refine ⟨m0, ?_, b5⟩
    rw [f_M_fitting_b45, if_pos (nI_lt (by omega) (by omega))]
  | succ t ih =>
    intro v f m0 hvt h1 h0 hf b5
    obtain ⟨f, rfl⟩ : ∃ z, f = z + 1 := ⟨f - 1, by omega⟩
    obtain ⟨mt, a1, a2, a3⟩ := hm_then m0
    have a4 : ∀ p k, p ≠ 69 → mt.1 p k = m.1 p k := fun p k z => by rw [a3 p k z, b5 p k z]
    have PT : rl_Pol mt.1 69 0 n cu kd ow := rl_Pol_c h9 (fun k hk => by rw [Nat.zero_add, a2 k hk, b5 _ _ (by omega)]) hP
    obtain ⟨t0, t1⟩ := rl_Pol_0 PT
    -- with the changed polygon
    have key : ∀ (m1 : am_Mm) (cu' : Nat) (kd' ow' : Nat → Nat), rl_OK n cu' kd' ow' → rl_Pol m1.1 69 0 n cu' kd' ow' → (∀ p k, p ≠ 69 → m1.1 p k = m.1 p k) → wq n K cu kd ow w c q v = cs n K cu' kd' ow' w → f_M_fitting_b110 (f_M_fitting_b45 f) (nI c) (nI q) (nI o) (nI K) (nI (hi - 1)) (nI v) (nI (bts (wq n K cu kd ow w c q) v)) m1 = f_M_fitting_b45 f (nI c) (nI q) (nI o) (nI K) (nI (bts (wq n K cu kd ow w c q) (v + 1))) (nI (hi - 1)) (nI (v + 1)) m1 := by
      intro m1 cu' kd' ow' ok' P' fr' e
      unfold f_M_fitting_b110 f_M_fitting_b128
      rw [hm_cs (w := w) ok' P' hK ho (fun d hd => by rw [fr' _ _ (by omega)]; exact ew d hd), Option.bind_some, bts, e]
      by_cases z : cs n K cu' kd' ow' w = true
      · rw [if_pos z, if_neg ne01, if_pos z, nI_1, nq1, nq_shl1 (by omega), nq_or]
      · rw [if_neg z, if_pos e00, if_neg z, nI_1, nq0, nq_or, Nat.or_zero]
    rw [f_M_fitting_b45, if_neg (nI_nlt (by omega) (by omega)), a1, Option.bind_some]
    rcases (show q = 0 ∨ q = 1 ∨ q = 2 by omega) with rfl | rfl | rfl
    · have hv1 := h1 rfl
      have h6 := hq0 rfl
      have ok2 : rl_OK n cu (fun d => if d = c then v else kd d) ow := by
        refine ⟨ok.1, ok.2.1, ok.2.2.1, fun d hd => ?_⟩
        have := ok.2.2.2 d hd
        by_cases z : d = c
        · simp only [z, if_true]; exact ⟨by omega, by omega, (ok.2.2.2 c hc).2.2⟩
        · simp only [z, if_false]; exact this
      have P2 : rl_Pol (am_pI mt 69 (2 + 2 * c) (nI v)).1 69 0 n cu (fun d => if d = c then v else kd d) ow := by
        refine ⟨by rw [ml_o _ _ (by omega)]; exact PT.1, by rw [ml_o _ _ (by omega)]; exact PT.2.1, fun d hd => ⟨?_, by rw [ml_o _ _ (by omega)]; exact (PT.2.2 d hd).2⟩⟩
        by_cases z : d = c
        · subst z; simp only [if_true]; rw [show 0 + 2 + 2 * d = 2 + 2 * d by omega]; exact ml_s _ _ _ _
        · simp only [z, if_false]; rw [ml_o _ _ (by omega)]; exact (PT.2.2 d hd).1
      have wv : wq n K cu kd ow w c 0 v = cs n K cu (fun d => if d = c then v else kd d) ow w := by
        unfold wq
        rw [if_pos rfl, decide_eq_true hv1, Bool.true_and]
      have fr2 : ∀ p k, p ≠ 69 → (am_pI mt 69 (2 + 2 * c) (nI v)).1 p k = m.1 p k := fun p k z => by rw [ml_o _ _ (by omega), a4 p k z]
      obtain ⟨m', r1, r2⟩ := ih (v + 1) f (am_pI mt 69 (2 + 2 * c) (nI v)) (by omega) (fun _ => by omega) h0 (by omega) fr2
      refine ⟨m', ?_, r2⟩
      rw [← r1, ← key _ _ _ _ ok2 P2 fr2 wv]
      unfold f_M_fitting_b91
      simp (disch := omega) only [nq0, nq1, nq2, nq3, nq4, nq5, nq6, nq7, nq8, nq9, nq10, nq11, nq20, nq24, nq27, nq30, nq40, nI_add, pk_sub, pk_mul, nq_div, nq_rem, nq_shl1, nq_shl2, nq_bit1, nq_bit0, nq_or, nq_and, nq_nd, ml_cl, nq_in, nq_le, nq_nle, nq_lt, nq_nlt, nq_eq, nq_ne, nq_eqT, Option.bind_some, Bool.false_eq_true, Bool.true_eq_false, ↓reduceIte, Nat.add_zero]
    · have h10 := hq1 rfl
      have ok2 : rl_OK n cu kd (fun d => if d = c then v else ow d) := by
        refine ⟨ok.1, ok.2.1, ok.2.2.1, fun d hd => ?_⟩
        have := ok.2.2.2 d hd
        by_cases z : d = c
        · simp only [z, if_true]; exact ⟨(ok.2.2.2 c hc).1, (ok.2.2.2 c hc).2.1, by omega⟩
        · simp only [z, if_false]; exact this
      have P2 : rl_Pol (am_pI mt 69 (2 + 2 * c + 1) (nI v)).1 69 0 n cu kd (fun d => if d = c then v else ow d) := by
        refine ⟨by rw [ml_o _ _ (by omega)]; exact PT.1, by rw [ml_o _ _ (by omega)]; exact PT.2.1, fun d hd => ⟨by rw [ml_o _ _ (by omega)]; exact (PT.2.2 d hd).1, ?_⟩⟩
        by_cases z : d = c
        · subst z; simp only [if_true]; rw [show 0 + 3 + 2 * d = 2 + 2 * d + 1 by omega]; exact ml_s _ _ _ _
        · simp only [z, if_false]; rw [ml_o _ _ (by omega)]; exact (PT.2.2 d hd).2
      have wv : wq n K cu kd ow w c 1 v = cs n K cu kd (fun d => if d = c then v else ow d) w := by
        unfold wq
        rw [if_neg (by decide), if_pos rfl]
      have fr2 : ∀ p k, p ≠ 69 → (am_pI mt 69 (2 + 2 * c + 1) (nI v)).1 p k = m.1 p k := fun p k z => by rw [ml_o _ _ (by omega), a4 p k z]
      obtain ⟨m', r1, r2⟩ := ih (v + 1) f (am_pI mt 69 (2 + 2 * c + 1) (nI v)) (by omega) (fun _ => by omega) h0 (by omega) fr2
      refine ⟨m', ?_, r2⟩
      rw [← r1, ← key _ _ _ _ ok2 P2 fr2 wv]
      unfold f_M_fitting_b91
      simp (disch := omega) only [nq0, nq1, nq2, nq3, nq4, nq5, nq6, nq7, nq8, nq9, nq10, nq11, nq20, nq24, nq27, nq30, nq40, nI_add, pk_sub, pk_mul, nq_div, nq_rem, nq_shl1, nq_shl2, nq_bit1, nq_bit0, nq_or, nq_and, nq_nd, ml_cl, nq_in, nq_le, nq_nle, nq_lt, nq_nlt, nq_eq, nq_ne, nq_eqT, Option.bind_some, Bool.false_eq_true, Bool.true_eq_false, ↓reduceIte]
    · have hN := hq2 rfl
      have s1 : nI cu ||| am_shl (1 : Int32) (nI v) = nI (cu ||| 2 ^ v) := by simp (disch := omega) only [nq0, nq1, nq2, nq3, nq4, nq5, nq6, nq7, nq8, nq9, nq10, nq11, nq20, nq24, nq27, nq30, nq40, nI_add, pk_sub, pk_mul, nq_div, nq_rem, nq_shl1, nq_shl2, nq_bit1, nq_bit0, nq_or, nq_and, nq_nd, ml_cl, nq_in, nq_le, nq_nle, nq_lt, nq_nlt, nq_eq, nq_ne, nq_eqT, Option.bind_some, Bool.false_eq_true, Bool.true_eq_false, ↓reduceIte]
      have P2 : rl_Pol (am_pI mt 69 1 (nI (cu ||| 2 ^ v))).1 69 0 n (cu ||| 2 ^ v) kd ow := ⟨by rw [ml_o _ _ (by omega)]; exact PT.1, ml_s _ _ _ _, fun d hd => ⟨by rw [ml_o _ _ (by omega)]; exact (PT.2.2 d hd).1, by rw [ml_o _ _ (by omega)]; exact (PT.2.2 d hd).2⟩⟩
      have fr2 : ∀ p k, p ≠ 69 → (am_pI mt 69 1 (nI (cu ||| 2 ^ v))).1 p k = m.1 p k := fun p k z => by rw [ml_o _ _ (by omega), a4 p k z]
      obtain ⟨p0, p1⟩ := rl_Pol_0 hP
      have fre := hm_free (m := am_pI mt 69 1 (nI (cu ||| 2 ^ v))) (p := 67) h4 h9 (by rw [fr2 _ _ (by omega)]; exact p0) (by rw [fr2 _ _ (by omega)]; exact p1) hcu (show v < cu_N n by omega)
      have wv : wq n K cu kd ow w c 2 v = (decide (cu &&& (cu_acr n v ||| 2 ^ v) = 0) && cs n K (cu ||| 2 ^ v) kd ow w) := by
        unfold wq
        rw [if_neg (by decide), if_neg (by decide)]
      obtain ⟨m', r1, r2⟩ := ih (v + 1) f (am_pI mt 69 1 (nI (cu ||| 2 ^ v))) (by omega) (fun _ => by omega) h0 (by omega) fr2
      refine ⟨m', ?_, r2⟩
      rw [← r1, if_pos (show (2 : Int32) ≤ nI 2 by decide), t1, s1]
      unfold f_M_fitting_b91
      rw [if_neg (show ¬ nI 2 < (2 : Int32) by decide)]
      by_cases hf : fr n cu v
      · rw [fre.1 hf, Option.bind_some, if_neg ne01]
        exact key _ _ _ _ ⟨h4, h9, cu_V_add (by omega) hv hf, ok.2.2.2⟩ P2 fr2 (by rw [wv, decide_eq_true (fr_iff.mp hf), Bool.true_and])
      · rw [fre.2 hf, Option.bind_some, if_pos e00, bts, wv, decide_eq_false (fun z => hf (fr_iff.mpr z)), Bool.false_and]
        unfold f_M_fitting_b128
        rw [nI_1, nq0, nq_or, Nat.or_zero]
        rfl
