/-! ===== likes ===== -/
/-- the unlike ones of the first k, the latest first -/
def dl (v : Nat → Nat) : Nat → List Nat
  | 0 => []
  | k + 1 => if v k ∈ dl v k then dl v k else v k :: dl v k
theorem dl_mem (v : Nat → Nat) (x : Nat) : ∀ k, x ∈ dl v k ↔ ∃ j, j < k ∧ v j = x
  | 0 => by simp [dl]
  | k + 1 => by
    have ih := dl_mem v x k
    rw [dl]
    by_cases q : v k ∈ dl v k
    · rw [if_pos q, ih]
      constructor
      · rintro ⟨j, a, b⟩; exact ⟨j, by omega, b⟩
      · rintro ⟨j, a, b⟩
        by_cases z : j = k
        · subst z; subst b
          exact (dl_mem v _ j).mp q
        · exact ⟨j, by omega, b⟩
    · rw [if_neg q, List.mem_cons, ih]
      constructor
      · rintro (e | ⟨j, a, b⟩)
        · exact ⟨k, by omega, e.symm⟩
        · exact ⟨j, by omega, b⟩
      · rintro ⟨j, a, b⟩
        by_cases z : j = k
        · subst z; exact Or.inl b.symm
        · exact Or.inr ⟨j, by omega, b⟩
theorem dl_nd (v : Nat → Nat) : ∀ k, (dl v k).Nodup
  | 0 => List.nodup_nil
  | k + 1 => by
    have ih := dl_nd v k
    rw [dl]
    by_cases q : v k ∈ dl v k
    · rw [if_pos q]; exact ih
    · rw [if_neg q]; exact List.nodup_cons.mpr ⟨q, ih⟩
theorem dl_len (v : Nat → Nat) : ∀ k, (dl v k).length ≤ k
  | 0 => Nat.le_refl 0
  | k + 1 => by
    have ih := dl_len v k
    rw [dl]
    split
    · omega
    · rw [List.length_cons]; omega
theorem nd_sub : ∀ (A B : List Nat), A.Nodup → (∀ x, x ∈ A → x ∈ B) → A.length ≤ B.length
  | [], _, _, _ => Nat.zero_le _
  | a :: A, B, hA, hs => by
    have h2 := List.nodup_cons.mp hA
    have ha : a ∈ B := hs a (List.mem_cons_self)
    have ih := nd_sub A (B.erase a) h2.2 (fun x hx => by
      have ne : x ≠ a := fun z => h2.1 (z ▸ hx)
      exact (List.mem_erase_of_ne ne).mpr (hs x (List.mem_cons_of_mem _ hx)))
    rw [List.length_erase_of_mem ha] at ih
    have := List.length_pos_of_mem ha
    rw [List.length_cons]
    omega
/-- what an array has of a list, the latest first -/
def arr (m : am_Mm) (l : List Nat) : Prop := ∀ i, i < l.length → m.1 40 i = nI (l.getD (l.length - 1 - i) 0)
theorem getD_mem {l : List Nat} {i : Nat} (h : i < l.length) : l.getD i 0 ∈ l := by
  rw [List.getD_eq_getElem?_getD, List.getElem?_eq_getElem h]
  exact List.getElem_mem h
theorem hc_note {m : am_Mm} {l : List Nat} {x : Nat} (ha : arr m l) (hl : l.length < 18) (hb : ∀ y, y ∈ l → y < 2 ^ 27) (hx : x < 2 ^ 27) : (x ∈ l → f_C_noteLikeness (nI x) (nI l.length) m = some (nI l.length, m)) ∧ (¬ x ∈ l → f_C_noteLikeness (nI x) (nI l.length) m = some (nI (l.length + 1), am_pI m 40 l.length (nI x))) := by
  have L : ∀ t i f, i + t = l.length → t < f → ((∃ j, i ≤ j ∧ j < l.length ∧ l.getD (l.length - 1 - j) 0 = x) → f_C_noteLikeness_b2 f (nI x) (nI l.length) (nI i) m = some (nI l.length, m)) ∧ (¬ (∃ j, i ≤ j ∧ j < l.length ∧ l.getD (l.length - 1 - j) 0 = x) → f_C_noteLikeness_b2 f (nI x) (nI l.length) (nI i) m = some (nI (l.length + 1), am_pI m 40 l.length (nI x))) := by
    intro t
    induction t with
    | zero =>
      intro i f hi hf
      obtain ⟨f, rfl⟩ : ∃ z, f = z + 1 := ⟨f - 1, by omega⟩
      refine ⟨fun ⟨j, a, b, _⟩ => by omega, fun _ => ?_⟩
      rw [f_C_noteLikeness_b2, if_pos (nI_le (by omega) (by omega))]
      unfold f_C_noteLikeness_b34
      rw [if_neg (nI_pos (by omega)), if_pos (show nI l.length < Int32.ofNat 18 from nI_lt hl (by decide)), if_pos (am_in_nI hl (by omega)), ml_cl (by omega), nI_1]
    | succ t ih =>
      intro i f hi hf
      obtain ⟨f, rfl⟩ : ∃ z, f = z + 1 := ⟨f - 1, by omega⟩
      have bd := hb _ (getD_mem (l := l) (i := l.length - 1 - i) (by omega))
      rw [f_C_noteLikeness_b2, if_neg (nI_ge (by omega) (by omega)), if_neg (show ¬ Int32.ofNat 18 ≤ nI i from nI_ge (show i < 18 by omega) (by decide)), if_pos (am_in_nI (by omega) (by omega)), ml_cl (by omega), ha i (by omega)]
      by_cases y : l.getD (l.length - 1 - i) 0 = x
      · rw [if_pos (by rw [y])]
        exact ⟨fun _ => rfl, fun q => absurd ⟨i, Nat.le_refl _, by omega, y⟩ q⟩
      · rw [if_neg (fun z => y ((nI_eq (by omega) (by omega)).mp z)), nI_1]
        have e : (∃ j, i ≤ j ∧ j < l.length ∧ l.getD (l.length - 1 - j) 0 = x) ↔ (∃ j, i + 1 ≤ j ∧ j < l.length ∧ l.getD (l.length - 1 - j) 0 = x) := by
          constructor
          · rintro ⟨j, a, b, c⟩
            by_cases z : j = i
            · subst z; exact absurd c y
            · exact ⟨j, by omega, b, c⟩
          · rintro ⟨j, a, b, c⟩; exact ⟨j, by omega, b, c⟩
        rw [e]
        exact ih (i + 1) f (by omega) (by omega)
  have L0 := L l.length 0 am_F (by omega) (by show _ < 5000; omega)
  have e : x ∈ l ↔ ∃ j, 0 ≤ j ∧ j < l.length ∧ l.getD (l.length - 1 - j) 0 = x := by
    constructor
    · intro q
      obtain ⟨i, hi, h2⟩ := List.mem_iff_getElem.mp q
      refine ⟨l.length - 1 - i, Nat.zero_le _, by omega, ?_⟩
      rw [show l.length - 1 - (l.length - 1 - i) = i by omega, List.getD_eq_getElem?_getD, List.getElem?_eq_getElem hi, h2]; rfl
    · rintro ⟨j, _, b, c⟩
      rw [← c]; exact getD_mem (by omega)
  rw [e]
  exact L0
theorem arr_c {m : am_Mm} {l : List Nat} {x : Nat} (ha : arr m l) : arr (am_pI m 40 l.length (nI x)) (x :: l) := by
  intro i hi
  rw [List.length_cons] at hi ⊢
  by_cases z : i = l.length
  · subst z
    rw [ml_s, show l.length + 1 - 1 - l.length = 0 by omega]; rfl
  · rw [ml_o _ _ (by omega), ha i (by omega), show l.length + 1 - 1 - i = (l.length - 1 - i) + 1 by omega]; rfl
/-- a note more of a row of values -/
theorem hc_noteD {m : am_Mm} {v : Nat → Nat} {k : Nat} (ha : arr m (dl v k)) (hk : k < 18) (hb : ∀ j, v j < 2 ^ 27) : ∃ m', f_C_noteLikeness (nI (v k)) (nI (dl v k).length) m = some (nI (dl v (k + 1)).length, m') ∧ arr m' (dl v (k + 1)) ∧ ∀ p j, p ≠ 40 → m'.1 p j = m.1 p j := by
  have hl := dl_len v k
  have N := hc_note (m := m) (x := v k) ha (by omega) (fun y hy => by obtain ⟨j, _, e⟩ := (dl_mem v y k).mp hy; rw [← e]; exact hb j) (hb k)
  rw [dl]
  by_cases q : v k ∈ dl v k
  · rw [if_pos q]
    exact ⟨m, N.1 q, ha, fun _ _ _ => rfl⟩
  · rw [if_neg q]
    exact ⟨_, N.2 q, arr_c ha, fun p j z => ml_o _ _ (by omega)⟩
/-- the least of a row of values and another one -/
def isL (cu : Nat) (v : Nat → Nat) (k L : Nat) : Prop := (L = cu ∨ ∃ j, j < k ∧ L = v j) ∧ L ≤ cu ∧ ∀ j, j < k → L ≤ v j
theorem hc_least {m : am_Mm} {v : Nat → Nat} {k cu : Nat} (ha : arr m (dl v k)) (hk : k ≤ 18) (hb : ∀ j, v j < 2 ^ 27) (hcu : cu < 2 ^ 27) (e : m.1 13 3 = nI cu) : ∃ L, f_C_leastOf (nI (dl v k).length) m = some (nI L, m) ∧ isL cu v k L := by
  have hl := dl_len v k
  have bl : ∀ y, y ∈ dl v k → y < 2 ^ 27 := fun y hy => by obtain ⟨j, _, e⟩ := (dl_mem v y k).mp hy; rw [← e]; exact hb j
  have K : ∀ t i f L, i + t = (dl v k).length → t < f → L < 2 ^ 27 → (L = cu ∨ L ∈ dl v k) → L ≤ cu → (∀ j, j < i → L ≤ (dl v k).getD ((dl v k).length - 1 - j) 0) → ∃ L', f_C_leastOf_b10 f (nI (dl v k).length) (nI L) (nI i) m = some (nI L', m) ∧ (L' = cu ∨ L' ∈ dl v k) ∧ L' ≤ cu ∧ ∀ j, j < (dl v k).length → L' ≤ (dl v k).getD ((dl v k).length - 1 - j) 0 := by
    intro t
    induction t with
    | zero =>
      intro i f L hi hf h1 h2 h3 h4
      obtain ⟨f, rfl⟩ : ∃ z, f = z + 1 := ⟨f - 1, by omega⟩
      refine ⟨L, ?_, h2, h3, fun j hj => h4 j (by omega)⟩
      rw [f_C_leastOf_b10, if_pos (nI_le (by omega) (by omega))]
    | succ t ih =>
      intro i f L hi hf h1 h2 h3 h4
      obtain ⟨f, rfl⟩ : ∃ z, f = z + 1 := ⟨f - 1, by omega⟩
      have gm := getD_mem (l := dl v k) (i := (dl v k).length - 1 - i) (by omega)
      have bd := bl _ gm
      rw [f_C_leastOf_b10, if_neg (nI_ge (by omega) (by omega)), if_neg (show ¬ Int32.ofNat 18 ≤ nI i from nI_ge (show i < 18 by omega) (by decide)), if_pos (am_in_nI (by omega) (by omega)), ml_cl (by omega), ha i (by omega), nq_min _ _ (by omega) (by omega), nI_1]
      refine ih (i + 1) f _ (by omega) (by omega) (by omega) ?_ (by omega) (fun j hj => ?_)
      · rcases Nat.le_total L ((dl v k).getD ((dl v k).length - 1 - i) 0) with z | z
        · rw [Nat.min_eq_left z]; exact h2
        · rw [Nat.min_eq_right z]; exact Or.inr gm
      · by_cases z : j = i
        · subst z; exact Nat.min_le_right _ _
        · exact Nat.le_trans (Nat.min_le_left _ _) (h4 j (by omega))
  obtain ⟨L, r1, r2, r3, r4⟩ := K (dl v k).length 0 am_F cu (by omega) (by show _ < 5000; omega) hcu (Or.inl rfl) (Nat.le_refl _) (fun j hj => by omega)
  refine ⟨L, ?_, ?_, r3, fun j hj => ?_⟩
  · unfold f_C_leastOf
    rw [e]; exact r1
  · rcases r2 with q | q
    · exact Or.inl q
    · obtain ⟨j, hj, e⟩ := (dl_mem v L k).mp q
      exact Or.inr ⟨j, hj, e.symm⟩
  · have q := (dl_mem v (v j) k).mpr ⟨j, hj, rfl⟩
    obtain ⟨i, hi, h2⟩ := List.mem_iff_getElem.mp q
    have := r4 ((dl v k).length - 1 - i) (by omega)
    rw [show (dl v k).length - 1 - ((dl v k).length - 1 - i) = i by omega, List.getD_eq_getElem?_getD, List.getElem?_eq_getElem hi, h2] at this
    exact this
def cW (n cu j : Nat) : Nat := mw n (j % 2) (j / 2 % n) cu (cu_N n)
def mW (n cu k : Nat) : Nat := mw n (if k < n then 0 else 1) (k % n) cu (cu_N n)
theorem cW_lt {n cu : Nat} (h : 4 ≤ n) (h9 : n ≤ 9) (j : Nat) : cW n cu j < 2 ^ 27 := mw_lt h h9 (Nat.mod_lt _ (by omega)) (Nat.le_refl _)
theorem mW_lt {n cu : Nat} (h : 4 ≤ n) (h9 : n ≤ 9) (j : Nat) : mW n cu j < 2 ^ 27 := mw_lt h h9 (Nat.mod_lt _ (by omega)) (Nat.le_refl _)
theorem cW_mW {n cu j : Nat} (h : 4 ≤ n) (hj : j < 2 * n) : ∃ k, k < 2 * n ∧ mW n cu k = cW n cu j := by
  have h2 : j / 2 < n := by omega
  rcases (show j % 2 = 0 ∨ j % 2 = 1 by omega) with q | q
  · refine ⟨j / 2, by omega, ?_⟩
    unfold mW cW
    rw [if_pos h2, q]
  · refine ⟨j / 2 + n, by omega, ?_⟩
    unfold mW cW
    rw [if_neg (by omega), q, Nat.add_mod_right]
theorem mW_cW {n cu k : Nat} (h : 4 ≤ n) (hk : k < 2 * n) : ∃ j, j < 2 * n ∧ cW n cu j = mW n cu k := by
  by_cases q : k < n
  · refine ⟨2 * k, by omega, ?_⟩
    unfold mW cW
    rw [if_pos q, show 2 * k % 2 = 0 by omega, show 2 * k / 2 = k by omega]
  · refine ⟨2 * (k - n) + 1, by omega, ?_⟩
    unfold mW cW
    rw [if_neg q, show (2 * (k - n) + 1) % 2 = 1 by omega, show (2 * (k - n) + 1) / 2 = k - n by omega, show k = (k - n) + n by omega, Nat.add_mod_right, Nat.add_sub_cancel]
theorem dl_same {n cu : Nat} (h : 4 ≤ n) : (dl (cW n cu) (2 * n)).length = (dl (mW n cu) (2 * n)).length := by
  apply Nat.le_antisymm
  · refine nd_sub _ _ (dl_nd _ _) (fun x hx => ?_)
    obtain ⟨j, hj, e⟩ := (dl_mem _ _ _).mp hx
    obtain ⟨k, hk, e2⟩ := cW_mW (cu := cu) h hj
    exact (dl_mem _ _ _).mpr ⟨k, hk, by rw [e2, e]⟩
  · refine nd_sub _ _ (dl_nd _ _) (fun x hx => ?_)
    obtain ⟨j, hj, e⟩ := (dl_mem _ _ _).mp hx
    obtain ⟨k, hk, e2⟩ := mW_cW (cu := cu) h hj
    exact (dl_mem _ _ _).mpr ⟨k, hk, by rw [e2, e]⟩
theorem isL_one {n cu L L' : Nat} (h : 4 ≤ n) (h1 : isL cu (cW n cu) (2 * n) L) (h2 : isL cu (mW n cu) (2 * n) L') : L = L' := by
  obtain ⟨a1, a2, a3⟩ := h1
  obtain ⟨b1, b2, b3⟩ := h2
  have x : L ≤ L' := by
    rcases b1 with q | ⟨k, hk, q⟩
    · omega
    · obtain ⟨j, hj, e⟩ := mW_cW (cu := cu) h hk
      have := a3 j hj
      omega
  have y : L' ≤ L := by
    rcases a1 with q | ⟨k, hk, q⟩
    · omega
    · obtain ⟨j, hj, e⟩ := cW_mW (cu := cu) h hk
      have := b3 j hj
      omega
  omega
theorem hc_gath {n cu : Nat} {kd ow : Nat → Nat} {m : am_Mm} (V : vw m n cu kd ow) : ∃ m', f_C_gatherLikenesses m = some (nI (dl (cW n cu) (2 * n)).length, m') ∧ arr m' (dl (cW n cu) (2 * n)) ∧ ∀ p j, p ≠ 40 → m'.1 p j = m.1 p j := by
  obtain ⟨ok, hR, hF, hP⟩ := V
  have h4 := ok.1
  have h9 := ok.2.1
  have hcu := cu_V_lt h4 h9 ok.2.2.1
  have L : ∀ t r f (m0 : am_Mm), r + t = n → t < f → arr m0 (dl (cW n cu) (2 * r)) → (∀ p j, p ≠ 40 → m0.1 p j = m.1 p j) → ∃ m', f_C_gatherLikenesses_b4 f (nI (dl (cW n cu) (2 * r)).length) (nI r) m0 = some (nI (dl (cW n cu) (2 * n)).length, m') ∧ arr m' (dl (cW n cu) (2 * n)) ∧ ∀ p j, p ≠ 40 → m'.1 p j = m.1 p j := by
    intro t
    induction t with
    | zero =>
      intro r f m0 hr hf ha fr
      obtain ⟨f, rfl⟩ : ∃ z, f = z + 1 := ⟨f - 1, by omega⟩
      have hr : r = n := by omega
      subst hr
      refine ⟨m0, ?_, ha, fr⟩
      rw [f_C_gatherLikenesses_b4, fr _ _ (by omega), hF.1, if_pos (nI_le (Nat.le_refl _) (by omega))]
    | succ t ih =>
      intro r f m0 hr hf ha fr
      obtain ⟨f, rfl⟩ : ∃ z, f = z + 1 := ⟨f - 1, by omega⟩
      have ring : ∀ mm : am_Mm, (∀ p j, p ≠ 40 → mm.1 p j = m.1 p j) → rl_Ring mm.1 20 n := by
        intro mm fr
        have hR' := hR
        unfold rl_Ring at hR' ⊢
        simp (disch := omega) only [Nat.reduceAdd, fr]
        exact hR'
      have e0 : mw n 0 r cu (cu_N n) = cW n cu (2 * r) := by
        unfold cW
        rw [show 2 * r % 2 = 0 by omega, show 2 * r / 2 = r by omega, Nat.mod_eq_of_lt (by omega)]
      have e1 : mw n 1 r cu (cu_N n) = cW n cu (2 * r + 1) := by
        unfold cW
        rw [show (2 * r + 1) % 2 = 1 by omega, show (2 * r + 1) / 2 = r by omega, Nat.mod_eq_of_lt (show r < n by omega)]
      obtain ⟨m1, a1, a2, a3⟩ := hc_noteD ha (show 2 * r < 18 by omega) (cW_lt (cu := cu) h4 h9)
      have fr1 : ∀ p j, p ≠ 40 → m1.1 p j = m.1 p j := fun p j z => by rw [a3 p j z, fr p j z]
      obtain ⟨m2, b1, b2, b3⟩ := hc_noteD a2 (show 2 * r + 1 < 18 by omega) (cW_lt (cu := cu) h4 h9)
      have fr2 : ∀ p j, p ≠ 40 → m2.1 p j = m.1 p j := fun p j z => by rw [b3 p j z, fr1 p j z]
      obtain ⟨m', r1, r2⟩ := ih (r + 1) f m2 (by omega) (by omega) b2 fr2
      refine ⟨m', ?_, r2⟩
      have w0 := hc_mw (s := 0) h4 h9 (ring m0 fr) hcu (by omega) (show r < n by omega)
      have w1 := hc_mw (s := 1) h4 h9 (ring m1 fr1) hcu (by omega) (show r < n by omega)
      rw [e0] at w0
      rw [e1] at w1
      rw [← r1, f_C_gatherLikenesses_b4, fr _ _ (by omega), hF.1, if_neg (nI_ge (by omega) (by omega)), fr _ _ (by omega), hF.2.1, nq0, w0, Option.bind_some, a1, Option.bind_some]
      dsimp only
      rw [fr1 _ _ (by omega), hF.2.1, nq1, w1, Option.bind_some, b1, Option.bind_some, nI_add]
      rfl
  obtain ⟨m', r1, r2, r3⟩ := L n 0 am_F m (by omega) (by show n < 5000; omega) (fun i hi => absurd hi (Nat.not_lt_zero i)) (fun _ _ _ => rfl)
  exact ⟨m', r1, r2, r3⟩
theorem hm_likes {n cu : Nat} {kd ow : Nat → Nat} {m : am_Mm} {x1 : Int32} (ok : rl_OK n cu kd ow) (hP : rl_Pol m.1 67 0 n cu kd ow) : ∃ L m', f_M_likes_b43 am_F x1 (nI n) (nI cu) (nI 0) (nI 0) m = some (if x1 = 0 then nI L else nI (dl (mW n cu) (2 * n)).length, m') ∧ isL cu (mW n cu) (2 * n) L ∧ ∀ p j, p ≠ 73 → m'.1 p j = m.1 p j := by
  have h4 := ok.1
  have h9 := ok.2.1
  have hcu := cu_V_lt h4 h9 ok.2.2.1
  obtain ⟨p0, p1⟩ := rl_Pol_0 hP
  have n0 : ¬ nI n = (0 : Int32) := fun z => by have := (nI_eq (b := 0) (by omega) (by omega)).mp z; omega
  have wl := mW_lt (cu := cu) h4 h9
  -- is it new?
  have N0 : ∀ k43 (x3 x4 : Int32) k (m0 : am_Mm), k < 18 → ∀ t j f, j + t = k → t < f → f_M_likes_b112 k43 f x1 (nI n) x3 x4 (nI k) (nI 0) (nI j) m0 = f_M_likes_b166 k43 x1 (nI n) x3 (nI k) x4 (0 : Int32) m0 := by
    intro k43 x3 x4 k m0 hk t
    induction t with
    | zero =>
      intro j f hj hf
      obtain ⟨f, rfl⟩ : ∃ z, f = z + 1 := ⟨f - 1, by omega⟩
      rw [f_M_likes_b112, if_pos (nI_le (by omega) (by omega)), if_pos e00]
    | succ t ih =>
      intro j f hj hf
      obtain ⟨f, rfl⟩ : ∃ z, f = z + 1 := ⟨f - 1, by omega⟩
      rw [f_M_likes_b112, if_neg (nI_ge (by omega) (by omega)), if_pos e00]
      unfold f_M_likes_b146
      rw [nI_1]
      exact ih (j + 1) f (by omega) (by omega)
  have N1 : ∀ k43 (x3 x4 : Int32) k (m0 : am_Mm), k < 18 → (∀ j, j ≤ k → m0.1 73 j = nI (mW n cu j)) → ∀ t j f, j + t = k → t < f → ((∀ i, j ≤ i → i < k → mW n cu i ≠ mW n cu k) → f_M_likes_b112 k43 f x1 (nI n) x3 x4 (nI k) (nI 1) (nI j) m0 = f_M_likes_b166 k43 x1 (nI n) x3 (nI k) x4 (1 : Int32) m0) ∧ (¬ (∀ i, j ≤ i → i < k → mW n cu i ≠ mW n cu k) → f_M_likes_b112 k43 f x1 (nI n) x3 x4 (nI k) (nI 1) (nI j) m0 = f_M_likes_b166 k43 x1 (nI n) x3 (nI k) x4 (0 : Int32) m0) := by
    intro k43 x3 x4 k m0 hk ha t
    induction t with
    | zero =>
      intro j f hj hf
      obtain ⟨f, rfl⟩ : ∃ z, f = z + 1 := ⟨f - 1, by omega⟩
      refine ⟨fun _ => ?_, fun q => absurd (fun i q1 q2 => absurd q1 (by omega)) q⟩
      rw [f_M_likes_b112, if_pos (nI_le (by omega) (by omega)), if_neg ne01]
    | succ t ih =>
      intro j f hj hf
      obtain ⟨f, rfl⟩ : ∃ z, f = z + 1 := ⟨f - 1, by omega⟩
      have b1 := wl j
      have b2 := wl k
      rw [f_M_likes_b112, if_neg (nI_ge (by omega) (by omega)), if_neg ne01, if_pos (am_in_nI (by omega) (by omega)), if_pos (am_in_nI (by omega) (by omega)), ml_cl (by omega), ml_cl (by omega), ha j (by omega), ha k (Nat.le_refl _)]
      unfold f_M_likes_b146
      rw [nI_1]
      by_cases y : mW n cu j = mW n cu k
      · rw [if_pos (by rw [y])]
        exact ⟨fun q => absurd y (q j (Nat.le_refl _) (by omega)), fun _ => N0 k43 x3 x4 k m0 hk t (j + 1) f (by omega) (by omega)⟩
      · rw [if_neg (fun z => y ((nI_eq (by omega) (by omega)).mp z))]
        have e : (∀ i, j ≤ i → i < k → mW n cu i ≠ mW n cu k) ↔ (∀ i, j + 1 ≤ i → i < k → mW n cu i ≠ mW n cu k) := by
          refine ⟨fun q i a => q i (by omega), fun q i a b => ?_⟩
          by_cases z : i = j
          · subst z; exact y
          · exact q i (by omega) b
        rw [e]
        exact ih (j + 1) f (by omega) (by omega)
  have K : ∀ t k f L (m0 : am_Mm), k + t = 2 * n → t < f → isL cu (mW n cu) k L → (∀ j, j < k → m0.1 73 j = nI (mW n cu j)) → (∀ p j, p ≠ 73 → m0.1 p j = m.1 p j) → ∃ L' m', f_M_likes_b43 f x1 (nI n) (nI L) (nI (dl (mW n cu) k).length) (nI k) m0 = some (if x1 = 0 then nI L' else nI (dl (mW n cu) (2 * n)).length, m') ∧ isL cu (mW n cu) (2 * n) L' ∧ ∀ p j, p ≠ 73 → m'.1 p j = m.1 p j := by
    intro t
    induction t with
    | zero =>
      intro k f L m0 hk hf hL ha fr
      obtain ⟨f, rfl⟩ : ∃ z, f = z + 1 := ⟨f - 1, by omega⟩
      have hk : k = 2 * n := by omega
      subst hk
      refine ⟨L, m0, ?_, hL, fr⟩
      rw [f_M_likes_b43, nq2, pk_mul, if_pos (nI_le (Nat.le_refl _) (by omega))]
      by_cases z : x1 = 0
      · rw [if_pos z, if_pos z]
      · rw [if_neg z, if_neg z]
    | succ t ih =>
      intro k f L m0 hk hf hL ha fr
      obtain ⟨f, rfl⟩ : ∃ z, f = z + 1 := ⟨f - 1, by omega⟩
      have hkm := Nat.mod_lt k (show 0 < n by omega)
      have hl := dl_len (mW n cu) k
      have b2 := wl k
      have hLl : L < 2 ^ 27 := by have := hL.2.1; omega
      have T : ∀ s : Nat, s < 2 → mW n cu k = mw n s (k % n) cu (cu_N n) → ∃ L' m', f_M_likes_b79 (f_M_likes_b43 f) x1 (nI n) (nI L) (nI (dl (mW n cu) k).length) (nI k) (nI k) (nI n) (nI cu) (nI (k % n)) (nI s) m0 = some (if x1 = 0 then nI L' else nI (dl (mW n cu) (2 * n)).length, m') ∧ isL cu (mW n cu) (2 * n) L' ∧ ∀ p j, p ≠ 73 → m'.1 p j = m.1 p j := by
        intro s hs e
        have ha1 : ∀ j, j ≤ k → (am_pI m0 73 k (nI (mW n cu k))).1 73 j = nI (mW n cu j) := fun j hj => by
          by_cases z : j = k
          · subst z; exact ml_s _ _ _ _
          · rw [ml_o _ _ (by omega)]; exact ha j (by omega)
        have fr1 : ∀ p j, p ≠ 73 → (am_pI m0 73 k (nI (mW n cu k))).1 p j = m.1 p j := fun p j z => by rw [ml_o _ _ (by omega)]; exact fr p j z
        have go : ∀ L1, isL cu (mW n cu) (k + 1) L1 → ∃ L' m', f_M_likes_b105 (f_M_likes_b43 f) x1 (nI n) (nI (dl (mW n cu) k).length) (nI k) (nI L1) (am_pI m0 73 k (nI (mW n cu k))) = some (if x1 = 0 then nI L' else nI (dl (mW n cu) (2 * n)).length, m') ∧ isL cu (mW n cu) (2 * n) L' ∧ ∀ p j, p ≠ 73 → m'.1 p j = m.1 p j := by
          intro L1 hL1
          unfold f_M_likes_b105
          have N := N1 (f_M_likes_b43 f) (nI L1) (nI (dl (mW n cu) k).length) k (am_pI m0 73 k (nI (mW n cu k))) (by omega) ha1 k 0 am_F (by omega) (by show _ < 5000; omega)
          have mm : mW n cu k ∈ dl (mW n cu) k ↔ ¬ (∀ i, 0 ≤ i → i < k → mW n cu i ≠ mW n cu k) := by
            rw [dl_mem]
            constructor
            · rintro ⟨j, hj, e⟩ q; exact q j (Nat.zero_le _) hj e
            · intro q
              apply Classical.byContradiction
              intro w
              exact q (fun i _ hi z => w ⟨i, hi, z⟩)
          have R := ih (k + 1) f L1 (am_pI m0 73 k (nI (mW n cu k))) (by omega) (by omega) hL1 (fun j hj => ha1 j (by omega)) fr1
          rw [show (1 : Int32) = nI 1 from rfl, show (0 : Int32) = nI 0 from rfl] at *
          by_cases q : mW n cu k ∈ dl (mW n cu) k
          · rw [N.2 (mm.mp q)]
            unfold f_M_likes_b166
            rw [nI_add, nI_1]
            rw [show dl (mW n cu) (k + 1) = dl (mW n cu) k by rw [dl, if_pos q]] at R
            exact R
          · rw [N.1 (Classical.byContradiction fun w => q (mm.mpr w))]
            unfold f_M_likes_b166
            rw [nI_add, nI_1]
            rw [show dl (mW n cu) (k + 1) = mW n cu k :: dl (mW n cu) k by rw [dl, if_neg q], List.length_cons] at R
            exact R
        unfold f_M_likes_b79
        rw [hm_mw h4 h9 hcu hs hkm, Option.bind_some, if_pos (am_in_nI (by omega) (by omega)), if_pos (am_in_nI (by omega) (by omega)), if_pos (am_in_nI (by omega) (by omega)), ml_cl (by omega), ← e]
        dsimp only
        rw [ml_s]
        by_cases z : L ≤ mW n cu k
        · rw [if_pos (nI_le z (by omega))]
          refine go L ⟨?_, hL.2.1, fun j hj => ?_⟩
          · rcases hL.1 with q | ⟨j, hj, q⟩
            · exact Or.inl q
            · exact Or.inr ⟨j, by omega, q⟩
          · by_cases w : j = k
            · subst w; exact z
            · exact hL.2.2 j (by omega)
        · rw [if_neg (nI_ge (by omega) (by omega))]
          refine go (mW n cu k) ⟨Or.inr ⟨k, by omega, rfl⟩, by have := hL.2.1; omega, fun j hj => ?_⟩
          by_cases w : j = k
          · subst w; exact Nat.le_refl _
          · have := hL.2.2 j (by omega); omega
      have c1 : m0.1 67 1 = nI cu := by rw [fr _ _ (by omega)]; exact p1
      rw [f_M_likes_b43, nq2, pk_mul, if_neg (nI_ge (by omega) (by omega)), if_neg n0, c1, nq_rem (by omega) (by omega) (by omega)]
      by_cases z : k < n
      · rw [if_pos (nI_lt z (by omega))]
        exact T 0 (by omega) (by unfold mW; rw [if_pos z])
      · rw [if_neg (nI_nlt (by omega) (by omega))]
        exact T 1 (by omega) (by unfold mW; rw [if_neg z])
  obtain ⟨L, m', r1, r2, r3⟩ := K (2 * n) 0 am_F cu m (by omega) (by show _ < 5000; omega) ⟨Or.inl rfl, Nat.le_refl _, fun j hj => absurd hj (Nat.not_lt_zero j)⟩ (fun j hj => absurd hj (Nat.not_lt_zero j)) (fun _ _ _ => rfl)
  exact ⟨L, m', r1, r2, r3⟩
theorem sm_40 {m m' : am_Mm} (h : ∀ p k, p ≠ 40 → m'.1 p k = m.1 p k) : sm m m' := fun p k q => h p k (fun z => by
  subst z
  rcases q with q | q | q | q | q | q
  · unfold rl_StatF at q; omega
  · unfold rl_RowsF at q; omega
  · unfold rl_TapeF at q; omega
  · unfold rl_AskF at q; omega
  · unfold rl_PolyF at q; omega
  · unfold rl_ImgF at q; omega)
theorem sm_73 {m m' : am_Mm} (h : ∀ p k, p ≠ 73 → m'.1 p k = m.1 p k) : sm m m' := fun p k q => h p k (fun z => by
  subst z
  rcases q with q | q | q | q | q | q
  · unfold rl_StatF at q; omega
  · unfold rl_RowsF at q; omega
  · unfold rl_TapeF at q; omega
  · unfold rl_AskF at q; omega
  · unfold rl_PolyF at q; omega
  · unfold rl_ImgF at q; omega)
theorem pz_likes : ∀ a0 : Int32, am_Pz rl_All (f_C_likes a0) (f_M_likes a0) := by
  intro x m h
  unfold f_C_likes
  rcases vw_of h with hn | ⟨n, cu, kd, ow, V⟩
  · rw [hc_there hn.1 (by omega)]
    refine ⟨_, m, m, rfl, ?_, h⟩
    unfold f_M_likes
    rw [hm_there hn.2.2.1 (by omega)]; rfl
  have V0 := V
  obtain ⟨ok, hR, hF, hP⟩ := V
  have h4 := ok.1
  have h9 := ok.2.1
  have hcu := cu_V_lt h4 h9 ok.2.2.1
  rw [hc_th1 hF.1 h4 h9, Option.bind_some, if_neg ne01]
  by_cases g : x = 0 ∨ x = 1
  rotate_left
  · refine ⟨-1000001, m, m, ?_, ?_, h⟩
    · rw [if_neg (fun z => g (Or.inl z)), if_neg (fun z => g (Or.inr z))]
    · unfold f_M_likes
      rw [hm_th1 hP.1 h4 h9, Option.bind_some, if_neg ne01, ml_in0 0 1 0 1 rfl rfl (fun q => g ?_)]
      · rfl
      · have z1 := q.1
        have z2 := q.2
        rw [fa_le] at z1 z2
        have o0 : (0 : Int32).toInt = 0 := rfl
        have o1 : (1 : Int32).toInt = 1 := rfl
        rcases (show x.toInt = 0 ∨ x.toInt = 1 by omega) with w | w
        · exact Or.inl (by rw [fa_eq, o0]; exact w)
        · exact Or.inr (by rw [fa_eq, o1]; exact w)
  obtain ⟨m1, a1, a2, a3⟩ := hc_gath V0
  have g67 : ∀ k, m1.1 67 k = m.1 67 k := fun k => a3 _ _ (by omega)
  have P1 : rl_Pol m1.1 67 0 n cu kd ow := rl_Pol_c h9 (fun k _ => g67 _) hP
  obtain ⟨p0, p1⟩ := rl_Pol_0 P1
  obtain ⟨Lc, b1, b2⟩ := hc_least a2 (show 2 * n ≤ 18 by omega) (cW_lt (cu := cu) h4 h9) hcu (by rw [a3 _ _ (by omega)]; exact hF.2.1)
  obtain ⟨Lm, m2, d1, d2, d3⟩ := hm_likes (x1 := x) ok P1
  have eL := isL_one h4 b2 d2
  subst eL
  have C : f_C_likes_b22 x m = some (if x = 0 then nI Lc else nI (dl (mW n cu) (2 * n)).length, m1) := by
    unfold f_C_likes_b22
    rw [a1, Option.bind_some]
    by_cases z : x = 0
    · rw [if_pos z, if_pos z, b1]; rfl
    · rw [if_neg z, if_neg z, dl_same h4]
  refine ⟨if x = 0 then nI Lc else nI (dl (mW n cu) (2 * n)).length, m1, m2, ?_, ?_, sm_All (sm_t (sm_40 a3) (sm_73 d3)) h⟩
  · rcases g with g | g
    · rw [if_pos g]; exact C
    · rw [if_neg (by rw [g]; decide), if_pos g]; exact C
  · unfold f_M_likes
    rw [hm_th1 p0 h4 h9, Option.bind_some, if_neg ne01, ml_in1 0 1 0 1 rfl rfl (by rcases g with g | g <;> rw [g] <;> decide), Option.bind_some, if_neg ml_n10]
    dsimp only
    rw [p0, p1]
    exact d1
