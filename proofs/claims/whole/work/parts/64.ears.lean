/-! ===== rows read back, ear by ear ===== -/
def tb (L c : Nat) : Bool := Nat.beq (Nat.mod (Nat.shiftRight L c) 2) 1
theorem tbt (L c : Nat) : tb L c = L.testBit c := by
  unfold tb
  rw [Nat.testBit_eq_decide_div_mod_eq]
  show Nat.beq ((L >>> c) % 2) 1 = _
  rw [Nat.shiftRight_eq_div_pow]
  by_cases h : L / 2 ^ c % 2 = 1
  · rw [decide_eq_true h, h]; rfl
  · rw [decide_eq_false h]
    exact Bool.eq_false_iff.mpr (fun q => h (Nat.eq_of_beq_eq_true q))
/-- the next one that is left, by steps of s -/
def bsd (n s L : Nat) : Nat → Nat → Nat
  | 0, d => d
  | t + 1, d => bif tb L (rt n s d) then rt n s d else bsd n s L t (rt n s d)
def bsm (n s L c : Nat) : Nat → Nat → Nat
  | 0, d => d
  | t + 1, d => bif tb L d then d else bif Nat.beq d c then d else bsm n s L c t (rt n s d)
def sd (n L x y : Nat) : Bool := (List.range n).all (fun e => !tb L e || (Nat.ble x e && Nat.ble e y)) || (List.range n).all (fun e => !tb L e || (Nat.ble e x || Nat.ble y e))
def ek2 (n L M c a b : Nat) : Bool := Nat.blt a n && Nat.blt b n && tb M a && tb M b && may n (min a b) (max a b) && sd n M (min a b) (max a b) && !sd n L (min a b) (max a b) && Nat.beq (bsm n (n - 1) L c n (rt n (n - 1) c)) a && Nat.beq (bsm n 1 L c n (rt n 1 c)) b && Nat.beq (pc M n + 1) (pc L n)
def ek (n L c : Nat) : Bool := ek2 n L (nd L (2 ^ c)) c (bsd n (n - 1) (nd L (2 ^ c)) n c) (bsd n 1 (nd L (2 ^ c)) n c)
theorem ek_g : ((List.range 10).all fun n => bif Nat.ble 4 n then (List.range (2 ^ n)).all fun L => bif Nat.ble 4 (pc L n) then (List.range n).all fun c => bif tb L c then ek n L c else true else true else true) = true := by decide +kernel
theorem ek_e {n L c : Nat} (h : 4 ≤ n) (h9 : n ≤ 9) (hL : L < 2 ^ n) (hp : 4 ≤ pc L n) (hc : c < n) (hb : L.testBit c = true) : ek n L c = true := by
  have h1 := al ek_g (show n < 10 by omega)
  rw [show Nat.ble 4 n = true from Nat.ble_eq.mpr h] at h1
  have h2 := al h1 hL
  rw [show Nat.ble 4 (pc L n) = true from Nat.ble_eq.mpr hp] at h2
  have h3 := al h2 hc
  rw [tbt, hb] at h3
  exact h3
def ea (L : Nat) (w : Nat → Int32) (c : Nat) : Bool := L.testBit c && decide (w c = 1)
def rb (n : Nat) : Nat → Nat → (Nat → Int32) → Nat → Option Nat
  | 0, L, w, cu => if ∀ c, c < n → L.testBit c = true → w c = 1 then some cu else none
  | g + 1, L, w, cu =>
    if fa_first (ea L w) n < n then
      if 1 < w (bsd n (n - 1) (nd L (2 ^ fa_first (ea L w) n)) n (fa_first (ea L w) n)) ∧ 1 < w (bsd n 1 (nd L (2 ^ fa_first (ea L w) n)) n (fa_first (ea L w) n)) then
        rb n g (nd L (2 ^ fa_first (ea L w) n)) (upd (upd w (bsd n (n - 1) (nd L (2 ^ fa_first (ea L w) n)) n (fa_first (ea L w) n)) (w (bsd n (n - 1) (nd L (2 ^ fa_first (ea L w) n)) n (fa_first (ea L w) n)) - 1)) (bsd n 1 (nd L (2 ^ fa_first (ea L w) n)) n (fa_first (ea L w) n)) (w (bsd n 1 (nd L (2 ^ fa_first (ea L w) n)) n (fa_first (ea L w) n)) - 1)) (cu ||| 2 ^ nb n (min (bsd n (n - 1) (nd L (2 ^ fa_first (ea L w) n)) n (fa_first (ea L w) n)) (bsd n 1 (nd L (2 ^ fa_first (ea L w) n)) n (fa_first (ea L w) n))) (max (bsd n (n - 1) (nd L (2 ^ fa_first (ea L w) n)) n (fa_first (ea L w) n)) (bsd n 1 (nd L (2 ^ fa_first (ea L w) n)) n (fa_first (ea L w) n))))
      else none
    else none
/-- what an ear gives -/
theorem ek_all {n L c a b M : Nat} (h : 4 ≤ n) (h9 : n ≤ 9) (hL : L < 2 ^ n) (hp : 4 ≤ pc L n) (hc : c < n) (hb : L.testBit c = true) (hM : M = nd L (2 ^ c)) (ha : a = bsd n (n - 1) M n c) (hbb : b = bsd n 1 M n c) :
    a < n ∧ b < n ∧ M.testBit a = true ∧ M.testBit b = true ∧ may n (min a b) (max a b) = true ∧ sd n M (min a b) (max a b) = true ∧ sd n L (min a b) (max a b) = false ∧ bsm n (n - 1) L c n (rt n (n - 1) c) = a ∧ bsm n 1 L c n (rt n 1 c) = b ∧ pc M n + 1 = pc L n := by
  have e := ek_e h h9 hL hp hc hb
  unfold ek at e
  rw [← hM, ← ha, ← hbb] at e
  unfold ek2 at e
  simp only [Bool.and_eq_true, Bool.not_eq_true', tbt] at e
  obtain ⟨⟨⟨⟨⟨⟨⟨⟨⟨e1, e2⟩, e3⟩, e4⟩, e5⟩, e6⟩, e7⟩, e8⟩, e9⟩, e10⟩ := e
  have lt : ∀ x y : Nat, Nat.blt x y = true → x < y := fun x y q => Nat.lt_of_lt_of_le (Nat.lt_succ_self x) (Nat.ble_eq.mp q)
  exact ⟨lt _ _ e1, lt _ _ e2, e3, e4, e5, e6, e7, Nat.eq_of_beq_eq_true e8, Nat.eq_of_beq_eq_true e9, Nat.eq_of_beq_eq_true e10⟩
theorem ml_pL (m : am_Mm) (p k : Nat) (x : Int64) (q j : Nat) : (am_pL m p k x).2 q j = if q = p ∧ j = k then x else m.2 q j := by
  unfold am_pL va_up vp_updL
  by_cases h1 : q = p
  · subst h1
    by_cases h2 : j = k
    · subst h2; simp
    · simp [h2]
  · simp [h1]
theorem ml_is1 (x : Int32) : (lg_cmp x.toInt64 (1 : Int64) = (0 : Int32)) ↔ x = 1 := by
  rw [lg_cmp_eq, show (1 : Int64) = (1 : Int32).toInt64 from rfl, fa_wide_eq]
theorem ml_sub1 (x : Int32) : (x.toInt64 - (1 : Int64)).toInt = x.toInt - 1 := by
  have r := fb_rng x
  have o1 : (1 : Int64).toInt = 1 := rfl
  rw [fb_subL (by rw [Int32.toInt_toInt64, o1]; omega) (by rw [Int32.toInt_toInt64, o1]; omega), Int32.toInt_toInt64, o1]
theorem ml_less {x : Int32} (h : 1 < x) : x.toInt64 - (1 : Int64) = (x - 1).toInt64 := by
  have r := fb_rng x
  have o1 : (1 : Int32).toInt = 1 := rfl
  rw [fa_lt, o1] at h
  rw [fa_eq64, ml_sub1, Int32.toInt_toInt64, fb_subI (by rw [o1]; omega) (by rw [o1]; omega), o1]
theorem ml_pos1 (x : Int32) : (lg_cmp (x.toInt64 - (1 : Int64)) (0 : Int64) ≤ (0 : Int32)) ↔ ¬ 1 < x := by
  have o0 : (0 : Int64).toInt = 0 := rfl
  have o1 : (1 : Int32).toInt = 1 := rfl
  have q : (0 < lg_cmp (x.toInt64 - (1 : Int64)) (0 : Int64)) ↔ 1 < x := by
    rw [lg_cmp_gt, fa_lt64, ml_sub1, o0, fa_lt, o1]; omega
  rw [← q]
  constructor
  · exact fun z => ml_nlt_of_le z
  · exact fun z => ml_le_of_nlt z
theorem hc_less {m : am_Mm} {a : Nat} {x : Int32} (ha : a < 9) (e : m.2 34 a = x.toInt64) : f_Ears_countsLess (nI a) m = some (nI (if 1 < x then 1 else 0), am_pL m 34 a (x.toInt64 - (1 : Int64))) := by
  unfold f_Ears_countsLess
  have i9 := am_in_nI ha (show 9 < 2 ^ 31 by decide)
  rw [if_pos i9, if_pos i9, if_pos i9, ml_cl (by omega), e, ml_pL, if_pos (show (34 : Nat) = 34 ∧ a = a from ⟨rfl, rfl⟩)]
  by_cases q : 1 < x
  · rw [if_neg (show ¬ lg_cmp (x.toInt64 - (1 : Int64)) (0 : Int64) ≤ (0 : Int32) by rw [ml_pos1]; exact fun z => z q), if_pos q]; rfl
  · rw [if_pos (show lg_cmp (x.toInt64 - (1 : Int64)) (0 : Int64) ≤ (0 : Int32) by rw [ml_pos1]; exact q), if_neg q]; rfl
theorem hc_left {m : am_Mm} {L c : Nat} (e : m.1 33 1 = nI L) (hL : L < 2 ^ 31) (hc : c < 32) : f_Ears_isLeft (nI c) m = some (nI (if L.testBit c then 1 else 0), m) := by
  unfold f_Ears_isLeft
  rw [e, nq1, nq0]
  simp only [nq_bit1 hL hc]
  by_cases q : L.testBit c = true
  · rw [if_pos q, if_pos q]
  · rw [if_neg q, if_neg q]
theorem hc_fear {m : am_Mm} {n L : Nat} {w : Nat → Int32} (h9 : n ≤ 9) (e1 : m.1 33 1 = nI L) (hL : L < 2 ^ 31) (e2 : m.1 33 2 = nI n) (ew : ∀ c, c < n → m.2 34 c = (w c).toInt64) : f_Ears_firstEar m = some (if fa_first (ea L w) n < n then nI (fa_first (ea L w) n) else -1, m) := by
  have L0 : ∀ t k f, k + t = n → t < f → k ≤ fa_first (ea L w) n → f_Ears_firstEar_b2 f (nI k) m = some (if fa_first (ea L w) n < n then nI (fa_first (ea L w) n) else -1, m) := by
    intro t
    induction t with
    | zero =>
      intro k f hk hf hF
      obtain ⟨f, rfl⟩ : ∃ z, f = z + 1 := ⟨f - 1, by omega⟩
      rw [f_Ears_firstEar_b2, e2, if_pos (nI_le (by omega) (by omega)), if_neg (by omega)]
    | succ t ih =>
      intro k f hk hf hF
      obtain ⟨f, rfl⟩ : ∃ z, f = z + 1 := ⟨f - 1, by omega⟩
      rw [f_Ears_firstEar_b2, e2, if_neg (nI_ge (by omega) (by omega)), hc_left e1 hL (by omega), Option.bind_some]
      unfold f_Ears_firstEar_b31
      by_cases q : k = fa_first (ea L w) n
      · have y := fa_first_yes (ea L w) n (by omega)
        rw [← q] at y
        unfold ea at y
        rw [Bool.and_eq_true, decide_eq_true_eq] at y
        rw [if_pos y.1, if_neg ne01, if_pos (am_in_nI (by omega) (by omega)), ml_cl (by omega), ew k (by omega), if_pos ((ml_is1 _).mpr y.2), ← q, if_pos (by omega)]
      · have y := fa_first_no (ea L w) n k (by omega)
        unfold ea at y
        rw [nI_1]
        by_cases z : L.testBit k = true
        · rw [z, Bool.true_and, decide_eq_false_iff_not] at y
          rw [if_pos z, if_neg ne01, if_pos (am_in_nI (by omega) (by omega)), ml_cl (by omega), ew k (by omega), if_neg (fun v => y ((ml_is1 _).mp v))]
          exact ih (k + 1) f (by omega) (by omega) (by omega)
        · rw [if_neg z, if_pos e00]
          exact ih (k + 1) f (by omega) (by omega) (by omega)
  exact L0 n 0 am_F (by omega) (by show n < 5000; omega) (Nat.zero_le _)
theorem hm_fear {m : am_Mm} {n L : Nat} {w : Nat → Int32} (h9 : n ≤ 9) (hL : L < 2 ^ n) (ew : ∀ c, c < n → m.1 72 c = w c) : f_M_firstEar (nI L) m = some (nI (if fa_first (ea L w) n < n then fa_first (ea L w) n else 9), m) := by
  have hle := fa_first_le (ea L w) n
  have p9 := pw9 h9
  have L0 : ∀ t k f, k + t = 9 → t < f → (k ≤ fa_first (ea L w) n ∨ n ≤ fa_first (ea L w) n) → f_M_firstEar_b2 f (nI L) (nI k) m = some (nI (if fa_first (ea L w) n < n then fa_first (ea L w) n else 9), m) := by
    intro t
    induction t with
    | zero =>
      intro k f hk hf hF
      obtain ⟨f, rfl⟩ : ∃ z, f = z + 1 := ⟨f - 1, by omega⟩
      have hk : k = 9 := by omega
      subst hk
      rw [f_M_firstEar_b2, if_pos (show (9 : Int32) ≤ nI 9 by decide), if_neg (by omega)]
    | succ t ih =>
      intro k f hk hf hF
      obtain ⟨f, rfl⟩ : ∃ z, f = z + 1 := ⟨f - 1, by omega⟩
      rw [f_M_firstEar_b2, if_neg (show ¬ (9 : Int32) ≤ nI k from nI_ge (show k < 9 by omega) (by decide))]
      unfold f_M_firstEar_b23
      by_cases kn : k < n
      · by_cases q : k = fa_first (ea L w) n
        · have y := fa_first_yes (ea L w) n (by omega)
          rw [← q] at y
          unfold ea at y
          rw [Bool.and_eq_true, decide_eq_true_eq] at y
          rw [nq_has1 (by omega) (by omega) y.1, Option.bind_some, if_neg ne01, if_pos (am_in_nI (by omega) (by omega)), ml_cl (by omega), ew k (by omega), if_pos y.2, ← q, if_pos (by omega)]
        · have y := fa_first_no (ea L w) n k (by omega)
          unfold ea at y
          by_cases z : L.testBit k = true
          · rw [z, Bool.true_and, decide_eq_false_iff_not] at y
            rw [nq_has1 (by omega) (by omega) z, Option.bind_some, if_neg ne01, if_pos (am_in_nI (by omega) (by omega)), ml_cl (by omega), ew k (by omega), if_neg y, nI_1]
            exact ih (k + 1) f (by omega) (by omega) (by omega)
          · rw [nq_has0 (by omega) (by omega) z, Option.bind_some, if_pos e00, nI_1]
            exact ih (k + 1) f (by omega) (by omega) (by omega)
      · have z : ¬ L.testBit k = true := by
          rw [Nat.testBit_lt_two_pow (Nat.lt_of_lt_of_le hL (Nat.pow_le_pow_right (by omega) (by omega)))]; decide
        rw [nq_has0 (by omega) (by omega) z, Option.bind_some, if_pos e00, nI_1]
        exact ih (k + 1) f (by omega) (by omega) (by omega)
  exact L0 9 0 am_F (by omega) (by show 9 < 5000; omega) (by omega)
theorem rt_lt {n s d : Nat} (hd : d < n) (hs : s < n) : rt n s d < n := by unfold rt; split <;> omega
theorem hc_bs {m : am_Mm} {n L c s : Nat} (h9 : n ≤ 9) (e1 : m.1 33 1 = nI L) (hL : L < 2 ^ 31) (e2 : m.1 33 2 = nI n) (hs : s < n) (hc : c < n) (hb : L.testBit c = false) (hf : L.testBit (bsd n s L n c) = true) : f_Ears_beside (nI c) (nI s) m = some (nI (bsd n s L n c), m) := by
  have L0 : ∀ t d k f, k + t = n → t < f → d < n → L.testBit d = false → L.testBit (bsd n s L t d) = true → f_Ears_beside_b5 f (nI c) (nI s) (nI d) (nI k) m = some (nI (bsd n s L t d), m) := by
    intro t
    induction t with
    | zero =>
      intro d k f hk hf hd z1 z2
      rw [bsd, z1] at z2; cases z2
    | succ t ih =>
      intro d k f hk hf hd z1 z2
      obtain ⟨f, rfl⟩ : ∃ z, f = z + 1 := ⟨f - 1, by omega⟩
      have hr := rt_lt hd hs
      have e : f_Ears_beside_b5 (f + 1) (nI c) (nI s) (nI d) (nI k) m = f_Ears_beside_b36 (f_Ears_beside_b5 f) (nI c) (nI s) (nI k) (nI (rt n s d)) m := by
        rw [f_Ears_beside_b5, e2, if_neg (nI_ge (by omega) (by omega)), nI_add]
        unfold rt
        by_cases q : d + s < n
        · rw [if_pos q, if_pos (nI_lt q (by omega))]
        · rw [if_neg q, if_neg (nI_nlt (by omega) (by omega)), pk_sub (by omega)]
      rw [e]
      unfold f_Ears_beside_b36
      rw [bsd, tbt] at z2 ⊢
      rw [hc_left e1 hL (by omega), Option.bind_some]
      by_cases q : L.testBit (rt n s d) = true
      · rw [if_pos q, if_neg ne01, q]; rfl
      · have q' := Bool.eq_false_iff.mpr q
        rw [q'] at z2
        rw [if_neg q, if_pos e00, q', nI_1]
        exact ih (rt n s d) (k + 1) f (by omega) (by omega) hr q' z2
  exact L0 n c 0 am_F (by omega) (by show n < 5000; omega) hc hb hf
theorem hm_bs {m : am_Mm} {n L c s : Nat} (h4 : 4 ≤ n) (h9 : n ≤ 9) (hL : L < 2 ^ 31) (hs : s < n) (hc : c < n) (hf : L.testBit (bsm n s L c n (rt n s c)) = true) : f_M_beside (nI L) (nI c) (nI n) (nI s) m = some (nI (bsm n s L c n (rt n s c)), m) := by
  have n0 : ¬ nI n = (0 : Int32) := fun z => by have := (nI_eq (b := 0) (by omega) (by omega)).mp z; omega
  have L0 : ∀ t d f, t < f → d < n → L.testBit (bsm n s L c t d) = true → f_M_beside_b7 f (nI L) (nI c) (nI n) (nI s) (nI d) m = some (nI (bsm n s L c t d), m) := by
    intro t
    induction t with
    | zero =>
      intro d f hf hd z
      obtain ⟨f, rfl⟩ : ∃ z, f = z + 1 := ⟨f - 1, by omega⟩
      rw [bsm] at z ⊢
      rw [f_M_beside_b7, nq_has1 hL (by omega) z, Option.bind_some, if_neg ne01]
    | succ t ih =>
      intro d f hf hd z
      obtain ⟨f, rfl⟩ : ∃ z, f = z + 1 := ⟨f - 1, by omega⟩
      have hr := rt_lt hd hs
      rw [bsm, tbt] at z ⊢
      rw [f_M_beside_b7]
      by_cases q : L.testBit d = true
      · rw [nq_has1 hL (by omega) q, Option.bind_some, if_neg ne01, q]; rfl
      · have q' := Bool.eq_false_iff.mpr q
        rw [q'] at z
        rw [nq_has0 hL (by omega) q, Option.bind_some, if_pos e00, q']
        by_cases dc : d = c
        · subst dc
          rw [if_pos rfl, show Nat.beq d d = true from Nat.beq_refl d]; rfl
        · have db : Nat.beq d c = false := Bool.eq_false_iff.mpr (fun v => dc (Nat.eq_of_beq_eq_true v))
          rw [db] at z
          rw [if_neg (fun v => dc ((nI_eq (by omega) (by omega)).mp v)), if_neg n0, db, nI_add, nq_rem (by omega) (by omega) (by omega), nq_md (by omega)]
          exact ih (rt n s d) f (by omega) hr z
  unfold f_M_beside
  rw [if_neg n0, nI_add, nq_rem (by omega) (by omega) (by omega), nq_md (by omega)]
  exact L0 n (rt n s c) am_F (by show n < 5000; omega) (rt_lt hc hs) hf
