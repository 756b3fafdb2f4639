/-! the counting functions of both sides, and the shares in least terms -/
theorem p63 : (2 : Nat) ^ 63 = 9223372036854775808 := by decide
theorem choose_stp {n j : Nat} (hn : n ≤ 200) (hj : j ≤ 6) : lN (ch n j) * lN (n - j) / lN (j + 1) = lN (ch n (j + 1)) := by
  have hb : ch n j * (n - j) < 2 ^ 63 := by
    have h1 := ch_b hn hj
    have h2 : ch n j * (n - j) ≤ 200 ^ 6 * 200 := Nat.mul_le_mul h1 (by omega)
    have h3 : (200 : Nat) ^ 6 * 200 < 2 ^ 63 := by decide
    omega
  rw [lN_mul, pk_lDiv hb (by omega) (by rw [p63]; omega), ← ch_mul, Nat.mul_div_cancel _ (by omega)]
theorem lN_ne0 {n : Nat} (h0 : 0 < n) (h : n < 2 ^ 63) : ¬ lN n = 0 := fun z => by
  have := (pk_lEQ (a := n) (b := 0) h (by omega)).mp z
  omega
theorem s_choose_loop {n k : Nat} (hn : n ≤ 200) (hk : k ≤ 6) : ∀ (f j : Nat), k < j + f → j ≤ k → j ≤ n → fX1_choose_5 f (nI n) (nI k) (lN (ch n j)) (nI j) = some (lN (ch n k)) := by
  intro f
  induction f with
  | zero => intro j h1 h2; omega
  | succ f ih =>
    intro j h1 h2 h3
    rw [fX1_choose_5]
    by_cases h : k ≤ j
    · have e : j = k := by omega
      subst e
      rw [if_pos (nI_le (Nat.le_refl j) (by omega))]
    · rw [if_neg (fun z => h ((nI_leI (by omega) (by omega)).mp z)), pk_sub h3]
      by_cases h0 : j < n
      · rw [if_pos (show (0 : Int32) < nI (n - j) from (show nI 0 < nI (n - j) from nI_lt (by omega) (by omega))), nI_1, nI_l (by omega), nI_l (by omega), if_neg (lN_ne0 (by omega) (by rw [p63]; omega)), choose_stp hn (by omega)]
        exact ih (j + 1) (by omega) (by omega) (by omega)
      · rw [if_neg (show ¬ (0 : Int32) < nI (n - j) from (show ¬ nI 0 < nI (n - j) from nI_nlt (by omega) (by omega))), ch_lt (by omega)]
        rfl
theorem s_choose {n k : Nat} (hn : n ≤ 200) (hk : k ≤ 6) : fX1_choose (nI n) (nI k) = some (lN (ch n k)) := by
  have h := s_choose_loop hn hk fu 0 (by unfold fu; omega) (by omega) (by omega)
  rw [ch_z] at h
  exact h
theorem s_ways_loop {n k : Nat} (hn : n ≤ 200) (hk : k ≤ 6) (hkn : k ≤ n) : ∀ (f j : Nat), k < j + f → j ≤ k → fX5_waysOf_14 f (nI n) (nI k) (lN (ch n j)) (nI j) = some (lN (ch n k)) := by
  intro f
  induction f with
  | zero => intro j h1 h2; omega
  | succ f ih =>
    intro j h1 h2
    rw [fX5_waysOf_14]
    by_cases h : k ≤ j
    · have e : j = k := by omega
      subst e
      rw [if_pos (nI_le (Nat.le_refl j) (by omega))]
      rfl
    · have hc := ch_b hn (show j ≤ 6 by omega)
      have hc2 : (200 : Nat) ^ 6 < 2 ^ 63 := by decide
      have hp := ch_pos (show j ≤ n by omega)
      have hz : ¬ lg_cmp (lN (ch n j)) 0 ≤ 0 := fun z => by
        have z2 := (lg_cmp_le _ _).mp z
        have z3 := (pk_lLE (a := ch n j) (b := 0) (by omega) (by omega)).mp z2
        omega
      rw [if_neg (fun z => h ((nI_leI (by omega) (by omega)).mp z)), if_neg hz, pk_sub (by omega), nI_1, nI_l (by omega), nI_l (by omega), if_neg (lN_ne0 (by omega) (by rw [p63]; omega)), choose_stp hn (by omega)]
      exact ih (j + 1) (by omega) (by omega)
theorem s_ways {n k : Nat} (hn : n ≤ 200) (hk : k ≤ 6) : fX5_waysOf (nI n) (nI k) = some (lN (ch n k)) := by
  unfold fX5_waysOf
  by_cases h : k ≤ n
  · rw [if_pos (nI_le h (by omega))]
    have e := s_ways_loop hn hk h fu 0 (by unfold fu; omega) (by omega)
    rw [ch_z] at e
    exact e
  · rw [if_neg (fun z => h ((nI_leI (by omega) (by omega)).mp z)), ch_lt (by omega)]
    unfold fX5_waysOf_10
    show fX5_waysOf_14 (699 + 1) _ _ _ _ = _
    rw [fX5_waysOf_14, if_neg (show ¬ nI k ≤ (0 : Int32) from fun z => by have := (nI_leI (a := k) (b := 0) (by omega) (by omega)).mp z; omega), if_pos (by decide)]
    rfl
-- Euclid
theorem gcd_step (x y : Nat) : Nat.gcd x y = Nat.gcd y (x % y) := by rw [Nat.gcd_comm, Nat.gcd_rec, Nat.gcd_comm]
theorem rem_half {y r : Nat} (h0 : 0 < r) (h : r < y) : 2 * (y % r) < y := by
  have h1 := Nat.mod_lt y h0
  have h2 := Nat.div_add_mod y r
  have h3 : 1 ≤ y / r := (Nat.one_le_div_iff h0).mpr (by omega)
  have h4 : r * 1 ≤ r * (y / r) := Nat.mul_le_mul_left r h3
  omega
theorem lrem_c {x y : Nat} (hx : x < 2 ^ 63) (hy0 : 0 < y) (hy : y < 2 ^ 63) : lN x - lN x / lN y * lN y = lN (x % y) := pk_lRem hx hy0 hy
theorem s_share_end {a b x : Nat} {w : Int32} (ha : a < 2 ^ 63) (hb : b < 2 ^ 63) (hx0 : 0 < x) (hx : x < 2 ^ 63) : (if w = 0 then fX5_share_41 (lN x) (lN a) else fX5_share_41 (lN x) (lN b)) = some (lN ((if w = 0 then a else b) / x)) := by
  by_cases h : w = 0
  · rw [if_pos h, if_pos h]; unfold fX5_share_41; rw [if_neg (lN_ne0 hx0 hx), pk_lDiv ha hx0 hx]
  · rw [if_neg h, if_neg h]; unfold fX5_share_41; rw [if_neg (lN_ne0 hx0 hx), pk_lDiv hb hx0 hx]
theorem s_share_step {a b x y f : Nat} {w : Int32} (ha : a < 2 ^ 63) (hb : b < 2 ^ 63) (hx : x < 2 ^ 63) (hy : y < 2 ^ 63) : fX5_share_6 (f + 1) (lN a) (lN b) w (lN x) (lN y) = if y = 0 then (if w = 0 then fX5_share_41 (lN x) (lN a) else fX5_share_41 (lN x) (lN b)) else fX5_share_6 f (lN a) (lN b) w (lN y) (lN (x % y)) := by
  rw [fX5_share_6]
  by_cases h : y = 0
  · subst h
    rw [if_pos ((lg_cmp_eq (lN 0) 0).mpr rfl), if_pos rfl]
  · rw [if_neg (fun z => lN_ne0 (by omega) hy ((lg_cmp_eq _ _).mp z)), if_neg (lN_ne0 (by omega) hy), if_neg h, lrem_c hx (by omega) hy]
theorem s_share_loop {a b : Nat} {w : Int32} (ha : a < 2 ^ 63) (hb : b < 2 ^ 63) : ∀ (m f x y : Nat), y < 2 ^ m → 2 * m + 1 ≤ f → x < 2 ^ 63 → y < 2 ^ 63 → (0 < x ∨ 0 < y) → fX5_share_6 f (lN a) (lN b) w (lN x) (lN y) = some (lN ((if w = 0 then a else b) / Nat.gcd x y)) := by
  intro m
  induction m with
  | zero =>
    intro f x y h1 h2 hx hy h0
    have e : y = 0 := by simp at h1; omega
    obtain ⟨f, rfl⟩ : ∃ g, f = g + 1 := ⟨f - 1, by omega⟩
    rw [s_share_step ha hb hx hy, if_pos e, s_share_end ha hb (by omega) hx, e, Nat.gcd_zero_right]
  | succ m ih =>
    intro f x y h1 h2 hx hy h0
    obtain ⟨f, rfl⟩ : ∃ g, f = g + 1 := ⟨f - 1, by omega⟩
    rw [s_share_step ha hb hx hy]
    by_cases e : y = 0
    · rw [if_pos e, s_share_end ha hb (by omega) hx, e, Nat.gcd_zero_right]
    · rw [if_neg e, gcd_step]
      have hr := Nat.mod_lt x (show 0 < y by omega)
      by_cases er : x % y = 0
      · rw [er]
        exact ih f y 0 (Nat.pos_of_ne_zero (by simp)) (by omega) hy (by omega) (Or.inl (by omega))
      · obtain ⟨f, rfl⟩ : ∃ g, f = g + 1 := ⟨f - 1, by omega⟩
        rw [s_share_step ha hb hy (by omega), if_neg er, gcd_step]
        have h3 := rem_half (show 0 < x % y by omega) hr
        have h4 : 2 ^ (m + 1) = 2 ^ m * 2 := Nat.pow_succ ..
        exact ih f _ _ (by omega) (by omega) (by omega) (by omega) (Or.inl (by omega))
theorem s_share {a b : Nat} {w : Int32} (ha : a < 2 ^ 63) (hb0 : 0 < b) (hb : b < 2 ^ 32) : fX5_share (lN a) (lN b) w = some (lN ((if w = 0 then a else b) / Nat.gcd a b)) := s_share_loop ha (by rw [p63]; omega) 32 fu a b hb (by unfold fu; omega) ha (by rw [p63]; omega) (Or.inr hb0)
theorem s_part_end {a b x : Nat} {w : Int32} (ha : a < 2 ^ 63) (hb : b < 2 ^ 63) (hx0 : 0 < x) (hx : x < 2 ^ 63) : fX4_partOf_44 (lN a) (lN b) w (lN x) = some (lN ((if w = 0 then a else b) / x)) := by
  unfold fX4_partOf_44 fX4_partOf_54
  have hz : ¬ lg_cmp (lN x) 0 = 0 := fun z => lN_ne0 hx0 hx ((lg_cmp_eq _ _).mp z)
  by_cases h : w = 0
  · rw [if_pos h, if_pos h, if_neg hz, if_neg (lN_ne0 hx0 hx), pk_lDiv ha hx0 hx]
  · rw [if_neg h, if_neg h, if_neg hz, if_neg (lN_ne0 hx0 hx), pk_lDiv hb hx0 hx]
theorem s_part_step {a b x y f st : Nat} {w : Int32} (hx : x < 2 ^ 63) (hy : y < 2 ^ 63) (hst : st < 100 ∨ y = 0) (hst2 : st < 1000) : fX4_partOf_9 (f + 1) (lN a) (lN b) w (lN x) (lN y) (nI st) = if y = 0 then fX4_partOf_44 (lN a) (lN b) w (lN x) else fX4_partOf_9 f (lN a) (lN b) w (lN y) (lN (x % y)) (nI (st + 1)) := by
  rw [fX4_partOf_9]
  by_cases h : y = 0
  · subst h
    rw [if_pos ((lg_cmp_eq (lN 0) 0).mpr rfl), if_pos rfl]
    split <;> rfl
  · rw [if_neg (show ¬ (100 : Int32) ≤ nI st from fun z => by have := (nI_leI (a := 100) (b := st) (by omega) (by omega)).mp z; omega), if_neg (fun z => lN_ne0 (by omega) hy ((lg_cmp_eq _ _).mp z)), if_neg (lN_ne0 (by omega) hy), if_neg h, lrem_c hx (by omega) hy, nI_1]
theorem s_part_loop {a b : Nat} {w : Int32} (ha : a < 2 ^ 63) (hb : b < 2 ^ 63) : ∀ (m f st x y : Nat), y < 2 ^ m → 2 * m + 1 ≤ f → st + 2 * m ≤ 100 → x < 2 ^ 63 → y < 2 ^ 63 → (0 < x ∨ 0 < y) → fX4_partOf_9 f (lN a) (lN b) w (lN x) (lN y) (nI st) = some (lN ((if w = 0 then a else b) / Nat.gcd x y)) := by
  intro m
  induction m with
  | zero =>
    intro f st x y h1 h2 h5 hx hy h0
    have e : y = 0 := by simp at h1; omega
    obtain ⟨f, rfl⟩ : ∃ g, f = g + 1 := ⟨f - 1, by omega⟩
    rw [s_part_step hx hy (by omega) (by omega), if_pos e, s_part_end ha hb (by omega) hx, e, Nat.gcd_zero_right]
  | succ m ih =>
    intro f st x y h1 h2 h5 hx hy h0
    obtain ⟨f, rfl⟩ : ∃ g, f = g + 1 := ⟨f - 1, by omega⟩
    rw [s_part_step hx hy (by omega) (by omega)]
    by_cases e : y = 0
    · rw [if_pos e, s_part_end ha hb (by omega) hx, e, Nat.gcd_zero_right]
    · rw [if_neg e, gcd_step]
      have hr := Nat.mod_lt x (show 0 < y by omega)
      by_cases er : x % y = 0
      · rw [er]
        exact ih f (st + 1) y 0 (Nat.pos_of_ne_zero (by simp)) (by omega) (by omega) hy (by omega) (Or.inl (by omega))
      · obtain ⟨f, rfl⟩ : ∃ g, f = g + 1 := ⟨f - 1, by omega⟩
        rw [s_part_step hy (by omega) (by omega) (by omega), if_neg er, gcd_step]
        have h3 := rem_half (show 0 < x % y by omega) hr
        have h4 : 2 ^ (m + 1) = 2 ^ m * 2 := Nat.pow_succ ..
        exact ih f (st + 1 + 1) _ _ (by omega) (by omega) (by omega) (by omega) (by omega) (Or.inl (by omega))
theorem s_part {a b : Nat} {w : Int32} (ha : a < 2 ^ 63) (hb0 : 0 < b) (hb : b < 2 ^ 32) : fX4_partOf (lN a) (lN b) w = some (lN ((if w = 0 then a else b) / Nat.gcd a b)) := s_part_loop ha (by rw [p63]; omega) 32 fu 0 a b hb (by unfold fu; omega) (by omega) ha (by rw [p63]; omega) (Or.inr hb0)
/-- both sides tell a share in least terms alike -/
theorem share_part {a b : Nat} (w : Int32) (ha : a < 2 ^ 63) (hb0 : 0 < b) (hb : b < 2 ^ 32) : ∃ r, fX4_partOf (lN a) (lN b) w = some r ∧ fX5_share (lN a) (lN b) w = some r := ⟨_, s_part ha hb0 hb, s_share ha hb0 hb⟩
-- which of two shares is above
theorem cmp_quot {a b c d : Nat} (hb : 0 < b) (hd : 0 < d) (h : a / b < c / d) : a * d < c * b := by
  have h1 : a < b * (a / b + 1) := Nat.lt_mul_div_succ a hb
  have h2 : d * (c / d) ≤ c := Nat.mul_div_le c d
  have h3 : b * (a / b + 1) ≤ b * (c / d) := Nat.mul_le_mul_left b h
  have h4 : a * d < b * (c / d) * d := Nat.mul_lt_mul_of_pos_right (by omega) hd
  have h5 : b * (c / d) * d = d * (c / d) * b := by rw [Nat.mul_assoc, Nat.mul_comm (c / d) d, Nat.mul_comm b]
  have h6 : d * (c / d) * b ≤ c * b := Nat.mul_le_mul_right b h2
  omega
theorem cmp_rem {a b c d : Nat} (h : a / b = c / d) : (a * d < c * b ↔ a % b * d < c % d * b) ∧ (c * b < a * d ↔ c % d * b < a % b * d) := by
  have h1 := Nat.div_add_mod a b
  have h2 := Nat.div_add_mod c d
  have e1 : a * d = b * (a / b) * d + a % b * d := by rw [← Nat.add_mul, h1]
  have e2 : c * b = d * (c / d) * b + c % d * b := by rw [← Nat.add_mul, h2]
  have e3 : b * (a / b) * d = d * (c / d) * b := by rw [h, Nat.mul_assoc, Nat.mul_comm (c / d) d, Nat.mul_comm b]
  omega
def vb (t : Bool) (a b c d : Nat) : Bool := if t then decide (a * d < c * b) else decide (c * b < a * d)
def t01 (t : Bool) : Int32 := if t then 1 else 0
theorem z0 : (if ¬ ((0 : Int32) &&& 1 = (0 : Int32)) then none else some (0 : Int32)) = some 0 := by decide
theorem z1 : (if ¬ ((1 : Int32) &&& 1 = (1 : Int32)) then none else some (1 : Int32)) = some 1 := by decide
theorem lcmp_eq {a b : Nat} (ha : a < 2 ^ 63) (hb : b < 2 ^ 63) : lg_cmp (lN a) (lN b) = 0 ↔ a = b := (lg_cmp_eq _ _).trans (pk_lEQ ha hb)
theorem lcmp_eq0 {a : Nat} (ha : a < 2 ^ 63) : lg_cmp (lN a) 0 = 0 ↔ a = 0 := lcmp_eq (b := 0) ha (by decide)
theorem lcmp_le {a b : Nat} (ha : a < 2 ^ 63) (hb : b < 2 ^ 63) : lg_cmp (lN a) (lN b) ≤ 0 ↔ a ≤ b := (lg_cmp_le _ _).trans (pk_lLE ha hb)
theorem lcmp_ge {a b : Nat} (ha : a < 2 ^ 63) (hb : b < 2 ^ 63) : 0 ≤ lg_cmp (lN a) (lN b) ↔ b ≤ a := (lg_cmp_ge _ _).trans (pk_lLE hb ha)
theorem lcmp_lt {a b : Nat} (ha : a < 2 ^ 63) (hb : b < 2 ^ 63) : lg_cmp (lN a) (lN b) < 0 ↔ a < b := (lg_cmp_lt _ _).trans (pk_lLT ha hb)
theorem lcmp_gt {a b : Nat} (ha : a < 2 ^ 63) (hb : b < 2 ^ 63) : 0 < lg_cmp (lN a) (lN b) ↔ b < a := (lg_cmp_gt _ _).trans (pk_lLT hb ha)
theorem mod63 {x y : Nat} (hx : x < 2 ^ 63) : x % y < 2 ^ 63 := Nat.lt_of_le_of_lt (Nat.mod_le _ _) hx
theorem div63 {x y : Nat} (hx : x < 2 ^ 63) : x / y < 2 ^ 63 := Nat.lt_of_le_of_lt (Nat.div_le_self _ _) hx
theorem s_above_end {a b c d : Nat} (t : Bool) (ha : a < 2 ^ 63) (hb : b < 2 ^ 63) (hc : c < 2 ^ 63) (hd : d < 2 ^ 63) (hb0 : 0 < b) (hd0 : 0 < d) (h : ¬ (a / b = c / d ∧ a % b ≠ 0 ∧ c % d ≠ 0)) : fX5_isAbove_96 (lN a) (lN b) (lN c) (lN d) (t01 t) = some (if vb t a b c d then 1 else 0) := by
  unfold fX5_isAbove_96
  rw [lrem_c ha hb0 hb, lrem_c hc hd0 hd, pk_lDiv ha hb0 hb, pk_lDiv hc hd0 hd]
  simp only [if_neg (lN_ne0 hb0 hb), if_neg (lN_ne0 hd0 hd), z0, z1]
  by_cases hq : a / b = c / d
  · rw [if_pos ((lcmp_eq (div63 ha) (div63 hc)).mpr hq)]
    obtain ⟨r1, r2⟩ := cmp_rem hq
    have hz : a % b = 0 ∨ c % d = 0 := by
      rcases Nat.eq_zero_or_pos (a % b) with q | q
      · exact Or.inl q
      · rcases Nat.eq_zero_or_pos (c % d) with q2 | q2
        · exact Or.inr q2
        · exact absurd ⟨hq, by omega, by omega⟩ h
    have k1 : a % b * d < c % d * b ↔ a % b < c % d := by
      rcases hz with z | z
      · rw [z, Nat.zero_mul]
        exact ⟨fun q => Nat.pos_of_ne_zero (fun q2 => by rw [q2, Nat.zero_mul] at q; omega), fun q => Nat.mul_pos q hb0⟩
      · rw [z, Nat.zero_mul]; omega
    have k2 : c % d * b < a % b * d ↔ c % d < a % b := by
      rcases hz with z | z
      · rw [z, Nat.zero_mul]; omega
      · rw [z, Nat.zero_mul]
        exact ⟨fun q => Nat.pos_of_ne_zero (fun q2 => by rw [q2, Nat.zero_mul] at q; omega), fun q => Nat.mul_pos q hd0⟩
    cases t with
    | false =>
      rw [if_pos (show t01 false = 0 from rfl)]
      by_cases hl : a % b ≤ c % d
      · rw [if_pos ((lcmp_le (mod63 ha) (mod63 hc)).mpr hl), if_neg (by simp only [vb]; simp only [Bool.false_eq_true, if_false, decide_eq_true_eq]; rw [r2, k2]; omega)]
      · rw [if_neg (fun z => hl ((lcmp_le (mod63 ha) (mod63 hc)).mp z)), if_pos (by simp only [vb]; simp only [Bool.false_eq_true, if_false, decide_eq_true_eq]; rw [r2, k2]; omega)]
    | true =>
      rw [if_neg (show ¬ t01 true = 0 by decide)]
      by_cases hl : c % d ≤ a % b
      · rw [if_pos ((lcmp_ge (mod63 ha) (mod63 hc)).mpr hl), if_neg (by simp only [vb]; simp only [if_true, decide_eq_true_eq]; rw [r1, k1]; omega)]
      · rw [if_neg (fun z => hl ((lcmp_ge (mod63 ha) (mod63 hc)).mp z)), if_pos (by simp only [vb]; simp only [if_true, decide_eq_true_eq]; rw [r1, k1]; omega)]
  · rw [if_neg (fun z => hq ((lcmp_eq (div63 ha) (div63 hc)).mp z))]
    rcases Nat.lt_or_gt_of_ne hq with g | g
    · have k := cmp_quot hb0 hd0 g
      cases t with
      | false => rw [if_pos (show t01 false = 0 from rfl), if_pos ((lcmp_le (div63 ha) (div63 hc)).mpr (by omega)), if_neg (by simp only [vb]; simp only [Bool.false_eq_true, if_false, decide_eq_true_eq]; omega)]
      | true => rw [if_neg (show ¬ t01 true = 0 by decide), if_neg (fun z => by have := (lcmp_ge (div63 ha) (div63 hc)).mp z; omega), if_pos (by simp only [vb]; simp only [if_true, decide_eq_true_eq]; omega)]
    · have k := cmp_quot hd0 hb0 g
      cases t with
      | false => rw [if_pos (show t01 false = 0 from rfl), if_neg (fun z => by have := (lcmp_le (div63 ha) (div63 hc)).mp z; omega), if_pos (by simp only [vb]; simp only [Bool.false_eq_true, if_false, decide_eq_true_eq]; omega)]
      | true => rw [if_neg (show ¬ t01 true = 0 by decide), if_pos ((lcmp_ge (div63 ha) (div63 hc)).mpr (by omega)), if_neg (by simp only [vb]; simp only [if_true, decide_eq_true_eq]; omega)]
theorem vb_turn {a b c d : Nat} (t : Bool) (h : a / b = c / d) : vb t a b c d = vb (!t) b (a % b) d (c % d) := by
  obtain ⟨r1, r2⟩ := cmp_rem h
  cases t with
  | false =>
    show decide (c * b < a * d) = decide (b * (c % d) < d * (a % b))
    rw [Nat.mul_comm b, Nat.mul_comm d]
    exact decide_eq_decide.mpr r2
  | true =>
    show decide (a * d < c * b) = decide (d * (a % b) < b * (c % d))
    rw [Nat.mul_comm b, Nat.mul_comm d]
    exact decide_eq_decide.mpr r1
theorem s_above_step {a b c d f : Nat} (t : Bool) (ha : a < 2 ^ 63) (hb : b < 2 ^ 63) (hc : c < 2 ^ 63) (hd : d < 2 ^ 63) (hb0 : 0 < b) (hd0 : 0 < d) : fX5_isAbove_17 (f + 1) (lN a) (lN b) (lN c) (lN d) (t01 t) = if a / b = c / d ∧ a % b ≠ 0 ∧ c % d ≠ 0 then fX5_isAbove_17 f (lN b) (lN (a % b)) (lN d) (lN (c % d)) (t01 (!t)) else some (if vb t a b c d then 1 else 0) := by
  by_cases h : a / b = c / d ∧ a % b ≠ 0 ∧ c % d ≠ 0
  · rw [if_pos h, fX5_isAbove_17, lrem_c ha hb0 hb, lrem_c hc hd0 hd, pk_lDiv ha hb0 hb, pk_lDiv hc hd0 hd]
    simp only [if_neg (lN_ne0 hb0 hb), if_neg (lN_ne0 hd0 hd)]
    rw [if_pos ((lcmp_eq (div63 ha) (div63 hc)).mpr h.1), if_neg (fun z => h.2.1 ((lcmp_eq0 (mod63 ha)).mp z)), if_neg (fun z => h.2.2 ((lcmp_eq0 (mod63 hc)).mp z))]
    unfold fX5_isAbove_91
    cases t with
    | false => rw [if_pos (show t01 false = 0 from rfl)]; rfl
    | true => rw [if_neg (show ¬ t01 true = 0 by decide)]; rfl
  · have e := s_above_end t ha hb hc hd hb0 hd0 h
    rw [if_neg h, fX5_isAbove_17, lrem_c ha hb0 hb, lrem_c hc hd0 hd, pk_lDiv ha hb0 hb, pk_lDiv hc hd0 hd]
    simp only [if_neg (lN_ne0 hb0 hb), if_neg (lN_ne0 hd0 hd), e]
    by_cases hq : a / b = c / d
    · rw [if_pos ((lcmp_eq (div63 ha) (div63 hc)).mpr hq)]
      by_cases hx : a % b = 0
      · rw [if_pos ((lcmp_eq0 (mod63 ha)).mpr hx)]
      · rw [if_neg (fun z => hx ((lcmp_eq0 (mod63 ha)).mp z))]
        by_cases hy : c % d = 0
        · rw [if_pos ((lcmp_eq0 (mod63 hc)).mpr hy)]
        · exact absurd ⟨hq, hx, hy⟩ h
    · rw [if_neg (fun z => hq ((lcmp_eq (div63 ha) (div63 hc)).mp z))]
theorem s_above_loop : ∀ (m f a b c d : Nat) (t : Bool), b < 2 ^ m → 2 * m ≤ f → a < 2 ^ 63 → b < 2 ^ 63 → c < 2 ^ 63 → d < 2 ^ 63 → 0 < b → 0 < d → fX5_isAbove_17 f (lN a) (lN b) (lN c) (lN d) (t01 t) = some (if vb t a b c d then 1 else 0) := by
  intro m
  induction m with
  | zero => intro f a b c d t h1; simp at h1; omega
  | succ m ih =>
    intro f a b c d t h1 h2 ha hb hc hd hb0 hd0
    obtain ⟨f, rfl⟩ : ∃ g, f = g + 1 := ⟨f - 1, by omega⟩
    rw [s_above_step t ha hb hc hd hb0 hd0]
    by_cases h : a / b = c / d ∧ a % b ≠ 0 ∧ c % d ≠ 0
    · rw [if_pos h, vb_turn t h.1]
      have r1 := Nat.mod_lt a hb0
      obtain ⟨f, rfl⟩ : ∃ g, f = g + 1 := ⟨f - 1, by omega⟩
      rw [s_above_step (!t) hb (mod63 ha) hd (mod63 hc) (by omega) (by omega)]
      by_cases h' : b / (a % b) = d / (c % d) ∧ b % (a % b) ≠ 0 ∧ d % (c % d) ≠ 0
      · rw [if_pos h', vb_turn (!t) h'.1]
        have h3 := rem_half (show 0 < a % b by omega) r1
        have h4 : 2 ^ (m + 1) = 2 ^ m * 2 := Nat.pow_succ ..
        exact ih f _ _ _ _ (!(!t)) (by omega) (by omega) (mod63 ha) (mod63 hb) (mod63 hc) (mod63 hd) (by omega) (by omega)
      · rw [if_neg h']
    · rw [if_neg h]
theorem s_above {a b c d : Nat} (ha : a < 2 ^ 63) (hb : b < 2 ^ 32) (hc : c < 2 ^ 63) (hd : d < 2 ^ 63) (hb0 : 0 < b) (hd0 : 0 < d) : fX5_isAbove (lN a) (lN b) (lN c) (lN d) = some (if c * b < a * d then 1 else 0) := by
  have h := s_above_loop 32 fu a b c d false hb (by unfold fu; omega) ha (by rw [p63]; omega) hc hd hb0 hd0
  have e : (if vb false a b c d then (1 : Int32) else 0) = if c * b < a * d then 1 else 0 := by
    unfold vb
    simp only [Bool.false_eq_true, if_false, decide_eq_true_eq]
  rw [e] at h
  exact h
theorem s_more {a b c d : Nat} (ha : a < 2 ^ 32) (hb : b < 2 ^ 32) (hc : c < 2 ^ 32) (hd : d < 2 ^ 32) : fX4_isMore (lN a) (lN b) (lN c) (lN d) = some (if c * b < a * d then 1 else 0) := by
  have e64 : (2 : Nat) ^ 32 * 2 ^ 32 = 2 ^ 64 := by decide
  have p1 : a * d < 2 ^ 64 := by
    rw [← e64]
    exact Nat.mul_lt_mul'' ha hd
  have p2 : c * b < 2 ^ 64 := by
    rw [← e64]
    exact Nat.mul_lt_mul'' hc hb
  unfold fX4_isMore
  rw [lN_mul, lN_mul, z0, z1]
  by_cases h : a * d ≤ c * b
  · rw [if_pos ((lg_cmp_le _ _).mpr ((ultL p2 p1).mpr h)), if_neg (by omega)]
  · rw [if_neg (fun z => h ((ultL p2 p1).mp ((lg_cmp_le _ _).mp z))), if_pos (by omega)]
