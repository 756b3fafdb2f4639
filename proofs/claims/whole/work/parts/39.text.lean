/-! republic: the text's codes -/
theorem z0u {α : Type} (u : α) : (if ¬ ((0 : Int32) &&& 1 = (0 : Int32)) then none else some ((0 : Int32), u)) = some ((0 : Int32), u) := if_neg (by decide)
theorem z1u {α : Type} (u : α) : (if ¬ ((1 : Int32) &&& 1 = (1 : Int32)) then none else some ((1 : Int32), u)) = some ((1 : Int32), u) := if_neg (by decide)
theorem digA (x : Int32) {lo hi : Nat} (hlo : lo < 10) (hhi : hi < 10) : (∃ e, lo ≤ e ∧ e ≤ hi ∧ x = nI (48 + e) ∧ x - (48 : Int32) = nI e ∧ fX3_isDigit x (nI lo) (nI hi) = some 1 ∧ fX5_in (x - (48 : Int32)).toInt64 (lN lo) (lN hi) = some 1) ∨ (fX3_isDigit x (nI lo) (nI hi) = some 0 ∧ fX5_in (x - (48 : Int32)).toInt64 (lN lo) (lN hi) = some 0) := by
  unfold fX3_isDigit fX3_isDigit_20
  rw [z0, z1, in_lit _ (by omega) (by omega), show (48 : Int32) = nI 48 from rfl, nI_add, nI_add]
  have back : ∀ e, x - nI 48 = nI e → x = nI (48 + e) := by
    intro e h
    rw [← nI_add, ← h, Int32.add_comm, Int32.sub_add_cancel]
  by_cases q1 : x < nI (48 + lo)
  · refine Or.inr ⟨by rw [if_pos q1], ?_⟩
    by_cases r1 : x - nI 48 < nI lo
    · rw [if_pos r1]
    · rw [if_neg r1]
      by_cases r2 : nI hi < x - nI 48
      · rw [if_pos r2]
      · exfalso
        obtain ⟨e, e1, e2, e3⟩ := sp_nat r1 r2 (by omega) (by omega)
        rw [back e e3] at q1
        exact nI_nlt (by omega) (by omega) q1
  · rw [if_neg q1]
    by_cases q2 : nI (48 + hi) < x
    · refine Or.inr ⟨by rw [if_pos q2], ?_⟩
      by_cases r1 : x - nI 48 < nI lo
      · rw [if_pos r1]
      · rw [if_neg r1]
        by_cases r2 : nI hi < x - nI 48
        · rw [if_pos r2]
        · exfalso
          obtain ⟨e, e1, e2, e3⟩ := sp_nat r1 r2 (by omega) (by omega)
          rw [back e e3] at q2
          exact nI_nlt (by omega) (by omega) q2
    · rw [if_neg q2]
      obtain ⟨e, e1, e2, rfl⟩ := sp_nat q1 q2 (by omega) (by omega)
      refine Or.inl ⟨e - 48, by omega, by omega, by congr 1; omega, pk_sub (by omega), rfl, ?_⟩
      rw [pk_sub (by omega), if_neg (nI_nlt (by omega) (by omega)), if_neg (nI_nlt (by omega) (by omega))]
theorem dg01 (x a b : Int32) : fX3_isDigit x a b = some 0 ∨ fX3_isDigit x a b = some 1 := by
  unfold fX3_isDigit fX3_isDigit_20
  rw [z0, z1]
  split
  · exact Or.inl rfl
  · split
    · exact Or.inl rfl
    · exact Or.inr rfl
theorem dgn (x a b : Int32) : (fX3_isDigit x a b).bind (fun q4 => if ¬ (q4 &&& 1 = q4) then none else some q4) = fX3_isDigit x a b := by
  rcases dg01 x a b with h | h
  · rw [h]; rfl
  · rw [h]; rfl
theorem gw0 (x : Int32) : fX3_goesOnWith x (nI 0) = if x = (108 : Int32) then some 1 else some 0 := by
  unfold fX3_goesOnWith
  rw [if_pos (show nI 0 = (0 : Int32) from rfl), z0, z1]
theorem gw1 (x : Int32) : fX3_goesOnWith x (nI 1) = fX3_isDigit x (nI 0) (nI 6) := by
  unfold fX3_goesOnWith
  rw [if_neg (show ¬ nI 1 = (0 : Int32) by decide), if_pos (show nI 1 = (1 : Int32) from rfl)]
  exact dgn x 0 6
theorem gw2 (x : Int32) : fX3_goesOnWith x (nI 2) = fX3_isDigit x (nI 1) (nI 9) := by
  unfold fX3_goesOnWith
  rw [if_neg (show ¬ nI 2 = (0 : Int32) by decide), if_neg (show ¬ nI 2 = (1 : Int32) by decide), if_pos (show nI 2 = (2 : Int32) from rfl)]
  exact dgn x 1 9
theorem gc0 (x : Int32) : fX3_citizenGoesOnWith x (nI 0) = if x = (59 : Int32) then some 1 else some 0 := by
  unfold fX3_citizenGoesOnWith
  rw [if_pos (show nI 0 = (0 : Int32) from rfl), z0, z1]
theorem gc1 (x : Int32) : fX3_citizenGoesOnWith x (nI 1) = if x = (99 : Int32) then some 1 else if x = (114 : Int32) then some 1 else if x = (109 : Int32) then some 1 else some 0 := by
  unfold fX3_citizenGoesOnWith fX3_citizenGoesOnWith_66
  rw [if_neg (show ¬ nI 1 = (0 : Int32) by decide), if_pos (show nI 1 = (1 : Int32) from rfl), z0, z1]
theorem gc2 (x : Int32) : fX3_citizenGoesOnWith x (nI 2) = fX3_isDigit x (nI 1) (nI 9) := by
  unfold fX3_citizenGoesOnWith
  rw [if_neg (show ¬ nI 2 = (0 : Int32) by decide), if_neg (show ¬ nI 2 = (1 : Int32) by decide), if_pos (show nI 2 = (2 : Int32) from rfl)]
  exact dgn x 1 9
theorem gc3 (x : Int32) : fX3_citizenGoesOnWith x (nI 3) = fX3_isDigit x (nI 0) (nI 9) := by
  unfold fX3_citizenGoesOnWith
  rw [if_neg (show ¬ nI 3 = (0 : Int32) by decide), if_neg (show ¬ nI 3 = (1 : Int32) by decide), if_neg (show ¬ nI 3 = (2 : Int32) by decide), if_pos (show nI 3 = (3 : Int32) from rfl)]
  exact dgn x 0 9
theorem gc4 (x : Int32) : fX3_citizenGoesOnWith x (nI 4) = fX3_isDigit x (nI 0) (nI 9) := by
  unfold fX3_citizenGoesOnWith
  rw [if_neg (show ¬ nI 4 = (0 : Int32) by decide), if_neg (show ¬ nI 4 = (1 : Int32) by decide), if_neg (show ¬ nI 4 = (2 : Int32) by decide), if_neg (show ¬ nI 4 = (3 : Int32) by decide), if_pos (show nI 4 = (4 : Int32) from rfl)]
  exact dgn x 0 9
theorem gc5 (x : Int32) : fX3_citizenGoesOnWith x (nI 5) = if x = (121 : Int32) then some 1 else if x = (110 : Int32) then some 1 else some 0 := by
  unfold fX3_citizenGoesOnWith fX3_citizenGoesOnWith_100
  rw [if_neg (show ¬ nI 5 = (0 : Int32) by decide), if_neg (show ¬ nI 5 = (1 : Int32) by decide), if_neg (show ¬ nI 5 = (2 : Int32) by decide), if_neg (show ¬ nI 5 = (3 : Int32) by decide), if_neg (show ¬ nI 5 = (4 : Int32) by decide), z0, z1]
theorem b_pl : ∀ c, c < 6 → ∀ t, t < 6 → (nI (3 + 6 * c + t) - (3 : Int32)) - (nI (3 + 6 * c + t) - (3 : Int32)) / (6 : Int32) * (6 : Int32) = nI t := by decide +kernel
theorem gwC {c t : Nat} (hc : c < 6) (ht : t < 6) (x : Int32) : fX3_goesOnWith x (nI (3 + 6 * c + t)) = (fX3_citizenGoesOnWith x (nI t)).bind (fun q11 => if q11 = 0 then some 0 else some 1) := by
  unfold fX3_goesOnWith fX3_goesOnWith_79
  have ne : ∀ i, i < 3 → ¬ nI (3 + 6 * c + t) = nI i := fun i hi z => by
    have := (nI_eq (by omega) (by omega)).mp z
    omega
  rw [if_neg (show ¬ nI (3 + 6 * c + t) = (0 : Int32) from ne 0 (by omega)), if_neg (show ¬ nI (3 + 6 * c + t) = (1 : Int32) from ne 1 (by omega)), if_neg (show ¬ nI (3 + 6 * c + t) = (2 : Int32) from ne 2 (by omega)), if_neg (show ¬ (39 : Int32) ≤ nI (3 + 6 * c + t) from (show ¬ nI 39 ≤ nI (3 + 6 * c + t) from nI_ge (by omega) (by omega))), if_neg (show ¬ (6 : Int32) = 0 by decide), b_pl c hc t ht, z0, z1]
theorem gw39 (x : Int32) : fX3_goesOnWith x (nI 39) = some 0 := by
  unfold fX3_goesOnWith fX3_goesOnWith_79
  rw [if_neg (show ¬ nI 39 = (0 : Int32) by decide), if_neg (show ¬ nI 39 = (1 : Int32) by decide), if_neg (show ¬ nI 39 = (2 : Int32) by decide), if_pos (show (39 : Int32) ≤ nI 39 by decide), z0]
def cdA (D : Nat → Int32) (n j : Nat) : Int32 := if j < n then D j else -9
def gYd (D : Nat → Int32) (n j : Nat) : Prop := fX3_goesOnWith (cdA D n j) (nI j) = some 1
def bNd (D : Nat → Int32) (n j : Nat) : Prop := fX3_goesOnWith (cdA D n j) (nI j) = some 0
theorem b_m9 : ∀ j, j < 64 → fX3_goesOnWith (-9 : Int32) (nI j) = some 0 := by decide +kernel
theorem gYd_lt {D : Nat → Int32} {n j : Nat} (hj : j < 64) (h : gYd D n j) : j < n := by
  rcases Nat.lt_or_ge j n with q | q
  · exact q
  · exfalso
    unfold gYd cdA at h
    rw [if_neg (by omega), b_m9 j hj] at h
    revert h; decide
theorem gdC {D : Nat → Int32} {n c t : Nat} (hc : c < 6) (ht : t < 6) (h : fX3_citizenGoesOnWith (cdA D n (3 + 6 * c + t)) (nI t) = some 1) : gYd D n (3 + 6 * c + t) := by
  unfold gYd
  rw [gwC hc ht, h]; rfl
theorem bdC {D : Nat → Int32} {n c t : Nat} (hc : c < 6) (ht : t < 6) (h : fX3_citizenGoesOnWith (cdA D n (3 + 6 * c + t)) (nI t) = some 0) : bNd D n (3 + 6 * c + t) := by
  unfold bNd
  rw [gwC hc ht, h]; rfl
/-- is the text's length that of a whole one -/
def wh (n : Nat) : Bool := decide (9 ≤ n) && decide ((n - 3) % 6 = 0)
theorem b_wh : ∀ m, m < 58 → decide ((nI (m + 3) - (3 : Int32)) - (nI (m + 3) - (3 : Int32)) / (6 : Int32) * (6 : Int32) = 0) = decide (m % 6 = 0) := by decide +kernel
theorem ff_end {n : Nat} (hn : n ≤ 60) (r : SR) : (if nI n < (9 : Int32) then fX3_firstFault_48 (nI n) r else if (6 : Int32) = 0 then none else if (nI n - (3 : Int32)) - (nI n - (3 : Int32)) / (6 : Int32) * (6 : Int32) = 0 then fX3_firstFault_49 (nI n) (1 : Int32) r else fX3_firstFault_48 (nI n) r) = some (if wh n then (-9 : Int32) else nI n) := by
  unfold fX3_firstFault_48 fX3_firstFault_49 wh
  by_cases q : n < 9
  · rw [if_pos (show nI n < (9 : Int32) from (show nI n < nI 9 from nI_lt q (by omega))), if_pos rfl, decide_eq_false (by omega : ¬ 9 ≤ n)]
    rfl
  · rw [if_neg (show ¬ nI n < (9 : Int32) from (show ¬ nI n < nI 9 from nI_nlt (by omega) (by omega))), if_neg (show ¬ (6 : Int32) = 0 by decide), decide_eq_true (by omega : 9 ≤ n), Bool.true_and]
    have hb := b_wh (n - 3) (by omega)
    rw [show n - 3 + 3 = n by omega] at hb
    by_cases q2 : (n - 3) % 6 = 0
    · rw [decide_eq_true q2] at hb
      rw [if_pos (of_decide_eq_true hb), decide_eq_true q2, if_neg n10]; rfl
    · rw [decide_eq_false q2] at hb
      rw [if_neg (of_decide_eq_false hb), decide_eq_false q2, if_pos rfl]; rfl
theorem ff_loop {a n q : Nat} {r0 : SR} {c D : Nat → Int32} {v : Int32} (hr0 : r0.2 = c) (han : a + n ≤ 60) (hD : ∀ j, j < n → c (a + j) = D j) (hq : q ≤ n) (hg : ∀ j, j < q → gYd D n j) (he : (bNd D n q ∧ v = nI q ∧ (q < n ∨ wh n = false)) ∨ (q = n ∧ wh n = true ∧ v = (-9 : Int32))) : ∀ f j, n < j + f → j ≤ q → fX3_firstFault_2 f (nI a) (nI n) (nI j) r0 = some v := by
  intro f
  induction f with
  | zero => intro j h1 h2; omega
  | succ f ih =>
    intro j h1 h2
    unfold fX3_firstFault_2
    by_cases r : n ≤ j
    · obtain rfl : j = n := by omega
      obtain rfl : q = j := by omega
      rw [if_pos (nI_le (Nat.le_refl _) (by omega)), ff_end (by omega)]
      rcases he with ⟨-, rfl, h⟩ | ⟨-, h, rfl⟩
      · rcases h with h | h
        · omega
        · rw [h]; rfl
      · rw [h]; rfl
    · rw [if_neg (nI_ge (by omega) (by omega)), nI_add, at_c hr0 (by omega), Option.bind_some, hD j (by omega)]
      have ec : cdA D n j = D j := if_pos (by omega)
      rw [← ec]
      by_cases r2 : j = q
      · subst r2
        rcases he with ⟨h, rfl, -⟩ | ⟨h, -, -⟩
        · rw [show fX3_goesOnWith (cdA D n j) (nI j) = some 0 from h, Option.bind_some, if_pos rfl]
        · omega
      · rw [show fX3_goesOnWith (cdA D n j) (nI j) = some 1 from hg j (by omega), Option.bind_some, if_neg n10, show (1 : Int32) = nI 1 from rfl, nI_add]
        exact ih (j + 1) (by omega) (by omega)
/-! the reference reads -/
def stR (τ : SM) (j : Nat) : SM := (upd τ.1 8 (nI j), τ.2)
theorem st_up (τ : SM) (i : Nat) : ((upd (stR τ i).1 8 ((stR τ i).1 8 + (1 : Int32))), (stR τ i).2) = stR τ (i + 1) := by
  unfold stR
  show (upd (upd τ.1 8 (nI i)) 8 (upd τ.1 8 (nI i) 8 + (1 : Int32)), τ.2) = _
  rw [pk_us, fa_upd_twice, show (1 : Int32) = nI 1 from rfl, nI_add]
theorem st_at (τ : SM) (i : Nat) : (stR τ i).1 8 = nI i := pk_us (f := τ.1) (k := 8) (x := nI i)
theorem st_un (τ : SM) (i : Nat) {k : Nat} (h : k ≠ 8) : (stR τ i).1 k = τ.1 k := pk_un (f := τ.1) (k := 8) (x := nI i) h
theorem m_code {P n j : Nat} {τ : SM} {D : Nat → Int32} (hD : ∀ j, j < n → τ.2 10 (P + j) = D j) (hP : P + n ≤ 240) (hj : j ≤ n) : fX5_codeAt (nI P) (nI n) (stR τ j) = some (cdA D n j) := by
  unfold fX5_codeAt cdA
  rw [st_at]
  by_cases q : j < n
  · rw [if_neg (nI_ge q (by omega)), nI_add, nI_clamp (by omega), if_neg (ixc (show P + j < 240 by omega) (by omega)), if_pos q, ← hD j q]; rfl
  · rw [if_pos (nI_le (by omega) (by omega)), if_neg q]
theorem m_fig {P n j lo hi : Nat} {τ : SM} {D : Nat → Int32} (hlo : lo < 10) (hhi : hi < 10) (hD : ∀ j, j < n → τ.2 10 (P + j) = D j) (hP : P + n ≤ 240) (hj : j ≤ n) : (∃ e, lo ≤ e ∧ e ≤ hi ∧ cdA D n j = nI (48 + e) ∧ fX3_isDigit (cdA D n j) (nI lo) (nI hi) = some 1 ∧ fX5_figure (nI P) (nI n) (nI lo) (nI hi) (stR τ j) = some (nI e, stR τ (j + 1))) ∨ (fX3_isDigit (cdA D n j) (nI lo) (nI hi) = some 0 ∧ fX5_figure (nI P) (nI n) (nI lo) (nI hi) (stR τ j) = some ((-9 : Int32), stR τ j)) := by
  unfold fX5_figure fX5_figure_39
  rw [m_code hD hP hj, Option.bind_some, nI_l (show lo < 2 ^ 31 by omega), nI_l (show hi < 2 ^ 31 by omega)]
  rcases digA (cdA D n j) hlo hhi with ⟨e, e1, e2, e3, e4, e5, e6⟩ | ⟨e5, e6⟩
  · refine Or.inl ⟨e, e1, e2, e3, e5, ?_⟩
    rw [e6, Option.bind_some, if_neg n10, if_neg n10, e4]
    exact congrArg (fun z => some (nI e, z)) (st_up τ j)
  · refine Or.inr ⟨e5, ?_⟩
    rw [e6, Option.bind_some, if_pos rfl, if_pos rfl, Int32.add_zero, fa_upd_same rfl]
