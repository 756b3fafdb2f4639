/-! who tells what, and the questions that change one thing and look -/
theorem rel_tr {u : SX} {τ : SM} (h : Rel u τ) (x : Int32) : Rel (upd u.1 8 ((31 : Int32) * u.1 8 + x), u.2.1, u.2.2.1, u.2.2.2.1, u.2.2.2.2) (upd τ.1 23 ((31 : Int32) * τ.1 23 + x), τ.2) := by
  have e : u.1 8 = τ.1 23 := by
    obtain ⟨p, d, pr, n, w, K, T, G, R, ⟨-, i1, i2, i3, i4, i5, i6, i7, i8, i9, i10, i11⟩, -⟩ := h
    exact i10
  rw [e]
  exact rel_trace h _
theorem q_tell {u : SX} {τ : SM} (h : Rel u τ) (x : Int32) : ∃ r u' τ', fX4_tell x u = some (r, u') ∧ fX5_tell x τ = some (r, τ') ∧ Rel u' τ' := by
  have hAll := h
  obtain ⟨p, d, pr, n, w, K, T, G, R, hA⟩ := h
  obtain ⟨⟨⟨b1, b2, b3, b4, b5⟩, i1, i2, -⟩, hR, hz, hm, hs, hF⟩ := hA
  unfold fX4_tell fX5_tell fX5_tell_27 fX5_tell_36 fX5_tell_51 fX4_richTells fX4_miserTells fX4_richTells fX4_citizenTells fX4_leaveInTrace fX5_traced
  rcases who b1 x with ⟨c, hc, rfl, f1, f2⟩ | ⟨f1, f2⟩
  · obtain ⟨k1, k2, k3, k4, k5, k6, k7, k8⟩ := hz c hc
    obtain ⟨m1, m2, m3⟩ := hm c hc
    have hx := ixc (show c < 6 by omega) (by omega)
    rw [f1 u i1, f2 τ i2, Option.bind_some, Option.bind_some, if_pos rfl, nI_clamp (by omega)]
    show ∃ r u' τ', (if ¬ c < 6 then none else _) = some (r, u') ∧ _
    rw [if_neg (show ¬ ¬ c < 6 by omega)]
    simp only [Option.bind_some, if_neg hx, m1, m2, k5, k6]
    rcases (show K c = 0 ∨ K c = 1 ∨ K c = 2 by omega) with e | e | e
    · rw [e]
      simp only [if_neg (show ¬ nI 0 = (1 : Int32) by decide), if_neg (show ¬ nI 0 = (2 : Int32) by decide), if_pos (show nI 0 ≤ 0 by decide), if_pos (show nI 0 = 0 from rfl)]
      exact ⟨_, _, _, rfl, rfl, rel_tr hAll 1⟩
    · rw [e]
      simp only [if_pos (show nI 1 = (1 : Int32) from rfl), if_neg (show ¬ nI 1 = (2 : Int32) by decide), if_neg (show ¬ nI 1 ≤ 0 by decide), if_neg (show ¬ nI 1 = 0 by decide)]
      exact ⟨_, _, _, rfl, rfl, rel_tr (rel_tr hAll 2) 1⟩
    · rw [e]
      simp only [if_neg (show ¬ nI 2 = (1 : Int32) by decide), if_pos (show nI 2 = (2 : Int32) from rfl), if_neg (show ¬ nI 2 ≤ 0 by decide), if_neg (show ¬ nI 2 = 0 by decide)]
      refine ⟨_, _, _, rfl, ?_, rel_tr (rel_tr (rel_tr (rel_tr hAll 3) 2) 1) 1⟩
      have ea : nI (T c) + (100 : Int32) + nI (T c) = (2 : Int32) * nI (T c) + (100 : Int32) := by
        rw [show (100 : Int32) = nI 100 from rfl, show (2 : Int32) = nI 2 from rfl, nI_add, nI_add, pk_mul, nI_add]
        congr 1
        omega
      rw [ea]
  · rw [f1 u i1, f2 τ i2, Option.bind_some, Option.bind_some, if_neg n10]
    exact ⟨_, _, _, rfl, rfl, hAll⟩
theorem q_call {u : SX} {τ : SM} (h : Rel u τ) (x : Int32) : ∃ r u' τ', fX4_call x u = some (r, u') ∧ fX5_call x τ = some (r, τ') ∧ Rel u' τ' := by
  have hAll := h
  obtain ⟨p, d, pr, n, w, K, T, G, R, hA⟩ := h
  obtain ⟨⟨⟨b1, b2, b3, b4, b5⟩, i1, i2, -⟩, hR, hz, hm, hs, hF⟩ := hA
  unfold fX4_call fX5_call
  rcases who b1 x with ⟨c, hc, rfl, f1, f2⟩ | ⟨f1, f2⟩
  · obtain ⟨k1, k2, k3, k4, k5, k6, k7, k8⟩ := hz c hc
    obtain ⟨m1, m2, m3⟩ := hm c hc
    have hx := ixc (show c < 6 by omega) (by omega)
    rw [f1 u i1, f2 τ i2, Option.bind_some, Option.bind_some, if_pos rfl, nI_clamp (by omega)]
    show ∃ r u' τ', (if ¬ c < 6 then none else _) = some (r, u') ∧ _
    rw [if_neg (show ¬ ¬ c < 6 by omega)]
    simp only [fX5_call_26, fX4_leaveInTrace, fX5_traced, nI_clamp (show c < 2 ^ 31 by omega), Option.bind_some, if_neg hx, m1, k5]
    by_cases e : nI (K c) = (2 : Int32)
    · simp only [if_pos e]
      exact ⟨_, _, _, rfl, rfl, rel_tr hAll 5⟩
    · simp only [if_neg e]
      exact ⟨_, _, _, rfl, rfl, rel_tr hAll 4⟩
  · rw [f1 u i1, f2 τ i2, Option.bind_some, Option.bind_some, if_neg n10]
    exact ⟨_, _, _, rfl, rfl, hAll⟩
theorem q_as {u : SX} {τ : SM} (h : Rel u τ) (x y : Int32) : ∃ r u' τ', fX4_as x y u = some (r, u') ∧ fX5_as x y τ = some (r, τ') ∧ Rel u' τ' := by
  have hAll := h
  obtain ⟨p, d, pr, n, w, K, T, G, R, hA⟩ := h
  obtain ⟨⟨⟨b1, b2, b3, b4, b5⟩, i1, i2, -⟩, hR, hz, hm, hs, hF⟩ := hA
  unfold fX4_as fX5_as
  have i1' : (upd u.1 9 (0 : Int32)) 1 = nI p := by rw [pk_un (by decide)]; exact i1
  rcases who b1 x with ⟨c, hc, rfl, f1, f2⟩ | ⟨f1, f2⟩
  · obtain ⟨k1, k2, k3, k4, k5, k6, k7, k8⟩ := hz c hc
    obtain ⟨m1, m2, m3⟩ := hm c hc
    have hx := ixc (show c < 6 by omega) (by omega)
    have ein : fX5_in y.toInt64 (0 : Int64) (2 : Int64) = _ := in_lit y (lo := 0) (hi := 2) (by omega) (by omega)
    rw [f1 (upd u.1 9 (0 : Int32), u.2.1, u.2.2.1, u.2.2.2.1, u.2.2.2.2) i1', f2 τ i2, Option.bind_some, Option.bind_some, if_pos rfl, nI_clamp (by omega), ein, Option.bind_some]
    show ∃ r u' τ', (if ¬ c < 6 then none else _) = some (r, u') ∧ _
    rw [if_neg (show ¬ ¬ c < 6 by omega), if_neg hx, m1]
    by_cases q1 : y < nI 0
    · rw [if_pos (show y < 0 from q1), if_pos q1, if_pos rfl]
      exact ⟨_, _, _, rfl, rfl, rel_fault hAll 0⟩
    · rw [if_neg (show ¬ y < 0 from q1), if_neg q1]
      by_cases q2 : nI 2 < y
      · rw [if_neg (show ¬ y ≤ (2 : Int32) from (fa_of_lt q2).2.1), if_pos q2, if_pos rfl]
        exact ⟨_, _, _, rfl, rfl, rel_fault hAll 0⟩
      · rw [if_pos (show y ≤ (2 : Int32) from fa_of_nlt q2), if_neg q2, if_neg n10, k5]
        by_cases q4 : y ≤ nI (K c)
        · rw [if_pos q4, if_neg (fun z => (fa_of_lt z).2.1 q4)]
          exact ⟨_, _, _, rfl, rfl, rel_fault hAll 0⟩
        · rw [if_neg q4, if_pos (fa_of_nle q4)]
          refine ⟨_, _, _, rfl, rfl, ?_⟩
          have e := rel_fault hAll 2
          rw [← fa_upd_twice u.1 9 0 2] at e
          exact e
  · rw [f1 (upd u.1 9 (0 : Int32), u.2.1, u.2.2.1, u.2.2.2.1, u.2.2.2.2) i1', f2 τ i2, Option.bind_some, Option.bind_some, if_neg n10]
    exact ⟨_, _, _, rfl, rfl, rel_fault hAll 0⟩
-- what readings allow
theorem c_all_loop {sl : Nat → Nat} {p d w n : Nat} {R : Nat → Nat} {u : SX} (hB : dB sl p d w) (h : dOK sl p d w u.2.2.2.2) (hn : n ≤ 8) (h5 : u.1 5 = nI n) (hR : ∀ k, k < n → R k < 64 ∧ u.2.1 k = nI (R k)) : ∀ f k, n < k + f → k ≤ n → cbn (fun k => Gs sl (di (2 ^ p - 1) (R k)) (tk d (tot sl p))) k = true → fX4_allReadingsCanBe_2 f (nI k) u = some (t01 (cbn (fun k => Gs sl (di (2 ^ p - 1) (R k)) (tk d (tot sl p))) n)) := by
  intro f
  induction f with
  | zero => intro k g1 g2; omega
  | succ f ih =>
    intro k g1 g2 g3
    rw [fX4_allReadingsCanBe_2, h5]
    unfold fX4_allReadingsCanBe_43
    by_cases hk : n ≤ k
    · have e : k = n := by omega
      subst e
      rw [if_pos (nI_le hk (by omega)), z1, g3]; rfl
    · obtain ⟨r1, r2⟩ := hR k (by omega)
      rw [if_neg (nI_ge (by omega) (by omega)), if_neg (show ¬ (8 : Int32) ≤ nI k from (show ¬ nI 8 ≤ nI k from nI_ge (by omega) (by omega))), if_neg (ix (by omega) (by omega)), nI_clamp (by omega), r2, s_can hB h r1, Option.bind_some, z0]
      have ec : cbn (fun k => Gs sl (di (2 ^ p - 1) (R k)) (tk d (tot sl p))) (k + 1) = (cbn (fun k => Gs sl (di (2 ^ p - 1) (R k)) (tk d (tot sl p))) k && decide (0 < Gs sl (di (2 ^ p - 1) (R k)) (tk d (tot sl p)))) := rfl
      rw [g3, Bool.true_and] at ec
      by_cases hq : 0 < Gs sl (di (2 ^ p - 1) (R k)) (tk d (tot sl p))
      · rw [if_pos hq, if_neg n10, nI_1]
        exact ih (k + 1) (by omega) (by omega) (by rw [ec, decide_eq_true hq])
      · rw [if_neg hq, if_pos rfl, cbn_no (show cbn (fun k => Gs sl (di (2 ^ p - 1) (R k)) (tk d (tot sl p))) (k + 1) = false by rw [ec, decide_eq_false hq]) (by omega)]
        rfl
theorem c_all {sl : Nat → Nat} {p d w n : Nat} {R : Nat → Nat} {u : SX} (hB : dB sl p d w) (h : dOK sl p d w u.2.2.2.2) (hn : n ≤ 8) (h5 : u.1 5 = nI n) (hR : ∀ k, k < n → R k < 64 ∧ u.2.1 k = nI (R k)) : fX4_allReadingsCanBe u = some (t01 (cbn (fun k => Gs sl (di (2 ^ p - 1) (R k)) (tk d (tot sl p))) n)) := c_all_loop hB h hn h5 hR fu 0 (by unfold fu; omega) (by omega) rfl
theorem vup2 {α : Type} (f : Nat → α) (c : Nat) (a b : α) : va_up (va_up f c a) c b = va_up f c b := by
  funext i
  by_cases h : i = c
  · rw [h, va_up_self, va_up_self]
  · rw [va_up_ne _ _ h, va_up_ne _ _ h, va_up_ne _ _ h]
theorem vupS {α : Type} (f : Nat → α) (c : Nat) : va_up f c (f c) = f := by
  funext i
  by_cases h : i = c
  · rw [h, va_up_self]
  · rw [va_up_ne _ _ h]
def updM (τ : SM) (j c : Nat) (a : Int32) : SM := (τ.1, va_up τ.2 j (upd (τ.2 j) c a))
theorem updM2 (τ : SM) (j c : Nat) (a b : Int32) : updM (updM τ j c a) j c b = updM τ j c b := by
  show (τ.1, va_up (va_up τ.2 j (upd (τ.2 j) c a)) j (upd ((va_up τ.2 j (upd (τ.2 j) c a)) j) c b)) = (τ.1, va_up τ.2 j (upd (τ.2 j) c b))
  rw [va_up_self, vup2, fa_upd_twice]
theorem updMS {τ : SM} {j c : Nat} {a : Int32} (h : τ.2 j c = a) : updM τ j c a = τ := by
  unfold updM
  rw [fa_upd_same h, vupS]
theorem tot_up {sl : Nat → Nat} {p c m : Nat} (hc : c < p) : tot (va_up sl c m) p + sl c = tot sl p + m := fb_sm_upd sl m hc
theorem dB_up {sl : Nat → Nat} {p d w c m : Nat} (hB : dB sl p d w) (ht : tot sl p ≤ 150) (hc : c < p) (h1 : 1 ≤ m) (h2 : m ≤ 50) : dB (va_up sl c m) p d w := by
  obtain ⟨b1, b2, b3, b4, b5⟩ := hB
  have e := tot_up (sl := sl) (m := m) hc
  refine ⟨b1, b2, b3, by omega, fun i hi => ?_⟩
  by_cases q : i = c
  · rw [q, va_up_self]; exact h1
  · rw [va_up_ne _ _ q]; exact b5 i hi
theorem t01_0 (b : Bool) : t01 b = 0 ↔ b = false := by cases b <;> decide
theorem or0 (x : Int32) : x ||| (0 : Int32) = x := Int32.or_zero
