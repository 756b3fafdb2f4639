/-! sheets -/
theorem isS (x : Int32) : (∃ k, k < 4 ∧ x = nI k ∧ fX4_isSheet x = some 1 ∧ fX5_noSheet x = some 0) ∨ (fX4_isSheet x = some 0 ∧ fX5_noSheet x = some 1) := by
  have ein : fX5_in x.toInt64 (0 : Int64) (3 : Int64) = _ := in_lit x (lo := 0) (hi := 3) (by omega) (by omega)
  unfold fX4_isSheet fX4_isSheet_13 fX5_noSheet
  rw [z0, z1, ein, Option.bind_some]
  by_cases q1 : x < nI 0
  · refine Or.inr ⟨?_, ?_⟩
    · rw [if_pos (show x < 0 from q1)]
    · rw [if_pos q1, if_pos rfl]
  · by_cases q2 : nI 3 < x
    · refine Or.inr ⟨?_, ?_⟩
      · rw [if_neg (show ¬ x < 0 from q1)]
        obtain ⟨j, hj, rfl⟩ := nI_of (show ¬ x < 0 from q1)
        have := (nI_ltI (by omega) hj).mp q2
        rw [if_pos (show (4 : Int32) ≤ nI j from (show nI 4 ≤ nI j from nI_le (by omega) hj))]
      · rw [if_neg q1, if_pos q2, if_pos rfl]
    · obtain ⟨e, -, he, rfl⟩ := sp_nat q1 q2 (by omega) (by omega)
      refine Or.inl ⟨e, by omega, rfl, ?_, ?_⟩
      · rw [if_neg (nI_pos (by omega)), if_neg (show ¬ (4 : Int32) ≤ nI e from (show ¬ nI 4 ≤ nI e from nI_ge (by omega) (by omega)))]
      · rw [if_neg q1, if_neg q2, if_neg n10]
theorem isL (x : Int32) : (∃ l, l ≤ 2 ∧ x = nI l ∧ fX4_isLane x = some 1 ∧ fX5_in x.toInt64 (0 : Int64) (2 : Int64) = some 1) ∨ (fX4_isLane x = some 0 ∧ fX5_in x.toInt64 (0 : Int64) (2 : Int64) = some 0) := by
  have ein : fX5_in x.toInt64 (0 : Int64) (2 : Int64) = _ := in_lit x (lo := 0) (hi := 2) (by omega) (by omega)
  unfold fX4_isLane fX4_isLane_13
  rw [z0, z1, ein]
  by_cases q1 : x < nI 0
  · refine Or.inr ⟨?_, ?_⟩
    · rw [if_pos (show x < 0 from q1)]
    · rw [if_pos q1]
  · by_cases q2 : nI 2 < x
    · refine Or.inr ⟨?_, ?_⟩
      · rw [if_neg (show ¬ x < 0 from q1)]
        obtain ⟨j, hj, rfl⟩ := nI_of (show ¬ x < 0 from q1)
        have := (nI_ltI (by omega) hj).mp q2
        rw [if_pos (show (3 : Int32) ≤ nI j from (show nI 3 ≤ nI j from nI_le (by omega) hj))]
      · rw [if_neg q1, if_pos q2]
    · obtain ⟨e, -, he, rfl⟩ := sp_nat q1 q2 (by omega) (by omega)
      refine Or.inl ⟨e, he, rfl, ?_, ?_⟩
      · rw [if_neg (nI_pos (by omega)), if_neg (show ¬ (3 : Int32) ≤ nI e from (show ¬ nI 3 ≤ nI e from nI_ge (by omega) (by omega)))]
      · rw [if_neg q1, if_neg q2]
theorem isS_k {k : Nat} (hk : k < 4) : fX4_isSheet (nI k) = some 1 := by
  unfold fX4_isSheet
  rw [if_neg (nI_pos (by omega)), if_neg (show ¬ (4 : Int32) ≤ nI k from (show ¬ nI 4 ≤ nI k from nI_ge (by omega) (by omega))), z1]
theorem place_k {k : Nat} (hk : k < 4) (u : SX) : fX4_placeOf (nI k) u = some (some k) := by
  unfold fX4_placeOf
  rw [isS_k hk, Option.bind_some, if_neg n10, if_neg (show ¬ (4 : Int32) ≤ nI k from (show ¬ nI 4 ≤ nI k from nI_ge (by omega) (by omega))), nI_clamp (by omega), if_neg (ixc hk (by omega))]
theorem place_n {x : Int32} (h : fX4_isSheet x = some 0) (u : SX) : fX4_placeOf x u = some none := by
  unfold fX4_placeOf fX4_placeOf_25
  rw [h, Option.bind_some, if_pos rfl]
/-- what a sheet has: nothing, or its row -/
theorem row_n {k : Nat} {i b : Nat → Int32} {c : Nat → Nat → Int32} {sh : Nat → SR} {dr : SD} (hk : k < 4) (h : (sh k).1 1 = 0) : fX4_rowOf (nI k) (i, b, c, sh, dr) = some none := by
  unfold fX4_rowOf fX4_rowOf_21
  rw [place_k hk, Option.bind_some, Option.elim_some, if_neg (show ¬ ¬ k < 4 from fun z => z hk)]
  exact if_pos h
theorem row_y {k : Nat} {i b : Nat → Int32} {c : Nat → Nat → Int32} {sh : Nat → SR} {dr : SD} (hk : k < 4) (h : (sh k).1 1 = 1) : fX4_rowOf (nI k) (i, b, c, sh, dr) = some (some k) := by
  unfold fX4_rowOf
  rw [place_k hk, Option.bind_some, Option.elim_some, if_neg (show ¬ ¬ k < 4 from fun z => z hk)]
  exact if_neg (show ¬ (sh k).1 1 = 0 by rw [h]; decide)
theorem rO_cong {k : Nat} {o : SR} {m m' : Nat → Nat → Int32} (h8 : m' 8 k = m 8 k) (h9 : m' 9 k = m 9 k) (h10 : ∀ i, i < 60 → m' 10 (60 * k + i) = m 10 (60 * k + i)) (h : rO k o m) : rO k o m' := by
  rcases h with ⟨h1, h2⟩ | ⟨l, s, h1, i2, i3, h2, h3, h4, h5, h6⟩
  · exact Or.inl ⟨h1, h8.trans h2⟩
  · exact Or.inr ⟨l, s, h1, i2, i3, h2, h3, h8.trans h4, h9.trans h5, fun i hi => (h6 i hi).trans (h10 i (by omega)).symm⟩
theorem rS_up {k : Nat} {o : SR} {sh : Nat → SR} {m m' : Nat → Nat → Int32} (hs : rS sh m) (ho : rO k o m') (hn : ∀ j, j < 4 → j ≠ k → m' 8 j = m 8 j ∧ m' 9 j = m 9 j ∧ ∀ i, i < 60 → m' 10 (60 * j + i) = m 10 (60 * j + i)) : rS (va_up sh k o) m' := by
  intro j hj
  by_cases q : j = k
  · rw [q, va_up_self]; exact ho
  · rw [va_up_ne _ _ q]
    obtain ⟨a, b, c⟩ := hn j hj q
    exact rO_cong a b c (hs j hj)
theorem rel_sheet {u : SX} {τ : SM} {sh' : Nat → SR} {m' : Nat → Nat → Int32} (h : Rel u τ) (e1 : m' 1 = τ.2 1) (e2 : m' 2 = τ.2 2) (e3 : m' 3 = τ.2 3) (e7 : m' 7 = τ.2 7) (hs : rS sh' m') : Rel (u.1, u.2.1, u.2.2.1, sh', u.2.2.2.2) (τ.1, m') := by
  obtain ⟨p, d, pr, n, w, K, T, G, R, h1, h2, h3, h4, h5, h6⟩ := h
  refine ⟨p, d, pr, n, w, K, T, G, R, h1, ?_, h3, ?_, hs, h6⟩
  · show rR n p R u.2.1 (m' 7)
    rw [e7]; exact h2
  · intro c hc
    show m' 1 c = nI (K c) ∧ m' 2 c = nI (T c) ∧ m' 3 c = nI (G c)
    rw [e1, e2, e3]; exact h4 c hc
