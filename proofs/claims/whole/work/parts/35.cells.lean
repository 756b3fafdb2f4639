/-! lose, put, cell -/
theorem q_lose {u : SX} {τ : SM} (h : Rel u τ) (x : Int32) : ∃ r u' τ', fX4_lose x u = some (r, u') ∧ fX5_lose x τ = some (r, τ') ∧ Rel u' τ' := by
  have hAll := h
  obtain ⟨p, d, pr, n, w, K, T, G, R, hI, hR, hz, hm, hs, hF⟩ := h
  unfold fX4_lose fX5_lose
  rcases isS x with ⟨k, hk, rfl, f1, f2⟩ | ⟨f1, f2⟩
  · have hx := ixc hk (by omega)
    rw [f1, f2, Option.bind_some, Option.bind_some, if_neg n10, if_pos rfl, nI_clamp (by omega), if_neg hx, if_neg hx]
    unfold fX5_lose_23
    rw [nI_clamp (by omega), if_neg hx]
    rcases hs k hk with ⟨e1, e2⟩ | ⟨l, s, c, e1, hl, hs60, e8, e9, e10⟩
    · rw [e1, e2, if_neg (show ¬ (0 : Int32) ≤ (-1 : Int32) by decide), if_neg hx]
      refine ⟨_, _, _, rfl, rfl, ?_⟩
      rw [fa_upd_same e2, vupS]
      exact hAll
    · rw [e1, e8, if_pos (nI_pos' (by omega))]
      rw [if_neg hx]
      refine ⟨_, _, _, rfl, rfl, ?_⟩
      refine rel_sheet hAll (va_up_ne _ _ (by decide)) (va_up_ne _ _ (by decide)) (va_up_ne _ _ (by decide)) (va_up_ne _ _ (by decide)) (rS_up hs (Or.inl ⟨rfl, ?_⟩) (fun j hj hjk => ⟨?_, ?_, fun i hi => ?_⟩))
      · rw [va_up_self, pk_us]
      · rw [va_up_self, pk_un hjk]
      · rw [va_up_ne _ _ (by decide)]
      · rw [va_up_ne _ _ (by decide)]
  · rw [f1, f2, Option.bind_some, Option.bind_some, if_pos rfl, if_neg n10]
    exact ⟨_, _, _, rfl, rfl, hAll⟩
theorem holdsL {l s : Nat} {c : Nat → Int32} (hs : s ≤ 60) (i n : Int32) : (∃ a b, i = nI a ∧ n = nI b ∧ a + b ≤ s ∧ fX2_holds i n (nI l, s, c) = some 1 ∧ fX5_isBeyond i n.toInt64 (nI s) = some 0) ∨ (fX2_holds i n (nI l, s, c) = some 0 ∧ fX5_isBeyond i n.toInt64 (nI s) = some 1) := by
  unfold fX2_holds fX2_holds_32 fX5_isBeyond fX5_isBeyond_20
  rw [z0, z1]
  have e0 : n.toInt64 < (0 : Int64) ↔ n < 0 := fa_wide_lt n 0
  by_cases q1 : i < 0
  · rw [if_pos q1, if_pos q1]; exact Or.inr ⟨rfl, rfl⟩
  · rw [if_neg q1, if_neg q1]
    by_cases q2 : n < 0
    · rw [if_pos q2, if_pos ((lg_cmp_lt _ _).mpr (e0.mpr q2))]; exact Or.inr ⟨rfl, rfl⟩
    · rw [if_neg q2, if_neg (fun z => q2 (e0.mp ((lg_cmp_lt _ _).mp z)))]
      obtain ⟨a, ha, rfl⟩ := nI_of q1
      obtain ⟨b, hb, rfl⟩ := nI_of q2
      show (∃ a' b', _ ∧ _ ∧ _ ∧ (if nI s < nI a then _ else if nI s - nI a < nI b then _ else _) = _ ∧ _) ∨ ((if nI s < nI a then _ else if nI s - nI a < nI b then _ else _) = _ ∧ _)
      rw [nI_l ha, nI_l hb, nI_l (show s < 2 ^ 31 by omega), lN_add]
      by_cases q3 : a + b ≤ s
      · rw [if_pos ((lcmp_le (by rw [p63]; omega) (by rw [p63]; omega)).mpr q3), if_neg (nI_nlt (by omega) (by omega)), pk_sub (by omega), if_neg (nI_nlt (by omega) (by omega))]
        exact Or.inl ⟨a, b, rfl, rfl, q3, rfl, rfl⟩
      · rw [if_neg (fun z => q3 ((lcmp_le (by rw [p63]; omega) (by rw [p63]; omega)).mp z))]
        refine Or.inr ⟨?_, rfl⟩
        by_cases q4 : s < a
        · rw [if_pos (nI_lt q4 ha)]
        · rw [if_neg (nI_nlt (by omega) (by omega)), pk_sub (by omega), if_pos (nI_lt (by omega) hb)]
