/-! lose, put, cell -/
theorem end_c {k : Nat} {U : SX} : fX2_end k U = some (va_up U.2.2.2.1 k (upd (U.2.2.2.1 k).1 1 (0 : Int32), (U.2.2.2.1 k).2)) := by
  unfold fX2_end
  rw [if_neg (show ¬ ¬ ((0 : Int32) &&& 1 = (0 : Int32)) by decide)]
theorem q_lose {u : SX} {τ : SM} (h : Rel u τ) (x : Int32) : ∃ r u' τ', fX4_lose x u = some (r, u') ∧ fX5_lose x τ = some (r, τ') ∧ Rel u' τ' := by
  have hAll := h
  obtain ⟨p, d, pr, n, w, K, T, G, R, hI, hR, hz, hm, hs, hF⟩ := h
  unfold fX4_lose fX5_lose
  rcases isS x with ⟨k, hk, rfl, f1, f2⟩ | ⟨f1, f2⟩
  · have hx := ixc hk (by omega)
    rw [f1, f2, Option.bind_some, Option.bind_some, if_neg n10, if_pos rfl, nI_clamp (by omega), if_neg hx]
    unfold fX5_lose_23
    rw [nI_clamp (by omega)]
    rcases hs k hk with ⟨e1, e2⟩ | ⟨l, s, e1, c2, c3, hl, hs60, e8, e9, e10⟩
    · rw [show fX4_rowOf (nI k) u = some none from row_n hk e1, Option.bind_some, Option.elim_none, e2, if_neg (show ¬ (0 : Int32) ≤ (-1 : Int32) by decide), if_neg hx]
      refine ⟨_, _, _, rfl, rfl, ?_⟩
      rw [fa_upd_same e2, vupS]
      exact hAll
    · rw [show fX4_rowOf (nI k) u = some (some k) from row_y hk e1, Option.bind_some, Option.elim_some, if_neg (show ¬ ¬ k < 4 from fun z => z hk), end_c, Option.bind_some, e8, if_pos (nI_pos' (by omega)), if_neg hx]
      refine ⟨_, _, _, rfl, rfl, ?_⟩
      refine rel_sheet hAll (va_up_ne _ _ (by decide)) (va_up_ne _ _ (by decide)) (va_up_ne _ _ (by decide)) (va_up_ne _ _ (by decide)) (rS_up hs (Or.inl ⟨show upd (u.2.2.2.1 k).1 1 (0 : Int32) 1 = 0 from pk_us, ?_⟩) (fun j hj hjk => ⟨?_, ?_, fun i hi => ?_⟩))
      · rw [va_up_self, pk_us]
      · rw [va_up_self, pk_un hjk]
      · rw [va_up_ne _ _ (by decide)]
      · rw [va_up_ne _ _ (by decide)]
  · rw [f1, f2, Option.bind_some, Option.bind_some, if_pos rfl, if_neg n10]
    exact ⟨_, _, _, rfl, rfl, hAll⟩
theorem holdsL {s : Nat} {r : SR} (h3 : r.1 3 = nI s) (hs : s ≤ 60) (i n : Int32) : (∃ a b, i = nI a ∧ n = nI b ∧ a + b ≤ s ∧ fX2_holds i n r = some 1 ∧ fX5_isBeyond i n.toInt64 (nI s) = some 0) ∨ (fX2_holds i n r = some 0 ∧ fX5_isBeyond i n.toInt64 (nI s) = some 1) := by
  unfold fX2_holds fX2_holds_30 fX5_isBeyond fX5_isBeyond_20
  rw [z0, z1, h3]
  have e0 : n.toInt64 < (0 : Int64) ↔ n < 0 := fa_wide_lt n 0
  by_cases q1 : i < 0
  · rw [if_pos q1, if_pos q1]; exact Or.inr ⟨rfl, rfl⟩
  · rw [if_neg q1, if_neg q1]
    by_cases q2 : n < 0
    · rw [if_pos q2, if_pos ((lg_cmp_lt _ _).mpr (e0.mpr q2))]; exact Or.inr ⟨rfl, rfl⟩
    · rw [if_neg q2, if_neg (fun z => q2 (e0.mp ((lg_cmp_lt _ _).mp z)))]
      obtain ⟨a, ha, rfl⟩ := nI_of q1
      obtain ⟨b, hb, rfl⟩ := nI_of q2
      rw [nI_l ha, nI_l hb, nI_l (show s < 2 ^ 31 by omega), lN_add]
      by_cases q3 : a + b ≤ s
      · rw [if_pos ((lcmp_le (by rw [p63]; omega) (by rw [p63]; omega)).mpr q3), if_neg (nI_nlt (by omega) (by omega)), pk_sub (by omega), if_neg (nI_nlt (by omega) (by omega))]
        exact Or.inl ⟨a, b, rfl, rfl, q3, rfl, rfl⟩
      · rw [if_neg (fun z => q3 ((lcmp_le (by rw [p63]; omega) (by rw [p63]; omega)).mp z))]
        refine Or.inr ⟨?_, rfl⟩
        by_cases q4 : s < a
        · rw [if_pos (nI_lt q4 ha)]
        · rw [if_neg (nI_nlt (by omega) (by omega)), pk_sub (by omega), if_pos (nI_lt (by omega) hb)]
