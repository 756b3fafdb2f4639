/-! lose, put, cell -/
theorem q_lose {u : SX} {τ : SM} (h : Rel u τ) (x : Int32) : ∃ r u' τ', fX4_lose x u = some (r, u') ∧ fX5_lose x τ = some (r, τ') ∧ Rel u' τ' := by
  have hAll := h
  obtain ⟨p, d, pr, n, w, K, T, G, R, hI, hR, hz, hm, hs, hF⟩ := h
  unfold fX4_lose fX5_lose
  rcases isS x with ⟨k, hk, rfl, f1, f2⟩ | ⟨f1, f2⟩
  · have hx := ixc hk (by omega)
    rw [f1, f2, Option.bind_some, Option.bind_some, if_neg n10, if_pos rfl, nI_clamp (by omega), if_neg hx, if_neg hx]
    unfold fX5_lose_23
    rw [nI_clamp (by omega), if_neg hx]
    rcases hs k hk with ⟨e1, e2⟩ | ⟨l, s, c, e1, hl, hs60, e8, e9, e10⟩
    · rw [e1, e2, if_neg (show ¬ (0 : Int32) ≤ (-1 : Int32) by decide), if_neg hx]
      refine ⟨_, _, _, rfl, rfl, ?_⟩
      rw [fa_upd_same e2, vupS]
      exact hAll
    · rw [e1, e8, if_pos (nI_pos' (by omega))]
      rw [if_neg hx]
      refine ⟨_, _, _, rfl, rfl, ?_⟩
      refine rel_sheet hAll (va_up_ne _ _ (by decide)) (va_up_ne _ _ (by decide)) (va_up_ne _ _ (by decide)) (va_up_ne _ _ (by decide)) (rS_up hs (Or.inl ⟨rfl, ?_⟩) (fun j hj hjk => ⟨?_, ?_, fun i hi => ?_⟩))
      · rw [va_up_self, pk_us]
      · rw [va_up_self, pk_un hjk]
      · rw [va_up_ne _ _ (by decide)]
      · rw [va_up_ne _ _ (by decide)]
  · rw [f1, f2, Option.bind_some, Option.bind_some, if_pos rfl, if_neg n10]
    exact ⟨_, _, _, rfl, rfl, hAll⟩
