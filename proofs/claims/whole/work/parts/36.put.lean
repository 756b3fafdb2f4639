/-! put, cell -/
theorem iteS {α : Type} {c : Prop} [Decidable c] (a b : α) : (if c then some a else some b) = some (if c then a else b) := by
  split <;> rfl
theorem oneL {l s k : Nat} {c : Nat → Int32} (hk : k < 4) (hs : s ≤ 60) (i : Int32) : (∃ a, a < s ∧ i = nI a ∧ fX2_holds i 1 (nI l, s, c) = some 1 ∧ ∀ τ : SM, τ.2 8 k = nI s → fX5_noCell (nI k) i τ = some 0) ∨ (fX2_holds i 1 (nI l, s, c) = some 0 ∧ ∀ τ : SM, τ.2 8 k = nI s → fX5_noCell (nI k) i τ = some 3) := by
  have hx := ixc hk (by omega)
  have nc : ∀ τ : SM, τ.2 8 k = nI s → fX5_noCell (nI k) i τ = some (if (if i < 0 then (0 : Int32) else if nI s ≤ i then 0 else 1) = 0 then (3 : Int32) else 0) := by
    intro τ ht
    unfold fX5_noCell
    rw [nI_clamp (by omega), if_neg hx, if_neg hx, ht, if_pos (nI_pos' (by omega)), in_bel i (by omega), Option.bind_some]
    exact iteS _ _
  rcases holdsL (l := l) (c := c) hs i 1 with ⟨a, b, rfl, e, h1, h2, -⟩ | ⟨h1, h2⟩
  · have hb1 : b = 1 := by
      have : ∀ b, b ≤ 60 → (1 : Int32) = nI b → b = 1 := by
        intro b hb e
        exact ((nI_eq (a := 1) (b := b) (by omega) (by omega)).mp e).symm
      exact this b (by omega) e
    subst hb1
    refine Or.inl ⟨a, by omega, rfl, h2, fun τ ht => ?_⟩
    rw [nc τ ht, if_neg (nI_pos (by omega)), if_neg (nI_ge (show a < s by omega) (by omega)), if_neg n10]
  · refine Or.inr ⟨h1, fun τ ht => ?_⟩
    rw [nc τ ht]
    rcases pk_ix i (n := s) (by omega) with q | q | ⟨j, hj, rfl⟩
    · rw [if_pos q, if_pos rfl]
    · by_cases q2 : i < 0
      · rw [if_pos q2, if_pos rfl]
      · rw [if_neg q2, if_pos q, if_pos rfl]
    · exfalso
      unfold fX5_isBeyond fX5_isBeyond_20 at h2
      rw [z0, z1, if_neg (nI_pos (by omega)), if_neg (show ¬ lg_cmp (1 : Int32).toInt64 (0 : Int64) < 0 by decide), nI_l (show j < 2 ^ 31 by omega), nI_l (show s < 2 ^ 31 by omega), show (1 : Int32).toInt64 = lN 1 from rfl, lN_add, if_pos ((lcmp_le (by rw [p63]; omega) (by rw [p63]; omega)).mpr (by omega))] at h2
      revert h2; decide
theorem ix60 {k a : Nat} : (60 : Int32) * nI k + nI a = nI (60 * k + a) := by
  rw [show (60 : Int32) = nI 60 from rfl, pk_mul, nI_add]
theorem rel_fx {u : SX} {τ : SM} (h : Rel u τ) (x : Int32) : Rel (upd (upd u.1 9 (0 : Int32)) 9 x, u.2.1, u.2.2.1, u.2.2.2.1, u.2.2.2.2) (upd τ.1 0 x, τ.2) := by
  rw [fa_upd_twice]
  exact rel_fault h x
theorem rel_fy {u : SX} {τ : SM} (h : Rel u τ) (x : Int32) : Rel (upd (upd u.1 9 (0 : Int32)) 9 x, u.2.1, u.2.2.1, u.2.2.2.1, u.2.2.2.2) (upd (upd τ.1 0 (0 : Int32)) 0 x, τ.2) := by
  rw [fa_upd_twice, fa_upd_twice]
  exact rel_fault h x
theorem rel_f0 {u : SX} {τ : SM} (h : Rel u τ) : Rel (upd u.1 9 (0 : Int32), u.2.1, u.2.2.1, u.2.2.2.1, u.2.2.2.2) (upd τ.1 0 (0 : Int32), τ.2) := rel_fault h 0
theorem rS_cell {sh : Nat → Option SR} {m : Nat → Nat → Int32} {k l s a : Nat} {c : Nat → Int32} {v : Int32} (hs : rS sh m) (hl : l ≤ 2) (hs60 : s ≤ 60) (e8 : m 8 k = nI s) (e9 : m 9 k = nI l) (e10 : ∀ i, i < s → c i = m 10 (60 * k + i)) (ha : a < s) : rS (va_up sh k (some (nI l, s, upd c a v))) (va_up m 10 (upd (m 10) (60 * k + a) v)) := by
  refine rS_up hs (Or.inr ⟨l, s, _, rfl, hl, hs60, ?_, ?_, fun i hi => ?_⟩) (fun j hj hjk => ⟨?_, ?_, fun i hi => ?_⟩)
  · rw [va_up_ne _ _ (by decide)]; exact e8
  · rw [va_up_ne _ _ (by decide)]; exact e9
  · rw [va_up_self]
    by_cases q : i = a
    · rw [q, pk_us, pk_us]
    · rw [pk_un q, pk_un (by omega)]; exact e10 i hi
  · rw [va_up_ne _ _ (by decide)]
  · rw [va_up_ne _ _ (by decide)]
  · rw [va_up_self, pk_un (by omega)]
def cutv (l : Nat) (z : Int32) : Int32 := if l = 0 then z.toInt8.toInt32 else if l = 1 then z.toInt16.toInt32 else z
theorem set_c {l s a k : Nat} {c : Nat → Int32} (hl : l ≤ 2) (hs60 : s ≤ 60) (ha : a < s) (z : Int32) (U : SX) : fX2_set k (nI l, s, c) (nI a) z U = some (va_up U.2.2.2.1 k (some (nI l, s, upd c a (cutv l z)))) := by
  unfold fX2_set fX2_cut cutv
  show (if nI a < 0 then _ else if nI s ≤ nI a then _ else (if nI l = 0 then _ else if nI l = 1 then _ else _ : Option Int32).bind _) = _
  rw [if_neg (nI_pos (by omega)), if_neg (nI_ge ha (by omega))]
  have h3 : l = 0 ∨ l = 1 ∨ l = 2 := by omega
  dsimp only
  rw [nI_clamp (by omega)]
  have hxa := ixc ha (by omega)
  rcases h3 with rfl | rfl | rfl
  · rw [if_pos (show nI 0 = 0 from rfl), if_pos rfl, Option.bind_some, if_neg hxa]
  · rw [if_neg (show ¬ nI 1 = 0 by decide), if_pos (show nI 1 = 1 from rfl), if_neg (by decide), if_pos rfl, Option.bind_some, if_neg hxa]
  · rw [if_neg (show ¬ nI 2 = 0 by decide), if_neg (show ¬ nI 2 = 1 by decide), if_neg (by decide), if_neg (by decide), Option.bind_some, if_neg hxa]
theorem put_m {k a : Nat} (hk : k < 4) (ha : a < 60) (v : Int32) (τ : SM) : fX5_put_73 ((60 : Int32) * nI k + nI a) v τ = some (1, (upd τ.1 0 (0 : Int32), va_up τ.2 10 (upd (τ.2 10) (60 * k + a) v))) := by
  unfold fX5_put_73
  rw [ix60, nI_clamp (by omega), if_neg (ixc (show 60 * k + a < 240 by omega) (by omega))]
  rfl
theorem q_put {u : SX} {τ : SM} (h : Rel u τ) (x y z : Int32) : ∃ r u' τ', fX4_put x y z u = some (r, u') ∧ fX5_put x y z τ = some (r, τ') ∧ Rel u' τ' := by
  have hAll := h
  obtain ⟨p, d, pr, n, w, K, T, G, R, hI, hR, hz, hm, hs, hF⟩ := h
  unfold fX4_put fX5_put
  rcases isS x with ⟨k, hk, rfl, f1, f2⟩ | ⟨f1, f2⟩
  · have hx := ixc hk (by omega)
    rw [f1, f2, Option.bind_some, Option.bind_some, if_neg n10, if_pos rfl, nI_clamp (by omega), if_neg hx]
    rcases hs k hk with ⟨e1, e2⟩ | ⟨l, s, c, e1, hl, hs60, e8, e9, e10⟩
    · have nc : fX5_noCell (nI k) y τ = some 1 := by
        unfold fX5_noCell
        rw [nI_clamp (by omega), if_neg hx, e2, if_neg (show ¬ (0 : Int32) ≤ (-1 : Int32) by decide)]
      rw [e1, nc, Option.bind_some, if_neg (show ¬ (1 : Int32) ≤ 0 by decide), Option.bind_some]
      exact ⟨_, _, _, rfl, rfl, rel_fx hAll 1⟩
    · rw [e1, Option.elim_some]
      rcases oneL (l := l) (c := c) hk hs60 y with ⟨a, ha, rfl, g1, g2⟩ | ⟨g1, g2⟩
      · rw [g1, g2 τ e8, Option.bind_some, Option.bind_some, if_neg n10, if_pos (show (0 : Int32) ≤ 0 by decide), set_c hl hs60 ha, Option.bind_some, e9, if_neg hx, if_neg hx, put_m hk (by omega), put_m hk (by omega), put_m hk (by omega)]
        have h3 : l = 0 ∨ l = 1 ∨ l = 2 := by omega
        refine ⟨_, _, (upd τ.1 0 (0 : Int32), va_up τ.2 10 (upd (τ.2 10) (60 * k + a) (cutv l z))), rfl, ?_, ?_⟩
        · unfold cutv
          rcases h3 with rfl | rfl | rfl
          · rw [if_pos (show nI 0 = 0 from rfl), if_pos rfl]
          · rw [if_neg (show ¬ nI 1 = 0 by decide), if_pos (show nI 1 = 1 from rfl), if_neg (by decide), if_pos rfl]
          · rw [if_neg (show ¬ nI 2 = 0 by decide), if_neg (show ¬ nI 2 = 1 by decide), if_neg (by decide), if_neg (by decide)]
        · exact rel_sheet (rel_f0 hAll) (va_up_ne _ _ (by decide)) (va_up_ne _ _ (by decide)) (va_up_ne _ _ (by decide)) (va_up_ne _ _ (by decide)) (rS_cell hs hl hs60 e8 e9 e10 ha)
      · rw [g1, g2 τ e8, Option.bind_some, Option.bind_some, if_pos rfl, if_neg (show ¬ (3 : Int32) ≤ 0 by decide), Option.bind_some]
        exact ⟨_, _, _, rfl, rfl, rel_fx hAll 3⟩
  · rw [f1, f2, Option.bind_some, Option.bind_some, if_pos rfl, if_neg n10]
    exact ⟨_, _, _, rfl, rfl, rel_f0 hAll⟩
theorem q_cell {u : SX} {τ : SM} (h : Rel u τ) (x y z : Int32) : ∃ r u' τ', fX4_cell x y z u = some (r, u') ∧ fX5_cell x y z τ = some (r, τ') ∧ Rel u' τ' := by
  have hAll := h
  obtain ⟨p, d, pr, n, w, K, T, G, R, hI, hR, hz, hm, hs, hF⟩ := h
  unfold fX4_cell fX5_cell
  rcases isS x with ⟨k, hk, rfl, f1, f2⟩ | ⟨f1, f2⟩
  · have hx := ixc hk (by omega)
    rw [f1, f2, Option.bind_some, Option.bind_some, if_neg n10, if_pos rfl]
    rcases isL z with ⟨l', hl', rfl, g1, g2⟩ | ⟨g1, g2⟩
    · rw [g1, g2, Option.bind_some, Option.bind_some, if_neg n10, if_neg n10, nI_clamp (by omega), if_neg hx, if_neg hx]
      unfold fX5_cell_53
      rcases hs k hk with ⟨e1, e2⟩ | ⟨l, s, c, e1, hl, hs60, e8, e9, e10⟩
      · have nc : fX5_noCell (nI k) y (upd τ.1 0 (0 : Int32), τ.2) = some 1 := by
          unfold fX5_noCell
          rw [nI_clamp (by omega), if_neg hx]
          show (if 0 ≤ τ.2 8 k then _ else _) = _
          rw [e2, if_neg (show ¬ (0 : Int32) ≤ (-1 : Int32) by decide)]
        rw [e1, e2, if_pos (show (-1 : Int32) < 0 by decide), nc, Option.bind_some, if_neg (show ¬ (1 : Int32) ≤ 0 by decide), Option.bind_some]
        exact ⟨_, _, _, rfl, rfl, rel_fy hAll 1⟩
      · rw [e1, e8, e9, Option.elim_some, if_neg (nI_pos (by omega)), if_neg hx]
        unfold fX4_faultOf
        show ∃ r u' τ', (if nI l = nI l' then _ else _ : Option Int32).bind _ = _ ∧ _ ∧ _
        by_cases q : nI l = nI l'
        · rw [if_pos q, if_pos q, if_pos (show (0 : Int32) ≤ 1 by decide)]
          rcases oneL (l := l) (c := c) hk hs60 y with ⟨a, ha, rfl, g1, g2⟩ | ⟨g1, g2⟩
          · rw [g1, g2 (upd τ.1 0 (0 : Int32), τ.2) e8, Option.bind_some, Option.bind_some, if_neg n10, if_pos (show (0 : Int32) ≤ 0 by decide), ix60, nI_clamp (by omega), if_neg (ixc (show 60 * k + a < 240 by omega) (by omega)), Option.bind_some, if_pos rfl]
            unfold fX2_at
            show ∃ r u' τ', (if nI a < 0 then _ else if nI s ≤ nI a then _ else _ : Option Int32).bind _ = _ ∧ _ ∧ _
            rw [if_neg (nI_pos (by omega)), if_neg (nI_ge ha (by omega)), nI_clamp (by omega), if_neg (ixc ha (by omega))]
            refine ⟨_, _, _, rfl, ?_, rel_f0 hAll⟩
            show some ((τ.2 10 (60 * k + a)).toInt64, _) = some ((c a).toInt64, _)
            rw [e10 a ha]
          · rw [g1, g2 (upd τ.1 0 (0 : Int32), τ.2) e8, Option.bind_some, Option.bind_some, if_pos rfl, if_neg (show ¬ (3 : Int32) ≤ 0 by decide), Option.bind_some, Option.bind_some, if_neg (show ¬ (3 : Int32) = 0 by decide)]
            exact ⟨_, _, _, rfl, rfl, rel_fy hAll 3⟩
        · rw [if_neg q, if_neg q, Option.bind_some, if_neg (show ¬ (2 : Int32) = 0 by decide)]
          exact ⟨_, _, _, rfl, rfl, rel_fy hAll 2⟩
    · rw [g1, g2, Option.bind_some, Option.bind_some, if_pos rfl, if_pos rfl]
      exact ⟨_, _, _, rfl, rfl, rel_f0 hAll⟩
  · rw [f1, f2, Option.bind_some, Option.bind_some, if_pos rfl, if_neg n10]
    exact ⟨_, _, _, rfl, rfl, rel_f0 hAll⟩
