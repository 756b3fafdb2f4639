/-! put, cell -/
theorem iteS {α : Type} {c : Prop} [Decidable c] (a b : α) : (if c then some a else some b) = some (if c then a else b) := by
  split <;> rfl
theorem oneL {s k : Nat} {r : SR} (h3 : r.1 3 = nI s) (hk : k < 4) (hs : s ≤ 60) (i : Int32) : (∃ a, a < s ∧ i = nI a ∧ fX2_holds i 1 r = some 1 ∧ ∀ τ : SM, τ.2 8 k = nI s → fX5_noCell (nI k) i τ = some 0) ∨ (fX2_holds i 1 r = some 0 ∧ ∀ τ : SM, τ.2 8 k = nI s → fX5_noCell (nI k) i τ = some 3) := by
  have hx := ixc hk (by omega)
  have nc : ∀ τ : SM, τ.2 8 k = nI s → fX5_noCell (nI k) i τ = some (if (if i < 0 then (0 : Int32) else if nI s ≤ i then 0 else 1) = 0 then (3 : Int32) else 0) := by
    intro τ ht
    unfold fX5_noCell
    rw [nI_clamp (by omega), if_neg hx, if_neg hx, ht, if_pos (nI_pos' (by omega)), in_bel i (by omega), Option.bind_some]
    exact iteS _ _
  rcases holdsL h3 hs i 1 with ⟨a, b, rfl, e, h1, h2, -⟩ | ⟨h1, h2⟩
  · have hb1 : b = 1 := by
      have : ∀ b, b ≤ 60 → (1 : Int32) = nI b → b = 1 := by
        intro b hb e
        exact ((nI_eq (a := 1) (b := b) (by omega) (by omega)).mp e).symm
      exact this b (by omega) e
    subst hb1
    refine Or.inl ⟨a, by omega, rfl, h2, fun τ ht => ?_⟩
    rw [nc τ ht, if_neg (nI_pos (by omega)), if_neg (nI_ge (show a < s by omega) (by omega)), if_neg n10]
  · refine Or.inr ⟨h1, fun τ ht => ?_⟩
    rw [nc τ ht]
    rcases pk_ix i (n := s) (by omega) with q | q | ⟨j, hj, rfl⟩
    · rw [if_pos q, if_pos rfl]
    · by_cases q2 : i < 0
      · rw [if_pos q2, if_pos rfl]
      · rw [if_neg q2, if_pos q, if_pos rfl]
    · exfalso
      unfold fX5_isBeyond fX5_isBeyond_20 at h2
      rw [z0, z1, if_neg (nI_pos (by omega)), if_neg (show ¬ lg_cmp (1 : Int32).toInt64 (0 : Int64) < 0 by decide), nI_l (show j < 2 ^ 31 by omega), nI_l (show s < 2 ^ 31 by omega), show (1 : Int32).toInt64 = lN 1 from rfl, lN_add, if_pos ((lcmp_le (by rw [p63]; omega) (by rw [p63]; omega)).mpr (by omega))] at h2
      revert h2; decide
theorem at_c {j : Nat} {r : SR} {c : Nat → Int32} (hr : r.2 = c) (hj : j < 60) : fX2_at (nI j) r = some (c j) := by
  unfold fX2_at
  rw [hr, if_neg (nI_pos (by omega)), if_neg (show ¬ (60 : Int32) ≤ nI j from (show ¬ nI 60 ≤ nI j from nI_ge hj (by omega))), nI_clamp (by omega), if_neg (ixc hj (by omega))]
theorem ix60 {k a : Nat} : (60 : Int32) * nI k + nI a = nI (60 * k + a) := by
  rw [show (60 : Int32) = nI 60 from rfl, pk_mul, nI_add]
theorem rel_fx {u : SX} {τ : SM} (h : Rel u τ) (x : Int32) : Rel (upd (upd u.1 9 (0 : Int32)) 9 x, u.2.1, u.2.2.1, u.2.2.2.1, u.2.2.2.2) (upd τ.1 0 x, τ.2) := by
  rw [fa_upd_twice]
  exact rel_fault h x
theorem rel_fy {u : SX} {τ : SM} (h : Rel u τ) (x : Int32) : Rel (upd (upd u.1 9 (0 : Int32)) 9 x, u.2.1, u.2.2.1, u.2.2.2.1, u.2.2.2.2) (upd (upd τ.1 0 (0 : Int32)) 0 x, τ.2) := by
  rw [fa_upd_twice, fa_upd_twice]
  exact rel_fault h x
theorem rel_f0 {u : SX} {τ : SM} (h : Rel u τ) : Rel (upd u.1 9 (0 : Int32), u.2.1, u.2.2.1, u.2.2.2.1, u.2.2.2.2) (upd τ.1 0 (0 : Int32), τ.2) := rel_fault h 0
theorem rS_cell {sh : Nat → SR} {m : Nat → Nat → Int32} {k l s a : Nat} {v : Int32} (hs : rS sh m) (i1 : (sh k).1 1 = 1) (i2 : (sh k).1 2 = nI l) (i3 : (sh k).1 3 = nI s) (hl : l ≤ 2) (hs60 : s ≤ 60) (e8 : m 8 k = nI s) (e9 : m 9 k = nI l) (e10 : ∀ i, i < s → (sh k).2 i = m 10 (60 * k + i)) (ha : a < s) : rS (va_up sh k ((sh k).1, upd (sh k).2 a v)) (va_up m 10 (upd (m 10) (60 * k + a) v)) := by
  refine rS_up hs (Or.inr ⟨l, s, i1, i2, i3, hl, hs60, ?_, ?_, fun i hi => ?_⟩) (fun j hj hjk => ⟨?_, ?_, fun i hi => ?_⟩)
  · rw [va_up_ne _ _ (by decide)]; exact e8
  · rw [va_up_ne _ _ (by decide)]; exact e9
  · show upd (sh k).2 a v i = _
    rw [va_up_self]
    by_cases q : i = a
    · rw [q, pk_us, pk_us]
    · rw [pk_un q, pk_un (by omega)]; exact e10 i hi
  · rw [va_up_ne _ _ (by decide)]
  · rw [va_up_ne _ _ (by decide)]
  · rw [va_up_self, pk_un (by omega)]
def cutv (l : Nat) (z : Int32) : Int32 := if l = 0 then z.toInt8.toInt32 else if l = 1 then z.toInt16.toInt32 else z
theorem set_c {l a k : Nat} {i b : Nat → Int32} {c : Nat → Nat → Int32} {sh : Nat → SR} {dr : SD} (hl : l ≤ 2) (i2 : (sh k).1 2 = nI l) (ha : a < 60) (z : Int32) : fX2_set k (nI a) z (i, b, c, sh, dr) = some (va_up sh k ((sh k).1, upd (sh k).2 a (cutv l z))) := by
  unfold fX2_set fX2_cut cutv
  show (if nI a < 0 then _ else if (60 : Int32) ≤ nI a then _ else (if (sh k).1 2 = 0 then _ else if (sh k).1 2 = 1 then _ else _ : Option Int32).bind _) = _
  rw [i2, if_neg (nI_pos (by omega)), if_neg (show ¬ (60 : Int32) ≤ nI a from (show ¬ nI 60 ≤ nI a from nI_ge ha (by omega)))]
  have h3 : l = 0 ∨ l = 1 ∨ l = 2 := by omega
  dsimp only
  rw [nI_clamp (by omega)]
  have hxa := ixc ha (by omega)
  rcases h3 with rfl | rfl | rfl
  · rw [if_pos (show nI 0 = 0 from rfl), if_pos rfl, Option.bind_some, if_neg hxa]
  · rw [if_neg (show ¬ nI 1 = 0 by decide), if_pos (show nI 1 = 1 from rfl), if_neg (by decide), if_pos rfl, Option.bind_some, if_neg hxa]
  · rw [if_neg (show ¬ nI 2 = 0 by decide), if_neg (show ¬ nI 2 = 1 by decide), if_neg (by decide), if_neg (by decide), Option.bind_some, if_neg hxa]
theorem put_m {k a : Nat} (hk : k < 4) (ha : a < 60) (v : Int32) (τ : SM) : fX5_put_73 ((60 : Int32) * nI k + nI a) v τ = some (1, (upd τ.1 0 (0 : Int32), va_up τ.2 10 (upd (τ.2 10) (60 * k + a) v))) := by
  unfold fX5_put_73
  rw [ix60, nI_clamp (by omega), if_neg (ixc (show 60 * k + a < 240 by omega) (by omega))]
  rfl
theorem q_put {u : SX} {τ : SM} (h : Rel u τ) (x y z : Int32) : ∃ r u' τ', fX4_put x y z u = some (r, u') ∧ fX5_put x y z τ = some (r, τ') ∧ Rel u' τ' := by
  have hAll := h
  obtain ⟨p, d, pr, n, w, K, T, G, R, hI, hR, hz, hm, hs, hF⟩ := h
  unfold fX4_put fX5_put
  rcases isS x with ⟨k, hk, rfl, f1, f2⟩ | ⟨f1, f2⟩
  · have hx := ixc hk (by omega)
    rw [f1, f2, Option.bind_some, Option.bind_some, if_neg n10, if_pos rfl, nI_clamp (by omega)]
    rcases hs k hk with ⟨e1, e2⟩ | ⟨l, s, e1, i2, i3, hl, hs60, e8, e9, e10⟩
    · have nc : fX5_noCell (nI k) y τ = some 1 := by
        unfold fX5_noCell
        rw [nI_clamp (by omega), if_neg hx, e2, if_neg (show ¬ (0 : Int32) ≤ (-1 : Int32) by decide)]
      rw [row_n hk e1, Option.bind_some, Option.elim_none, nc, Option.bind_some, if_neg (show ¬ (1 : Int32) ≤ 0 by decide), Option.bind_some]
      exact ⟨_, _, _, rfl, rfl, rel_fx hAll 1⟩
    · rw [row_y hk e1, Option.bind_some, Option.elim_some, if_neg (show ¬ ¬ k < 4 from fun z => z hk)]
      rcases oneL i3 hk hs60 y with ⟨a, ha, rfl, g1, g2⟩ | ⟨g1, g2⟩
      · rw [g1, g2 τ e8, Option.bind_some, Option.bind_some, if_neg n10, if_pos (show (0 : Int32) ≤ 0 by decide), set_c hl i2 (show a < 60 by omega), Option.bind_some, e9, if_neg hx, if_neg hx, put_m hk (by omega), put_m hk (by omega), put_m hk (by omega)]
        have h3 : l = 0 ∨ l = 1 ∨ l = 2 := by omega
        refine ⟨_, _, (upd τ.1 0 (0 : Int32), va_up τ.2 10 (upd (τ.2 10) (60 * k + a) (cutv l z))), rfl, ?_, ?_⟩
        · unfold cutv
          rcases h3 with rfl | rfl | rfl
          · rw [if_pos (show nI 0 = 0 from rfl), if_pos rfl]
          · rw [if_neg (show ¬ nI 1 = 0 by decide), if_pos (show nI 1 = 1 from rfl), if_neg (by decide), if_pos rfl]
          · rw [if_neg (show ¬ nI 2 = 0 by decide), if_neg (show ¬ nI 2 = 1 by decide), if_neg (by decide), if_neg (by decide)]
        · exact rel_sheet (rel_f0 hAll) (va_up_ne _ _ (by decide)) (va_up_ne _ _ (by decide)) (va_up_ne _ _ (by decide)) (va_up_ne _ _ (by decide)) (rS_cell hs e1 i2 i3 hl hs60 e8 e9 e10 ha)
      · rw [g1, g2 τ e8, Option.bind_some, Option.bind_some, if_pos rfl, if_neg (show ¬ (3 : Int32) ≤ 0 by decide), Option.bind_some]
        exact ⟨_, _, _, rfl, rfl, rel_fx hAll 3⟩
  · rw [f1, f2, Option.bind_some, Option.bind_some, if_pos rfl, if_neg n10]
    exact ⟨_, _, _, rfl, rfl, rel_f0 hAll⟩
theorem q_cell {u : SX} {τ : SM} (h : Rel u τ) (x y z : Int32) : ∃ r u' τ', fX4_cell x y z u = some (r, u') ∧ fX5_cell x y z τ = some (r, τ') ∧ Rel u' τ' := by
  have hAll := h
  obtain ⟨p, d, pr, n, w, K, T, G, R, hI, hR, hz, hm, hs, hF⟩ := h
  unfold fX4_cell fX5_cell
  rcases isS x with ⟨k, hk, rfl, f1, f2⟩ | ⟨f1, f2⟩
  · have hx := ixc hk (by omega)
    rw [f1, f2, Option.bind_some, Option.bind_some, if_neg n10, if_pos rfl]
    rcases isL z with ⟨l', hl', rfl, g1, g2⟩ | ⟨g1, g2⟩
    · rw [g1, g2, Option.bind_some, Option.bind_some, if_neg n10, if_neg n10, nI_clamp (by omega), if_neg hx]
      unfold fX5_cell_53
      rcases hs k hk with ⟨e1, e2⟩ | ⟨l, s, e1, i2, i3, hl, hs60, e8, e9, e10⟩
      · have nc : fX5_noCell (nI k) y (upd τ.1 0 (0 : Int32), τ.2) = some 1 := by
          unfold fX5_noCell
          rw [nI_clamp (by omega), if_neg hx]
          show (if 0 ≤ τ.2 8 k then _ else _) = _
          rw [e2, if_neg (show ¬ (0 : Int32) ≤ (-1 : Int32) by decide)]
        rw [row_n hk e1, Option.bind_some, Option.elim_none, e2, if_pos (show (-1 : Int32) < 0 by decide), nc, Option.bind_some, if_neg (show ¬ (1 : Int32) ≤ 0 by decide), Option.bind_some]
        exact ⟨_, _, _, rfl, rfl, rel_fy hAll 1⟩
      · rw [row_y hk e1, Option.bind_some, Option.elim_some, if_neg (show ¬ ¬ k < 4 from fun z => z hk), e8, e9, if_neg (nI_pos (by omega)), if_neg hx]
        unfold fX4_faultOf
        rw [i2]
        by_cases q : nI l = nI l'
        · rw [if_pos q, if_pos q, if_pos (show (0 : Int32) ≤ 1 by decide)]
          rcases oneL i3 hk hs60 y with ⟨a, ha, rfl, g1, g2⟩ | ⟨g1, g2⟩
          · rw [g1, g2 (upd τ.1 0 (0 : Int32), τ.2) e8, Option.bind_some, Option.bind_some, if_neg n10, if_pos (show (0 : Int32) ≤ 0 by decide), ix60, nI_clamp (by omega), if_neg (ixc (show 60 * k + a < 240 by omega) (by omega)), Option.bind_some, if_pos rfl]
            rw [at_c rfl (show a < 60 by omega)]
            refine ⟨_, _, _, rfl, ?_, rel_f0 hAll⟩
            show some ((τ.2 10 (60 * k + a)).toInt64, _) = some (((u.2.2.2.1 k).2 a).toInt64, _)
            rw [e10 a ha]
          · rw [g1, g2 (upd τ.1 0 (0 : Int32), τ.2) e8, Option.bind_some, Option.bind_some, if_pos rfl, if_neg (show ¬ (3 : Int32) ≤ 0 by decide), Option.bind_some, Option.bind_some, if_neg (show ¬ (3 : Int32) = 0 by decide)]
            exact ⟨_, _, _, rfl, rfl, rel_fy hAll 3⟩
        · rw [if_neg q, if_neg q, Option.bind_some, if_neg (show ¬ (2 : Int32) = 0 by decide)]
          exact ⟨_, _, _, rfl, rfl, rel_fy hAll 2⟩
    · rw [g1, g2, Option.bind_some, Option.bind_some, if_pos rfl, if_pos rfl]
      exact ⟨_, _, _, rfl, rfl, rel_f0 hAll⟩
  · rw [f1, f2, Option.bind_some, Option.bind_some, if_pos rfl, if_neg n10]
    exact ⟨_, _, _, rfl, rfl, rel_f0 hAll⟩
