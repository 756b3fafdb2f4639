/-! sheet, copy -/
theorem vupSw {α : Type} (f : Nat → α) {a b : Nat} (x y : α) (h : a ≠ b) : va_up (va_up f a x) b y = va_up (va_up f b y) a x := by
  funext i
  by_cases q : i = a
  · subst q; rw [va_up_ne _ _ h, va_up_self, va_up_self]
  · by_cases q2 : i = b
    · subst q2; rw [va_up_self, va_up_ne _ _ q, va_up_self]
    · rw [va_up_ne _ _ q2, va_up_ne _ _ q, va_up_ne _ _ q, va_up_ne _ _ q2]
theorem m_sh_loop {k n : Nat} {t1 : Nat → Int32} {m : Nat → Nat → Int32} (hk : k < 4) (hn : n ≤ 60) : ∀ f j, n < j + f → j ≤ n → fX5_sheet_65 f (nI k) (nI n) (nI j) (t1, va_up m 10 (fb_put (m 10) (fun _ => (0 : Int32)) (60 * k) j)) = some (1, (upd t1 0 (0 : Int32), va_up m 10 (fb_put (m 10) (fun _ => (0 : Int32)) (60 * k) n))) := by
  intro f
  induction f with
  | zero => intro j h1 h2; omega
  | succ f ih =>
    intro j h1 h2
    unfold fX5_sheet_65
    by_cases q : n ≤ j
    · obtain rfl : j = n := by omega
      rw [if_pos (nI_le (Nat.le_refl _) (by omega))]
      rfl
    · rw [if_neg (nI_ge (by omega) (by omega)), ix60, nI_clamp (by omega), if_neg (ixc (show 60 * k + j < 240 by omega) (by omega)), show (1 : Int32) = nI 1 from rfl, nI_add]
      show fX5_sheet_65 f (nI k) (nI n) (nI (j + 1)) (t1, va_up (va_up m 10 (fb_put (m 10) (fun _ => (0 : Int32)) (60 * k) j)) 10 (upd (va_up m 10 (fb_put (m 10) (fun _ => (0 : Int32)) (60 * k) j) 10) (60 * k + j) (0 : Int32))) = _
      rw [va_up_self, vup2, show upd (fb_put (m 10) (fun _ => (0 : Int32)) (60 * k) j) (60 * k + j) (0 : Int32) = fb_put (m 10) (fun _ => (0 : Int32)) (60 * k) (j + 1) from fb_put_succ _ _ _ _]
      exact ih (j + 1) (by omega) (by omega)
theorem beg_loop {k : Nat} {i b : Nat → Int32} {c : Nat → Nat → Int32} {dr : SD} : ∀ (f j : Nat) (sh : Nat → SR), 60 < j + f → j ≤ 60 → ∃ c', fX2_begin_29 f k (nI j) (i, b, c, sh, dr) = some (va_up sh k ((sh k).1, c')) ∧ (∀ t, t < j → c' t = (sh k).2 t) ∧ ∀ t, j ≤ t → t < 60 → c' t = 0 := by
  intro f
  induction f with
  | zero => intro j sh h1 h2; omega
  | succ f ih =>
    intro j sh h1 h2
    unfold fX2_begin_29
    by_cases q : 60 ≤ j
    · rw [if_pos (show (60 : Int32) ≤ nI j from (show nI 60 ≤ nI j from nI_le q (by omega)))]
      exact ⟨(sh k).2, by show some sh = some (va_up sh k (sh k)); rw [vupS], fun _ _ => rfl, fun t g1 g2 => by omega⟩
    · rw [if_neg (show ¬ (60 : Int32) ≤ nI j from (show ¬ nI 60 ≤ nI j from nI_ge (by omega) (by omega))), nI_clamp (by omega), if_neg (ixc (show j < 60 by omega) (by omega)), show (1 : Int32) = nI 1 from rfl, nI_add]
      obtain ⟨c', e1, e2, e3⟩ := ih (j + 1) (va_up sh k ((sh k).1, upd (sh k).2 j (0 : Int32))) (by omega) (by omega)
      rw [va_up_self] at e1 e2
      rw [vup2] at e1
      refine ⟨c', e1, fun t ht => ?_, fun t g1 g2 => ?_⟩
      · rw [e2 t (by omega)]
        show upd (sh k).2 j (0 : Int32) t = _
        rw [pk_un (by omega)]
      · by_cases r : t = j
        · subst r
          rw [e2 t (by omega)]
          show upd (sh k).2 t (0 : Int32) t = _
          rw [pk_us]
        · exact e3 t (by omega) g2
theorem beg_c {k l s : Nat} {i b : Nat → Int32} {c : Nat → Nat → Int32} {sh : Nat → SR} {dr : SD} (hs : s ≤ 60) : ∃ c', fX2_begin k (nI l) (nI s) (i, b, c, sh, dr) = some (va_up sh k (upd (upd (upd (sh k).1 1 (1 : Int32)) 2 (nI l)) 3 (nI s), c')) ∧ ∀ t, t < 60 → c' t = 0 := by
  unfold fX2_begin
  have e0 : (if (0 : Int32) < nI s then nI s else (0 : Int32)) = nI s := by
    by_cases q : s = 0
    · subst q; rfl
    · rw [if_pos (show (0 : Int32) < nI s from (show nI 0 < nI s from nI_lt (by omega) (by omega)))]
  rw [if_neg (show ¬ ¬ ((1 : Int32) &&& 1 = (1 : Int32)) by decide), if_neg (show ¬ (60 : Int32) < nI s from (show ¬ nI 60 < nI s from nI_nlt hs (by omega))), e0]
  dsimp only
  simp only [va_up_self, vup2]
  obtain ⟨c', e1, -, e3⟩ := beg_loop (k := k) (i := i) (b := b) (c := c) (dr := dr) fu 0 (va_up sh k (upd (upd (upd (sh k).1 1 (1 : Int32)) 2 (nI l)) 3 (nI s), (sh k).2)) (by unfold fu; omega) (by omega)
  rw [va_up_self, vup2] at e1
  exact ⟨c', e1, fun t ht => e3 t (by omega) ht⟩
theorem q_sheet {u : SX} {τ : SM} (h : Rel u τ) (x y z : Int32) : ∃ r u' τ', fX4_sheet x y z u = some (r, u') ∧ fX5_sheet x y z τ = some (r, τ') ∧ Rel u' τ' := by
  have hAll := h
  obtain ⟨p, d, pr, n, w, K, T, G, R, hI, hR, hz, hm, hs, hF⟩ := h
  unfold fX4_sheet fX5_sheet
  rcases isS x with ⟨k, hk, rfl, f1, f2⟩ | ⟨f1, f2⟩
  · have hx := ixc hk (by omega)
    rw [place_k hk, f2, Option.bind_some, Option.bind_some, Option.elim_some, if_neg (show ¬ ¬ k < 4 from fun z => z hk), if_pos rfl]
    rcases isL y with ⟨l, hl, rfl, g1, g2⟩ | ⟨g1, g2⟩
    · rw [g1, g2, Option.bind_some, Option.bind_some, if_neg n10, if_neg n10]
      by_cases q1 : z ≤ (60 : Int32)
      · rw [if_pos q1, if_pos q1]
        by_cases q2 : 0 ≤ z
        · obtain ⟨s, -, hs60, rfl⟩ := sp_nat (x := z) (lo := 0) (hi := 60) (fun q => (fa_of_lt (show z < 0 from q)).2.1 q2) (fun q => (fa_of_lt (show (60 : Int32) < z from q)).2.1 q1) (by omega) (by omega)
          rw [if_pos q2, if_pos q2, nI_clamp (by omega), if_neg hx, if_neg hx]
          obtain ⟨cc, b1, b2⟩ := beg_c (k := k) (l := l) (i := upd u.1 9 (0 : Int32)) (b := u.2.1) (c := u.2.2.1) (sh := u.2.2.2.1) (dr := u.2.2.2.2) hs60
          rw [b1, Option.bind_some]
          have el := m_sh_loop (t1 := τ.1) (m := va_up (va_up τ.2 8 (upd (τ.2 8) k (nI s))) 9 (upd (τ.2 9) k (nI l))) hk hs60 fu 0 (by unfold fu; omega) (by omega)
          rw [fb_put_0, vupS] at el
          rw [va_up_ne _ _ (show 9 ≠ 8 by decide)]
          refine ⟨_, _, _, rfl, el, ?_⟩
          refine rel_sheet (rel_f0 hAll) ?_ ?_ ?_ ?_ (rS_up hs (Or.inr ⟨l, s, ?_, ?_, ?_, hl, hs60, ?_, ?_, fun i hi => ?_⟩) (fun j hj hjk => ⟨?_, ?_, fun i hi => ?_⟩))
          · rw [va_up_ne _ _ (by decide), va_up_ne _ _ (by decide), va_up_ne _ _ (by decide)]
          · rw [va_up_ne _ _ (by decide), va_up_ne _ _ (by decide), va_up_ne _ _ (by decide)]
          · rw [va_up_ne _ _ (by decide), va_up_ne _ _ (by decide), va_up_ne _ _ (by decide)]
          · rw [va_up_ne _ _ (by decide), va_up_ne _ _ (by decide), va_up_ne _ _ (by decide)]
          · show upd (upd (upd (u.2.2.2.1 k).1 1 (1 : Int32)) 2 (nI l)) 3 (nI s) 1 = _
            rw [pk_un (by decide), pk_un (by decide), pk_us]
          · show upd (upd (upd (u.2.2.2.1 k).1 1 (1 : Int32)) 2 (nI l)) 3 (nI s) 2 = _
            rw [pk_un (by decide), pk_us]
          · show upd (upd (upd (u.2.2.2.1 k).1 1 (1 : Int32)) 2 (nI l)) 3 (nI s) 3 = _
            rw [pk_us]
          · rw [va_up_ne _ _ (by decide), va_up_ne _ _ (by decide), va_up_self, pk_us]
          · rw [va_up_ne _ _ (by decide), va_up_self, pk_us]
          · rw [va_up_self, fb_put_in (by omega) (by omega)]
            exact b2 i (by omega)
          · rw [va_up_ne _ _ (by decide), va_up_ne _ _ (by decide), va_up_self, pk_un hjk]
          · rw [va_up_ne _ _ (by decide), va_up_self, pk_un hjk]
          · rw [va_up_self, fb_put_out (by omega), va_up_ne _ _ (by decide), va_up_ne _ _ (by decide)]
        · rw [if_neg q2, if_neg q2]
          exact ⟨_, _, _, rfl, rfl, rel_fx hAll 4⟩
      · rw [if_neg q1, if_neg q1]
        exact ⟨_, _, _, rfl, rfl, rel_f0 hAll⟩
    · rw [g1, g2, Option.bind_some, Option.bind_some, if_pos rfl, if_pos rfl]
      exact ⟨_, _, _, rfl, rfl, rel_f0 hAll⟩
  · rw [place_n f1, f2, Option.bind_some, Option.bind_some, Option.elim_none, if_neg n10]
    exact ⟨_, _, _, rfl, rfl, rel_f0 hAll⟩
theorem ix60b {k a j : Nat} : (60 : Int32) * nI k + nI a + nI j = nI (60 * k + a + j) := by
  rw [ix60, nI_add]
theorem m_cp2_loop {o b n : Nat} {t1 : Nat → Int32} {m : Nat → Nat → Int32} (ho : o < 4) (hn : b + n ≤ 60) : ∀ f j, n < j + f → j ≤ n → fX5_copy_144 f (nI o) (nI b) (nI n) (nI j) (t1, va_up m 10 (fb_put (m 10) (m 11) (60 * o + b) j)) = some (nI n, (upd t1 0 (0 : Int32), va_up m 10 (fb_put (m 10) (m 11) (60 * o + b) n))) := by
  intro f
  induction f with
  | zero => intro j h1 h2; omega
  | succ f ih =>
    intro j h1 h2
    unfold fX5_copy_144
    by_cases q : n ≤ j
    · obtain rfl : j = n := by omega
      rw [if_pos (nI_le (Nat.le_refl _) (by omega))]
      rfl
    · rw [if_neg (nI_ge (by omega) (by omega)), ix60b, nI_clamp (show 60 * o + b + j < 2 ^ 31 by omega), nI_clamp (show j < 2 ^ 31 by omega), if_neg (ixc (show j < 60 by omega) (by omega)), if_neg (ixc (show 60 * o + b + j < 240 by omega) (by omega)), show (1 : Int32) = nI 1 from rfl, nI_add]
      show fX5_copy_144 f (nI o) (nI b) (nI n) (nI (j + 1)) (t1, va_up (va_up m 10 (fb_put (m 10) (m 11) (60 * o + b) j)) 10 (upd (va_up m 10 (fb_put (m 10) (m 11) (60 * o + b) j) 10) (60 * o + b + j) (va_up m 10 (fb_put (m 10) (m 11) (60 * o + b) j) 11 j))) = _
      rw [va_up_self, vup2, va_up_ne _ _ (show 11 ≠ 10 by decide), fb_put_succ]
      exact ih (j + 1) (by omega) (by omega)
theorem m_cp1_loop {k a o b n : Nat} {t1 : Nat → Int32} {m : Nat → Nat → Int32} {r : Int32 × SM} (hk : k < 4) (hn : a + n ≤ 60) (he : fX5_copy_144 fu (nI o) (nI b) (nI n) 0 (t1, va_up m 11 (fa_fill (fun j => m 10 (60 * k + a + j)) (m 11) n)) = some r) : ∀ f j, n < j + f → j ≤ n → fX5_copy_107 f (nI k) (nI a) (nI o) (nI b) (nI n) (nI j) (t1, va_up m 11 (fa_fill (fun j => m 10 (60 * k + a + j)) (m 11) j)) = some r := by
  intro f
  induction f with
  | zero => intro j h1 h2; omega
  | succ f ih =>
    intro j h1 h2
    unfold fX5_copy_107
    by_cases q : n ≤ j
    · obtain rfl : j = n := by omega
      rw [if_pos (nI_le (Nat.le_refl _) (by omega))]
      exact he
    · rw [if_neg (nI_ge (by omega) (by omega)), ix60b, nI_clamp (show 60 * k + a + j < 2 ^ 31 by omega), nI_clamp (show j < 2 ^ 31 by omega), if_neg (ixc (show 60 * k + a + j < 240 by omega) (by omega)), if_neg (ixc (show j < 60 by omega) (by omega)), show (1 : Int32) = nI 1 from rfl, nI_add]
      show fX5_copy_107 f (nI k) (nI a) (nI o) (nI b) (nI n) (nI (j + 1)) (t1, va_up (va_up m 11 (fa_fill (fun j => m 10 (60 * k + a + j)) (m 11) j)) 11 (upd (va_up m 11 (fa_fill (fun j => m 10 (60 * k + a + j)) (m 11) j) 11) j (va_up m 11 (fa_fill (fun j => m 10 (60 * k + a + j)) (m 11) j) 10 (60 * k + a + j)))) = _
      rw [va_up_self, vup2, va_up_ne _ _ (show 10 ≠ 11 by decide), show upd (fa_fill (fun j => m 10 (60 * k + a + j)) (m 11) j) j (m 10 (60 * k + a + j)) = fa_fill (fun j => m 10 (60 * k + a + j)) (m 11) (j + 1) from fa_fill_succ (fun j => m 10 (60 * k + a + j)) (m 11) j]
      exact ih (j + 1) (by omega) (by omega)
theorem nI_inj {a b : Nat} (h : nI a = nI b) (ha : a < 1000) (hb : b < 1000) : a = b := (nI_eq (by omega) (by omega)).mp h
theorem q_copy {u : SX} {τ : SM} (h : Rel u τ) (x y x' y' z : Int32) : ∃ r u' τ', fX4_copy x y x' y' z u = some (r, u') ∧ fX5_copy x y x' y' z τ = some (r, τ') ∧ Rel u' τ' := by
  have hAll := h
  obtain ⟨p, d, pr, n, w, K, T, G, R, hI, hR, hz, hm, hs, hF⟩ := h
  unfold fX4_copy fX5_copy
  rcases isS x with ⟨k, hk, rfl, f1, f2⟩ | ⟨f1, f2⟩
  · have hx := ixc hk (by omega)
    rw [f1, f2, Option.bind_some, Option.bind_some, if_neg n10, if_pos rfl]
    rcases isS x' with ⟨o, ho, rfl, g1, g2⟩ | ⟨g1, g2⟩
    · have hy := ixc ho (by omega)
      rw [g1, g2, Option.bind_some, Option.bind_some, if_neg n10, if_pos rfl, nI_clamp (show k < 2 ^ 31 by omega), nI_clamp (show o < 2 ^ 31 by omega), if_neg hx, if_neg hx, if_neg hx]
      have no4 : ∀ j, j < 4 → ¬ ¬ j < 4 := fun j h z => z h
      rcases hs k hk with ⟨e1, e2⟩ | ⟨l, s, e1, e1b, e1c, hl, hs60, e8, e9, e10⟩
      · rw [row_n hk e1, Option.bind_some, Option.elim_none, e2, if_pos (show (-1 : Int32) < 0 by decide)]
        rcases hs o ho with ⟨d1, d2⟩ | ⟨l2, s2, d1, -⟩
        · rw [row_n ho d1, Option.bind_some, Option.elim_none]
          exact ⟨_, _, _, rfl, rfl, rel_fx hAll 1⟩
        · rw [row_y ho d1, Option.bind_some, Option.elim_some, if_neg (no4 o ho)]
          exact ⟨_, _, _, rfl, rfl, rel_fx hAll 1⟩
      · rw [row_y hk e1, Option.bind_some, Option.elim_some, if_neg (no4 k hk), e8, if_neg (nI_pos (show s < 2 ^ 31 by omega)), if_neg hy, if_neg hy, if_neg hy]
        rcases hs o ho with ⟨d1, d2⟩ | ⟨l2, s2, d1, d1b, d1c, hl2, hs602, d8, d9, d10⟩
        · rw [row_n ho d1, Option.bind_some, Option.elim_none, d2, if_neg (show ¬ (0 : Int32) ≤ (-1 : Int32) by decide)]
          exact ⟨_, _, _, rfl, rfl, rel_fx hAll 1⟩
        · rw [row_y ho d1, Option.bind_some, Option.elim_some, if_neg (no4 o ho), d8, if_pos (nI_pos' (show s2 < 2 ^ 31 by omega)), e9, d9, e1b, d1b]
          by_cases q : nI l = nI l2
          · rw [if_pos q, if_pos q]
            rcases holdsL e1c hs60 y z with ⟨a, t, rfl, rfl, hat, i1, i2⟩ | ⟨i1, i2⟩
            · rw [i1, i2, Option.bind_some, Option.bind_some, if_neg n10, if_pos rfl]
              rcases holdsL d1c hs602 y' (nI t) with ⟨b, t', rfl, ht', hbt, j1, j2⟩ | ⟨j1, j2⟩
              · obtain rfl : t' = t := (nI_inj ht' (by omega) (by omega)).symm
                obtain rfl : l2 = l := (nI_inj q (by omega) (by omega)).symm
                rw [j1, j2, Option.bind_some, Option.bind_some, if_neg n10, if_pos rfl]
                have hands := m_cp2_loop (o := o) (b := b) (n := t') (t1 := τ.1) (m := va_up τ.2 11 (fa_fill (fun j => τ.2 10 (60 * k + a + j)) (τ.2 11) t')) ho (by omega) fu 0 (by unfold fu; omega) (by omega)
                rw [fb_put_0, vupS] at hands
                have el := m_cp1_loop (k := k) (a := a) (o := o) (b := b) (n := t') (t1 := τ.1) (m := τ.2) hk (by omega) hands fu 0 (by unfold fu; omega) (by omega)
                rw [fa_fill_0, vupS] at el
                rw [nI_clamp (show a < 2 ^ 31 by omega), nI_clamp (show b < 2 ^ 31 by omega), nI_clamp (show t' < 2 ^ 31 by omega), if_neg (show ¬ (nI a < 0 ∨ nI b < 0 ∨ nI t' < 0 ∨ 60 < a + t' ∨ 60 < b + t') from fun z => z.elim (nI_pos (by omega)) fun z => z.elim (nI_pos (by omega)) fun z => z.elim (nI_pos (by omega)) fun z => by omega)]
                refine ⟨_, _, _, rfl, el, ?_⟩
                refine rel_sheet (rel_f0 hAll) ?_ ?_ ?_ ?_ (rS_up hs (Or.inr ⟨l2, s2, d1, d1b, d1c, hl, hs602, ?_, ?_, fun i hi => ?_⟩) (fun j hj hjk => ⟨?_, ?_, fun i hi => ?_⟩))
                · rw [va_up_ne _ _ (by decide), va_up_ne _ _ (by decide)]
                · rw [va_up_ne _ _ (by decide), va_up_ne _ _ (by decide)]
                · rw [va_up_ne _ _ (by decide), va_up_ne _ _ (by decide)]
                · rw [va_up_ne _ _ (by decide), va_up_ne _ _ (by decide)]
                · rw [va_up_ne _ _ (by decide), va_up_ne _ _ (by decide)]; exact d8
                · rw [va_up_ne _ _ (by decide), va_up_ne _ _ (by decide)]; exact d9
                · rw [va_up_self, va_up_self, va_up_ne _ _ (show 10 ≠ 11 by decide)]
                  show (if b ≤ i ∧ i < b + t' then (u.2.2.2.1 k).2 (a + (i - b)) else (u.2.2.2.1 o).2 i) = _
                  by_cases q2 : b ≤ i ∧ i < b + t'
                  · rw [if_pos q2, fb_put_in (by omega) (by omega), fa_fill_in (by omega), e10 _ (by omega)]
                    show τ.2 10 (60 * k + (a + (i - b))) = τ.2 10 (60 * k + a + (60 * o + i - (60 * o + b)))
                    exact congrArg (τ.2 10) (by omega)
                  · rw [if_neg q2, fb_put_out (by omega)]
                    exact d10 i hi
                · rw [va_up_ne _ _ (by decide), va_up_ne _ _ (by decide)]
                · rw [va_up_ne _ _ (by decide), va_up_ne _ _ (by decide)]
                · rw [va_up_self, va_up_ne _ _ (show 10 ≠ 11 by decide), fb_put_out (by omega)]
              · rw [j1, j2, Option.bind_some, Option.bind_some, if_pos rfl, if_neg n10]
                exact ⟨_, _, _, rfl, rfl, rel_fx hAll 3⟩
            · rw [i1, i2, Option.bind_some, Option.bind_some, if_pos rfl, if_neg n10]
              exact ⟨_, _, _, rfl, rfl, rel_fx hAll 3⟩
          · rw [if_neg q, if_neg q]
            exact ⟨_, _, _, rfl, rfl, rel_fx hAll 2⟩
    · rw [g1, g2, Option.bind_some, Option.bind_some, if_pos rfl, if_neg n10]
      exact ⟨_, _, _, rfl, rfl, rel_f0 hAll⟩
  · rw [f1, f2, Option.bind_some, Option.bind_some, if_pos rfl, if_neg n10]
    exact ⟨_, _, _, rfl, rfl, rel_f0 hAll⟩
