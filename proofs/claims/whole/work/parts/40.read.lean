/-! republic: the reference reads a citizen, and all -/
def cF (D : Nat → Int32) (j k t g : Nat) (w : Bool) : Prop := (D (4 + 6 * j) = (99 : Int32) ∧ k = 0 ∨ D (4 + 6 * j) = (114 : Int32) ∧ k = 1 ∨ D (4 + 6 * j) = (109 : Int32) ∧ k = 2) ∧ (1 ≤ t ∧ t ≤ 9 ∧ D (5 + 6 * j) = nI (48 + t)) ∧ (∃ x y, x ≤ 9 ∧ y ≤ 9 ∧ D (6 + 6 * j) = nI (48 + x) ∧ D (7 + 6 * j) = nI (48 + y) ∧ g = 10 * x + y) ∧ (D (8 + 6 * j) = (121 : Int32) ∧ w = true ∨ D (8 + 6 * j) = (110 : Int32) ∧ w = false)
/-- what one more citizen leaves in the reference -/
def nxt (τ : SM) (c k t g : Nat) (w : Bool) : SM := (upd (upd (upd τ.1 8 (nI (9 + 6 * c))) 12 (τ.1 12 ||| (if w then (1 : Int32) <<< (nI c &&& 31) else 0))) 11 (nI (c + 1)), va_up (va_up (va_up τ.2 4 (upd (τ.2 4) c (nI k))) 5 (upd (τ.2 5) c (nI t))) 6 (upd (τ.2 6) c (nI g)))
theorem rc_195 {c t x y : Nat} {code xs2 : Int32} {τ : SM} (hc : c < 6) (h11 : τ.1 11 = nI c) {w : Bool} (hw : code = (121 : Int32) ∧ w = true ∨ code = (110 : Int32) ∧ w = false) {k : Nat} (hk : xs2 = nI k) : fX5_readsCitizen_195 (nI t) (nI x) (nI y) code (nI c) xs2 (stR τ (9 + 6 * c)) = some (1, nxt τ c k t (10 * x + y) w) := by
  unfold fX5_readsCitizen_195 fX5_readsCitizen_246
  have e11 : (stR τ (9 + 6 * c)).1 11 = nI c := (st_un τ _ (by decide)).trans h11
  rw [e11, nI_clamp (by omega), if_neg (ixc hc (by omega)), if_neg (ixc hc (by omega)), if_neg (ixc hc (by omega)), z1u, z1u, hk, show (10 : Int32) = nI 10 from rfl, pk_mul, nI_add]
  have e12 : (stR τ (9 + 6 * c)).1 12 = τ.1 12 := st_un τ _ (by decide)
  rw [e12]
  have key : ∀ z : Int32, (some ((1 : Int32), ((upd (upd (stR τ (9 + 6 * c)).1 12 z) 11 (((upd (stR τ (9 + 6 * c)).1 12 z) 11) + (1 : Int32))), (va_up (va_up (va_up (stR τ (9 + 6 * c)).2 4 (upd ((stR τ (9 + 6 * c)).2 4) c (nI k))) 5 (upd ((va_up (stR τ (9 + 6 * c)).2 4 (upd ((stR τ (9 + 6 * c)).2 4) c (nI k))) 5) c (nI t))) 6 (upd ((va_up (va_up (stR τ (9 + 6 * c)).2 4 (upd ((stR τ (9 + 6 * c)).2 4) c (nI k))) 5 (upd ((va_up (stR τ (9 + 6 * c)).2 4 (upd ((stR τ (9 + 6 * c)).2 4) c (nI k))) 5) c (nI t))) 6) c (nI (10 * x + y)))))) : Option (Int32 × SM)) = some (1, (upd (upd (upd τ.1 8 (nI (9 + 6 * c))) 12 z) 11 (nI (c + 1)), va_up (va_up (va_up τ.2 4 (upd (τ.2 4) c (nI k))) 5 (upd (τ.2 5) c (nI t))) 6 (upd (τ.2 6) c (nI (10 * x + y))))) := by
    intro z
    rw [pk_un (show 11 ≠ 12 by decide), e11, show (1 : Int32) = nI 1 from rfl, nI_add, va_up_ne _ _ (show 5 ≠ 4 by decide), va_up_ne _ _ (show 6 ≠ 5 by decide), va_up_ne _ _ (show 6 ≠ 4 by decide)]
    rfl
  rcases hw with ⟨rfl, rfl⟩ | ⟨rfl, rfl⟩
  · rw [if_pos rfl]
    exact key _
  · rw [if_neg (show ¬ (110 : Int32) = (121 : Int32) by decide)]
    exact key _
theorem rc_138 (x3 x4 x5 x6 : Int32) (u : SM) : fX5_readsCitizen_138 x3 x4 x5 x6 (-9 : Int32) u = some (0, u) := by
  unfold fX5_readsCitizen_138
  rw [if_neg (show ¬ (-9 : Int32) = (121 : Int32) by decide), if_neg (show ¬ (-9 : Int32) = (110 : Int32) by decide), z0u]
theorem rc_120 (x1 x2 x3 x4 x5 : Int32) (u : SM) : fX5_readsCitizen_120 x1 x2 x3 x4 x5 (-9 : Int32) u = some (0, u) := by
  unfold fX5_readsCitizen_120
  rw [if_neg (show ¬ (0 : Int32) ≤ (-9 : Int32) by decide), rc_138]
theorem rc_99 (x1 x2 x3 x4 : Int32) (u : SM) : fX5_readsCitizen_99 x1 x2 x3 x4 (-9 : Int32) u = some (0, u) := by
  unfold fX5_readsCitizen_99
  rw [if_neg (show ¬ (0 : Int32) ≤ (-9 : Int32) by decide), rc_120]
theorem wh_t {n c t : Nat} (h : n = 3 + 6 * c + t) (ht : t < 6) (h0 : c = 0 ∨ 0 < t) : wh n = false := by
  unfold wh
  subst h
  by_cases q : 9 ≤ 3 + 6 * c + t
  · rw [decide_eq_true q, decide_eq_false (by omega)]; rfl
  · rw [decide_eq_false q]; rfl
theorem rd_fail {n c t : Nat} (ht : t < 6) (h : 3 + 6 * c + t ≤ n) (h0 : t = 0 → (c = 0 ∨ 3 + 6 * c < n)) : 3 + 6 * c + t < n ∨ wh n = false := by
  rcases Nat.lt_or_ge (3 + 6 * c + t) n with q | q
  · exact Or.inl q
  · exact Or.inr (wh_t (c := c) (t := t) (by omega) ht (by omega))
def gds (D : Nat → Int32) (n a b : Nat) : Prop := ∀ j, a ≤ j → j < b → gYd D n j
theorem gds_s {D : Nat → Int32} {n a b : Nat} (h : gds D n a b) (hb : gYd D n b) : gds D n a (b + 1) := fun j h1 h2 => by
  by_cases q : j = b
  · rw [q]; exact hb
  · exact h j h1 (by omega)
def rdF (D : Nat → Int32) (n c : Nat) (τ : SM) (o : Option (Int32 × SM)) : Prop := ∃ q, q ≤ n ∧ gds D n (3 + 6 * c) q ∧ bNd D n q ∧ (q < n ∨ wh n = false) ∧ o = some (0, stR τ q)
def rdY (D : Nat → Int32) (n c : Nat) (τ : SM) (o : Option (Int32 × SM)) : Prop := ∃ k t g w, c < 6 ∧ 9 + 6 * c ≤ n ∧ gds D n (3 + 6 * c) (9 + 6 * c) ∧ cF D c k t g w ∧ o = some (1, nxt τ c k t g w)
theorem rd_59 {P n c k : Nat} {τ : SM} {D : Nat → Int32} (hc6 : c < 6) (hD : ∀ j, j < n → τ.2 10 (P + j) = D j) (hP : P + n ≤ 240) (hn : n ≤ 60) (h11 : τ.1 11 = nI c) (hg : gds D n (3 + 6 * c) (3 + 6 * c + 2)) (hk : cdA D n (3 + 6 * c + 1) = (99 : Int32) ∧ k = 0 ∨ cdA D n (3 + 6 * c + 1) = (114 : Int32) ∧ k = 1 ∨ cdA D n (3 + 6 * c + 1) = (109 : Int32) ∧ k = 2) : rdF D n c τ (fX5_readsCitizen_59 (nI P) (nI n) (cdA D n (3 + 6 * c + 1)) (stR τ (3 + 6 * c + 1))) ∨ rdY D n c τ (fX5_readsCitizen_59 (nI P) (nI n) (cdA D n (3 + 6 * c + 1)) (stR τ (3 + 6 * c + 1))) := by
  unfold fX5_readsCitizen_59
  rw [st_up, show 3 + 6 * c + 1 + 1 = 3 + 6 * c + 2 from rfl]
  have l1 := gYd_lt (by omega) (hg (3 + 6 * c + 1) (by omega) (by omega))
  have ecd : ∀ t, 3 + 6 * c + t < n → cdA D n (3 + 6 * c + t) = D (3 + t + 6 * c) := fun t h => by
    rw [show 3 + t + 6 * c = 3 + 6 * c + t by omega]; exact if_pos h
  rcases m_fig (j := 3 + 6 * c + 2) (lo := 1) (hi := 9) (by omega) (by omega) hD hP (by omega) with ⟨e, e1, e2, e3, e4, e5⟩ | ⟨e4, e5⟩
  rotate_left
  · rw [show fX5_figure (nI P) (nI n) (1 : Int32) (9 : Int32) (stR τ (3 + 6 * c + 2)) = _ from e5, Option.bind_some, if_neg (show ¬ (0 : Int32) ≤ (-9 : Int32) by decide), rc_99]
    exact Or.inl ⟨3 + 6 * c + 2, by omega, hg, bdC hc6 (by omega) (by rw [gc2]; exact e4), rd_fail (by omega) (by omega) (by omega), rfl⟩
  have g2 : gYd D n (3 + 6 * c + 2) := gdC hc6 (by omega) (by rw [gc2]; exact e4)
  have hg2 := gds_s hg g2
  have l2 := gYd_lt (by omega) g2
  rw [show fX5_figure (nI P) (nI n) (1 : Int32) (9 : Int32) (stR τ (3 + 6 * c + 2)) = _ from e5, Option.bind_some, if_pos (nI_pos' (show e < 2 ^ 31 by omega)), show 3 + 6 * c + 2 + 1 = 3 + 6 * c + 3 from rfl]
  rcases m_fig (j := 3 + 6 * c + 3) (lo := 0) (hi := 9) (by omega) (by omega) hD hP (by omega) with ⟨x, x1, x2, x3, x4, x5⟩ | ⟨x4, x5⟩
  rotate_left
  · rw [show fX5_figure (nI P) (nI n) (0 : Int32) (9 : Int32) (stR τ (3 + 6 * c + 3)) = _ from x5, Option.bind_some, rc_99]
    exact Or.inl ⟨3 + 6 * c + 3, by omega, hg2, bdC hc6 (by omega) (by rw [gc3]; exact x4), rd_fail (by omega) (by omega) (by omega), rfl⟩
  have g3 : gYd D n (3 + 6 * c + 3) := gdC hc6 (by omega) (by rw [gc3]; exact x4)
  have hg3 := gds_s hg2 g3
  have l3 := gYd_lt (by omega) g3
  rw [show fX5_figure (nI P) (nI n) (0 : Int32) (9 : Int32) (stR τ (3 + 6 * c + 3)) = _ from x5, Option.bind_some, show 3 + 6 * c + 3 + 1 = 3 + 6 * c + 4 from rfl]
  unfold fX5_readsCitizen_99
  rw [if_pos (nI_pos' (show x < 2 ^ 31 by omega))]
  rcases m_fig (j := 3 + 6 * c + 4) (lo := 0) (hi := 9) (by omega) (by omega) hD hP (by omega) with ⟨y, y1, y2, y3, y4, y5⟩ | ⟨y4, y5⟩
  rotate_left
  · rw [show fX5_figure (nI P) (nI n) (0 : Int32) (9 : Int32) (stR τ (3 + 6 * c + 4)) = _ from y5, Option.bind_some, rc_120]
    exact Or.inl ⟨3 + 6 * c + 4, by omega, hg3, bdC hc6 (by omega) (by rw [gc4]; exact y4), rd_fail (by omega) (by omega) (by omega), rfl⟩
  have g4 : gYd D n (3 + 6 * c + 4) := gdC hc6 (by omega) (by rw [gc4]; exact y4)
  have hg4 := gds_s hg3 g4
  have l4 := gYd_lt (by omega) g4
  rw [show fX5_figure (nI P) (nI n) (0 : Int32) (9 : Int32) (stR τ (3 + 6 * c + 4)) = _ from y5, Option.bind_some, show 3 + 6 * c + 4 + 1 = 3 + 6 * c + 5 from rfl]
  unfold fX5_readsCitizen_120
  rw [if_pos (nI_pos' (show y < 2 ^ 31 by omega)), m_code hD hP (j := 3 + 6 * c + 5) (by omega), Option.bind_some]
  unfold fX5_readsCitizen_138
  have e11 : (upd (stR τ (3 + 6 * c + 5)).1 8 ((stR τ (3 + 6 * c + 5)).1 8 + (1 : Int32))) 11 = nI c := (pk_un (by decide)).trans ((st_un τ _ (by decide)).trans h11)
  have fin : ∀ w : Bool, (cdA D n (3 + 6 * c + 5) = (121 : Int32) ∧ w = true ∨ cdA D n (3 + 6 * c + 5) = (110 : Int32) ∧ w = false) → rdY D n c τ (fX5_readsCitizen_156 (cdA D n (3 + 6 * c + 1)) (nI e) (nI x) (nI y) (cdA D n (3 + 6 * c + 5)) (stR τ (3 + 6 * c + 5))) := by
    intro w hw
    have g5 : gYd D n (3 + 6 * c + 5) := gdC hc6 (by omega) (by
      rw [gc5]
      rcases hw with ⟨h, -⟩ | ⟨h, -⟩
      · rw [if_pos h]
      · rw [h]; rfl)
    have l5 := gYd_lt (by omega) g5
    have hg5 := gds_s hg4 g5
    refine ⟨k, e, 10 * x + y, w, hc6, by omega, fun j h1 h2 => hg5 j h1 (by omega), ⟨?_, ⟨e1, e2, ?_⟩, ⟨x, y, x2, y2, ?_, ?_, rfl⟩, ?_⟩, ?_⟩
    · rw [← ecd 1 l1]; exact hk
    · rw [← ecd 2 l2]; exact e3
    · rw [← ecd 3 l3]; exact x3
    · rw [← ecd 4 l4]; exact y3
    · rw [← ecd 5 l5]; exact hw
    · unfold fX5_readsCitizen_156
      rw [e11, st_up, show 3 + 6 * c + 5 + 1 = 9 + 6 * c by omega]
      rcases hk with ⟨h, rfl⟩ | ⟨h, rfl⟩ | ⟨h, rfl⟩
      · rw [if_pos h]
        exact rc_195 hc6 h11 hw rfl
      · rw [if_neg (by rw [h]; decide), if_pos h]
        exact rc_195 hc6 h11 hw rfl
      · rw [if_neg (by rw [h]; decide), if_neg (by rw [h]; decide)]
        exact rc_195 hc6 h11 hw rfl
  by_cases w1 : cdA D n (3 + 6 * c + 5) = (121 : Int32)
  · rw [if_pos w1]
    exact Or.inr (fin true (Or.inl ⟨w1, rfl⟩))
  · rw [if_neg w1]
    by_cases w2 : cdA D n (3 + 6 * c + 5) = (110 : Int32)
    · rw [if_pos w2]
      exact Or.inr (fin false (Or.inr ⟨w2, rfl⟩))
    · rw [if_neg w2, z0u]
      exact Or.inl ⟨3 + 6 * c + 5, by omega, hg4, bdC hc6 (by omega) (by rw [gc5, if_neg w1, if_neg w2]), rd_fail (by omega) (by omega) (by omega), rfl⟩
theorem rd_cit {P n c : Nat} {τ : SM} {D : Nat → Int32} (hc : c ≤ 6) (hD : ∀ j, j < n → τ.2 10 (P + j) = D j) (hP : P + n ≤ 240) (hn : n ≤ 60) (h0 : c = 0 ∨ 3 + 6 * c < n) (h0' : 3 + 6 * c ≤ n) (h11 : τ.1 11 = nI c) : rdF D n c τ (fX5_readsCitizen (nI P) (nI n) (stR τ (3 + 6 * c))) ∨ rdY D n c τ (fX5_readsCitizen (nI P) (nI n) (stR τ (3 + 6 * c))) := by
  have e11 : ∀ i, (stR τ i).1 11 = nI c := fun i => (st_un τ _ (by decide)).trans h11
  unfold fX5_readsCitizen fX5_readsCitizen_20
  rw [e11, z0u]
  by_cases c6 : c = 6
  · subst c6
    rw [if_pos (show nI 6 = (6 : Int32) from rfl)]
    exact Or.inl ⟨39, by omega, fun j h1 h2 => by omega, gw39 _, Or.inl (by omega), rfl⟩
  have hc6 : c < 6 := by omega
  rw [if_neg (show ¬ nI c = (6 : Int32) from fun z => c6 ((nI_eq (b := 6) (by omega) (by omega)).mp z)), m_code hD hP h0', Option.bind_some, st_up]
  by_cases q0 : cdA D n (3 + 6 * c) = (59 : Int32)
  rotate_left
  · rw [if_neg q0]
    exact Or.inl ⟨3 + 6 * c, h0', fun j h1 h2 => by omega, bdC (t := 0) hc6 (by omega) (by rw [Nat.add_zero, gc0, if_neg q0]), rd_fail (t := 0) (by omega) (by omega) (by omega), rfl⟩
  have g0 : gYd D n (3 + 6 * c) := gdC (t := 0) hc6 (by omega) (by rw [Nat.add_zero, gc0, if_pos q0])
  have l0 := gYd_lt (by omega) g0
  have hg0 : gds D n (3 + 6 * c) (3 + 6 * c + 1) := fun j h1 h2 => by
    obtain rfl : j = 3 + 6 * c := by omega
    exact g0
  rw [if_pos q0, m_code hD hP (j := 3 + 6 * c + 1) (by omega), Option.bind_some]
  have nx : ∀ k, (cdA D n (3 + 6 * c + 1) = (99 : Int32) ∧ k = 0 ∨ cdA D n (3 + 6 * c + 1) = (114 : Int32) ∧ k = 1 ∨ cdA D n (3 + 6 * c + 1) = (109 : Int32) ∧ k = 2) → rdF D n c τ (fX5_readsCitizen_59 (nI P) (nI n) (cdA D n (3 + 6 * c + 1)) (stR τ (3 + 6 * c + 1))) ∨ rdY D n c τ (fX5_readsCitizen_59 (nI P) (nI n) (cdA D n (3 + 6 * c + 1)) (stR τ (3 + 6 * c + 1))) := by
    intro k hk
    refine rd_59 hc6 hD hP hn h11 (gds_s hg0 (gdC hc6 (by omega) ?_)) hk
    rw [gc1]
    rcases hk with ⟨h, -⟩ | ⟨h, -⟩ | ⟨h, -⟩ <;> rw [h] <;> rfl
  by_cases w1 : cdA D n (3 + 6 * c + 1) = (99 : Int32)
  · rw [if_pos w1]
    exact nx 0 (Or.inl ⟨w1, rfl⟩)
  rw [if_neg w1]
  by_cases w2 : cdA D n (3 + 6 * c + 1) = (114 : Int32)
  · rw [if_pos w2]
    exact nx 1 (Or.inr (Or.inl ⟨w2, rfl⟩))
  rw [if_neg w2]
  by_cases w3 : cdA D n (3 + 6 * c + 1) = (109 : Int32)
  · rw [if_pos w3]
    exact nx 2 (Or.inr (Or.inr ⟨w3, rfl⟩))
  rw [if_neg w3, z0u]
  exact Or.inl ⟨3 + 6 * c + 1, by omega, hg0, bdC hc6 (by omega) (by rw [gc1, if_neg w1, if_neg w2, if_neg w3]), rd_fail (by omega) (by omega) (by omega), rfl⟩
/-- but for what reading leaves -/
def smR (τ τ' : SM) : Prop := (∀ i, (i < 8 ∨ 12 < i) → τ'.1 i = τ.1 i) ∧ ∀ i, (i < 4 ∨ 6 < i) → τ'.2 i = τ.2 i
theorem sm_r (τ : SM) : smR τ τ := ⟨fun _ _ => rfl, fun _ _ => rfl⟩
theorem sm_u {τ τ' : SM} {i : Nat} {x : Int32} (h : smR τ τ') (h1 : 8 ≤ i) (h2 : i ≤ 12) : smR τ (upd τ'.1 i x, τ'.2) := ⟨fun j hj => (pk_un (by omega)).trans (h.1 j hj), h.2⟩
theorem sm_a {τ τ' : SM} {i : Nat} {f : Nat → Int32} (h : smR τ τ') (h1 : 4 ≤ i) (h2 : i ≤ 6) : smR τ (τ'.1, va_up τ'.2 i f) := ⟨h.1, fun j hj => (va_up_ne _ _ (by omega)).trans (h.2 j hj)⟩
theorem sm_st {τ τ' : SM} {j : Nat} (h : smR τ τ') : smR τ (stR τ' j) := sm_u h (by omega) (by omega)
theorem rel_sm {u : SX} {τ τ' : SM} (h : Rel u τ) (hs : smR τ τ') : Rel u τ' := by
  obtain ⟨p, d, pr, n, w, K, T, G, R, ⟨hb, h1, h2, h3, h4, h5, h6, h7, h8, h9, h10, h11⟩, hR, hz, hm, hS, hF⟩ := h
  obtain ⟨g1, g2⟩ := hs
  refine ⟨p, d, pr, n, w, K, T, G, R, ⟨hb, h1, (g1 3 (by omega)).trans h2, h3, (g1 1 (by omega)).trans h4, h5, (g1 2 (by omega)).trans h6, h7, (g1 17 (by omega)).trans h8, (g1 7 (by omega)).trans h9, h10.trans (g1 23 (by omega)).symm, h11.trans (g1 0 (by omega)).symm⟩, ?_, hz, ?_, ?_, hF⟩
  · rw [g2 7 (by omega)]; exact hR
  · intro c hc
    rw [g2 1 (by omega), g2 2 (by omega), g2 3 (by omega)]; exact hm c hc
  · intro k hk
    exact rO_cong (by rw [g2 8 (by omega)]) (by rw [g2 9 (by omega)]) (fun i hi => by rw [g2 10 (by omega)]) (hS k hk)
