/-! republic: the whole text -/
def invR (τ : SM) (D : Nat → Int32) (e1 e2 c : Nat) (K T G : Nat → Nat) (W : Nat) (τ' : SM) : Prop := τ'.1 8 = nI (3 + 6 * c) ∧ τ'.1 9 = nI e1 ∧ τ'.1 10 = nI e2 ∧ τ'.1 11 = nI c ∧ τ'.1 12 = nI W ∧ smR τ τ' ∧ W < 2 ^ c ∧ ∀ j, j < c → cF D j (K j) (T j) (G j) (bi W j) ∧ τ'.2 4 j = nI (K j) ∧ τ'.2 5 j = nI (T j) ∧ τ'.2 6 j = nI (G j)
theorem inv_s {τ τ' : SM} {D : Nat → Int32} {e1 e2 c k t g W : Nat} {K T G : Nat → Nat} {w : Bool} (hc : c < 6) (h : invR τ D e1 e2 c K T G W τ') (hf : cF D c k t g w) : invR τ D e1 e2 (c + 1) (va_up K c k) (va_up T c t) (va_up G c g) (if w then 2 ^ c + W else W) (nxt τ' c k t g w) := by
  obtain ⟨h8, h9, h10, h11, h12, hs, hW, hj⟩ := h
  unfold nxt
  have hp : 2 ^ (c + 1) = 2 ^ c + 2 ^ c := by rw [Nat.pow_succ]; omega
  refine ⟨?_, ?_, ?_, ?_, ?_, ?_, ?_, ?_⟩
  · dsimp only
    rw [pk_un (by decide), pk_un (by decide), pk_us, show 3 + 6 * (c + 1) = 9 + 6 * c by omega]
  · dsimp only
    rw [pk_un (by decide), pk_un (by decide), pk_un (by decide), h9]
  · dsimp only
    rw [pk_un (by decide), pk_un (by decide), pk_un (by decide), h10]
  · dsimp only
    rw [pk_us]
  · dsimp only
    rw [pk_un (by decide), pk_us, h12]
    cases w
    · exact or0 _
    · exact (b_or1_a c hc W hW).1
  · exact sm_a (sm_a (sm_a (sm_u (sm_u (sm_u hs (by omega) (by omega)) (by omega) (by omega)) (by omega) (by omega)) (by omega) (by omega)) (by omega) (by omega)) (by omega) (by omega)
  · cases w
    · show W < _
      omega
    · show 2 ^ c + W < _
      omega
  · intro j hj1
    dsimp only
    rw [va_up_ne _ _ (show 4 ≠ 6 by decide), va_up_ne _ _ (show 4 ≠ 5 by decide), va_up_self, va_up_ne _ _ (show 5 ≠ 6 by decide), va_up_self, va_up_self]
    by_cases q : j = c
    · subst q
      rw [va_up_self, va_up_self, va_up_self, pk_us, pk_us, pk_us]
      refine ⟨?_, rfl, rfl, rfl⟩
      have hb := bits_1b j hc W hW
      cases w
      · show cF D j k t g (bi W j)
        rw [hb.2]; exact hf
      · show cF D j k t g (bi (2 ^ j + W) j)
        rw [hb.1]; exact hf
    · obtain ⟨g0, g1, g2, g3⟩ := hj j (by omega)
      rw [va_up_ne _ _ q, va_up_ne _ _ q, va_up_ne _ _ q, pk_un q, pk_un q, pk_un q]
      refine ⟨?_, g1, g2, g3⟩
      cases w
      · exact g0
      · show cF D j _ _ _ (bi (2 ^ c + W) j)
        rw [bits_1a c hc W hW j (by omega)]; exact g0
def rrF (τ : SM) (D : Nat → Int32) (n : Nat) (o : Option (Int32 × SM)) : Prop := ∃ q τ'', q ≤ n ∧ gds D n 0 q ∧ bNd D n q ∧ (q < n ∨ wh n = false) ∧ τ''.1 8 = nI q ∧ smR τ τ'' ∧ o = some (0, τ'')
def rrY (τ : SM) (D : Nat → Int32) (n e1 e2 : Nat) (o : Option (Int32 × SM)) : Prop := ∃ C K T G W τ'', 1 ≤ C ∧ C ≤ 6 ∧ n = 3 + 6 * C ∧ gds D n 0 n ∧ invR τ D e1 e2 C K T G W τ'' ∧ o = some (1, τ'')
theorem r110_0 (f : Nat) (x1 x2 : Int32) (u : SM) : fX5_readsRepublic_110 (f + 1) x1 x2 0 u = some (0, u) := by
  unfold fX5_readsRepublic_110 fX5_readsRepublic_139
  rw [if_pos rfl, z0u]
theorem gds_j {D : Nat → Int32} {n a b c : Nat} (h : gds D n a b) (h2 : gds D n b c) : gds D n a c := fun j h1 h3 => by
  rcases Nat.lt_or_ge j b with q | q
  · exact h j h1 q
  · exact h2 j q h3
theorem rr_loop {P n e1 e2 : Nat} {τ : SM} {D : Nat → Int32} (hD : ∀ j, j < n → τ.2 10 (P + j) = D j) (hP : P + n ≤ 240) (hn : n ≤ 60) : ∀ f c K T G W τ', 7 < c + f → c ≤ 6 → 3 + 6 * c ≤ n → invR τ D e1 e2 c K T G W τ' → gds D n 0 (3 + 6 * c) → rrF τ D n (fX5_readsRepublic_110 f (nI P) (nI n) 1 τ') ∨ rrY τ D n e1 e2 (fX5_readsRepublic_110 f (nI P) (nI n) 1 τ') := by
  intro f
  induction f with
  | zero => intro c K T G W τ' h1 h2; omega
  | succ f ih =>
    intro c K T G W τ' h1 h2 h3 hi hg
    have hi' := hi
    obtain ⟨h8, h9, h10, h11, h12, hs, hW, hj⟩ := hi
    have go : (c = 0 ∨ 3 + 6 * c < n) → rrF τ D n (fX5_readsRepublic_129 (fX5_readsRepublic_110 f) (nI P) (nI n) τ') ∨ rrY τ D n e1 e2 (fX5_readsRepublic_129 (fX5_readsRepublic_110 f) (nI P) (nI n) τ') := by
      intro h0
      have hD' : ∀ j, j < n → τ'.2 10 (P + j) = D j := fun j hj => by rw [hs.2 10 (by omega)]; exact hD j hj
      have hst : stR τ' (3 + 6 * c) = τ' := by
        unfold stR
        rw [fa_upd_same h8]
      unfold fX5_readsRepublic_129
      have hrd := rd_cit h2 hD' hP hn h0 h3 h11
      rw [hst] at hrd
      rcases hrd with ⟨q, q1, q2, q3, q4, q5⟩ | ⟨k, t, g, w, q1, q2, q3, q4, q5⟩
      · rw [q5, Option.bind_some]
        obtain ⟨f', rfl⟩ : ∃ f', f = f' + 1 := ⟨f - 1, by omega⟩
        exact Or.inl ⟨q, stR τ' q, q1, gds_j hg q2, q3, q4, st_at _ _, sm_st hs, r110_0 _ _ _ _⟩
      · rw [q5, Option.bind_some]
        exact ih (c + 1) _ _ _ _ _ (by omega) (by omega) (by omega) (inv_s q1 hi' q4) (by rw [show 3 + 6 * (c + 1) = 9 + 6 * c by omega]; exact gds_j hg q3)
    unfold fX5_readsRepublic_110 fX5_readsRepublic_139
    rw [if_neg n10, h11, h8, z1u]
    by_cases c0 : c = 0
    · rw [if_pos (by rw [c0]; rfl)]
      exact go (Or.inl c0)
    · rw [if_neg (show ¬ nI c = 0 from fun z => c0 ((nI_eq (b := 0) (by omega) (by omega)).mp z))]
      by_cases q : n ≤ 3 + 6 * c
      · rw [if_pos (nI_le q (by omega))]
        exact Or.inr ⟨c, K, T, G, W, τ', by omega, h2, by omega, fun j a b => hg j a (by omega), hi', rfl⟩
      · rw [if_neg (nI_ge (by omega) (by omega))]
        exact go (Or.inr (by omega))
theorem r109_0 (x1 x2 : Int32) (u : SM) : fX5_readsRepublic_109 x1 x2 0 u = some (0, u) := r110_0 _ _ _ _
theorem r94_b (x1 x2 : Int32) (u : SM) : fX5_readsRepublic_94 x1 x2 (-9 : Int32) u = some (0, (upd u.1 10 (-9 : Int32), u.2)) := by
  unfold fX5_readsRepublic_94
  rw [pk_us, if_pos (show (-9 : Int32) ≤ 0 by decide), r109_0]
theorem r69_b (x1 x2 : Int32) (u : SM) : fX5_readsRepublic_69 x1 x2 (-9 : Int32) u = some (0, (upd (upd u.1 9 (-9 : Int32)) 10 (-9 : Int32), u.2)) := by
  unfold fX5_readsRepublic_69
  rw [pk_us, if_pos (show (-9 : Int32) < 0 by decide), r94_b]
theorem rrA {P n : Nat} {τ : SM} {D : Nat → Int32} (hD : ∀ j, j < n → τ.2 10 (P + j) = D j) (hP : P + n ≤ 240) (hn : n ≤ 60) : rrF τ D n (fX5_readsRepublic (nI P) (nI n) τ) ∨ ∃ e1 e2, e1 ≤ 6 ∧ 1 ≤ e2 ∧ e2 ≤ 9 ∧ D 1 = nI (48 + e1) ∧ D 2 = nI (48 + e2) ∧ rrY τ D n e1 e2 (fX5_readsRepublic (nI P) (nI n) τ) := by
  unfold fX5_readsRepublic
  have s1 : smR τ ((upd (upd τ.1 11 (0 : Int32)) 12 (0 : Int32), τ.2) : SM) := sm_u (sm_u (sm_r τ) (by omega) (by omega)) (by omega) (by omega)
  have e0 : ((upd (upd (upd τ.1 8 (0 : Int32)) 11 (0 : Int32)) 12 (0 : Int32), τ.2) : SM) = stR (upd (upd τ.1 11 (0 : Int32)) 12 (0 : Int32), τ.2) 0 := by
    unfold stR
    rw [fa_upd_swap τ.1 (show 8 ≠ 11 by decide), fa_upd_swap _ (show 8 ≠ 12 by decide)]
    rfl
  rw [e0]
  have v11 : upd (upd τ.1 11 (0 : Int32)) 12 (0 : Int32) 11 = nI 0 := by rw [pk_un (by decide), pk_us]; rfl
  have v12 : upd (upd τ.1 11 (0 : Int32)) 12 (0 : Int32) 12 = nI 0 := by rw [pk_us]; rfl
  generalize hτ1 : ((upd (upd τ.1 11 (0 : Int32)) 12 (0 : Int32), τ.2) : SM) = τ1 at s1
  have v11' : τ1.1 11 = nI 0 := by rw [← hτ1]; exact v11
  have v12' : τ1.1 12 = nI 0 := by rw [← hτ1]; exact v12
  have hD1 : ∀ j, j < n → τ1.2 10 (P + j) = D j := fun j hj => by rw [s1.2 10 (by omega)]; exact hD j hj
  rw [m_code hD1 hP (Nat.zero_le n), Option.bind_some]
  unfold fX5_readsRepublic_31 fX5_readsRepublic_46
  by_cases q0 : cdA D n 0 = (108 : Int32)
  rotate_left
  · rw [if_neg q0, if_pos rfl, if_pos rfl, r69_b]
    refine Or.inl ⟨0, (upd (upd (upd (stR τ1 0).1 8 ((stR τ1 0).1 8 + (0 : Int32))) 9 (-9 : Int32)) 10 (-9 : Int32), τ1.2), by omega, fun j a b => by omega, ?_, ?_, ?_, ?_, rfl⟩
    · unfold bNd
      rw [gw0, if_neg q0]
    · rcases Nat.lt_or_ge 0 n with q | q
      · exact Or.inl q
      · obtain rfl : n = 0 := by omega
        exact Or.inr (by decide)
    · dsimp only
      rw [pk_un (by decide), pk_un (by decide), pk_us, st_at, Int32.add_zero]
    · exact sm_u (sm_u (sm_u (sm_st s1) (by omega) (by omega)) (by omega) (by omega)) (by omega) (by omega)
  have g0 : gYd D n 0 := by
    unfold gYd
    rw [gw0, if_pos q0]
  have l0 := gYd_lt (by omega) g0
  have hg0 : gds D n 0 1 := fun j a b => by
    obtain rfl : j = 0 := by omega
    exact g0
  rw [if_pos q0, if_neg n10, if_neg n10, st_up]
  rcases m_fig (j := 1) (lo := 0) (hi := 6) (by omega) (by omega) hD1 hP (by omega) with ⟨e1, a1, a2, a3, a4, a5⟩ | ⟨a4, a5⟩
  rotate_left
  · rw [show fX5_figure (nI P) (nI n) (0 : Int32) (6 : Int32) (stR τ1 (0 + 1)) = _ from a5, Option.bind_some, r69_b]
    refine Or.inl ⟨1, (upd (upd (stR τ1 1).1 9 (-9 : Int32)) 10 (-9 : Int32), τ1.2), by omega, hg0, ?_, ?_, ?_, ?_, rfl⟩
    · unfold bNd
      rw [gw1]; exact a4
    · rcases Nat.lt_or_ge 1 n with q | q
      · exact Or.inl q
      · obtain rfl : n = 1 := by omega
        exact Or.inr (by decide)
    · dsimp only
      rw [pk_un (by decide), pk_un (by decide), st_at]
    · exact sm_u (sm_u (sm_st s1) (by omega) (by omega)) (by omega) (by omega)
  have g1 : gYd D n 1 := by
    unfold gYd
    rw [gw1]; exact a4
  have l1 := gYd_lt (by omega) g1
  rw [show fX5_figure (nI P) (nI n) (0 : Int32) (6 : Int32) (stR τ1 (0 + 1)) = _ from a5, Option.bind_some]
  unfold fX5_readsRepublic_69
  rw [pk_us, if_neg (nI_pos (show e1 < 2 ^ 31 by omega))]
  have e2' : ((upd (stR τ1 (1 + 1)).1 9 (nI e1), (stR τ1 (1 + 1)).2) : SM) = stR (upd τ1.1 9 (nI e1), τ1.2) 2 := by
    unfold stR
    rw [fa_upd_swap τ1.1 (show 8 ≠ 9 by decide)]
  rw [e2']
  have s2 : smR τ ((upd τ1.1 9 (nI e1), τ1.2) : SM) := sm_u s1 (by omega) (by omega)
  have hD2 : ∀ j, j < n → ((upd τ1.1 9 (nI e1), τ1.2) : SM).2 10 (P + j) = D j := hD1
  rcases m_fig (j := 2) (lo := 1) (hi := 9) (by omega) (by omega) hD2 hP (by omega) with ⟨e2, b1, b2, b3, b4, b5⟩ | ⟨b4, b5⟩
  rotate_left
  · rw [show fX5_figure (nI P) (nI n) (1 : Int32) (9 : Int32) (stR (upd τ1.1 9 (nI e1), τ1.2) 2) = _ from b5, Option.bind_some, r94_b]
    refine Or.inl ⟨2, (upd (stR (upd τ1.1 9 (nI e1), τ1.2) 2).1 10 (-9 : Int32), τ1.2), by omega, gds_s hg0 g1, ?_, ?_, ?_, ?_, rfl⟩
    · unfold bNd
      rw [gw2]; exact b4
    · rcases Nat.lt_or_ge 2 n with q | q
      · exact Or.inl q
      · obtain rfl : n = 2 := by omega
        exact Or.inr (by decide)
    · dsimp only
      rw [pk_un (by decide), st_at]
    · exact sm_u (sm_st s2) (by omega) (by omega)
  have g2 : gYd D n 2 := by
    unfold gYd
    rw [gw2]; exact b4
  have l2 := gYd_lt (by omega) g2
  rw [show fX5_figure (nI P) (nI n) (1 : Int32) (9 : Int32) (stR (upd τ1.1 9 (nI e1), τ1.2) 2) = _ from b5, Option.bind_some]
  unfold fX5_readsRepublic_94 fX5_readsRepublic_109
  rw [pk_us, if_neg (show ¬ nI e2 ≤ 0 from (show ¬ nI e2 ≤ nI 0 from nI_ge (by omega) (by omega)))]
  have hL := rr_loop (e1 := e1) (e2 := e2) hD hP hn fu 0 (fun _ => 0) (fun _ => 0) (fun _ => 0) 0 (upd (stR (upd τ1.1 9 (nI e1), τ1.2) (2 + 1)).1 10 (nI e2), (stR (upd τ1.1 9 (nI e1), τ1.2) (2 + 1)).2) (by unfold fu; omega) (by omega) (by omega) ⟨?_, ?_, ?_, ?_, ?_, ?_, by decide, fun j hj => by omega⟩ (gds_s (gds_s hg0 g1) g2)
  · rcases hL with h | h
    · exact Or.inl h
    · exact Or.inr ⟨e1, e2, a2, b1, b2, by rw [← a3]; exact (if_pos l1).symm, by rw [← b3]; exact (if_pos l2).symm, h⟩
  · dsimp only
    rw [pk_un (by decide), st_at]
  · dsimp only
    rw [pk_un (by decide), st_un _ _ (by decide)]
    dsimp only
    rw [pk_us]
  · dsimp only
    rw [pk_us]
  · dsimp only
    rw [pk_un (by decide), st_un _ _ (by decide)]
    dsimp only
    rw [pk_un (by decide)]
    exact v11'
  · dsimp only
    rw [pk_un (by decide), st_un _ _ (by decide)]
    dsimp only
    rw [pk_un (by decide)]
    exact v12'
  · exact sm_u (sm_st s2) (by omega) (by omega)
/-! the class takes the text -/
theorem tc_one {a n x k t g : Nat} {c D : Nat → Int32} {w : Bool} (han : a + n ≤ 60) (hD : ∀ j, j < n → c (a + j) = D j) (hx : 9 + 6 * x ≤ n) (hf : cF D x k t g w) (k0 : Nat) (u : SX) (hcc : (u.2.2.2.1 k0).2 = c) : fX3_tellCitizen k0 (nI (a + 3 + x * 6)) x u = some (va_up u.2.2.1 x (upd (upd (upd (upd (u.2.2.1 x) 0 (nI k)) 1 (nI t)) 2 (nI g)) 3 (nI (i01 w)))) := by
  obtain ⟨hk, ⟨t1, t2, t3⟩, ⟨y, z, y1, z1, y2, z2, rfl⟩, hw⟩ := hf
  have at_ : ∀ i, 1 ≤ i → i ≤ 5 → fX2_at (nI (a + 3 + x * 6) + nI i) (u.2.2.2.1 k0) = some (D (3 + i + 6 * x)) := by
    intro i h1 h2
    rw [nI_add, at_c hcc (by omega), ← hD _ (by omega), show a + (3 + i + 6 * x) = a + 3 + x * 6 + i by omega]
  have e30 : ∀ q : Int32, fX3_tellCitizen_30 k0 (nI (a + 3 + x * 6)) x x q u = some (va_up u.2.2.1 x (upd (upd (upd (upd (u.2.2.1 x) 0 q) 1 (nI t)) 2 (nI (10 * y + z))) 3 (nI (i01 w)))) := by
    intro q
    unfold fX3_tellCitizen_30 fX3_tellCitizen_93 fX3_digit
    rw [show fX2_at (nI (a + 3 + x * 6) + (2 : Int32)) (u.2.2.2.1 k0) = _ from at_ 2 (by omega) (by omega), show fX2_at (nI (a + 3 + x * 6) + (3 : Int32)) (u.2.2.2.1 k0) = _ from at_ 3 (by omega) (by omega), show fX2_at (nI (a + 3 + x * 6) + (4 : Int32)) (u.2.2.2.1 k0) = _ from at_ 4 (by omega) (by omega), show fX2_at (nI (a + 3 + x * 6) + (5 : Int32)) (u.2.2.2.1 k0) = _ from at_ 5 (by omega) (by omega), Option.bind_some, Option.bind_some, Option.bind_some, Option.bind_some, Option.bind_some, Option.bind_some, Option.bind_some]
    rw [show D (3 + 2 + 6 * x) = _ from t3, show D (3 + 3 + 6 * x) = _ from y2, show D (3 + 4 + 6 * x) = _ from z2, show (48 : Int32) = nI 48 from rfl, pk_sub (by omega), pk_sub (by omega), pk_sub (by omega), show (10 : Int32) = nI 10 from rfl, pk_mul, nI_add, show 48 + t - 48 = t by omega, show 48 + y - 48 = y by omega, show 48 + z - 48 = z by omega]
    rcases hw with ⟨hw, rfl⟩ | ⟨hw, rfl⟩
    · rw [show D (3 + 5 + 6 * x) = _ from hw, if_pos rfl, if_neg (show ¬ ¬ ((1 : Int32) &&& 1 = 1) by decide)]
      simp only [va_up_self, vup2]
      rfl
    · rw [show D (3 + 5 + 6 * x) = _ from hw, if_neg (show ¬ (110 : Int32) = (121 : Int32) by decide), if_neg (show ¬ ¬ ((0 : Int32) &&& 1 = 0) by decide)]
      simp only [va_up_self, vup2]
      rfl
  unfold fX3_tellCitizen
  rw [show fX2_at (nI (a + 3 + x * 6) + (1 : Int32)) (u.2.2.2.1 k0) = _ from at_ 1 (by omega) (by omega), Option.bind_some, e30, e30, e30]
  rcases hk with ⟨h, rfl⟩ | ⟨h, rfl⟩ | ⟨h, rfl⟩
  · rw [show D (3 + 1 + 6 * x) = _ from h, if_neg (by decide), if_neg (by decide)]; rfl
  · rw [show D (3 + 1 + 6 * x) = _ from h, if_neg (by decide), if_pos rfl]; rfl
  · rw [show D (3 + 1 + 6 * x) = _ from h, if_pos rfl]; rfl
def zOK (K T G : Nat → Nat) (W : Nat) (z : Nat → Nat → Int32) (C : Nat) : Prop := ∀ j, j < C → z j 0 = nI (K j) ∧ z j 1 = nI (T j) ∧ z j 2 = nI (G j) ∧ z j 3 = nI (i01 (bi W j))
theorem tt_loop {a n C k0 W : Nat} {c D : Nat → Int32} {K T G : Nat → Nat} {i b : Nat → Int32} {sh : Nat → SR} {dr : SD} (hcc : (sh k0).2 = c) (han : a + n ≤ 60) (hD : ∀ j, j < n → c (a + j) = D j) (hn : n = 3 + 6 * C) (hC : C ≤ 6) (hf : ∀ j, j < C → cF D j (K j) (T j) (G j) (bi W j)) (h1 : i 1 = nI C) : ∀ f x z, C < x + f → x ≤ C → zOK K T G W z x → ∃ z', fX4_takeText_44 f k0 (nI a) (nI x) (i, b, z, sh, dr) = some (i, b, z', sh, dr) ∧ zOK K T G W z' C := by
  intro f
  induction f with
  | zero => intro x z g1 g2; omega
  | succ f ih =>
    intro x z g1 g2 g3
    unfold fX4_takeText_44 fX4_takeText_81
    show ∃ z', (if i 1 ≤ nI x then _ else _) = _ ∧ _
    rw [h1]
    by_cases q : C ≤ x
    · obtain rfl : x = C := by omega
      rw [if_pos (nI_le (Nat.le_refl _) (by omega))]
      exact ⟨z, rfl, g3⟩
    · rw [if_neg (nI_ge (by omega) (by omega)), c_cit hC (show x < C by omega) h1, Option.bind_some, Option.elim_some, if_neg (show ¬ ¬ x < 6 by omega), show (3 : Int32) = nI 3 from rfl, show (6 : Int32) = nI 6 from rfl, nI_add, pk_mul, nI_add, tc_one han hD (by omega) (hf x (by omega)) k0 (i, b, z, sh, dr) hcc, Option.bind_some, show (1 : Int32) = nI 1 from rfl, nI_add]
      refine ih (x + 1) _ (by omega) (by omega) (fun j hj => ?_)
      by_cases r : j = x
      · subst r
        rw [va_up_self]
        refine ⟨?_, ?_, ?_, pk_us⟩
        · rw [pk_un (by decide), pk_un (by decide), pk_un (by decide), pk_us]
        · rw [pk_un (by decide), pk_un (by decide), pk_us]
        · rw [pk_un (by decide), pk_us]
      · show va_up z x _ j 0 = _ ∧ va_up z x _ j 1 = _ ∧ va_up z x _ j 2 = _ ∧ va_up z x _ j 3 = _
        rw [va_up_ne _ _ r]
        exact g3 j (by omega)
theorem rp_loop {C : Nat} {t1 : Nat → Int32} {m0 : Nat → Nat → Int32} (hC : C ≤ 6) (h3 : t1 3 = nI C) : ∀ f x m, C < x + f → x ≤ C → (∀ i, (i < 1 ∨ 3 < i) → m i = m0 i) → (∀ j, j < x → m 1 j = m0 4 j ∧ m 2 j = m0 5 j ∧ m 3 j = m0 6 j) → ∃ m', fX5_republic_114 f (nI x) (t1, m) = some (nI C, (upd (upd t1 17 (0 : Int32)) 0 (0 : Int32), m')) ∧ (∀ i, (i < 1 ∨ 3 < i) → m' i = m0 i) ∧ ∀ j, j < C → m' 1 j = m0 4 j ∧ m' 2 j = m0 5 j ∧ m' 3 j = m0 6 j := by
  intro f
  induction f with
  | zero => intro x m g1 g2; omega
  | succ f ih =>
    intro x m g1 g2 g3 g4
    unfold fX5_republic_114
    show ∃ m', (if t1 3 ≤ nI x then _ else _) = _ ∧ _
    rw [h3]
    by_cases q : C ≤ x
    · obtain rfl : x = C := by omega
      rw [if_pos (nI_le (Nat.le_refl _) (by omega))]
      refine ⟨m, ?_, g3, g4⟩
      show some (upd t1 17 (0 : Int32) 3, _) = _
      rw [pk_un (show 3 ≠ 17 by decide), h3]
    · have hx := ixc (show x < 6 by omega) (by omega)
      rw [if_neg (nI_ge (by omega) (by omega)), nI_clamp (show x < 2 ^ 31 by omega), if_neg hx, if_neg hx, if_neg hx, if_neg hx, if_neg hx, if_neg hx, show (1 : Int32) = nI 1 from rfl, nI_add]
      refine ih (x + 1) _ (by omega) (by omega) (fun i hi => ?_) (fun j hj => ?_)
      · rw [va_up_ne _ _ (by omega), va_up_ne _ _ (by omega), va_up_ne _ _ (by omega)]
        exact g3 i hi
      · show va_up (va_up (va_up m 1 (upd (m 1) x (m 4 x))) 2 (upd (va_up m 1 (upd (m 1) x (m 4 x)) 2) x (va_up m 1 (upd (m 1) x (m 4 x)) 5 x))) 3 (upd (va_up (va_up m 1 (upd (m 1) x (m 4 x))) 2 (upd (va_up m 1 (upd (m 1) x (m 4 x)) 2) x (va_up m 1 (upd (m 1) x (m 4 x)) 5 x)) 3) x (va_up (va_up m 1 (upd (m 1) x (m 4 x))) 2 (upd (va_up m 1 (upd (m 1) x (m 4 x)) 2) x (va_up m 1 (upd (m 1) x (m 4 x)) 5 x)) 6 x)) 1 j = _ ∧ va_up (va_up (va_up m 1 (upd (m 1) x (m 4 x))) 2 (upd (va_up m 1 (upd (m 1) x (m 4 x)) 2) x (va_up m 1 (upd (m 1) x (m 4 x)) 5 x))) 3 (upd (va_up (va_up m 1 (upd (m 1) x (m 4 x))) 2 (upd (va_up m 1 (upd (m 1) x (m 4 x)) 2) x (va_up m 1 (upd (m 1) x (m 4 x)) 5 x)) 3) x (va_up (va_up m 1 (upd (m 1) x (m 4 x))) 2 (upd (va_up m 1 (upd (m 1) x (m 4 x)) 2) x (va_up m 1 (upd (m 1) x (m 4 x)) 5 x)) 6 x)) 2 j = _ ∧ va_up (va_up (va_up m 1 (upd (m 1) x (m 4 x))) 2 (upd (va_up m 1 (upd (m 1) x (m 4 x)) 2) x (va_up m 1 (upd (m 1) x (m 4 x)) 5 x))) 3 (upd (va_up (va_up m 1 (upd (m 1) x (m 4 x))) 2 (upd (va_up m 1 (upd (m 1) x (m 4 x)) 2) x (va_up m 1 (upd (m 1) x (m 4 x)) 5 x)) 3) x (va_up (va_up m 1 (upd (m 1) x (m 4 x))) 2 (upd (va_up m 1 (upd (m 1) x (m 4 x)) 2) x (va_up m 1 (upd (m 1) x (m 4 x)) 5 x)) 6 x)) 3 j = _
        have e5 : va_up m 1 (upd (m 1) x (m 4 x)) 5 x = m0 5 x := by rw [va_up_ne _ _ (by decide), g3 5 (by omega)]
        have e6 : va_up (va_up m 1 (upd (m 1) x (m 4 x))) 2 (upd (va_up m 1 (upd (m 1) x (m 4 x)) 2) x (va_up m 1 (upd (m 1) x (m 4 x)) 5 x)) 6 x = m0 6 x := by rw [va_up_ne _ _ (by decide), va_up_ne _ _ (by decide), g3 6 (by omega)]
        rw [e6, e5, g3 4 (by omega)]
        rw [va_up_ne _ _ (show 1 ≠ 3 by decide), va_up_ne _ _ (show 1 ≠ 2 by decide), va_up_self, va_up_ne _ _ (show 2 ≠ 3 by decide), va_up_self, va_up_self, va_up_ne _ _ (show 2 ≠ 1 by decide), va_up_ne _ _ (show 3 ≠ 2 by decide), va_up_ne _ _ (show 3 ≠ 1 by decide)]
        by_cases r : j = x
        · subst r
          rw [pk_us, pk_us, pk_us]
          exact ⟨rfl, rfl, rfl⟩
        · rw [pk_un r, pk_un r, pk_un r]
          exact g4 j (by omega)
theorem b_cin : ∀ C, C < 7 → fX3_citizensIn (nI (3 + 6 * C)) = some (nI C) := by decide +kernel
theorem q_republic {u : SX} {τ : SM} (h : Rel u τ) (x y i n : Int32) : ∃ r u' τ', fX4_republic x y i n u = some (r, u') ∧ fX5_republic x y i n τ = some (r, τ') ∧ Rel u' τ' := by
  have hAll := h
  obtain ⟨p, d, pr, N, w, K, T, G, R, hA⟩ := h
  obtain ⟨hI, hR, hz, hm, hs, hF⟩ := hA
  unfold fX4_republic fX5_republic
  rcases isS x with ⟨k, hk, rfl, f1, f2⟩ | ⟨f1, f2⟩
  · have hx := ixc hk (by omega)
    rw [f1, f2, Option.bind_some, Option.bind_some, if_neg n10, if_pos rfl]
    rcases isL y with ⟨l', hl', rfl, g1, g2⟩ | ⟨g1, g2⟩
    · rw [g1, g2, Option.bind_some, Option.bind_some, if_neg n10, if_neg n10]
      rcases barred hk (hs k hk) (nI l') i n with ⟨e1, e2⟩ | ⟨q, e1, e0, e00, e2, e3⟩ | ⟨s, a, b, e1, hs60, rfl, rfl, hab, e2, e3, e10⟩
      · rw [row_n hk e1, Option.bind_some, Option.elim_none, e2, Option.bind_some, if_neg (show ¬ (0 : Int32) ≤ (-10 : Int32) - 1 by decide)]
        exact ⟨_, _, _, rfl, rfl, rel_fx hAll 1⟩
      · rw [row_y hk e1, Option.bind_some, Option.elim_some, if_neg (show ¬ ¬ k < 4 from fun z => z hk), e2, e3, Option.bind_some, Option.bind_some, if_neg e0, if_neg e00]
        exact ⟨_, _, _, rfl, rfl, rel_fx hAll q⟩
      · rw [row_y hk e1, Option.bind_some, Option.elim_some, if_neg (show ¬ ¬ k < 4 from fun z => z hk), e2, e3, Option.bind_some, Option.bind_some, if_pos rfl, if_pos (show (0 : Int32) ≤ 0 by decide), ix60]
        obtain ⟨c, hcc⟩ : ∃ c, (u.2.2.2.1 k).2 = c := ⟨_, rfl⟩
        rw [hcc] at e10
        have hD : ∀ j, j < b → τ.2 10 (60 * k + a + j) = (fun j => c (a + j)) j := fun j hj => by
          show _ = c (a + j)
          rw [e10 _ (by omega), Nat.add_assoc]
        unfold fX3_firstFault
        rcases rrA hD (by omega) (by omega) with ⟨q, τ'', q1, q2, q3, q4, q5, q6, q7⟩ | ⟨d1, d2, d3, d4, d5, d6, d7, C, K', T', G', W, τ'', c1, c2, c3, c4, c5, c6⟩
        · have ff := ff_loop (v := nI q) hcc (show a + b ≤ 60 by omega) (D := fun j => c (a + j)) (fun j hj => rfl) q1 (fun j hj => q2 j (by omega) hj) (Or.inl ⟨q3, rfl, q4⟩) fu 0 (by unfold fu; omega) (by omega)
          rw [show fX3_firstFault_2 fu (nI a) (nI b) 0 (u.2.2.2.1 k) = _ from ff, q7, Option.bind_some, Option.bind_some, if_neg (n9 q (by omega)), if_pos rfl]
          refine ⟨_, _, (upd τ''.1 0 (0 : Int32), τ''.2), rfl, ?_, rel_f0 (rel_sm hAll q6)⟩
          show some ((-100 : Int32) - τ''.1 8, _) = _
          rw [q5]
        · have ff := ff_loop (q := b) (v := (-9 : Int32)) hcc (show a + b ≤ 60 by omega) (D := fun j => c (a + j)) (fun j hj => rfl) (Nat.le_refl _) (fun j hj => c4 j (by omega) hj) (Or.inr ⟨rfl, by subst c3; unfold wh; rw [decide_eq_true (by omega), decide_eq_true (by omega)]; rfl, rfl⟩) fu 0 (by unfold fu; omega) (by omega)
          rw [show fX3_firstFault_2 fu (nI a) (nI b) 0 (u.2.2.2.1 k) = _ from ff, c6, Option.bind_some, Option.bind_some, if_pos rfl, if_neg n10]
          obtain ⟨v8, v9, v10, v11, v12, vs, vW, vj⟩ := c5
          -- the class
          have hat : ∀ t, t < b → fX2_at (nI a + nI t) (u.2.2.2.1 k) = some (c (a + t)) := fun t ht => by rw [nI_add, at_c hcc (by omega)]
          obtain ⟨z', z1, z2⟩ := tt_loop (k0 := k) (a := a) (n := b) (C := C) (W := W) (c := c) (D := fun j => c (a + j)) (K := K') (T := T') (G := G') (i := upd (upd (upd (upd (upd u.1 9 (0 : Int32)) 1 (nI C)) 2 (nI d1)) 3 (nI d2)) 5 (0 : Int32)) (b := u.2.1) (sh := u.2.2.2.1) (dr := u.2.2.2.2) hcc (show a + b ≤ 60 by omega) (fun j hj => rfl) c3 c2 (fun j hj => (vj j hj).1) (by rw [pk_un (by decide), pk_un (by decide), pk_un (by decide), pk_us]) fu 0 u.2.2.1 (by unfold fu; omega) (by omega) (fun j hj => by omega)
          have etk : fX4_takeText k (nI a) (nI b) (upd u.1 9 (0 : Int32), u.2.1, u.2.2.1, u.2.2.2.1, u.2.2.2.2) = some (upd (upd (upd (upd (upd u.1 9 (0 : Int32)) 1 (nI C)) 2 (nI d1)) 3 (nI d2)) 5 (0 : Int32), u.2.1, z', u.2.2.2.1, u.2.2.2.2) := by
            unfold fX4_takeText fX3_digit
            rw [c3, b_cin C (by omega), Option.bind_some, show fX2_at (nI a + (1 : Int32)) (u.2.2.2.1 k) = _ from hat 1 (by omega), show fX2_at (nI a + (2 : Int32)) (u.2.2.2.1 k) = _ from hat 2 (by omega), Option.bind_some, Option.bind_some, Option.bind_some, Option.bind_some, show c (a + 1) = _ from d6, show c (a + 2) = _ from d7, show (48 : Int32) = nI 48 from rfl, pk_sub (by omega), pk_sub (by omega), show 48 + d1 - 48 = d1 by omega, show 48 + d2 - 48 = d2 by omega]
            exact z1
          rw [etk, Option.bind_some]
          -- the reference
          obtain ⟨m', r1, r2, r3⟩ := rp_loop (C := C) (t1 := upd (upd (upd (upd τ''.1 1 (nI d1)) 2 (nI d2)) 3 (nI C)) 7 (nI W)) (m0 := τ''.2) c2 (by rw [pk_un (by decide), pk_us]) fu 0 τ''.2 (by unfold fu; omega) (by omega) (fun _ _ => rfl) (fun j hj => by omega)
          have eu : upd (upd (upd (upd τ''.1 1 (τ''.1 9)) 2 ((upd τ''.1 1 (τ''.1 9)) 10)) 3 ((upd (upd τ''.1 1 (τ''.1 9)) 2 ((upd τ''.1 1 (τ''.1 9)) 10)) 11)) 7 ((upd (upd (upd τ''.1 1 (τ''.1 9)) 2 ((upd τ''.1 1 (τ''.1 9)) 10)) 3 ((upd (upd τ''.1 1 (τ''.1 9)) 2 ((upd τ''.1 1 (τ''.1 9)) 10)) 11)) 12) = upd (upd (upd (upd τ''.1 1 (nI d1)) 2 (nI d2)) 3 (nI C)) 7 (nI W) := by
            rw [pk_un (show 12 ≠ 3 by decide), pk_un (show 12 ≠ 2 by decide), pk_un (show 12 ≠ 1 by decide), pk_un (show 11 ≠ 2 by decide), pk_un (show 11 ≠ 1 by decide), pk_un (show 10 ≠ 1 by decide), v9, v10, v11, v12]
          rw [eu]
          refine ⟨_, _, (upd (upd (upd (upd (upd (upd τ''.1 1 (nI d1)) 2 (nI d2)) 3 (nI C)) 7 (nI W)) 17 (0 : Int32)) 0 (0 : Int32), m'), rfl, Eq.trans r1 ?_, ?_⟩
          · show some (nI C, _) = some (upd (upd (upd (upd (upd u.1 9 (0 : Int32)) 1 (nI C)) 2 (nI d1)) 3 (nI d2)) 5 (0 : Int32) 1, _)
            rw [pk_un (show 1 ≠ 5 by decide), pk_un (show 1 ≠ 3 by decide), pk_un (show 1 ≠ 2 by decide), pk_us]
          · obtain ⟨hb, h1, h2, h3, h4, h5, h6, h7, h8, h9, h10, h11⟩ := hI
            refine ⟨C, d1, d2, 0, W, K', T', G', fun _ => 0, ⟨⟨c2, d3, d5, by omega, vW⟩, ?_, ?_, ?_, ?_, ?_, ?_, ?_, ?_, ?_, ?_, ?_⟩, fun j hj => by omega, ?_, ?_, ?_, hF⟩
            all_goals (try (simp [upd]; done))
            all_goals (try (dsimp only; rw [pk_us]; rfl))
            all_goals (try (dsimp only; rw [pk_un (by decide), pk_us]; rfl))
            · show upd (upd (upd (upd (upd u.1 9 (0 : Int32)) 1 (nI C)) 2 (nI d1)) 3 (nI d2)) 5 (0 : Int32) 8 = upd (upd (upd (upd (upd (upd τ''.1 1 (nI d1)) 2 (nI d2)) 3 (nI C)) 7 (nI W)) 17 (0 : Int32)) 0 (0 : Int32) 23
              simp [upd]
              exact h10.trans (vs.1 23 (by omega)).symm
            · intro j hj
              obtain ⟨⟨k1, ⟨k2, k3, -⟩, ⟨yy, zz, k4, k5, -, -, k6⟩, -⟩, -, -, -⟩ := vj j hj
              obtain ⟨w1, w2, w3, w4⟩ := z2 j hj
              exact ⟨by rcases k1 with ⟨-, k1⟩ | ⟨-, k1⟩ | ⟨-, k1⟩ <;> omega, k2, k3, by omega, w1, w2, w3, w4⟩
            · intro j hj
              obtain ⟨-, w1, w2, w3⟩ := vj j hj
              obtain ⟨y1, y2, y3⟩ := r3 j hj
              exact ⟨y1.trans w1, y2.trans w2, y3.trans w3⟩
            · intro kk hkk
              have hall : ∀ i, 7 ≤ i → m' i = τ.2 i := fun i hi => (r2 i (by omega)).trans (vs.2 i (by omega))
              exact rO_cong (by show m' 8 kk = _; rw [hall 8 (by omega)]) (by show m' 9 kk = _; rw [hall 9 (by omega)]) (fun ii hii => by show m' 10 _ = _; rw [hall 10 (by omega)]) (hs kk hkk)
    · rw [g1, g2, Option.bind_some, Option.bind_some, if_pos rfl, if_pos rfl]
      exact ⟨_, _, _, rfl, rfl, rel_f0 hAll⟩
  · rw [f1, f2, Option.bind_some, Option.bind_some, if_pos rfl, if_neg n10]
    exact ⟨_, _, _, rfl, rfl, rel_f0 hAll⟩
