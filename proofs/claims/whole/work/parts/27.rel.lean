/-! what binds the class's state to the reference's -/
def rI (p d pr n w : Nat) (a b : Nat → Int32) : Prop := (p ≤ 6 ∧ d ≤ 6 ∧ pr ≤ 9 ∧ n ≤ 8 ∧ w < 2 ^ p) ∧ a 1 = nI p ∧ b 3 = nI p ∧ a 2 = nI d ∧ b 1 = nI d ∧ a 3 = nI pr ∧ b 2 = nI pr ∧ a 5 = nI n ∧ b 17 = nI n ∧ b 7 = nI w ∧ a 8 = b 23 ∧ a 9 = b 0
theorem rI_fault {p d pr n w : Nat} {a b : Nat → Int32} (x : Int32) (h : rI p d pr n w a b) : rI p d pr n w (upd a 9 x) (upd b 0 x) := by
  obtain ⟨⟨b1, b2, b3, b4, b5⟩, h1, h2, h3, h4, h5, h6, h7, h8, h9, h10, h11⟩ := h
  exact ⟨⟨b1, b2, b3, b4, b5⟩, (pk_un (by decide)).trans h1, (pk_un (by decide)).trans h2, (pk_un (by decide)).trans h3, (pk_un (by decide)).trans h4, (pk_un (by decide)).trans h5, (pk_un (by decide)).trans h6, (pk_un (by decide)).trans h7, (pk_un (by decide)).trans h8, (pk_un (by decide)).trans h9, by rw [pk_un (by decide), pk_un (by decide)]; exact h10, by rw [pk_us, pk_us]⟩
theorem rI_trace {p d pr n w : Nat} {a b : Nat → Int32} (x : Int32) (h : rI p d pr n w a b) : rI p d pr n w (upd a 8 x) (upd b 23 x) := by
  obtain ⟨⟨b1, b2, b3, b4, b5⟩, h1, h2, h3, h4, h5, h6, h7, h8, h9, h10, h11⟩ := h
  exact ⟨⟨b1, b2, b3, b4, b5⟩, (pk_un (by decide)).trans h1, (pk_un (by decide)).trans h2, (pk_un (by decide)).trans h3, (pk_un (by decide)).trans h4, (pk_un (by decide)).trans h5, (pk_un (by decide)).trans h6, (pk_un (by decide)).trans h7, (pk_un (by decide)).trans h8, (pk_un (by decide)).trans h9, by rw [pk_us, pk_us], by rw [pk_un (by decide), pk_un (by decide)]; exact h11⟩
theorem rI_drawn {p d pr n w : Nat} {a b : Nat → Int32} {e : Nat} (he : e ≤ 6) (h : rI p d pr n w a b) : rI p e pr n w (upd a 2 (nI e)) (upd b 1 (nI e)) := by
  obtain ⟨⟨b1, b2, b3, b4, b5⟩, h1, h2, h3, h4, h5, h6, h7, h8, h9, h10, h11⟩ := h
  exact ⟨⟨b1, he, b3, b4, b5⟩, (pk_un (by decide)).trans h1, (pk_un (by decide)).trans h2, pk_us, pk_us, (pk_un (by decide)).trans h5, (pk_un (by decide)).trans h6, (pk_un (by decide)).trans h7, (pk_un (by decide)).trans h8, (pk_un (by decide)).trans h9, by rw [pk_un (by decide), pk_un (by decide)]; exact h10, by rw [pk_un (by decide), pk_un (by decide)]; exact h11⟩
theorem rI_drawnB {p d pr n w : Nat} {a b : Nat → Int32} {e : Nat} (he : e ≤ 6) (ha : a 2 = nI e) (h : rI p d pr n w a b) : rI p e pr n w a (upd b 1 (nI e)) := by
  obtain ⟨⟨b1, b2, b3, b4, b5⟩, h1, h2, h3, h4, h5, h6, h7, h8, h9, h10, h11⟩ := h
  exact ⟨⟨b1, he, b3, b4, b5⟩, h1, (pk_un (by decide)).trans h2, ha, pk_us, h5, (pk_un (by decide)).trans h6, h7, (pk_un (by decide)).trans h8, (pk_un (by decide)).trans h9, by rw [pk_un (by decide)]; exact h10, by rw [pk_un (by decide)]; exact h11⟩
theorem rI_price {p d pr n w : Nat} {a b : Nat → Int32} {e : Nat} (he : e ≤ 9) (h : rI p d pr n w a b) : rI p d e n w (upd a 3 (nI e)) (upd b 2 (nI e)) := by
  obtain ⟨⟨b1, b2, b3, b4, b5⟩, h1, h2, h3, h4, h5, h6, h7, h8, h9, h10, h11⟩ := h
  exact ⟨⟨b1, b2, he, b4, b5⟩, (pk_un (by decide)).trans h1, (pk_un (by decide)).trans h2, (pk_un (by decide)).trans h3, (pk_un (by decide)).trans h4, pk_us, pk_us, (pk_un (by decide)).trans h7, (pk_un (by decide)).trans h8, (pk_un (by decide)).trans h9, by rw [pk_un (by decide), pk_un (by decide)]; exact h10, by rw [pk_un (by decide), pk_un (by decide)]; exact h11⟩
theorem rI_many {p d pr n w : Nat} {a b : Nat → Int32} {e : Nat} (he : e ≤ 8) (h : rI p d pr n w a b) : rI p d pr e w (upd a 5 (nI e)) (upd b 17 (nI e)) := by
  obtain ⟨⟨b1, b2, b3, b4, b5⟩, h1, h2, h3, h4, h5, h6, h7, h8, h9, h10, h11⟩ := h
  exact ⟨⟨b1, b2, b3, he, b5⟩, (pk_un (by decide)).trans h1, (pk_un (by decide)).trans h2, (pk_un (by decide)).trans h3, (pk_un (by decide)).trans h4, (pk_un (by decide)).trans h5, (pk_un (by decide)).trans h6, pk_us, pk_us, (pk_un (by decide)).trans h9, by rw [pk_un (by decide), pk_un (by decide)]; exact h10, by rw [pk_un (by decide), pk_un (by decide)]; exact h11⟩
theorem rI_wish {p d pr n w : Nat} {a b : Nat → Int32} {e : Nat} (he : e < 2 ^ p) (h : rI p d pr n w a b) : rI p d pr n e a (upd b 7 (nI e)) := by
  obtain ⟨⟨b1, b2, b3, b4, b5⟩, h1, h2, h3, h4, h5, h6, h7, h8, h9, h10, h11⟩ := h
  exact ⟨⟨b1, b2, b3, b4, he⟩, h1, (pk_un (by decide)).trans h2, h3, (pk_un (by decide)).trans h4, h5, (pk_un (by decide)).trans h6, h7, (pk_un (by decide)).trans h8, pk_us, by rw [pk_un (by decide)]; exact h10, by rw [pk_un (by decide)]; exact h11⟩
theorem rI_16 {p d pr n w : Nat} {a b : Nat → Int32} (x : Int32) (h : rI p d pr n w a b) : rI p d pr n w a (upd b 16 x) := by
  obtain ⟨⟨b1, b2, b3, b4, b5⟩, h1, h2, h3, h4, h5, h6, h7, h8, h9, h10, h11⟩ := h
  exact ⟨⟨b1, b2, b3, b4, b5⟩, h1, (pk_un (by decide)).trans h2, h3, (pk_un (by decide)).trans h4, h5, (pk_un (by decide)).trans h6, h7, (pk_un (by decide)).trans h8, (pk_un (by decide)).trans h9, by rw [pk_un (by decide)]; exact h10, by rw [pk_un (by decide)]; exact h11⟩
theorem n10 : ¬ (1 : Int32) = 0 := by decide
def rR (n p : Nat) (R : Nat → Nat) (x y : Nat → Int32) : Prop := ∀ k, k < n → R k < 2 ^ p ∧ x k = nI (R k) ∧ y k = nI (R k)
def mC (p : Nat) (K T G : Nat → Nat) (m : Nat → Nat → Int32) : Prop := ∀ c, c < p → m 1 c = nI (K c) ∧ m 2 c = nI (T c) ∧ m 3 c = nI (G c)
/-- a sheet of the class and the reference's cells for it -/
def rO (k : Nat) (r : SR) (m : Nat → Nat → Int32) : Prop := (r.1 1 = 0 ∧ m 8 k = (-1 : Int32)) ∨ ∃ l s, r.1 1 = 1 ∧ r.1 2 = nI l ∧ r.1 3 = nI s ∧ l ≤ 2 ∧ s ≤ 60 ∧ m 8 k = nI s ∧ m 9 k = nI l ∧ ∀ i, i < s → r.2 i = m 10 (60 * k + i)
def rS (sh : Nat → SR) (m : Nat → Nat → Int32) : Prop := ∀ k, k < 4 → rO k (sh k) m
def RelA (p d pr n w : Nat) (K T G R : Nat → Nat) (u : SX) (τ : SM) : Prop := rI p d pr n w u.1 τ.1 ∧ rR n p R u.2.1 (τ.2 7) ∧ cOK p w K T G u.2.2.1 ∧ mC p K T G τ.2 ∧ rS u.2.2.2.1 τ.2 ∧ dF u.2.2.2.2.2.2.2
def Rel (u : SX) (τ : SM) : Prop := ∃ p d pr n w K T G R, RelA p d pr n w K T G R u τ
theorem mOK_of {p d pr n w : Nat} {K T G R : Nat → Nat} {u : SX} {τ : SM} (h : RelA p d pr n w K T G R u τ) : mOK (slK K T) p d w τ := by
  obtain ⟨⟨⟨b1, b2, b3, b4, b5⟩, h1, h2, h3, h4, h5, h6, h7, h8, h9, h10, h11⟩, hR, hz, hm, hs, hF⟩ := h
  refine ⟨h2, h4, h9, fun c hc => ?_⟩
  obtain ⟨k1, k2, k3, -⟩ := hz c hc
  obtain ⟨m1, m2, m3⟩ := hm c hc
  exact ⟨K c, T c, k1, by omega, m1, m2, rfl⟩
theorem dB_of {p d pr n w : Nat} {K T G R : Nat → Nat} {u : SX} {τ : SM} (h : RelA p d pr n w K T G R u τ) : dB (slK K T) p d w ∧ tot (slK K T) p ≤ 120 := slK_B h.1.1.1 h.1.1.2.1 h.1.1.2.2.2.2 h.2.2.1
/-- the drum may be as it likes, but for its table -/
theorem rel_drum {u : SX} {τ : SM} {v : SD} (h : Rel u τ) (hv : dF v.2.2.2) : Rel (u.1, u.2.1, u.2.2.1, u.2.2.2.1, v) τ := by
  obtain ⟨p, d, pr, n, w, K, T, G, R, h1, h2, h3, h4, h5, h6⟩ := h
  exact ⟨p, d, pr, n, w, K, T, G, R, h1, h2, h3, h4, h5, hv⟩
theorem rel_drumA {p d pr n w : Nat} {K T G R : Nat → Nat} {u : SX} {τ : SM} {v : SD} (h : RelA p d pr n w K T G R u τ) (hv : dF v.2.2.2) : RelA p d pr n w K T G R (u.1, u.2.1, u.2.2.1, u.2.2.2.1, v) τ := ⟨h.1, h.2.1, h.2.2.1, h.2.2.2.1, h.2.2.2.2.1, hv⟩
theorem rel_fault {u : SX} {τ : SM} (h : Rel u τ) (x : Int32) : Rel (upd u.1 9 x, u.2) (upd τ.1 0 x, τ.2) := by
  obtain ⟨p, d, pr, n, w, K, T, G, R, h1, h2⟩ := h
  exact ⟨p, d, pr, n, w, K, T, G, R, rI_fault x h1, h2⟩
theorem rel_trace {u : SX} {τ : SM} (h : Rel u τ) (x : Int32) : Rel (upd u.1 8 x, u.2) (upd τ.1 23 x, τ.2) := by
  obtain ⟨p, d, pr, n, w, K, T, G, R, h1, h2⟩ := h
  exact ⟨p, d, pr, n, w, K, T, G, R, rI_trace x h1, h2⟩
theorem sp_nat {x : Int32} {lo hi : Nat} (h1 : ¬ x < nI lo) (h2 : ¬ nI hi < x) (hl : lo < 1000) (hh : hi < 1000) : ∃ e, lo ≤ e ∧ e ≤ hi ∧ x = nI e := by
  have g1 : ¬ x < 0 := fun z => h1 (by
    rw [fa_lt] at z ⊢
    have : (0 : Int32).toInt = 0 := by decide
    rw [nI_toInt (by omega)]
    omega)
  obtain ⟨e, he, rfl⟩ := nI_of g1
  refine ⟨e, Nat.not_lt.mp fun z => h1 (nI_lt z (by omega)), Nat.not_lt.mp fun z => h2 (nI_lt z he), rfl⟩
-- the numbers asked for and set
theorem q_drawn {u : SX} {τ : SM} (h : Rel u τ) (x : Int32) : ∃ r u' τ', fX4_drawn x u = some (r, u') ∧ fX5_drawn x τ = some (r, τ') ∧ Rel u' τ' := by
  obtain ⟨p, d, pr, n, w, K, T, G, R, h1, h2⟩ := h
  have hI := h1
  obtain ⟨⟨b1, b2, b3, b4, b5⟩, i1, i2, i3, i4, -⟩ := h1
  have ein := in_lit x (lo := 0) (hi := 6) (by omega) (by omega)
  unfold fX4_drawn fX4_drawn_10 fX5_drawn
  rw [show fX5_in x.toInt64 (0 : Int64) (6 : Int64) = _ from ein, Option.bind_some]
  by_cases q1 : x < nI 0
  · rw [if_pos (show x < 0 from q1), if_pos q1, if_pos rfl]
    exact ⟨_, _, _, rfl, rfl, p, d, pr, n, w, K, T, G, R, hI, h2⟩
  · rw [if_neg (show ¬ x < 0 from q1), if_neg q1]
    by_cases q2 : nI 6 < x
    · rw [if_neg (show ¬ x ≤ (6 : Int32) from (fa_of_lt q2).2.1), if_pos q2, if_pos rfl]
      exact ⟨_, _, _, rfl, rfl, p, d, pr, n, w, K, T, G, R, hI, h2⟩
    · rw [if_pos (show x ≤ (6 : Int32) from fa_of_nlt q2), if_neg q2, if_neg n10, i1, i2]
      by_cases q3 : nI p = 0
      · rw [if_pos q3, if_pos q3]
        exact ⟨_, _, _, rfl, rfl, p, d, pr, n, w, K, T, G, R, hI, h2⟩
      · rw [if_neg q3, if_neg q3, i3, i4]
        obtain ⟨e, -, he, rfl⟩ := sp_nat q1 q2 (by omega) (by omega)
        exact ⟨_, _, _, rfl, rfl, p, e, pr, n, w, K, T, G, R, rI_drawn he hI, h2⟩
theorem q_price {u : SX} {τ : SM} (h : Rel u τ) (x : Int32) : ∃ r u' τ', fX4_price x u = some (r, u') ∧ fX5_price x τ = some (r, τ') ∧ Rel u' τ' := by
  obtain ⟨p, d, pr, n, w, K, T, G, R, h1, h2⟩ := h
  have hI := h1
  obtain ⟨⟨b1, b2, b3, b4, b5⟩, i1, i2, i3, i4, i5, i6, -⟩ := h1
  have ein := in_lit x (lo := 1) (hi := 9) (by omega) (by omega)
  unfold fX4_price fX4_price_11 fX5_price
  rw [show fX5_in x.toInt64 (1 : Int64) (9 : Int64) = _ from ein, Option.bind_some]
  by_cases q1 : x < nI 1
  · rw [if_pos (show x < (1 : Int32) from q1), if_pos q1, if_pos rfl]
    exact ⟨_, _, _, rfl, rfl, p, d, pr, n, w, K, T, G, R, hI, h2⟩
  · rw [if_neg (show ¬ x < (1 : Int32) from q1), if_neg q1]
    by_cases q2 : nI 9 < x
    · rw [if_neg (show ¬ x ≤ (9 : Int32) from (fa_of_lt q2).2.1), if_pos q2, if_pos rfl]
      exact ⟨_, _, _, rfl, rfl, p, d, pr, n, w, K, T, G, R, hI, h2⟩
    · rw [if_pos (show x ≤ (9 : Int32) from fa_of_nlt q2), if_neg q2, if_neg n10, i1, i2]
      by_cases q3 : nI p = 0
      · rw [if_pos q3, if_pos q3]
        exact ⟨_, _, _, rfl, rfl, p, d, pr, n, w, K, T, G, R, hI, h2⟩
      · rw [if_neg q3, if_neg q3, i5, i6]
        obtain ⟨e, -, he, rfl⟩ := sp_nat q1 q2 (by omega) (by omega)
        exact ⟨_, _, _, rfl, rfl, p, d, e, n, w, K, T, G, R, rI_price he hI, h2⟩
theorem q_back {u : SX} {τ : SM} (h : Rel u τ) (x : Int32) : ∃ r u' τ', fX4_back x u = some (r, u') ∧ fX5_back x τ = some (r, τ') ∧ Rel u' τ' := by
  obtain ⟨p, d, pr, n, w, K, T, G, R, h1, hR, h2⟩ := h
  have hI := h1
  obtain ⟨⟨b1, b2, b3, b4, b5⟩, i1, i2, i3, i4, i5, i6, i7, i8, -⟩ := h1
  have ein := in_lit x (lo := 0) (hi := n) (by omega) (by omega)
  unfold fX4_back fX4_back_12 fX5_back
  rw [i7, i8, nI_l (by omega), show fX5_in x.toInt64 (0 : Int64) (lN n) = _ from ein, Option.bind_some]
  by_cases q1 : x < nI 0
  · rw [if_pos (show x < 0 from q1), if_pos q1, if_pos rfl]
    exact ⟨_, _, _, rfl, rfl, p, d, pr, n, w, K, T, G, R, hI, hR, h2⟩
  · rw [if_neg (show ¬ x < 0 from q1), if_neg q1]
    by_cases q2 : nI n < x
    · rw [if_neg (fa_of_lt q2).2.1, if_pos q2, if_pos rfl]
      exact ⟨_, _, _, rfl, rfl, p, d, pr, n, w, K, T, G, R, hI, hR, h2⟩
    · rw [if_pos (fa_of_nlt q2), if_neg q2, if_neg n10]
      obtain ⟨e, -, he, rfl⟩ := sp_nat q1 q2 (by omega) (by omega)
      rw [pk_sub he, pk_us, pk_us]
      exact ⟨_, _, _, rfl, rfl, p, d, pr, n - e, w, K, T, G, R, rI_many (by omega) hI, fun k hk => hR k (by omega), h2⟩
theorem is_set {p : Nat} (hp : p ≤ 6) (x : Int32) : (∃ S, S < 2 ^ p ∧ x = nI S ∧ (∀ u : SX, u.1 1 = nI p → fX4_isSet x u = some 1) ∧ fX5_in x.toInt64 (0 : Int64) (nI (2 ^ p - 1)).toInt64 = some 1) ∨ ((∀ u : SX, u.1 1 = nI p → fX4_isSet x u = some 0) ∧ fX5_in x.toInt64 (0 : Int64) (nI (2 ^ p - 1)).toInt64 = some 0) := by
  have hpw := b_pow p (by omega)
  have ein := in_lit x (lo := 0) (hi := 2 ^ p - 1) (by omega) (by omega)
  rw [← nI_l (show 2 ^ p - 1 < 2 ^ 31 by omega)] at ein
  have e' : fX5_in x.toInt64 (0 : Int64) (nI (2 ^ p - 1)).toInt64 = _ := ein
  rcases pk_ix x (n := 2 ^ p) (by omega) with h | h | ⟨S, hS, rfl⟩
  · refine Or.inr ⟨fun u hu => ?_, ?_⟩
    · unfold fX4_isSet fX4_isSet_18; rw [if_pos h, z0]
    · rw [e', if_pos (show x < nI 0 from h)]
  · refine Or.inr ⟨fun u hu => ?_, ?_⟩
    · unfold fX4_isSet fX4_isSet_18
      rw [hu, b_shl p (by omega), z0]
      by_cases q : x < 0
      · rw [if_pos q]
      · rw [if_neg q, if_pos h]
    · rw [e']
      by_cases q : x < nI 0
      · rw [if_pos q]
      · rw [if_neg q, if_pos (fa_trans (nI_lt (show 2 ^ p - 1 < 2 ^ p by omega) (by omega)) h)]
  · refine Or.inl ⟨S, hS, rfl, fun u hu => ?_, ?_⟩
    · unfold fX4_isSet
      rw [hu, b_shl p (by omega), if_neg (nI_pos (by omega)), if_neg (nI_ge hS (by omega)), z1]
    · rw [e', if_neg (nI_nlt (by omega) (by omega)), if_neg (nI_nlt (by omega) (by omega))]
theorem q_reading {u : SX} {τ : SM} (h : Rel u τ) (x : Int32) : ∃ r u' τ', fX4_reading x u = some (r, u') ∧ fX5_reading x τ = some (r, τ') ∧ Rel u' τ' := by
  obtain ⟨p, d, pr, n, w, K, T, G, R, hA⟩ := h
  have hAll : Rel u τ := ⟨p, d, pr, n, w, K, T, G, R, hA⟩
  have hM := mOK_of hA
  obtain ⟨h1, hR, hz, hm, hs, hF⟩ := hA
  have hI := h1
  obtain ⟨⟨b1, b2, b3, b4, b5⟩, i1, i2, i3, i4, i5, i6, i7, i8, -⟩ := h1
  unfold fX4_reading fX4_reading_40 fX5_reading
  rw [i1, i2]
  by_cases q3 : nI p = 0
  · rw [if_pos q3, if_pos q3]
    exact ⟨_, _, _, rfl, rfl, hAll⟩
  · rw [if_neg q3, if_neg q3, m_every b1 hM, Option.bind_some]
    rcases is_set b1 x with ⟨S, hS, rfl, f1, f2⟩ | ⟨f1, f2⟩
    · rw [f1 u i1, f2, Option.bind_some, Option.bind_some, if_neg n10, if_neg n10, i7, i8, if_neg (nI_pos (by omega))]
      by_cases q4 : n = 8
      · rw [if_neg (show ¬ nI n < (8 : Int32) from (show ¬ nI n < nI 8 from nI_nlt (by omega) (by omega))), if_pos (show nI n = (8 : Int32) by rw [q4]; rfl)]
        exact ⟨_, _, _, rfl, rfl, hAll⟩
      · rw [if_pos (show nI n < (8 : Int32) from (show nI n < nI 8 from nI_lt (by omega) (by omega))), if_neg (show ¬ nI n = (8 : Int32) from (show ¬ nI n = nI 8 from fun z => q4 ((nI_eq (by omega) (by omega)).mp z))), if_neg (ix (by omega) (by omega)), if_neg (ix (by omega) (by omega)), nI_clamp (by omega), nI_1, pk_us, pk_us]
        refine ⟨_, _, _, rfl, rfl, p, d, pr, n + 1, w, K, T, G, va_up R n S, rI_many (by omega) hI, ?_, hz, ?_, ?_, hF⟩
        · intro k hk
          show va_up R n S k < 2 ^ p ∧ upd u.2.1 n (nI S) k = nI (va_up R n S k) ∧ va_up τ.2 7 (upd (τ.2 7) n (nI S)) 7 k = nI (va_up R n S k)
          rw [va_up_self]
          by_cases q : k = n
          · rw [q, va_up_self, pk_us, pk_us]; exact ⟨hS, rfl, rfl⟩
          · rw [va_up_ne _ _ q, pk_un q, pk_un q]; exact hR k (by omega)
        · exact fun c hc => hm c hc
        · exact fun k hk => hs k hk
    · rw [f1 u i1, f2, Option.bind_some, Option.bind_some, if_pos rfl, if_pos rfl]
      exact ⟨_, _, _, rfl, rfl, hAll⟩
