/-! draw -/
theorem barred {k : Nat} {r : SR} {τ : SM} (hk : k < 4) (ho : rO k r τ.2) (y i n : Int32) : (r.1 1 = 0 ∧ fX5_cellsBarred (nI k) y i n.toInt64 τ = some ((-10 : Int32) - 1, (upd τ.1 0 (1 : Int32), τ.2))) ∨ (∃ q, r.1 1 = 1 ∧ ¬ q = 0 ∧ ¬ 0 ≤ (-10 : Int32) - q ∧ fX4_faultOf y i n r = some q ∧ fX5_cellsBarred (nI k) y i n.toInt64 τ = some ((-10 : Int32) - q, (upd τ.1 0 q, τ.2))) ∨ ∃ s a b, r.1 1 = 1 ∧ s ≤ 60 ∧ i = nI a ∧ n = nI b ∧ a + b ≤ s ∧ fX4_faultOf y i n r = some 0 ∧ fX5_cellsBarred (nI k) y i n.toInt64 τ = some (0, τ) ∧ ∀ j, j < s → r.2 j = τ.2 10 (60 * k + j) := by
  have hx := ixc hk (by omega)
  unfold fX5_cellsBarred fX5_cellsBarred_25
  rw [nI_clamp (by omega), if_neg hx, if_neg hx]
  rcases ho with ⟨e1, e2⟩ | ⟨l, s, e1, i2, i3, hl, hs60, e8, e9, e10⟩
  · refine Or.inl ⟨e1, ?_⟩
    rw [e2, if_pos (show (-1 : Int32) < 0 by decide), if_neg (show ¬ (0 : Int32) ≤ (-1 : Int32) by decide)]
    rfl
  · refine Or.inr ?_
    unfold fX4_faultOf
    rw [i2, e8, e9, if_neg (nI_pos (show s < 2 ^ 31 by omega)), if_neg hx, if_pos (nI_pos' (show s < 2 ^ 31 by omega))]
    by_cases q1 : nI l = y
    · rw [if_pos q1, if_pos q1]
      by_cases q2 : 0 ≤ n
      · rw [if_pos q2, if_pos (show 0 ≤ lg_cmp n.toInt64 (0 : Int64) from (lg_cmp_ge _ _).mpr ((fa_wide_le 0 n).mpr q2)), if_neg hx]
        rcases holdsL i3 hs60 i n with ⟨a, b, rfl, rfl, h1, h2, h3⟩ | ⟨h2, h3⟩
        · exact Or.inr ⟨s, a, b, e1, hs60, rfl, rfl, h1, by rw [h2]; rfl, by rw [h3]; rfl, e10⟩
        · exact Or.inl ⟨3, e1, by decide, by decide, by rw [h2]; rfl, by rw [h3]; rfl⟩
      · rw [if_neg q2, if_neg (show ¬ 0 ≤ lg_cmp n.toInt64 (0 : Int64) from fun z => q2 ((fa_wide_le 0 n).mp ((lg_cmp_ge _ _).mp z)))]
        exact Or.inl ⟨4, e1, by decide, by decide, rfl, rfl⟩
    · rw [if_neg q1, if_neg q1]
      exact Or.inl ⟨2, e1, by decide, by decide, rfl, rfl⟩
def hasb (D : Nat → Int32) (v : Int32) : Nat → Bool
  | 0 => false
  | n + 1 => hasb D v n || decide (D n = v)
theorem hasb_in {D : Nat → Int32} {v : Int32} {y : Nat} (h : D y = v) : ∀ x, y < x → hasb D v x = true
  | 0, h0 => by omega
  | x + 1, h0 => by
    show (hasb D v x || decide (D x = v)) = true
    by_cases q : y = x
    · rw [← q, decide_eq_true h, Bool.or_true]
    · rw [hasb_in h x (by omega), Bool.true_or]
theorem has_loop {a x : Nat} {r : SR} {c : Nat → Int32} {v : Int32} (hr : r.2 = c) (hx : a + x ≤ 60) : ∀ f y, x < y + f → y ≤ x → hasb (fun j => c (a + j)) v y = false → fX2_has_3 f v (nI a) (nI x) (nI y) r = some (t01 (hasb (fun j => c (a + j)) v x)) := by
  intro f
  induction f with
  | zero => intro y h1 h2; omega
  | succ f ih =>
    intro y h1 h2 h3
    unfold fX2_has_3
    rw [z0, z1]
    by_cases q : x ≤ y
    · obtain rfl : y = x := by omega
      rw [if_pos (nI_le (Nat.le_refl _) (by omega)), h3]; rfl
    · rw [if_neg (nI_ge (by omega) (by omega)), nI_add, at_c hr (by omega), Option.bind_some]
      by_cases q2 : c (a + y) = v
      · rw [if_pos q2, hasb_in (D := fun j => c (a + j)) q2 x (by omega)]; rfl
      · rw [if_neg q2, show (1 : Int32) = nI 1 from rfl, nI_add]
        refine ih (y + 1) (by omega) (by omega) ?_
        show (hasb (fun j => c (a + j)) v y || decide (c (a + y) = v)) = false
        rw [h3, decide_eq_false q2]; rfl
theorem m_has_loop {c11 : Int32 → Int32 → Int32 → Int32 → SM → Option (Int32 × SM)} {P x : Nat} {N F v : Int32} {w : Bool} {t1 : Nat → Int32} {m : Nat → Nat → Int32} (hP : P + x ≤ 240) (hx : x ≤ 60) : ∀ f y, x < y + f → y ≤ x → fX5_freeBy_66 c11 f (nI P) N F (nI x) v (t01 (w || hasb (fun j => m 10 (P + j)) v y)) (nI y) (t1, m) = if (w || hasb (fun j => m 10 (P + j)) v x) = true then fX5_freeBy_118 c11 (nI P) N F (nI x) v 1 (nI x) (t1, m) else fX5_freeBy_118 c11 (nI P) N F (nI x) v 0 (-9 : Int32) (t1, m) := by
  intro f
  induction f with
  | zero => intro y h1 h2; omega
  | succ f ih =>
    intro y h1 h2
    unfold fX5_freeBy_66
    by_cases q : x ≤ y
    · obtain rfl : y = x := by omega
      rw [if_pos (nI_le (Nat.le_refl _) (by omega))]
      cases (w || hasb (fun j => m 10 (P + j)) v y)
      · rfl
      · rfl
    · have hr := ih (y + 1) (by omega) (by omega)
      rw [if_neg (nI_ge (by omega) (by omega)), nI_add, nI_clamp (by omega), if_neg (ixc (show P + y < 240 by omega) (by omega))]
      unfold fX5_freeBy_92 fX5_freeBy_97
      rw [show (1 : Int32) = nI 1 from rfl, nI_add, show nI 1 = (1 : Int32) from rfl]
      rw [show (w || hasb (fun j => m 10 (P + j)) v (y + 1)) = ((w || hasb (fun j => m 10 (P + j)) v y) || decide (m 10 (P + y) = v)) from by rw [Bool.or_assoc]; rfl] at hr
      cases hb : (w || hasb (fun j => m 10 (P + j)) v y)
      · rw [hb, Bool.false_or] at hr
        rw [if_pos (show t01 false = 0 from rfl)]
        by_cases q2 : m 10 (P + y) = v
        · rw [if_pos q2]
          rw [decide_eq_true q2] at hr
          exact hr
        · rw [if_neg q2]
          rw [decide_eq_false q2] at hr
          exact hr
      · rw [hb, Bool.true_or] at hr
        rw [if_neg (show ¬ t01 true = 0 by decide)]
        exact hr
theorem tot_le {sl : Nat → Nat} {c p : Nat} (h : c ≤ p) : tot sl c ≤ tot sl p := by
  have := fb_sm_mono sl c (p - c)
  rw [show c + (p - c) = p by omega] at this
  exact this
theorem tot_s {sl : Nat → Nat} {c : Nat} : tot sl (c + 1) = tot sl c + sl c := rfl
theorem own_loop {p d w : Nat} {K T G : Nat → Nat} {u : SX} {τ : SM} (hp : p ≤ 6) (h1 : u.1 1 = nI p) (hz : cOK p w K T G u.2.2.1) (hM : mOK (slK K T) p d w τ) (ht : tot (slK K T) p ≤ 200) {v : Nat} (hv : v < tot (slK K T) p) : ∀ f c, p < c + f → c ≤ p → tot (slK K T) c ≤ v → ∃ o, o < p ∧ fX4_ownerOf_4 f (nI v) (nI (tot (slK K T) c)) (nI c) u = some (nI o) ∧ fX5_ownerOf_4 f (nI c) (nI (v - tot (slK K T) c)) τ = some (nI o) := by
  intro f
  induction f with
  | zero => intro c g1 g2; omega
  | succ f ih =>
    intro c g1 g2 g3
    have hc : c < p := by
      rcases Nat.lt_or_ge c p with q | q
      · exact q
      · obtain rfl : c = p := by omega
        omega
    have ht1 := tot_le (sl := slK K T) (show c + 1 ≤ p by omega)
    have hs := tot_s (sl := slK K T) (c := c)
    unfold fX4_ownerOf_4 fX5_ownerOf_4 fX4_ownerOf_39
    rw [h1, if_neg (nI_ge hc (by omega)), if_neg (nI_nlt (by omega) (by omega)), c_cit hp hc h1, Option.bind_some, Option.elim_some, if_neg (show ¬ ¬ c < 6 by omega), c_slips hz hc, Option.bind_some, m_slipsOf hp hM hc, Option.bind_some, Option.bind_some]
    rw [show sK (K c) (T c) = slK K T c from rfl, nI_add, ← hs]
    by_cases q : v < tot (slK K T) (c + 1)
    · rw [if_neg (nI_ge q (by omega)), if_pos (nI_lt (by omega) (by omega))]
      exact ⟨c, hc, rfl, rfl⟩
    · rw [if_pos (nI_le (by omega) (by omega)), if_neg (nI_nlt (by omega) (by omega)), pk_sub (by omega), show (1 : Int32) = nI 1 from rfl, nI_add, show v - tot (slK K T) c - slK K T c = v - tot (slK K T) (c + 1) by omega]
      exact ih (c + 1) (by omega) (by omega) (by omega)
theorem own_out_loop {p w : Nat} {K T G : Nat → Nat} {u : SX} (hp : p ≤ 6) (h1 : u.1 1 = nI p) (hz : cOK p w K T G u.2.2.1) (ht : tot (slK K T) p ≤ 200) {v : Nat} (hv : tot (slK K T) p ≤ v) (hv31 : v < 2 ^ 31) : ∀ f c, p < c + f → c ≤ p → fX4_ownerOf_4 f (nI v) (nI (tot (slK K T) c)) (nI c) u = some (-9 : Int32) := by
  intro f
  induction f with
  | zero => intro c g1 g2; omega
  | succ f ih =>
    intro c g1 g2
    unfold fX4_ownerOf_4 fX4_ownerOf_39 fX4_ownerOf_54
    by_cases q : p ≤ c
    · rw [h1, if_pos (nI_le q (by omega))]
    · have hc : c < p := by omega
      have ht0 := tot_le (sl := slK K T) (show c ≤ p by omega)
      have ht1 := tot_le (sl := slK K T) (show c + 1 ≤ p by omega)
      have hs := tot_s (sl := slK K T) (c := c)
      rw [h1, if_neg (nI_ge hc (by omega)), if_neg (nI_nlt (by omega) (by omega)), c_cit hp hc h1, Option.bind_some, Option.elim_some, if_neg (show ¬ ¬ c < 6 by omega), c_slips hz hc, Option.bind_some]
      rw [show sK (K c) (T c) = slK K T c from rfl, nI_add, ← hs, if_pos (nI_le (by omega) hv31), show (1 : Int32) = nI 1 from rfl, nI_add]
      exact ih (c + 1) (by omega) (by omega)
theorem own {p d w : Nat} {K T G : Nat → Nat} {u : SX} {τ : SM} (hp : p ≤ 6) (h1 : u.1 1 = nI p) (hz : cOK p w K T G u.2.2.1) (hM : mOK (slK K T) p d w τ) (ht : tot (slK K T) p ≤ 200) (x : Int32) : (∃ o, o < p ∧ fX4_ownerOf x u = some (nI o) ∧ fX5_ownerOf x τ = some (nI o) ∧ fX5_in x.toInt64 (0 : Int64) ((nI (tot (slK K T) p)).toInt64 - (1 : Int64)) = some 1) ∨ (fX4_ownerOf x u = some (-9 : Int32) ∧ fX5_in x.toInt64 (0 : Int64) ((nI (tot (slK K T) p)).toInt64 - (1 : Int64)) = some 0) := by
  rw [in_bel x (show tot (slK K T) p < 1000 by omega)]
  unfold fX4_ownerOf fX5_ownerOf
  by_cases q1 : x < 0
  · refine Or.inr ⟨?_, by rw [if_pos q1]⟩
    unfold fu fX4_ownerOf_4 fX4_ownerOf_54
    rw [if_pos q1]
    split <;> rfl
  · obtain ⟨v, hv, rfl⟩ := nI_of q1
    rw [if_neg q1]
    by_cases q2 : tot (slK K T) p ≤ v
    · exact Or.inr ⟨own_out_loop hp h1 hz ht q2 hv fu 0 (by unfold fu; omega) (by omega), by rw [if_pos (nI_le q2 hv)]⟩
    · obtain ⟨o, o1, o2, o3⟩ := own_loop hp h1 hz hM ht (show v < tot (slK K T) p by omega) fu 0 (by unfold fu; omega) (by omega) (Nat.zero_le _)
      exact Or.inl ⟨o, o1, o2, o3, by rw [if_neg (nI_ge (show v < tot (slK K T) p by omega) (by omega))]⟩
theorem mOK_16 {sl : Nat → Nat} {p d w : Nat} {τ : SM} (x : Int32) (h : mOK sl p d w τ) : mOK sl p d w (upd τ.1 16 x, τ.2) := by
  obtain ⟨h1, h2, h3, h4⟩ := h
  refine ⟨?_, ?_, ?_, h4⟩
  · show upd τ.1 16 x 3 = _
    rw [pk_un (by decide), h1]
  · show upd τ.1 16 x 1 = _
    rw [pk_un (by decide), h2]
  · show upd τ.1 16 x 7 = _
    rw [pk_un (by decide), h3]
theorem b_free : ∀ E, E < 64 → ∀ F, F < 64 → ∀ o, o < 6 → di (di E F) (2 ^ o) = di E (F ||| 2 ^ o) := by decide +kernel
theorem n9 (y : Nat) (h : y < 1000) : ¬ nI y = (-9 : Int32) := fun z => absurd (show nI y < 0 from by rw [z]; decide) (nI_pos (by omega))
theorem q_draw_loop {p d w k s a n : Nat} {K T G : Nat → Nat} {c : Nat → Int32} {u : SX} {τ : SM} (hk : k < 4) (hp : p ≤ 6) (h1 : u.1 1 = nI p) (hz : cOK p w K T G u.2.2.1) (hM : mOK (slK K T) p d w τ) (ht : tot (slK K T) p ≤ 200) (hcc : (u.2.2.2.1 k).2 = c) (hs : s ≤ 60) (han : a + n ≤ s) (hc : ∀ j, j < s → c j = τ.2 10 (60 * k + j)) : ∀ f x F, n < x + f → x ≤ n → F < 64 →
    (∃ y g, y < n ∧ fX4_firstWrong_3 f k (nI a) (nI n) (nI x) u = some (nI y) ∧ fX5_freeBy_11 f (nI (60 * k + a)) (nI n) (nI F) (nI x) (upd τ.1 16 (-9 : Int32), τ.2) = some (g, (upd τ.1 16 (nI y), τ.2))) ∨
    ∃ g, g < 64 ∧ fX4_firstWrong_3 f k (nI a) (nI n) (nI x) u = some (-9 : Int32) ∧ fX5_freeBy_11 f (nI (60 * k + a)) (nI n) (nI F) (nI x) (upd τ.1 16 (-9 : Int32), τ.2) = some (nI g, (upd τ.1 16 (-9 : Int32), τ.2)) ∧ fX4_rulersBy_13 f k (nI a) (nI n) (nI (di (2 ^ p - 1) F)) (nI x) u = some (nI (di (2 ^ p - 1) g)) := by
  intro f
  have hpw := b_pow p (by omega)
  induction f with
  | zero => intro x F g1 g2; omega
  | succ f ih =>
    intro x F g1 g2 gF
    unfold fX4_firstWrong_3 fX5_freeBy_11 fX4_rulersBy_13 fX5_freeBy_147 fX4_firstWrong_42 fX4_rulersBy_51
    by_cases q : n ≤ x
    · rw [if_pos (nI_le q (by omega)), if_pos (nI_le q (by omega)), if_pos (nI_le q (by omega))]
      exact Or.inr ⟨F, gF, rfl, rfl, rfl⟩
    · have hM' := mOK_16 (-9 : Int32) hM
      rw [if_neg (nI_ge (show x < n by omega) (by omega)), if_neg (nI_ge (show x < n by omega) (by omega)), if_neg (nI_ge (show x < n by omega) (by omega)), nI_add, nI_add, at_c hcc (by omega), Option.bind_some, Option.bind_some, nI_clamp (show 60 * k + a + x < 2 ^ 31 by omega), if_neg (ixc (show 60 * k + a + x < 240 by omega) (by omega)), m_every hp hM', Option.bind_some, m_tot hp hM', Option.bind_some]
      rw [if_neg (show ¬ 0 ≤ (upd τ.1 16 (-9 : Int32)) 16 by rw [pk_us]; decide)]
      show (∃ y g, y < n ∧ _ ∧ ((fX5_in (τ.2 10 (60 * k + a + x)).toInt64 _ _).bind (fun q8 => if q8 = 0 then fX5_freeBy_61 _ _ _ _ _ (τ.2 10 (60 * k + a + x)) _ _ else fX5_freeBy_61 _ _ _ _ _ (τ.2 10 (60 * k + a + x)) _ _)) = _) ∨ ∃ g, g < 64 ∧ _ ∧ ((fX5_in (τ.2 10 (60 * k + a + x)).toInt64 _ _).bind (fun q8 => if q8 = 0 then fX5_freeBy_61 _ _ _ _ _ (τ.2 10 (60 * k + a + x)) _ _ else fX5_freeBy_61 _ _ _ _ _ (τ.2 10 (60 * k + a + x)) _ _)) = _ ∧ _
      have ed : (fun j => c (a + j)) = (fun j => c (a + j)) := rfl
      have ec : c (a + x) = τ.2 10 (60 * k + a + x) := by rw [hc _ (by omega), Nat.add_assoc]
      rw [← ec]
      generalize hv : c (a + x) = v
      have hh : ∀ y, y ≤ x → hasb (fun j => τ.2 10 (60 * k + a + j)) v y = hasb (fun j => c (a + j)) v y := by
        intro y
        induction y with
        | zero => intro _; rfl
        | succ y ih => intro hy; show (_ || decide (τ.2 10 (60 * k + a + y) = v)) = (_ || decide (c (a + y) = v)); rw [ih (by omega), hc (a + y) (by omega), Nat.add_assoc]
      -- what the reference does when the slip is wrong
      have bad : ∀ x0 : Int32, x0 = nI x → fX5_freeBy_118 (fX5_freeBy_11 f) (nI (60 * k + a)) (nI n) (nI F) (nI x) v 1 x0 (upd τ.1 16 (-9 : Int32), τ.2) = some (nI F, (upd τ.1 16 (nI x), τ.2)) := by
        intro x0 e0
        subst e0
        unfold fX5_freeBy_118 fX5_freeBy_139
        rw [if_neg n10]
        show fX5_freeBy_11 f _ _ (nI F ||| (0 : Int32)) _ (upd (upd τ.1 16 (-9 : Int32)) 16 (nI x), τ.2) = _
        rw [fa_upd_twice, or0, show (1 : Int32) = nI 1 from rfl, nI_add]
        obtain ⟨f', rfl⟩ : ∃ f', f = f' + 1 := ⟨f - 1, by omega⟩
        unfold fX5_freeBy_11 fX5_freeBy_147
        rw [if_pos (show 0 ≤ (upd τ.1 16 (nI x)) 16 by rw [pk_us]; exact nI_pos' (by omega))]
        split <;> rfl
      unfold fX5_freeBy_61
      rcases own hp h1 hz hM' ht v with ⟨o, ho, o1, o2, o3⟩ | ⟨o1, o3⟩
      · rw [o3, o1, Option.bind_some, Option.bind_some, Option.bind_some, if_neg n10, if_neg (n9 o (by omega)), if_neg (n9 o (by omega))]
        have hl := has_loop (r := u.2.2.2.1 k) (c := c) (a := a) (x := x) (v := v) hcc (by omega) fu 0 (by unfold fu; omega) (by omega) rfl
        have hm := m_has_loop (c11 := fX5_freeBy_11 f) (P := 60 * k + a) (x := x) (N := nI n) (F := nI F) (v := v) (w := false) (t1 := upd τ.1 16 (-9 : Int32)) (m := τ.2) (by omega) (by omega) fu 0 (by unfold fu; omega) (by omega)
        rw [Bool.false_or, Bool.false_or, hh 0 (by omega), hh x (by omega)] at hm
        have hm' : fX5_freeBy_66 (fX5_freeBy_11 f) fu (nI (60 * k + a)) (nI n) (nI F) (nI x) v 0 0 (upd τ.1 16 (-9 : Int32), τ.2) = _ := hm
        rw [hm']
        unfold fX2_has
        rw [show fX2_has_3 fu v (nI a) (nI x) 0 (u.2.2.2.1 k) = _ from hl, Option.bind_some]
        cases hb : hasb (fun j => c (a + j)) v x
        · rw [if_pos (show t01 false = 0 from rfl), if_neg (by decide)]
          have e118 : fX5_freeBy_118 (fX5_freeBy_11 f) (nI (60 * k + a)) (nI n) (nI F) (nI x) v 0 (-9 : Int32) (upd τ.1 16 (-9 : Int32), τ.2) = fX5_freeBy_11 f (nI (60 * k + a)) (nI n) (nI (F ||| 2 ^ o)) (nI (x + 1)) (upd τ.1 16 (-9 : Int32), τ.2) := by
            unfold fX5_freeBy_118 fX5_freeBy_139
            rw [if_pos rfl]
            show (fX5_ownerOf v (upd (upd τ.1 16 (-9 : Int32)) 16 (-9 : Int32), τ.2)).bind (fun q2 => fX5_freeBy_11 f _ _ _ _ (upd (upd τ.1 16 (-9 : Int32)) 16 (-9 : Int32), τ.2)) = _
            rw [fa_upd_twice, o2, Option.bind_some, (b_setw F gF o (by omega)).1, show (1 : Int32) = nI 1 from rfl, nI_add]
          rw [e118, (b_setw (di (2 ^ p - 1) F) (Nat.lt_of_le_of_lt (b_dle (2 ^ p - 1) (by omega) F gF) (by omega)) o (by omega)).2.1, b_free (2 ^ p - 1) (by omega) F gF o (by omega), show nI x + (1 : Int32) = nI (x + 1) from nI_add x 1]
          exact ih (x + 1) (F ||| 2 ^ o) (by omega) (by omega) (b_setw F gF o (by omega)).2.2.1
        · rw [if_neg (show ¬ t01 true = 0 by decide), if_pos rfl, bad _ rfl]
          exact Or.inl ⟨x, _, by omega, rfl, rfl⟩
      · rw [o3, o1, Option.bind_some, Option.bind_some, Option.bind_some, if_pos rfl, if_pos rfl, if_pos rfl]
        have hm := m_has_loop (c11 := fX5_freeBy_11 f) (P := 60 * k + a) (x := x) (N := nI n) (F := nI F) (v := v) (w := true) (t1 := upd τ.1 16 (-9 : Int32)) (m := τ.2) (by omega) (by omega) fu 0 (by unfold fu; omega) (by omega)
        rw [Bool.true_or, Bool.true_or, if_pos rfl, bad _ rfl] at hm
        have hm' : fX5_freeBy_66 (fX5_freeBy_11 f) fu (nI (60 * k + a)) (nI n) (nI F) (nI x) v 1 0 (upd τ.1 16 (-9 : Int32), τ.2) = _ := hm
        rw [hm']
        exact Or.inl ⟨x, _, by omega, rfl, rfl⟩
theorem rel_16 {u : SX} {τ : SM} (h : Rel u τ) (x : Int32) : Rel u (upd τ.1 16 x, τ.2) := by
  obtain ⟨p, d, pr, n, w, K, T, G, R, h1, h2⟩ := h
  exact ⟨p, d, pr, n, w, K, T, G, R, rI_16 x h1, h2⟩
theorem q_draw {u : SX} {τ : SM} (h : Rel u τ) (x y i n z : Int32) : ∃ r u' τ', fX4_draw x y i n z u = some (r, u') ∧ fX5_draw x y i n z τ = some (r, τ') ∧ Rel u' τ' := by
  have hAll := h
  obtain ⟨p, d, pr, N, w, K, T, G, R, hA⟩ := h
  have hM := mOK_of hA
  have hB := dB_of hA
  obtain ⟨⟨⟨b1, b2, b3, b4, b5⟩, i1, i2, i3, i4, i5, i6, i7, i8, i9, -⟩, hR, hz, hm, hs, hF⟩ := hA
  have ein : fX5_in n.toInt64 (0 : Int64) (20 : Int64) = _ := in_lit n (lo := 0) (hi := 20) (by omega) (by omega)
  have ein2 : fX5_in z.toInt64 (0 : Int64) (2 : Int64) = _ := in_lit z (lo := 0) (hi := 2) (by omega) (by omega)
  unfold fX4_draw fX5_draw fX4_draw_44 fX5_draw_51
  rcases isS x with ⟨k, hk, rfl, f1, f2⟩ | ⟨f1, f2⟩
  · have hx := ixc hk (by omega)
    rw [f1, f2, Option.bind_some, Option.bind_some, if_neg n10, if_pos rfl]
    rcases isL y with ⟨l', hl', rfl, g1, g2⟩ | ⟨g1, g2⟩
    · rw [g1, g2, Option.bind_some, Option.bind_some, if_neg n10, if_neg n10, ein, Option.bind_some]
      by_cases q1 : n < nI 0
      · rw [if_pos (show n < 0 from q1), if_pos q1, if_pos rfl]
        exact ⟨_, _, _, rfl, rfl, rel_f0 hAll⟩
      rw [if_neg (show ¬ n < 0 from q1), if_neg q1]
      by_cases q2 : nI 20 < n
      · rw [if_pos (show (20 : Int32) < n from q2), if_pos q2, if_pos rfl]
        exact ⟨_, _, _, rfl, rfl, rel_f0 hAll⟩
      rw [if_neg (show ¬ (20 : Int32) < n from q2), if_neg q2, if_neg n10, ein2, Option.bind_some]
      by_cases q3 : z < nI 0
      · rw [if_pos (show z < 0 from q3), if_pos q3, if_pos rfl]
        exact ⟨_, _, _, rfl, rfl, rel_f0 hAll⟩
      rw [if_neg (show ¬ z < 0 from q3), if_neg q3]
      by_cases q4 : nI 2 < z
      · rw [if_neg (show ¬ z ≤ (2 : Int32) from (fa_of_lt q4).2.1), if_pos q4, if_pos rfl]
        exact ⟨_, _, _, rfl, rfl, rel_f0 hAll⟩
      rw [if_pos (show z ≤ (2 : Int32) from fa_of_nlt q4), if_neg q4, if_neg n10, pk_un (show 1 ≠ 9 by decide), i1, i2]
      by_cases q5 : nI p = 0
      · rw [if_pos q5, if_pos q5]
        exact ⟨_, _, _, rfl, rfl, rel_f0 hAll⟩
      rw [if_neg q5, if_neg q5]
      rcases barred hk (hs k hk) (nI l') i n with ⟨e1, e2⟩ | ⟨q, e1, e0, e00, e2, e3⟩ | ⟨s, a, b, e1, hs60, rfl, rfl, hab, e2, e3, e10⟩
      · rw [row_n hk e1, Option.bind_some, Option.elim_none, e2, Option.bind_some, if_neg (show ¬ (0 : Int32) ≤ (-10 : Int32) - 1 by decide)]
        exact ⟨_, _, _, rfl, rfl, rel_fx hAll 1⟩
      · rw [row_y hk e1, Option.bind_some, Option.elim_some, if_neg (show ¬ ¬ k < 4 from fun z => z hk), e2, e3, Option.bind_some, Option.bind_some, if_neg e0, if_neg e00]
        exact ⟨_, _, _, rfl, rfl, rel_fx hAll q⟩
      · rw [row_y hk e1, Option.bind_some, Option.elim_some, if_neg (show ¬ ¬ k < 4 from fun z => z hk), e2, e3, Option.bind_some, Option.bind_some, if_pos rfl, if_pos (show (0 : Int32) ≤ 0 by decide), m_every b1 hM, Option.bind_some, ix60]
        have hb20 : b ≤ 60 := by omega
        have hpw := b_pow p (by omega)
        have hJ := q_draw_loop (c := (u.2.2.2.1 k).2) (u := (upd u.1 9 (0 : Int32), u.2.1, u.2.2.1, u.2.2.2.1, u.2.2.2.2)) hk b1 (by show upd u.1 9 (0 : Int32) 1 = _; rw [pk_un (by decide), i1]) hz hM (by have := hB.2; omega) rfl hs60 hab e10 fu 0 0 (by unfold fu; omega) (by omega) (by omega)
        unfold fX4_firstWrong fX5_freeBy fX4_rulersBy fX5_draw_172
        dsimp only
        rw [pk_un (show 1 ≠ 9 by decide), i1, b_ev p (by omega)]
        rcases hJ with ⟨yy, g, hy, j1, j2⟩ | ⟨g, hg, j1, j2, j3⟩
        · rw [show fX4_firstWrong_3 fu k (nI a) (nI b) 0 (upd u.1 9 (0 : Int32), u.2.1, u.2.2.1, u.2.2.2.1, u.2.2.2.2) = _ from j1, show fX5_freeBy_11 fu (nI (60 * k + a)) (nI b) 0 0 (upd τ.1 16 (-9 : Int32), τ.2) = _ from j2, Option.bind_some, Option.bind_some]
          rw [if_neg (n9 yy (by omega))]
          show ∃ r u' τ', _ ∧ (if z = (1 : Int32) then some (upd τ.1 16 (nI yy) 16, (upd (upd τ.1 16 (nI yy)) 0 (0 : Int32), τ.2)) else if upd τ.1 16 (nI yy) 16 < 0 then _ else some ((-100 : Int32) - upd τ.1 16 (nI yy) 16, (upd (upd τ.1 16 (nI yy)) 0 (0 : Int32), τ.2))) = _ ∧ _
          rw [pk_us, if_neg (nI_pos (show yy < 2 ^ 31 by omega))]
          by_cases q6 : z = (1 : Int32)
          · rw [if_pos q6, if_pos q6]
            exact ⟨_, _, _, rfl, rfl, rel_f0 (rel_16 hAll (nI yy))⟩
          · rw [if_neg q6, if_neg q6]
            exact ⟨_, _, _, rfl, rfl, rel_f0 (rel_16 hAll (nI yy))⟩
        · rw [show fX4_firstWrong_3 fu k (nI a) (nI b) 0 (upd u.1 9 (0 : Int32), u.2.1, u.2.2.1, u.2.2.2.1, u.2.2.2.2) = _ from j1, show fX5_freeBy_11 fu (nI (60 * k + a)) (nI b) 0 0 (upd τ.1 16 (-9 : Int32), τ.2) = _ from j2, Option.bind_some, Option.bind_some, if_pos rfl]
          have e0 : di (2 ^ p - 1) 0 = 2 ^ p - 1 := by
            have : ∀ E, E < 64 → di E 0 = E := by decide +kernel
            exact this _ (by omega)
          rw [e0] at j3
          rw [show fX4_rulersBy_13 fu k (nI a) (nI b) (nI (2 ^ p - 1)) 0 (upd u.1 9 (0 : Int32), u.2.1, u.2.2.1, u.2.2.2.1, u.2.2.2.2) = _ from j3, Option.bind_some]
          have hS : di (2 ^ p - 1) g < 64 := Nat.lt_of_le_of_lt (b_dle (2 ^ p - 1) (by omega) g hg) (by omega)
          have hw64 : w < 64 := by omega
          have hM' := mOK_16 (-9 : Int32) hM
          show ∃ r u' τ', _ ∧ (if z = (1 : Int32) then some (upd τ.1 16 (-9 : Int32) 16, (upd (upd τ.1 16 (-9 : Int32)) 0 (0 : Int32), τ.2)) else if upd τ.1 16 (-9 : Int32) 16 < 0 then (if z = 0 then some (nI (2 ^ p - 1) &&& (nI g ^^^ (-1 : Int32)), (upd (upd τ.1 16 (-9 : Int32)) 0 (0 : Int32), τ.2)) else (fX5_doesPass (nI (2 ^ p - 1) &&& (nI g ^^^ (-1 : Int32))) (upd τ.1 16 (-9 : Int32), τ.2)).bind _) else _) = _ ∧ _
          rw [pk_us, if_pos (show (-9 : Int32) < 0 by decide), b_di (2 ^ p - 1) (by omega) g hg, m_doesPass hw64 hM' hS, Option.bind_some]
          obtain ⟨v, v1, v2⟩ := s_fill (u := (upd u.1 9 (0 : Int32), u.2.1, u.2.2.1, u.2.2.2.1, u.2.2.2.2)) b1 b2 b5 (by show upd u.1 9 (0 : Int32) 1 = _; rw [pk_un (by decide), i1]) (by show upd u.1 9 (0 : Int32) 2 = _; rw [pk_un (by decide), i3]) hz hF
          rw [v1, Option.bind_some]
          show ∃ r u' τ', (if z = (1 : Int32) then _ else if z = 0 then _ else (fX1_passesUnder _ v).bind _) = _ ∧ _ ∧ _
          rw [s_passesUnder hS hw64 v2.2.1, Option.bind_some]
          by_cases q6 : z = (1 : Int32)
          · rw [if_pos q6, if_pos q6]
            exact ⟨_, _, _, rfl, rfl, rel_f0 (rel_16 hAll (-9 : Int32))⟩
          · rw [if_neg q6, if_neg q6]
            by_cases q7 : z = 0
            · rw [if_pos q7, if_pos q7]
              exact ⟨_, _, _, rfl, rfl, rel_f0 (rel_16 hAll (-9 : Int32))⟩
            · rw [if_neg q7, if_neg q7]
              have hrel : Rel (upd u.1 9 (0 : Int32), u.2.1, u.2.2.1, u.2.2.2.1, v) (upd (upd τ.1 16 (-9 : Int32)) 0 (0 : Int32), τ.2) := rel_drum (rel_f0 (rel_16 hAll (-9 : Int32))) v2.2.2.2.2.2.2
              cases pw (di (2 ^ p - 1) g) w
              · exact ⟨_, _, _, rfl, rfl, hrel⟩
              · exact ⟨_, _, _, rfl, rfl, hrel⟩
    · rw [g1, g2, Option.bind_some, Option.bind_some, if_pos rfl, if_pos rfl]
      exact ⟨_, _, _, rfl, rfl, rel_f0 hAll⟩
  · rw [f1, f2, Option.bind_some, Option.bind_some, if_pos rfl, if_neg n10]
    exact ⟨_, _, _, rfl, rfl, rel_f0 hAll⟩
