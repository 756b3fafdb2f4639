/-! the class's drum, filled from the citizens; who is a citizen; which numbers are in a span -/
theorem in_sp (a b c : Int64) : fX5_in a b c = some (if a < b then 0 else if c < a then 0 else 1) := by
  unfold fX5_in fX5_in_17
  rw [z0, z1]
  by_cases h1 : a < b
  · rw [if_pos ((lg_cmp_lt _ _).mpr h1), if_pos h1]
  · rw [if_neg (fun z => h1 ((lg_cmp_lt _ _).mp z)), if_neg h1]
    by_cases h2 : c < a
    · rw [if_pos ((lg_cmp_gt _ _).mpr h2), if_pos h2]
    · rw [if_neg (fun z => h2 ((lg_cmp_gt _ _).mp z)), if_neg h2]
theorem in_lit (x : Int32) {lo hi : Nat} (h1 : lo < 1000) (h2 : hi < 1000) : fX5_in x.toInt64 (lN lo) (lN hi) = some (if x < nI lo then 0 else if nI hi < x then 0 else 1) := by
  rw [in_sp, ← nI_l (show lo < 2 ^ 31 by omega), ← nI_l (show hi < 2 ^ 31 by omega)]
  by_cases q1 : x < nI lo
  · rw [if_pos ((fa_wide_lt _ _).mpr q1), if_pos q1]
  · rw [if_neg (fun z => q1 ((fa_wide_lt _ _).mp z)), if_neg q1]
    by_cases q2 : nI hi < x
    · rw [if_pos ((fa_wide_lt _ _).mpr q2), if_pos q2]
    · rw [if_neg (fun z => q2 ((fa_wide_lt _ _).mp z)), if_neg q2]
/-- below n, told by a long -/
theorem in_bel (x : Int32) {n : Nat} (hn : n < 1000) : fX5_in x.toInt64 (0 : Int64) ((nI n).toInt64 - (1 : Int64)) = some (if x < 0 then 0 else if nI n ≤ x then 0 else 1) := by
  rw [in_sp]
  have e0 : x.toInt64 < (0 : Int64) ↔ x < 0 := fa_wide_lt x 0
  have e1 : ((nI n).toInt64 - (1 : Int64)).toInt = (n : Int) - 1 := by
    have t1 : (nI n).toInt64.toInt = (n : Int) := by rw [Int32.toInt_toInt64, nI_toInt (by omega)]
    have t2 : (1 : Int64).toInt = 1 := by decide
    rw [fb_subL (by omega) (by omega), t1, t2]
  have e2 : (nI n).toInt64 - (1 : Int64) < x.toInt64 ↔ nI n ≤ x := by
    rw [fa_lt64, e1, Int32.toInt_toInt64, fa_le, nI_toInt (by omega)]
    omega
  by_cases q1 : x < 0
  · rw [if_pos (e0.mpr q1), if_pos q1]
  · rw [if_neg (fun z => q1 (e0.mp z)), if_neg q1]
    by_cases q2 : nI n ≤ x
    · rw [if_pos (e2.mpr q2), if_pos q2]
    · rw [if_neg (fun z => q2 (e2.mp z)), if_neg q2]
theorem who {p : Nat} (hp : p ≤ 6) (x : Int32) : (∃ c, c < p ∧ x = nI c ∧ (∀ u : SX, u.1 1 = nI p → fX4_citizen x u = some (some c)) ∧ ∀ τ : SM, τ.1 3 = nI p → fX5_noCitizen x τ = some 0) ∨ ((∀ u : SX, u.1 1 = nI p → fX4_citizen x u = some none) ∧ ∀ τ : SM, τ.1 3 = nI p → fX5_noCitizen x τ = some 1) := by
  rcases pk_ix x (n := p) (by omega) with h | h | ⟨c, hc, rfl⟩
  · refine Or.inr ⟨fun u _ => ?_, fun τ ht => ?_⟩
    · unfold fX4_citizen fX4_citizen_30; rw [if_pos h]
    · unfold fX5_noCitizen; rw [ht, in_bel x (by omega), if_pos h, Option.bind_some, if_pos rfl, z1]
  · refine Or.inr ⟨fun u hu => ?_, fun τ ht => ?_⟩
    · unfold fX4_citizen fX4_citizen_30
      by_cases q : x < 0
      · rw [if_pos q]
      · rw [if_neg q, hu, if_pos h]
    · unfold fX5_noCitizen; rw [ht, in_bel x (by omega), if_pos h]
      by_cases q : x < 0
      · rw [if_pos q, Option.bind_some, if_pos rfl, z1]
      · rw [if_neg q, Option.bind_some, if_pos rfl, z1]
  · refine Or.inl ⟨c, hc, rfl, fun u hu => ?_, fun τ ht => ?_⟩
    · unfold fX4_citizen
      rw [if_neg (nI_pos (by omega)), hu, if_neg (nI_ge hc (by omega)), if_neg (show ¬ (6 : Int32) ≤ nI c from (show ¬ nI 6 ≤ nI c from nI_ge (by omega) (by omega))), if_neg (ix (by omega) (by omega)), nI_clamp (by omega)]
    · unfold fX5_noCitizen
      rw [ht, in_bel _ (by omega), if_neg (nI_pos (by omega)), if_neg (nI_ge hc (by omega)), Option.bind_some, if_neg (by decide), z0]
theorem c_cit {p c : Nat} {u : SX} (hp : p ≤ 6) (hc : c < p) (h1 : u.1 1 = nI p) : fX4_citizen (nI c) u = some (some c) := by
  unfold fX4_citizen
  rw [if_neg (nI_pos (by omega)), h1, if_neg (nI_ge hc (by omega)), if_neg (show ¬ (6 : Int32) ≤ nI c from (show ¬ nI 6 ≤ nI c from nI_ge (by omega) (by omega))), if_neg (ix (by omega) (by omega)), nI_clamp (by omega)]
theorem c_slipsOf {k t : Nat} (hk : k ≤ 2) : fX4_slipsOf (nI k) (nI t) = some (nI (sK k t)) := by
  unfold fX4_slipsOf fX4_slipsOf_12
  rcases (show k = 0 ∨ k = 1 ∨ k = 2 by omega) with rfl | rfl | rfl
  · rw [if_pos (show nI 0 < (1 : Int32) by decide), if_pos (show nI 0 < (2 : Int32) by decide)]; rfl
  · rw [if_neg (show ¬ nI 1 < (1 : Int32) by decide), if_pos (show nI 1 < (2 : Int32) by decide), nI_1]; rfl
  · rw [if_neg (show ¬ nI 2 < (1 : Int32) by decide), if_neg (show ¬ nI 2 < (2 : Int32) by decide), nI_1, show (2 : Int32) = nI 2 from rfl, pk_mul]; rfl
def i01 (b : Bool) : Nat := if b then 1 else 0
/-- the class's citizens -/
def cOK (p w : Nat) (K T G : Nat → Nat) (z : Nat → Nat → Int32) : Prop := ∀ c, c < p → K c ≤ 2 ∧ 1 ≤ T c ∧ T c ≤ 9 ∧ G c ≤ 99 ∧ z c 0 = nI (K c) ∧ z c 1 = nI (T c) ∧ z c 2 = nI (G c) ∧ z c 3 = nI (i01 (bi w c))
theorem c_slips {p w c : Nat} {K T G : Nat → Nat} {z : Nat → Nat → Int32} (h : cOK p w K T G z) (hc : c < p) : fX0_slips (z c) = some (nI (sK (K c) (T c))) := by
  obtain ⟨h1, -, -, -, h2, h3, -, -⟩ := h c hc
  unfold fX0_slips
  rw [h2, h3, c_slipsOf h1, Option.bind_some]
theorem s_sw {w c : Nat} {u : SD} {x : Int32} (hw : w < 64) (hc : c < 6) (h4 : u.1 4 = nI w) : fX1_setWishes (nI c) x u = some (upd u.1 4 (nI (setw w c (decide (¬ x = 0)))), u.2.1, u.2.2.1, u.2.2.2) := by
  obtain ⟨e1, e2, -, -⟩ := b_setw w hw c hc
  unfold fX1_setWishes fX1_setWishes_26 setw
  rw [h4]
  by_cases hx : x = 0
  · rw [if_pos hx, e2, if_neg (by simp [hx])]
  · rw [if_neg hx, e1, if_pos (by simp [hx])]
/-- the drum while it is filled: the first c are in it -/
def pF (sl : Nat → Nat) (p d w c : Nat) (u : SD) : Prop := u.1 3 = nI p ∧ u.1 4 = nI (w % 2 ^ c) ∧ u.1 5 = nI d ∧ u.1 6 = nI (tot sl c) ∧ (∀ i, i < 6 → u.2.1 i = nI (if i < c then sl i else 0)) ∧ (∀ i, i < c → ∀ k, k < 7 → u.2.2.1 (7 * i + k) = lN (ch (sl i) k)) ∧ dF u.2.2.2
theorem s_empty_loop {d : Nat} {a : Nat → Int32} {P fr : Nat → Int64} (hd : d ≤ 6) : ∀ f c b, 6 < c + f → c ≤ 6 → (∀ i, i < c → b i = 0) → ∃ b', fX1_empty_26 f (nI d) (nI c) (a, b, P, fr) = some (upd a 5 (nI d), b', P, fr) ∧ ∀ i, i < 6 → b' i = 0 := by
  intro f
  induction f with
  | zero => intro c b h1 h2; omega
  | succ f ih =>
    intro c b h1 h2 h3
    rw [fX1_empty_26]
    by_cases h : 6 ≤ c
    · refine ⟨b, ?_, fun i hi => h3 i (by omega)⟩
      rw [if_pos (show (6 : Int32) ≤ nI c from (show nI 6 ≤ nI c from nI_le h (by omega)))]
      have e : ∀ d, d < 7 → (if (0 : Int32) < (if (6 : Int32) < nI d then (6 : Int32) else nI d) then (if (6 : Int32) < nI d then (6 : Int32) else nI d) else (0 : Int32)) = nI d := by decide +kernel
      unfold fX1_setDrawn
      rw [Option.bind_some, e d (by omega)]
    · rw [if_neg (show ¬ (6 : Int32) ≤ nI c from (show ¬ nI 6 ≤ nI c from nI_ge (by omega) (by omega))), if_neg (ix (by omega) (by omega)), nI_clamp (by omega), nI_1]
      refine ih (c + 1) (upd b c 0) (by omega) (by omega) (fun i hi => ?_)
      by_cases q : i = c
      · rw [q, pk_us]
      · rw [pk_un q]; exact h3 i (by omega)
theorem s_empty {sl : Nat → Nat} {p d w : Nat} {u : SD} (hp : p ≤ 6) (hd : d ≤ 6) (hF : dF u.2.2.2) : ∃ u', fX1_empty (nI p) (nI d) u = some u' ∧ pF sl p d w 0 u' := by
  have e : ∀ d, d < 7 → (if (0 : Int32) < (if (6 : Int32) < nI d then (6 : Int32) else nI d) then (if (6 : Int32) < nI d then (6 : Int32) else nI d) else (0 : Int32)) = nI d := by decide +kernel
  unfold fX1_empty
  rw [e p (by omega)]
  obtain ⟨b', g1, g2⟩ := s_empty_loop (a := upd (upd (upd u.1 3 (nI p)) 4 (0 : Int32)) 6 (0 : Int32)) (P := u.2.2.1) (fr := u.2.2.2) hd fu 0 u.2.1 (by unfold fu; omega) (by omega) (fun i hi => by omega)
  refine ⟨_, g1, ?_, ?_, ?_, ?_, ?_, ?_, hF⟩
  · show upd (upd (upd (upd u.1 3 (nI p)) 4 (0 : Int32)) 6 (0 : Int32)) 5 (nI d) 3 = nI p
    rw [pk_un (by decide), pk_un (by decide), pk_un (by decide), pk_us]
  · show upd (upd (upd (upd u.1 3 (nI p)) 4 (0 : Int32)) 6 (0 : Int32)) 5 (nI d) 4 = nI (w % 2 ^ 0)
    rw [pk_un (by decide), pk_un (by decide), pk_us, Nat.pow_zero, Nat.mod_one]; rfl
  · show upd (upd (upd (upd u.1 3 (nI p)) 4 (0 : Int32)) 6 (0 : Int32)) 5 (nI d) 5 = nI d
    rw [pk_us]
  · show upd (upd (upd (upd u.1 3 (nI p)) 4 (0 : Int32)) 6 (0 : Int32)) 5 (nI d) 6 = nI (tot sl 0)
    rw [pk_un (by decide), pk_us]; rfl
  · intro i hi
    rw [if_neg (by omega)]
    exact g2 i hi
  · intro i hi; omega
theorem b_setm : ∀ c, c < 6 → ∀ w, w < 64 → setw (w % 2 ^ c) c (bi w c) = w % 2 ^ (c + 1) := by decide +kernel
theorem i01_ne (b : Bool) : decide (¬ nI (i01 b) = 0) = b := by cases b <;> decide
theorem s_fill_step {sl : Nat → Nat} {p d w c : Nat} {u : SD} (hc : c < 6) (hm : sl c ≤ 200) (hw : w < 64) (h : pF sl p d w c u) : ∃ u1 u2, fX1_setSlips (nI c) (nI (sl c)) u = some u1 ∧ fX1_setWishes (nI c) (nI (i01 (bi w c))) u1 = some u2 ∧ pF sl p d w (c + 1) u2 := by
  obtain ⟨h3, h4, h5, h6, hs, hp, hF⟩ := h
  obtain ⟨P', g1, g2, g3⟩ := s_ssl (u := u) hc hm
  have hsc := hs c hc
  rw [if_neg (by omega)] at hsc
  refine ⟨_, _, g1, s_sw (w := w % 2 ^ c) (Nat.lt_of_le_of_lt (Nat.mod_le _ _) hw) hc ?_, ?_, ?_, ?_, ?_, ?_, ?_, hF⟩
  · show upd u.1 6 (u.1 6 + (nI (sl c) - u.2.1 c)) 4 = nI (w % 2 ^ c)
    rw [pk_un (by decide)]; exact h4
  · show upd (upd u.1 6 (u.1 6 + (nI (sl c) - u.2.1 c))) 4 (nI (setw (w % 2 ^ c) c (decide (¬ nI (i01 (bi w c)) = 0)))) 3 = nI p
    rw [pk_un (by decide), pk_un (by decide)]; exact h3
  · show upd (upd u.1 6 (u.1 6 + (nI (sl c) - u.2.1 c))) 4 (nI (setw (w % 2 ^ c) c (decide (¬ nI (i01 (bi w c)) = 0)))) 4 = nI (w % 2 ^ (c + 1))
    rw [pk_us, i01_ne, b_setm c hc w hw]
  · show upd (upd u.1 6 (u.1 6 + (nI (sl c) - u.2.1 c))) 4 (nI (setw (w % 2 ^ c) c (decide (¬ nI (i01 (bi w c)) = 0)))) 5 = nI d
    rw [pk_un (by decide), pk_un (by decide)]; exact h5
  · show upd (upd u.1 6 (u.1 6 + (nI (sl c) - u.2.1 c))) 4 (nI (setw (w % 2 ^ c) c (decide (¬ nI (i01 (bi w c)) = 0)))) 6 = nI (tot sl (c + 1))
    rw [pk_un (by decide), pk_us, h6, hsc, nI_tot (by omega)]; rfl
  · intro i hi
    show upd u.2.1 c (nI (sl c)) i = _
    by_cases q : i = c
    · rw [q, pk_us, if_pos (by omega)]
    · rw [pk_un q, hs i hi]
      by_cases q2 : i < c
      · rw [if_pos q2, if_pos (by omega)]
      · rw [if_neg q2, if_neg (by omega)]
  · intro i hi k hk
    show P' (7 * i + k) = _
    by_cases q : i = c
    · rw [q]; exact g2 k hk
    · rw [g3 _ (by omega)]; exact hp i (by omega) k hk
theorem s_fill_loop {p d w : Nat} {K T G : Nat → Nat} {a : Nat → Int32} {b : Nat → Int32} {z : Nat → Nat → Int32} {sh : Nat → SR} (hp : p ≤ 6) (hw : w < 2 ^ p) (h1 : a 1 = nI p) (hz : cOK p w K T G z) : ∀ f c u, p < c + f → c ≤ p → pF (fun c => sK (K c) (T c)) p d w c u → ∃ u', fX4_fillDrum_17 f (nI c) (a, b, z, sh, u) = some (a, b, z, sh, u') ∧ pF (fun c => sK (K c) (T c)) p d w p u' := by
  have hpw := b_pow p (by omega)
  intro f
  induction f with
  | zero => intro c u g1 g2; omega
  | succ f ih =>
    intro c u g1 g2 hu
    rw [fX4_fillDrum_17]
    show ∃ u', (if a 1 ≤ nI c then _ else _) = _ ∧ _
    rw [h1]
    by_cases hc : p ≤ c
    · refine ⟨u, ?_, ?_⟩
      · rw [if_pos (nI_le hc (by omega))]
      · rw [show c = p by omega] at hu; exact hu
    · have hcp : c < p := by omega
      obtain ⟨k1, k2, k3, -, -, -, -, k4⟩ := hz c hcp
      have hb := sK_b (k := K c) (t := T c)
      obtain ⟨u1, u2, e1, e2, e3⟩ := s_fill_step (sl := fun c => sK (K c) (T c)) (show c < 6 by omega) (show sK (K c) (T c) ≤ 200 by omega) (show w < 64 by omega) hu
      obtain ⟨u', f1, f2⟩ := ih (c + 1) u2 (by omega) (by omega) e3
      refine ⟨u', ?_, f2⟩
      rw [if_neg (nI_ge hcp (by omega)), c_cit (u := (a, b, z, sh, u)) hp hcp h1, Option.bind_some]
      show (if ¬ c < 6 then none else _) = _
      rw [if_neg (by omega)]
      show ((fX0_slips (z c)).bind _) = _
      rw [c_slips hz hcp, Option.bind_some]
      show ((fX1_setSlips (nI c) (nI (sK (K c) (T c))) u).bind _) = _
      rw [e1, Option.bind_some]
      show ((fX1_setWishes (nI c) (z c 3) u1).bind _) = _
      rw [k4, e2, Option.bind_some]
      unfold fX4_fillDrum_59
      rw [nI_1]
      exact f1
/-- the slips of the citizens -/
def slK (K T : Nat → Nat) : Nat → Nat := fun c => sK (K c) (T c)
theorem slK_B {p d w : Nat} {K T G : Nat → Nat} {z : Nat → Nat → Int32} (hp : p ≤ 6) (hd : d ≤ 6) (hw : w < 2 ^ p) (hz : cOK p w K T G z) : dB (slK K T) p d w ∧ tot (slK K T) p ≤ 120 := by
  have hpw := b_pow p (by omega)
  have hb : tot (slK K T) p ≤ p * 20 := fb_sm_bound (fun c hc => by
    obtain ⟨k1, k2, k3, -⟩ := hz c hc
    have := (sK_b (k := K c) (t := T c)).2
    show sK (K c) (T c) ≤ 20
    omega)
  refine ⟨⟨hp, hd, by omega, by omega, fun c hc => ?_⟩, by omega⟩
  obtain ⟨k1, k2, k3, -⟩ := hz c hc
  have := (sK_b (k := K c) (t := T c)).1
  show 1 ≤ sK (K c) (T c)
  omega
theorem s_fill {p d w : Nat} {K T G : Nat → Nat} {u : SX} (hp : p ≤ 6) (hd : d ≤ 6) (hw : w < 2 ^ p) (h1 : u.1 1 = nI p) (h2 : u.1 2 = nI d) (hz : cOK p w K T G u.2.2.1) (hF : dF u.2.2.2.2.2.2.2) : ∃ v, fX4_fillDrum u = some (u.1, u.2.1, u.2.2.1, u.2.2.2.1, v) ∧ dOK (slK K T) p d w v := by
  obtain ⟨u0, g1, g2⟩ := s_empty (sl := fun c => sK (K c) (T c)) (w := w) (u := u.2.2.2.2) hp hd hF
  obtain ⟨v, f1, f2⟩ := s_fill_loop (a := u.1) (b := u.2.1) (z := u.2.2.1) (sh := u.2.2.2.1) hp hw h1 hz fu 0 u0 (by unfold fu; omega) (by omega) g2
  refine ⟨v, ?_, ?_⟩
  · unfold fX4_fillDrum
    rw [h1, h2, g1, Option.bind_some]
    exact f1
  · obtain ⟨q3, q4, q5, q6, qs, qp, qF⟩ := f2
    rw [Nat.mod_eq_of_lt hw] at q4
    refine ⟨q3, q4, q5, q6, fun c hc => ?_, qp, qF⟩
    have := qs c (by omega)
    rw [if_pos hc] at this
    exact this
