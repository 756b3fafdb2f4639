/-! lend -/
theorem sK_dn {k t : Nat} (ht : 1 ≤ t) : sK k (t - 1) + 1 ≤ sK k t := by
  unfold sK
  split
  · omega
  · split <;> omega
theorem sK_up {k t : Nat} : sK k (t + 1) ≤ sK k t + 2 := by
  unfold sK
  split
  · omega
  · split <;> omega
theorem lend_back (τ : SM) (x t : Nat) (h : τ.2 2 x = nI t) : (τ.1, va_up (va_up τ.2 2 (upd (τ.2 2) x (τ.2 2 x + (1 : Int32)))) 2 (upd ((va_up τ.2 2 (upd (τ.2 2) x (τ.2 2 x + (1 : Int32)))) 2) x (((va_up τ.2 2 (upd (τ.2 2) x (τ.2 2 x + (1 : Int32)))) 2 x) - (1 : Int32)))) = τ := by
  rw [va_up_self, pk_us, vup2, fa_upd_twice, h, nI_1, nI_pred]
  exact updMS h
theorem q_ld_loop {p d pr n w c : Nat} {K T G R : Nat → Nat} {u : SX} {τ : SM} (hA : RelA p d pr n w K T G R u τ) (hc : c < p) (hT : 2 ≤ T c) : ∀ f x U D b v0, p < x + f → x ≤ p → U < 2 ^ 32 → 0 < D → D < 2 ^ 32 → dOK (slK K (va_up T c (T c - 1))) p d w v0 → ∃ r v1, fX4_lend_72 f (nI c) (lN U) (lN D) b (nI x) (sU u v0) = some (r, sU u v1) ∧ fX5_lend_51 f (nI c) (lN U) (lN D) b (nI x) (updM τ 2 c (nI (T c - 1))) = some (r, τ) ∧ dF v1.2.2.2 := by
  have hK := mK_of hA
  have hB := dB_of hA
  obtain ⟨⟨⟨b1, b2, b3, b4, b5⟩, i1, i2, i3, i4, i5, i6, i7, i8, i9, -⟩, hR, hz, hm, hs, hF⟩ := hA
  obtain ⟨k1, k2, k3, k4, k5, k6, k7, k8⟩ := hz c hc
  obtain ⟨m1, m2, m3⟩ := hm c hc
  have hpw := b_pow p (by omega)
  have hx := ixc (show c < 6 by omega) (by omega)
  have p32 : (2 : Nat) ^ 32 = 4294967296 := by decide
  have hK1 := mK_T (c := c) (v := T c - 1) hK (by omega)
  have t1 : (updM τ 2 c (nI (T c - 1))).2 2 c = nI (T c - 1) := by
    show va_up τ.2 2 (upd (τ.2 2) c (nI (T c - 1))) 2 c = _
    rw [va_up_self, pk_us]
  have ht1 : tot (slK K (va_up T c (T c - 1))) p + 1 ≤ 120 := by
    rw [slK_T]
    have e := tot_up (sl := slK K T) (m := sK (K c) (T c - 1)) hc
    have e2 := sK_dn (k := K c) (t := T c) (by omega)
    have e3 : slK K T c = sK (K c) (T c) := rfl
    omega
  have hB1 : dB (slK K (va_up T c (T c - 1))) p d w := by
    rw [slK_T]
    have := sK_b (k := K c) (t := T c - 1)
    exact dB_up hB.1 (by omega) hc (by omega) (by omega)
  intro f
  induction f with
  | zero => intro x U D b v0 g1 g2; omega
  | succ f ih =>
    intro x U D b v0 g1 g2 hU hD hD2 hd
    rw [fX4_lend_72, fX5_lend_51]
    show ∃ r v1, (if u.1 1 ≤ nI x then _ else _) = _ ∧ (if τ.1 3 ≤ nI x then _ else _) = _ ∧ _
    rw [i1, i2]
    by_cases hxp : p ≤ x
    · rw [if_pos (nI_le hxp (by omega)), if_pos (nI_le hxp (by omega)), nI_clamp (show c < 2 ^ 31 by omega), if_neg hx, if_neg hx]
      refine ⟨b, v0, rfl, ?_, hd.2.2.2.2.2.2⟩
      show some (b, updM (updM τ 2 c (nI (T c - 1))) 2 c ((updM τ 2 c (nI (T c - 1))).2 2 c + 1)) = _
      rw [t1, nI_1, updM2, show T c - 1 + 1 = T c by omega, updMS m2]
    · have hxp' : x < p := by omega
      rw [if_neg (nI_ge hxp' (by omega)), if_neg (nI_ge hxp' (by omega)), c_cit (u := sU u v0) b1 hxp' i1, Option.bind_some]
      unfold fX4_lend_169 fX4_lend_183 fX5_lend_124
      show ∃ r v1, (if ¬ x < 6 then none else _) = _ ∧ _
      rw [if_neg (show ¬ ¬ x < 6 by omega), nI_1]
      by_cases hxc : x = c
      · rw [if_pos (by rw [hxc]), if_pos (by rw [hxc])]
        exact ih (x + 1) U D b v0 (by omega) (by omega) hU hD hD2 hd
      · have hne : ¬ nI x = nI c := fun z => hxc ((nI_eq (by omega) (by omega)).mp z)
        have hxx := ixc (show x < 6 by omega) (by omega)
        obtain ⟨j1, j2, j3, j4, j5, j6, j7, j8⟩ := hz x hxp'
        obtain ⟨l1, l2, l3⟩ := hm x hxp'
        have hTx : va_up T c (T c - 1) x = T x := va_up_ne _ _ hxc
        have t2 : (updM τ 2 c (nI (T c - 1))).2 2 x = nI (T x) := by
          show va_up τ.2 2 (upd (τ.2 2) c (nI (T c - 1))) 2 x = _
          rw [va_up_self, pk_un hxc]; exact l2
        have hK2 := mK_T (c := x) (v := T x + 1) hK1 (by omega)
        have mo := mK_OK hK2
        rw [slK_T] at mo
        have hb := sK_b (k := K x) (t := T x + 1)
        have hsx : slK K (va_up T c (T c - 1)) x = sK (K x) (T x) := by unfold slK; rw [hTx]
        have hB2 := dB_up (c := x) (m := sK (K x) (T x + 1)) hB1 (by omega) hxp' (by omega) (by omega)
        have et := tot_up (sl := slK K (va_up T c (T c - 1))) (m := sK (K x) (T x + 1)) hxp'
        have eu := sK_up (k := K x) (t := T x)
        rw [hsx] at et
        obtain ⟨v', e1, e2⟩ := s_setSlips b1 hd hxp' (show sK (K x) (T x + 1) ≤ 200 by omega)
        obtain ⟨v2, e3, e4⟩ := s_passing hB2 e2
        obtain ⟨v3, e5, e6⟩ := s_setSlips b1 e4 hxp' (show sK (K x) (T x) ≤ 200 by have := sK_b (k := K x) (t := T x); omega)
        rw [vup2, ← hsx, vupS] at e6
        obtain ⟨a1, a2⟩ := all_b (d := d) (w := w) ⟨hB2, by omega⟩
        have a3 := PA_le (sl := va_up (slK K (va_up T c (T c - 1))) x (sK (K x) (T x + 1))) (d := d) (w := w) b1
        rw [if_neg hne, if_neg hne, nI_clamp (show x < 2 ^ 31 by omega), if_neg hxx, if_neg hxx]
        have st : ((updM τ 2 c (nI (T c - 1))).1, va_up (updM τ 2 c (nI (T c - 1))).2 2 (upd ((updM τ 2 c (nI (T c - 1))).2 2) x ((updM τ 2 c (nI (T c - 1))).2 2 x + (1 : Int32)))) = updM (updM τ 2 c (nI (T c - 1))) 2 x (nI (T x + 1)) := by
          rw [t2, nI_1]; rfl
        rw [st, m_passing hB2 mo, Option.bind_some, m_all hB2 mo, Option.bind_some, if_neg hxx, if_neg hxx, s_above (by rw [p63]; omega) a2 (by rw [p63]; omega) (by rw [p63]; omega) a1 hD, Option.bind_some]
        show ∃ r v1, ((fX4_slipsOf (u.2.2.1 x 0) (u.2.2.1 x 1 + 1)).bind _) = _ ∧ _
        rw [j5, j6, nI_1, c_slipsOf j1, Option.bind_some]
        show ∃ r v1, ((fX1_setSlips (nI x) (nI (sK (K x) (T x + 1))) v0).bind _) = _ ∧ _
        rw [e1, Option.bind_some, e3, Option.bind_some]
        dsimp only
        rw [s_draws hB2 e4, Option.bind_some, s_more (by omega) a2 hU hD2, Option.bind_some]
        rw [lend_back _ x (T x) t2]
        by_cases q : U * ch (tot (va_up (slK K (va_up T c (T c - 1))) x (sK (K x) (T x + 1))) p) (tk d (tot (va_up (slK K (va_up T c (T c - 1))) x (sK (K x) (T x + 1))) p)) < PA (va_up (slK K (va_up T c (T c - 1))) x (sK (K x) (T x + 1))) p d w * D
        · rw [if_pos q, if_neg n10, if_neg n10]
          show ∃ r v1, ((fX0_slips (u.2.2.1 x)).bind _) = _ ∧ _
          rw [c_slips hz hxp', Option.bind_some]
          show ∃ r v1, ((fX1_setSlips (nI x) (nI (sK (K x) (T x))) v2).bind _) = _ ∧ _
          rw [e5, Option.bind_some]
          exact ih (x + 1) _ _ (nI x) v3 (by omega) (by omega) (by omega) a1 a2 e6
        · rw [if_neg q, if_pos rfl, if_pos rfl]
          show ∃ r v1, ((fX0_slips (u.2.2.1 x)).bind _) = _ ∧ _
          rw [c_slips hz hxp', Option.bind_some]
          show ∃ r v1, ((fX1_setSlips (nI x) (nI (sK (K x) (T x))) v2).bind _) = _ ∧ _
          rw [e5, Option.bind_some]
          exact ih (x + 1) U D b v3 (by omega) (by omega) hU hD hD2 e6
theorem q_lend {u : SX} {τ : SM} (h : Rel u τ) (x : Int32) : ∃ r u' τ', fX4_lend x u = some (r, u') ∧ fX5_lend x τ = some (r, τ') ∧ Rel u' τ' := by
  have hAll := h
  obtain ⟨p, d, pr, n, w, K, T, G, R, hA⟩ := h
  have hA' := hA
  have hM := mOK_of hA
  have hB := dB_of hA
  obtain ⟨⟨⟨b1, b2, b3, b4, b5⟩, i1, i2, i3, -⟩, hR, hz, hm, hs, hF⟩ := hA
  unfold fX4_lend fX5_lend
  rcases who b1 x with ⟨c, hc, rfl, f1, f2⟩ | ⟨f1, f2⟩
  · obtain ⟨k1, k2, k3, k4, k5, k6, k7, k8⟩ := hz c hc
    obtain ⟨m1, m2, m3⟩ := hm c hc
    have hx := ixc (show c < 6 by omega) (by omega)
    rw [f1 u i1, f2 τ i2, Option.bind_some, Option.bind_some, if_pos rfl, nI_clamp (by omega), if_neg hx, m2]
    show ∃ r u' τ', (if ¬ c < 6 then none else _) = some (r, u') ∧ _
    rw [if_neg (show ¬ ¬ c < 6 by omega)]
    show ∃ r u' τ', (if (2 : Int32) ≤ u.2.2.1 c 1 then _ else _) = some (r, u') ∧ _
    rw [k6]
    by_cases q : 2 ≤ T c
    · have q' : (2 : Int32) ≤ nI (T c) := (show nI 2 ≤ nI (T c) from nI_le q (by omega))
      obtain ⟨v, v1, v2⟩ := s_fill b1 b2 b5 i1 i3 hz hF
      obtain ⟨v', v3, v4⟩ := s_passing hB.1 v2
      obtain ⟨a1, a2⟩ := all_b (d := d) (w := w) ⟨hB.1, by omega⟩
      have a3 := PA_le (sl := slK K T) (d := d) (w := w) b1
      have hb := sK_b (k := K c) (t := T c - 1)
      obtain ⟨v5, e1, e2⟩ := s_setSlips b1 v4 hc (show sK (K c) (T c - 1) ≤ 200 by omega)
      rw [← slK_T] at e2
      rw [if_pos q', if_pos q', v1, Option.bind_some, m_passing hB.1 hM, Option.bind_some, m_all hB.1 hM, Option.bind_some, if_neg hx, if_neg hx]
      show ∃ r u' τ', ((fX1_drawsPassing v).bind _) = some (r, u') ∧ _
      rw [v3, Option.bind_some]
      dsimp only
      rw [s_draws hB.1 v4, Option.bind_some, k5, k6, show (1 : Int32) = nI 1 from rfl, pk_sub (show 1 ≤ T c by omega), c_slipsOf k1, Option.bind_some, e1, Option.bind_some]
      obtain ⟨r, vv, g1, g2, g3⟩ := q_ld_loop hA' hc q fu 0 (PA (slK K T) p d w) _ (-9) v5 (by unfold fu; omega) (by omega) (by omega) a1 a2 e2
      exact ⟨r, _, _, g1, g2, rel_drum hAll g3⟩
    · have q' : ¬ (2 : Int32) ≤ nI (T c) := (show ¬ nI 2 ≤ nI (T c) from nI_ge (by omega) (by omega))
      rw [if_neg q', if_neg q']
      exact ⟨_, _, _, rfl, rfl, hAll⟩
  · rw [f1 u i1, f2 τ i2, Option.bind_some, Option.bind_some, if_neg n10]
    exact ⟨_, _, _, rfl, rfl, hAll⟩
