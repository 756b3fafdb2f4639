/-! buy, least, lend -/
theorem q_buy_loop {p d pr n w c : Nat} {K T G R : Nat → Nat} {u : SX} {τ : SM} {x2 x3 : Int32} (hA : RelA p d pr n w K T G R u τ) (hc : c < p) : ∀ f v m v0, 21 < v + f → v ≤ 21 → dOK (va_up (slK K T) c m) p d w v0 → ∃ r v1, fX4_buy_47 f (nI c) x2 x3 c (nI v) (sU u v0) = some (r, sU u v1) ∧ fX5_buy_50 f (nI c) x2 x3 (nI (tot (slK K T) p)) (nI v) τ = some r ∧ dF v1.2.2.2 := by
  have hM := mOK_of hA
  have hB := dB_of hA
  obtain ⟨⟨⟨b1, b2, b3, b4, b5⟩, i1, i2, i3, i4, i5, i6, i7, i8, i9, -⟩, hR, hz, hm, hs, hF⟩ := hA
  obtain ⟨k1, k2, k3, k4, k5, k6, k7, k8⟩ := hz c hc
  obtain ⟨m1, m2, m3⟩ := hm c hc
  have hpw := b_pow p (by omega)
  have hx := ixc (show c < 6 by omega) (by omega)
  have hsl : slK K T c = sK (K c) (T c) := rfl
  have hb := sK_b (k := K c) (t := T c)
  have hge : slK K T c ≤ tot (slK K T) p := sm_ge hc
  intro f
  induction f with
  | zero => intro v m v0 g1 g2; omega
  | succ f ih =>
    intro v m v0 g1 g2 hd
    rw [fX4_buy_47, fX5_buy_50, nI_clamp (show c < 2 ^ 31 by omega)]
    unfold fX4_buy_131 fX5_buy_140
    by_cases hv : v = 21
    · subst hv
      rw [if_pos (show (20 : Int32) < nI 21 by decide), if_pos (show (20 : Int32) < nI 21 by decide)]
      exact ⟨_, v0, rfl, rfl, hd.2.2.2.2.2.2⟩
    · have hn20 : ¬ (20 : Int32) < nI v := (show ¬ nI 20 < nI v from nI_nlt (by omega) (by omega))
      rw [if_neg hn20, if_neg hn20, if_neg hx, m3, i6]
      show ∃ r v1, (if u.2.2.1 c 2 < nI v * u.1 3 then _ else _) = _ ∧ _
      rw [k7, i5]
      by_cases q : nI (G c) < nI v * nI pr
      · rw [if_pos q, if_pos q]
        exact ⟨_, v0, rfl, rfl, hd.2.2.2.2.2.2⟩
      · rw [if_neg q, if_neg q]
        obtain ⟨v', e1, e2⟩ := s_setSlips b1 hd hc (show sK (K c) (T c) + v ≤ 200 by omega)
        rw [vup2] at e2
        have hB' := dB_up (m := sK (K c) (T c) + v) hB.1 (by omega) hc (by omega) (by omega)
        have et := tot_up (sl := slK K T) (m := sK (K c) (T c) + v) hc
        have et2 : tot (va_up (slK K T) c (sK (K c) (T c) + v)) p = tot (slK K T) p + v := by omega
        have htk := tk_le d (tot (slK K T) p + v)
        have hd1 := s_draws hB' e2
        have hd2 := s_sparing hB' e2 hc
        rw [et2] at hd1 hd2
        rw [va_up_self, show tot (slK K T) p + v - (sK (K c) (T c) + v) = tot (slK K T) p - slK K T c by omega] at hd2
        rw [nI_add, m_drawnOf b2 (by omega) hM, Option.bind_some, s_ways (by omega) (by omega), Option.bind_some, m_slipsOf b1 hM hc, Option.bind_some, Option.bind_some, pk_sub hge, s_ways (by omega) (by omega), Option.bind_some]
        show ∃ r v1, ((fX0_slips (u.2.2.1 c)).bind _) = _ ∧ _
        rw [c_slips hz hc, Option.bind_some, nI_add]
        show ∃ r v1, ((fX1_setSlips (nI c) (nI (sK (K c) (T c) + v)) v0).bind _) = _ ∧ _
        rw [e1, Option.bind_some, hd1, Option.bind_some, hd2, Option.bind_some, Option.bind_some, Int64.mul_comm x2.toInt64]
        by_cases q5 : lg_cmp ((lN (ch (tot (slK K T) p + v) (tk d (tot (slK K T) p + v))) - lN (ch (tot (slK K T) p - slK K T c) (tk d (tot (slK K T) p + v)))) * x3.toInt64) (lN (ch (tot (slK K T) p + v) (tk d (tot (slK K T) p + v))) * x2.toInt64) < 0
        · rw [if_pos q5, if_pos q5, nI_1]
          exact ih (v + 1) _ v' (by omega) (by omega) e2
        · rw [if_neg q5, if_neg q5]
          exact ⟨_, v', rfl, rfl, e2.2.2.2.2.2.2⟩
theorem q_buy {u : SX} {τ : SM} (h : Rel u τ) (x y z : Int32) : ∃ r u', fX4_buy x y z u = some (r, u') ∧ fX5_buy x y z τ = some r ∧ Rel u' τ := by
  have hAll := h
  obtain ⟨p, d, pr, n, w, K, T, G, R, hA⟩ := h
  have hA' := hA
  have hM := mOK_of hA
  obtain ⟨⟨⟨b1, b2, b3, b4, b5⟩, i1, i2, i3, -⟩, hR, hz, hm, hs, hF⟩ := hA
  unfold fX4_buy fX5_buy fX4_buy_37 fX5_buy_34
  rcases who b1 x with ⟨c, hc, rfl, f1, f2⟩ | ⟨f1, f2⟩
  · obtain ⟨v, v1, v2⟩ := s_fill b1 b2 b5 i1 i3 hz hF
    have ein : fX5_in y.toInt64 (0 : Int64) (999 : Int64) = _ := in_lit y (lo := 0) (hi := 999) (by omega) (by omega)
    have ein2 : fX5_in z.toInt64 (1 : Int64) (999 : Int64) = _ := in_lit z (lo := 1) (hi := 999) (by omega) (by omega)
    rw [f1 u i1, f2 τ i2, Option.bind_some, Option.bind_some, if_pos rfl, ein, Option.bind_some, ein2]
    show ∃ r u', (if ¬ c < 6 then none else _) = some (r, u') ∧ _
    rw [if_neg (show ¬ ¬ c < 6 by omega)]
    by_cases q1 : y < nI 0
    · rw [if_pos (show y < 0 from q1), if_pos q1, if_pos rfl]
      exact ⟨_, _, rfl, rfl, hAll⟩
    · rw [if_neg (show ¬ y < 0 from q1), if_neg q1]
      by_cases q2 : nI 999 < y
      · rw [if_pos (show (999 : Int32) < y from q2), if_pos q2, if_pos rfl]
        exact ⟨_, _, rfl, rfl, hAll⟩
      · rw [if_neg (show ¬ (999 : Int32) < y from q2), if_neg q2, if_neg n10, Option.bind_some]
        by_cases q4 : z < nI 1
        · rw [if_pos (show z < (1 : Int32) from q4), if_pos q4, if_pos rfl]
          exact ⟨_, _, rfl, rfl, hAll⟩
        · rw [if_neg (show ¬ z < (1 : Int32) from q4), if_neg q4]
          by_cases q5 : nI 999 < z
          · rw [if_neg (show ¬ z ≤ (999 : Int32) from (fa_of_lt q5).2.1), if_pos q5, if_pos rfl]
            exact ⟨_, _, rfl, rfl, hAll⟩
          · rw [if_pos (show z ≤ (999 : Int32) from fa_of_nlt q5), if_neg q5, if_neg n10, v1, Option.bind_some, m_every b1 hM, Option.bind_some, m_tot b1 hM, Option.bind_some]
            rw [← vupS (slK K T) c] at v2
            obtain ⟨r, v', e1, e2, e3⟩ := q_buy_loop (x2 := y) (x3 := z) hA' hc fu 0 _ v (by unfold fu; omega) (by omega) v2
            exact ⟨r, _, e1, e2, rel_drum hAll e3⟩
  · rw [f1 u i1, f2 τ i2, Option.bind_some, Option.bind_some, if_neg n10]
    exact ⟨_, _, rfl, rfl, hAll⟩
