/-! least -/
theorem b_set2 : ∀ w, w < 64 → ∀ c, c < 6 → (bi w c || (setw (setw w c true) c false == w)) = true := by decide +kernel
theorem b_n9 : ∀ k, k < 6 → ¬ nI k = (-9 : Int32) := by decide +kernel
theorem q_ls_loop {p d pr n w : Nat} {K T G R : Nat → Nat} {u : SX} {τ : SM} {y : Int32} (hA : RelA p d pr n w K T G R u τ) (hnl : 2 * PA (slK K T) p d w < ch (tot (slK K T) p) (tk d (tot (slK K T) p))) : ∀ f c g k a v0, p < c + f → c ≤ p → ((g = (-9 : Int32) ∧ k = (-9 : Int32)) ∨ ∃ gn kn, g = nI gn ∧ gn ≤ 1000 ∧ k = nI kn ∧ kn < 6) → dOK (slK K T) p d w v0 → ∃ r v1, fX4_least_56 f y g k (nI c) (sU u v0) = some (r, sU u v1) ∧ fX5_least_56 f y (nI w) g k (nI c) (upd τ.1 7 a, τ.2) = some (r, τ) ∧ dF v1.2.2.2 := by
  have hM := mOK_of hA
  have hB := dB_of hA
  obtain ⟨⟨⟨b1, b2, b3, b4, b5⟩, i1, i2, i3, i4, i5, i6, i7, i8, i9, -⟩, hR, hz, hm, hs, hF⟩ := hA
  have hpw := b_pow p (by omega)
  intro f
  induction f with
  | zero => intro c g k a v0 g1 g2; omega
  | succ f ih =>
    intro c g k a v0 g1 g2 hgk hd
    rw [fX4_least_56, fX5_least_56]
    have s3 : (upd τ.1 7 a) 3 = nI p := by rw [pk_un (by decide)]; exact i2
    show ∃ r v1, (if u.1 1 ≤ nI c then _ else _) = _ ∧ (if (upd τ.1 7 a) 3 ≤ nI c then _ else _) = _ ∧ _
    rw [i1, s3]
    by_cases hc : p ≤ c
    · rw [if_pos (nI_le hc (by omega)), if_pos (nI_le hc (by omega))]
      have st : (upd (upd τ.1 7 a) 7 (nI w), τ.2) = τ := by rw [fa_upd_twice, fa_upd_same i9]
      by_cases hy : y = 0
      · rw [if_pos hy, if_pos hy]
        refine ⟨g, v0, rfl, ?_, hd.2.2.2.2.2.2⟩
        show some (g, (upd (upd τ.1 7 a) 7 (nI w), τ.2)) = _
        rw [st]
      · rw [if_neg hy, if_neg hy]
        refine ⟨k, v0, rfl, ?_, hd.2.2.2.2.2.2⟩
        show some (k, (upd (upd τ.1 7 a) 7 (nI w), τ.2)) = _
        rw [st]
    · have hcp : c < p := by omega
      obtain ⟨k1, k2, k3, k4, k5, k6, k7, k8⟩ := hz c hcp
      obtain ⟨m1, m2, m3⟩ := hm c hcp
      have hx := ixc (show c < 6 by omega) (by omega)
      obtain ⟨ew, -, -, -⟩ := b_setw w (by omega) c (by omega)
      have hw' : setw w c true < 2 ^ p := setp b1 b5 hcp true
      have hB' : dB (slK K T) p d (setw w c true) := ⟨b1, b2, by omega, hB.1.2.2.2.1, hB.1.2.2.2.2⟩
      have st : (upd (upd τ.1 7 a, τ.2).1 7 (nI w ||| ((1 : Int32) <<< (nI c &&& 31))), (upd τ.1 7 a, τ.2).2) = (upd τ.1 7 (nI (setw w c true)), τ.2) := by
        show (upd (upd τ.1 7 a) 7 (nI w ||| ((1 : Int32) <<< (nI c &&& 31))), τ.2) = _
        rw [fa_upd_twice, ew]; rfl
      have mo : mOK (slK K T) p d (setw w c true) (upd τ.1 7 (nI (setw w c true)), τ.2) := by
        refine ⟨?_, ?_, ?_, hM.2.2.2⟩
        · show upd τ.1 7 (nI (setw w c true)) 3 = nI p
          rw [pk_un (by decide)]; exact i2
        · show upd τ.1 7 (nI (setw w c true)) 1 = nI d
          rw [pk_un (by decide)]; exact i4
        · show upd τ.1 7 (nI (setw w c true)) 7 = nI (setw w c true)
          rw [pk_us]
      have ml := m_likely hB' mo
      rw [if_neg (nI_ge hcp (by omega)), if_neg (nI_ge hcp (by omega)), nI_clamp (by omega), if_neg hx, if_neg hx, st, ml, Option.bind_some, c_cit (u := sU u v0) b1 hcp i1, Option.bind_some]
      unfold fX5_least_121 fX5_least_114 fX5_least_121
      show ∃ r v1, (if ¬ c < 6 then none else _) = _ ∧ _
      rw [if_neg (show ¬ ¬ c < 6 by omega)]
      show ∃ r v1, (if u.2.2.1 c 3 = 0 then _ else _) = _ ∧ _
      rw [k8]
      by_cases hb : bi w c = true
      · have ws : setw w c true = w := by have := b_seteq w (by omega) c (by omega); rw [hb] at this; exact this
        rw [ws, if_pos hnl, if_pos rfl, if_neg (by rw [hb]; decide), nI_1]
        unfold fX4_least_155
        rw [nI_1]
        exact ih (c + 1) g k (nI w) v0 (by omega) (by omega) hgk hd
      · have hbf : bi w c = false := by cases h : bi w c; rfl; exact absurd h hb
        have ws : setw (setw w c true) c false = w := by
          have := b_set2 w (by omega) c (by omega)
          rw [hbf, Bool.false_or] at this
          exact beq_iff_eq.mp this
        obtain ⟨v', e1, e2⟩ := s_setWishes (x := (1 : Int32)) (show w < 64 by omega) (show c < 6 by omega) hd
        have e2' : dOK (slK K T) p d (setw w c true) v' := e2
        obtain ⟨v2, e3, e4⟩ := s_half hB' e2'
        obtain ⟨v3, e5, e6⟩ := s_setWishes (x := (0 : Int32)) (show setw w c true < 64 by omega) (show c < 6 by omega) e4
        have e6' : dOK (slK K T) p d (setw (setw w c true) c false) v3 := e6
        rw [ws] at e6'
        rw [if_pos (by rw [hbf]; rfl)]
        show ∃ r v1, ((fX1_setWishes (nI c) (1 : Int32) v0).bind _) = _ ∧ _
        rw [e1, Option.bind_some, e3, Option.bind_some]
        dsimp only
        unfold fX4_least_139 fX4_least_145 fX4_least_155
        have gv : u.2.2.1 c 2 + u.1 3 * u.2.2.1 c 1 = nI (G c + pr * T c) := by rw [k7, i5, k6, pk_mul, nI_add]
        have gm : τ.2 3 c + (upd (upd τ.1 7 a) 7 (nI w ||| ((1 : Int32) <<< (nI c &&& 31)))) 2 * τ.2 2 c = nI (G c + pr * T c) := by rw [m3, pk_un (by decide), pk_un (by decide), i6, m2, pk_mul, nI_add]
        have hgb : G c + pr * T c ≤ 1000 := by
          have := Nat.mul_le_mul b3 k3
          omega
        by_cases hq : 2 * PA (slK K T) p d (setw w c true) < ch (tot (slK K T) p) (tk d (tot (slK K T) p))
        · rw [if_pos hq, if_pos rfl, if_pos rfl]
          show ∃ r v1, ((fX1_setWishes (nI c) (0 : Int32) v2).bind _) = _ ∧ _
          rw [e5, Option.bind_some, nI_1]
          exact ih (c + 1) g k _ v3 (by omega) (by omega) hgk e6'
        · rw [if_neg hq, if_neg n10, if_neg n10, gm, nI_1]
          show ∃ r v1, (if k = (-9 : Int32) then ((fX1_setWishes (nI c) (0 : Int32) v2).bind _) else (if g ≤ u.2.2.1 c 2 + u.1 3 * u.2.2.1 c 1 then ((fX1_setWishes (nI c) (0 : Int32) v2).bind _) else ((fX1_setWishes (nI c) (0 : Int32) v2).bind _))) = _ ∧ _
          rw [e5, Option.bind_some, Option.bind_some]
          rcases hgk with ⟨rfl, rfl⟩ | ⟨gn, kn, rfl, hgn, rfl, hkn⟩
          · rw [if_pos rfl, if_pos (show (-9 : Int32) < 0 by decide)]
            have step := ih (c + 1) (nI (G c + pr * T c)) (nI c) (nI (setw w c true)) v3 (by omega) (by omega) (Or.inr ⟨_, c, rfl, hgb, rfl, by omega⟩) e6'
            show ∃ r v1, fX4_least_56 f y (u.2.2.1 c 2 + u.1 3 * u.2.2.1 c 1) (nI c) (nI (c + 1)) (sU u v3) = _ ∧ _
            rw [gv]
            exact step
          · rw [if_neg (b_n9 kn hkn), if_neg (nI_pos (by omega))]
            show ∃ r v1, (if nI gn ≤ u.2.2.1 c 2 + u.1 3 * u.2.2.1 c 1 then _ else _) = _ ∧ _
            rw [gv]
            by_cases q7 : nI gn ≤ nI (G c + pr * T c)
            · rw [if_pos q7, if_pos q7]
              exact ih (c + 1) (nI gn) (nI kn) _ v3 (by omega) (by omega) (Or.inr ⟨gn, kn, rfl, hgn, rfl, hkn⟩) e6'
            · rw [if_neg q7, if_neg q7]
              have step := ih (c + 1) (nI (G c + pr * T c)) (nI c) (nI (setw w c true)) v3 (by omega) (by omega) (Or.inr ⟨_, c, rfl, hgb, rfl, by omega⟩) e6'
              show ∃ r v1, fX4_least_56 f y (u.2.2.1 c 2 + u.1 3 * u.2.2.1 c 1) (nI c) (nI (c + 1)) (sU u v3) = _ ∧ _
              rw [gv]
              exact step
theorem q_least {u : SX} {τ : SM} (h : Rel u τ) (y : Int32) : ∃ r u' τ', fX4_least y u = some (r, u') ∧ fX5_least y τ = some (r, τ') ∧ Rel u' τ' := by
  have hAll := h
  obtain ⟨p, d, pr, n, w, K, T, G, R, hA⟩ := h
  have hA' := hA
  have hM := mOK_of hA
  have hB := dB_of hA
  obtain ⟨⟨⟨b1, b2, b3, b4, b5⟩, i1, i2, i3, i4, i5, i6, i7, i8, i9, -⟩, hR, hz, hm, hs, hF⟩ := hA
  have ein : fX5_in y.toInt64 (0 : Int64) (1 : Int64) = _ := in_lit y (lo := 0) (hi := 1) (by omega) (by omega)
  unfold fX4_least fX5_least fX4_least_9
  rw [ein, Option.bind_some]
  by_cases q1 : y < nI 0
  · rw [if_pos (show y < 0 from q1), if_pos q1, if_pos rfl]
    exact ⟨_, _, _, rfl, rfl, hAll⟩
  · rw [if_neg (show ¬ y < 0 from q1), if_neg q1]
    by_cases q2 : nI 1 < y
    · rw [if_neg (show ¬ y ≤ (1 : Int32) from (fa_of_lt q2).2.1), if_pos q2, if_pos rfl]
      exact ⟨_, _, _, rfl, rfl, hAll⟩
    · rw [if_pos (show y ≤ (1 : Int32) from fa_of_nlt q2), if_neg q2, if_neg n10, i1, i2]
      by_cases q3 : nI p = 0
      · rw [if_pos q3, if_pos q3]
        exact ⟨_, _, _, rfl, rfl, hAll⟩
      · obtain ⟨v, v1, v2⟩ := s_fill b1 b2 b5 i1 i3 hz hF
        obtain ⟨v', v3, v4⟩ := s_half hB.1 v2
        rw [if_neg q3, if_neg q3, v1, Option.bind_some]
        show ∃ r u' τ', ((fX1_passesByHalf v).bind _) = _ ∧ _
        rw [v3, Option.bind_some, m_likely hB.1 hM, Option.bind_some]
        dsimp only
        by_cases hq : 2 * PA (slK K T) p d w < ch (tot (slK K T) p) (tk d (tot (slK K T) p))
        · rw [if_pos hq, if_pos rfl, if_pos rfl, i9]
          obtain ⟨r, vv, e1, e2, e3⟩ := q_ls_loop (y := y) hA' hq fu 0 (-9) (-9) (τ.1 7) v' (by unfold fu; omega) (by omega) (Or.inl ⟨rfl, rfl⟩) v4
          rw [fa_upd_same rfl] at e2
          exact ⟨r, _, _, e1, e2, rel_drum hAll e3⟩
        · rw [if_neg hq, if_neg n10, if_neg n10]
          by_cases hy : y = 0
          · rw [if_pos hy, if_pos hy]
            exact ⟨_, _, _, rfl, rfl, rel_drum hAll v4.2.2.2.2.2.2⟩
          · rw [if_neg hy, if_neg hy]
            exact ⟨_, _, _, rfl, rfl, rel_drum hAll v4.2.2.2.2.2.2⟩
