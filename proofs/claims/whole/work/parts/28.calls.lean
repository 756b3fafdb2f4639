/-! what is asked of one citizen, and of a draw's likelihood -/
theorem ss_low {sl : Nat → Nat} {p c : Nat} (hp : p ≤ 6) (hc : c ≤ p) : ss sl (2 ^ c - 1) p = tot sl c := by
  have hpw := b_pow c (by omega)
  rw [ss_top (m := c) hc (fun i h1 h2 => b_top c (by omega) (2 ^ c - 1) (by omega) (by omega) i (by omega) h1), tot_full (by omega)]
theorem c_ahead_loop {p w c : Nat} {K T G : Nat → Nat} {u : SX} (hp : p ≤ 6) (hc : c ≤ p) (h1 : u.1 1 = nI p) (hz : cOK p w K T G u.2.2.1) : ∀ f k, c < k + f → k ≤ c → fX4_slipsAhead_4 f (nI c) (nI (tot (slK K T) k)) (nI k) u = some (nI (tot (slK K T) c)) := by
  intro f
  induction f with
  | zero => intro k g1 g2; omega
  | succ f ih =>
    intro k g1 g2
    rw [fX4_slipsAhead_4]
    by_cases hk : c ≤ k
    · rw [if_pos (nI_le hk (by omega)), show k = c by omega]
    · have step := ih (k + 1) (by omega) (by omega)
      rw [if_neg (fun z => hk ((nI_leI (by omega) (by omega)).mp z)), c_cit hp (by omega) h1, Option.bind_some]
      show (if ¬ k < 6 then none else _) = _
      rw [if_neg (by omega)]
      show ((fX0_slips (u.2.2.1 k)).bind _) = _
      rw [c_slips hz (by omega), Option.bind_some]
      unfold fX4_slipsAhead_31
      rw [nI_add, nI_1]
      exact step
theorem c_ahead {p w c : Nat} {K T G : Nat → Nat} {u : SX} (hp : p ≤ 6) (hc : c ≤ p) (h1 : u.1 1 = nI p) (hz : cOK p w K T G u.2.2.1) : fX4_slipsAhead (nI c) u = some (nI (tot (slK K T) c)) := c_ahead_loop hp hc h1 hz fu 0 (by unfold fu; omega) (by omega)
theorem i01_0 {b : Bool} : nI (i01 b) = 0 ↔ b = false := by cases b <;> decide
theorem isIn_i (S : Nat) (hS : S < 64) (c : Nat) (hc : c < 6) : fX5_isIn (nI S) (nI c) = some (nI (i01 (bi S c))) := b_isIn S hS c hc
theorem q_ofCitizen {u : SX} {τ : SM} (h : Rel u τ) (x y : Int32) : ∃ r, fX4_ofCitizen x y u = some r ∧ fX5_ofCitizen x y τ = some r := by
  obtain ⟨p, d, pr, n, w, K, T, G, R, hA⟩ := h
  have hM := mOK_of hA
  obtain ⟨⟨⟨b1, b2, b3, b4, b5⟩, i1, i2, i3, i4, i5, i6, i7, i8, i9, -⟩, hR, hz, hm, hs, hF⟩ := hA
  have hpw := b_pow p (by omega)
  unfold fX4_ofCitizen fX5_ofCitizen
  rcases who b1 x with ⟨c, hc, rfl, f1, f2⟩ | ⟨f1, f2⟩
  · obtain ⟨k1, k2, k3, k4, k5, k6, k7, k8⟩ := hz c hc
    obtain ⟨m1, m2, m3⟩ := hm c hc
    rw [f1 u i1, f2 τ i2, Option.bind_some, Option.bind_some, if_pos rfl, nI_clamp (by omega)]
    show ∃ r, (if ¬ c < 6 then none else _) = some r ∧ _
    rw [if_neg (show ¬ ¬ c < 6 by omega)]
    have hx := ixc (show c < 6 by omega) (by omega)
    by_cases y0 : y = (0 : Int32)
    · rw [if_pos y0, if_pos y0, if_neg hx, k5, m1]; exact ⟨_, rfl, rfl⟩
    · rw [if_neg y0, if_neg y0]
      by_cases y1 : y = (1 : Int32)
      · rw [if_pos y1, if_pos y1, if_neg hx, k6, m2]; exact ⟨_, rfl, rfl⟩
      · rw [if_neg y1, if_neg y1]
        by_cases y2 : y = (2 : Int32)
        · rw [if_pos y2, if_pos y2, if_neg hx, k7, m3]; exact ⟨_, rfl, rfl⟩
        · rw [if_neg y2, if_neg y2]
          by_cases y3 : y = (3 : Int32)
          · rw [if_pos y3, if_pos y3, k8, i9, isIn_i w (by omega) c (by omega), Option.bind_some]
            by_cases q : nI (i01 (bi w c)) = 0
            · rw [if_pos q]; exact ⟨_, rfl, rfl⟩
            · rw [if_neg q]; exact ⟨_, rfl, rfl⟩
          · rw [if_neg y3, if_neg y3]
            by_cases y4 : y = (4 : Int32)
            · rw [if_pos y4, if_pos y4, c_slips hz hc, m_slipsOf b1 hM hc]; exact ⟨_, rfl, rfl⟩
            · rw [if_neg y4, if_neg y4]
              by_cases y5 : y = (5 : Int32)
              · have hcw := b_pow c (by omega)
                rw [if_pos y5, if_pos y5, c_ahead b1 (by omega) i1 hz, b_ev c (by omega), m_slipsAll b1 hM (by omega), ss_low b1 (by omega)]; exact ⟨_, rfl, rfl⟩
              · rw [if_neg y5, if_neg y5]; exact ⟨_, rfl, rfl⟩
  · rw [f1 u i1, f2 τ i2, Option.bind_some, Option.bind_some, if_neg n10]
    exact ⟨_, rfl, rfl⟩
theorem q_many {u : SX} {τ : SM} (h : Rel u τ) (y : Int32) : ∃ r, fX4_many y u = some r ∧ fX5_many y τ = some r := by
  obtain ⟨p, d, pr, n, w, K, T, G, R, hA⟩ := h
  have hM := mOK_of hA
  obtain ⟨⟨⟨b1, b2, b3, b4, b5⟩, i1, i2, i3, i4, i5, i6, i7, i8, i9, -⟩, hR, hz, hm, hs, hF⟩ := hA
  unfold fX4_many fX5_many
  by_cases y0 : y = (0 : Int32)
  · rw [if_pos y0, if_pos y0, i1, i2]; exact ⟨_, rfl, rfl⟩
  · rw [if_neg y0, if_neg y0]
    by_cases y1 : y = (1 : Int32)
    · rw [if_pos y1, if_pos y1, i1, c_ahead b1 (Nat.le_refl p) i1 hz, m_every b1 hM, Option.bind_some, Option.bind_some, m_tot b1 hM]; exact ⟨_, rfl, rfl⟩
    · rw [if_neg y1, if_neg y1]
      by_cases y2 : y = (2 : Int32)
      · rw [if_pos y2, if_pos y2, i3, i4]; exact ⟨_, rfl, rfl⟩
      · rw [if_neg y2, if_neg y2]
        by_cases y3 : y = (3 : Int32)
        · rw [if_pos y3, if_pos y3, i5, i6]; exact ⟨_, rfl, rfl⟩
        · rw [if_neg y3, if_neg y3]
          by_cases y4 : y = (4 : Int32)
          · rw [if_pos y4, if_pos y4, i7, i8]; exact ⟨_, rfl, rfl⟩
          · rw [if_neg y4, if_neg y4]; exact ⟨_, rfl, rfl⟩
theorem q_trace {u : SX} {τ : SM} (h : Rel u τ) : ∃ r, fX4_trace u = some r ∧ fX5_trace τ = some r := by
  obtain ⟨p, d, pr, n, w, K, T, G, R, ⟨-, i1, i2, i3, i4, i5, i6, i7, i8, i9, i10, i11⟩, -⟩ := h
  unfold fX4_trace fX5_trace
  rw [i10]; exact ⟨_, rfl, rfl⟩
theorem q_fault {u : SX} {τ : SM} (h : Rel u τ) : ∃ r, fX4_fault u = some r ∧ fX5_fault τ = some r := by
  obtain ⟨p, d, pr, n, w, K, T, G, R, ⟨-, i1, i2, i3, i4, i5, i6, i7, i8, i9, i10, i11⟩, -⟩ := h
  unfold fX4_fault fX5_fault
  rw [i11]; exact ⟨_, rfl, rfl⟩
-- wishes
theorem b_setp : ∀ p, p < 7 → ∀ w, w < 2 ^ p → ∀ c, c < p → setw w c true < 2 ^ p ∧ setw w c false < 2 ^ p := by decide +kernel
theorem b_setb : ∀ w, w < 64 → ∀ c, c < 6 → ∀ i, i < 6 → bi (setw w c true) i = (if i = c then true else bi w i) ∧ bi (setw w c false) i = (if i = c then false else bi w i) := by decide +kernel
theorem b_seteq : ∀ w, w < 64 → ∀ c, c < 6 → setw w c (bi w c) = w := by decide +kernel
theorem setp {p w c : Nat} (hp : p ≤ 6) (hw : w < 2 ^ p) (hc : c < p) (b : Bool) : setw w c b < 2 ^ p := by
  cases b
  · exact (b_setp p (by omega) w hw c hc).2
  · exact (b_setp p (by omega) w hw c hc).1
theorem setb {w c i : Nat} (hw : w < 64) (hc : c < 6) (hi : i < 6) (b : Bool) : bi (setw w c b) i = if i = c then b else bi w i := by
  cases b
  · exact (b_setb w hw c hc i hi).2
  · exact (b_setb w hw c hc i hi).1
theorem cOK_wish {p w c : Nat} {K T G : Nat → Nat} {z : Nat → Nat → Int32} (hp : p ≤ 6) (hw : w < 2 ^ p) (hc : c < p) (b : Bool) (hz : cOK p w K T G z) : cOK p (setw w c b) K T G (va_up z c (upd (z c) 3 (nI (i01 b)))) := by
  have hpw := b_pow p (by omega)
  intro i hi
  obtain ⟨k1, k2, k3, k4, k5, k6, k7, k8⟩ := hz i hi
  rw [setb (by omega) (by omega) (by omega)]
  by_cases q : i = c
  · subst q
    rw [va_up_self, if_pos rfl]
    refine ⟨k1, k2, k3, k4, ?_, ?_, ?_, pk_us⟩
    · rw [pk_un (by decide)]; exact k5
    · rw [pk_un (by decide)]; exact k6
    · rw [pk_un (by decide)]; exact k7
  · rw [va_up_ne _ _ q, if_neg q]
    exact ⟨k1, k2, k3, k4, k5, k6, k7, k8⟩
theorem q_wish {u : SX} {τ : SM} (h : Rel u τ) (x : Int32) (b : Bool) : ∃ r u' τ', fX4_wish x (nI (i01 b)) u = some (r, u') ∧ fX5_wish x (nI (i01 b)) τ = some (r, τ') ∧ Rel u' τ' := by
  obtain ⟨p, d, pr, n, w, K, T, G, R, hA⟩ := h
  have hAll : Rel u τ := ⟨p, d, pr, n, w, K, T, G, R, hA⟩
  obtain ⟨h1, hR, hz, hm, hs, hF⟩ := hA
  have hI := h1
  obtain ⟨⟨b1, b2, b3, b4, b5⟩, i1, i2, i3, i4, i5, i6, i7, i8, i9, -⟩ := h1
  have hpw := b_pow p (by omega)
  unfold fX4_wish fX5_wish fX5_wish_45
  rcases who b1 x with ⟨c, hc, rfl, f1, f2⟩ | ⟨f1, f2⟩
  · obtain ⟨k1, k2, k3, k4, k5, k6, k7, k8⟩ := hz c hc
    obtain ⟨e1, e2, -, -⟩ := b_setw w (by omega) c (by omega)
    rw [f1 u i1, f2 τ i2, Option.bind_some, Option.bind_some, if_pos rfl, i9, isIn_i w (by omega) c (by omega), Option.bind_some]
    show ∃ r u' τ', (if ¬ c < 6 then none else _) = some (r, u') ∧ _
    rw [if_neg (show ¬ ¬ c < 6 by omega), k8, e1, e2]
    have key : (if nI (i01 b) = 0 then (if nI (i01 (bi w c)) = nI (i01 b) then some ((0 : Int32), (upd τ.1 7 (nI (di w (2 ^ c))), τ.2)) else some ((1 : Int32), (upd τ.1 7 (nI (di w (2 ^ c))), τ.2))) else (if nI (i01 (bi w c)) = nI (i01 b) then some ((0 : Int32), (upd τ.1 7 (nI (w ||| 2 ^ c)), τ.2)) else some ((1 : Int32), (upd τ.1 7 (nI (w ||| 2 ^ c)), τ.2)))) = some ((if bi w c = b then (0 : Int32) else 1), (upd τ.1 7 (nI (setw w c b)), τ.2)) := by
      unfold setw
      cases b <;> cases bi w c <;> rfl
    rw [key]
    by_cases q : bi w c = b
    · rw [if_pos (show nI (i01 (bi w c)) = nI (i01 b) by rw [q]), if_pos q]
      refine ⟨_, _, _, rfl, rfl, p, d, pr, n, setw w c b, K, T, G, R, rI_wish (setp b1 b5 hc b) hI, hR, ?_, hm, hs, hF⟩
      rw [← q, b_seteq w (by omega) c (by omega)]; exact hz
    · rw [if_neg (show ¬ nI (i01 (bi w c)) = nI (i01 b) by revert q; cases b <;> cases bi w c <;> decide), if_neg q, if_neg (show ¬ ¬ (nI (i01 b) &&& 1 = nI (i01 b)) by cases b <;> decide)]
      exact ⟨_, _, _, rfl, rfl, p, d, pr, n, setw w c b, K, T, G, R, rI_wish (setp b1 b5 hc b) hI, hR, cOK_wish b1 b5 hc b hz, hm, hs, hF⟩
  · rw [f1 u i1, f2 τ i2, Option.bind_some, Option.bind_some, if_neg n10]
    exact ⟨_, _, _, rfl, rfl, hAll⟩
-- likelihoods
theorem which (x : Int32) : (fX4_isWhich x = some 1 ∧ fX5_in x.toInt64 (0 : Int64) (1 : Int64) = some 1) ∨ (fX4_isWhich x = some 0 ∧ fX5_in x.toInt64 (0 : Int64) (1 : Int64) = some 0) := by
  have ein : fX5_in x.toInt64 (0 : Int64) (1 : Int64) = _ := in_lit x (lo := 0) (hi := 1) (by omega) (by omega)
  unfold fX4_isWhich fX4_isWhich_9
  rw [z0, z1, ein]
  by_cases q1 : x < nI 0
  · refine Or.inr ⟨?_, by rw [if_pos q1]⟩
    rw [if_neg (fun z => by rw [z] at q1; revert q1; decide), if_neg (fun z => by rw [z] at q1; revert q1; decide)]
  · by_cases q2 : nI 1 < x
    · refine Or.inr ⟨?_, by rw [if_neg q1, if_pos q2]⟩
      rw [if_neg (fun z => by rw [z] at q2; revert q2; decide), if_neg (fun z => by rw [z] at q2; revert q2; decide)]
    · refine Or.inl ⟨?_, by rw [if_neg q1, if_neg q2]⟩
      obtain ⟨e, -, he, rfl⟩ := sp_nat q1 q2 (by omega) (by omega)
      rcases (show e = 0 ∨ e = 1 by omega) with rfl | rfl
      · rw [if_pos (show nI 0 = 0 from rfl)]
      · rw [if_neg (show ¬ nI 1 = 0 by decide), if_pos (show nI 1 = (1 : Int32) from rfl)]
theorem all_b {sl : Nat → Nat} {p d w : Nat} (hB : dB sl p d w ∧ tot sl p ≤ 121) : 0 < ch (tot sl p) (tk d (tot sl p)) ∧ ch (tot sl p) (tk d (tot sl p)) < 2 ^ 32 := by
  have htk := tk_le d (tot sl p)
  refine ⟨ch_pos htk.2, ?_⟩
  have := ch_b32 hB.2 (show tk d (tot sl p) ≤ 6 by have := hB.1.2.1; omega)
  have e : (2 : Nat) ^ 32 = 4294967296 := by decide
  omega
theorem wo_b {sl : Nat → Nat} {p d w c : Nat} (hB : dB sl p d w ∧ tot sl p ≤ 121) : ch (tot sl p - sl c) (tk d (tot sl p)) < 2 ^ 32 := by
  have htk := tk_le d (tot sl p)
  have := ch_b32 (show tot sl p - sl c ≤ 121 by have := hB.2; omega) (show tk d (tot sl p) ≤ 6 by have := hB.1.2.1; omega)
  have e : (2 : Nat) ^ 32 = 4294967296 := by decide
  omega
theorem lost_i : (some (-9223372036854775808 : Int64)).bind (fun q1 => some q1) = some (-9223372036854775808 : Int64) := rfl
theorem q_rules {u : SX} {τ : SM} (h : Rel u τ) (x y : Int32) : ∃ r u', fX4_rules x y u = some (r, u') ∧ fX5_rules x y τ = some r ∧ Rel u' τ := by
  obtain ⟨p, d, pr, n, w, K, T, G, R, hA⟩ := h
  have hAll : Rel u τ := ⟨p, d, pr, n, w, K, T, G, R, hA⟩
  have hM := mOK_of hA
  have hB := dB_of hA
  obtain ⟨⟨⟨b1, b2, b3, b4, b5⟩, i1, i2, i3, i4, i5, i6, i7, i8, i9, -⟩, hR, hz, hm, hs, hF⟩ := hA
  unfold fX4_rules fX5_rules fX4_rules_15 fX5_rules_18 fX5_lost
  rcases who b1 x with ⟨c, hc, rfl, f1, f2⟩ | ⟨f1, f2⟩
  · rw [f1 u i1, f2 τ i2, Option.bind_some, Option.bind_some, if_pos rfl]
    show ∃ r u', (if ¬ c < 6 then none else _) = some (r, u') ∧ _
    rw [if_neg (show ¬ ¬ c < 6 by omega)]
    rcases which y with ⟨g1, g2⟩ | ⟨g1, g2⟩
    · obtain ⟨v, v1, v2⟩ := s_fill b1 b2 b5 i1 i3 hz hF
      obtain ⟨a1, a2⟩ := all_b (d := d) (w := w) ⟨hB.1, by omega⟩
      have a3 := wo_b (d := d) (w := w) (c := c) ⟨hB.1, by omega⟩
      obtain ⟨r, s1, s2⟩ := share_part y (show ch (tot (slK K T) p - slK K T c) (tk d (tot (slK K T) p)) < 2 ^ 63 by rw [p63]; omega) a1 a2
      rw [g1, g2, Option.bind_some, Option.bind_some, if_neg n10, if_neg n10, v1, Option.bind_some]
      dsimp only
      rw [s_sparing hB.1 v2 hc, Option.bind_some, s_draws hB.1 v2, Option.bind_some, s1, Option.bind_some, m_without hB.1 hM hc, Option.bind_some, m_all hB.1 hM, Option.bind_some, s2, Option.bind_some]
      exact ⟨_, _, rfl, rfl, rel_drum hAll v2.2.2.2.2.2.2⟩
    · rw [g1, g2, Option.bind_some, Option.bind_some, if_pos rfl, if_pos rfl]
      exact ⟨_, _, rfl, rfl, hAll⟩
  · rw [f1 u i1, f2 τ i2, Option.bind_some, Option.bind_some, if_neg n10]
    exact ⟨_, _, rfl, rfl, hAll⟩
theorem q_just {u : SX} {τ : SM} (h : Rel u τ) (x y : Int32) : ∃ r u', fX4_just x y u = some (r, u') ∧ fX5_just x y τ = some r ∧ Rel u' τ := by
  obtain ⟨p, d, pr, n, w, K, T, G, R, hA⟩ := h
  have hAll : Rel u τ := ⟨p, d, pr, n, w, K, T, G, R, hA⟩
  have hM := mOK_of hA
  have hB := dB_of hA
  obtain ⟨⟨⟨b1, b2, b3, b4, b5⟩, i1, i2, i3, i4, i5, i6, i7, i8, i9, -⟩, hR, hz, hm, hs, hF⟩ := hA
  have hpw := b_pow p (by omega)
  unfold fX4_just fX5_just fX4_just_22 fX5_just_31 fX5_lost
  rw [i1, i2]
  by_cases q3 : nI p = 0
  · rw [if_pos q3, if_pos q3]
    exact ⟨_, _, rfl, rfl, hAll⟩
  · rw [if_neg q3, if_neg q3, m_every b1 hM, Option.bind_some]
    rcases is_set b1 x with ⟨S, hS, rfl, f1, f2⟩ | ⟨f1, f2⟩
    · rw [f1 u i1, f2, Option.bind_some, Option.bind_some, if_neg n10, if_neg n10]
      rcases which y with ⟨g1, g2⟩ | ⟨g1, g2⟩
      · obtain ⟨v, v1, v2⟩ := s_fill b1 b2 b5 i1 i3 hz hF
        obtain ⟨v', v3, v4⟩ := s_just hB.1 v2 (show S < 64 by omega)
        obtain ⟨a1, a2⟩ := all_b (d := d) (w := w) ⟨hB.1, by omega⟩
        obtain ⟨r, s1, s2⟩ := share_part y (Gs_63 hB.1 (show S < 64 by omega)) a1 a2
        rw [g1, g2, Option.bind_some, Option.bind_some, if_neg n10, if_neg n10, v1, Option.bind_some]
        dsimp only
        rw [v3, Option.bind_some]
        dsimp only
        rw [s_draws hB.1 v4, Option.bind_some, s1, Option.bind_some, m_drawsOf hB.1 hM (by omega), Option.bind_some, m_all hB.1 hM, Option.bind_some, s2, Option.bind_some]
        exact ⟨_, _, rfl, rfl, rel_drum hAll v4.2.2.2.2.2.2⟩
      · rw [g1, g2, Option.bind_some, Option.bind_some, if_pos rfl, if_pos rfl]
        exact ⟨_, _, rfl, rfl, hAll⟩
    · rw [f1 u i1, f2, Option.bind_some, Option.bind_some, if_pos rfl, if_pos rfl]
      exact ⟨_, _, rfl, rfl, hAll⟩
theorem q_passes {u : SX} {τ : SM} (h : Rel u τ) (y : Int32) : ∃ r u', fX4_passes y u = some (r, u') ∧ fX5_passes y τ = some r ∧ Rel u' τ := by
  obtain ⟨p, d, pr, n, w, K, T, G, R, hA⟩ := h
  have hAll : Rel u τ := ⟨p, d, pr, n, w, K, T, G, R, hA⟩
  have hM := mOK_of hA
  have hB := dB_of hA
  obtain ⟨⟨⟨b1, b2, b3, b4, b5⟩, i1, i2, i3, i4, i5, i6, i7, i8, i9, -⟩, hR, hz, hm, hs, hF⟩ := hA
  unfold fX4_passes fX5_passes fX4_passes_14 fX5_passes_17 fX5_lost
  rw [i1, i2]
  by_cases q3 : nI p = 0
  · rw [if_pos q3, if_pos q3]
    exact ⟨_, _, rfl, rfl, hAll⟩
  · rw [if_neg q3, if_neg q3]
    rcases which y with ⟨g1, g2⟩ | ⟨g1, g2⟩
    · obtain ⟨v, v1, v2⟩ := s_fill b1 b2 b5 i1 i3 hz hF
      obtain ⟨v', v3, v4⟩ := s_passing hB.1 v2
      obtain ⟨a1, a2⟩ := all_b (d := d) (w := w) ⟨hB.1, by omega⟩
      have a3 := PA_le (sl := slK K T) (d := d) (w := w) b1
      obtain ⟨r, s1, s2⟩ := share_part y (show PA (slK K T) p d w < 2 ^ 63 by rw [p63]; omega) a1 a2
      rw [g1, g2, Option.bind_some, Option.bind_some, if_neg n10, if_neg n10, v1, Option.bind_some]
      dsimp only
      rw [v3, Option.bind_some]
      dsimp only
      rw [s_draws hB.1 v4, Option.bind_some, s1, Option.bind_some, m_passing hB.1 hM, Option.bind_some, m_all hB.1 hM, Option.bind_some, s2, Option.bind_some]
      exact ⟨_, _, rfl, rfl, rel_drum hAll v4.2.2.2.2.2.2⟩
    · rw [g1, g2, Option.bind_some, Option.bind_some, if_pos rfl, if_pos rfl]
      exact ⟨_, _, rfl, rfl, hAll⟩
theorem c_mean_loop {sl : Nat → Nat} {p d w : Nat} {u : SX} {y r : _} (hB : dB sl p d w) (h1 : u.1 1 = nI p) (h : dOK sl p d w u.2.2.2.2) (hr : fX4_partOf (lN (fb_sm (fun c => ch (tot sl p - sl c) (tk d (tot sl p))) p)) (lN (ch (tot sl p) (tk d (tot sl p)))) y = some r) : ∀ f k, p < k + f → k ≤ p → fX4_mean_27 f y (lN (fb_sm (fun c => ch (tot sl p - sl c) (tk d (tot sl p))) k)) (nI k) u = some (r, u) := by
  have hp := hB.1
  intro f
  induction f with
  | zero => intro k g1 g2; omega
  | succ f ih =>
    intro k g1 g2
    rw [fX4_mean_27, h1]
    by_cases hk : p ≤ k
    · rw [if_pos (nI_le hk (by omega)), show k = p by omega, s_draws hB h, Option.bind_some, hr, Option.bind_some]
    · have step := ih (k + 1) (by omega) (by omega)
      rw [fb_sm_succ] at step
      rw [if_neg (nI_ge (by omega) (by omega)), s_sparing hB h (by omega), Option.bind_some, lN_add, nI_1]
      exact step
theorem m_mean_loop {sl : Nat → Nat} {p d w : Nat} {τ : SM} {y r : _} (hB : dB sl p d w) (h : mOK sl p d w τ) (hr : fX5_share (lN (fb_sm (fun c => ch (tot sl p - sl c) (tk d (tot sl p))) p)) (lN (ch (tot sl p) (tk d (tot sl p)))) y = some r) : ∀ f k, p < k + f → k ≤ p → fX5_mean_26 f y (lN (fb_sm (fun c => ch (tot sl p - sl c) (tk d (tot sl p))) k)) (nI k) τ = some r := by
  have hp := hB.1
  intro f
  induction f with
  | zero => intro k g1 g2; omega
  | succ f ih =>
    intro k g1 g2
    rw [fX5_mean_26, h.1]
    by_cases hk : p ≤ k
    · rw [if_pos (nI_le hk (by omega)), show k = p by omega, m_all hB h, Option.bind_some, hr, Option.bind_some]
    · have step := ih (k + 1) (by omega) (by omega)
      rw [fb_sm_succ] at step
      rw [if_neg (nI_ge (by omega) (by omega)), m_without hB h (by omega), Option.bind_some, lN_add, nI_1]
      exact step
theorem q_mean {u : SX} {τ : SM} (h : Rel u τ) (y : Int32) : ∃ r u', fX4_mean y u = some (r, u') ∧ fX5_mean y τ = some r ∧ Rel u' τ := by
  obtain ⟨p, d, pr, n, w, K, T, G, R, hA⟩ := h
  have hAll : Rel u τ := ⟨p, d, pr, n, w, K, T, G, R, hA⟩
  have hM := mOK_of hA
  have hB := dB_of hA
  obtain ⟨⟨⟨b1, b2, b3, b4, b5⟩, i1, i2, i3, i4, i5, i6, i7, i8, i9, -⟩, hR, hz, hm, hs, hF⟩ := hA
  unfold fX4_mean fX5_mean fX4_mean_14 fX5_mean_17 fX5_lost
  rw [i1, i2]
  by_cases q3 : nI p = 0
  · rw [if_pos q3, if_pos q3]
    exact ⟨_, _, rfl, rfl, hAll⟩
  · rw [if_neg q3, if_neg q3]
    rcases which y with ⟨g1, g2⟩ | ⟨g1, g2⟩
    · obtain ⟨v, v1, v2⟩ := s_fill b1 b2 b5 i1 i3 hz hF
      obtain ⟨a1, a2⟩ := all_b (d := d) (w := w) ⟨hB.1, by omega⟩
      have a3 : fb_sm (fun c => ch (tot (slK K T) p - slK K T c) (tk d (tot (slK K T) p))) p ≤ p * 2 ^ 32 := fb_sm_bound (fun c _ => Nat.le_of_lt (wo_b (d := d) (w := w) (c := c) ⟨hB.1, by omega⟩))
      have a4 : p * 2 ^ 32 ≤ 6 * 2 ^ 32 := Nat.mul_le_mul_right _ b1
      obtain ⟨r, s1, s2⟩ := share_part y (show fb_sm (fun c => ch (tot (slK K T) p - slK K T c) (tk d (tot (slK K T) p))) p < 2 ^ 63 by rw [p63]; omega) a1 a2
      rw [g1, g2, Option.bind_some, Option.bind_some, if_neg n10, if_neg n10, v1, Option.bind_some]
      exact ⟨r, _, c_mean_loop (u := (u.1, u.2.1, u.2.2.1, u.2.2.2.1, v)) hB.1 i1 v2 s1 fu 0 (by unfold fu; omega) (by omega), m_mean_loop hB.1 hM s2 fu 0 (by unfold fu; omega) (by omega), rel_drum hAll v2.2.2.2.2.2.2⟩
    · rw [g1, g2, Option.bind_some, Option.bind_some, if_pos rfl, if_pos rfl]
      exact ⟨_, _, rfl, rfl, hAll⟩
