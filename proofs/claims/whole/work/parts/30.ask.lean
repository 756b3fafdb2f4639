/-! tickets, kinds, counts, buy, least, lend -/
def sU (u : SX) (v : SD) : SX := (u.1, u.2.1, u.2.2.1, u.2.2.2.1, v)
def mK (p d w : Nat) (K T : Nat → Nat) (τ : SM) : Prop := τ.1 3 = nI p ∧ τ.1 1 = nI d ∧ τ.1 7 = nI w ∧ ∀ c, c < p → K c ≤ 2 ∧ T c ≤ 20 ∧ τ.2 1 c = nI (K c) ∧ τ.2 2 c = nI (T c)
theorem mK_OK {p d w : Nat} {K T : Nat → Nat} {τ : SM} (h : mK p d w K T τ) : mOK (slK K T) p d w τ := by
  obtain ⟨h1, h2, h3, h4⟩ := h
  refine ⟨h1, h2, h3, fun c hc => ?_⟩
  obtain ⟨a, b, e, f⟩ := h4 c hc
  exact ⟨K c, T c, a, b, e, f, rfl⟩
theorem mK_of {p d pr n w : Nat} {K T G R : Nat → Nat} {u : SX} {τ : SM} (h : RelA p d pr n w K T G R u τ) : mK p d w K T τ := by
  obtain ⟨⟨⟨b1, b2, b3, b4, b5⟩, h1, h2, h3, h4, h5, h6, h7, h8, h9, h10, h11⟩, hR, hz, hm, hs, hF⟩ := h
  refine ⟨h2, h4, h9, fun c hc => ?_⟩
  obtain ⟨k1, k2, k3, -⟩ := hz c hc
  obtain ⟨m1, m2, m3⟩ := hm c hc
  exact ⟨k1, by omega, m1, m2⟩
theorem mK_T {p d w c v : Nat} {K T : Nat → Nat} {τ : SM} (h : mK p d w K T τ) (hv : v ≤ 20) : mK p d w K (va_up T c v) (updM τ 2 c (nI v)) := by
  obtain ⟨h1, h2, h3, h4⟩ := h
  refine ⟨h1, h2, h3, fun i hi => ?_⟩
  obtain ⟨a, b, e, f⟩ := h4 i hi
  show K i ≤ 2 ∧ va_up T c v i ≤ 20 ∧ va_up τ.2 2 (upd (τ.2 2) c (nI v)) 1 i = nI (K i) ∧ va_up τ.2 2 (upd (τ.2 2) c (nI v)) 2 i = nI (va_up T c v i)
  rw [va_up_ne _ _ (show 1 ≠ 2 by decide), va_up_self]
  by_cases q : i = c
  · rw [q, va_up_self, pk_us]; exact ⟨q ▸ a, hv, q ▸ e, rfl⟩
  · rw [va_up_ne _ _ q, pk_un q]; exact ⟨a, b, e, f⟩
theorem mK_K {p d w c v : Nat} {K T : Nat → Nat} {τ : SM} (h : mK p d w K T τ) (hv : v ≤ 2) : mK p d w (va_up K c v) T (updM τ 1 c (nI v)) := by
  obtain ⟨h1, h2, h3, h4⟩ := h
  refine ⟨h1, h2, h3, fun i hi => ?_⟩
  obtain ⟨a, b, e, f⟩ := h4 i hi
  show va_up K c v i ≤ 2 ∧ T i ≤ 20 ∧ va_up τ.2 1 (upd (τ.2 1) c (nI v)) 1 i = nI (va_up K c v i) ∧ va_up τ.2 1 (upd (τ.2 1) c (nI v)) 2 i = nI (T i)
  rw [va_up_ne _ _ (show 2 ≠ 1 by decide), va_up_self]
  by_cases q : i = c
  · rw [q, va_up_self, pk_us]; exact ⟨hv, q ▸ b, rfl, q ▸ f⟩
  · rw [va_up_ne _ _ q, pk_un q]; exact ⟨a, b, e, f⟩
theorem slK_T (K T : Nat → Nat) (c v : Nat) : slK K (va_up T c v) = va_up (slK K T) c (sK (K c) v) := by
  funext i
  unfold slK
  by_cases q : i = c
  · rw [q, va_up_self, va_up_self]
  · rw [va_up_ne _ _ q, va_up_ne _ _ q]
theorem slK_K (K T : Nat → Nat) (c v : Nat) : slK (va_up K c v) T = va_up (slK K T) c (sK v (T c)) := by
  funext i
  unfold slK
  by_cases q : i = c
  · rw [q, va_up_self, va_up_self]
  · rw [va_up_ne _ _ q, va_up_ne _ _ q]
theorem q_tk_loop {p d pr n w c : Nat} {K T G R : Nat → Nat} {u : SX} {τ : SM} (hA : RelA p d pr n w K T G R u τ) (hc : c < p) : ∀ f v s a m v0, 10 < v + f → 1 ≤ v → v ≤ 10 → dOK (va_up (slK K T) c m) p d w v0 → ∃ r v1, fX4_tickets_21 f (nI c) c s (nI v) (sU u v0) = some (r, sU u v1) ∧ fX5_tickets_22 f (nI c) (nI (T c)) s (nI v) (updM τ 2 c a) = some (r, τ) ∧ dF v1.2.2.2 := by
  have hK := mK_of hA
  have hB := dB_of hA
  obtain ⟨⟨⟨b1, b2, b3, b4, b5⟩, i1, i2, i3, i4, i5, i6, i7, i8, i9, -⟩, hR, hz, hm, hs, hF⟩ := hA
  obtain ⟨k1, k2, k3, k4, k5, k6, k7, k8⟩ := hz c hc
  obtain ⟨m1, m2, m3⟩ := hm c hc
  have hpw := b_pow p (by omega)
  have hx := ixc (show c < 6 by omega) (by omega)
  intro f
  induction f with
  | zero => intro v s a m v0 g1 g2 g3; omega
  | succ f ih =>
    intro v s a m v0 g1 g2 g3 hd
    rw [fX4_tickets_21, fX5_tickets_22, nI_clamp (show c < 2 ^ 31 by omega)]
    by_cases hv : v = 10
    · subst hv
      rw [if_pos (show (9 : Int32) < nI 10 by decide), if_pos (show (10 : Int32) ≤ nI 10 by decide), if_neg hx]
      refine ⟨s, v0, rfl, ?_, hd.2.2.2.2.2.2⟩
      show some (s, updM (updM τ 2 c a) 2 c (nI (T c))) = some (s, τ)
      rw [updM2, updMS m2]
    · rw [if_neg (show ¬ (9 : Int32) < nI v from (show ¬ nI 9 < nI v from nI_nlt (by omega) (by omega))), if_neg (show ¬ (10 : Int32) ≤ nI v from (show ¬ nI 10 ≤ nI v from nI_ge (by omega) (by omega))), if_neg hx]
      have hb := sK_b (k := K c) (t := v)
      obtain ⟨v', e1, e2⟩ := s_setSlips b1 hd hc (show sK (K c) v ≤ 200 by omega)
      rw [vup2] at e2
      have hB' := dB_up (m := sK (K c) v) hB.1 (by omega) hc (by omega) (by omega)
      have ca := c_all (u := sU u v') (R := R) hB' e2 b4 i7 (fun k hk => ⟨by have := (hR k hk).1; omega, (hR k hk).2.1⟩)
      have mo := mK_OK (mK_T (c := c) (v := v) hK (by omega))
      rw [slK_T] at mo
      have cm := m_canBe (τ := updM τ 2 c (nI v)) (R := R) hB' mo b4 i8 (fun k hk => ⟨by have := (hR k hk).1; omega, by
        show va_up τ.2 2 (upd (τ.2 2) c (nI v)) 7 k = nI (R k)
        rw [va_up_ne _ _ (show 7 ≠ 2 by decide)]; exact (hR k hk).2.2⟩)
      have st : ((updM τ 2 c a).1, va_up (updM τ 2 c a).2 2 (upd ((updM τ 2 c a).2 2) c (nI v))) = updM τ 2 c (nI v) := updM2 τ 2 c a (nI v)
      rw [st, cm, Option.bind_some]
      show ∃ r v1, ((fX4_slipsOf (u.2.2.1 c 0) (nI v)).bind _) = _ ∧ _
      rw [k5, c_slipsOf k1, Option.bind_some]
      show ∃ r v1, ((fX1_setSlips (nI c) (nI (sK (K c) v)) v0).bind _) = _ ∧ _
      rw [e1, Option.bind_some]
      show ∃ r v1, ((fX4_allReadingsCanBe (sU u v')).bind _) = _ ∧ _
      rw [ca, Option.bind_some]
      unfold fX4_tickets_59 fX5_tickets_53
      rw [nI_1, or0]
      by_cases q : t01 (cbn (fun k => Gs (va_up (slK K T) c (sK (K c) v)) (di (2 ^ p - 1) (R k)) (tk d (tot (va_up (slK K T) c (sK (K c) v)) p))) n) = 0
      · rw [if_pos q, if_pos q]
        exact ih (v + 1) s (nI v) _ v' (by omega) (by omega) (by omega) e2
      · rw [if_neg q, if_neg q]
        exact ih (v + 1) _ (nI v) _ v' (by omega) (by omega) (by omega) e2
theorem q_tickets {u : SX} {τ : SM} (h : Rel u τ) (x : Int32) : ∃ r u' τ', fX4_tickets x u = some (r, u') ∧ fX5_tickets x τ = some (r, τ') ∧ Rel u' τ' := by
  have hAll := h
  obtain ⟨p, d, pr, n, w, K, T, G, R, hA⟩ := h
  have hA' := hA
  obtain ⟨⟨⟨b1, b2, b3, b4, b5⟩, i1, i2, i3, -⟩, hR, hz, hm, hs, hF⟩ := hA
  unfold fX4_tickets fX5_tickets
  rcases who b1 x with ⟨c, hc, rfl, f1, f2⟩ | ⟨f1, f2⟩
  · obtain ⟨m1, m2, m3⟩ := hm c hc
    obtain ⟨v, v1, v2⟩ := s_fill b1 b2 b5 i1 i3 hz hF
    rw [f1 u i1, f2 τ i2, Option.bind_some, Option.bind_some, if_pos rfl, nI_clamp (by omega), if_neg (ixc (show c < 6 by omega) (by omega)), m2]
    show ∃ r u' τ', (if ¬ c < 6 then none else _) = some (r, u') ∧ _
    rw [if_neg (show ¬ ¬ c < 6 by omega), v1, Option.bind_some]
    rw [← vupS (slK K T) c] at v2
    obtain ⟨r, v', e1, e2, e3⟩ := q_tk_loop hA' hc fu 1 0 (τ.2 2 c) _ v (by unfold fu; omega) (by omega) (by omega) v2
    rw [updMS rfl] at e2
    exact ⟨r, _, _, e1, e2, rel_drum hAll e3⟩
  · rw [f1 u i1, f2 τ i2, Option.bind_some, Option.bind_some, if_neg n10]
    exact ⟨_, _, _, rfl, rfl, hAll⟩
theorem q_kd_loop {p d pr n w c : Nat} {K T G R : Nat → Nat} {u : SX} {τ : SM} (hA : RelA p d pr n w K T G R u τ) (hc : c < p) : ∀ f v s a m v0, 3 < v + f → v ≤ 3 → dOK (va_up (slK K T) c m) p d w v0 → ∃ r v1, fX4_kinds_21 f (nI c) c s (nI v) (sU u v0) = some (r, sU u v1) ∧ fX5_kinds_22 f (nI c) (nI (K c)) s (nI v) (updM τ 1 c a) = some (r, τ) ∧ dF v1.2.2.2 := by
  have hK := mK_of hA
  have hB := dB_of hA
  obtain ⟨⟨⟨b1, b2, b3, b4, b5⟩, i1, i2, i3, i4, i5, i6, i7, i8, i9, -⟩, hR, hz, hm, hs, hF⟩ := hA
  obtain ⟨k1, k2, k3, k4, k5, k6, k7, k8⟩ := hz c hc
  obtain ⟨m1, m2, m3⟩ := hm c hc
  have hpw := b_pow p (by omega)
  have hx := ixc (show c < 6 by omega) (by omega)
  intro f
  induction f with
  | zero => intro v s a m v0 g1 g2; omega
  | succ f ih =>
    intro v s a m v0 g1 g2 hd
    rw [fX4_kinds_21, fX5_kinds_22, nI_clamp (show c < 2 ^ 31 by omega)]
    by_cases hv : v = 3
    · subst hv
      rw [if_pos (show (2 : Int32) < nI 3 by decide), if_pos (show (3 : Int32) ≤ nI 3 by decide), if_neg hx]
      refine ⟨s, v0, rfl, ?_, hd.2.2.2.2.2.2⟩
      show some (s, updM (updM τ 1 c a) 1 c (nI (K c))) = some (s, τ)
      rw [updM2, updMS m1]
    · rw [if_neg (show ¬ (2 : Int32) < nI v from (show ¬ nI 2 < nI v from nI_nlt (by omega) (by omega))), if_neg (show ¬ (3 : Int32) ≤ nI v from (show ¬ nI 3 ≤ nI v from nI_ge (by omega) (by omega))), if_neg hx]
      have hb := sK_b (k := v) (t := T c)
      obtain ⟨v', e1, e2⟩ := s_setSlips b1 hd hc (show sK v (T c) ≤ 200 by omega)
      rw [vup2] at e2
      have hB' := dB_up (m := sK v (T c)) hB.1 (by omega) hc (by omega) (by omega)
      have ca := c_all (u := sU u v') (R := R) hB' e2 b4 i7 (fun k hk => ⟨by have := (hR k hk).1; omega, (hR k hk).2.1⟩)
      have mo := mK_OK (mK_K (c := c) (v := v) hK (by omega))
      rw [slK_K] at mo
      have cm := m_canBe (τ := updM τ 1 c (nI v)) (R := R) hB' mo b4 i8 (fun k hk => ⟨by have := (hR k hk).1; omega, by
        show va_up τ.2 1 (upd (τ.2 1) c (nI v)) 7 k = nI (R k)
        rw [va_up_ne _ _ (show 7 ≠ 1 by decide)]; exact (hR k hk).2.2⟩)
      have st : ((updM τ 1 c a).1, va_up (updM τ 1 c a).2 1 (upd ((updM τ 1 c a).2 1) c (nI v))) = updM τ 1 c (nI v) := updM2 τ 1 c a (nI v)
      rw [st, cm, Option.bind_some]
      show ∃ r v1, ((fX4_slipsOf (nI v) (u.2.2.1 c 1)).bind _) = _ ∧ _
      rw [k6, c_slipsOf (show v ≤ 2 by omega), Option.bind_some]
      show ∃ r v1, ((fX1_setSlips (nI c) (nI (sK v (T c))) v0).bind _) = _ ∧ _
      rw [e1, Option.bind_some]
      show ∃ r v1, ((fX4_allReadingsCanBe (sU u v')).bind _) = _ ∧ _
      rw [ca, Option.bind_some]
      unfold fX4_kinds_58 fX5_kinds_52
      rw [nI_1, or0]
      by_cases q : t01 (cbn (fun k => Gs (va_up (slK K T) c (sK v (T c))) (di (2 ^ p - 1) (R k)) (tk d (tot (va_up (slK K T) c (sK v (T c))) p))) n) = 0
      · rw [if_pos q, if_pos q]
        exact ih (v + 1) s (nI v) _ v' (by omega) (by omega) e2
      · rw [if_neg q, if_neg q]
        exact ih (v + 1) _ (nI v) _ v' (by omega) (by omega) e2
theorem q_kinds {u : SX} {τ : SM} (h : Rel u τ) (x : Int32) : ∃ r u' τ', fX4_kinds x u = some (r, u') ∧ fX5_kinds x τ = some (r, τ') ∧ Rel u' τ' := by
  have hAll := h
  obtain ⟨p, d, pr, n, w, K, T, G, R, hA⟩ := h
  have hA' := hA
  obtain ⟨⟨⟨b1, b2, b3, b4, b5⟩, i1, i2, i3, -⟩, hR, hz, hm, hs, hF⟩ := hA
  unfold fX4_kinds fX5_kinds
  rcases who b1 x with ⟨c, hc, rfl, f1, f2⟩ | ⟨f1, f2⟩
  · obtain ⟨m1, m2, m3⟩ := hm c hc
    obtain ⟨v, v1, v2⟩ := s_fill b1 b2 b5 i1 i3 hz hF
    rw [f1 u i1, f2 τ i2, Option.bind_some, Option.bind_some, if_pos rfl, nI_clamp (by omega), if_neg (ixc (show c < 6 by omega) (by omega)), m1]
    show ∃ r u' τ', (if ¬ c < 6 then none else _) = some (r, u') ∧ _
    rw [if_neg (show ¬ ¬ c < 6 by omega), v1, Option.bind_some]
    rw [← vupS (slK K T) c] at v2
    obtain ⟨r, v', e1, e2, e3⟩ := q_kd_loop hA' hc fu 0 0 (τ.2 1 c) _ v (by unfold fu; omega) (by omega) v2
    rw [updMS rfl] at e2
    exact ⟨r, _, _, e1, e2, rel_drum hAll e3⟩
  · rw [f1 u i1, f2 τ i2, Option.bind_some, Option.bind_some, if_neg n10]
    exact ⟨_, _, _, rfl, rfl, hAll⟩
theorem q_ct_loop {p d pr n w : Nat} {K T G R : Nat → Nat} {u : SX} {τ : SM} (hA : RelA p d pr n w K T G R u τ) : ∀ f v s a e v0, 7 < v + f → v ≤ 7 → dOK (slK K T) p e w v0 → ∃ r v1, fX4_counts_18 f s (nI v) (sU u v0) = some (r, sU u v1) ∧ fX5_counts_19 f (nI d) s (nI v) (upd τ.1 1 a, τ.2) = some (r, τ) ∧ dF v1.2.2.2 := by
  have hM := mOK_of hA
  have hB := dB_of hA
  obtain ⟨⟨⟨b1, b2, b3, b4, b5⟩, i1, i2, i3, i4, i5, i6, i7, i8, i9, -⟩, hR, hz, hm, hs, hF⟩ := hA
  have hpw := b_pow p (by omega)
  intro f
  induction f with
  | zero => intro v s a e v0 g1 g2; omega
  | succ f ih =>
    intro v s a e v0 g1 g2 hd
    rw [fX4_counts_18, fX5_counts_19]
    by_cases hv : v = 7
    · subst hv
      rw [if_pos (show (6 : Int32) < nI 7 by decide), if_pos (show (7 : Int32) ≤ nI 7 by decide)]
      refine ⟨s, v0, rfl, ?_, hd.2.2.2.2.2.2⟩
      show some (s, upd (upd τ.1 1 a) 1 (nI d), τ.2) = some (s, τ)
      rw [fa_upd_twice, fa_upd_same i4]
    · rw [if_neg (show ¬ (6 : Int32) < nI v from (show ¬ nI 6 < nI v from nI_nlt (by omega) (by omega))), if_neg (show ¬ (7 : Int32) ≤ nI v from (show ¬ nI 7 ≤ nI v from nI_ge (by omega) (by omega)))]
      obtain ⟨v', e1, e2⟩ := s_setDrawn (d' := v) (by omega) hd
      have hB' : dB (slK K T) p v w := ⟨b1, by omega, by omega, hB.1.2.2.2.1, hB.1.2.2.2.2⟩
      have ca := c_all (u := sU u v') (R := R) hB' e2 b4 i7 (fun k hk => ⟨by have := (hR k hk).1; omega, (hR k hk).2.1⟩)
      have mo : mOK (slK K T) p v w (upd τ.1 1 (nI v), τ.2) := by
        refine ⟨?_, ?_, ?_, hM.2.2.2⟩
        · show upd τ.1 1 (nI v) 3 = nI p
          rw [pk_un (by decide)]; exact i2
        · show upd τ.1 1 (nI v) 1 = nI v
          rw [pk_us]
        · show upd τ.1 1 (nI v) 7 = nI w
          rw [pk_un (by decide)]; exact i9
      have i8' : (upd τ.1 1 (nI v)) 17 = nI n := by rw [pk_un (by decide)]; exact i8
      have cm := m_canBe (τ := (upd τ.1 1 (nI v), τ.2)) (R := R) hB' mo b4 i8' (fun k hk => ⟨by have := (hR k hk).1; omega, (hR k hk).2.2⟩)
      have st : (upd (upd τ.1 1 a, τ.2).1 1 (nI v), (upd τ.1 1 a, τ.2).2) = (upd τ.1 1 (nI v), τ.2) := by
        show (upd (upd τ.1 1 a) 1 (nI v), τ.2) = _
        rw [fa_upd_twice]
      rw [st, cm, Option.bind_some]
      show ∃ r v1, ((fX1_setDrawn (nI v) v0).bind _) = _ ∧ _
      rw [e1, Option.bind_some]
      show ∃ r v1, ((fX4_allReadingsCanBe (sU u v')).bind _) = _ ∧ _
      rw [ca, Option.bind_some]
      unfold fX4_counts_45 fX5_counts_45
      rw [nI_1, or0]
      by_cases q : t01 (cbn (fun k => Gs (slK K T) (di (2 ^ p - 1) (R k)) (tk v (tot (slK K T) p))) n) = 0
      · rw [if_pos q, if_pos q]
        exact ih (v + 1) s (nI v) _ v' (by omega) (by omega) e2
      · rw [if_neg q, if_neg q]
        exact ih (v + 1) _ (nI v) _ v' (by omega) (by omega) e2
theorem q_counts {u : SX} {τ : SM} (h : Rel u τ) : ∃ r u' τ', fX4_counts u = some (r, u') ∧ fX5_counts τ = some (r, τ') ∧ Rel u' τ' := by
  have hAll := h
  obtain ⟨p, d, pr, n, w, K, T, G, R, hA⟩ := h
  have hA' := hA
  obtain ⟨⟨⟨b1, b2, b3, b4, b5⟩, i1, i2, i3, i4, -⟩, hR, hz, hm, hs, hF⟩ := hA
  unfold fX4_counts fX5_counts
  rw [i1, i2]
  by_cases q3 : nI p = 0
  · rw [if_pos q3, if_pos q3]
    exact ⟨_, _, _, rfl, rfl, hAll⟩
  · obtain ⟨v, v1, v2⟩ := s_fill b1 b2 b5 i1 i3 hz hF
    rw [if_neg q3, if_neg q3, v1, Option.bind_some, i4]
    obtain ⟨r, v', e1, e2, e3⟩ := q_ct_loop hA' fu 0 0 (τ.1 1) _ v (by unfold fu; omega) (by omega) v2
    rw [fa_upd_same rfl] at e2
    exact ⟨r, _, _, e1, e2, rel_drum hAll e3⟩
