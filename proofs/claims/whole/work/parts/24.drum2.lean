/-! all draws together; what else is asked of the drum, and how it is filled -/
theorem It_addf (f g : Nat → Int) : ∀ s n, It s (fun k => f k + g k) n = It s f n + It s g n
  | 0, _ => rfl
  | s + 1, 0 => by show It s (fun k => f k + g k) 0 = It s f 0 + It s g 0; exact It_addf f g s 0
  | s + 1, n + 1 => by
    show It s (fun k => f k + g k) (n + 1) + It s (fun k => f k + g k) n = (It s f (n + 1) + It s f n) + (It s g (n + 1) + It s g n)
    rw [It_addf f g s (n + 1), It_addf f g s n]; omega
theorem It_zero : ∀ s n, It s (fun _ => 0) n = 0
  | 0, _ => rfl
  | s + 1, 0 => It_zero s 0
  | s + 1, n + 1 => by show It s (fun _ => 0) (n + 1) + It s (fun _ => 0) n = 0; rw [It_zero s (n + 1), It_zero s n]; rfl
theorem It_si (f : Nat → Nat → Int) (s : Nat) : ∀ k n, It s (fun j => fb_si (fun S => f S j) k) n = fb_si (fun S => It s (f S) n) k
  | 0, n => It_zero s n
  | k + 1, n => by
    rw [fb_si_succ, ← It_si f s k n, ← It_addf]
    exact It_cong (fun j => by rw [fb_si_succ]) s n
theorem TF (sl : Nat → Nat) : ∀ m, m ≤ 6 → ∀ n, fb_sm (fun S => Fr sl S m n) (2 ^ m) = ch (tot sl m) n
  | 0, _, n => by
    show fb_sm (fun S => Fr sl S 0 n) (0 + 1) = ch 0 n
    rw [fb_sm_succ]
    show 0 + (if n = 0 then 1 else 0) = ch 0 n
    cases n with
    | zero => rfl
    | succ n => rfl
  | m + 1, hm, n => by
    have hpw := b_pow m (by omega)
    have p32 : 2 ^ m ≤ 32 := by
      have := b_pow (m + 1) (by omega)
      rw [Nat.pow_succ] at this
      omega
    rw [show 2 ^ (m + 1) = 2 ^ m + 2 ^ m by rw [Nat.pow_succ]; omega, fb_sm_split]
    have key : ((fb_sm (fun S => Fr sl S (m + 1) n) (2 ^ m) + fb_sm (fun k => Fr sl (2 ^ m + k) (m + 1) n) (2 ^ m) : Nat) : Int) = (ch (tot sl (m + 1)) n : Int) := by
      rw [Int.natCast_add, ← fb_si_nat, ← fb_si_nat, ← fb_si_add]
      have e : fb_si (fun k => ((Fr sl k (m + 1) n : Nat) : Int) + (Fr sl (2 ^ m + k) (m + 1) n : Int)) (2 ^ m) = fb_si (fun S => It (sl m) (fun j => (Fr sl S m j : Int)) n) (2 ^ m) := fb_si_cong (fun S hS => by
        have hb := bits_1 m (by omega) S (by omega) 0 (by omega) hS
        rw [Fr_no (by rw [hb.2.2]; decide), Fr_It hb.2.1]
        have c : ∀ j, Fr sl (2 ^ m + S) m j = Fr sl S m j := Fr_cong (fun c hc => (bits_1 m (by omega) S (by omega) c (by omega) hS).1 hc) (fun _ _ => rfl)
        rw [It_cong (fun j => by rw [c j]) (sl m) n, c n]
        omega)
      rw [e, ← It_si]
      have e2 : ∀ j, fb_si (fun S => (Fr sl S m j : Int)) (2 ^ m) = It (tot sl m) dl j := fun j => by
        rw [fb_si_nat, TF sl m (by omega) j, It_dl]
      rw [It_cong e2, ← It_add, It_dl]
      congr 2
      show sl m + tot sl m = fb_sm sl m + sl m
      unfold tot; omega
    exact Int.ofNat.inj key
theorem sm_rev (f : Nat → Nat) : ∀ N, fb_sm (fun S => f (N - 1 - S)) N = fb_sm f N
  | 0 => rfl
  | N + 1 => by
    rw [sm_first, fb_sm_succ, ← sm_rev f N]
    have e : fb_sm (fun k => f (N + 1 - 1 - (k + 1))) N = fb_sm (fun S => f (N - 1 - S)) N := fb_sm_cong (fun k _ => by rw [show N + 1 - 1 - (k + 1) = N - 1 - k by omega])
    rw [e]
    simp only [Nat.add_sub_cancel, Nat.sub_zero]
    omega
theorem b_compl_a : ∀ p, p < 7 → ∀ S, S < 2 ^ p → di (2 ^ p - 1) S = 2 ^ p - 1 - S := by decide +kernel
theorem b_compl : ∀ p, p < 7 → ∀ S, S < 64 → S < 2 ^ p → di (2 ^ p - 1) S = 2 ^ p - 1 - S := fun p hp S _ h => b_compl_a p hp S h
theorem PA_le {sl : Nat → Nat} {p d w : Nat} (hp : p ≤ 6) : PA sl p d w ≤ ch (tot sl p) (tk d (tot sl p)) := by
  have hpw := b_pow p (by omega)
  rw [← TF sl p hp, ← sm_rev (fun S => Fr sl S p (tk d (tot sl p)))]
  refine fb_sm_le (fun S hS => ?_)
  rw [b_compl p (by omega) S (by omega) hS, ← Gs_Fr hp (by omega) (by omega)]
  split <;> omega
theorem b200 : (200 : Nat) ^ 6 = 64000000000000 := by decide
theorem s_half {sl : Nat → Nat} {p d w : Nat} {u : SD} (hB : dB sl p d w) (h : dOK sl p d w u) : ∃ u', fX1_passesByHalf u = some ((if 2 * PA sl p d w < ch (tot sl p) (tk d (tot sl p)) then 0 else 1), u') ∧ dOK sl p d w u' := by
  obtain ⟨u', g1, g2⟩ := s_passing hB h
  refine ⟨u', ?_, g2⟩
  have h1 := PA_le (sl := sl) (d := d) (w := w) hB.1
  have h2 := ch_b hB.2.2.2.1 (show tk d (tot sl p) ≤ 6 by have := tk_le d (tot sl p); have := hB.2.1; omega)
  rw [b200] at h2
  unfold fX1_passesByHalf
  rw [g1, Option.bind_some]
  dsimp only
  rw [s_draws hB g2, Option.bind_some, show (2 : Int64) = lN 2 from rfl, lN_mul]
  by_cases hq : 2 * PA sl p d w < ch (tot sl p) (tk d (tot sl p))
  · rw [if_pos ((lcmp_lt (by rw [p63]; omega) (by rw [p63]; omega)).mpr hq), if_pos hq, if_neg (by decide)]
  · rw [if_neg (fun z => hq ((lcmp_lt (by rw [p63]; omega) (by rw [p63]; omega)).mp z)), if_neg hq, if_neg (by decide)]
theorem s_can_loop {sl : Nat → Nat} {p d w F : Nat} {u : SD} (hB : dB sl p d w) (h : dOK sl p d w u) (hF : F < 64) : ∀ f c, p < c + f → c ≤ p → fX1_canLeaveJust_14 f (nI F) (nI (ss sl F c)) (nI c) u = some (if pc F ≤ tk d (tot sl p) ∧ tk d (tot sl p) ≤ ss sl F p then 1 else 0) := by
  obtain ⟨h3, h4, h5, h6, hs, hp, hF'⟩ := h
  obtain ⟨b1, b2, b3, b4, b5⟩ := hB
  have htk := tk_le d (tot sl p)
  have sle : ∀ c, ss sl F c ≤ fb_sm sl c := by
    intro c
    induction c with
    | zero => exact Nat.le_refl _
    | succ c ih => show ss sl F c + (if bi F c then sl c else 0) ≤ fb_sm sl c + sl c; split <;> omega
  intro f
  induction f with
  | zero => intro c h1 h2; omega
  | succ f ih =>
    intro c h1 h2
    rw [fX1_canLeaveJust_14, h3]
    by_cases hc : p ≤ c
    · have e : c = p := by omega
      subst e
      have q := b_pc6 F hF
      have q2 := sle c
      have q3 : tot sl c = fb_sm sl c := rfl
      rw [if_pos (nI_le hc (by omega)), b_cnt F hF, Option.bind_some, s_taken h5 h6 b2 b4, Option.bind_some, z1]
      unfold fX1_canLeaveJust_71
      rw [z0]
      by_cases k1 : pc F ≤ tk d (tot sl c)
      · rw [if_neg (nI_nlt k1 (by omega)), Option.bind_some]
        by_cases k2 : tk d (tot sl c) ≤ ss sl F c
        · rw [if_neg (nI_nlt k2 (by omega)), if_pos ⟨k1, k2⟩]
        · rw [if_pos (nI_lt (by omega) (by omega)), if_neg (fun z => k2 z.2)]
      · rw [if_pos (nI_lt (by omega) (by omega)), if_neg (fun z => k1 z.1)]
    · have step := ih (c + 1) (by omega) (by omega)
      have es : ss sl F (c + 1) = ss sl F c + (if bi F c then sl c else 0) := rfl
      rw [if_neg (fun z => hc ((nI_leI (by omega) (by omega)).mp z))]
      by_cases hb : bi F c = true
      · unfold fX1_slipsOfOne fX1_canLeaveJust_42
        rw [if_pos ((b_shr F hF c (by omega)).mpr hb), if_neg (nI_pos (by omega)), if_neg (show ¬ (6 : Int32) ≤ nI c from (show ¬ nI 6 ≤ nI c from nI_ge (by omega) (by omega))), if_neg (ix (by omega) (by omega)), nI_clamp (by omega), hs c (by omega), Option.bind_some, nI_add, nI_1]
        rw [es, if_pos hb] at step
        exact step
      · unfold fX1_canLeaveJust_42
        rw [if_neg (fun z => hb ((b_shr F hF c (by omega)).mp z)), nI_1]
        rw [es, if_neg hb, Nat.add_zero] at step
        exact step
theorem pc_ss {F p : Nat} (hp : p ≤ 6) (h64 : F < 64) (hF : F < 2 ^ p) : ss (fun _ => 1) F p = pc F := by
  rw [b_pcs F h64]
  exact (ss_top hp (fun c h1 h2 => b_top p (by omega) F h64 hF c h2 h1)).symm
theorem s_can {sl : Nat → Nat} {p d w S : Nat} {u : SD} (hB : dB sl p d w) (h : dOK sl p d w u) (hS : S < 64) : fX1_canLeaveJust (nI S) u = some (if 0 < Gs sl (di (2 ^ p - 1) S) (tk d (tot sl p)) then 1 else 0) := by
  have hpw := b_pow p (by have := hB.1; omega)
  have hdl := b_dle (2 ^ p - 1) (by omega) S hS
  unfold fX1_canLeaveJust
  rw [s_everybody h.1 hB.1, Option.bind_some, b_di _ (by omega) _ hS]
  have e := s_can_loop hB h (F := di (2 ^ p - 1) S) (by omega) fu 0 (by have := hB.1; unfold fu; omega) (by omega)
  refine Eq.trans e ?_
  have k := Fr_pos (sl := sl) (S := di (2 ^ p - 1) S) (m := p) (n := tk d (tot sl p)) (fun c hc _ => hB.2.2.2.2 c hc)
  rw [pc_ss hB.1 (by omega) (by omega)] at k
  rw [Gs_Fr hB.1 (by omega) (by omega)]
  by_cases q : 0 < Fr sl (di (2 ^ p - 1) S) p (tk d (tot sl p))
  · rw [if_pos q, if_pos (k.mp q)]
  · rw [if_neg q, if_neg (fun z => q (k.mpr z))]
-- filling
theorem s_ssl_loop {c m : Nat} {a b : Nat → Int32} {P0 fr : Nat → Int64} (hc : c < 6) (hm : m ≤ 200) : ∀ f j P, 7 < j + f → j ≤ 7 → (∀ k, k < j → P (7 * c + k) = lN (ch m k)) → (∀ i, (i < 7 * c ∨ 7 * c + 7 ≤ i) → P i = P0 i) → ∃ P', fX1_setSlips_40 f (nI c) (nI m) (nI j) (a, b, P, fr) = some (a, b, P', fr) ∧ (∀ k, k < 7 → P' (7 * c + k) = lN (ch m k)) ∧ ∀ i, (i < 7 * c ∨ 7 * c + 7 ≤ i) → P' i = P0 i := by
  intro f
  induction f with
  | zero => intro j P h1 h2; omega
  | succ f ih =>
    intro j P h1 h2 h3 h4
    rw [fX1_setSlips_40]
    by_cases h : 7 ≤ j
    · exact ⟨P, by rw [if_pos (show (7 : Int32) ≤ nI j from (show nI 7 ≤ nI j from nI_le h (by omega)))], fun k hk => h3 k (by omega), h4⟩
    · have e1 : nI c * (7 : Int32) + nI j = nI (7 * c + j) := by
        rw [show (7 : Int32) = nI 7 from rfl, pk_mul, nI_add, Nat.mul_comm]
      rw [if_neg (show ¬ (7 : Int32) ≤ nI j from (show ¬ nI 7 ≤ nI j from nI_ge (by omega) (by omega))), e1, if_neg (show ¬ (42 : Int32) ≤ nI (7 * c + j) from (show ¬ nI 42 ≤ nI (7 * c + j) from nI_ge (by omega) (by omega))), s_choose hm (by omega), Option.bind_some, if_neg (ix (by omega) (by omega)), nI_clamp (by omega)]
      unfold fX1_setSlips_76
      rw [nI_1]
      refine ih (j + 1) (vp_updL P (7 * c + j) (lN (ch m j))) (by omega) (by omega) (fun k hk => ?_) (fun i hi => ?_)
      · unfold vp_updL
        by_cases hkj : k = j
        · rw [hkj, if_pos rfl]
        · rw [if_neg (by omega)]; exact h3 k (by omega)
      · unfold vp_updL
        rw [if_neg (by omega)]; exact h4 i hi
theorem s_ssl {c m : Nat} {u : SD} (hc : c < 6) (hm : m ≤ 200) : ∃ P', fX1_setSlips (nI c) (nI m) u = some (upd u.1 6 (u.1 6 + (nI m - u.2.1 c)), upd u.2.1 c (nI m), P', u.2.2.2) ∧ (∀ k, k < 7 → P' (7 * c + k) = lN (ch m k)) ∧ ∀ i, (i < 7 * c ∨ 7 * c + 7 ≤ i) → P' i = u.2.2.1 i := by
  obtain ⟨P', g1, g2, g3⟩ := s_ssl_loop (a := upd u.1 6 (u.1 6 + (nI m - u.2.1 c))) (b := upd u.2.1 c (nI m)) (P0 := u.2.2.1) (fr := u.2.2.2) hc hm fu 0 u.2.2.1 (by unfold fu; omega) (by omega) (fun k hk => by omega) (fun i _ => rfl)
  refine ⟨P', ?_, g2, g3⟩
  unfold fX1_setSlips
  rw [if_neg (nI_pos (by omega)), if_pos (show nI c < (6 : Int32) from (show nI c < nI 6 from nI_lt hc (by omega))), if_neg (ix hc (by omega)), if_neg (ix hc (by omega)), nI_clamp (by omega)]
  exact g1
theorem nI_tot {t m s : Nat} (h : s ≤ t) : nI t + (nI m - nI s) = nI (t + m - s) := by
  rw [Int32.sub_eq_add_neg, ← Int32.add_assoc, nI_add, ← Int32.sub_eq_add_neg, pk_sub (by omega)]
/-- another number of slips for one -/
theorem s_setSlips {sl : Nat → Nat} {p d w c m : Nat} {u : SD} (hp6 : p ≤ 6) (h : dOK sl p d w u) (hc : c < p) (hm : m ≤ 200) : ∃ u', fX1_setSlips (nI c) (nI m) u = some u' ∧ dOK (va_up sl c m) p d w u' := by
  obtain ⟨h3, h4, h5, h6, hs, hp, hF⟩ := h
  obtain ⟨P', g1, g2, g3⟩ := s_ssl (u := u) (show c < 6 by omega) hm
  refine ⟨_, g1, h3, h4, h5, ?_, ?_, ?_, hF⟩
  · show upd u.1 6 (u.1 6 + (nI m - u.2.1 c)) 6 = _
    have hge : sl c ≤ tot sl p := sm_ge hc
    have e : tot (va_up sl c m) p + sl c = tot sl p + m := fb_sm_upd sl m hc
    rw [pk_us, h6, hs c hc, nI_tot hge]
    congr 1
    omega
  · intro i hi
    show upd u.2.1 c (nI m) i = nI (va_up sl c m i)
    by_cases hic : i = c
    · rw [hic, pk_us, va_up_self]
    · rw [pk_un hic, va_up_ne _ _ hic]; exact hs i hi
  · intro i hi k hk
    show P' (7 * i + k) = _
    by_cases hic : i = c
    · rw [hic, va_up_self]; exact g2 k hk
    · rw [va_up_ne _ _ hic, g3 _ (by omega)]; exact hp i hi k hk
theorem s_setDrawn {sl : Nat → Nat} {p d d' w : Nat} {u : SD} (hd : d' ≤ 6) (h : dOK sl p d w u) : ∃ u', fX1_setDrawn (nI d') u = some u' ∧ dOK sl p d' w u' := by
  obtain ⟨h3, h4, h5, h6, hs, hp, hF⟩ := h
  refine ⟨_, rfl, h3, h4, ?_, h6, hs, hp, hF⟩
  show upd u.1 5 _ 5 = nI d'
  rw [pk_us]
  have : ∀ d', d' < 7 → (if (0 : Int32) < (if (6 : Int32) < nI d' then (6 : Int32) else nI d') then (if (6 : Int32) < nI d' then (6 : Int32) else nI d') else (0 : Int32)) = nI d' := by decide +kernel
  exact this d' (by omega)
/-- w with c in it, or not -/
def setw (w c : Nat) (b : Bool) : Nat := if b then w ||| 2 ^ c else di w (2 ^ c)
theorem b_setw : ∀ w, w < 64 → ∀ c, c < 6 → nI w ||| ((1 : Int32) <<< (nI c &&& 31)) = nI (w ||| 2 ^ c) ∧ nI w &&& (((1 : Int32) <<< (nI c &&& 31)) ^^^ (-1)) = nI (di w (2 ^ c)) ∧ w ||| 2 ^ c < 64 ∧ di w (2 ^ c) < 64 := by decide +kernel
theorem setw_lt {w c : Nat} (hw : w < 64) (hc : c < 6) (b : Bool) : setw w c b < 64 := by
  obtain ⟨-, -, h1, h2⟩ := b_setw w hw c hc
  unfold setw; split <;> assumption
theorem s_setWishes {sl : Nat → Nat} {p d w c : Nat} {u : SD} {x : Int32} (hw : w < 64) (hc : c < 6) (h : dOK sl p d w u) : ∃ u', fX1_setWishes (nI c) x u = some u' ∧ dOK sl p d (setw w c (decide (¬ x = 0))) u' := by
  obtain ⟨h3, h4, h5, h6, hs, hp, hF⟩ := h
  obtain ⟨e1, e2, -, -⟩ := b_setw w hw c hc
  unfold fX1_setWishes fX1_setWishes_26
  rw [h4]
  by_cases hx : x = 0
  · rw [if_pos hx, e2]
    refine ⟨_, rfl, h3, ?_, h5, h6, hs, hp, hF⟩
    unfold setw
    rw [if_neg (by simp [hx])]
    show upd u.1 4 (nI (di w (2 ^ c))) 4 = nI (di w (2 ^ c))
    rw [pk_us]
  · rw [if_neg hx, e1]
    refine ⟨_, rfl, h3, ?_, h5, h6, hs, hp, hF⟩
    unfold setw
    rw [if_pos (by simp [hx])]
    show upd u.1 4 (nI (w ||| 2 ^ c)) 4 = nI (w ||| 2 ^ c)
    rw [pk_us]
