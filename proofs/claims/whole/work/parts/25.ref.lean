/-! what the reference's own functions answer -/
theorem ixc {a N : Nat} (h : a < N) (hN : N ≤ 1000) : ¬ (nI a < 0 ∨ N ≤ a) := fun z => z.elim (nI_pos (by omega)) (fun q => by omega)
def sK (k t : Nat) : Nat := if k = 0 then t else if k = 1 then t + 1 else 2 * (t + 1)
theorem sK_b {k t : Nat} : t ≤ sK k t ∧ sK k t ≤ 2 * (t + 1) := by
  unfold sK
  split
  · omega
  · split <;> omega
def mOK (sl : Nat → Nat) (p d w : Nat) (τ : SM) : Prop := τ.1 3 = nI p ∧ τ.1 1 = nI d ∧ τ.1 7 = nI w ∧ ∀ c, c < p → ∃ k t, k ≤ 2 ∧ t ≤ 20 ∧ τ.2 1 c = nI k ∧ τ.2 2 c = nI t ∧ sl c = sK k t
theorem m_slipsOf {sl : Nat → Nat} {p d w c : Nat} {τ : SM} (hp : p ≤ 6) (h : mOK sl p d w τ) (hc : c < p) : fX5_slipsOf (nI c) τ = some (nI (sl c)) := by
  obtain ⟨-, -, -, hs⟩ := h
  obtain ⟨k, t, hk, ht, e1, e2, e3⟩ := hs c hc
  unfold fX5_slipsOf
  have hx := ixc (show c < 6 by omega) (by omega)
  rw [nI_clamp (by omega), if_neg hx, if_neg hx, e1, e2, e3]
  rcases (show k = 0 ∨ k = 1 ∨ k = 2 by omega) with rfl | rfl | rfl
  · rw [if_pos (show nI 0 = 0 from rfl)]; rfl
  · rw [if_neg (show ¬ nI 1 = 0 by decide), if_neg hx, if_pos (show nI 1 = (1 : Int32) from rfl), nI_1]; rfl
  · rw [if_neg (show ¬ nI 2 = 0 by decide), if_neg hx, if_neg (show ¬ nI 2 = (1 : Int32) by decide), nI_1, show (2 : Int32) = nI 2 from rfl, pk_mul]; rfl
theorem m_all_loop {sl : Nat → Nat} {p d w S : Nat} {τ : SM} (hp : p ≤ 6) (h : mOK sl p d w τ) (hS : S < 64) : ∀ f c, p < c + f → c ≤ p → fX5_slipsOfAll_4 f (nI S) (nI (ss sl S c)) (nI c) τ = some (nI (ss sl S p)) := by
  intro f
  induction f with
  | zero => intro c h1 h2; omega
  | succ f ih =>
    intro c h1 h2
    rw [fX5_slipsOfAll_4, h.1]
    by_cases hc : p ≤ c
    · rw [if_pos (nI_le hc (by omega)), show c = p by omega]
    · have step := ih (c + 1) (by omega) (by omega)
      have es : ss sl S (c + 1) = ss sl S c + (if bi S c then sl c else 0) := rfl
      rw [if_neg (fun z => hc ((nI_leI (by omega) (by omega)).mp z)), b_isIn S hS c (by omega), Option.bind_some]
      by_cases hb : bi S c = true
      · rw [if_pos hb, if_neg (show ¬ nI 1 = 0 by decide), m_slipsOf hp h (by omega), Option.bind_some]
        unfold fX5_slipsOfAll_30
        rw [nI_add, nI_1]
        rw [es, if_pos hb] at step
        exact step
      · rw [if_neg hb, if_pos (show nI 0 = 0 from rfl)]
        unfold fX5_slipsOfAll_30
        rw [show (0 : Int32) = nI 0 from rfl, nI_add, nI_1]
        rw [es, if_neg hb] at step
        exact step
theorem m_slipsAll {sl : Nat → Nat} {p d w S : Nat} {τ : SM} (hp : p ≤ 6) (h : mOK sl p d w τ) (hS : S < 64) : fX5_slipsOfAll (nI S) τ = some (nI (ss sl S p)) := m_all_loop hp h hS fu 0 (by unfold fu; omega) (by omega)
theorem m_every {sl : Nat → Nat} {p d w : Nat} {τ : SM} (hp : p ≤ 6) (h : mOK sl p d w τ) : fX5_everybody τ = some (nI (2 ^ p - 1)) := by
  unfold fX5_everybody
  rw [h.1, b_ev p (by omega)]
theorem m_tot {sl : Nat → Nat} {p d w : Nat} {τ : SM} (hp : p ≤ 6) (h : mOK sl p d w τ) : fX5_slipsOfAll (nI (2 ^ p - 1)) τ = some (nI (tot sl p)) := by
  have := b_pow p (by omega)
  rw [m_slipsAll hp h (by omega), tot_full hp]
theorem m_drawnOf {sl : Nat → Nat} {p d w t : Nat} {τ : SM} (hd : d ≤ 6) (ht : t ≤ 1000) (h : mOK sl p d w τ) : fX5_drawnOf (nI t) τ = some (nI (tk d t)) := by
  unfold fX5_drawnOf tk
  rw [h.2.1]
  by_cases q : t ≤ d
  · rw [if_pos (nI_le q (by omega))]
    split
    · rfl
    · rw [show t = d by omega]
  · rw [if_neg (fun z => q ((nI_leI (by omega) (by omega)).mp z)), if_neg (by omega)]
theorem m_all {sl : Nat → Nat} {p d w : Nat} {τ : SM} (hB : dB sl p d w) (h : mOK sl p d w τ) : fX5_allDraws τ = some (lN (ch (tot sl p) (tk d (tot sl p)))) := by
  obtain ⟨b1, b2, b3, b4, b5⟩ := hB
  have htk := tk_le d (tot sl p)
  unfold fX5_allDraws
  rw [m_every b1 h, Option.bind_some, m_tot b1 h, Option.bind_some, m_drawnOf b2 (by omega) h, Option.bind_some, s_ways b4 (by omega), Option.bind_some]
theorem m_without {sl : Nat → Nat} {p d w c : Nat} {τ : SM} (hB : dB sl p d w) (h : mOK sl p d w τ) (hc : c < p) : fX5_drawsWithout (nI c) τ = some (lN (ch (tot sl p - sl c) (tk d (tot sl p)))) := by
  obtain ⟨b1, b2, b3, b4, b5⟩ := hB
  have htk := tk_le d (tot sl p)
  have hge : sl c ≤ tot sl p := sm_ge hc
  unfold fX5_drawsWithout
  rw [m_every b1 h, Option.bind_some, m_tot b1 h, Option.bind_some, m_slipsOf b1 h hc, Option.bind_some, m_drawnOf b2 (by omega) h, Option.bind_some, pk_sub hge, s_ways (by omega) (by omega), Option.bind_some]
theorem zN (n : Nat) : Int64.ofInt (n : Int) = lN n := Int64.ofInt_eq_ofNat
theorem b_par : ∀ n, n < 7 → decide (nI n - nI n / (2 : Int32) * (2 : Int32) = 0) = decide (n % 2 = 0) := by decide +kernel
theorem ss_le {sl : Nat → Nat} {S : Nat} : ∀ m, ss sl S m ≤ tot sl m
  | 0 => Nat.le_refl _
  | m + 1 => by
    have := ss_le (sl := sl) (S := S) m
    have e : tot sl (m + 1) = tot sl m + sl m := rfl
    show ss sl S m + (if bi S m then sl m else 0) ≤ _
    split <;> omega
theorem m_dof_loop {sl : Nat → Nat} {p d w O t : Nat} {τ : SM} (hB : dB sl p d w) (h : mOK sl p d w τ) (hO : O < 2 ^ p) (ht : t ≤ 6) : ∀ f k, O + 1 < k + f → k ≤ O + 1 → fX5_drawsOf_28 f (nI O) (nI t) (Int64.ofInt (fb_si (term sl O p 0 t) k)) (nI k) τ = some (Int64.ofInt (fb_si (term sl O p 0 t) (O + 1))) := by
  obtain ⟨b1, b2, b3, b4, b5⟩ := hB
  have hpw := b_pow p (by omega)
  intro f
  induction f with
  | zero => intro k h1 h2; omega
  | succ f ih =>
    intro k h1 h2
    rw [fX5_drawsOf_28]
    by_cases hk : O < k
    · rw [if_pos (nI_lt hk (by omega)), show k = O + 1 by omega]
    · have step := ih (k + 1) (by omega) (by omega)
      rw [fb_si_succ] at step
      have hsk := ss_le (sl := sl) (S := k) p
      have hdl := b_dle O (by omega) k (by omega)
      have hdk := b_dle k (by omega) O (by omega)
      have hp6 := b_pc6 (di O k) (by omega)
      rw [if_neg (nI_nlt (by omega) (by omega)), b_di k (by omega) O (by omega)]
      have et : term sl O p 0 t k = if di k O = 0 then sgn (pc (di O k)) * (ch (ss sl k p) t : Int) else 0 := by
        unfold term
        rw [Nat.mod_eq_of_lt hO, Nat.zero_add]
      rw [et] at step
      by_cases hd : di k O = 0
      · rw [if_pos (show nI (di k O) = 0 by rw [hd]; rfl), m_slipsAll b1 h (by omega), Option.bind_some, s_ways (by omega) ht, Option.bind_some, b_di O (by omega) k (by omega), b_bits _ (by omega), Option.bind_some, if_neg (show ¬ (2 : Int32) = 0 by decide)]
        rw [if_pos hd] at step
        have hpar := b_par (pc (di O k)) (by omega)
        unfold fX5_drawsOf_79 fX5_drawsOf_82
        rw [nI_1]
        by_cases hq : pc (di O k) % 2 = 0
        · rw [if_pos (by rw [decide_eq_true hq] at hpar; exact of_decide_eq_true hpar), ← zN, ← Int64.ofInt_add]
          rw [show sgn (pc (di O k)) = 1 from if_pos hq, Int.one_mul] at step
          exact step
        · rw [if_neg (by rw [decide_eq_false hq] at hpar; exact of_decide_eq_false hpar), ← zN, ← Int64.ofInt_neg, ← Int64.ofInt_add]
          rw [show sgn (pc (di O k)) = -1 from if_neg hq, Int.neg_mul, Int.one_mul] at step
          exact step
      · rw [if_neg (nI_ne0 (Nat.pos_of_ne_zero hd) (by omega))]
        unfold fX5_drawsOf_82
        rw [if_neg hd, Int.add_zero] at step
        rw [nI_1]
        exact step
theorem m_drawsOf {sl : Nat → Nat} {p d w S : Nat} {τ : SM} (hB : dB sl p d w) (h : mOK sl p d w τ) (hS : S < 64) : fX5_drawsOf (nI S) τ = some (lN (Gs sl (di (2 ^ p - 1) S) (tk d (tot sl p)))) := by
  have hB' := hB
  obtain ⟨b1, b2, b3, b4, b5⟩ := hB
  have hpw := b_pow p (by omega)
  have htk := tk_le d (tot sl p)
  have hdl := b_dle (2 ^ p - 1) (by omega) S hS
  unfold fX5_drawsOf
  rw [m_every b1 h, Option.bind_some, Option.bind_some, m_tot b1 h, Option.bind_some, m_drawnOf b2 (by omega) h, Option.bind_some, b_di _ (by omega) S hS]
  have e := m_dof_loop hB' h (O := di (2 ^ p - 1) S) (t := tk d (tot sl p)) (by omega) (by omega) fu 0 (by unfold fu; omega) (by omega)
  rw [inex sl b1 (by omega), zN, ← Gs_Fr b1 (by omega) (by omega)] at e
  exact e
theorem m_doesPass {sl : Nat → Nat} {p d w S : Nat} {τ : SM} (hw : w < 64) (h : mOK sl p d w τ) (hS : S < 64) : fX5_doesPass (nI S) τ = some (if pw S w then 1 else 0) := by
  unfold fX5_doesPass
  have q1 := b_pc6 (di S w) (by have := b_dle S hS w hw; omega)
  have q2 := b_pc6 (S &&& w) (b_and64 S hS w hw)
  rw [h.2.2.1, fa_and, b_bits _ (b_and64 S hS w hw), Option.bind_some, b_di S hS w hw, b_bits _ (by have := b_dle S hS w hw; omega), Option.bind_some, z0, z1]
  unfold pw
  by_cases h : pc (di S w) < pc (S &&& w)
  · rw [if_neg (nI_ge h (by omega)), if_pos (by simp [h])]
  · rw [if_pos (nI_le (by omega) (by omega)), if_neg (by simp [h])]
theorem m_pd_loop {sl : Nat → Nat} {p d w : Nat} {τ : SM} (hB : dB sl p d w) (h : mOK sl p d w τ) : ∀ f k, 2 ^ p < k + f → k ≤ 2 ^ p → fX5_passingDraws_4 f (lN (fb_sm (fun S => if pw S w then Gs sl (di (2 ^ p - 1) S) (tk d (tot sl p)) else 0) k)) (nI k) τ = some (lN (PA sl p d w)) := by
  have hpw := b_pow p (by have := hB.1; omega)
  intro f
  induction f with
  | zero => intro k h1 h2; omega
  | succ f ih =>
    intro k h1 h2
    rw [fX5_passingDraws_4, m_every hB.1 h, Option.bind_some]
    by_cases hk : 2 ^ p - 1 < k
    · rw [if_pos (nI_lt hk (by omega)), show k = 2 ^ p by omega]; rfl
    · have step := ih (k + 1) (by omega) (by omega)
      rw [fb_sm_succ] at step
      rw [if_neg (nI_nlt (by omega) (by omega)), m_doesPass hB.2.2.1 h (by omega), Option.bind_some]
      by_cases hq : pw k w = true
      · rw [if_pos hq, if_neg (by decide), m_drawsOf hB h (by omega), Option.bind_some]
        unfold fX5_passingDraws_30
        rw [lN_add, nI_1]
        rw [if_pos hq] at step
        exact step
      · rw [if_neg hq, if_pos rfl]
        unfold fX5_passingDraws_30
        rw [show (0 : Int64) = lN 0 from rfl, lN_add, nI_1]
        rw [if_neg hq] at step
        exact step
theorem m_passing {sl : Nat → Nat} {p d w : Nat} {τ : SM} (hB : dB sl p d w) (h : mOK sl p d w τ) : fX5_passingDraws τ = some (lN (PA sl p d w)) := m_pd_loop hB h fu 0 (by have := b_pow p (by have := hB.1; omega); unfold fu; omega) (Nat.zero_le _)
theorem m_likely {sl : Nat → Nat} {p d w : Nat} {τ : SM} (hB : dB sl p d w) (h : mOK sl p d w τ) : fX5_isLikely τ = some (if 2 * PA sl p d w < ch (tot sl p) (tk d (tot sl p)) then 0 else 1) := by
  have h1 := PA_le (sl := sl) (d := d) (w := w) hB.1
  have h2 := ch_b hB.2.2.2.1 (show tk d (tot sl p) ≤ 6 by have := tk_le d (tot sl p); have := hB.2.1; omega)
  rw [b200] at h2
  unfold fX5_isLikely
  rw [m_passing hB h, Option.bind_some, m_all hB h, Option.bind_some, show (2 : Int64) = lN 2 from rfl, lN_mul, z0, z1]
  by_cases hq : 2 * PA sl p d w < ch (tot sl p) (tk d (tot sl p))
  · rw [if_pos ((lcmp_lt (by rw [p63]; omega) (by rw [p63]; omega)).mpr hq), if_pos hq]
  · rw [if_neg (fun z => hq ((lcmp_lt (by rw [p63]; omega) (by rw [p63]; omega)).mp z)), if_neg hq]
theorem Gs_63 {sl : Nat → Nat} {p d w S : Nat} (hB : dB sl p d w) (hS : S < 64) : Gs sl (di (2 ^ p - 1) S) (tk d (tot sl p)) < 2 ^ 63 := by
  obtain ⟨b1, b2, b3, b4, b5⟩ := hB
  have hpw := b_pow p (by omega)
  have htk := tk_le d (tot sl p)
  have hdl := b_dle (2 ^ p - 1) (by omega) S hS
  have h2 := ch_b b4 (show tk d (tot sl p) ≤ 6 by omega)
  rw [b200] at h2
  have e := TF sl p b1 (tk d (tot sl p))
  have g := sm_ge (f := fun S => Fr sl S p (tk d (tot sl p))) (show di (2 ^ p - 1) S < 2 ^ p by omega)
  rw [Gs_Fr b1 (by omega) (by omega), p63]
  have g2 : Fr sl (di (2 ^ p - 1) S) p (tk d (tot sl p)) ≤ fb_sm (fun S => Fr sl S p (tk d (tot sl p))) (2 ^ p) := g
  omega
theorem lcmp_le0 {a : Nat} (ha : a < 2 ^ 63) : lg_cmp (lN a) 0 ≤ 0 ↔ a ≤ 0 := lcmp_le (b := 0) ha (by decide)
/-- all of the first n can be -/
def cbn (G : Nat → Nat) : Nat → Bool
  | 0 => true
  | n + 1 => cbn G n && decide (0 < G n)
theorem cbn_no {G : Nat → Nat} {k : Nat} (h : cbn G k = false) : ∀ {n : Nat}, k ≤ n → cbn G n = false
  | 0, hk => by rw [show k = 0 by omega] at h; exact h
  | n + 1, hk => by
    rcases Nat.lt_or_ge n k with q | q
    · rw [show n + 1 = k by omega]; exact h
    · show (cbn G n && decide (0 < G n)) = false
      rw [cbn_no h q]; rfl
theorem t01_and (b : Bool) : (if ¬ (t01 b &&& 1 = t01 b) then none else some (t01 b)) = some (t01 b) := by cases b <;> decide
theorem m_can_loop {sl : Nat → Nat} {p d w n : Nat} {R : Nat → Nat} {τ : SM} (hB : dB sl p d w) (h : mOK sl p d w τ) (hn : n ≤ 8) (h17 : τ.1 17 = nI n) (hR : ∀ k, k < n → R k < 64 ∧ τ.2 7 k = nI (R k)) : ∀ f k, n < k + f → k ≤ n → fX5_canBe_4 f (t01 (cbn (fun k => Gs sl (di (2 ^ p - 1) (R k)) (tk d (tot sl p))) k)) (nI k) τ = some (t01 (cbn (fun k => Gs sl (di (2 ^ p - 1) (R k)) (tk d (tot sl p))) n)) := by
  intro f
  induction f with
  | zero => intro k h1 h2; omega
  | succ f ih =>
    intro k h1 h2
    rw [fX5_canBe_4, h17]
    by_cases hk : n ≤ k
    · rw [if_pos (nI_le hk (by omega)), show k = n by omega, t01_and]
    · have step := ih (k + 1) (by omega) (by omega)
      rw [if_neg (fun z => hk ((nI_leI (by omega) (by omega)).mp z))]
      obtain ⟨r1, r2⟩ := hR k (by omega)
      have ec : cbn (fun k => Gs sl (di (2 ^ p - 1) (R k)) (tk d (tot sl p))) (k + 1) = (cbn (fun k => Gs sl (di (2 ^ p - 1) (R k)) (tk d (tot sl p))) k && decide (0 < Gs sl (di (2 ^ p - 1) (R k)) (tk d (tot sl p)))) := rfl
      rw [ec] at step
      unfold fX5_canBe_35 fX5_canBe_36
      rw [nI_1]
      cases hb : cbn (fun k => Gs sl (di (2 ^ p - 1) (R k)) (tk d (tot sl p))) k with
      | false =>
        rw [hb, Bool.false_and] at step
        rw [if_pos (show t01 false = 0 from rfl)]
        exact step
      | true =>
        rw [hb, Bool.true_and] at step
        have hg : Gs sl (di (2 ^ p - 1) (R k)) (tk d (tot sl p)) < 2 ^ 63 := Gs_63 hB r1
        rw [if_neg (show ¬ t01 true = 0 by decide), if_neg (ix (by omega) (by omega)), nI_clamp (by omega), r2, m_drawsOf hB h r1, Option.bind_some]
        by_cases hq : 0 < Gs sl (di (2 ^ p - 1) (R k)) (tk d (tot sl p))
        · rw [if_neg (fun z => by have := (lcmp_le0 hg).mp z; omega)]
          rw [decide_eq_true hq] at step
          exact step
        · rw [if_pos ((lcmp_le0 hg).mpr (by omega))]
          rw [decide_eq_false hq] at step
          exact step
theorem m_canBe {sl : Nat → Nat} {p d w n : Nat} {R : Nat → Nat} {τ : SM} (hB : dB sl p d w) (h : mOK sl p d w τ) (hn : n ≤ 8) (h17 : τ.1 17 = nI n) (hR : ∀ k, k < n → R k < 64 ∧ τ.2 7 k = nI (R k)) : fX5_canBe τ = some (t01 (cbn (fun k => Gs sl (di (2 ^ p - 1) (R k)) (tk d (tot sl p))) n)) := m_can_loop hB h hn h17 hR fu 0 (by unfold fu; omega) (by omega)
