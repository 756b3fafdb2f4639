/-! small sets: what is asked of them is looked through -/
theorem b_cnt : ∀ n, n < 64 → fJ6_bitCount_0f7a4 (nI n) = some (nI (pc n)) := by decide +kernel
theorem b_bits : ∀ n, n < 64 → fX5_bits (nI n) = some (nI (pc n)) := by decide +kernel
theorem b_di : ∀ a, a < 64 → ∀ b, b < 64 → nI a &&& (nI b ^^^ (-1)) = nI (di a b) := by decide +kernel
theorem b_ev : ∀ p, p < 7 → ((1 : Int32) <<< (nI p &&& 31)) - 1 = nI (2 ^ p - 1) := by decide +kernel
theorem b_shl : ∀ c, c < 10 → (1 : Int32) <<< (nI c &&& 31) = nI (2 ^ c) := by decide +kernel
theorem b_isIn : ∀ S, S < 64 → ∀ c, c < 6 → fX5_isIn (nI S) (nI c) = some (nI (if bi S c then 1 else 0)) := by decide +kernel
theorem b_shr_a : ∀ S, S < 64 → ∀ c, c < 6 → decide ((nI S >>> (nI c &&& 31)) &&& 1 = 1) = bi S c := by decide +kernel
theorem b_shr : ∀ S, S < 64 → ∀ c, c < 6 → ((nI S >>> (nI c &&& 31)) &&& 1 = 1 ↔ bi S c = true) := fun S hS c hc => by rw [← b_shr_a S hS c hc, decide_eq_true_eq]
theorem b_dle : ∀ a, a < 64 → ∀ b, b < 64 → di a b ≤ a := by decide +kernel
theorem b_pc6 : ∀ n, n < 64 → pc n ≤ 6 := by decide +kernel
theorem b_pow : ∀ p, p < 7 → 0 < 2 ^ p ∧ 2 ^ p ≤ 64 := by decide +kernel
theorem b_full_a : ∀ p, p < 7 → ∀ c, c < p → bi (2 ^ p - 1) c = true := by decide +kernel
theorem b_full : ∀ p, p < 7 → ∀ c, c < 6 → c < p → bi (2 ^ p - 1) c = true := fun p hp c _ h => b_full_a p hp c h
theorem b_or1_a : ∀ l, l < 6 → ∀ o, o < 2 ^ l → nI o ||| ((1 : Int32) <<< (nI l &&& 31)) = nI (2 ^ l + o) ∧ pc (2 ^ l + o) = pc o + 1 ∧ 2 ^ l + o < 64 := by decide +kernel
theorem b_or1 : ∀ l, l < 6 → ∀ o, o < 64 → o < 2 ^ l → nI o ||| ((1 : Int32) <<< (nI l &&& 31)) = nI (2 ^ l + o) ∧ pc (2 ^ l + o) = pc o + 1 ∧ 2 ^ l + o < 64 := fun l hl o _ h => b_or1_a l hl o h
theorem b_top_a : ∀ m, m < 7 → ∀ S, S < 2 ^ m → ∀ c, c < 6 → (decide (c < m) || !bi S c) = true := by decide +kernel
theorem b_top : ∀ m, m < 7 → ∀ S, S < 64 → S < 2 ^ m → ∀ c, c < 6 → m ≤ c → bi S c = false := fun m hm S _ hS c hc h => by
  have k := b_top_a m hm S hS c hc
  rw [decide_eq_false (by omega : ¬ c < m), Bool.false_or, Bool.not_eq_true'] at k
  exact k
theorem b_pcs : ∀ S, S < 64 → pc S = ss (fun _ => 1) S 6 := by decide +kernel
theorem b_and64 : ∀ a, a < 64 → ∀ b, b < 64 → a &&& b < 64 := by decide +kernel
theorem Fr_top {sl : Nat → Nat} {S m : Nat} : ∀ {M : Nat}, m ≤ M → (∀ c, m ≤ c → c < M → bi S c = false) → ∀ n, Fr sl S M n = Fr sl S m n
  | 0, h, _, _ => by rw [show m = 0 by omega]
  | M + 1, h, hz, n => by
    rcases Nat.lt_or_ge M m with q | q
    · rw [show m = M + 1 by omega]
    · rw [Fr_no (by rw [hz M q (by omega)]; decide), Fr_top q (fun c h1 h2 => hz c h1 (by omega))]
theorem ss_top {sl : Nat → Nat} {S m : Nat} : ∀ {M : Nat}, m ≤ M → (∀ c, m ≤ c → c < M → bi S c = false) → ss sl S M = ss sl S m
  | 0, h, _ => by rw [show m = 0 by omega]
  | M + 1, h, hz => by
    rcases Nat.lt_or_ge M m with q | q
    · rw [show m = M + 1 by omega]
    · show ss sl S M + (if bi S M then sl M else 0) = _
      rw [hz M q (by omega), ss_top q (fun c h1 h2 => hz c h1 (by omega))]; simp
theorem Fr_small {sl : Nat → Nat} {S : Nat} : ∀ {m n : Nat}, n < ss (fun _ => 1) S m → Fr sl S m n = 0
  | 0, n, h => absurd h (by show ¬ n < 0; omega)
  | m + 1, n, h => by
    have h' : n < ss (fun _ => 1) S m + (if bi S m then 1 else 0) := h
    by_cases hb : bi S m = true
    · rw [if_pos hb] at h'
      show (if bi S m then fb_sm (fun k => ch (sl m) (k + 1) * Fr sl S m (n - (k + 1))) n else Fr sl S m n) = 0
      rw [if_pos hb]
      have e : fb_sm (fun k => ch (sl m) (k + 1) * Fr sl S m (n - (k + 1))) n = fb_sm (fun _ => 0) n := fb_sm_cong (fun k hk => by rw [Fr_small (m := m) (by omega), Nat.mul_zero])
      rw [e, fb_sm_const, Nat.mul_zero]
    · rw [if_neg hb, Nat.add_zero] at h'
      rw [Fr_no hb, Fr_small h']
theorem ss_ge {sl : Nat → Nat} {S : Nat} : ∀ {m : Nat}, (∀ c, c < m → bi S c = true → 1 ≤ sl c) → ss (fun _ => 1) S m ≤ ss sl S m
  | 0, _ => Nat.le_refl _
  | m + 1, h => by
    have ih := ss_ge (m := m) (fun c hc => h c (by omega))
    show ss (fun _ => 1) S m + (if bi S m then 1 else 0) ≤ ss sl S m + (if bi S m then sl m else 0)
    by_cases hb : bi S m = true
    · rw [if_pos hb, if_pos hb]; have := h m (by omega) hb; omega
    · rw [if_neg hb, if_neg hb]; omega
theorem sm_pos {f : Nat → Nat} : ∀ {n : Nat}, 0 < fb_sm f n ↔ ∃ k, k < n ∧ 0 < f k
  | 0 => ⟨fun h => absurd h (by show ¬ 0 < 0; omega), fun ⟨k, hk, _⟩ => absurd hk (by omega)⟩
  | n + 1 => by
    rw [fb_sm_succ]
    constructor
    · intro h
      rcases Nat.eq_zero_or_pos (f n) with q | q
      · obtain ⟨k, h1, h2⟩ := sm_pos.mp (show 0 < fb_sm f n by omega)
        exact ⟨k, by omega, h2⟩
      · exact ⟨n, by omega, q⟩
    · rintro ⟨k, h1, h2⟩
      rcases Nat.lt_or_ge k n with q | q
      · have := sm_pos.mpr ⟨k, q, h2⟩
        omega
      · rw [show k = n by omega] at h2
        omega
theorem Fr_pos {sl : Nat → Nat} {S : Nat} : ∀ {m n : Nat}, (∀ c, c < m → bi S c = true → 1 ≤ sl c) → (0 < Fr sl S m n ↔ ss (fun _ => 1) S m ≤ n ∧ n ≤ ss sl S m)
  | 0, n, _ => by
    show 0 < (if n = 0 then 1 else 0) ↔ 0 ≤ n ∧ n ≤ 0
    split <;> omega
  | m + 1, n, h => by
    have ih := fun j => Fr_pos (m := m) (n := j) (fun c hc => h c (by omega))
    have hge := ss_ge (m := m) (fun c hc => h c (by omega))
    by_cases hb : bi S m = true
    · have h1 := h m (by omega) hb
      show 0 < (if bi S m then fb_sm (fun k => ch (sl m) (k + 1) * Fr sl S m (n - (k + 1))) n else Fr sl S m n) ↔ ss (fun _ => 1) S m + (if bi S m then 1 else 0) ≤ n ∧ n ≤ ss sl S m + (if bi S m then sl m else 0)
      rw [if_pos hb, if_pos hb, if_pos hb, sm_pos]
      constructor
      · rintro ⟨k, h2, h3⟩
        have h4 : 0 < ch (sl m) (k + 1) := Nat.pos_of_ne_zero (fun z => by rw [z, Nat.zero_mul] at h3; omega)
        have h5 : 0 < Fr sl S m (n - (k + 1)) := Nat.pos_of_ne_zero (fun z => by rw [z, Nat.mul_zero] at h3; omega)
        have h6 := (ih _).mp h5
        have h7 : k + 1 ≤ sl m := Nat.not_lt.mp fun z => by rw [ch_lt z] at h4; omega
        omega
      · rintro ⟨h2, h3⟩
        have key : ∀ j, 1 ≤ j → j ≤ n → j ≤ sl m → ss (fun _ => 1) S m ≤ n - j → n - j ≤ ss sl S m → ∃ k, k < n ∧ 0 < ch (sl m) (k + 1) * Fr sl S m (n - (k + 1)) := by
          intro j g1 g2 g3 g4 g5
          refine ⟨j - 1, by omega, ?_⟩
          rw [show j - 1 + 1 = j by omega]
          exact Nat.mul_pos (ch_pos g3) ((ih _).mpr ⟨g4, g5⟩)
        rcases Nat.lt_or_ge (ss sl S m + 1) n with q | q
        · exact key (n - ss sl S m) (by omega) (by omega) (by omega) (by omega) (by omega)
        · exact key 1 (by omega) (by omega) h1 (by omega) (by omega)
    · rw [Fr_no hb]
      show _ ↔ ss (fun _ => 1) S m + (if bi S m then 1 else 0) ≤ n ∧ n ≤ ss sl S m + (if bi S m then sl m else 0)
      rw [if_neg hb, if_neg hb, Nat.add_zero, Nat.add_zero]
      exact ih n
/-- the ways to make just S free, whatever is not in S -/
def Gs (sl : Nat → Nat) (S n : Nat) : Nat := Fr sl S 6 n
theorem Gs_Fr {sl : Nat → Nat} {S m : Nat} (hm : m ≤ 6) (hS : S < 64) (h : S < 2 ^ m) (n : Nat) : Gs sl S n = Fr sl S m n := Fr_top hm (fun c h1 h2 => b_top m (by omega) S hS h c h2 h1) n
theorem Gs_rec {sl : Nat → Nat} {l o : Nat} (hl : l < 6) (ho : o < 2 ^ l) (n : Nat) : Gs sl (2 ^ l + o) n = fb_sm (fun k => ch (sl l) (k + 1) * Gs sl o (n - (k + 1))) n := by
  have hp := b_pow l (by omega)
  have h64 : o < 64 := by omega
  obtain ⟨-, -, hs⟩ := b_or1 l hl o h64 ho
  have e : 2 ^ (l + 1) = 2 ^ l * 2 := Nat.pow_succ ..
  rw [Gs_Fr (m := l + 1) (by omega) hs (by omega)]
  have hb := bits_1 l hl o h64 0 (by omega) ho
  show (if bi (2 ^ l + o) l then _ else _) = _
  rw [hb.2.1, if_pos rfl]
  refine fb_sm_cong (fun k _ => ?_)
  rw [Gs_Fr (m := l) (by omega) h64 ho, Fr_cong (S' := o) (sl' := sl) (fun c hc => (bits_1 l hl o h64 c (by omega) ho).1 hc) (fun _ _ => rfl)]
theorem Gs_0 (sl : Nat → Nat) (n : Nat) : Gs sl 0 n = if n = 0 then 1 else 0 := Gs_Fr (m := 0) (by omega) (by omega) (by decide) n
theorem Gs_small {sl : Nat → Nat} {S n : Nat} (hS : S < 64) (h : n < pc S) : Gs sl S n = 0 := Fr_small (by rw [← b_pcs S hS]; exact h)
/-- of the drum: how many come out -/
def tk (d t : Nat) : Nat := if t < d then t else d
theorem tk_le (d t : Nat) : tk d t ≤ d ∧ tk d t ≤ t := by unfold tk; split <;> omega
def tot (sl : Nat → Nat) (p : Nat) : Nat := fb_sm sl p
theorem tot_ss {sl : Nat → Nat} : ∀ {p S : Nat}, (∀ c, c < p → bi S c = true) → ss sl S p = tot sl p
  | 0, _, _ => rfl
  | p + 1, S, h => by
    show ss sl S p + (if bi S p then sl p else 0) = fb_sm sl p + sl p
    rw [h p (by omega), if_pos rfl, tot_ss (p := p) (fun c hc => h c (by omega))]; rfl
theorem tot_full {sl : Nat → Nat} {p : Nat} (hp : p ≤ 6) : ss sl (2 ^ p - 1) p = tot sl p := tot_ss (fun c hc => b_full p (by omega) c (by omega) hc)
/-- what the freeing table is at every time -/
def dF (fr : Nat → Int64) : Prop := fr 0 = lN 1 ∧ (∀ k, 0 < k → k < 7 → fr k = lN 0) ∧ ∀ S, 0 < S → S < 64 → ∀ n, n < 7 → n < pc S → fr (7 * S + n) = lN 0
/-- what the drum holds, when it is filled: slips, how many, how many are drawn, who wishes it -/
def dOK (sl : Nat → Nat) (p d w : Nat) (u : SD) : Prop := u.1 3 = nI p ∧ u.1 4 = nI w ∧ u.1 5 = nI d ∧ u.1 6 = nI (tot sl p) ∧ (∀ c, c < p → u.2.1 c = nI (sl c)) ∧ (∀ c, c < p → ∀ k, k < 7 → u.2.2.1 (7 * c + k) = lN (ch (sl c) k)) ∧ dF u.2.2.2
def dB (sl : Nat → Nat) (p d w : Nat) : Prop := p ≤ 6 ∧ d ≤ 6 ∧ w < 64 ∧ tot sl p ≤ 200 ∧ ∀ c, c < p → 1 ≤ sl c
theorem s_taken {d t : Nat} {u : SD} (h5 : u.1 5 = nI d) (h6 : u.1 6 = nI t) (hd : d ≤ 6) (ht : t ≤ 200) : fX1_taken u = some (nI (tk d t)) := by
  unfold fX1_taken tk
  rw [h5, h6]
  by_cases h : t < d
  · rw [if_pos (nI_lt h (by omega)), if_pos h]
  · rw [if_neg (nI_nlt (by omega) (by omega)), if_neg h]
theorem s_everybody {p : Nat} {u : SD} (h3 : u.1 3 = nI p) (hp : p ≤ 6) : fX1_everybody u = some (nI (2 ^ p - 1)) := by
  unfold fX1_everybody
  rw [h3, b_ev p (by omega)]
theorem ix {a : Nat} {N : Nat} (h : a < N) (hN : N ≤ 1000) : ¬ (nI a < 0 ∨ N ≤ (nI a).toNatClampNeg) := nI_in h (by omega)
theorem s_wwl_loop {s o l n q : Nat} {u : SD} {G : Nat → Nat} (hl : l < 6) (ho : o < 64) (hn : n < 7) (hq : q ≤ n) (hp : ∀ k, k < 7 → u.2.2.1 (7 * l + k) = lN (ch s k)) (hG : ∀ j, j ≤ n → u.2.2.2 (7 * o + j) = lN (G j)) : ∀ f k, n - q < k + f → k ≤ n - q → fX1_waysWithLast_14 f (nI o) (nI l) (nI n) (nI (n - q)) (lN (fb_sm (fun k => ch s (k + 1) * G (n - (k + 1))) k)) (nI (k + 1)) u = some (lN (fb_sm (fun k => ch s (k + 1) * G (n - (k + 1))) (n - q))) := by
  intro f
  induction f with
  | zero => intro k h1 h2; omega
  | succ f ih =>
    intro k h1 h2
    rw [fX1_waysWithLast_14]
    by_cases h : n - q < k + 1
    · rw [if_pos (nI_lt h (by omega)), show k = n - q by omega]
    · have e1 : nI l * (7 : Int32) + nI (k + 1) = nI (7 * l + (k + 1)) := by
        rw [show (7 : Int32) = nI 7 from rfl, pk_mul, nI_add, Nat.mul_comm]
      have e2 : nI o * (7 : Int32) + nI n - nI (k + 1) = nI (7 * o + (n - (k + 1))) := by
        rw [show (7 : Int32) = nI 7 from rfl, pk_mul, nI_add, pk_sub (by omega)]
        congr 1
        omega
      rw [if_neg (nI_nlt (by omega) (by omega)), e1, e2, if_neg (nI_pos (by omega)), if_neg (show ¬ (42 : Int32) ≤ nI (7 * l + (k + 1)) from (show ¬ nI 42 ≤ nI (7 * l + (k + 1)) from nI_ge (by omega) (by omega))), if_neg (nI_pos (by omega)), if_neg (show ¬ (448 : Int32) ≤ nI (7 * o + (n - (k + 1))) from (show ¬ nI 448 ≤ nI (7 * o + (n - (k + 1))) from nI_ge (by omega) (by omega))), if_neg (ix (by omega) (by omega)), if_neg (ix (by omega) (by omega)), nI_clamp (by omega), nI_clamp (by omega), hp (k + 1) (by omega), hG _ (by omega), lN_mul, lN_add]
      unfold fX1_waysWithLast_91
      rw [nI_1]
      exact ih (k + 1) (by omega) (by omega)
theorem s_wwl {s o l n : Nat} {u : SD} {G : Nat → Nat} (hl : l < 6) (ho : o < 64) (hn : n < 7) (hq : pc o ≤ n) (hp : ∀ k, k < 7 → u.2.2.1 (7 * l + k) = lN (ch s k)) (hG : ∀ j, j ≤ n → u.2.2.2 (7 * o + j) = lN (G j)) (hz : ∀ j, j < pc o → G j = 0) : fX1_waysWithLast (nI o) (nI l) (nI n) u = some (lN (fb_sm (fun k => ch s (k + 1) * G (n - (k + 1))) n)) := by
  unfold fX1_waysWithLast
  rw [b_cnt o ho, Option.bind_some, pk_sub hq]
  have h := s_wwl_loop hl ho hn hq hp hG fu 0 (by unfold fu; omega) (by omega)
  have e : fb_sm (fun k => ch s (k + 1) * G (n - (k + 1))) n = fb_sm (fun k => ch s (k + 1) * G (n - (k + 1))) (n - pc o) := by
    have gen : ∀ b, n - pc o ≤ b → b ≤ n → fb_sm (fun k => ch s (k + 1) * G (n - (k + 1))) b = fb_sm (fun k => ch s (k + 1) * G (n - (k + 1))) (n - pc o) := by
      intro b
      induction b with
      | zero => intro h1 _; rw [show n - pc o = 0 by omega]
      | succ b ih =>
        intro h1 h2
        rcases Nat.lt_or_ge b (n - pc o) with g | g
        · rw [show n - pc o = b + 1 by omega]
        · rw [fb_sm_succ, ih g (by omega), hz (n - (b + 1)) (by omega), Nat.mul_zero, Nat.add_zero]
    exact gen n (by omega) (Nat.le_refl n)
  rw [e]
  exact h
/-- one set's row of the table -/
def frow (fr : Nat → Int64) (S a b : Nat) (v : Nat → Nat) : Nat → Int64 := fun i => if 7 * S + a ≤ i ∧ i < 7 * S + b then lN (v (i - 7 * S)) else fr i
theorem frow_step {fr : Nat → Int64} {S a n : Nat} {v : Nat → Nat} (han : a ≤ n) : vp_updL (frow fr S a n v) (7 * S + n) (lN (v n)) = frow fr S a (n + 1) v := by
  funext i
  unfold vp_updL frow
  by_cases h : i = 7 * S + n
  · subst h
    rw [if_pos rfl, if_pos (by omega), Nat.add_sub_cancel_left]
  · rw [if_neg h]
    by_cases h2 : 7 * S + a ≤ i ∧ i < 7 * S + n
    · rw [if_pos h2, if_pos (by omega)]
    · rw [if_neg h2, if_neg (by omega)]
theorem s_cfw_loop {sl : Nat → Nat} {o l t : Nat} {a : Nat → Int32} {b : Nat → Int32} {P fr : Nat → Int64} (hl : l < 6) (ho : o < 2 ^ l) (ht : t ≤ 6) (hp : ∀ k, k < 7 → P (7 * l + k) = lN (ch (sl l) k)) (hG : ∀ j, j ≤ t → fr (7 * o + j) = lN (Gs sl o j)) : ∀ f n, 7 < n + f → pc o + 1 ≤ n → n ≤ 7 → fX1_countFreeingWith_19 f (nI o) (nI l) (nI t) (nI (2 ^ l + o)) (nI n) (a, b, P, frow fr (2 ^ l + o) (pc o + 1) n (Gs sl (2 ^ l + o))) = some (a, b, P, frow fr (2 ^ l + o) (pc o + 1) (if n ≤ t then t + 1 else n) (Gs sl (2 ^ l + o))) := by
  have hpw := b_pow l (by omega)
  obtain ⟨-, hpc, h64⟩ := b_or1 l hl o (by omega) ho
  intro f
  induction f with
  | zero => intro n h1 h2 h3; omega
  | succ f ih =>
    intro n h1 h2 h3
    rw [fX1_countFreeingWith_19]
    by_cases h : t < n
    · rw [if_pos (nI_lt h (by omega)), if_neg (by omega)]
    · have e1 : nI (2 ^ l + o) * (7 : Int32) + nI n = nI (7 * (2 ^ l + o) + n) := by
        rw [show (7 : Int32) = nI 7 from rfl, pk_mul, nI_add, Nat.mul_comm]
      rw [if_neg (nI_nlt (by omega) (by omega)), if_neg (show ¬ (7 : Int32) ≤ nI n from (show ¬ nI 7 ≤ nI n from nI_ge (by omega) (by omega))), e1, if_neg (nI_pos (by omega)), if_neg (show ¬ (448 : Int32) ≤ nI (7 * (2 ^ l + o) + n) from (show ¬ nI 448 ≤ nI (7 * (2 ^ l + o) + n) from nI_ge (by omega) (by omega)))]
      have hw := s_wwl (s := sl l) (o := o) (l := l) (n := n) (u := (a, b, P, frow fr (2 ^ l + o) (pc o + 1) n (Gs sl (2 ^ l + o)))) (G := Gs sl o) hl (by omega) (by omega) (by omega) hp (fun j hj => by
        show frow fr (2 ^ l + o) (pc o + 1) n (Gs sl (2 ^ l + o)) (7 * o + j) = _
        unfold frow
        rw [if_neg (by omega)]
        exact hG j (by omega)) (fun j hj => Gs_small (by omega) hj)
      rw [hw, Option.bind_some, if_neg (ix (by omega) (by omega)), nI_clamp (by omega), ← Gs_rec hl ho]
      unfold fX1_countFreeingWith_72
      dsimp only
      rw [nI_1, frow_step (by omega), ih (n + 1) (by omega) (by omega) (by omega)]
      congr 5
      split <;> split <;> omega
theorem s_cfw {sl : Nat → Nat} {o l d T : Nat} {u : SD} (hl : l < 6) (ho : o < 2 ^ l) (hd : d ≤ 6) (hT : T ≤ 200) (h5 : u.1 5 = nI d) (h6 : u.1 6 = nI T) (hp : ∀ k, k < 7 → u.2.2.1 (7 * l + k) = lN (ch (sl l) k)) (hG : ∀ j, j ≤ tk d T → u.2.2.2 (7 * o + j) = lN (Gs sl o j)) : ∃ fr', fX1_countFreeingWith (nI o) (nI l) u = some (u.1, u.2.1, u.2.2.1, fr') ∧ (∀ i, (i < 7 * (2 ^ l + o) ∨ 7 * (2 ^ l + o) + 7 ≤ i) → fr' i = u.2.2.2 i) ∧ (∀ n, n < pc (2 ^ l + o) → fr' (7 * (2 ^ l + o) + n) = u.2.2.2 (7 * (2 ^ l + o) + n)) ∧ ∀ n, pc (2 ^ l + o) ≤ n → n ≤ tk d T → fr' (7 * (2 ^ l + o) + n) = lN (Gs sl (2 ^ l + o) n) := by
  have hpw := b_pow l (by omega)
  obtain ⟨hor, hpc, h64⟩ := b_or1 l hl o (by omega) ho
  have htk := tk_le d T
  have hpc6 := b_pc6 (2 ^ l + o) h64
  have h := s_cfw_loop (a := u.1) (b := u.2.1) (P := u.2.2.1) (fr := u.2.2.2) hl ho (show tk d T ≤ 6 by omega) hp hG fu (pc o + 1) (by unfold fu; omega) (Nat.le_refl _) (by omega)
  have e0 : frow u.2.2.2 (2 ^ l + o) (pc o + 1) (pc o + 1) (Gs sl (2 ^ l + o)) = u.2.2.2 := by
    funext i
    unfold frow
    rw [if_neg (by omega)]
  rw [e0] at h
  refine ⟨frow u.2.2.2 (2 ^ l + o) (pc o + 1) (if pc o + 1 ≤ tk d T then tk d T + 1 else pc o + 1) (Gs sl (2 ^ l + o)), ?_, ?_, ?_, ?_⟩
  · unfold fX1_countFreeingWith
    rw [s_taken h5 h6 hd hT, Option.bind_some, hor, b_cnt _ h64, Option.bind_some, hpc]
    exact h
  · intro i hi
    unfold frow
    rw [if_neg (by split <;> omega)]
  · intro n hn
    unfold frow
    rw [if_neg (by split <;> omega)]
  · intro n h1 h2
    unfold frow
    rw [if_pos (by split <;> omega), Nat.add_sub_cancel_left]
/-- how far the table is told: all sets below q -/
def CI (sl : Nat → Nat) (t q : Nat) (u0 u : SD) : Prop := u.1 = u0.1 ∧ u.2.1 = u0.2.1 ∧ u.2.2.1 = u0.2.2.1 ∧ dF u.2.2.2 ∧ ∀ S, S < q → ∀ n, n ≤ t → u.2.2.2 (7 * S + n) = lN (Gs sl S n)
theorem s_cf_inner {sl : Nat → Nat} {l d T : Nat} {u0 : SD} {c2 : Int32 → SD → Option SD} (hl : l < 6) (hd : d ≤ 6) (hT : T ≤ 200) (h5 : u0.1 5 = nI d) (h6 : u0.1 6 = nI T) (hp : ∀ k, k < 7 → u0.2.2.1 (7 * l + k) = lN (ch (sl l) k)) : ∀ f o u, 2 ^ l < o + f → o ≤ 2 ^ l → CI sl (tk d T) (2 ^ l + o) u0 u → ∃ u', fX1_countFreeing_12 c2 f (nI l) (nI o) u = c2 (nI (l + 1)) u' ∧ CI sl (tk d T) (2 ^ (l + 1)) u0 u' := by
  have hpw := b_pow l (by omega)
  have e2 : 2 ^ (l + 1) = 2 ^ l + 2 ^ l := by rw [Nat.pow_succ]; omega
  intro f
  induction f with
  | zero => intro o u h1 h2; omega
  | succ f ih =>
    intro o u h1 h2 hC
    rw [fX1_countFreeing_12, b_shl l (by omega)]
    by_cases h : 2 ^ l ≤ o
    · refine ⟨u, ?_, ?_⟩
      · rw [if_pos (nI_le h (by omega)), nI_1]
      · rw [e2, show 2 ^ l + 2 ^ l = 2 ^ l + o by omega]; exact hC
    · obtain ⟨c1, c3, c4, c5, c6⟩ := hC
      obtain ⟨fr', g1, g2, g3, g4⟩ := s_cfw (sl := sl) (o := o) (u := u) (d := d) (T := T) hl (by omega) hd hT (by rw [c1]; exact h5) (by rw [c1]; exact h6) (by rw [c4]; exact hp) (fun j hj => c6 o (by omega) j hj)
      obtain ⟨-, hpc, h64⟩ := b_or1 l hl o (by omega) (by omega)
      rw [if_neg (fun z => h ((nI_leI (by omega) (by omega)).mp z)), g1, Option.bind_some, nI_1]
      have htk := tk_le d T
      refine ih (o + 1) (u.1, u.2.1, u.2.2.1, fr') (by omega) (by omega) ⟨c1, c3, c4, ⟨?_, ?_, ?_⟩, ?_⟩
      · show fr' 0 = _
        rw [g2 0 (by omega)]; exact c5.1
      · intro k k1 k2
        show fr' k = _
        rw [g2 k (by omega)]; exact c5.2.1 k k1 k2
      · intro S s1 s2 n n1 n2
        show fr' (7 * S + n) = _
        by_cases hS : S = 2 ^ l + o
        · subst hS
          rw [g3 n n2]; exact c5.2.2 _ s1 s2 n n1 n2
        · rw [g2 _ (by omega)]; exact c5.2.2 S s1 s2 n n1 n2
      · intro S s1 n n1
        show fr' (7 * S + n) = _
        by_cases hS : S = 2 ^ l + o
        · subst hS
          rcases Nat.lt_or_ge n (pc (2 ^ l + o)) with z | z
          · rw [g3 n z, Gs_small h64 z]
            exact c5.2.2 _ (by omega) h64 n (by omega) z
          · exact g4 n z n1
        · rw [g2 _ (by omega)]; exact c6 S (by omega) n n1
theorem s_cf_outer {sl : Nat → Nat} {p d T : Nat} {u0 : SD} (hp6 : p ≤ 6) (hd : d ≤ 6) (hT : T ≤ 200) (h3 : u0.1 3 = nI p) (h5 : u0.1 5 = nI d) (h6 : u0.1 6 = nI T) (hp : ∀ c, c < p → ∀ k, k < 7 → u0.2.2.1 (7 * c + k) = lN (ch (sl c) k)) : ∀ f l u, p < l + f → l ≤ p → CI sl (tk d T) (2 ^ l) u0 u → ∃ u', fX1_countFreeing_2 f (nI l) u = some u' ∧ CI sl (tk d T) (2 ^ p) u0 u' := by
  intro f
  induction f with
  | zero => intro l u h1 h2; omega
  | succ f ih =>
    intro l u h1 h2 hC
    rw [fX1_countFreeing_2, show u.1 3 = nI p by rw [hC.1]; exact h3]
    by_cases h : p ≤ l
    · rw [if_pos (nI_le h (by omega))]
      have e : l = p := by omega
      subst e
      exact ⟨u, rfl, hC⟩
    · rw [if_neg (fun z => h ((nI_leI (by omega) (by omega)).mp z))]
      have hpw := b_pow l (by omega)
      obtain ⟨u', g1, g2⟩ := s_cf_inner (sl := sl) (c2 := fX1_countFreeing_2 f) (u0 := u0) (show l < 6 by omega) hd hT h5 h6 (hp l (by omega)) fu 0 u (by unfold fu; omega) (by omega) hC
      have g1' : fX1_countFreeing_12 (fX1_countFreeing_2 f) fu (nI l) 0 u = fX1_countFreeing_2 f (nI (l + 1)) u' := g1
      rw [g1']
      exact ih (l + 1) u' (by omega) (by omega) g2
theorem s_cf {sl : Nat → Nat} {p d w : Nat} {u : SD} (hB : dB sl p d w) (h : dOK sl p d w u) : ∃ fr', fX1_countFreeing u = some (u.1, u.2.1, u.2.2.1, fr') ∧ dOK sl p d w (u.1, u.2.1, u.2.2.1, fr') ∧ ∀ S, S < 2 ^ p → ∀ n, n ≤ tk d (tot sl p) → fr' (7 * S + n) = lN (Gs sl S n) := by
  obtain ⟨h3, h4, h5, h6, hs, hp, hF⟩ := h
  obtain ⟨b1, b2, b3, b4, b5⟩ := hB
  obtain ⟨u', g1, g2⟩ := s_cf_outer (sl := sl) (u0 := u) b1 b2 b4 h3 h5 h6 hp fu 0 u (by unfold fu; omega) (by omega) ⟨rfl, rfl, rfl, hF, fun S hS n hn => by
    have e : S = 0 := by simp at hS; exact hS
    subst e
    have htk := tk_le d (tot sl p)
    rw [Gs_0]
    rcases Nat.eq_zero_or_pos n with z | z
    · subst z; exact hF.1
    · rw [if_neg (by omega), Nat.mul_zero, Nat.zero_add]; exact hF.2.1 n z (by omega)⟩
  obtain ⟨c1, c2, c3, c4, c5⟩ := g2
  have e : u' = (u.1, u.2.1, u.2.2.1, u'.2.2.2) := by rw [← c1, ← c2, ← c3]
  refine ⟨u'.2.2.2, ?_, ⟨h3, h4, h5, h6, hs, hp, c4⟩, c5⟩
  rw [← e]
  exact g1
theorem s_freeingBy {u : SD} {S n : Nat} (hS : S < 64) (hn : n < 7) : fX1_freeingBy (nI S) (nI n) u = some (u.2.2.2 (7 * S + n)) := by
  unfold fX1_freeingBy
  have e1 : nI S * (7 : Int32) + nI n = nI (7 * S + n) := by
    rw [show (7 : Int32) = nI 7 from rfl, pk_mul, nI_add, Nat.mul_comm]
  rw [if_neg (nI_pos (by omega)), if_neg (nI_pos (by omega)), if_neg (show ¬ (7 : Int32) ≤ nI n from (show ¬ nI 7 ≤ nI n from nI_ge (by omega) (by omega))), e1, if_neg (show ¬ (448 : Int32) ≤ nI (7 * S + n) from (show ¬ nI 448 ≤ nI (7 * S + n) from nI_ge (by omega) (by omega))), if_neg (ix (by omega) (by omega)), nI_clamp (by omega)]
theorem s_draws {sl : Nat → Nat} {p d w : Nat} {u : SD} (hB : dB sl p d w) (h : dOK sl p d w u) : fX1_draws u = some (lN (ch (tot sl p) (tk d (tot sl p)))) := by
  obtain ⟨h3, h4, h5, h6, hs, hp, hF⟩ := h
  obtain ⟨b1, b2, b3, b4, b5⟩ := hB
  have htk := tk_le d (tot sl p)
  unfold fX1_draws
  rw [s_taken h5 h6 b2 b4, Option.bind_some, h6, s_choose b4 (by omega)]
  rfl
theorem sm_ge {f : Nat → Nat} {c p : Nat} (h : c < p) : f c ≤ fb_sm f p := by
  have := fb_sm_part f h
  omega
theorem s_sparing {sl : Nat → Nat} {p d w c : Nat} {u : SD} (hB : dB sl p d w) (h : dOK sl p d w u) (hc : c < p) : fX1_drawsSparing (nI c) u = some (lN (ch (tot sl p - sl c) (tk d (tot sl p)))) := by
  obtain ⟨h3, h4, h5, h6, hs, hp, hF⟩ := h
  obtain ⟨b1, b2, b3, b4, b5⟩ := hB
  have htk := tk_le d (tot sl p)
  have hge : sl c ≤ tot sl p := sm_ge hc
  unfold fX1_drawsSparing fX1_slipsOfOne
  rw [if_neg (nI_pos (by omega)), if_neg (show ¬ (6 : Int32) ≤ nI c from (show ¬ nI 6 ≤ nI c from nI_ge (by omega) (by omega))), if_neg (ix (by omega) (by omega)), nI_clamp (by omega), hs c hc, Option.bind_some, s_taken h5 h6 b2 b4, Option.bind_some, h6, pk_sub hge, s_choose (by omega) (by omega)]
  rfl
/-- more of those who rule wish it than do not -/
def pw (S w : Nat) : Bool := decide (pc (di S w) < pc (S &&& w))
theorem s_passesUnder {u : SD} {S w : Nat} (hS : S < 64) (hw : w < 64) (h4 : u.1 4 = nI w) : fX1_passesUnder (nI S) u = some (if pw S w then 1 else 0) := by
  unfold fX1_passesUnder
  have q1 := b_pc6 (di S w) (by have := b_dle S hS w hw; omega)
  have q2 := b_pc6 (S &&& w) (b_and64 S hS w hw)
  rw [h4, fa_and, b_cnt _ (b_and64 S hS w hw), Option.bind_some, b_di S hS w hw, b_cnt _ (by have := b_dle S hS w hw; omega), Option.bind_some, z0, z1]
  unfold pw
  by_cases h : pc (di S w) < pc (S &&& w)
  · rw [if_neg (nI_ge h (by omega)), if_pos (by simp [h])]
  · rw [if_pos (nI_le (by omega) (by omega)), if_neg (by simp [h])]
/-- the draws by which the law passes -/
def PA (sl : Nat → Nat) (p d w : Nat) : Nat := fb_sm (fun S => if pw S w then Gs sl (di (2 ^ p - 1) S) (tk d (tot sl p)) else 0) (2 ^ p)
theorem s_dp_loop {sl : Nat → Nat} {p t w : Nat} {u : SD} (hp : p ≤ 6) (ht : t ≤ 6) (hw : w < 64) (h3 : u.1 3 = nI p) (h4 : u.1 4 = nI w) (hG : ∀ S, S < 2 ^ p → u.2.2.2 (7 * S + t) = lN (Gs sl S t)) : ∀ f k, 2 ^ p < k + f → k ≤ 2 ^ p → fX1_drawsPassing_14 f (nI t) (lN (fb_sm (fun S => if pw S w then Gs sl (di (2 ^ p - 1) S) t else 0) k)) (nI k) u = some (lN (fb_sm (fun S => if pw S w then Gs sl (di (2 ^ p - 1) S) t else 0) (2 ^ p)), u) := by
  have hpw := b_pow p (by omega)
  intro f
  induction f with
  | zero => intro k h1 h2; omega
  | succ f ih =>
    intro k h1 h2
    rw [fX1_drawsPassing_14, s_everybody h3 hp, Option.bind_some]
    by_cases h : 2 ^ p - 1 < k
    · rw [if_pos (nI_lt h (by omega)), show k = 2 ^ p by omega]
    · have hdl := b_dle (2 ^ p - 1) (by omega) k (by omega)
      have step := ih (k + 1) (by omega) (by omega)
      rw [fb_sm_succ] at step
      rw [if_neg (nI_nlt (by omega) (by omega)), s_passesUnder (by omega) hw h4, Option.bind_some]
      by_cases hq : pw k w = true
      · rw [if_pos hq, if_neg (by decide), Option.bind_some, b_di _ (by omega) _ (by omega), s_freeingBy (by omega) (by omega), Option.bind_some, hG _ (by omega), lN_add]
        unfold fX1_drawsPassing_49
        rw [nI_1]
        rw [if_pos hq] at step
        exact step
      · rw [if_neg hq, if_pos rfl]
        unfold fX1_drawsPassing_49
        rw [nI_1]
        rw [if_neg hq, Nat.add_zero] at step
        exact step
theorem s_passing {sl : Nat → Nat} {p d w : Nat} {u : SD} (hB : dB sl p d w) (h : dOK sl p d w u) : ∃ u', fX1_drawsPassing u = some (lN (PA sl p d w), u') ∧ dOK sl p d w u' := by
  obtain ⟨fr', g1, g2, g3⟩ := s_cf hB h
  obtain ⟨b1, b2, b3, b4, b5⟩ := hB
  have htk := tk_le d (tot sl p)
  refine ⟨_, ?_, g2⟩
  unfold fX1_drawsPassing
  rw [g1, Option.bind_some, s_taken (u := (u.1, u.2.1, u.2.2.1, fr')) g2.2.2.1 g2.2.2.2.1 b2 b4, Option.bind_some]
  exact s_dp_loop (u := (u.1, u.2.1, u.2.2.1, fr')) b1 (show tk d (tot sl p) ≤ 6 by omega) b3 g2.1 g2.2.1 (fun S hS => g3 S hS _ (Nat.le_refl _)) fu 0 (by have := b_pow p (by omega); unfold fu; omega) (Nat.zero_le _)
theorem s_just {sl : Nat → Nat} {p d w S : Nat} {u : SD} (hB : dB sl p d w) (h : dOK sl p d w u) (hS : S < 64) : ∃ u', fX1_drawsLeavingJust (nI S) u = some (lN (Gs sl (di (2 ^ p - 1) S) (tk d (tot sl p))), u') ∧ dOK sl p d w u' := by
  obtain ⟨fr', g1, g2, g3⟩ := s_cf hB h
  obtain ⟨b1, b2, b3, b4, b5⟩ := hB
  have htk := tk_le d (tot sl p)
  have hpw := b_pow p (by omega)
  have hdl := b_dle (2 ^ p - 1) (by omega) S hS
  refine ⟨_, ?_, g2⟩
  unfold fX1_drawsLeavingJust
  rw [g1, Option.bind_some, s_everybody (u := (u.1, u.2.1, u.2.2.1, fr')) g2.1 b1, Option.bind_some, s_taken (u := (u.1, u.2.1, u.2.2.1, fr')) g2.2.2.1 g2.2.2.2.1 b2 b4, Option.bind_some, b_di _ (by omega) _ hS, s_freeingBy (by omega) (by omega), Option.bind_some]
  rw [show (u.1, u.2.1, u.2.2.1, fr').2.2.2 = fr' from rfl, g3 _ (by omega) _ (Nat.le_refl _)]
