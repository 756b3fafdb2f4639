/-! plain facts: how many sets of k out of n, and the ways to make just a set free -/
def ch : Nat → Nat → Nat
  | _, 0 => 1
  | 0, _ + 1 => 0
  | n + 1, k + 1 => ch n k + ch n (k + 1)
theorem ch_z (n : Nat) : ch n 0 = 1 := by cases n <;> rfl
theorem ch_0s (k : Nat) : ch 0 (k + 1) = 0 := rfl
theorem ch_ss (n k : Nat) : ch (n + 1) (k + 1) = ch n k + ch n (k + 1) := rfl
theorem ch_lt : ∀ {n k : Nat}, n < k → ch n k = 0
  | _, 0, h => absurd h (Nat.not_lt_zero _)
  | 0, _ + 1, _ => rfl
  | n + 1, k + 1, h => by rw [ch_ss, ch_lt (n := n) (k := k) (by omega), ch_lt (n := n) (k := k + 1) (by omega)]
theorem ch_pos : ∀ {n k : Nat}, k ≤ n → 0 < ch n k
  | n, 0, _ => by rw [ch_z]; omega
  | 0, k + 1, h => absurd h (by omega)
  | n + 1, k + 1, h => by
    rw [ch_ss]
    have := ch_pos (n := n) (k := k) (by omega)
    omega
theorem ch_mul : ∀ (n k : Nat), ch n (k + 1) * (k + 1) = ch n k * (n - k)
  | 0, k => by rw [ch_0s]; simp
  | n + 1, 0 => by
    have h := ch_mul n 0
    rw [ch_z] at h
    rw [ch_ss, ch_z, ch_z]
    omega
  | n + 1, k + 1 => by
    have h1 := ch_mul n k
    have h2 := ch_mul n (k + 1)
    rw [ch_ss n (k + 1), ch_ss n k, Nat.add_mul, h2, show n + 1 - (k + 1) = n - k by omega, Nat.add_mul, ← h1]
    rcases Nat.lt_or_ge n (k + 1) with q | q
    · rw [ch_lt q]; simp
    · have e : ch n (k + 1) * (n - k) = ch n (k + 1) * (n - (k + 1)) + ch n (k + 1) := by
        rw [show n - k = (n - (k + 1)) + 1 by omega, Nat.mul_add, Nat.mul_one]
      have e2 : ch n (k + 1) * (k + 1 + 1) = ch n (k + 1) * (k + 1) + ch n (k + 1) := Nat.mul_succ ..
      omega
theorem ch_up (n k : Nat) : ch n (k + 1) ≤ ch n k * n := by
  have h := ch_mul n k
  have h1 : ch n (k + 1) * 1 ≤ ch n (k + 1) * (k + 1) := Nat.mul_le_mul_left _ (by omega)
  have h2 : ch n k * (n - k) ≤ ch n k * n := Nat.mul_le_mul_left _ (by omega)
  omega
theorem ch_mono : ∀ {m n : Nat} (k : Nat), m ≤ n → ch m k ≤ ch n k
  | _, _, 0, _ => by rw [ch_z, ch_z]; omega
  | 0, n, k + 1, _ => by rw [ch_0s]; omega
  | m + 1, 0, k + 1, h => absurd h (by omega)
  | m + 1, n + 1, k + 1, h => by
    rw [ch_ss, ch_ss]
    have h1 := ch_mono (m := m) (n := n) k (by omega)
    have h2 := ch_mono (m := m) (n := n) (k + 1) (by omega)
    omega
theorem ch_step {n k c d : Nat} (h : ch n k = c) (hd : c * (n - k) = d * (k + 1)) : ch n (k + 1) = d := by
  have h1 := ch_mul n k
  rw [h, hd] at h1
  exact Nat.eq_of_mul_eq_mul_right (by omega) h1
theorem ch121 : ch 121 1 = 121 ∧ ch 121 2 = 7260 ∧ ch 121 3 = 287980 ∧ ch 121 4 = 8495410 ∧ ch 121 5 = 198792594 ∧ ch 121 6 = 3843323484 := by
  have h1 : ch 121 1 = 121 := ch_step (ch_z 121) (by decide)
  have h2 : ch 121 2 = 7260 := ch_step h1 (by decide)
  have h3 : ch 121 3 = 287980 := ch_step h2 (by decide)
  have h4 : ch 121 4 = 8495410 := ch_step h3 (by decide)
  have h5 : ch 121 5 = 198792594 := ch_step h4 (by decide)
  have h6 : ch 121 6 = 3843323484 := ch_step h5 (by decide)
  exact ⟨h1, h2, h3, h4, h5, h6⟩
theorem ch_b32 {n k : Nat} (hn : n ≤ 121) (hk : k ≤ 6) : ch n k < 4294967296 := by
  have h := ch_mono k hn
  obtain ⟨h1, h2, h3, h4, h5, h6⟩ := ch121
  rcases (show k = 0 ∨ k = 1 ∨ k = 2 ∨ k = 3 ∨ k = 4 ∨ k = 5 ∨ k = 6 by omega) with rfl | rfl | rfl | rfl | rfl | rfl | rfl
  · rw [ch_z]; omega
  all_goals omega
/-- a rough bound for every drum that is asked for -/
theorem ch_b {n k : Nat} (hn : n ≤ 200) (hk : k ≤ 6) : ch n k ≤ 200 ^ 6 := by
  have e : ∀ j, ch n j ≤ 200 ^ j := by
    intro j
    induction j with
    | zero => rw [ch_z]; exact Nat.le_refl _
    | succ j ih =>
      refine Nat.le_trans (ch_up n j) ?_
      rw [Nat.pow_succ]
      exact Nat.mul_le_mul ih hn
  exact Nat.le_trans (e k) (Nat.pow_le_pow_right (by omega) hk)
theorem si_first (f : Nat → Int) : ∀ n, fb_si f (n + 1) = f 0 + fb_si (fun k => f (k + 1)) n
  | 0 => by rw [fb_si_succ]; simp [fb_si]
  | n + 1 => by rw [fb_si_succ, si_first f n, fb_si_succ]; omega
theorem sm_first (f : Nat → Nat) : ∀ n, fb_sm f (n + 1) = f 0 + fb_sm (fun k => f (k + 1)) n
  | 0 => by rw [fb_sm_succ]; simp [fb_sm]
  | n + 1 => by rw [fb_sm_succ, sm_first f n, fb_sm_succ]; omega
theorem si_ext {f : Nat → Int} {a : Nat} : ∀ {b : Nat}, a ≤ b → (∀ k, a ≤ k → k < b → f k = 0) → fb_si f b = fb_si f a
  | 0, h, _ => by rw [show a = 0 by omega]
  | b + 1, h, hz => by
    rcases Nat.lt_or_ge b a with q | q
    · rw [show a = b + 1 by omega]
    · rw [fb_si_succ, hz b q (by omega), si_ext q (fun k h1 h2 => hz k h1 (by omega))]; omega
/-- once more in the drum: the rows of sets grow as Pascal's -/
def Dd (f : Nat → Int) : Nat → Int := fun n => match n with
  | 0 => f 0
  | m + 1 => f (m + 1) + f m
def It : Nat → (Nat → Int) → Nat → Int
  | 0, f => f
  | s + 1, f => Dd (It s f)
theorem It_add (b : Nat) (f : Nat → Int) : ∀ a, It (a + b) f = It a (It b f)
  | 0 => by rw [Nat.zero_add]; rfl
  | a + 1 => by rw [Nat.succ_add]; show Dd (It (a + b) f) = Dd (It a (It b f)); rw [It_add b f a]
theorem It_sub (f g : Nat → Int) : ∀ s n, It s (fun k => f k - g k) n = It s f n - It s g n
  | 0, _ => rfl
  | s + 1, 0 => by show It s (fun k => f k - g k) 0 = It s f 0 - It s g 0; exact It_sub f g s 0
  | s + 1, n + 1 => by
    show It s (fun k => f k - g k) (n + 1) + It s (fun k => f k - g k) n = (It s f (n + 1) + It s f n) - (It s g (n + 1) + It s g n)
    rw [It_sub f g s (n + 1), It_sub f g s n]; omega
theorem It_cong {f g : Nat → Int} (h : ∀ n, f n = g n) (s n : Nat) : It s f n = It s g n := by rw [show f = g from funext h]
def dl : Nat → Int := fun n => if n = 0 then 1 else 0
theorem It_dl : ∀ s n, It s dl n = (ch s n : Int)
  | 0, 0 => rfl
  | 0, n + 1 => rfl
  | s + 1, 0 => by show It s dl 0 = _; rw [It_dl s 0, ch_z, ch_z]
  | s + 1, n + 1 => by
    show It s dl (n + 1) + It s dl n = _
    rw [It_dl s (n + 1), It_dl s n, ch_ss]; omega
theorem It_sum (f : Nat → Int) : ∀ s n, It s f n = fb_si (fun k => (ch s k : Int) * f (n - k)) (n + 1)
  | 0, n => by
    rw [si_first]
    have e : fb_si (fun k => (ch 0 (k + 1) : Int) * f (n - (k + 1))) n = fb_si (fun _ => 0) n := fb_si_cong (fun k _ => by rw [ch_0s]; simp)
    have e2 : ∀ n, fb_si (fun _ => 0) n = 0 := fun n => by
      induction n with
      | zero => rfl
      | succ n ih => rw [fb_si_succ, ih]; rfl
    rw [e, e2, ch_z]; simp [It]
  | s + 1, 0 => by
    show It s f 0 = _
    rw [It_sum f s 0, fb_si_succ, fb_si_succ, ch_z, ch_z]
    rfl
  | s + 1, n + 1 => by
    show It s f (n + 1) + It s f n = _
    rw [It_sum f s (n + 1), It_sum f s n, si_first, si_first (fun k => (ch (s + 1) k : Int) * f (n + 1 - k)), ch_z, ch_z]
    have e : fb_si (fun k => (ch (s + 1) (k + 1) : Int) * f (n + 1 - (k + 1))) (n + 1) = fb_si (fun k => (ch s (k + 1) : Int) * f (n + 1 - (k + 1)) + (ch s k : Int) * f (n - k)) (n + 1) := fb_si_cong (fun k _ => by
      rw [ch_ss, show n + 1 - (k + 1) = n - k by omega, Int.natCast_add, Int.add_mul]; omega)
    rw [e, fb_si_add]; omega
/-- bit c of a set; how many are in it; the others -/
def bi (S c : Nat) : Bool := S / 2 ^ c % 2 == 1
def pc (n : Nat) : Nat := n % 2 + n / 2 % 2 + n / 4 % 2 + n / 8 % 2 + n / 16 % 2 + n / 32 % 2
def di (a b : Nat) : Nat := a &&& (63 ^^^ b)
/-- in how many ways n slips make just S free, of the first m -/
def Fr (sl : Nat → Nat) (S : Nat) : Nat → Nat → Nat
  | 0, n => if n = 0 then 1 else 0
  | m + 1, n => if bi S m then fb_sm (fun k => ch (sl m) (k + 1) * Fr sl S m (n - (k + 1))) n else Fr sl S m n
theorem Fr_It {sl : Nat → Nat} {S m : Nat} (h : bi S m = true) (n : Nat) : (Fr sl S (m + 1) n : Int) = It (sl m) (fun j => (Fr sl S m j : Int)) n - (Fr sl S m n : Int) := by
  rw [It_sum, si_first, ch_z]
  have e : (Fr sl S (m + 1) n : Int) = fb_si (fun k => (ch (sl m) (k + 1) : Int) * (Fr sl S m (n - (k + 1)) : Int)) n := by
    show ((if bi S m then fb_sm (fun k => ch (sl m) (k + 1) * Fr sl S m (n - (k + 1))) n else Fr sl S m n : Nat) : Int) = _
    rw [h, if_pos rfl, ← fb_si_nat]
    exact fb_si_cong (fun k _ => by rw [Int.natCast_mul])
  rw [e]
  simp
  omega
theorem Fr_no {sl : Nat → Nat} {S m : Nat} (h : ¬ bi S m = true) (n : Nat) : Fr sl S (m + 1) n = Fr sl S m n := by
  show (if bi S m then _ else Fr sl S m n) = _
  rw [if_neg h]
theorem Fr_cong {sl sl' : Nat → Nat} {S S' : Nat} : ∀ {m : Nat}, (∀ c, c < m → bi S c = bi S' c) → (∀ c, c < m → sl c = sl' c) → ∀ n, Fr sl S m n = Fr sl' S' m n
  | 0, _, _, _ => rfl
  | m + 1, h, h2, n => by
    have ih := Fr_cong (m := m) (fun c hc => h c (by omega)) (fun c hc => h2 c (by omega))
    show (if bi S m then _ else Fr sl S m n) = (if bi S' m then _ else Fr sl' S' m n)
    rw [h m (by omega), h2 m (by omega), ih n]
    congr 1
    exact fb_sm_cong (fun k _ => by rw [ih])
/-- by what is in and what is left out -/
def Gr (sl : Nat → Nat) (O : Nat) : Nat → Nat → Nat → Int
  | 0, acc, n => (ch acc n : Int)
  | m + 1, acc, n => if bi O m then Gr sl O m (acc + sl m) n - Gr sl O m acc n else Gr sl O m acc n
theorem Gr_It (sl : Nat → Nat) (O : Nat) : ∀ m acc n, Gr sl O m acc n = It acc (fun j => (Fr sl O m j : Int)) n
  | 0, acc, n => by
    show (ch acc n : Int) = _
    rw [← It_dl]
    exact It_cong (fun j => by show dl j = ((if j = 0 then 1 else 0 : Nat) : Int); unfold dl; split <;> rfl) acc n
  | m + 1, acc, n => by
    show (if bi O m then Gr sl O m (acc + sl m) n - Gr sl O m acc n else Gr sl O m acc n) = _
    by_cases h : bi O m = true
    · rw [if_pos h, Gr_It sl O m, Gr_It sl O m, It_add, ← It_sub]
      exact It_cong (fun j => (Fr_It h j).symm) acc n
    · rw [if_neg h, Gr_It sl O m]
      exact It_cong (fun j => by rw [Fr_no h]) acc n
theorem Gr_Fr (sl : Nat → Nat) (O m n : Nat) : Gr sl O m 0 n = (Fr sl O m n : Int) := Gr_It sl O m 0 n
/-- the slips of a set, of the first m -/
def ss (sl : Nat → Nat) (S : Nat) : Nat → Nat
  | 0 => 0
  | m + 1 => ss sl S m + if bi S m then sl m else 0
theorem ss_cong {sl sl' : Nat → Nat} {S S' : Nat} : ∀ {m : Nat}, (∀ c, c < m → bi S c = bi S' c) → (∀ c, c < m → sl c = sl' c) → ss sl S m = ss sl' S' m
  | 0, _, _ => rfl
  | m + 1, h, h2 => by
    show ss sl S m + (if bi S m then sl m else 0) = ss sl' S' m + (if bi S' m then sl' m else 0)
    rw [ss_cong (m := m) (fun c hc => h c (by omega)) (fun c hc => h2 c (by omega)), h m (by omega), h2 m (by omega)]
def sgn (k : Nat) : Int := if k % 2 = 0 then 1 else -1
theorem bits_1a : ∀ m, m < 6 → ∀ T, T < 2 ^ m → ∀ c, c < m → bi (2 ^ m + T) c = bi T c := by decide +kernel
theorem bits_1b : ∀ m, m < 6 → ∀ T, T < 2 ^ m → bi (2 ^ m + T) m = true ∧ bi T m = false := by decide +kernel
theorem bits_1 : ∀ m, m < 6 → ∀ T, T < 64 → ∀ c, c < 6 → T < 2 ^ m → (c < m → bi (2 ^ m + T) c = bi T c) ∧ bi (2 ^ m + T) m = true ∧ bi T m = false := fun m hm T _ c _ hT => ⟨fun hc => bits_1a m hm T hT c hc, bits_1b m hm T hT⟩
theorem bits_2a : ∀ m, m < 6 → ∀ T, T < 2 ^ m → ∀ O, O < 64 → (di (2 ^ m + T) O == 0) = (bi O m && (di T O == 0)) := by decide +kernel
theorem bits_2 : ∀ m, m < 6 → ∀ T, T < 64 → ∀ O, O < 64 → T < 2 ^ m → (di (2 ^ m + T) O = 0 ↔ (bi O m = true ∧ di T O = 0)) := fun m hm T _ O hO hT => by
  have h := bits_2a m hm T hT O hO
  constructor
  · intro q
    have h2 : (bi O m && (di T O == 0)) = true := by rw [← h, q]; rfl
    rw [Bool.and_eq_true] at h2
    exact ⟨h2.1, beq_iff_eq.mp h2.2⟩
  · intro q
    rw [q.1, q.2] at h
    exact beq_iff_eq.mp h
theorem bits_3a : ∀ m, m < 6 → ∀ T, T < 2 ^ m → ∀ O, O < 64 → pc (di (O % 2 ^ (m + 1)) T) = pc (di (O % 2 ^ m) T) + (if bi O m then 1 else 0) := by decide +kernel
theorem bits_3 : ∀ m, m < 6 → ∀ T, T < 64 → ∀ O, O < 64 → T < 2 ^ m → pc (di (O % 2 ^ (m + 1)) T) = pc (di (O % 2 ^ m) T) + (if bi O m then 1 else 0) := fun m hm T _ O hO hT => bits_3a m hm T hT O hO
theorem bits_4a : ∀ m, m < 6 → ∀ T, T < 2 ^ m → ∀ O, O < 64 → pc (di (O % 2 ^ (m + 1)) (2 ^ m + T)) = pc (di (O % 2 ^ m) T) := by decide +kernel
theorem bits_4 : ∀ m, m < 6 → ∀ T, T < 64 → ∀ O, O < 64 → T < 2 ^ m → pc (di (O % 2 ^ (m + 1)) (2 ^ m + T)) = pc (di (O % 2 ^ m) T) := fun m hm T _ O hO hT => bits_4a m hm T hT O hO
theorem bits_5a : ∀ T, T < 64 → ∀ O, O < T → ¬ di T O = 0 := by decide +kernel
theorem bits_5 : ∀ T, T < 64 → ∀ O, O < 64 → O < T → ¬ di T O = 0 := fun T hT O _ h => bits_5a T hT O h
theorem sgn_s (k : Nat) : sgn (k + 1) = - sgn k := by
  unfold sgn
  rcases (show k % 2 = 0 ∨ k % 2 = 1 by omega) with h | h
  · rw [if_pos h, if_neg (by omega)]
  · rw [if_neg (by omega : ¬ k % 2 = 0), if_pos (by omega : (k + 1) % 2 = 0)]; rfl
def term (sl : Nat → Nat) (O m acc n T : Nat) : Int := if di T O = 0 then sgn (pc (di (O % 2 ^ m) T)) * (ch (acc + ss sl T m) n : Int) else 0
theorem LSum (sl : Nat → Nat) {O : Nat} (hO : O < 64) : ∀ m, m ≤ 6 → ∀ acc n, fb_si (term sl O m acc n) (2 ^ m) = Gr sl O m acc n
  | 0, _, acc, n => by
    show fb_si (term sl O 0 acc n) (0 + 1) = (ch acc n : Int)
    rw [fb_si_succ]
    have e : di 0 O = 0 := Nat.zero_and _
    have e2 : sgn (pc (di (O % 2 ^ 0) 0)) = 1 := by rw [Nat.pow_zero, Nat.mod_one, show di 0 0 = 0 from rfl]; rfl
    show 0 + term sl O 0 acc n 0 = _
    unfold term
    rw [if_pos e, e2, show acc + ss sl 0 0 = acc from rfl, Int.one_mul, Int.zero_add]
  | m + 1, hm, acc, n => by
    have p64 : 2 ^ m ≤ 32 := by
      rcases (show m = 0 ∨ m = 1 ∨ m = 2 ∨ m = 3 ∨ m = 4 ∨ m = 5 by omega) with rfl | rfl | rfl | rfl | rfl | rfl <;> decide
    rw [show 2 ^ (m + 1) = 2 ^ m + 2 ^ m by rw [Nat.pow_succ]; omega, fb_si_split]
    have ssT : ∀ T, T < 2 ^ m → ss sl T (m + 1) = ss sl T m := fun T hT => by
      show ss sl T m + (if bi T m then sl m else 0) = ss sl T m
      rw [(bits_1 m (by omega) T (by omega) 0 (by omega) hT).2.2]; simp
    have ssT2 : ∀ T, T < 2 ^ m → ss sl (2 ^ m + T) (m + 1) = ss sl T m + sl m := fun T hT => by
      show ss sl (2 ^ m + T) m + (if bi (2 ^ m + T) m then sl m else 0) = ss sl T m + sl m
      rw [(bits_1 m (by omega) T (by omega) 0 (by omega) hT).2.1, if_pos rfl, ss_cong (S' := T) (sl' := sl) (fun c hc => (bits_1 m (by omega) T (by omega) c (by omega) hT).1 hc) (fun _ _ => rfl)]
    by_cases hb : bi O m = true
    · have e1 : fb_si (term sl O (m + 1) acc n) (2 ^ m) = - Gr sl O m acc n := by
        rw [← LSum sl hO m (by omega) acc n]
        rw [show - fb_si (term sl O m acc n) (2 ^ m) = (-1) * fb_si (term sl O m acc n) (2 ^ m) by omega, ← fb_si_mul]
        refine fb_si_cong (fun T hT => ?_)
        unfold term
        rw [bits_3 m (by omega) T (by omega) O hO hT, hb, if_pos rfl, sgn_s, ssT T hT]
        split
        · rw [Int.neg_mul, Int.neg_mul, Int.one_mul]
        · rfl
      have e2 : fb_si (fun T => term sl O (m + 1) acc n (2 ^ m + T)) (2 ^ m) = Gr sl O m (acc + sl m) n := by
        rw [← LSum sl hO m (by omega) (acc + sl m) n]
        refine fb_si_cong (fun T hT => ?_)
        unfold term
        rw [bits_4 m (by omega) T (by omega) O hO hT, ssT2 T hT]
        have hi := bits_2 m (by omega) T (by omega) O hO hT
        by_cases hd : di T O = 0
        · rw [if_pos (hi.mpr ⟨hb, hd⟩), if_pos hd, show acc + (ss sl T m + sl m) = acc + sl m + ss sl T m by omega]
        · rw [if_neg (fun z => hd (hi.mp z).2), if_neg hd]
      rw [e1, e2]
      show _ = (if bi O m then Gr sl O m (acc + sl m) n - Gr sl O m acc n else Gr sl O m acc n)
      rw [if_pos hb]; omega
    · have e1 : fb_si (term sl O (m + 1) acc n) (2 ^ m) = Gr sl O m acc n := by
        rw [← LSum sl hO m (by omega) acc n]
        refine fb_si_cong (fun T hT => ?_)
        unfold term
        rw [bits_3 m (by omega) T (by omega) O hO hT, if_neg hb, ssT T hT, Nat.add_zero]
      have e2 : fb_si (fun T => term sl O (m + 1) acc n (2 ^ m + T)) (2 ^ m) = 0 := by
        have z : ∀ k, fb_si (fun _ => (0 : Int)) k = 0 := fun k => by
          induction k with
          | zero => rfl
          | succ k ih => rw [fb_si_succ, ih]; rfl
        rw [← z (2 ^ m)]
        refine fb_si_cong (fun T hT => ?_)
        unfold term
        rw [if_neg (fun q => hb ((bits_2 m (by omega) T (by omega) O hO hT).mp q).1)]
      rw [e1, e2]
      show _ = (if bi O m then Gr sl O m (acc + sl m) n - Gr sl O m acc n else Gr sl O m acc n)
      rw [if_neg hb]; omega
/-- the sum over all some up to O, told by what is in and what is left out, is the number of ways -/
theorem inex (sl : Nat → Nat) {O p : Nat} (hp : p ≤ 6) (hO : O < 2 ^ p) (n : Nat) : fb_si (term sl O p 0 n) (O + 1) = (Fr sl O p n : Int) := by
  have p64 : 2 ^ p ≤ 64 := by
    rcases (show p = 0 ∨ p = 1 ∨ p = 2 ∨ p = 3 ∨ p = 4 ∨ p = 5 ∨ p = 6 by omega) with rfl | rfl | rfl | rfl | rfl | rfl | rfl <;> decide
  rw [← Gr_Fr, ← LSum sl (O := O) (by omega) p hp 0 n]
  refine (si_ext (by omega) (fun k h1 h2 => ?_)).symm
  unfold term
  rw [if_neg (bits_5 k (by omega) O (by omega) (by omega))]
