/-! the worlds: the reference, the drum, a citizen, a row, the class -/
abbrev SM : Type := (Nat → Int32) × (Nat → Nat → Int32)
abbrev SD : Type := (Nat → Int32) × (Nat → Int32) × (Nat → Int64) × (Nat → Int64)
abbrev SR : Type := (Nat → Int32) × (Nat → Int32)
abbrev SX : Type := (Nat → Int32) × (Nat → Int32) × (Nat → Nat → Int32) × (Nat → SR) × SD
def lenM (j : Nat) : Nat := if j = 7 then 8 else if j = 8 then 4 else if j = 9 then 4 else if j = 10 then 240 else if j = 11 then 60 else 6
def fsM (B : Nat → Nat) (f : Nat → Int32) : List Value := [.int (f 0), .int (f 1), .int (f 2), .int (f 3), .ref (B 1), .ref (B 2), .ref (B 3), .int (f 7), .int (f 8), .int (f 9), .int (f 10), .int (f 11), .int (f 12), .ref (B 4), .ref (B 5), .ref (B 6), .int (f 16), .int (f 17), .ref (B 7), .ref (B 8), .ref (B 9), .ref (B 10), .ref (B 11), .int (f 23)]
def cM (E : EE) (B : Nat → Nat) (u : SM) : fw := fun j => if j = 0 then some (B 0, .inr (4, fsM B u.1)) else if j < 12 then some (B j, .inl (E.2 0, lenM j, .inl (u.2 j))) else none
def aM (B : Nat → Nat) : Nat → Prop := fun q => ∃ j, j < 12 ∧ q = B j
def iM (B : Nat → Nat) : Prop := ∀ i j, i < 12 → j < 12 → B i = B j → i = j
theorem cM_at {E : EE} {B : Nat → Nat} {u : SM} {j : Nat} {q : Nat × va_E} (h : cM E B u j = some q) : j < 12 ∧ q.1 = B j := by
  unfold cM at h
  split at h
  · rename_i h0; subst h0; cases h; exact ⟨by omega, rfl⟩
  · split at h
    · rename_i h1; cases h; exact ⟨h1, rfl⟩
    · cases h
theorem cM_I {E : EE} {B : Nat → Nat} (hB : iM B) (u : SM) : fI (cM E B u) := by
  intro i j p q hi hj hpq
  obtain ⟨h1, h2⟩ := cM_at hi
  obtain ⟨h3, h4⟩ := cM_at hj
  exact hB i j h1 h3 (by rw [← h2, ← h4]; exact hpq)
def WM (E : EE) (B : Nat → Nat) (u : SM) (s : State) (H : Heap) (locs : List Loc) : Prop := iM B ∧ fP E (cM E B u) H ∧ va_S (aM B) s.heap H locs
def fsD (B : Nat → Nat) (f : Nat → Int32) : List Value := [.ref (B 1), .ref (B 2), .ref (B 3), .int (f 3), .int (f 4), .int (f 5), .int (f 6)]
def cD (E : EE) (B : Nat → Nat) (u : SD) : fw := fun j => if j = 0 then some (B 0, .inr (1, fsD B u.1)) else if j = 1 then some (B 1, .inl (E.2 0, 6, .inl u.2.1)) else if j = 2 then some (B 2, .inl (E.2 1, 42, .inr (.inl u.2.2.1))) else if j = 3 then some (B 3, .inl (E.2 1, 448, .inr (.inl u.2.2.2))) else none
def aD (B : Nat → Nat) : Nat → Prop := fun q => ∃ j, j < 4 ∧ q = B j
def iD (B : Nat → Nat) : Prop := ∀ i j, i < 4 → j < 4 → B i = B j → i = j
theorem cD_at {E : EE} {B : Nat → Nat} {u : SD} {j : Nat} {q : Nat × va_E} (h : cD E B u j = some q) : j < 4 ∧ q.1 = B j := by
  unfold cD at h
  repeat' (split at h)
  all_goals first | (rename_i h0; subst h0; cases h; exact ⟨by omega, rfl⟩) | cases h
theorem cD_I {E : EE} {B : Nat → Nat} (hB : iD B) (u : SD) : fI (cD E B u) := by
  intro i j p q hi hj hpq
  obtain ⟨h1, h2⟩ := cD_at hi
  obtain ⟨h3, h4⟩ := cD_at hj
  exact hB i j h1 h3 (by rw [← h2, ← h4]; exact hpq)
def WD (E : EE) (B : Nat → Nat) (u : SD) (s : State) (H : Heap) (locs : List Loc) : Prop := iD B ∧ fP E (cD E B u) H ∧ va_S (aD B) s.heap H locs
def fsC (g : Nat → Int32) : List Value := [.int (g 0), .int (g 1), .int (g 2), .int (g 3)]
def cC (a : Nat) (g : Nat → Int32) : fw := fun j => if j = 0 then some (a, .inr (0, fsC g)) else none
def fsR (z : Nat) (g : Nat → Int32) : List Value := [.ref z, .int (g 1), .int (g 2), .int (g 3)]
def cR (E : EE) (y z : Nat) (r : SR) : fw := fun j => if j = 0 then some (y, .inr (2, fsR z r.1)) else if j = 1 then some (z, .inl (E.2 0, 60, .inl r.2)) else none
def fsX (B : Nat → Nat) (f : Nat → Int32) : List Value := [.ref (B 1), .int (f 1), .int (f 2), .int (f 3), .ref (B 2), .int (f 5), .ref (B 3), .ref (B 4), .int (f 8), .int (f 9)]
def cX (E : EE) (B : Nat → Nat) (u : SX) : fw := fun j =>
  if j = 0 then some (B 0, .inr (3, fsX B u.1))
  else if j = 1 then some (B 1, .inl (E.2 2, 6, .inr (.inr (.inr (.inr (fun k => some (B (8 + k))))))))
  else if j = 2 then some (B 2, .inl (E.2 0, 8, .inl u.2.1))
  else if j = 3 then some (B 3, .inl (E.2 3, 4, .inr (.inr (.inr (.inr (fun k => some (B (14 + k))))))))
  else if j < 8 then cD E (fun i => B (4 + i)) u.2.2.2.2 (j - 4)
  else if j < 14 then some (B j, .inr (0, fsC (u.2.2.1 (j - 8))))
  else if j < 18 then some (B j, .inr (2, fsR (B (j + 4)) (u.2.2.2.1 (j - 14)).1))
  else if j < 22 then some (B j, .inl (E.2 0, 60, .inl (u.2.2.2.1 (j - 18)).2))
  else none
theorem cX_at {E : EE} {B : Nat → Nat} {u : SX} {j : Nat} {q : Nat × va_E} (h : cX E B u j = some q) : q.1 = B j := by
  unfold cX at h
  by_cases h0 : j = 0
  · subst h0; cases h; rfl
  by_cases h1 : j = 1
  · subst h1; cases h; rfl
  by_cases h2 : j = 2
  · subst h2; cases h; rfl
  by_cases h3 : j = 3
  · subst h3; cases h; rfl
  rw [if_neg h0, if_neg h1, if_neg h2, if_neg h3] at h
  by_cases h8 : j < 8
  · rw [if_pos h8] at h
    have := (cD_at h).2
    rw [this]
    congr 1
    omega
  rw [if_neg h8] at h
  by_cases h14 : j < 14
  · rw [if_pos h14] at h; cases h; rfl
  rw [if_neg h14] at h
  by_cases h18 : j < 18
  · rw [if_pos h18] at h; cases h; rfl
  rw [if_neg h18] at h
  by_cases h22 : j < 22
  · rw [if_pos h22] at h; cases h; rfl
  rw [if_neg h22] at h
  cases h
def AX (E : EE) (B : Nat → Nat) (u : SX) (A : Nat → Prop) : Prop := ∀ (j : Nat) (q : Nat × va_E), cX E B u j = some q → A q.1
def WX (E : EE) (A : Nat → Prop) (B : Nat → Nat) (u : SX) (s : State) (H : Heap) (locs : List Loc) : Prop := fP E (cX E B u) H ∧ fI (cX E B u) ∧ AX E B u A ∧ va_S A s.heap H locs
def QX (E : EE) (A : Nat → Prop) (B : Nat → Nat) (u : SX) : Heap → Prop := fun H => fP E (cX E B u) H ∧ fI (cX E B u) ∧ AX E B u A
theorem cD_ex {E : EE} {B : Nat → Nat} (u v : SD) (j : Nat) : (cD E B u j).isSome = (cD E B v j).isSome := by
  unfold cD
  by_cases h0 : j = 0
  · simp only [h0, if_true]; rfl
  by_cases h1 : j = 1
  · subst h1; rfl
  by_cases h2 : j = 2
  · subst h2; rfl
  by_cases h3 : j = 3
  · subst h3; rfl
  simp only [h0, h1, h2, h3, if_false]
/-- the same places are there -/
theorem cX_ex {E : EE} {B : Nat → Nat} (u v : SX) (j : Nat) : (cX E B u j).isSome = (cX E B v j).isSome := by
  unfold cX
  repeat' split
  all_goals first | rfl | exact cD_ex _ _ _
theorem cX_mv {E : EE} {B : Nat → Nat} (u : SX) {v : SX} {j : Nat} {q : Nat × va_E} (hq : cX E B v j = some q) : ∃ q0, cX E B u j = some q0 ∧ q0.1 = q.1 := by
  have h1 := cX_ex (E := E) (B := B) u v j
  rw [hq] at h1
  obtain ⟨q0, h2⟩ := Option.isSome_iff_exists.mp (h1.trans rfl)
  exact ⟨q0, h2, by rw [cX_at h2, cX_at hq]⟩
theorem fI.sameX {E : EE} {B : Nat → Nat} {u v : SX} (hI : fI (cX E B u)) : fI (cX E B v) := by
  intro i j p q hi hj hpq
  obtain ⟨p0, h1, h2⟩ := cX_mv u hi
  obtain ⟨q0, h3, h4⟩ := cX_mv u hj
  exact hI i j p0 q0 h1 h3 (h2.trans (hpq.trans h4.symm))
theorem AX.same {E : EE} {B : Nat → Nat} {u v : SX} {A : Nat → Prop} (hA : AX E B u A) : AX E B v A := by
  intro j q hq
  obtain ⟨q0, h1, h2⟩ := cX_mv u hq
  rw [← h2]
  exact hA j q0 h1
theorem fP.drum {E : EE} {B : Nat → Nat} {u : SX} {H : Heap} (h : fP E (cX E B u) H) : fP E (cD E (fun i => B (4 + i)) u.2.2.2.2) H := by
  intro k q hk
  have h4 := (cD_at hk).1
  refine h (k + 4) q ?_
  unfold cX
  rw [if_neg (by omega), if_neg (by omega), if_neg (by omega), if_neg (by omega), if_pos (by omega), Nat.add_sub_cancel]
  exact hk
theorem fI.drum {E : EE} {B : Nat → Nat} {u : SX} (h : fI (cX E B u)) : iD (fun i => B (4 + i)) := by
  intro i j hi hj hij
  have e : ∀ k, k < 4 → ∃ q, cX E B u (k + 4) = some q ∧ q.1 = B (4 + k) := by
    intro k hk
    have h0 : ∃ q, cX E B u (k + 4) = some q := by
      unfold cX
      rw [if_neg (by omega), if_neg (by omega), if_neg (by omega), if_neg (by omega), if_pos (by omega), Nat.add_sub_cancel]
      rcases (show k = 0 ∨ k = 1 ∨ k = 2 ∨ k = 3 by omega) with rfl | rfl | rfl | rfl <;> exact ⟨_, rfl⟩
    obtain ⟨q, hq⟩ := h0
    exact ⟨q, hq, by rw [cX_at hq, Nat.add_comm]⟩
  obtain ⟨p, h1, h2⟩ := e i hi
  obtain ⟨q, h3, h4⟩ := e j hj
  have := h (i + 4) (j + 4) p q h1 h3 (by rw [h2, h4]; exact hij)
  omega
theorem AX.drum {E : EE} {B : Nat → Nat} {u : SX} {A : Nat → Prop} (h : AX E B u A) : ∀ q, aD (fun i => B (4 + i)) q → A q := by
  rintro q ⟨j, hj, rfl⟩
  have h0 : ∃ q, cX E B u (j + 4) = some q := by
    unfold cX
    rw [if_neg (by omega), if_neg (by omega), if_neg (by omega), if_neg (by omega), if_pos (by omega), Nat.add_sub_cancel]
    rcases (show j = 0 ∨ j = 1 ∨ j = 2 ∨ j = 3 by omega) with rfl | rfl | rfl | rfl <;> exact ⟨_, rfl⟩
  obtain ⟨q, hq⟩ := h0
  have := h (j + 4) q hq
  rw [cX_at hq, Nat.add_comm] at this
  exact this
/-- behind a call that changed the drum alone -/
theorem WX.join {E : EE} {A : Nat → Prop} {B : Nat → Nat} {u : SX} {d : SD} {s : State} {H H1 : Heap} {locs locs1 : List Loc} (h : WX E A B u s H locs) (hD : fP E (cD E (fun i => B (4 + i)) d) H1) (hk : ∀ q : Nat, q < H.size → ¬ aD (fun i => B (4 + i)) q → H1[q]? = H[q]?) (hS : va_S A s.heap H1 locs1) : WX E A B (u.1, u.2.1, u.2.2.1, u.2.2.2.1, d) s H1 locs1 := by
  obtain ⟨hP, hI, hA, -⟩ := h
  refine ⟨?_, hI.sameX (u := u) (v := (u.1, u.2.1, u.2.2.1, u.2.2.2.1, d)), hA.same (u := u) (v := (u.1, u.2.1, u.2.2.1, u.2.2.2.1, d)), hS⟩
  intro j q hq
  by_cases hj : 4 ≤ j ∧ j < 8
  · unfold cX at hq
    rw [if_neg (by omega), if_neg (by omega), if_neg (by omega), if_neg (by omega), if_pos (by omega)] at hq
    exact hD _ q hq
  · have hq0 : cX E B u j = some q := by
      rw [← hq]
      unfold cX
      by_cases h8 : j < 8
      · rcases (show j = 0 ∨ j = 1 ∨ j = 2 ∨ j = 3 by omega) with rfl | rfl | rfl | rfl <;> rfl
      · rw [if_neg (show ¬ j = 0 by omega), if_neg (show ¬ j = 1 by omega), if_neg (show ¬ j = 2 by omega), if_neg (show ¬ j = 3 by omega), if_neg h8]
        rw [if_neg (show ¬ j = 0 by omega), if_neg (show ¬ j = 1 by omega), if_neg (show ¬ j = 2 by omega), if_neg (show ¬ j = 3 by omega), if_neg h8]
    have hl := (hP j q hq0).lt
    refine (hP j q hq0).kept (hk _ hl ?_)
    rintro ⟨k, hk4, e⟩
    have h0 : ∃ q', cX E B u (k + 4) = some q' := by
      unfold cX
      rw [if_neg (by omega), if_neg (by omega), if_neg (by omega), if_neg (by omega), if_pos (by omega), Nat.add_sub_cancel]
      rcases (show k = 0 ∨ k = 1 ∨ k = 2 ∨ k = 3 by omega) with rfl | rfl | rfl | rfl <;> exact ⟨_, rfl⟩
    obtain ⟨q', hq'⟩ := h0
    have e2 := hI j (k + 4) q q' hq0 hq' (by rw [e, cX_at hq', Nat.add_comm])
    omega
theorem cX_cit {E : EE} {B : Nat → Nat} {u : SX} {k : Nat} (hk : k < 6) : cX E B u (8 + k) = some (B (8 + k), .inr (0, fsC (u.2.2.1 k))) := by
  unfold cX
  rw [if_neg (by omega), if_neg (by omega), if_neg (by omega), if_neg (by omega), if_neg (by omega), if_pos (by omega), Nat.add_sub_cancel_left]
theorem cX_row {E : EE} {B : Nat → Nat} {u : SX} {k : Nat} (hk : k < 4) : cX E B u (14 + k) = some (B (14 + k), .inr (2, fsR (B (18 + k)) (u.2.2.2.1 k).1)) := by
  unfold cX
  rw [if_neg (by omega), if_neg (by omega), if_neg (by omega), if_neg (by omega), if_neg (by omega), if_neg (by omega), if_pos (by omega), Nat.add_sub_cancel_left, show 14 + k + 4 = 18 + k by omega]
theorem cX_dat {E : EE} {B : Nat → Nat} {u : SX} {k : Nat} (hk : k < 4) : cX E B u (18 + k) = some (B (18 + k), .inl (E.2 0, 60, .inl (u.2.2.2.1 k).2)) := by
  unfold cX
  rw [if_neg (by omega), if_neg (by omega), if_neg (by omega), if_neg (by omega), if_neg (by omega), if_neg (by omega), if_neg (by omega), if_pos (by omega), Nat.add_sub_cancel_left]
theorem fP.cit {E : EE} {B : Nat → Nat} {u : SX} {H : Heap} {k : Nat} (h : fP E (cX E B u) H) (hk : k < 6) : fP E (cC (B (8 + k)) (u.2.2.1 k)) H := by
  intro j q hj
  unfold cC at hj
  split at hj
  · cases hj; exact h _ _ (cX_cit hk)
  · cases hj
theorem fP.row {E : EE} {B : Nat → Nat} {u : SX} {H : Heap} {k : Nat} (h : fP E (cX E B u) H) (hk : k < 4) : fP E (cR E (B (14 + k)) (B (18 + k)) (u.2.2.2.1 k)) H := by
  intro j q hj
  unfold cR at hj
  split at hj
  · cases hj; exact h _ _ (cX_row hk)
  · split at hj
    · cases hj; exact h _ _ (cX_dat hk)
    · cases hj
section WROWS
variable {p : Program} {l : Launch} {e : Env} {R : Room} {s : State} {m : MethodId} {args : Array Value} {below : List Frame} {meth : Method} {c : Code} {H : Heap} {locs : List Loc} {cells slots : Nat} {Q : State → Prop}
variable {cc : ByteArray} {pc nL : Nat} {ls : Array Slot} {rest : List Value} {E : EE} {A : Nat → Prop} {Ts : List Cond} {ret : Option FieldType} {own : String} {B : Nat → Nat}
-- the reference
theorem m_get {u : SM} (C0 : cx Ts cc nL ret RX5 E p s m args meth c) (hP : fP E (cM E B u) H) (hin : ∀ w ∈ wsX50, w ∈ Ts) (k : Nat) (hk : k < 24) {index : Nat} (hlink : Cond.fieldLink RX5 index (TX5 k).1 (TX5 k).2.1 (TX5 k).2.2.1 ∈ Ts) {v : Value} (hv : (fsM B u.1)[k]? = some v) (hdg : decode cc pc = .ok (.getfield index, 3))
    (kk : W p l e R s m args below meth c H locs cells slots Q (F0 m (pc + 3) ls (v :: rest))) : W p l e R s m args below meth c H locs cells slots Q (F0 m pc ls (.ref (B 0) :: rest)) := r_get C0 (hP 0 _ rfl) hin rfl k hk hlink hv hdg kk
theorem m_put {u : SM} (C0 : cx Ts cc nL ret RX5 E p s m args meth c) (hW : WM E B u s H locs) (hin : ∀ w ∈ wsX50, w ∈ Ts) (k : Nat) (hk : k < 24) {index : Nat} (hlink : Cond.fieldLink RX5 index (TX5 k).1 (TX5 k).2.1 (TX5 k).2.2.1 ∈ Ts) (hfin : (TX5 k).2.2.2 = false) (hd : parseFieldDescriptor (TX5 k).2.2.1 = some .int) {v : Int32} (hset : fsM B (upd u.1 k v) = (fsM B u.1).set k (.int v)) (hdg : decode cc pc = .ok (.putfield index, 3))
    (kk : ∀ (H1 : Heap) (locs1 : List Loc), WM E B (upd u.1 k v, u.2) s H1 locs1 → W p l e R s m args below meth c H1 locs1 cells slots Q (F0 m (pc + 3) ls rest)) : W p l e R s m args below meth c H locs cells slots Q (F0 m pc ls (.int v :: .ref (B 0) :: rest)) := by
  obtain ⟨hB, hP, hS⟩ := hW
  refine f_put C0 hP (cM_I hB u) hS 0 rfl ⟨0, by omega, rfl⟩ hin rfl tyX5 tyX5_ok nmX5 k hk hlink hfin hd rfl rfl hk (w' := cM E B (upd u.1 k v, u.2)) (fun i hi => by simp [cM, hi]) ?_ hdg (fun H1 locs1 h1 h2 => kk H1 locs1 ⟨hB, h1, h2⟩)
  show some (B 0, Sum.inr (4, fsM B (upd u.1 k v))) = _
  rw [hset]
theorem m_ald {u : SM} (C0 : cx Ts cc nL ret RX5 E p s m args meth c) (hP : fP E (cM E B u) H) (j n : Nat) (hj : cM E B u j = some (B j, .inl (E.2 0, n, .inl (u.2 j)))) {i : Int32} (hin : ¬ (i < 0 ∨ n ≤ i.toNatClampNeg)) (hdg : decode cc pc = .ok (.iaload, 1))
    (kk : W p l e R s m args below meth c H locs cells slots Q (F0 m (pc + 1) ls (.int (u.2 j i.toNatClampNeg) :: rest))) : W p l e R s m args below meth c H locs cells slots Q (F0 m pc ls (.int i :: .ref (B j) :: rest)) := r_iald C0 (hP j _ hj) hin hdg kk
theorem m_ast {u : SM} (C0 : cx Ts cc nL ret RX5 E p s m args meth c) (hW : WM E B u s H locs) (j n : Nat) (hj0 : ¬ j = 0) (hj12 : j < 12) (hn : lenM j = n) {i x : Int32} (hin : ¬ (i < 0 ∨ n ≤ i.toNatClampNeg)) (hdg : decode cc pc = .ok (.iastore, 1))
    (kk : ∀ (H1 : Heap) (locs1 : List Loc), WM E B (u.1, va_up u.2 j (upd (u.2 j) i.toNatClampNeg x)) s H1 locs1 → W p l e R s m args below meth c H1 locs1 cells slots Q (F0 m (pc + 1) ls rest)) : W p l e R s m args below meth c H locs cells slots Q (F0 m pc ls (.int x :: .int i :: .ref (B j) :: rest)) := by
  obtain ⟨hB, hP, hS⟩ := hW
  subst hn
  exact f_iast C0 hP (cM_I hB u) hS j (f := u.2 j) (n := lenM j) (by simp [cM, hj0, hj12]) ⟨j, hj12, rfl⟩ hin (w' := cM E B (u.1, va_up u.2 j (upd (u.2 j) i.toNatClampNeg x))) (fun i hi => by simp [cM, va_up, hi]) (by simp [cM, hj0, hj12, va_up]) hdg (fun H1 locs1 h1 h2 => kk H1 locs1 ⟨hB, h1, h2⟩)
-- the drum
theorem d_get {u : SD} (C0 : cx Ts cc nL ret RX1 E p s m args meth c) (hP : fP E (cD E B u) H) (hin : ∀ w ∈ wsX10, w ∈ Ts) (k : Nat) (hk : k < 7) {index : Nat} (hlink : Cond.fieldLink RX1 index (TX1 k).1 (TX1 k).2.1 (TX1 k).2.2.1 ∈ Ts) {v : Value} (hv : (fsD B u.1)[k]? = some v) (hdg : decode cc pc = .ok (.getfield index, 3))
    (kk : W p l e R s m args below meth c H locs cells slots Q (F0 m (pc + 3) ls (v :: rest))) : W p l e R s m args below meth c H locs cells slots Q (F0 m pc ls (.ref (B 0) :: rest)) := r_get C0 (hP 0 _ rfl) hin rfl k hk hlink hv hdg kk
theorem d_put {u : SD} (C0 : cx Ts cc nL ret RX1 E p s m args meth c) (hW : WD E B u s H locs) (hin : ∀ w ∈ wsX10, w ∈ Ts) (k : Nat) (hk : k < 7) {index : Nat} (hlink : Cond.fieldLink RX1 index (TX1 k).1 (TX1 k).2.1 (TX1 k).2.2.1 ∈ Ts) (hfin : (TX1 k).2.2.2 = false) (hd : parseFieldDescriptor (TX1 k).2.2.1 = some .int) {v : Int32} (hset : fsD B (upd u.1 k v) = (fsD B u.1).set k (.int v)) (hdg : decode cc pc = .ok (.putfield index, 3))
    (kk : ∀ (H1 : Heap) (locs1 : List Loc), WD E B (upd u.1 k v, u.2) s H1 locs1 → W p l e R s m args below meth c H1 locs1 cells slots Q (F0 m (pc + 3) ls rest)) : W p l e R s m args below meth c H locs cells slots Q (F0 m pc ls (.int v :: .ref (B 0) :: rest)) := by
  obtain ⟨hB, hP, hS⟩ := hW
  refine f_put C0 hP (cD_I hB u) hS 0 rfl ⟨0, by omega, rfl⟩ hin rfl tyX1 tyX1_ok nmX1 k hk hlink hfin hd rfl rfl hk (w' := cD E B (upd u.1 k v, u.2)) (fun i hi => by simp [cD, hi]) ?_ hdg (fun H1 locs1 h1 h2 => kk H1 locs1 ⟨hB, h1, h2⟩)
  show some (B 0, Sum.inr (1, fsD B (upd u.1 k v))) = _
  rw [hset]
theorem d_ald1 {u : SD} (C0 : cx Ts cc nL ret own E p s m args meth c) (hP : fP E (cD E B u) H) {i : Int32} (hin : ¬ (i < 0 ∨ 6 ≤ i.toNatClampNeg)) (hdg : decode cc pc = .ok (.iaload, 1))
    (kk : W p l e R s m args below meth c H locs cells slots Q (F0 m (pc + 1) ls (.int (u.2.1 i.toNatClampNeg) :: rest))) : W p l e R s m args below meth c H locs cells slots Q (F0 m pc ls (.int i :: .ref (B 1) :: rest)) := r_iald C0 (hP 1 _ rfl) hin hdg kk
theorem d_ald2 {u : SD} (C0 : cx Ts cc nL ret own E p s m args meth c) (hP : fP E (cD E B u) H) {i : Int32} (hin : ¬ (i < 0 ∨ 42 ≤ i.toNatClampNeg)) (hdg : decode cc pc = .ok (.laload, 1))
    (kk : W p l e R s m args below meth c H locs cells slots Q (F0 m (pc + 1) ls (.long (u.2.2.1 i.toNatClampNeg) :: rest))) : W p l e R s m args below meth c H locs cells slots Q (F0 m pc ls (.int i :: .ref (B 2) :: rest)) := r_lald C0 (hP 2 _ rfl) hin hdg kk
theorem d_ald3 {u : SD} (C0 : cx Ts cc nL ret own E p s m args meth c) (hP : fP E (cD E B u) H) {i : Int32} (hin : ¬ (i < 0 ∨ 448 ≤ i.toNatClampNeg)) (hdg : decode cc pc = .ok (.laload, 1))
    (kk : W p l e R s m args below meth c H locs cells slots Q (F0 m (pc + 1) ls (.long (u.2.2.2 i.toNatClampNeg) :: rest))) : W p l e R s m args below meth c H locs cells slots Q (F0 m pc ls (.int i :: .ref (B 3) :: rest)) := r_lald C0 (hP 3 _ rfl) hin hdg kk
theorem d_len1 {u : SD} (C0 : cx Ts cc nL ret own E p s m args meth c) (hP : fP E (cD E B u) H) (hdg : decode cc pc = .ok (.arraylength, 1))
    (kk : W p l e R s m args below meth c H locs cells slots Q (F0 m (pc + 1) ls (.int 6 :: rest))) : W p l e R s m args below meth c H locs cells slots Q (F0 m pc ls (.ref (B 1) :: rest)) := r_alen C0 (t0 := 0) (ty := .int) (hP 1 _ rfl) rfl hdg kk
theorem d_len2 {u : SD} (C0 : cx Ts cc nL ret own E p s m args meth c) (hP : fP E (cD E B u) H) (hdg : decode cc pc = .ok (.arraylength, 1))
    (kk : W p l e R s m args below meth c H locs cells slots Q (F0 m (pc + 1) ls (.int 42 :: rest))) : W p l e R s m args below meth c H locs cells slots Q (F0 m pc ls (.ref (B 2) :: rest)) := r_alen C0 (t0 := 1) (ty := .long) (hP 2 _ rfl) rfl hdg kk
theorem d_len3 {u : SD} (C0 : cx Ts cc nL ret own E p s m args meth c) (hP : fP E (cD E B u) H) (hdg : decode cc pc = .ok (.arraylength, 1))
    (kk : W p l e R s m args below meth c H locs cells slots Q (F0 m (pc + 1) ls (.int 448 :: rest))) : W p l e R s m args below meth c H locs cells slots Q (F0 m pc ls (.ref (B 3) :: rest)) := r_alen C0 (t0 := 1) (ty := .long) (hP 3 _ rfl) rfl hdg kk
theorem d_ast1 {u : SD} (C0 : cx Ts cc nL ret own E p s m args meth c) (hW : WD E B u s H locs) {i x : Int32} (hin : ¬ (i < 0 ∨ 6 ≤ i.toNatClampNeg)) (hdg : decode cc pc = .ok (.iastore, 1))
    (kk : ∀ (H1 : Heap) (locs1 : List Loc), WD E B (u.1, upd u.2.1 i.toNatClampNeg x, u.2.2) s H1 locs1 → W p l e R s m args below meth c H1 locs1 cells slots Q (F0 m (pc + 1) ls rest)) : W p l e R s m args below meth c H locs cells slots Q (F0 m pc ls (.int x :: .int i :: .ref (B 1) :: rest)) := by
  obtain ⟨hB, hP, hS⟩ := hW
  exact f_iast C0 hP (cD_I hB u) hS 1 (f := u.2.1) (n := 6) rfl ⟨1, by omega, rfl⟩ hin (w' := cD E B (u.1, upd u.2.1 i.toNatClampNeg x, u.2.2)) (fun i hi => by simp [cD, hi]) rfl hdg (fun H1 locs1 h1 h2 => kk H1 locs1 ⟨hB, h1, h2⟩)
theorem d_ast2 {u : SD} (C0 : cx Ts cc nL ret own E p s m args meth c) (hW : WD E B u s H locs) {i : Int32} {x : Int64} (hin : ¬ (i < 0 ∨ 42 ≤ i.toNatClampNeg)) (hdg : decode cc pc = .ok (.lastore, 1))
    (kk : ∀ (H1 : Heap) (locs1 : List Loc), WD E B (u.1, u.2.1, vp_updL u.2.2.1 i.toNatClampNeg x, u.2.2.2) s H1 locs1 → W p l e R s m args below meth c H1 locs1 cells slots Q (F0 m (pc + 1) ls rest)) : W p l e R s m args below meth c H locs cells slots Q (F0 m pc ls (.long x :: .int i :: .ref (B 2) :: rest)) := by
  obtain ⟨hB, hP, hS⟩ := hW
  exact f_last C0 hP (cD_I hB u) hS 2 (f := u.2.2.1) (n := 42) rfl ⟨2, by omega, rfl⟩ hin (w' := cD E B (u.1, u.2.1, vp_updL u.2.2.1 i.toNatClampNeg x, u.2.2.2)) (fun i hi => by simp [cD, hi]) rfl hdg (fun H1 locs1 h1 h2 => kk H1 locs1 ⟨hB, h1, h2⟩)
theorem d_ast3 {u : SD} (C0 : cx Ts cc nL ret own E p s m args meth c) (hW : WD E B u s H locs) {i : Int32} {x : Int64} (hin : ¬ (i < 0 ∨ 448 ≤ i.toNatClampNeg)) (hdg : decode cc pc = .ok (.lastore, 1))
    (kk : ∀ (H1 : Heap) (locs1 : List Loc), WD E B (u.1, u.2.1, u.2.2.1, vp_updL u.2.2.2 i.toNatClampNeg x) s H1 locs1 → W p l e R s m args below meth c H1 locs1 cells slots Q (F0 m (pc + 1) ls rest)) : W p l e R s m args below meth c H locs cells slots Q (F0 m pc ls (.long x :: .int i :: .ref (B 3) :: rest)) := by
  obtain ⟨hB, hP, hS⟩ := hW
  exact f_last C0 hP (cD_I hB u) hS 3 (f := u.2.2.2) (n := 448) rfl ⟨3, by omega, rfl⟩ hin (w' := cD E B (u.1, u.2.1, u.2.2.1, vp_updL u.2.2.2 i.toNatClampNeg x)) (fun i hi => by simp [cD, hi]) rfl hdg (fun H1 locs1 h1 h2 => kk H1 locs1 ⟨hB, h1, h2⟩)
-- a citizen, a row
theorem c_get {a : Nat} {g : Nat → Int32} (C0 : cx Ts cc nL ret own E p s m args meth c) (hP : fP E (cC a g) H) (hin : ∀ w ∈ wsX00, w ∈ Ts) (k : Nat) (hk : k < 4) {index : Nat} (hlink : Cond.fieldLink own index (TX0 k).1 (TX0 k).2.1 (TX0 k).2.2.1 ∈ Ts) {v : Value} (hv : (fsC g)[k]? = some v) (hdg : decode cc pc = .ok (.getfield index, 3))
    (kk : W p l e R s m args below meth c H locs cells slots Q (F0 m (pc + 3) ls (v :: rest))) : W p l e R s m args below meth c H locs cells slots Q (F0 m pc ls (.ref a :: rest)) := r_get C0 (hP 0 _ rfl) hin rfl k hk hlink hv hdg kk
theorem c_getN {a : Nat} {g : Nat → Int32} (C0 : cx Ts cc nL ret own E p s m args meth c) (hP : fP E (cC a g) H) (hin : ∀ w ∈ wsX00, w ∈ Ts) (k : Nat) (hk : k < 4) {index : Nat} (hlink : Cond.fieldLinkNest own index (TX0 k).1 (TX0 k).2.1 (TX0 k).2.2.1 "LoserDraws" ∈ nestW) {v : Value} (hv : (fsC g)[k]? = some v) (hdg : decode cc pc = .ok (.getfield index, 3))
    (kk : W p l e R s m args below meth c H locs cells slots Q (F0 m (pc + 3) ls (v :: rest))) : W p l e R s m args below meth c H locs cells slots Q (F0 m pc ls (.ref a :: rest)) := r_getN C0 (hP 0 _ rfl) hin rfl k hk hlink hv hdg kk
theorem w_get {y z : Nat} {r : SR} (C0 : cx Ts cc nL ret own E p s m args meth c) (hP : fP E (cR E y z r) H) (hin : ∀ w ∈ wsX20, w ∈ Ts) (k : Nat) (hk : k < 4) {index : Nat} (hlink : Cond.fieldLink own index (TX2 k).1 (TX2 k).2.1 (TX2 k).2.2.1 ∈ Ts) {v : Value} (hv : (fsR z r.1)[k]? = some v) (hdg : decode cc pc = .ok (.getfield index, 3))
    (kk : W p l e R s m args below meth c H locs cells slots Q (F0 m (pc + 3) ls (v :: rest))) : W p l e R s m args below meth c H locs cells slots Q (F0 m pc ls (.ref y :: rest)) := r_get C0 (hP 0 _ rfl) hin rfl k hk hlink hv hdg kk
theorem w_getN {y z : Nat} {r : SR} (C0 : cx Ts cc nL ret own E p s m args meth c) (hP : fP E (cR E y z r) H) (hin : ∀ w ∈ wsX20, w ∈ Ts) (k : Nat) (hk : k < 4) {index : Nat} (hlink : Cond.fieldLinkNest own index (TX2 k).1 (TX2 k).2.1 (TX2 k).2.2.1 "LoserDraws" ∈ nestW) {v : Value} (hv : (fsR z r.1)[k]? = some v) (hdg : decode cc pc = .ok (.getfield index, 3))
    (kk : W p l e R s m args below meth c H locs cells slots Q (F0 m (pc + 3) ls (v :: rest))) : W p l e R s m args below meth c H locs cells slots Q (F0 m pc ls (.ref y :: rest)) := r_getN C0 (hP 0 _ rfl) hin rfl k hk hlink hv hdg kk
theorem w_ald {y z : Nat} {r : SR} (C0 : cx Ts cc nL ret own E p s m args meth c) (hP : fP E (cR E y z r) H) {i : Int32} (hin : ¬ (i < 0 ∨ 60 ≤ i.toNatClampNeg)) (hdg : decode cc pc = .ok (.iaload, 1))
    (kk : W p l e R s m args below meth c H locs cells slots Q (F0 m (pc + 1) ls (.int (r.2 i.toNatClampNeg) :: rest))) : W p l e R s m args below meth c H locs cells slots Q (F0 m pc ls (.int i :: .ref z :: rest)) := r_iald C0 (hP 1 _ rfl) hin hdg kk
theorem w_len {y z : Nat} {r : SR} (C0 : cx Ts cc nL ret own E p s m args meth c) (hP : fP E (cR E y z r) H) (hdg : decode cc pc = .ok (.arraylength, 1))
    (kk : W p l e R s m args below meth c H locs cells slots Q (F0 m (pc + 1) ls (.int 60 :: rest))) : W p l e R s m args below meth c H locs cells slots Q (F0 m pc ls (.ref z :: rest)) := r_alen C0 (t0 := 0) (ty := .int) (hP 1 _ rfl) rfl hdg kk
-- the class
theorem x_get {u : SX} (C0 : cx Ts cc nL ret RX4 E p s m args meth c) (hP : fP E (cX E B u) H) (hin : ∀ w ∈ wsX40, w ∈ Ts) (k : Nat) (hk : k < 10) {index : Nat} (hlink : Cond.fieldLink RX4 index (TX4 k).1 (TX4 k).2.1 (TX4 k).2.2.1 ∈ Ts) {v : Value} (hv : (fsX B u.1)[k]? = some v) (hdg : decode cc pc = .ok (.getfield index, 3))
    (kk : W p l e R s m args below meth c H locs cells slots Q (F0 m (pc + 3) ls (v :: rest))) : W p l e R s m args below meth c H locs cells slots Q (F0 m pc ls (.ref (B 0) :: rest)) := r_get C0 (hP 0 _ rfl) hin rfl k hk hlink hv hdg kk
theorem x_put {u : SX} (C0 : cx Ts cc nL ret RX4 E p s m args meth c) (hW : WX E A B u s H locs) (hin : ∀ w ∈ wsX40, w ∈ Ts) (k : Nat) (hk : k < 10) {index : Nat} (hlink : Cond.fieldLink RX4 index (TX4 k).1 (TX4 k).2.1 (TX4 k).2.2.1 ∈ Ts) (hfin : (TX4 k).2.2.2 = false) (hd : parseFieldDescriptor (TX4 k).2.2.1 = some .int) {v : Int32} (hset : fsX B (upd u.1 k v) = (fsX B u.1).set k (.int v)) (hdg : decode cc pc = .ok (.putfield index, 3))
    (kk : ∀ (H1 : Heap) (locs1 : List Loc), WX E A B (upd u.1 k v, u.2) s H1 locs1 → W p l e R s m args below meth c H1 locs1 cells slots Q (F0 m (pc + 3) ls rest)) : W p l e R s m args below meth c H locs cells slots Q (F0 m pc ls (.int v :: .ref (B 0) :: rest)) := by
  obtain ⟨hP, hI, hA, hS⟩ := hW
  refine f_put C0 hP hI hS 0 rfl (hA 0 _ rfl) hin rfl tyX4 tyX4_ok nmX4 k hk hlink hfin hd rfl rfl hk (w' := cX E B (upd u.1 k v, u.2)) (fun i hi => by simp [cX, hi]) ?_ hdg (fun H1 locs1 h1 h2 => kk H1 locs1 ⟨h1, hI.sameX (u := u) (v := (upd u.1 k v, u.2)), hA.same (u := u) (v := (upd u.1 k v, u.2)), h2⟩)
  show some (B 0, Sum.inr (3, fsX B (upd u.1 k v))) = _
  rw [hset]
theorem x_ald {u : SX} (C0 : cx Ts cc nL ret own E p s m args meth c) (hP : fP E (cX E B u) H) {i : Int32} (hin : ¬ (i < 0 ∨ 8 ≤ i.toNatClampNeg)) (hdg : decode cc pc = .ok (.iaload, 1))
    (kk : W p l e R s m args below meth c H locs cells slots Q (F0 m (pc + 1) ls (.int (u.2.1 i.toNatClampNeg) :: rest))) : W p l e R s m args below meth c H locs cells slots Q (F0 m pc ls (.int i :: .ref (B 2) :: rest)) := r_iald C0 (hP 2 _ rfl) hin hdg kk
theorem x_len1 {u : SX} (C0 : cx Ts cc nL ret own E p s m args meth c) (hP : fP E (cX E B u) H) (hdg : decode cc pc = .ok (.arraylength, 1))
    (kk : W p l e R s m args below meth c H locs cells slots Q (F0 m (pc + 1) ls (.int 6 :: rest))) : W p l e R s m args below meth c H locs cells slots Q (F0 m pc ls (.ref (B 1) :: rest)) := r_alen C0 (t0 := 2) (ty := .object "LoserDraws$Citizen") (hP 1 _ rfl) rfl hdg kk
theorem x_len2 {u : SX} (C0 : cx Ts cc nL ret own E p s m args meth c) (hP : fP E (cX E B u) H) (hdg : decode cc pc = .ok (.arraylength, 1))
    (kk : W p l e R s m args below meth c H locs cells slots Q (F0 m (pc + 1) ls (.int 8 :: rest))) : W p l e R s m args below meth c H locs cells slots Q (F0 m pc ls (.ref (B 2) :: rest)) := r_alen C0 (t0 := 0) (ty := .int) (hP 2 _ rfl) rfl hdg kk
theorem x_ast {u : SX} (C0 : cx Ts cc nL ret own E p s m args meth c) (hW : WX E A B u s H locs) {i x : Int32} (hin : ¬ (i < 0 ∨ 8 ≤ i.toNatClampNeg)) (hdg : decode cc pc = .ok (.iastore, 1))
    (kk : ∀ (H1 : Heap) (locs1 : List Loc), WX E A B (u.1, upd u.2.1 i.toNatClampNeg x, u.2.2) s H1 locs1 → W p l e R s m args below meth c H1 locs1 cells slots Q (F0 m (pc + 1) ls rest)) : W p l e R s m args below meth c H locs cells slots Q (F0 m pc ls (.int x :: .int i :: .ref (B 2) :: rest)) := by
  obtain ⟨hP, hI, hA, hS⟩ := hW
  exact f_iast C0 hP hI hS 2 (f := u.2.1) (n := 8) rfl (hA 2 _ rfl) hin (w' := cX E B (u.1, upd u.2.1 i.toNatClampNeg x, u.2.2)) (fun i hi => by simp [cX, hi]) rfl hdg (fun H1 locs1 h1 h2 => kk H1 locs1 ⟨h1, hI.sameX (u := u) (v := (u.1, upd u.2.1 i.toNatClampNeg x, u.2.2)), hA.same (u := u) (v := (u.1, upd u.2.1 i.toNatClampNeg x, u.2.2)), h2⟩)
theorem x_aldC {u : SX} (C0 : cx Ts cc nL ret own E p s m args meth c) (hP : fP E (cX E B u) H) {i : Int32} (hin : ¬ (i < 0 ∨ 6 ≤ i.toNatClampNeg)) (hdg : decode cc pc = .ok (.aaload, 1))
    (kk : W p l e R s m args below meth c H locs cells slots Q (F0 m (pc + 1) ls (.ref (B (8 + i.toNatClampNeg)) :: rest))) : W p l e R s m args below meth c H locs cells slots Q (F0 m pc ls (.int i :: .ref (B 1) :: rest)) := r_aldC C0 (hP 1 _ rfl) hin hdg kk
theorem x_len3 {u : SX} (C0 : cx Ts cc nL ret own E p s m args meth c) (hP : fP E (cX E B u) H) (hdg : decode cc pc = .ok (.arraylength, 1))
    (kk : W p l e R s m args below meth c H locs cells slots Q (F0 m (pc + 1) ls (.int 4 :: rest))) : W p l e R s m args below meth c H locs cells slots Q (F0 m pc ls (.ref (B 3) :: rest)) := r_alen C0 (t0 := 3) (ty := .object "LoserDraws$Row") (hP 3 _ rfl) rfl hdg kk
theorem x_aldR {u : SX} (C0 : cx Ts cc nL ret own E p s m args meth c) (hP : fP E (cX E B u) H) {i : Int32} (hin : ¬ (i < 0 ∨ 4 ≤ i.toNatClampNeg)) (hdg : decode cc pc = .ok (.aaload, 1))
    (kk : W p l e R s m args below meth c H locs cells slots Q (F0 m (pc + 1) ls (.ref (B (14 + i.toNatClampNeg)) :: rest))) : W p l e R s m args below meth c H locs cells slots Q (F0 m pc ls (.int i :: .ref (B 3) :: rest)) := r_aldR C0 (hP 3 _ rfl) hin hdg kk
end WROWS
