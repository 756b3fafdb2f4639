theorem z_01 {v : Int32} (h : v &&& 1 = v) : v = 0 ∨ v = 1 := by
  have h1 := pk_and v (m := 1) 1 (by decide)
  rw [h] at h1
  rcases (show v.toBitVec.toNat % 2 ^ 1 = 0 ∨ v.toBitVec.toNat % 2 ^ 1 = 1 by omega) with e | e
  · exact Or.inl (h1.trans (by rw [e]; rfl))
  · exact Or.inr (h1.trans (by rw [e]; rfl))
theorem z_fit {v : Int32} (h : v &&& 1 = v) : fits .boolean (.int v) = true := by
  rcases z_01 h with rfl | rfl <;> rfl
section NPUT
variable {p : Program} {l : Launch} {e : Env} {R : Room} {s : State} {m : MethodId} {args : Array Value} {below : List Frame} {meth : Method} {c : Code} {H : Heap} {locs : List Loc} {cells slots : Nat} {Q : State → Prop}
variable {cc : ByteArray} {pc nL : Nat} {ls : Array Slot} {rest : List Value} {E : EE} {A : Nat → Prop} {Ts : List Cond} {ret : Option FieldType} {own : String} {B : Nat → Nat}
theorem f_putN (C0 : cx Ts cc nL ret own E p s m args meth c) {C : String} {T : u_T} {N ci a : Nat} {fs : List Value} {w w' : fw} (hP : fP E w H) (hI : fI w) (hS : va_S A s.heap H locs) (j : Nat) (he : w j = some (a, .inr (ci, fs))) (hAa : A a) (hin : ∀ w ∈ u_ws C T N, w ∈ Ts) (hc : vwCl[ci]? = some (C, T, N)) (ty0 : Nat → FieldType) (hty : ∀ k, k < N → parseFieldDescriptor (T k).2.2.1 = some (ty0 k)) (hnm : ∀ a, a < N → ∀ b, b < N → a ≠ b → (T a).2.1 ≠ (T b).2.1) (k : Nat) (hk : k < N) {index : Nat} (hlink : Cond.fieldLinkNest own index (T k).1 (T k).2.1 (T k).2.2.1 "LoserDraws" ∈ nestW) (hfin : (T k).2.2.2 = false) {ty : FieldType} {v : Value} (hd : parseFieldDescriptor (T k).2.2.1 = some ty) (hn : narrow ty v = v) (hfit : fits ty v = true) (hl : k < fs.length) (hw : ∀ i, i ≠ j → w' i = w i) (hw2 : w' j = some (a, .inr (ci, fs.set k v)))
    (hdg : decode cc pc = .ok (.putfield index, 3)) (kk : ∀ (H1 : Heap) (locs1 : List Loc), fP E w' H1 → va_S A s.heap H1 locs1 → W p l e R s m args below meth c H1 locs1 cells slots Q (F0 m (pc + 3) ls rest)) : W p l e R s m args below meth c H locs cells slots Q (F0 m pc ls (v :: .ref a :: rest)) := by
  obtain ⟨hx, hb, hr, hml, hown, hts, hlk, hK⟩ := C0
  have hap := va_apart (own := own) hts hin ty0 hty hnm hK.1 hc
  obtain ⟨r, h1, cell, q1, q2, q3, q4⟩ := hP j _ he
  have hr : r = (C, T, N) := Option.some.inj (h1.symm.trans hc)
  subst hr
  obtain ⟨hS1, hfc, kC, hkC, hkind⟩ := hK.1.1 ci _ hc
  obtain ⟨cf, kf, fi, f, hi, hsl⟩ := hS1 k hk
  have hlay := hts _ (hin _ (u_in_lay hk))
  unfold u_lay at hlay
  rw [if_neg (by rw [hfin]; decide)] at hlay
  have hst := (u_facts hfc hkC (u_lays hts hin hk) hi).1
  have h6 := u_store hfc hkC hkind hlay hi hd hn hfit
  refine va_WputK hx hb (f := f) hown (va_Nw.use (nestW_on _ hlink) (hK.2 _ hlink)) hi hst (by rw [q2]; exact h6) q1 q3 (by rw [hsl]; exact k2_hasslot (q4 k hk)) rfl rfl hdg fun H' e1 e2 e3 => ?_
  rw [hsl] at e1 ⊢
  exact kk H' _ (fP.set (e := .inr (ci, fs.set k v)) hP hI he ⟨_, hc, t_OB.to (V := updV (vp_V fs) k v) ⟨_, e1, q2, q3, t_set q4 hap hk v⟩ (fun j _ => vp_updV_set hl v j)⟩ e3 hw hw2) (hS.put e2 e3 hAa)
theorem cX_citup {u : SX} {k : Nat} (hk : k < 6) (g : Nat → Int32) : (∀ j, j ≠ 8 + k → cX E B (u.1, u.2.1, va_up u.2.2.1 k g, u.2.2.2) j = cX E B u j) ∧ cX E B (u.1, u.2.1, va_up u.2.2.1 k g, u.2.2.2) (8 + k) = some (B (8 + k), .inr (0, fsC g)) := by
  constructor
  · intro j hj
    unfold cX
    by_cases h14 : j < 14
    · by_cases h8 : j < 8
      · rcases (show j = 0 ∨ j = 1 ∨ j = 2 ∨ j = 3 ∨ 4 ≤ j by omega) with rfl | rfl | rfl | rfl | h <;> first | rfl | skip
        simp only [h8, if_true]
      · have h9 : ¬ j - 8 = k := by omega
        simp [va_up, h8, h9]
    · simp [show ¬ j < 8 by omega, h14]
  · rw [cX_cit hk]
    simp [va_up]
theorem x_putC {u : SX} {kc : Nat} (C0 : cx Ts cc nL ret own E p s m args meth c) (hW : WX E A B u s H locs) (hkc : kc < 6) (hin : ∀ w ∈ wsX00, w ∈ Ts) (k : Nat) (hk : k < 4) {index : Nat} (hlink : Cond.fieldLinkNest own index (TX0 k).1 (TX0 k).2.1 (TX0 k).2.2.1 "LoserDraws" ∈ nestW) (hd : parseFieldDescriptor (TX0 k).2.2.1 = some .int) (hfin : (TX0 k).2.2.2 = false) {v : Int32} (hset : ∀ g, fsC (upd g k v) = (fsC g).set k (.int v)) (hdg : decode cc pc = .ok (.putfield index, 3))
    (kk : ∀ (H1 : Heap) (locs1 : List Loc), WX E A B (u.1, u.2.1, va_up u.2.2.1 kc (upd (u.2.2.1 kc) k v), u.2.2.2) s H1 locs1 → W p l e R s m args below meth c H1 locs1 cells slots Q (F0 m (pc + 3) ls rest)) : W p l e R s m args below meth c H locs cells slots Q (F0 m pc ls (.int v :: .ref (B (8 + kc)) :: rest)) := by
  obtain ⟨hP, hI, hA, hS⟩ := hW
  obtain ⟨h1, h2⟩ := cX_citup (E := E) (B := B) (u := u) hkc (upd (u.2.2.1 kc) k v)
  rw [hset] at h2
  exact f_putN C0 hP hI hS (8 + kc) (cX_cit hkc) (hA _ _ (cX_cit hkc)) hin rfl tyX0 tyX0_ok nmX0 k hk hlink hfin hd rfl rfl hk h1 h2 hdg (fun H1 locs1 h3 h4 => kk H1 locs1 ⟨h3, hI.sameX (u := u) (v := (u.1, u.2.1, va_up u.2.2.1 kc (upd (u.2.2.1 kc) k v), u.2.2.2)), hA.same (u := u) (v := (u.1, u.2.1, va_up u.2.2.1 kc (upd (u.2.2.1 kc) k v), u.2.2.2)), h4⟩)
theorem x_putCZ {u : SX} {kc : Nat} (C0 : cx Ts cc nL ret own E p s m args meth c) (hW : WX E A B u s H locs) (hkc : kc < 6) (hin : ∀ w ∈ wsX00, w ∈ Ts) {v : Int32} (hz : v &&& 1 = v) (k : Nat) (hk : k < 4) {index : Nat} (hlink : Cond.fieldLinkNest own index (TX0 k).1 (TX0 k).2.1 (TX0 k).2.2.1 "LoserDraws" ∈ nestW) (hd : parseFieldDescriptor (TX0 k).2.2.1 = some .boolean) (hfin : (TX0 k).2.2.2 = false) (hset : ∀ g, fsC (upd g k v) = (fsC g).set k (.int v)) (hdg : decode cc pc = .ok (.putfield index, 3))
    (kk : ∀ (H1 : Heap) (locs1 : List Loc), WX E A B (u.1, u.2.1, va_up u.2.2.1 kc (upd (u.2.2.1 kc) k v), u.2.2.2) s H1 locs1 → W p l e R s m args below meth c H1 locs1 cells slots Q (F0 m (pc + 3) ls rest)) : W p l e R s m args below meth c H locs cells slots Q (F0 m pc ls (.int v :: .ref (B (8 + kc)) :: rest)) := by
  obtain ⟨hP, hI, hA, hS⟩ := hW
  obtain ⟨h1, h2⟩ := cX_citup (E := E) (B := B) (u := u) hkc (upd (u.2.2.1 kc) k v)
  rw [hset] at h2
  exact f_putN C0 hP hI hS (8 + kc) (cX_cit hkc) (hA _ _ (cX_cit hkc)) hin rfl tyX0 tyX0_ok nmX0 k hk hlink hfin hd (z_nar hz) (z_fit hz) hk h1 h2 hdg (fun H1 locs1 h3 h4 => kk H1 locs1 ⟨h3, hI.sameX (u := u) (v := (u.1, u.2.1, va_up u.2.2.1 kc (upd (u.2.2.1 kc) k v), u.2.2.2)), hA.same (u := u) (v := (u.1, u.2.1, va_up u.2.2.1 kc (upd (u.2.2.1 kc) k v), u.2.2.2)), h4⟩)
end NPUT
section DAST
variable {p : Program} {l : Launch} {e : Env} {R : Room} {s : State} {m : MethodId} {args : Array Value} {below : List Frame} {meth : Method} {c : Code} {H : Heap} {locs : List Loc} {cells slots : Nat} {Q : State → Prop}
variable {cc : ByteArray} {pc nL : Nat} {ls : Array Slot} {rest : List Value} {E : EE} {A : Nat → Prop} {Ts : List Cond} {ret : Option FieldType} {own : String} {B : Nat → Nat}
/-- the class with other sheets -/
def xsh (u : SX) (h : Nat → SR) : SX := (u.1, u.2.1, u.2.2.1, h, u.2.2.2.2)
theorem cX_rowup {u : SX} {k : Nat} (hk : k < 4) (g : Nat → Int32) : (∀ j, j ≠ 14 + k → cX E B (xsh u (va_up u.2.2.2.1 k (g, (u.2.2.2.1 k).2))) j = cX E B u j) ∧ cX E B (xsh u (va_up u.2.2.2.1 k (g, (u.2.2.2.1 k).2))) (14 + k) = some (B (14 + k), .inr (2, fsR (B (18 + k)) g)) := by
  constructor
  · intro j hj
    unfold cX xsh
    dsimp only
    by_cases h14 : j < 14
    · by_cases h8 : j < 8
      · simp only [h8, if_true]
      · simp only [h8, h14, if_false, if_true]
    · by_cases h18 : j < 18
      · have h9 : ¬ j - 14 = k := by omega
        simp [show ¬ j < 8 by omega, h14, h18, va_up, h9]
      · by_cases hjk : j - 18 = k
        · subst hjk
          simp [show ¬ j < 8 by omega, h14, h18, va_up]
        · simp [show ¬ j < 8 by omega, h14, h18, va_up, hjk]
  · rw [cX_row hk]
    simp [xsh, va_up]
theorem cX_datup {u : SX} {k : Nat} (hk : k < 4) (f : Nat → Int32) : (∀ j, j ≠ 18 + k → cX E B (xsh u (va_up u.2.2.2.1 k ((u.2.2.2.1 k).1, f))) j = cX E B u j) ∧ cX E B (xsh u (va_up u.2.2.2.1 k ((u.2.2.2.1 k).1, f))) (18 + k) = some (B (18 + k), .inl (E.2 0, 60, .inl f)) := by
  constructor
  · intro j hj
    unfold cX xsh
    dsimp only
    by_cases h14 : j < 14
    · by_cases h8 : j < 8
      · simp only [h8, if_true]
      · simp only [h8, h14, if_false, if_true]
    · by_cases h18 : j < 18
      · by_cases hjk : j - 14 = k
        · subst hjk
          simp [show ¬ j < 8 by omega, h14, h18, va_up]
        · simp [show ¬ j < 8 by omega, h14, h18, va_up, hjk]
      · have h9 : ¬ j - 18 = k := by omega
        simp [show ¬ j < 8 by omega, h14, h18, va_up, h9]
  · rw [cX_dat hk]
    simp [xsh, va_up]
theorem x_dast {u : SX} {k : Nat} (C0 : cx Ts cc nL ret own E p s m args meth c) (hW : WX E A B u s H locs) (hk : k < 4) {i x : Int32} (hin : ¬ (i < 0 ∨ 60 ≤ i.toNatClampNeg)) (hdg : decode cc pc = .ok (.iastore, 1))
    (kk : ∀ (H1 : Heap) (locs1 : List Loc), WX E A B (u.1, u.2.1, u.2.2.1, va_up u.2.2.2.1 k ((u.2.2.2.1 k).1, upd (u.2.2.2.1 k).2 i.toNatClampNeg x), u.2.2.2.2) s H1 locs1 → W p l e R s m args below meth c H1 locs1 cells slots Q (F0 m (pc + 1) ls rest)) : W p l e R s m args below meth c H locs cells slots Q (F0 m pc ls (.int x :: .int i :: .ref (B (18 + k)) :: rest)) := by
  obtain ⟨hP, hI, hA, hS⟩ := hW
  obtain ⟨h1, h2⟩ := cX_datup (E := E) (B := B) (u := u) hk (upd (u.2.2.2.1 k).2 i.toNatClampNeg x)
  exact f_iast C0 hP hI hS (18 + k) (f := (u.2.2.2.1 k).2) (n := 60) (cX_dat hk) (hA _ _ (cX_dat hk)) hin h1 h2 hdg (fun H1 locs1 h3 h4 => kk H1 locs1 ⟨h3, hI.sameX (u := u), hA.same (u := u), h4⟩)
theorem x_putR {u : SX} {kr : Nat} (C0 : cx Ts cc nL ret own E p s m args meth c) (hW : WX E A B u s H locs) (hkr : kr < 4) (hin : ∀ w ∈ wsX20, w ∈ Ts) {v : Int32} (k : Nat) (hk : k < 4) {index : Nat} (hlink : Cond.fieldLink own index (TX2 k).1 (TX2 k).2.1 (TX2 k).2.2.1 ∈ Ts) (hd : parseFieldDescriptor (TX2 k).2.2.1 = some .int) (hfin : (TX2 k).2.2.2 = false) (hset : ∀ z g, fsR z (upd g k v) = (fsR z g).set k (.int v)) (hdg : decode cc pc = .ok (.putfield index, 3))
    (kk : ∀ (H1 : Heap) (locs1 : List Loc), WX E A B (u.1, u.2.1, u.2.2.1, va_up u.2.2.2.1 kr (upd (u.2.2.2.1 kr).1 k v, (u.2.2.2.1 kr).2), u.2.2.2.2) s H1 locs1 → W p l e R s m args below meth c H1 locs1 cells slots Q (F0 m (pc + 3) ls rest)) : W p l e R s m args below meth c H locs cells slots Q (F0 m pc ls (.int v :: .ref (B (14 + kr)) :: rest)) := by
  obtain ⟨hP, hI, hA, hS⟩ := hW
  obtain ⟨h1, h2⟩ := cX_rowup (E := E) (B := B) (u := u) hkr (upd (u.2.2.2.1 kr).1 k v)
  rw [hset] at h2
  exact f_put C0 hP hI hS (14 + kr) (cX_row hkr) (hA _ _ (cX_row hkr)) hin rfl tyX2 tyX2_ok nmX2 k hk hlink hfin hd rfl rfl hk h1 h2 hdg (fun H1 locs1 h3 h4 => kk H1 locs1 ⟨h3, hI.sameX (u := u), hA.same (u := u), h4⟩)
theorem x_putRZ {u : SX} {kr : Nat} (C0 : cx Ts cc nL ret own E p s m args meth c) (hW : WX E A B u s H locs) (hkr : kr < 4) (hin : ∀ w ∈ wsX20, w ∈ Ts) {v : Int32} (hz : v &&& 1 = v) (k : Nat) (hk : k < 4) {index : Nat} (hlink : Cond.fieldLink own index (TX2 k).1 (TX2 k).2.1 (TX2 k).2.2.1 ∈ Ts) (hd : parseFieldDescriptor (TX2 k).2.2.1 = some .boolean) (hfin : (TX2 k).2.2.2 = false) (hset : ∀ z g, fsR z (upd g k v) = (fsR z g).set k (.int v)) (hdg : decode cc pc = .ok (.putfield index, 3))
    (kk : ∀ (H1 : Heap) (locs1 : List Loc), WX E A B (u.1, u.2.1, u.2.2.1, va_up u.2.2.2.1 kr (upd (u.2.2.2.1 kr).1 k v, (u.2.2.2.1 kr).2), u.2.2.2.2) s H1 locs1 → W p l e R s m args below meth c H1 locs1 cells slots Q (F0 m (pc + 3) ls rest)) : W p l e R s m args below meth c H locs cells slots Q (F0 m pc ls (.int v :: .ref (B (14 + kr)) :: rest)) := by
  obtain ⟨hP, hI, hA, hS⟩ := hW
  obtain ⟨h1, h2⟩ := cX_rowup (E := E) (B := B) (u := u) hkr (upd (u.2.2.2.1 kr).1 k v)
  rw [hset] at h2
  exact f_put C0 hP hI hS (14 + kr) (cX_row hkr) (hA _ _ (cX_row hkr)) hin rfl tyX2 tyX2_ok nmX2 k hk hlink hfin hd (z_nar hz) (z_fit hz) hk h1 h2 hdg (fun H1 locs1 h3 h4 => kk H1 locs1 ⟨h3, hI.sameX (u := u), hA.same (u := u), h4⟩)
end DAST
