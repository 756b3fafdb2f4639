theorem fP.set2 {E : EE} {w w' : fw} {k a : Nat} {e0 e : va_E} {H H1 : Heap} (h : fP E w H) (hI : fI w) (hk : w k = some (a, e0)) (he : va_at E.1 vwCl (a, e) H1) (oq : ∀ q : Nat, q ≠ a → H1[q]? = H[q]?) (hw : ∀ j q, j ≠ k → w' j = some q → w j = some q) (hk2 : w' k = some (a, e)) : fP E w' H1 := by
  intro j q hj
  by_cases hjk : j = k
  · subst hjk
    rw [hk2] at hj
    cases hj
    exact he
  · have hj2 := hw j q hjk hj
    exact (h j q hj2).kept (oq q.1 (fun z => hjk (hI j k q (a, e0) hj2 hk z)))
section ROWS2
variable {p : Program} {l : Launch} {e : Env} {R : Room} {s : State} {m : MethodId} {args : Array Value} {below : List Frame} {meth : Method} {c : Code} {H : Heap} {locs : List Loc} {cells slots : Nat} {Q : State → Prop}
variable {cc : ByteArray} {pc nL : Nat} {ls : Array Slot} {rest : List Value} {E : EE} {A : Nat → Prop} {Ts : List Cond} {ret : Option FieldType} {own : String} {B : Nat → Nat}
theorem shf_none {h : Nat → Option SR} {k : Nat} : shf B (va_up h k none) = va_up (shf B h) k none := by
  funext j
  by_cases hj : j = k
  · subst hj; simp [shf, va_up]
  · simp [shf, va_up, hj]
/-- a sheet has nothing any more: the other places are as they were, or gone -/
theorem cX_lose {u : SX} {k : Nat} : ∀ j q, j ≠ 3 → cX E B (xsh u (va_up u.2.2.2.1 k none)) j = some q → cX E B u j = some q := by
  intro j q hj3 hj
  unfold cX xsh at hj
  unfold cX
  dsimp only at hj
  by_cases h14 : j < 14
  · by_cases h8 : j < 8
    · simp only [h8, hj3, if_true, if_false] at hj ⊢
      exact hj
    · simp only [h8, h14, hj3, if_true, if_false] at hj ⊢
      exact hj
  · by_cases h18 : j < 18
    · by_cases hjk : j - 14 = k
      · subst hjk
        simp [show ¬ j = 0 by omega, show ¬ j = 1 by omega, show ¬ j = 2 by omega, hj3, show ¬ j < 8 by omega, h14, h18, va_up] at hj
      · simp [show ¬ j = 0 by omega, show ¬ j = 1 by omega, show ¬ j = 2 by omega, hj3, show ¬ j < 8 by omega, h14, h18, va_up, hjk] at hj ⊢
        exact hj
    · by_cases h22 : j < 22
      · by_cases hjk : j - 18 = k
        · subst hjk
          simp [show ¬ j = 0 by omega, show ¬ j = 1 by omega, show ¬ j = 2 by omega, hj3, show ¬ j < 8 by omega, h14, h18, h22, va_up] at hj
        · simp [show ¬ j = 0 by omega, show ¬ j = 1 by omega, show ¬ j = 2 by omega, hj3, show ¬ j < 8 by omega, h14, h18, h22, va_up, hjk] at hj ⊢
          exact hj
      · simp [show ¬ j = 0 by omega, show ¬ j = 1 by omega, show ¬ j = 2 by omega, hj3, show ¬ j < 8 by omega, h14, h18, h22] at hj
theorem x_astN {u : SX} (C0 : cx Ts cc nL ret own E p s m args meth c) (hW : WX E A B u s H locs) {i : Int32} (hin : ¬ (i < 0 ∨ 4 ≤ i.toNatClampNeg)) (hdg : decode cc pc = .ok (.aastore, 1))
    (kk : ∀ (H1 : Heap) (locs1 : List Loc), WX E A B (u.1, u.2.1, u.2.2.1, va_up u.2.2.2.1 i.toNatClampNeg none, u.2.2.2.2) s H1 locs1 → W p l e R s m args below meth c H1 locs1 cells slots Q (F0 m (pc + 1) ls rest)) : W p l e R s m args below meth c H locs cells slots Q (F0 m pc ls (.null :: .int i :: .ref (B 3) :: rest)) := by
  obtain ⟨hP, hI, hA, hS⟩ := hW
  obtain ⟨hx, hb, hr, hml, hown, hts, hlk, hK⟩ := C0
  refine va_WaastN (C := "LoserDraws$Row") hx hb (hP 3 _ rfl) ((hK.1.2 3 _ rfl).1 4 (fun j => va_rf (shf B u.2.2.2.1 j))) (fun h => by cases h) (by show ¬ (i < 0 ∨ (arrV _ _ _).slots.size ≤ _); rw [arrV_size]; exact hin) rfl rfl hdg fun H1 e1 z oq => ?_
  refine kk H1 _ ⟨?_, ?_, ?_, hS.put z oq (hA 3 _ rfl)⟩
  · refine fP.set2 (w' := cX E B (xsh u (va_up u.2.2.2.1 i.toNatClampNeg none))) (k := 3) (a := B 3) (e := .inl (E.2 3, 4, .inr (.inr (.inr (.inr (shf B (va_up u.2.2.2.1 i.toNatClampNeg none))))))) hP hI rfl ?_ oq cX_lose rfl
    show H1[B 3]? = some (vp_cell _ _)
    rw [e1, vp_cell_q, vp_cell_q, arrV_store, shf_none]
    congr 2
    funext q
    by_cases hq : q = i.toNatClampNeg
    · subst hq
      simp [updV, va_up, va_rf]
    · simp [updV, va_up, hq]
  · intro a b x y ha hb2 hxy
    have key : ∀ j q, cX E B (xsh u (va_up u.2.2.2.1 i.toNatClampNeg none)) j = some q → ∃ q0, cX E B u j = some q0 ∧ q0.1 = q.1 := by
      intro j q hj
      by_cases h3 : j = 3
      · subst h3; exact ⟨_, rfl, (cX_at hj).symm⟩
      · exact ⟨q, cX_lose j q h3 hj, rfl⟩
    obtain ⟨x0, h1, h2⟩ := key a x ha
    obtain ⟨y0, h3, h4⟩ := key b y hb2
    exact hI a b x0 y0 h1 h3 (h2.trans (hxy.trans h4.symm))
  · intro j q hj
    by_cases h3 : j = 3
    · subst h3
      rw [cX_at hj]
      exact hA 3 _ rfl
    · exact hA j q (cX_lose j q h3 hj)
theorem x_copy {u : SX} {k1 k2 : Nat} {r1 r2 : SR} (C0 : cx Ts cc nL ret own E p s m args meth c) (hW : WX E A B u s H locs) (hls : ls.size = nL) (hk1 : k1 < 4) (hr1 : u.2.2.2.1 k1 = some r1) (hk2 : k2 < 4) (hr2 : u.2.2.2.1 k2 = some r2) {index : Nat} (t1 : Cond.methodLink own index arraycopyName ∈ Ts) (t2 : Cond.native arraycopyName ∈ Ts) (t3 : Cond.static arraycopyName ∈ Ts) (t4 : Cond.initialized "java/lang/System" ∈ Ts) {sp dp n : Int32} (hg : ¬ (sp < 0 ∨ dp < 0 ∨ n < 0 ∨ r1.2.1 < sp.toNatClampNeg + n.toNatClampNeg ∨ r2.2.1 < dp.toNatClampNeg + n.toNatClampNeg))
    (hframes : 1 ≤ R.frames) (hlocals : (rest.map fun v => v.category).sum + (nativeFrameWords "java/lang/System" "arraycopy" 5 + 11) ≤ R.locals) (hdg : decode cc pc = .ok (.invokestatic index, 3))
    (kk : ∀ (H1 : Heap) (locs1 : List Loc), WX E A B (u.1, u.2.1, u.2.2.1, va_up u.2.2.2.1 k2 (some (r2.1, r2.2.1, va_cpy r1.2.2 r2.2.2 sp.toNatClampNeg dp.toNatClampNeg n.toNatClampNeg)), u.2.2.2.2) s H1 locs1 → W p l e R s m args below meth c H1 locs1 cells slots Q (F0 m (pc + 3) ls rest)) : W p l e R s m args below meth c H locs cells slots Q (F0 m pc ls (.int n :: .int dp :: .ref (B (18 + k2)) :: .int sp :: .ref (B (18 + k1)) :: rest)) := by
  obtain ⟨hP, hI, hA, hS⟩ := hW
  obtain ⟨hx, hb, hr, hml, hown, hts, hlk, hK⟩ := C0
  have h1 : ¬ sp < 0 := fun z => hg (Or.inl z)
  have h2 : ¬ dp < 0 := fun z => hg (Or.inr (Or.inl z))
  have h3 : ¬ n < 0 := fun z => hg (Or.inr (Or.inr (Or.inl z)))
  have h4 : sp.toNatClampNeg + n.toNatClampNeg ≤ r1.2.1 := Nat.not_lt.mp fun z => hg (Or.inr (Or.inr (Or.inr (Or.inl z))))
  have h5 : dp.toNatClampNeg + n.toNatClampNeg ≤ r2.2.1 := Nat.not_lt.mp fun z => hg (Or.inr (Or.inr (Or.inr (Or.inr z))))
  have c1 := cX_dat (E := E) (B := B) (u := u) hk1 hr1
  have c2 := cX_dat (E := E) (B := B) (u := u) hk2 hr2
  have nn : ∀ z : Int32, ¬ z < 0 → z.toInt = (z.toNatClampNeg : Int) := by
    intro z hz
    have hz0 : (0 : Int) ≤ z.toInt := by
      have := Int32.not_lt.mp hz
      simpa using Int32.le_iff_toInt_le.mp this
    show z.toInt = ((z.toInt.toNat : Nat) : Int)
    omega
  intro T hT X
  have hc0 : H[B (18 + k1)]? = some (vp_cell (E.2 0) (r1.2.1, .inl r1.2.2)) := hP _ _ c1
  have hc1 : H[B (18 + k2)]? = some (vp_cell (E.2 0) (r2.2.1, .inl r2.2.2)) := hP _ _ c2
  obtain ⟨-, k0, hk0, cm0, hkk0⟩ := (hK.1.2 0 _ rfl).1 r1.2.1 (fun j => .int (r1.2.2 j))
  obtain ⟨-, k1', hk1', cm1, hkk1⟩ := (hK.1.2 0 _ rfl).1 r2.2.1 (fun j => .int (r2.2.2 j))
  obtain ⟨vm', X', step⟩ := X.arraycopy hx hown (hts _ t1) (hts _ t2) (hts _ t3) (hts _ t4) (src := B (18 + k1)) (dst := B (18 + k2)) (cs := vp_cell (E.2 0) (r1.2.1, .inl r1.2.2)) (cd := vp_cell (E.2 0) (r2.2.1, .inl r2.2.2)) (srcPos := sp) (destPos := dp) (n := n) (by rw [hT]; exact hc0) (by rw [hT]; exact hc1)
    (fun _ h => by cases h) (fun _ h => by cases h) (fun h => by cases h) (fun h => by cases h) hk0 hk1' hkk0 hkk1 (by rfl) h1 h2 h3
    (by rw [nn sp h1, nn n h3]; show ¬ _ > ((arrV _ r1.2.1 (fun j => .int (r1.2.2 j))).slots.size : Int); rw [arrV_size]; omega)
    (by rw [nn dp h2, nn n h3]; show ¬ _ > ((arrV _ r2.2.1 (fun j => .int (r2.2.2 j))).slots.size : Int); rw [arrV_size]; omega)
    (fun vm₁ _ i hi => by
      have e : (vp_cell (E.2 0) (r1.2.1, .inl r1.2.2)).slots.getD (sp.toNatClampNeg + i) .null = .int (r1.2.2 (sp.toNatClampNeg + i)) := by
        show (arrV _ r1.2.1 (fun j => .int (r1.2.2 j))).slots.getD _ _ = _
        rw [Array.getD_eq_getD_getElem?, arrV_read _ _ (by omega)]
        rfl
      refine ⟨?_, ?_⟩
      · rw [e]
        rfl
      · rw [e]
        exact trivial)
    (g := F0 m pc ls (.int n :: .int dp :: .ref (B (18 + k2)) :: .int sp :: .ref (B (18 + k1)) :: rest)) rfl (by rw [hml]; exact hls) (rest := rest) rfl (by rw [hb]; exact hdg) hframes (by show 2 * 0 + _ + _ ≤ _; omega)
  have e1 : copied (vp_cell (E.2 0) (r1.2.1, .inl r1.2.2)) (vp_cell (E.2 0) (r2.2.1, .inl r2.2.2)) sp dp n = vp_cell (E.2 0) (r2.2.1, .inl (va_cpy r1.2.2 r2.2.2 sp.toNatClampNeg dp.toNatClampNeg n.toNatClampNeg)) := va_copied (fun z => .int z) (E.2 0) (E.2 0) r1.2.2 r2.2.2 h4
  rw [e1] at X' step
  have hl : B (18 + k2) < H.size := (Array.getElem?_eq_some_iff.mp hc1).1
  generalize hcell : vp_cell (E.2 0) (r2.2.1, .inl (va_cpy r1.2.2 r2.2.2 sp.toNatClampNeg dp.toNatClampNeg n.toNatClampNeg)) = nc at X' step
  have hheap : ((T.setVm vm').setCell (B (18 + k2)) nc).heap = H.setIfInBounds (B (18 + k2)) nc := by rw [← hT]; rfl
  have oq : ∀ q : Nat, q ≠ B (18 + k2) → (H.setIfInBounds (B (18 + k2)) nc)[q]? = H[q]? := fun q hq => by simp [Array.getElem?_setIfInBounds, Ne.symm hq]
  have hAa : A (B (18 + k2)) := hA _ _ c2
  obtain ⟨d1, d2⟩ := cX_datup (E := E) (B := B) (u := u) hk2 hr2 (va_cpy r1.2.2 r2.2.2 sp.toNatClampNeg dp.toNatClampNeg n.toNatClampNeg)
  obtain ⟨t, a1, b1⟩ := kk _ _ ⟨fP.set (H1 := H.setIfInBounds (B (18 + k2)) nc) (e := .inl (E.2 0, r2.2.1, .inl (va_cpy r1.2.2 r2.2.2 sp.toNatClampNeg dp.toNatClampNeg n.toNatClampNeg))) hP hI c2 (show (H.setIfInBounds (B (18 + k2)) nc)[B (18 + k2)]? = some (vp_cell (E.2 0) (r2.2.1, .inl (va_cpy r1.2.2 r2.2.2 sp.toNatClampNeg dp.toNatClampNeg n.toNatClampNeg))) by rw [hcell]; simp [Array.getElem?_setIfInBounds, hl]) oq d1 d2, hI.sameX (u := u) (xsh_some hr2), hA.same (u := u) (xsh_some hr2), ⟨by simp; exact hS.1, fun q g1 g2 => by
      rw [oq q (fun e => g2 (by rw [e]; exact hAa))]
      exact hS.2.1 q g1 g2, fun q hq => by
      rcases List.mem_append.mp hq with h | h
      · exact hS.2.2 q h
      · obtain ⟨z, -, hz⟩ := List.mem_map.mp h
        rw [← hz]
        exact hAa⟩⟩ _ hheap X'
  exact ⟨t, step t a1, b1⟩
end ROWS2
