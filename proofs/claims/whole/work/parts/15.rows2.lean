section ROWS2
variable {p : Program} {l : Launch} {e : Env} {R : Room} {s : State} {m : MethodId} {args : Array Value} {below : List Frame} {meth : Method} {c : Code} {H : Heap} {locs : List Loc} {cells slots : Nat} {Q : State → Prop}
variable {cc : ByteArray} {pc nL : Nat} {ls : Array Slot} {rest : List Value} {E : EE} {A : Nat → Prop} {Ts : List Cond} {ret : Option FieldType} {own : String} {B : Nat → Nat}
theorem f_new (C0 : cx Ts cc nL ret own E p s m args meth c) {C : String} {T : u_T} {N ci index : Nat} (hin : ∀ w ∈ u_ws C T N, w ∈ Ts) (ty : Nat → FieldType) (hty : ∀ k, k < N → parseFieldDescriptor (T k).2.2.1 = some (ty k)) (hcl : Cond.classLink own index C ∈ Ts) (hinst : Cond.instantiable C N ∈ Ts) (hini : Cond.initialized C ∈ Ts) (hc : vwCl[ci]? = some (C, T, N)) {fs : List Value} (hfs : ∀ j, j < N → defaultValue (ty j) = vp_V fs j) (hcells : cells + 1 ≤ R.cells) (hslots : slots + N ≤ R.slots) (hdg : decode cc pc = .ok (.new index, 3))
    (kk : ∀ (H1 : Heap), va_at E.1 vwCl (H.size, .inr (ci, fs)) H1 → H1.size = H.size + 1 → (∀ q, q < H.size → H1[q]? = H[q]?) → W p l e R s m args below meth c H1 locs (cells + 1) (slots + N) Q (F0 m (pc + 3) ls (.ref H.size :: rest))) : W p l e R s m args below meth c H locs cells slots Q (F0 m pc ls rest) := by
  obtain ⟨hx, hb, hr, hml, hown, hts, hlk, hK⟩ := C0
  have hKn := hK.1.1 ci _ hc
  refine W.newcK hx hb hown (hts _ hcl) (hts _ hinst) (hts _ hini) rfl hdg hcells hslots hKn.2.1 rfl fun H1 kC hkC e1 z1 o1 => ?_
  exact kk H1 ⟨_, hc, (u_born ty hts hin hKn hkC e1 hty).to hfs⟩ z1 o1
theorem x_copy {u : SX} {k1 k2 : Nat} (C0 : cx Ts cc nL ret own E p s m args meth c) (hW : WX E A B u s H locs) (hls : ls.size = nL) (hk1 : k1 < 4) (hk2 : k2 < 4) {index : Nat} (t1 : Cond.methodLink own index arraycopyName ∈ Ts) (t2 : Cond.native arraycopyName ∈ Ts) (t3 : Cond.static arraycopyName ∈ Ts) (t4 : Cond.initialized "java/lang/System" ∈ Ts) {sp dp n : Int32} (hg : ¬ (sp < 0 ∨ dp < 0 ∨ n < 0 ∨ 60 < sp.toNatClampNeg + n.toNatClampNeg ∨ 60 < dp.toNatClampNeg + n.toNatClampNeg))
    (hframes : 1 ≤ R.frames) (hlocals : (rest.map fun v => v.category).sum + (nativeFrameWords "java/lang/System" "arraycopy" 5 + 11) ≤ R.locals) (hdg : decode cc pc = .ok (.invokestatic index, 3))
    (kk : ∀ (H1 : Heap) (locs1 : List Loc), WX E A B (u.1, u.2.1, u.2.2.1, va_up u.2.2.2.1 k2 ((u.2.2.2.1 k2).1, va_cpy (u.2.2.2.1 k1).2 (u.2.2.2.1 k2).2 sp.toNatClampNeg dp.toNatClampNeg n.toNatClampNeg), u.2.2.2.2) s H1 locs1 → W p l e R s m args below meth c H1 locs1 cells slots Q (F0 m (pc + 3) ls rest)) : W p l e R s m args below meth c H locs cells slots Q (F0 m pc ls (.int n :: .int dp :: .ref (B (18 + k2)) :: .int sp :: .ref (B (18 + k1)) :: rest)) := by
  obtain ⟨hP, hI, hA, hS⟩ := hW
  obtain ⟨hx, hb, hr, hml, hown, hts, hlk, hK⟩ := C0
  have h1 : ¬ sp < 0 := fun z => hg (Or.inl z)
  have h2 : ¬ dp < 0 := fun z => hg (Or.inr (Or.inl z))
  have h3 : ¬ n < 0 := fun z => hg (Or.inr (Or.inr (Or.inl z)))
  have h4 : sp.toNatClampNeg + n.toNatClampNeg ≤ 60 := Nat.not_lt.mp fun z => hg (Or.inr (Or.inr (Or.inr (Or.inl z))))
  have h5 : dp.toNatClampNeg + n.toNatClampNeg ≤ 60 := Nat.not_lt.mp fun z => hg (Or.inr (Or.inr (Or.inr (Or.inr z))))
  have c1 := cX_dat (E := E) (B := B) (u := u) hk1
  have c2 := cX_dat (E := E) (B := B) (u := u) hk2
  have nn : ∀ z : Int32, ¬ z < 0 → z.toInt = (z.toNatClampNeg : Int) := by
    intro z hz
    have hz0 : (0 : Int) ≤ z.toInt := by
      have := Int32.not_lt.mp hz
      simpa using Int32.le_iff_toInt_le.mp this
    show z.toInt = ((z.toInt.toNat : Nat) : Int)
    omega
  intro T hT X
  have hc0 : H[B (18 + k1)]? = some (vp_cell (E.2 0) (60, .inl (u.2.2.2.1 k1).2)) := hP _ _ c1
  have hc1 : H[B (18 + k2)]? = some (vp_cell (E.2 0) (60, .inl (u.2.2.2.1 k2).2)) := hP _ _ c2
  obtain ⟨-, k0, hk0, cm0, hkk0⟩ := (hK.1.2 0 _ rfl).1 60 (fun j => .int ((u.2.2.2.1 k1).2 j))
  obtain ⟨-, k1', hk1', cm1, hkk1⟩ := (hK.1.2 0 _ rfl).1 60 (fun j => .int ((u.2.2.2.1 k2).2 j))
  obtain ⟨vm', X', step⟩ := X.arraycopy hx hown (hts _ t1) (hts _ t2) (hts _ t3) (hts _ t4) (src := B (18 + k1)) (dst := B (18 + k2)) (cs := vp_cell (E.2 0) (60, .inl (u.2.2.2.1 k1).2)) (cd := vp_cell (E.2 0) (60, .inl (u.2.2.2.1 k2).2)) (srcPos := sp) (destPos := dp) (n := n) (by rw [hT]; exact hc0) (by rw [hT]; exact hc1)
    (fun _ h => by cases h) (fun _ h => by cases h) (fun h => by cases h) (fun h => by cases h) hk0 hk1' hkk0 hkk1 (by rfl) h1 h2 h3
    (by rw [nn sp h1, nn n h3]; show ¬ _ > ((arrV _ 60 (fun j => .int ((u.2.2.2.1 k1).2 j))).slots.size : Int); rw [arrV_size]; omega)
    (by rw [nn dp h2, nn n h3]; show ¬ _ > ((arrV _ 60 (fun j => .int ((u.2.2.2.1 k2).2 j))).slots.size : Int); rw [arrV_size]; omega)
    (fun vm₁ _ i hi => by
      have e : (vp_cell (E.2 0) (60, .inl (u.2.2.2.1 k1).2)).slots.getD (sp.toNatClampNeg + i) .null = .int ((u.2.2.2.1 k1).2 (sp.toNatClampNeg + i)) := by
        show (arrV _ 60 (fun j => .int ((u.2.2.2.1 k1).2 j))).slots.getD _ _ = _
        rw [Array.getD_eq_getD_getElem?, arrV_read _ _ (by omega)]
        rfl
      refine ⟨?_, ?_⟩
      · rw [e]
        rfl
      · rw [e]
        exact trivial)
    (g := F0 m pc ls (.int n :: .int dp :: .ref (B (18 + k2)) :: .int sp :: .ref (B (18 + k1)) :: rest)) rfl (by rw [hml]; exact hls) (rest := rest) rfl (by rw [hb]; exact hdg) hframes (by show 2 * 0 + _ + _ ≤ _; omega)
  have e1 : copied (vp_cell (E.2 0) (60, .inl (u.2.2.2.1 k1).2)) (vp_cell (E.2 0) (60, .inl (u.2.2.2.1 k2).2)) sp dp n = vp_cell (E.2 0) (60, .inl (va_cpy (u.2.2.2.1 k1).2 (u.2.2.2.1 k2).2 sp.toNatClampNeg dp.toNatClampNeg n.toNatClampNeg)) := va_copied (fun z => .int z) (E.2 0) (E.2 0) (u.2.2.2.1 k1).2 (u.2.2.2.1 k2).2 h4
  rw [e1] at X' step
  have hl : B (18 + k2) < H.size := (Array.getElem?_eq_some_iff.mp hc1).1
  generalize hcell : vp_cell (E.2 0) (60, .inl (va_cpy (u.2.2.2.1 k1).2 (u.2.2.2.1 k2).2 sp.toNatClampNeg dp.toNatClampNeg n.toNatClampNeg)) = nc at X' step
  have hheap : ((T.setVm vm').setCell (B (18 + k2)) nc).heap = H.setIfInBounds (B (18 + k2)) nc := by rw [← hT]; rfl
  have oq : ∀ q : Nat, q ≠ B (18 + k2) → (H.setIfInBounds (B (18 + k2)) nc)[q]? = H[q]? := fun q hq => by simp [Array.getElem?_setIfInBounds, Ne.symm hq]
  have hAa : A (B (18 + k2)) := hA _ _ c2
  obtain ⟨d1, d2⟩ := cX_datup (E := E) (B := B) (u := u) hk2 (va_cpy (u.2.2.2.1 k1).2 (u.2.2.2.1 k2).2 sp.toNatClampNeg dp.toNatClampNeg n.toNatClampNeg)
  obtain ⟨t, a1, b1⟩ := kk _ _ ⟨fP.set (H1 := H.setIfInBounds (B (18 + k2)) nc) (e := .inl (E.2 0, 60, .inl (va_cpy (u.2.2.2.1 k1).2 (u.2.2.2.1 k2).2 sp.toNatClampNeg dp.toNatClampNeg n.toNatClampNeg))) hP hI c2 (show (H.setIfInBounds (B (18 + k2)) nc)[B (18 + k2)]? = some (vp_cell (E.2 0) (60, .inl (va_cpy (u.2.2.2.1 k1).2 (u.2.2.2.1 k2).2 sp.toNatClampNeg dp.toNatClampNeg n.toNatClampNeg))) by rw [hcell]; simp [Array.getElem?_setIfInBounds, hl]) oq d1 d2, hI.sameX (u := u), hA.same (u := u), ⟨by simp; exact hS.1, fun q g1 g2 => by
      rw [oq q (fun e => g2 (by rw [e]; exact hAa))]
      exact hS.2.1 q g1 g2, fun q hq => by
      rcases List.mem_append.mp hq with h | h
      · exact hS.2.2 q h
      · obtain ⟨z, -, hz⟩ := List.mem_map.mp h
        rw [← hz]
        exact hAa⟩⟩ _ hheap X'
  exact ⟨t, step t a1, b1⟩
end ROWS2
