abbrev rmX4_slipsOf : Room := { frames := 0, cells := 0, slots := 0, locals := 0 }
set_option maxHeartbeats 4000000 in
set_option maxRecDepth 100000 in
theorem tX4_slipsOf_12 {p : Program} {l : Launch} {e : Env} {s : State} {m : MethodId} {args : Array Value} {below : List Frame} {meth : Method} {c : Code} {E : EE} {out : Int32} (C0 : cx wsX4_slipsOf cX4_slipsOf 3 (some .int) RX4 E p s m args meth c) {x0 : Int32} {xs0 : Int32} {ls : Array Slot} (hl : lv_has ls 3 [(0, .int x0)]) (hf : fX4_slipsOf_12 x0 xs0 = some out) : W p l e rmX4_slipsOf s m args below meth c s.heap [] 0 0 (MQ below (vp_Si (fun r => r = out)) args s 0 0 (fun _ => False)) (F0 m 12 ls [.int xs0]) := by
  obtain ⟨hx, hb, hr, hml, hown, hts, hlk, hK⟩ := id C0
  unfold fX4_slipsOf_12 at hf
  refine lv_istore_n (lv' := [(2, .int xs0), (0, .int x0)]) hx hb dX4_slipsOf_12 rfl hl (by decide) rfl (fun ls hl => ?_)
  refine lv_iload_n hx hb dX4_slipsOf_13 rfl (lv_at hl 1 rfl) ?_
  refine lv_iconst (v := (2 : Int32)) hx hb dX4_slipsOf_14 (by decide) ?_
  refine lv_icmp_lt (tgt := 24) hx hb dX4_slipsOf_15 (by decide) (fun c1 => ?_) (fun c1 => ?_)
  · have hf := th hf c1
    refine lv_iload_n hx hb dX4_slipsOf_24 rfl (lv_at hl 0 rfl) ?_
    exact e_roI C0 hf dX4_slipsOf_25
  · have hf := el hf c1
    refine lv_iconst (v := (2 : Int32)) hx hb dX4_slipsOf_18 (by decide) ?_
    refine lv_iload_n hx hb dX4_slipsOf_19 rfl (lv_at hl 0 rfl) ?_
    refine lv_imul hx hb dX4_slipsOf_20 ?_
    refine lv_goto (tgt := 25) hx hb dX4_slipsOf_21 (by decide) ?_
    exact e_roI C0 hf dX4_slipsOf_25
set_option maxHeartbeats 4000000 in
set_option maxRecDepth 100000 in
theorem tX4_slipsOf_0 {p : Program} {l : Launch} {e : Env} {s : State} {m : MethodId} {args : Array Value} {below : List Frame} {meth : Method} {c : Code} {E : EE} {out : Int32} (C0 : cx wsX4_slipsOf cX4_slipsOf 3 (some .int) RX4 E p s m args meth c) {x0 : Int32} {x1 : Int32} {ls : Array Slot} (hl : lv_has ls 3 [(0, .int x0), (1, .int x1)]) (hf : fX4_slipsOf x0 x1 = some out) : W p l e rmX4_slipsOf s m args below meth c s.heap [] 0 0 (MQ below (vp_Si (fun r => r = out)) args s 0 0 (fun _ => False)) (F0 m 0 ls []) := by
  obtain ⟨hx, hb, hr, hml, hown, hts, hlk, hK⟩ := id C0
  unfold fX4_slipsOf at hf
  refine lv_iload_n hx hb dX4_slipsOf_0 rfl (lv_at hl 0 rfl) ?_
  refine lv_iconst (v := (1 : Int32)) hx hb dX4_slipsOf_1 (by decide) ?_
  refine lv_icmp_lt (tgt := 11) hx hb dX4_slipsOf_2 (by decide) (fun c1 => ?_) (fun c1 => ?_)
  · have hf := th hf c1
    refine lv_iload_n hx hb dX4_slipsOf_11 rfl (lv_at hl 1 rfl) ?_
    exact tX4_slipsOf_12 C0 (lv_sub hl [0] rfl) hf
  · have hf := el hf c1
    refine lv_iload_n hx hb dX4_slipsOf_5 rfl (lv_at hl 1 rfl) ?_
    refine lv_iconst (v := (1 : Int32)) hx hb dX4_slipsOf_6 (by decide) ?_
    refine lv_iadd hx hb dX4_slipsOf_7 ?_
    refine lv_goto (tgt := 12) hx hb dX4_slipsOf_8 (by decide) ?_
    exact tX4_slipsOf_12 C0 (lv_sub hl [0] rfl) hf
set_option maxHeartbeats 4000000 in
set_option maxRecDepth 100000 in
theorem tX4_slipsOf {l : Launch} (E : EE) {x0 : Int32} {x1 : Int32} {out : Int32} (hf : fX4_slipsOf x0 x1 = some out) : roI l yX4_slipsOf wsX4_slipsOf rmX4_slipsOf E [.int x0, .int x1] ((fun _ => True)) out := by
  refine Met.ofW (cc := cX4_slipsOf) (maxL := 3) (ret := (some .int)) (by decide) rfl ?_
  intro p e s m args below meth c s₁ B0 hml hv
  obtain ⟨rfl, -, hK⟩ := hv
  have C0 : cx wsX4_slipsOf cX4_slipsOf 3 (some .int) RX4 E p s m _ meth c := ⟨B0.exec, B0.bytes, B0.returns, hml, findClass_of_methodNamed B0.named, atoms_spec (ws := wsX4_slipsOf) B0.pre, B0.notSynchronized, hK⟩
  have hl := lv_entry ([.int x0, .int x1]) (n := 3) (Nat.le_of_ble_eq_true rfl)
  rw [lg_entry_eq]
  generalize (lg_sl ([.int x0, .int x1]) ++ List.replicate (3 - (lg_sl ([.int x0, .int x1])).length) Slot.unset).toArray = ls at hl ⊢
  exact tX4_slipsOf_0 C0 hl hf
abbrev rmX0_slips : Room := { frames := 1, cells := 0, slots := 0, locals := 22 }
set_option maxRecDepth 20000 in
theorem iX0_slips_X0 : ∀ w ∈ wsX00, w ∈ wsX0_slips := by decide +kernel
set_option maxHeartbeats 4000000 in
set_option maxRecDepth 100000 in
theorem tX0_slips_0 {p : Program} {l : Launch} {e : Env} {s : State} {m : MethodId} {args : Array Value} {below : List Frame} {meth : Method} {c : Code} {E : EE} {a0 : Nat} {g0 : Nat → Int32} {out : Int32} (C0 : cx wsX0_slips cX0_slips 1 (some .int) RX0 E p s m args meth c) (hP : fP E (cC a0 g0) s.heap) {ls : Array Slot} (hl : lv_has ls 1 [(0, .ref (a0))]) (hf : fX0_slips g0 = some out) : W p l e rmX0_slips s m args below meth c s.heap [] 0 0 (MQ below (vp_Si (fun r => r = out)) args s 0 0 (fun _ => False)) (F0 m 0 ls []) := by
  obtain ⟨hx, hb, hr, hml, hown, hts, hlk, hK⟩ := id C0
  unfold fX0_slips at hf
  refine lv_aload_n hx hb dX0_slips_0 rfl (lv_at hl 0 rfl) ?_
  refine c_get C0 hP iX0_slips_X0 0 (by decide) (by decide +kernel) rfl dX0_slips_1 ?_
  refine lv_aload_n hx hb dX0_slips_4 rfl (lv_at hl 0 rfl) ?_
  refine c_get C0 hP iX0_slips_X0 1 (by decide) (by decide +kernel) rfl dX0_slips_5 ?_
  obtain ⟨q1, h2, hf⟩ := bd hf
  refine k_roI (run_SN (rest := []) (n := 2) (PH := fun _ => True) C0 (tX4_slipsOf E h2) gX0_slips_X4_slipsOf_n16 rfl (by decide +kernel) (by decide +kernel) (by decide +kernel) rfl (by decide +kernel) trivial hl.1 rfl rfl (Nat.le_of_ble_eq_true rfl) dX0_slips_8) ?_
  exact e_roI C0 hf dX0_slips_11
set_option maxHeartbeats 4000000 in
set_option maxRecDepth 100000 in
theorem tX0_slips {l : Launch} (E : EE) (a0 : Nat) {g0 : Nat → Int32} {out : Int32} (hf : fX0_slips g0 = some out) : roI l yX0_slips wsX0_slips rmX0_slips E [.ref (a0)] (fP E (cC a0 g0)) out := by
  refine Met.ofW (cc := cX0_slips) (maxL := 1) (ret := (some .int)) (by decide) rfl ?_
  intro p e s m args below meth c s₁ B0 hml hv
  obtain ⟨rfl, hP, hK⟩ := hv
  have C0 : cx wsX0_slips cX0_slips 1 (some .int) RX0 E p s m _ meth c := ⟨B0.exec, B0.bytes, B0.returns, hml, findClass_of_methodNamed B0.named, atoms_spec (ws := wsX0_slips) B0.pre, B0.notSynchronized, hK⟩
  have hl := lv_entry ([.ref (a0)]) (n := 1) (Nat.le_of_ble_eq_true rfl)
  rw [lg_entry_eq]
  generalize (lg_sl ([.ref (a0)]) ++ List.replicate (1 - (lg_sl ([.ref (a0)])).length) Slot.unset).toArray = ls at hl ⊢
  exact tX0_slips_0 C0 hP hl hf
abbrev rmX1_setDrawn : Room := { frames := 1, cells := 0, slots := 0, locals := 21 }
set_option maxRecDepth 20000 in
theorem iX1_setDrawn_X1 : ∀ w ∈ wsX10, w ∈ wsX1_setDrawn := by decide +kernel
set_option maxHeartbeats 4000000 in
set_option maxRecDepth 100000 in
theorem tX1_setDrawn_0 {p : Program} {l : Launch} {e : Env} {s : State} {m : MethodId} {args : Array Value} {below : List Frame} {meth : Method} {c : Code} {E : EE} {B : Nat → Nat} {out : SD} (C0 : cx wsX1_setDrawn cX1_setDrawn 2 none RX1 E p s m args meth c) {x1 : Int32} {u : SD} {H : Heap} {locs : List Loc} {ls : Array Slot} (hW : WD E B u s H locs) (hl : lv_has ls 2 [(0, .ref (B 0)), (1, .int x1)]) (hf : fX1_setDrawn x1 u = some out) : W p l e rmX1_setDrawn s m args below meth c H locs 0 0 (MQ below (va_Qv (fun (_ : Unit) => True) (fun _ t => fP E (cD E B out) t.heap) (aD B)) args s 0 0 (aD B)) (F0 m 0 ls []) := by
  obtain ⟨hx, hb, hr, hml, hown, hts, hlk, hK⟩ := id C0
  unfold fX1_setDrawn at hf
  refine lv_aload_n hx hb dX1_setDrawn_0 rfl (lv_at hl 0 rfl) ?_
  refine lv_iconst (v := (0 : Int32)) hx hb dX1_setDrawn_1 (by decide) ?_
  refine lv_iload_n hx hb dX1_setDrawn_2 rfl (lv_at hl 1 rfl) ?_
  refine lv_bipush (v := (6 : Int32)) hx hb dX1_setDrawn_3 (by decide) ?_
  refine k_min C0 hl.1 (by decide +kernel) (by decide +kernel) (by decide +kernel) (by decide +kernel) (Nat.le_of_ble_eq_true rfl) (Nat.le_of_ble_eq_true rfl) (Nat.le_of_ble_eq_true rfl) (Nat.le_of_ble_eq_true rfl) dX1_setDrawn_5 ?_
  refine k_max C0 hl.1 (by decide +kernel) (by decide +kernel) (by decide +kernel) (by decide +kernel) (Nat.le_of_ble_eq_true rfl) (Nat.le_of_ble_eq_true rfl) (Nat.le_of_ble_eq_true rfl) (Nat.le_of_ble_eq_true rfl) dX1_setDrawn_8 ?_
  refine d_put C0 hW iX1_setDrawn_X1 5 (by decide) (by decide +kernel) rfl (by decide +kernel) rfl dX1_setDrawn_11 (fun H locs hW => ?_)
  have hW : WD E B ((upd u.1 5 (if (0 : Int32) < (if (6 : Int32) < x1 then (6 : Int32) else x1) then (if (6 : Int32) < x1 then (6 : Int32) else x1) else (0 : Int32))), u.2.1, u.2.2.1, u.2.2.2) s H locs := hW
  obtain rfl := Option.some.inj hf
  exact e_muV (QH := fP E (cD E B ((upd u.1 5 (if (0 : Int32) < (if (6 : Int32) < x1 then (6 : Int32) else x1) then (if (6 : Int32) < x1 then (6 : Int32) else x1) else (0 : Int32))), u.2.1, u.2.2.1, u.2.2.2))) C0 hW.2.2 hW.2.1 dX1_setDrawn_14
set_option maxHeartbeats 4000000 in
set_option maxRecDepth 100000 in
theorem tX1_setDrawn {l : Launch} (E : EE) (B : Nat → Nat) {u : SD} {x1 : Int32} {out : SD} (hB : iD B) (hf : fX1_setDrawn x1 u = some out) : muV l yX1_setDrawn wsX1_setDrawn rmX1_setDrawn E [.ref (B 0), .int x1] (aD B) (fP E (cD E B u)) (fP E (cD E B out)) := by
  refine Met.ofW (cc := cX1_setDrawn) (maxL := 2) (ret := none) (by decide) rfl ?_
  intro p e s m args below meth c s₁ B0 hml hv
  obtain ⟨rfl, hP, hK⟩ := hv
  have C0 : cx wsX1_setDrawn cX1_setDrawn 2 none RX1 E p s m _ meth c := ⟨B0.exec, B0.bytes, B0.returns, hml, findClass_of_methodNamed B0.named, atoms_spec (ws := wsX1_setDrawn) B0.pre, B0.notSynchronized, hK⟩
  have hl := lv_entry ([.ref (B 0), .int x1]) (n := 2) (Nat.le_of_ble_eq_true rfl)
  rw [lg_entry_eq]
  generalize (lg_sl ([.ref (B 0), .int x1]) ++ List.replicate (2 - (lg_sl ([.ref (B 0), .int x1])).length) Slot.unset).toArray = ls at hl ⊢
  exact tX1_setDrawn_0 C0 ⟨hB, hP, va_S.rf⟩ hl hf
abbrev rmX1_empty : Room := { frames := 2, cells := 0, slots := 0, locals := 42 }
set_option maxRecDepth 20000 in
theorem iX1_empty_X1 : ∀ w ∈ wsX10, w ∈ wsX1_empty := by decide +kernel
set_option maxHeartbeats 4000000 in
set_option maxRecDepth 100000 in
theorem tX1_empty_26 {p : Program} {l : Launch} {e : Env} {s : State} {m : MethodId} {args : Array Value} {below : List Frame} {meth : Method} {c : Code} {E : EE} {B : Nat → Nat} {out : SD} (C0 : cx wsX1_empty cX1_empty 4 none RX1 E p s m args meth c) : ∀ (n : Nat) (x2 : Int32) (x3 : Int32) (u : SD) (H : Heap) (locs : List Loc) (ls : Array Slot) (_ : WD E B u s H locs), lv_has ls 4 [(0, .ref (B 0)), (2, .int x2), (3, .int x3)] → fX1_empty_26 n x2 x3 u = some out → W p l e rmX1_empty s m args below meth c H locs 0 0 (MQ below (va_Qv (fun (_ : Unit) => True) (fun _ t => fP E (cD E B out) t.heap) (aD B)) args s 0 0 (aD B)) (F0 m 26 ls []) := by
  obtain ⟨hx, hb, hr, hml, hown, hts, hlk, hK⟩ := id C0
  intro n
  induction n with
  | zero =>
    intro x2 x3 u H locs ls hW hl hf
    cases (show none = some out from hf)
  | succ n ih =>
    intro x2 x3 u H locs ls hW hl hf
    rw [fX1_empty_26] at hf
    refine lv_iload_n hx hb dX1_empty_26 rfl (lv_at hl 2 rfl) ?_
    refine lv_aload_n hx hb dX1_empty_27 rfl (lv_at hl 0 rfl) ?_
    refine d_get C0 hW.2.1 iX1_empty_X1 0 (by decide) (by decide +kernel) rfl dX1_empty_28 ?_
    refine d_len1 C0 hW.2.1 dX1_empty_31 ?_
    refine lv_icmp_ge (tgt := 48) hx hb dX1_empty_32 (by decide) (fun c1 => ?_) (fun c1 => ?_)
    · have hf := th hf c1
      refine lv_aload_n hx hb dX1_empty_48 rfl (lv_at hl 0 rfl) ?_
      refine lv_iload_n hx hb dX1_empty_49 rfl (lv_at hl 1 rfl) ?_
      obtain ⟨q2, h3, hf⟩ := bd hf
      refine k_muV (run_V (rest := []) (n := 1) C0 (tX1_setDrawn E B hW.1 h3) gX1_empty_X1_setDrawn rfl rfl (by decide +kernel) (hW.2.1 0 _ rfl) rfl rfl hW.2.1 hl.1 rfl rfl (Nat.le_of_ble_eq_true rfl) dX1_empty_50) hW.2.2 (fun _ h => h) (fun H locs hQ _ hS => ?_)
      have hW : WD E B q2 s H locs := ⟨hW.1, hQ, hS⟩
      obtain rfl := Option.some.inj hf
      exact e_muV (QH := fP E (cD E B q2)) C0 hW.2.2 hW.2.1 dX1_empty_53
    · have hf := el hf c1
      refine lv_aload_n hx hb dX1_empty_35 rfl (lv_at hl 0 rfl) ?_
      refine d_get C0 hW.2.1 iX1_empty_X1 0 (by decide) (by decide +kernel) rfl dX1_empty_36 ?_
      refine lv_iload_n hx hb dX1_empty_39 rfl (lv_at hl 2 rfl) ?_
      refine lv_iconst (v := (0 : Int32)) hx hb dX1_empty_40 (by decide) ?_
      obtain ⟨h4, hf⟩ := gd hf
      refine d_ast1 C0 hW h4 dX1_empty_41 (fun H locs hW => ?_)
      have hW : WD E B (u.1, (upd u.2.1 x3.toNatClampNeg (0 : Int32)), u.2.2.1, u.2.2.2) s H locs := hW
      refine lv_iinc (v := (x3 + (1 : Int32))) (lv' := [(3, .int (x3 + (1 : Int32))), (0, .ref (B 0)), (2, .int x2)]) hx hb dX1_empty_42 hl (k := 2) rfl rfl (by decide) rfl (fun ls hl => ?_)
      refine lv_goto (tgt := 26) hx hb dX1_empty_45 (by decide) ?_
      exact ih _ _ _ _ _ _ hW (lv_sub hl [1, 2, 0] rfl) hf
set_option maxHeartbeats 4000000 in
set_option maxRecDepth 100000 in
theorem tX1_empty_0 {p : Program} {l : Launch} {e : Env} {s : State} {m : MethodId} {args : Array Value} {below : List Frame} {meth : Method} {c : Code} {E : EE} {B : Nat → Nat} {out : SD} (C0 : cx wsX1_empty cX1_empty 4 none RX1 E p s m args meth c) {x1 : Int32} {x2 : Int32} {u : SD} {H : Heap} {locs : List Loc} {ls : Array Slot} (hW : WD E B u s H locs) (hl : lv_has ls 4 [(0, .ref (B 0)), (1, .int x1), (2, .int x2)]) (hf : fX1_empty x1 x2 u = some out) : W p l e rmX1_empty s m args below meth c H locs 0 0 (MQ below (va_Qv (fun (_ : Unit) => True) (fun _ t => fP E (cD E B out) t.heap) (aD B)) args s 0 0 (aD B)) (F0 m 0 ls []) := by
  obtain ⟨hx, hb, hr, hml, hown, hts, hlk, hK⟩ := id C0
  unfold fX1_empty at hf
  refine lv_aload_n hx hb dX1_empty_0 rfl (lv_at hl 0 rfl) ?_
  refine lv_iconst (v := (0 : Int32)) hx hb dX1_empty_1 (by decide) ?_
  refine lv_iload_n hx hb dX1_empty_2 rfl (lv_at hl 1 rfl) ?_
  refine lv_bipush (v := (6 : Int32)) hx hb dX1_empty_3 (by decide) ?_
  refine k_min C0 hl.1 (by decide +kernel) (by decide +kernel) (by decide +kernel) (by decide +kernel) (Nat.le_of_ble_eq_true rfl) (Nat.le_of_ble_eq_true rfl) (Nat.le_of_ble_eq_true rfl) (Nat.le_of_ble_eq_true rfl) dX1_empty_5 ?_
  refine k_max C0 hl.1 (by decide +kernel) (by decide +kernel) (by decide +kernel) (by decide +kernel) (Nat.le_of_ble_eq_true rfl) (Nat.le_of_ble_eq_true rfl) (Nat.le_of_ble_eq_true rfl) (Nat.le_of_ble_eq_true rfl) dX1_empty_8 ?_
  refine d_put C0 hW iX1_empty_X1 3 (by decide) (by decide +kernel) rfl (by decide +kernel) rfl dX1_empty_11 (fun H locs hW => ?_)
  have hW : WD E B ((upd u.1 3 (if (0 : Int32) < (if (6 : Int32) < x1 then (6 : Int32) else x1) then (if (6 : Int32) < x1 then (6 : Int32) else x1) else (0 : Int32))), u.2.1, u.2.2.1, u.2.2.2) s H locs := hW
  refine lv_aload_n hx hb dX1_empty_14 rfl (lv_at hl 0 rfl) ?_
  refine lv_iconst (v := (0 : Int32)) hx hb dX1_empty_15 (by decide) ?_
  refine d_put C0 hW iX1_empty_X1 4 (by decide) (by decide +kernel) rfl (by decide +kernel) rfl dX1_empty_16 (fun H locs hW => ?_)
  have hW : WD E B ((upd (upd u.1 3 (if (0 : Int32) < (if (6 : Int32) < x1 then (6 : Int32) else x1) then (if (6 : Int32) < x1 then (6 : Int32) else x1) else (0 : Int32))) 4 (0 : Int32)), u.2.1, u.2.2.1, u.2.2.2) s H locs := hW
  refine lv_aload_n hx hb dX1_empty_19 rfl (lv_at hl 0 rfl) ?_
  refine lv_iconst (v := (0 : Int32)) hx hb dX1_empty_20 (by decide) ?_
  refine d_put C0 hW iX1_empty_X1 6 (by decide) (by decide +kernel) rfl (by decide +kernel) rfl dX1_empty_21 (fun H locs hW => ?_)
  have hW : WD E B ((upd (upd (upd u.1 3 (if (0 : Int32) < (if (6 : Int32) < x1 then (6 : Int32) else x1) then (if (6 : Int32) < x1 then (6 : Int32) else x1) else (0 : Int32))) 4 (0 : Int32)) 6 (0 : Int32)), u.2.1, u.2.2.1, u.2.2.2) s H locs := hW
  refine lv_iconst (v := (0 : Int32)) hx hb dX1_empty_24 (by decide) ?_
  refine lv_istore_n (lv' := [(3, .int (0 : Int32)), (0, .ref (B 0)), (1, .int x1), (2, .int x2)]) hx hb dX1_empty_25 rfl hl (by decide) rfl (fun ls hl => ?_)
  exact tX1_empty_26 C0 fu _ _ _ _ _ _ hW (lv_sub hl [1, 3, 0] rfl) hf
set_option maxHeartbeats 4000000 in
set_option maxRecDepth 100000 in
theorem tX1_empty {l : Launch} (E : EE) (B : Nat → Nat) {u : SD} {x1 : Int32} {x2 : Int32} {out : SD} (hB : iD B) (hf : fX1_empty x1 x2 u = some out) : muV l yX1_empty wsX1_empty rmX1_empty E [.ref (B 0), .int x1, .int x2] (aD B) (fP E (cD E B u)) (fP E (cD E B out)) := by
  refine Met.ofW (cc := cX1_empty) (maxL := 4) (ret := none) (by decide) rfl ?_
  intro p e s m args below meth c s₁ B0 hml hv
  obtain ⟨rfl, hP, hK⟩ := hv
  have C0 : cx wsX1_empty cX1_empty 4 none RX1 E p s m _ meth c := ⟨B0.exec, B0.bytes, B0.returns, hml, findClass_of_methodNamed B0.named, atoms_spec (ws := wsX1_empty) B0.pre, B0.notSynchronized, hK⟩
  have hl := lv_entry ([.ref (B 0), .int x1, .int x2]) (n := 4) (Nat.le_of_ble_eq_true rfl)
  rw [lg_entry_eq]
  generalize (lg_sl ([.ref (B 0), .int x1, .int x2]) ++ List.replicate (4 - (lg_sl ([.ref (B 0), .int x1, .int x2])).length) Slot.unset).toArray = ls at hl ⊢
  exact tX1_empty_0 C0 ⟨hB, hP, va_S.rf⟩ hl hf
abbrev rmX1_choose : Room := { frames := 0, cells := 0, slots := 0, locals := 0 }
set_option maxHeartbeats 4000000 in
set_option maxRecDepth 100000 in
theorem tX1_choose_5 {p : Program} {l : Launch} {e : Env} {s : State} {m : MethodId} {args : Array Value} {below : List Frame} {meth : Method} {c : Code} {E : EE} {out : Int64} (C0 : cx wsX1_choose cX1_choose 5 (some .long) RX1 E p s m args meth c) : ∀ (n : Nat) (x0 : Int32) (x1 : Int32) (x2 : Int64) (x4 : Int32) (ls : Array Slot), lv_has ls 5 [(0, .int x0), (1, .int x1), (2, .long x2), (4, .int x4)] → fX1_choose_5 n x0 x1 x2 x4 = some out → W p l e rmX1_choose s m args below meth c s.heap [] 0 0 (MQ below (vp_Sl (fun r => r = out)) args s 0 0 (fun _ => False)) (F0 m 5 ls []) := by
  obtain ⟨hx, hb, hr, hml, hown, hts, hlk, hK⟩ := id C0
  intro n
  induction n with
  | zero =>
    intro x0 x1 x2 x4 ls hl hf
    cases (show none = some out from hf)
  | succ n ih =>
    intro x0 x1 x2 x4 ls hl hf
    rw [fX1_choose_5] at hf
    refine lv_iload hx hb dX1_choose_5 (lv_at hl 3 rfl) ?_
    refine lv_iload_n hx hb dX1_choose_7 rfl (lv_at hl 1 rfl) ?_
    refine lv_icmp_ge (tgt := 40) hx hb dX1_choose_8 (by decide) (fun c1 => ?_) (fun c1 => ?_)
    · have hf := th hf c1
      refine lv_lload_n hx hb dX1_choose_40 rfl (lv_at hl 2 rfl) ?_
      exact e_roL C0 hf dX1_choose_41
    · have hf := el hf c1
      refine lv_iload_n hx hb dX1_choose_11 rfl (lv_at hl 0 rfl) ?_
      refine lv_iload hx hb dX1_choose_12 (lv_at hl 3 rfl) ?_
      refine lv_isub hx hb dX1_choose_14 ?_
      refine lv_if_gt (tgt := 20) hx hb dX1_choose_15 (by decide) (fun c2 => ?_) (fun c2 => ?_)
      · have hf := th hf c2
        refine lv_lload_n hx hb dX1_choose_20 rfl (lv_at hl 2 rfl) ?_
        refine lv_iload_n hx hb dX1_choose_21 rfl (lv_at hl 0 rfl) ?_
        refine lv_iload hx hb dX1_choose_22 (lv_at hl 3 rfl) ?_
        refine lv_isub hx hb dX1_choose_24 ?_
        refine lv_i2l (v := (x0 - x4).toInt64) hx hb dX1_choose_25 rfl ?_
        refine lv_lmul hx hb dX1_choose_26 ?_
        refine lv_iload hx hb dX1_choose_27 (lv_at hl 3 rfl) ?_
        refine lv_iconst (v := (1 : Int32)) hx hb dX1_choose_29 (by decide) ?_
        refine lv_iadd hx hb dX1_choose_30 ?_
        refine lv_i2l (v := (x4 + (1 : Int32)).toInt64) hx hb dX1_choose_31 rfl ?_
        obtain ⟨h3, hf⟩ := gd hf
        refine lv_ldiv hx hb dX1_choose_32 h3 ?_
        refine lv_lstore_n (lv' := [(2, .long ((x2 * (x0 - x4).toInt64) / (x4 + (1 : Int32)).toInt64)), (0, .int x0), (1, .int x1), (4, .int x4)]) hx hb dX1_choose_33 rfl hl (by decide) rfl (fun ls hl => ?_)
        refine lv_iinc (v := (x4 + (1 : Int32))) (lv' := [(4, .int (x4 + (1 : Int32))), (2, .long ((x2 * (x0 - x4).toInt64) / (x4 + (1 : Int32)).toInt64)), (0, .int x0), (1, .int x1)]) hx hb dX1_choose_34 hl (k := 3) rfl rfl (by decide) rfl (fun ls hl => ?_)
        refine lv_goto (tgt := 5) hx hb dX1_choose_37 (by decide) ?_
        exact ih _ _ _ _ _ (lv_sub hl [2, 3, 1, 0] rfl) hf
      · have hf := el hf c2
        refine lv_lconst (v := (0 : Int64)) hx hb dX1_choose_18 (by decide) ?_
        exact e_roL C0 hf dX1_choose_19
set_option maxHeartbeats 4000000 in
set_option maxRecDepth 100000 in
theorem tX1_choose_0 {p : Program} {l : Launch} {e : Env} {s : State} {m : MethodId} {args : Array Value} {below : List Frame} {meth : Method} {c : Code} {E : EE} {out : Int64} (C0 : cx wsX1_choose cX1_choose 5 (some .long) RX1 E p s m args meth c) {x0 : Int32} {x1 : Int32} {ls : Array Slot} (hl : lv_has ls 5 [(0, .int x0), (1, .int x1)]) (hf : fX1_choose x0 x1 = some out) : W p l e rmX1_choose s m args below meth c s.heap [] 0 0 (MQ below (vp_Sl (fun r => r = out)) args s 0 0 (fun _ => False)) (F0 m 0 ls []) := by
  obtain ⟨hx, hb, hr, hml, hown, hts, hlk, hK⟩ := id C0
  unfold fX1_choose at hf
  refine lv_lconst (v := (1 : Int64)) hx hb dX1_choose_0 (by decide) ?_
  refine lv_lstore_n (lv' := [(2, .long (1 : Int64)), (0, .int x0), (1, .int x1)]) hx hb dX1_choose_1 rfl hl (by decide) rfl (fun ls hl => ?_)
  refine lv_iconst (v := (0 : Int32)) hx hb dX1_choose_2 (by decide) ?_
  refine lv_istore (lv' := [(4, .int (0 : Int32)), (2, .long (1 : Int64)), (0, .int x0), (1, .int x1)]) hx hb dX1_choose_3 hl (by decide) rfl (fun ls hl => ?_)
  exact tX1_choose_5 C0 fu _ _ _ _ _ (lv_sub hl [2, 3, 1, 0] rfl) hf
set_option maxHeartbeats 4000000 in
set_option maxRecDepth 100000 in
theorem tX1_choose {l : Launch} (E : EE) {x0 : Int32} {x1 : Int32} {out : Int64} (hf : fX1_choose x0 x1 = some out) : roL l yX1_choose wsX1_choose rmX1_choose E [.int x0, .int x1] ((fun _ => True)) out := by
  refine Met.ofW (cc := cX1_choose) (maxL := 5) (ret := (some .long)) (by decide) rfl ?_
  intro p e s m args below meth c s₁ B0 hml hv
  obtain ⟨rfl, -, hK⟩ := hv
  have C0 : cx wsX1_choose cX1_choose 5 (some .long) RX1 E p s m _ meth c := ⟨B0.exec, B0.bytes, B0.returns, hml, findClass_of_methodNamed B0.named, atoms_spec (ws := wsX1_choose) B0.pre, B0.notSynchronized, hK⟩
  have hl := lv_entry ([.int x0, .int x1]) (n := 5) (Nat.le_of_ble_eq_true rfl)
  rw [lg_entry_eq]
  generalize (lg_sl ([.int x0, .int x1]) ++ List.replicate (5 - (lg_sl ([.int x0, .int x1])).length) Slot.unset).toArray = ls at hl ⊢
  exact tX1_choose_0 C0 hl hf
abbrev rmX1_setSlips : Room := { frames := 1, cells := 0, slots := 0, locals := 24 }
set_option maxRecDepth 20000 in
theorem iX1_setSlips_X1 : ∀ w ∈ wsX10, w ∈ wsX1_setSlips := by decide +kernel
set_option maxHeartbeats 4000000 in
set_option maxRecDepth 100000 in
theorem tX1_setSlips_76 {p : Program} {l : Launch} {e : Env} {s : State} {m : MethodId} {args : Array Value} {below : List Frame} {meth : Method} {c : Code} {E : EE} {B : Nat → Nat} {out : SD} {c40 : Int32 → Int32 → Int32 → SD → Option (SD)} (C0 : cx wsX1_setSlips cX1_setSlips 5 none RX1 E p s m args meth c) (hc40 : ∀ (x1 : Int32) (x2 : Int32) (x3 : Int32) (u : SD) (H : Heap) (locs : List Loc) (ls : Array Slot) (_ : WD E B u s H locs), lv_has ls 5 [(0, .ref (B 0)), (1, .int x1), (2, .int x2), (3, .int x3)] → c40 x1 x2 x3 u = some out → W p l e rmX1_setSlips s m args below meth c H locs 0 0 (MQ below (va_Qv (fun (_ : Unit) => True) (fun _ t => fP E (cD E B out) t.heap) (aD B)) args s 0 0 (aD B)) (F0 m 40 ls [])) {x1 : Int32} {x2 : Int32} {x3 : Int32} {u : SD} {H : Heap} {locs : List Loc} {ls : Array Slot} (hW : WD E B u s H locs) (hl : lv_has ls 5 [(0, .ref (B 0)), (1, .int x1), (2, .int x2), (3, .int x3)]) (hf : fX1_setSlips_76 c40 x1 x2 x3 u = some out) : W p l e rmX1_setSlips s m args below meth c H locs 0 0 (MQ below (va_Qv (fun (_ : Unit) => True) (fun _ t => fP E (cD E B out) t.heap) (aD B)) args s 0 0 (aD B)) (F0 m 76 ls []) := by
  obtain ⟨hx, hb, hr, hml, hown, hts, hlk, hK⟩ := id C0
  unfold fX1_setSlips_76 at hf
  refine lv_iinc (v := (x3 + (1 : Int32))) (lv' := [(3, .int (x3 + (1 : Int32))), (0, .ref (B 0)), (1, .int x1), (2, .int x2)]) hx hb dX1_setSlips_76 hl (k := 3) rfl rfl (by decide) rfl (fun ls hl => ?_)
  refine lv_goto (tgt := 40) hx hb dX1_setSlips_79 (by decide) ?_
  exact hc40 _ _ _ _ _ _ _ hW (lv_sub hl [1, 2, 3, 0] rfl) hf
set_option maxHeartbeats 4000000 in
set_option maxRecDepth 100000 in
theorem tX1_setSlips_40 {p : Program} {l : Launch} {e : Env} {s : State} {m : MethodId} {args : Array Value} {below : List Frame} {meth : Method} {c : Code} {E : EE} {B : Nat → Nat} {out : SD} (C0 : cx wsX1_setSlips cX1_setSlips 5 none RX1 E p s m args meth c) : ∀ (n : Nat) (x1 : Int32) (x2 : Int32) (x3 : Int32) (u : SD) (H : Heap) (locs : List Loc) (ls : Array Slot) (_ : WD E B u s H locs), lv_has ls 5 [(0, .ref (B 0)), (1, .int x1), (2, .int x2), (3, .int x3)] → fX1_setSlips_40 n x1 x2 x3 u = some out → W p l e rmX1_setSlips s m args below meth c H locs 0 0 (MQ below (va_Qv (fun (_ : Unit) => True) (fun _ t => fP E (cD E B out) t.heap) (aD B)) args s 0 0 (aD B)) (F0 m 40 ls []) := by
  obtain ⟨hx, hb, hr, hml, hown, hts, hlk, hK⟩ := id C0
  intro n
  induction n with
  | zero =>
    intro x1 x2 x3 u H locs ls hW hl hf
    cases (show none = some out from hf)
  | succ n ih =>
    intro x1 x2 x3 u H locs ls hW hl hf
    rw [fX1_setSlips_40] at hf
    refine lv_iload_n hx hb dX1_setSlips_40 rfl (lv_at hl 3 rfl) ?_
    refine lv_bipush (v := (7 : Int32)) hx hb dX1_setSlips_41 (by decide) ?_
    refine lv_icmp_ge (tgt := 82) hx hb dX1_setSlips_43 (by decide) (fun c1 => ?_) (fun c1 => ?_)
    · have hf := th hf c1
      obtain rfl := Option.some.inj hf
      exact e_muV (QH := fP E (cD E B u)) C0 hW.2.2 hW.2.1 dX1_setSlips_82
    · have hf := el hf c1
      refine lv_iload_n hx hb dX1_setSlips_46 rfl (lv_at hl 1 rfl) ?_
      refine lv_bipush (v := (7 : Int32)) hx hb dX1_setSlips_47 (by decide) ?_
      refine lv_imul hx hb dX1_setSlips_49 ?_
      refine lv_iload_n hx hb dX1_setSlips_50 rfl (lv_at hl 3 rfl) ?_
      refine lv_iadd hx hb dX1_setSlips_51 ?_
      refine lv_istore (lv' := [(4, .int ((x1 * (7 : Int32)) + x3)), (0, .ref (B 0)), (1, .int x1), (2, .int x2), (3, .int x3)]) hx hb dX1_setSlips_52 hl (by decide) rfl (fun ls hl => ?_)
      refine lv_iload hx hb dX1_setSlips_54 (lv_at hl 0 rfl) ?_
      refine lv_aload_n hx hb dX1_setSlips_56 rfl (lv_at hl 1 rfl) ?_
      refine d_get C0 hW.2.1 iX1_setSlips_X1 1 (by decide) (by decide +kernel) rfl dX1_setSlips_57 ?_
      refine d_len2 C0 hW.2.1 dX1_setSlips_60 ?_
      refine lv_icmp_ge (tgt := 76) hx hb dX1_setSlips_61 (by decide) (fun c2 => ?_) (fun c2 => ?_)
      · have hf := th hf c2
        exact tX1_setSlips_76 C0 ih hW (lv_sub hl [1, 2, 3, 4] rfl) hf
      · have hf := el hf c2
        refine lv_aload_n hx hb dX1_setSlips_64 rfl (lv_at hl 1 rfl) ?_
        refine d_get C0 hW.2.1 iX1_setSlips_X1 1 (by decide) (by decide +kernel) rfl dX1_setSlips_65 ?_
        refine lv_iload hx hb dX1_setSlips_68 (lv_at hl 0 rfl) ?_
        refine lv_iload_n hx hb dX1_setSlips_70 rfl (lv_at hl 3 rfl) ?_
        refine lv_iload_n hx hb dX1_setSlips_71 rfl (lv_at hl 4 rfl) ?_
        obtain ⟨q3, h4, hf⟩ := bd hf
        refine k_roL (run_S (rest := [.int ((x1 * (7 : Int32)) + x3), .ref (B 2)]) (n := 2) (PH := fun _ => True) C0 (tX1_choose E h4) gX1_setSlips_X1_choose rfl rfl (by decide +kernel) trivial hl.1 rfl rfl (Nat.le_of_ble_eq_true rfl) dX1_setSlips_72) ?_
        obtain ⟨h5, hf⟩ := gd hf
        refine d_ast2 C0 hW h5 dX1_setSlips_75 (fun H locs hW => ?_)
        have hW : WD E B (u.1, u.2.1, (vp_updL u.2.2.1 (((x1 * (7 : Int32)) + x3).toNatClampNeg) q3), u.2.2.2) s H locs := hW
        exact tX1_setSlips_76 C0 ih hW (lv_sub hl [1, 2, 3, 4] rfl) hf
set_option maxHeartbeats 4000000 in
set_option maxRecDepth 100000 in
theorem tX1_setSlips_0 {p : Program} {l : Launch} {e : Env} {s : State} {m : MethodId} {args : Array Value} {below : List Frame} {meth : Method} {c : Code} {E : EE} {B : Nat → Nat} {out : SD} (C0 : cx wsX1_setSlips cX1_setSlips 5 none RX1 E p s m args meth c) {x1 : Int32} {x2 : Int32} {u : SD} {H : Heap} {locs : List Loc} {ls : Array Slot} (hW : WD E B u s H locs) (hl : lv_has ls 5 [(0, .ref (B 0)), (1, .int x1), (2, .int x2)]) (hf : fX1_setSlips x1 x2 u = some out) : W p l e rmX1_setSlips s m args below meth c H locs 0 0 (MQ below (va_Qv (fun (_ : Unit) => True) (fun _ t => fP E (cD E B out) t.heap) (aD B)) args s 0 0 (aD B)) (F0 m 0 ls []) := by
  obtain ⟨hx, hb, hr, hml, hown, hts, hlk, hK⟩ := id C0
  unfold fX1_setSlips at hf
  refine lv_iload_n hx hb dX1_setSlips_0 rfl (lv_at hl 1 rfl) ?_
  refine lv_if_lt (tgt := 13) hx hb dX1_setSlips_1 (by decide) (fun c1 => ?_) (fun c1 => ?_)
  · have hf := th hf c1
    obtain rfl := Option.some.inj hf
    exact e_muV (QH := fP E (cD E B u)) C0 hW.2.2 hW.2.1 dX1_setSlips_13
  · have hf := el hf c1
    refine lv_iload_n hx hb dX1_setSlips_4 rfl (lv_at hl 1 rfl) ?_
    refine lv_aload_n hx hb dX1_setSlips_5 rfl (lv_at hl 0 rfl) ?_
    refine d_get C0 hW.2.1 iX1_setSlips_X1 0 (by decide) (by decide +kernel) rfl dX1_setSlips_6 ?_
    refine d_len1 C0 hW.2.1 dX1_setSlips_9 ?_
    refine lv_icmp_lt (tgt := 14) hx hb dX1_setSlips_10 (by decide) (fun c2 => ?_) (fun c2 => ?_)
    · have hf := th hf c2
      refine lv_aload_n hx hb dX1_setSlips_14 rfl (lv_at hl 0 rfl) ?_
      refine lv_dup hx hb dX1_setSlips_15 rfl ?_
      refine d_get C0 hW.2.1 iX1_setSlips_X1 6 (by decide) (by decide +kernel) rfl dX1_setSlips_16 ?_
      refine lv_iload_n hx hb dX1_setSlips_19 rfl (lv_at hl 2 rfl) ?_
      refine lv_aload_n hx hb dX1_setSlips_20 rfl (lv_at hl 0 rfl) ?_
      refine d_get C0 hW.2.1 iX1_setSlips_X1 0 (by decide) (by decide +kernel) rfl dX1_setSlips_21 ?_
      refine lv_iload_n hx hb dX1_setSlips_24 rfl (lv_at hl 1 rfl) ?_
      obtain ⟨h3, hf⟩ := gd hf
      refine d_ald1 C0 hW.2.1 h3 dX1_setSlips_25 ?_
      refine lv_isub hx hb dX1_setSlips_26 ?_
      refine lv_iadd hx hb dX1_setSlips_27 ?_
      refine d_put C0 hW iX1_setSlips_X1 6 (by decide) (by decide +kernel) rfl (by decide +kernel) rfl dX1_setSlips_28 (fun H locs hW => ?_)
      have hW : WD E B ((upd u.1 6 ((u.1 6) + (x2 - (u.2.1 x1.toNatClampNeg)))), u.2.1, u.2.2.1, u.2.2.2) s H locs := hW
      refine lv_aload_n hx hb dX1_setSlips_31 rfl (lv_at hl 0 rfl) ?_
      refine d_get C0 hW.2.1 iX1_setSlips_X1 0 (by decide) (by decide +kernel) rfl dX1_setSlips_32 ?_
      refine lv_iload_n hx hb dX1_setSlips_35 rfl (lv_at hl 1 rfl) ?_
      refine lv_iload_n hx hb dX1_setSlips_36 rfl (lv_at hl 2 rfl) ?_
      obtain ⟨h4, hf⟩ := gd hf
      refine d_ast1 C0 hW h4 dX1_setSlips_37 (fun H locs hW => ?_)
      have hW : WD E B ((upd u.1 6 ((u.1 6) + (x2 - (u.2.1 x1.toNatClampNeg)))), (upd u.2.1 x1.toNatClampNeg x2), u.2.2.1, u.2.2.2) s H locs := hW
      refine lv_iconst (v := (0 : Int32)) hx hb dX1_setSlips_38 (by decide) ?_
      refine lv_istore_n (lv' := [(3, .int (0 : Int32)), (0, .ref (B 0)), (1, .int x1), (2, .int x2)]) hx hb dX1_setSlips_39 rfl hl (by decide) rfl (fun ls hl => ?_)
      exact tX1_setSlips_40 C0 fu _ _ _ _ _ _ _ hW (lv_sub hl [1, 2, 3, 0] rfl) hf
    · have hf := el hf c2
      obtain rfl := Option.some.inj hf
      exact e_muV (QH := fP E (cD E B u)) C0 hW.2.2 hW.2.1 dX1_setSlips_13
set_option maxHeartbeats 4000000 in
set_option maxRecDepth 100000 in
theorem tX1_setSlips {l : Launch} (E : EE) (B : Nat → Nat) {u : SD} {x1 : Int32} {x2 : Int32} {out : SD} (hB : iD B) (hf : fX1_setSlips x1 x2 u = some out) : muV l yX1_setSlips wsX1_setSlips rmX1_setSlips E [.ref (B 0), .int x1, .int x2] (aD B) (fP E (cD E B u)) (fP E (cD E B out)) := by
  refine Met.ofW (cc := cX1_setSlips) (maxL := 5) (ret := none) (by decide) rfl ?_
  intro p e s m args below meth c s₁ B0 hml hv
  obtain ⟨rfl, hP, hK⟩ := hv
  have C0 : cx wsX1_setSlips cX1_setSlips 5 none RX1 E p s m _ meth c := ⟨B0.exec, B0.bytes, B0.returns, hml, findClass_of_methodNamed B0.named, atoms_spec (ws := wsX1_setSlips) B0.pre, B0.notSynchronized, hK⟩
  have hl := lv_entry ([.ref (B 0), .int x1, .int x2]) (n := 5) (Nat.le_of_ble_eq_true rfl)
  rw [lg_entry_eq]
  generalize (lg_sl ([.ref (B 0), .int x1, .int x2]) ++ List.replicate (5 - (lg_sl ([.ref (B 0), .int x1, .int x2])).length) Slot.unset).toArray = ls at hl ⊢
  exact tX1_setSlips_0 C0 ⟨hB, hP, va_S.rf⟩ hl hf
abbrev rmX1_setWishes : Room := { frames := 0, cells := 0, slots := 0, locals := 0 }
set_option maxRecDepth 20000 in
theorem iX1_setWishes_X1 : ∀ w ∈ wsX10, w ∈ wsX1_setWishes := by decide +kernel
set_option maxHeartbeats 4000000 in
set_option maxRecDepth 100000 in
theorem tX1_setWishes_26 {p : Program} {l : Launch} {e : Env} {s : State} {m : MethodId} {args : Array Value} {below : List Frame} {meth : Method} {c : Code} {E : EE} {B : Nat → Nat} {out : SD} (C0 : cx wsX1_setWishes cX1_setWishes 4 none RX1 E p s m args meth c) {xs1 : Int32} {u : SD} {H : Heap} {locs : List Loc} {ls : Array Slot} (hW : WD E B u s H locs) (hl : lv_has ls 4 []) (hf : fX1_setWishes_26 xs1 u = some out) : W p l e rmX1_setWishes s m args below meth c H locs 0 0 (MQ below (va_Qv (fun (_ : Unit) => True) (fun _ t => fP E (cD E B out) t.heap) (aD B)) args s 0 0 (aD B)) (F0 m 26 ls [.int xs1, .ref (B 0)]) := by
  obtain ⟨hx, hb, hr, hml, hown, hts, hlk, hK⟩ := id C0
  unfold fX1_setWishes_26 at hf
  refine d_put C0 hW iX1_setWishes_X1 4 (by decide) (by decide +kernel) rfl (by decide +kernel) rfl dX1_setWishes_26 (fun H locs hW => ?_)
  have hW : WD E B ((upd u.1 4 xs1), u.2.1, u.2.2.1, u.2.2.2) s H locs := hW
  obtain rfl := Option.some.inj hf
  exact e_muV (QH := fP E (cD E B ((upd u.1 4 xs1), u.2.1, u.2.2.1, u.2.2.2))) C0 hW.2.2 hW.2.1 dX1_setWishes_29
set_option maxHeartbeats 4000000 in
set_option maxRecDepth 100000 in
theorem tX1_setWishes_0 {p : Program} {l : Launch} {e : Env} {s : State} {m : MethodId} {args : Array Value} {below : List Frame} {meth : Method} {c : Code} {E : EE} {B : Nat → Nat} {out : SD} (C0 : cx wsX1_setWishes cX1_setWishes 4 none RX1 E p s m args meth c) {x1 : Int32} {x2 : Int32} {u : SD} {H : Heap} {locs : List Loc} {ls : Array Slot} (hW : WD E B u s H locs) (hl : lv_has ls 4 [(0, .ref (B 0)), (1, .int x1), (2, .int x2)]) (hf : fX1_setWishes x1 x2 u = some out) : W p l e rmX1_setWishes s m args below meth c H locs 0 0 (MQ below (va_Qv (fun (_ : Unit) => True) (fun _ t => fP E (cD E B out) t.heap) (aD B)) args s 0 0 (aD B)) (F0 m 0 ls []) := by
  obtain ⟨hx, hb, hr, hml, hown, hts, hlk, hK⟩ := id C0
  unfold fX1_setWishes at hf
  refine lv_iconst (v := (1 : Int32)) hx hb dX1_setWishes_0 (by decide) ?_
  refine lv_iload_n hx hb dX1_setWishes_1 rfl (lv_at hl 1 rfl) ?_
  refine lv_ishl hx hb dX1_setWishes_2 ?_
  refine lv_istore_n (lv' := [(3, .int ((1 : Int32) <<< (x1 &&& 31))), (0, .ref (B 0)), (1, .int x1), (2, .int x2)]) hx hb dX1_setWishes_3 rfl hl (by decide) rfl (fun ls hl => ?_)
  refine lv_aload_n hx hb dX1_setWishes_4 rfl (lv_at hl 1 rfl) ?_
  refine lv_iload_n hx hb dX1_setWishes_5 rfl (lv_at hl 3 rfl) ?_
  refine lv_if_eq (tgt := 18) hx hb dX1_setWishes_6 (by decide) (fun c1 => ?_) (fun c1 => ?_)
  · have hf := th hf c1
    refine lv_aload_n hx hb dX1_setWishes_18 rfl (lv_at hl 1 rfl) ?_
    refine d_get C0 hW.2.1 iX1_setWishes_X1 4 (by decide) (by decide +kernel) rfl dX1_setWishes_19 ?_
    refine lv_iload_n hx hb dX1_setWishes_22 rfl (lv_at hl 0 rfl) ?_
    refine lv_iconst (v := (-1 : Int32)) hx hb dX1_setWishes_23 (by decide) ?_
    refine lv_ixor hx hb dX1_setWishes_24 ?_
    refine lv_iand hx hb dX1_setWishes_25 ?_
    exact tX1_setWishes_26 C0 hW (lv_sub hl [] rfl) hf
  · have hf := el hf c1
    refine lv_aload_n hx hb dX1_setWishes_9 rfl (lv_at hl 1 rfl) ?_
    refine d_get C0 hW.2.1 iX1_setWishes_X1 4 (by decide) (by decide +kernel) rfl dX1_setWishes_10 ?_
    refine lv_iload_n hx hb dX1_setWishes_13 rfl (lv_at hl 0 rfl) ?_
    refine lv_ior hx hb dX1_setWishes_14 ?_
    refine lv_goto (tgt := 26) hx hb dX1_setWishes_15 (by decide) ?_
    exact tX1_setWishes_26 C0 hW (lv_sub hl [] rfl) hf
set_option maxHeartbeats 4000000 in
set_option maxRecDepth 100000 in
theorem tX1_setWishes {l : Launch} (E : EE) (B : Nat → Nat) {u : SD} {x1 : Int32} {x2 : Int32} {out : SD} (hB : iD B) (hf : fX1_setWishes x1 x2 u = some out) : muV l yX1_setWishes wsX1_setWishes rmX1_setWishes E [.ref (B 0), .int x1, .int x2] (aD B) (fP E (cD E B u)) (fP E (cD E B out)) := by
  refine Met.ofW (cc := cX1_setWishes) (maxL := 4) (ret := none) (by decide) rfl ?_
  intro p e s m args below meth c s₁ B0 hml hv
  obtain ⟨rfl, hP, hK⟩ := hv
  have C0 : cx wsX1_setWishes cX1_setWishes 4 none RX1 E p s m _ meth c := ⟨B0.exec, B0.bytes, B0.returns, hml, findClass_of_methodNamed B0.named, atoms_spec (ws := wsX1_setWishes) B0.pre, B0.notSynchronized, hK⟩
  have hl := lv_entry ([.ref (B 0), .int x1, .int x2]) (n := 4) (Nat.le_of_ble_eq_true rfl)
  rw [lg_entry_eq]
  generalize (lg_sl ([.ref (B 0), .int x1, .int x2]) ++ List.replicate (4 - (lg_sl ([.ref (B 0), .int x1, .int x2])).length) Slot.unset).toArray = ls at hl ⊢
  exact tX1_setWishes_0 C0 ⟨hB, hP, va_S.rf⟩ hl hf
abbrev rmX1_slipsOfOne : Room := { frames := 0, cells := 0, slots := 0, locals := 0 }
set_option maxRecDepth 20000 in
theorem iX1_slipsOfOne_X1 : ∀ w ∈ wsX10, w ∈ wsX1_slipsOfOne := by decide +kernel
set_option maxHeartbeats 4000000 in
set_option maxRecDepth 100000 in
theorem tX1_slipsOfOne_22 {p : Program} {l : Launch} {e : Env} {s : State} {m : MethodId} {args : Array Value} {below : List Frame} {meth : Method} {c : Code} {E : EE} {B : Nat → Nat} {u : SD} {out : Int32} (C0 : cx wsX1_slipsOfOne cX1_slipsOfOne 2 (some .int) RX1 E p s m args meth c) (hP : fP E (cD E B u) s.heap) {ls : Array Slot} (hl : lv_has ls 2 []) (hf : fX1_slipsOfOne_22 u = some out) : W p l e rmX1_slipsOfOne s m args below meth c s.heap [] 0 0 (MQ below (vp_Si (fun r => r = out)) args s 0 0 (fun _ => False)) (F0 m 22 ls []) := by
  obtain ⟨hx, hb, hr, hml, hown, hts, hlk, hK⟩ := id C0
  unfold fX1_slipsOfOne_22 at hf
  refine lv_iconst (v := (0 : Int32)) hx hb dX1_slipsOfOne_22 (by decide) ?_
  exact e_roI C0 hf dX1_slipsOfOne_23
set_option maxHeartbeats 4000000 in
set_option maxRecDepth 100000 in
theorem tX1_slipsOfOne_0 {p : Program} {l : Launch} {e : Env} {s : State} {m : MethodId} {args : Array Value} {below : List Frame} {meth : Method} {c : Code} {E : EE} {B : Nat → Nat} {u : SD} {out : Int32} (C0 : cx wsX1_slipsOfOne cX1_slipsOfOne 2 (some .int) RX1 E p s m args meth c) (hP : fP E (cD E B u) s.heap) {x1 : Int32} {ls : Array Slot} (hl : lv_has ls 2 [(0, .ref (B 0)), (1, .int x1)]) (hf : fX1_slipsOfOne x1 u = some out) : W p l e rmX1_slipsOfOne s m args below meth c s.heap [] 0 0 (MQ below (vp_Si (fun r => r = out)) args s 0 0 (fun _ => False)) (F0 m 0 ls []) := by
  obtain ⟨hx, hb, hr, hml, hown, hts, hlk, hK⟩ := id C0
  unfold fX1_slipsOfOne at hf
  refine lv_iload_n hx hb dX1_slipsOfOne_0 rfl (lv_at hl 1 rfl) ?_
  refine lv_if_lt (tgt := 22) hx hb dX1_slipsOfOne_1 (by decide) (fun c1 => ?_) (fun c1 => ?_)
  · have hf := th hf c1
    exact tX1_slipsOfOne_22 C0 hP (lv_sub hl [] rfl) hf
  · have hf := el hf c1
    refine lv_iload_n hx hb dX1_slipsOfOne_4 rfl (lv_at hl 1 rfl) ?_
    refine lv_aload_n hx hb dX1_slipsOfOne_5 rfl (lv_at hl 0 rfl) ?_
    refine d_get C0 hP iX1_slipsOfOne_X1 0 (by decide) (by decide +kernel) rfl dX1_slipsOfOne_6 ?_
    refine d_len1 C0 hP dX1_slipsOfOne_9 ?_
    refine lv_icmp_ge (tgt := 22) hx hb dX1_slipsOfOne_10 (by decide) (fun c2 => ?_) (fun c2 => ?_)
    · have hf := th hf c2
      exact tX1_slipsOfOne_22 C0 hP (lv_sub hl [] rfl) hf
    · have hf := el hf c2
      refine lv_aload_n hx hb dX1_slipsOfOne_13 rfl (lv_at hl 0 rfl) ?_
      refine d_get C0 hP iX1_slipsOfOne_X1 0 (by decide) (by decide +kernel) rfl dX1_slipsOfOne_14 ?_
      refine lv_iload_n hx hb dX1_slipsOfOne_17 rfl (lv_at hl 1 rfl) ?_
      obtain ⟨h3, hf⟩ := gd hf
      refine d_ald1 C0 hP h3 dX1_slipsOfOne_18 ?_
      refine lv_goto (tgt := 23) hx hb dX1_slipsOfOne_19 (by decide) ?_
      exact e_roI C0 hf dX1_slipsOfOne_23
set_option maxHeartbeats 4000000 in
set_option maxRecDepth 100000 in
theorem tX1_slipsOfOne {l : Launch} (E : EE) (B : Nat → Nat) {u : SD} {x1 : Int32} {out : Int32} (hf : fX1_slipsOfOne x1 u = some out) : roI l yX1_slipsOfOne wsX1_slipsOfOne rmX1_slipsOfOne E [.ref (B 0), .int x1] (fP E (cD E B u)) out := by
  refine Met.ofW (cc := cX1_slipsOfOne) (maxL := 2) (ret := (some .int)) (by decide) rfl ?_
  intro p e s m args below meth c s₁ B0 hml hv
  obtain ⟨rfl, hP, hK⟩ := hv
  have C0 : cx wsX1_slipsOfOne cX1_slipsOfOne 2 (some .int) RX1 E p s m _ meth c := ⟨B0.exec, B0.bytes, B0.returns, hml, findClass_of_methodNamed B0.named, atoms_spec (ws := wsX1_slipsOfOne) B0.pre, B0.notSynchronized, hK⟩
  have hl := lv_entry ([.ref (B 0), .int x1]) (n := 2) (Nat.le_of_ble_eq_true rfl)
  rw [lg_entry_eq]
  generalize (lg_sl ([.ref (B 0), .int x1]) ++ List.replicate (2 - (lg_sl ([.ref (B 0), .int x1])).length) Slot.unset).toArray = ls at hl ⊢
  exact tX1_slipsOfOne_0 C0 hP hl hf
abbrev rmX1_taken : Room := { frames := 1, cells := 0, slots := 0, locals := 21 }
set_option maxRecDepth 20000 in
theorem iX1_taken_X1 : ∀ w ∈ wsX10, w ∈ wsX1_taken := by decide +kernel
set_option maxHeartbeats 4000000 in
set_option maxRecDepth 100000 in
theorem tX1_taken_0 {p : Program} {l : Launch} {e : Env} {s : State} {m : MethodId} {args : Array Value} {below : List Frame} {meth : Method} {c : Code} {E : EE} {B : Nat → Nat} {u : SD} {out : Int32} (C0 : cx wsX1_taken cX1_taken 1 (some .int) RX1 E p s m args meth c) (hP : fP E (cD E B u) s.heap) {ls : Array Slot} (hl : lv_has ls 1 [(0, .ref (B 0))]) (hf : fX1_taken u = some out) : W p l e rmX1_taken s m args below meth c s.heap [] 0 0 (MQ below (vp_Si (fun r => r = out)) args s 0 0 (fun _ => False)) (F0 m 0 ls []) := by
  obtain ⟨hx, hb, hr, hml, hown, hts, hlk, hK⟩ := id C0
  unfold fX1_taken at hf
  refine lv_aload_n hx hb dX1_taken_0 rfl (lv_at hl 0 rfl) ?_
  refine d_get C0 hP iX1_taken_X1 5 (by decide) (by decide +kernel) rfl dX1_taken_1 ?_
  refine lv_aload_n hx hb dX1_taken_4 rfl (lv_at hl 0 rfl) ?_
  refine d_get C0 hP iX1_taken_X1 6 (by decide) (by decide +kernel) rfl dX1_taken_5 ?_
  refine k_min C0 hl.1 (by decide +kernel) (by decide +kernel) (by decide +kernel) (by decide +kernel) (Nat.le_of_ble_eq_true rfl) (Nat.le_of_ble_eq_true rfl) (Nat.le_of_ble_eq_true rfl) (Nat.le_of_ble_eq_true rfl) dX1_taken_8 ?_
  exact e_roI C0 hf dX1_taken_11
set_option maxHeartbeats 4000000 in
set_option maxRecDepth 100000 in
theorem tX1_taken {l : Launch} (E : EE) (B : Nat → Nat) {u : SD} {out : Int32} (hf : fX1_taken u = some out) : roI l yX1_taken wsX1_taken rmX1_taken E [.ref (B 0)] (fP E (cD E B u)) out := by
  refine Met.ofW (cc := cX1_taken) (maxL := 1) (ret := (some .int)) (by decide) rfl ?_
  intro p e s m args below meth c s₁ B0 hml hv
  obtain ⟨rfl, hP, hK⟩ := hv
  have C0 : cx wsX1_taken cX1_taken 1 (some .int) RX1 E p s m _ meth c := ⟨B0.exec, B0.bytes, B0.returns, hml, findClass_of_methodNamed B0.named, atoms_spec (ws := wsX1_taken) B0.pre, B0.notSynchronized, hK⟩
  have hl := lv_entry ([.ref (B 0)]) (n := 1) (Nat.le_of_ble_eq_true rfl)
  rw [lg_entry_eq]
  generalize (lg_sl ([.ref (B 0)]) ++ List.replicate (1 - (lg_sl ([.ref (B 0)])).length) Slot.unset).toArray = ls at hl ⊢
  exact tX1_taken_0 C0 hP hl hf
abbrev rmX1_draws : Room := { frames := 2, cells := 0, slots := 0, locals := 41 }
set_option maxRecDepth 20000 in
theorem iX1_draws_X1 : ∀ w ∈ wsX10, w ∈ wsX1_draws := by decide +kernel
set_option maxHeartbeats 4000000 in
set_option maxRecDepth 100000 in
theorem tX1_draws_0 {p : Program} {l : Launch} {e : Env} {s : State} {m : MethodId} {args : Array Value} {below : List Frame} {meth : Method} {c : Code} {E : EE} {B : Nat → Nat} {u : SD} {out : Int64} (C0 : cx wsX1_draws cX1_draws 1 (some .long) RX1 E p s m args meth c) (hP : fP E (cD E B u) s.heap) {ls : Array Slot} (hl : lv_has ls 1 [(0, .ref (B 0))]) (hf : fX1_draws u = some out) : W p l e rmX1_draws s m args below meth c s.heap [] 0 0 (MQ below (vp_Sl (fun r => r = out)) args s 0 0 (fun _ => False)) (F0 m 0 ls []) := by
  obtain ⟨hx, hb, hr, hml, hown, hts, hlk, hK⟩ := id C0
  unfold fX1_draws at hf
  refine lv_aload_n hx hb dX1_draws_0 rfl (lv_at hl 0 rfl) ?_
  refine d_get C0 hP iX1_draws_X1 6 (by decide) (by decide +kernel) rfl dX1_draws_1 ?_
  refine lv_aload_n hx hb dX1_draws_4 rfl (lv_at hl 0 rfl) ?_
  obtain ⟨q1, h2, hf⟩ := bd hf
  refine k_roI (run_V (rest := [.int (u.1 6)]) (n := 0) C0 (tX1_taken E B h2) gX1_draws_X1_taken rfl rfl (by decide +kernel) (hP 0 _ rfl) rfl rfl hP hl.1 rfl rfl (Nat.le_of_ble_eq_true rfl) dX1_draws_5) ?_
  obtain ⟨q3, h4, hf⟩ := bd hf
  refine k_roL (run_S (rest := []) (n := 2) (PH := fun _ => True) C0 (tX1_choose E h4) gX1_draws_X1_choose rfl rfl (by decide +kernel) trivial hl.1 rfl rfl (Nat.le_of_ble_eq_true rfl) dX1_draws_8) ?_
  exact e_roL C0 hf dX1_draws_11
set_option maxHeartbeats 4000000 in
set_option maxRecDepth 100000 in
theorem tX1_draws {l : Launch} (E : EE) (B : Nat → Nat) {u : SD} {out : Int64} (hf : fX1_draws u = some out) : roL l yX1_draws wsX1_draws rmX1_draws E [.ref (B 0)] (fP E (cD E B u)) out := by
  refine Met.ofW (cc := cX1_draws) (maxL := 1) (ret := (some .long)) (by decide) rfl ?_
  intro p e s m args below meth c s₁ B0 hml hv
  obtain ⟨rfl, hP, hK⟩ := hv
  have C0 : cx wsX1_draws cX1_draws 1 (some .long) RX1 E p s m _ meth c := ⟨B0.exec, B0.bytes, B0.returns, hml, findClass_of_methodNamed B0.named, atoms_spec (ws := wsX1_draws) B0.pre, B0.notSynchronized, hK⟩
  have hl := lv_entry ([.ref (B 0)]) (n := 1) (Nat.le_of_ble_eq_true rfl)
  rw [lg_entry_eq]
  generalize (lg_sl ([.ref (B 0)]) ++ List.replicate (1 - (lg_sl ([.ref (B 0)])).length) Slot.unset).toArray = ls at hl ⊢
  exact tX1_draws_0 C0 hP hl hf
abbrev rmX1_drawsSparing : Room := { frames := 2, cells := 0, slots := 0, locals := 41 }
set_option maxRecDepth 20000 in
theorem iX1_drawsSparing_X1 : ∀ w ∈ wsX10, w ∈ wsX1_drawsSparing := by decide +kernel
set_option maxHeartbeats 4000000 in
set_option maxRecDepth 100000 in
theorem tX1_drawsSparing_0 {p : Program} {l : Launch} {e : Env} {s : State} {m : MethodId} {args : Array Value} {below : List Frame} {meth : Method} {c : Code} {E : EE} {B : Nat → Nat} {u : SD} {out : Int64} (C0 : cx wsX1_drawsSparing cX1_drawsSparing 2 (some .long) RX1 E p s m args meth c) (hP : fP E (cD E B u) s.heap) {x1 : Int32} {ls : Array Slot} (hl : lv_has ls 2 [(0, .ref (B 0)), (1, .int x1)]) (hf : fX1_drawsSparing x1 u = some out) : W p l e rmX1_drawsSparing s m args below meth c s.heap [] 0 0 (MQ below (vp_Sl (fun r => r = out)) args s 0 0 (fun _ => False)) (F0 m 0 ls []) := by
  obtain ⟨hx, hb, hr, hml, hown, hts, hlk, hK⟩ := id C0
  unfold fX1_drawsSparing at hf
  refine lv_aload_n hx hb dX1_drawsSparing_0 rfl (lv_at hl 0 rfl) ?_
  refine d_get C0 hP iX1_drawsSparing_X1 6 (by decide) (by decide +kernel) rfl dX1_drawsSparing_1 ?_
  refine lv_aload_n hx hb dX1_drawsSparing_4 rfl (lv_at hl 0 rfl) ?_
  refine lv_iload_n hx hb dX1_drawsSparing_5 rfl (lv_at hl 1 rfl) ?_
  obtain ⟨q1, h2, hf⟩ := bd hf
  refine k_roI (run_V (rest := [.int (u.1 6)]) (n := 1) C0 (tX1_slipsOfOne E B h2) gX1_drawsSparing_X1_slipsOfOne rfl rfl (by decide +kernel) (hP 0 _ rfl) rfl rfl hP hl.1 rfl rfl (Nat.le_of_ble_eq_true rfl) dX1_drawsSparing_6) ?_
  refine lv_isub hx hb dX1_drawsSparing_9 ?_
  refine lv_aload_n hx hb dX1_drawsSparing_10 rfl (lv_at hl 0 rfl) ?_
  obtain ⟨q3, h4, hf⟩ := bd hf
  refine k_roI (run_V (rest := [.int ((u.1 6) - q1)]) (n := 0) C0 (tX1_taken E B h4) gX1_drawsSparing_X1_taken rfl rfl (by decide +kernel) (hP 0 _ rfl) rfl rfl hP hl.1 rfl rfl (Nat.le_of_ble_eq_true rfl) dX1_drawsSparing_11) ?_
  obtain ⟨q5, h6, hf⟩ := bd hf
  refine k_roL (run_S (rest := []) (n := 2) (PH := fun _ => True) C0 (tX1_choose E h6) gX1_drawsSparing_X1_choose rfl rfl (by decide +kernel) trivial hl.1 rfl rfl (Nat.le_of_ble_eq_true rfl) dX1_drawsSparing_14) ?_
  exact e_roL C0 hf dX1_drawsSparing_17
set_option maxHeartbeats 4000000 in
set_option maxRecDepth 100000 in
theorem tX1_drawsSparing {l : Launch} (E : EE) (B : Nat → Nat) {u : SD} {x1 : Int32} {out : Int64} (hf : fX1_drawsSparing x1 u = some out) : roL l yX1_drawsSparing wsX1_drawsSparing rmX1_drawsSparing E [.ref (B 0), .int x1] (fP E (cD E B u)) out := by
  refine Met.ofW (cc := cX1_drawsSparing) (maxL := 2) (ret := (some .long)) (by decide) rfl ?_
  intro p e s m args below meth c s₁ B0 hml hv
  obtain ⟨rfl, hP, hK⟩ := hv
  have C0 : cx wsX1_drawsSparing cX1_drawsSparing 2 (some .long) RX1 E p s m _ meth c := ⟨B0.exec, B0.bytes, B0.returns, hml, findClass_of_methodNamed B0.named, atoms_spec (ws := wsX1_drawsSparing) B0.pre, B0.notSynchronized, hK⟩
  have hl := lv_entry ([.ref (B 0), .int x1]) (n := 2) (Nat.le_of_ble_eq_true rfl)
  rw [lg_entry_eq]
  generalize (lg_sl ([.ref (B 0), .int x1]) ++ List.replicate (2 - (lg_sl ([.ref (B 0), .int x1])).length) Slot.unset).toArray = ls at hl ⊢
  exact tX1_drawsSparing_0 C0 hP hl hf
abbrev rmX1_waysWithLast : Room := { frames := 1, cells := 0, slots := 0, locals := 20 }
set_option maxRecDepth 20000 in
theorem iX1_waysWithLast_X1 : ∀ w ∈ wsX10, w ∈ wsX1_waysWithLast := by decide +kernel
set_option maxHeartbeats 4000000 in
set_option maxRecDepth 100000 in
theorem tX1_waysWithLast_91 {p : Program} {l : Launch} {e : Env} {s : State} {m : MethodId} {args : Array Value} {below : List Frame} {meth : Method} {c : Code} {E : EE} {B : Nat → Nat} {u : SD} {out : Int64} {c14 : Int32 → Int32 → Int32 → Int32 → Int64 → Int32 → SD → Option (Int64)} (C0 : cx wsX1_waysWithLast cX1_waysWithLast 10 (some .long) RX1 E p s m args meth c) (hP : fP E (cD E B u) s.heap) (hc14 : ∀ (x1 : Int32) (x2 : Int32) (x3 : Int32) (x4 : Int32) (x5 : Int64) (x7 : Int32) (ls : Array Slot), lv_has ls 10 [(0, .ref (B 0)), (1, .int x1), (2, .int x2), (3, .int x3), (4, .int x4), (5, .long x5), (7, .int x7)] → c14 x1 x2 x3 x4 x5 x7 u = some out → W p l e rmX1_waysWithLast s m args below meth c s.heap [] 0 0 (MQ below (vp_Sl (fun r => r = out)) args s 0 0 (fun _ => False)) (F0 m 14 ls [])) {x1 : Int32} {x2 : Int32} {x3 : Int32} {x4 : Int32} {x5 : Int64} {x7 : Int32} {ls : Array Slot} (hl : lv_has ls 10 [(0, .ref (B 0)), (1, .int x1), (2, .int x2), (3, .int x3), (4, .int x4), (5, .long x5), (7, .int x7)]) (hf : fX1_waysWithLast_91 c14 x1 x2 x3 x4 x5 x7 u = some out) : W p l e rmX1_waysWithLast s m args below meth c s.heap [] 0 0 (MQ below (vp_Sl (fun r => r = out)) args s 0 0 (fun _ => False)) (F0 m 91 ls []) := by
  obtain ⟨hx, hb, hr, hml, hown, hts, hlk, hK⟩ := id C0
  unfold fX1_waysWithLast_91 at hf
  refine lv_iinc (v := (x7 + (1 : Int32))) (lv' := [(7, .int (x7 + (1 : Int32))), (0, .ref (B 0)), (1, .int x1), (2, .int x2), (3, .int x3), (4, .int x4), (5, .long x5)]) hx hb dX1_waysWithLast_91 hl (k := 6) rfl rfl (by decide) rfl (fun ls hl => ?_)
  refine lv_goto (tgt := 14) hx hb dX1_waysWithLast_94 (by decide) ?_
  exact hc14 _ _ _ _ _ _ _ (lv_sub hl [1, 2, 3, 4, 5, 6, 0] rfl) hf
set_option maxHeartbeats 4000000 in
set_option maxRecDepth 100000 in
theorem tX1_waysWithLast_14 {p : Program} {l : Launch} {e : Env} {s : State} {m : MethodId} {args : Array Value} {below : List Frame} {meth : Method} {c : Code} {E : EE} {B : Nat → Nat} {u : SD} {out : Int64} (C0 : cx wsX1_waysWithLast cX1_waysWithLast 10 (some .long) RX1 E p s m args meth c) (hP : fP E (cD E B u) s.heap) : ∀ (n : Nat) (x1 : Int32) (x2 : Int32) (x3 : Int32) (x4 : Int32) (x5 : Int64) (x7 : Int32) (ls : Array Slot), lv_has ls 10 [(0, .ref (B 0)), (1, .int x1), (2, .int x2), (3, .int x3), (4, .int x4), (5, .long x5), (7, .int x7)] → fX1_waysWithLast_14 n x1 x2 x3 x4 x5 x7 u = some out → W p l e rmX1_waysWithLast s m args below meth c s.heap [] 0 0 (MQ below (vp_Sl (fun r => r = out)) args s 0 0 (fun _ => False)) (F0 m 14 ls []) := by
  obtain ⟨hx, hb, hr, hml, hown, hts, hlk, hK⟩ := id C0
  intro n
  induction n with
  | zero =>
    intro x1 x2 x3 x4 x5 x7 ls hl hf
    cases (show none = some out from hf)
  | succ n ih =>
    intro x1 x2 x3 x4 x5 x7 ls hl hf
    rw [fX1_waysWithLast_14] at hf
    refine lv_iload hx hb dX1_waysWithLast_14 (lv_at hl 6 rfl) ?_
    refine lv_iload hx hb dX1_waysWithLast_16 (lv_at hl 4 rfl) ?_
    refine lv_icmp_gt (tgt := 97) hx hb dX1_waysWithLast_18 (by decide) (fun c1 => ?_) (fun c1 => ?_)
    · have hf := th hf c1
      refine lv_lload hx hb dX1_waysWithLast_97 (lv_at hl 5 rfl) ?_
      exact e_roL C0 hf dX1_waysWithLast_99
    · have hf := el hf c1
      refine lv_iload_n hx hb dX1_waysWithLast_21 rfl (lv_at hl 2 rfl) ?_
      refine lv_bipush (v := (7 : Int32)) hx hb dX1_waysWithLast_22 (by decide) ?_
      refine lv_imul hx hb dX1_waysWithLast_24 ?_
      refine lv_iload hx hb dX1_waysWithLast_25 (lv_at hl 6 rfl) ?_
      refine lv_iadd hx hb dX1_waysWithLast_27 ?_
      refine lv_istore (lv' := [(8, .int ((x2 * (7 : Int32)) + x7)), (0, .ref (B 0)), (1, .int x1), (2, .int x2), (3, .int x3), (4, .int x4), (5, .long x5), (7, .int x7)]) hx hb dX1_waysWithLast_28 hl (by decide) rfl (fun ls hl => ?_)
      refine lv_iload_n hx hb dX1_waysWithLast_30 rfl (lv_at hl 2 rfl) ?_
      refine lv_bipush (v := (7 : Int32)) hx hb dX1_waysWithLast_31 (by decide) ?_
      refine lv_imul hx hb dX1_waysWithLast_33 ?_
      refine lv_iload_n hx hb dX1_waysWithLast_34 rfl (lv_at hl 4 rfl) ?_
      refine lv_iadd hx hb dX1_waysWithLast_35 ?_
      refine lv_iload hx hb dX1_waysWithLast_36 (lv_at hl 7 rfl) ?_
      refine lv_isub hx hb dX1_waysWithLast_38 ?_
      refine lv_istore (lv' := [(9, .int (((x1 * (7 : Int32)) + x3) - x7)), (8, .int ((x2 * (7 : Int32)) + x7)), (0, .ref (B 0)), (1, .int x1), (2, .int x2), (3, .int x3), (4, .int x4), (5, .long x5), (7, .int x7)]) hx hb dX1_waysWithLast_39 hl (by decide) rfl (fun ls hl => ?_)
      refine lv_iload hx hb dX1_waysWithLast_41 (lv_at hl 1 rfl) ?_
      refine lv_if_lt (tgt := 91) hx hb dX1_waysWithLast_43 (by decide) (fun c2 => ?_) (fun c2 => ?_)
      · have hf := th hf c2
        exact tX1_waysWithLast_91 C0 hP ih (lv_sub hl [2, 3, 4, 5, 6, 7, 8] rfl) hf
      · have hf := el hf c2
        refine lv_iload hx hb dX1_waysWithLast_46 (lv_at hl 1 rfl) ?_
        refine lv_aload_n hx hb dX1_waysWithLast_48 rfl (lv_at hl 2 rfl) ?_
        refine d_get C0 hP iX1_waysWithLast_X1 1 (by decide) (by decide +kernel) rfl dX1_waysWithLast_49 ?_
        refine d_len2 C0 hP dX1_waysWithLast_52 ?_
        refine lv_icmp_ge (tgt := 91) hx hb dX1_waysWithLast_53 (by decide) (fun c3 => ?_) (fun c3 => ?_)
        · have hf := th hf c3
          exact tX1_waysWithLast_91 C0 hP ih (lv_sub hl [2, 3, 4, 5, 6, 7, 8] rfl) hf
        · have hf := el hf c3
          refine lv_iload hx hb dX1_waysWithLast_56 (lv_at hl 0 rfl) ?_
          refine lv_if_lt (tgt := 91) hx hb dX1_waysWithLast_58 (by decide) (fun c4 => ?_) (fun c4 => ?_)
          · have hf := th hf c4
            exact tX1_waysWithLast_91 C0 hP ih (lv_sub hl [2, 3, 4, 5, 6, 7, 8] rfl) hf
          · have hf := el hf c4
            refine lv_iload hx hb dX1_waysWithLast_61 (lv_at hl 0 rfl) ?_
            refine lv_aload_n hx hb dX1_waysWithLast_63 rfl (lv_at hl 2 rfl) ?_
            refine d_get C0 hP iX1_waysWithLast_X1 2 (by decide) (by decide +kernel) rfl dX1_waysWithLast_64 ?_
            refine d_len3 C0 hP dX1_waysWithLast_67 ?_
            refine lv_icmp_ge (tgt := 91) hx hb dX1_waysWithLast_68 (by decide) (fun c5 => ?_) (fun c5 => ?_)
            · have hf := th hf c5
              exact tX1_waysWithLast_91 C0 hP ih (lv_sub hl [2, 3, 4, 5, 6, 7, 8] rfl) hf
            · have hf := el hf c5
              refine lv_lload hx hb dX1_waysWithLast_71 (lv_at hl 7 rfl) ?_
              refine lv_aload_n hx hb dX1_waysWithLast_73 rfl (lv_at hl 2 rfl) ?_
              refine d_get C0 hP iX1_waysWithLast_X1 1 (by decide) (by decide +kernel) rfl dX1_waysWithLast_74 ?_
              refine lv_iload hx hb dX1_waysWithLast_77 (lv_at hl 1 rfl) ?_
              obtain ⟨h6, hf⟩ := gd hf
              refine d_ald2 C0 hP h6 dX1_waysWithLast_79 ?_
              refine lv_aload_n hx hb dX1_waysWithLast_80 rfl (lv_at hl 2 rfl) ?_
              refine d_get C0 hP iX1_waysWithLast_X1 2 (by decide) (by decide +kernel) rfl dX1_waysWithLast_81 ?_
              refine lv_iload hx hb dX1_waysWithLast_84 (lv_at hl 0 rfl) ?_
              obtain ⟨h7, hf⟩ := gd hf
              refine d_ald3 C0 hP h7 dX1_waysWithLast_86 ?_
              refine lv_lmul hx hb dX1_waysWithLast_87 ?_
              refine lv_ladd hx hb dX1_waysWithLast_88 ?_
              refine lv_lstore (lv' := [(5, .long (x5 + ((u.2.2.1 ((x2 * (7 : Int32)) + x7).toNatClampNeg) * (u.2.2.2 (((x1 * (7 : Int32)) + x3) - x7).toNatClampNeg)))), (9, .int (((x1 * (7 : Int32)) + x3) - x7)), (8, .int ((x2 * (7 : Int32)) + x7)), (0, .ref (B 0)), (1, .int x1), (2, .int x2), (3, .int x3), (4, .int x4), (7, .int x7)]) hx hb dX1_waysWithLast_89 hl (by decide) rfl (fun ls hl => ?_)
              exact tX1_waysWithLast_91 C0 hP ih (lv_sub hl [3, 4, 5, 6, 7, 0, 8] rfl) hf
set_option maxHeartbeats 4000000 in
set_option maxRecDepth 100000 in
theorem tX1_waysWithLast_0 {p : Program} {l : Launch} {e : Env} {s : State} {m : MethodId} {args : Array Value} {below : List Frame} {meth : Method} {c : Code} {E : EE} {B : Nat → Nat} {u : SD} {out : Int64} (C0 : cx wsX1_waysWithLast cX1_waysWithLast 10 (some .long) RX1 E p s m args meth c) (hP : fP E (cD E B u) s.heap) {x1 : Int32} {x2 : Int32} {x3 : Int32} {ls : Array Slot} (hl : lv_has ls 10 [(0, .ref (B 0)), (1, .int x1), (2, .int x2), (3, .int x3)]) (hf : fX1_waysWithLast x1 x2 x3 u = some out) : W p l e rmX1_waysWithLast s m args below meth c s.heap [] 0 0 (MQ below (vp_Sl (fun r => r = out)) args s 0 0 (fun _ => False)) (F0 m 0 ls []) := by
  obtain ⟨hx, hb, hr, hml, hown, hts, hlk, hK⟩ := id C0
  unfold fX1_waysWithLast at hf
  refine lv_iload_n hx hb dX1_waysWithLast_0 rfl (lv_at hl 3 rfl) ?_
  refine lv_iload_n hx hb dX1_waysWithLast_1 rfl (lv_at hl 1 rfl) ?_
  obtain ⟨q1, h2, hf⟩ := bd hf
  refine k_roI (run_S (rest := [.int x3]) (n := 1) (PH := fun _ => True) C0 (tJ6_bitCount_0f7a4 E h2) gX1_waysWithLast_J6_bitCount_0f7a4 rfl rfl (by decide +kernel) trivial hl.1 rfl rfl (Nat.le_of_ble_eq_true rfl) dX1_waysWithLast_2) ?_
  refine lv_isub hx hb dX1_waysWithLast_5 ?_
  refine lv_istore (lv' := [(4, .int (x3 - q1)), (0, .ref (B 0)), (1, .int x1), (2, .int x2), (3, .int x3)]) hx hb dX1_waysWithLast_6 hl (by decide) rfl (fun ls hl => ?_)
  refine lv_lconst (v := (0 : Int64)) hx hb dX1_waysWithLast_8 (by decide) ?_
  refine lv_lstore (lv' := [(5, .long (0 : Int64)), (4, .int (x3 - q1)), (0, .ref (B 0)), (1, .int x1), (2, .int x2), (3, .int x3)]) hx hb dX1_waysWithLast_9 hl (by decide) rfl (fun ls hl => ?_)
  refine lv_iconst (v := (1 : Int32)) hx hb dX1_waysWithLast_11 (by decide) ?_
  refine lv_istore (lv' := [(7, .int (1 : Int32)), (5, .long (0 : Int64)), (4, .int (x3 - q1)), (0, .ref (B 0)), (1, .int x1), (2, .int x2), (3, .int x3)]) hx hb dX1_waysWithLast_12 hl (by decide) rfl (fun ls hl => ?_)
  exact tX1_waysWithLast_14 C0 hP fu _ _ _ _ _ _ _ (lv_sub hl [3, 4, 5, 6, 2, 1, 0] rfl) hf
set_option maxHeartbeats 4000000 in
set_option maxRecDepth 100000 in
theorem tX1_waysWithLast {l : Launch} (E : EE) (B : Nat → Nat) {u : SD} {x1 : Int32} {x2 : Int32} {x3 : Int32} {out : Int64} (hf : fX1_waysWithLast x1 x2 x3 u = some out) : roL l yX1_waysWithLast wsX1_waysWithLast rmX1_waysWithLast E [.ref (B 0), .int x1, .int x2, .int x3] (fP E (cD E B u)) out := by
  refine Met.ofW (cc := cX1_waysWithLast) (maxL := 10) (ret := (some .long)) (by decide) rfl ?_
  intro p e s m args below meth c s₁ B0 hml hv
  obtain ⟨rfl, hP, hK⟩ := hv
  have C0 : cx wsX1_waysWithLast cX1_waysWithLast 10 (some .long) RX1 E p s m _ meth c := ⟨B0.exec, B0.bytes, B0.returns, hml, findClass_of_methodNamed B0.named, atoms_spec (ws := wsX1_waysWithLast) B0.pre, B0.notSynchronized, hK⟩
  have hl := lv_entry ([.ref (B 0), .int x1, .int x2, .int x3]) (n := 10) (Nat.le_of_ble_eq_true rfl)
  rw [lg_entry_eq]
  generalize (lg_sl ([.ref (B 0), .int x1, .int x2, .int x3]) ++ List.replicate (10 - (lg_sl ([.ref (B 0), .int x1, .int x2, .int x3])).length) Slot.unset).toArray = ls at hl ⊢
  exact tX1_waysWithLast_0 C0 hP hl hf
abbrev rmX1_countFreeingWith : Room := { frames := 2, cells := 0, slots := 0, locals := 49 }
set_option maxRecDepth 20000 in
theorem iX1_countFreeingWith_X1 : ∀ w ∈ wsX10, w ∈ wsX1_countFreeingWith := by decide +kernel
set_option maxHeartbeats 4000000 in
set_option maxRecDepth 100000 in
theorem tX1_countFreeingWith_72 {p : Program} {l : Launch} {e : Env} {s : State} {m : MethodId} {args : Array Value} {below : List Frame} {meth : Method} {c : Code} {E : EE} {B : Nat → Nat} {out : SD} {c19 : Int32 → Int32 → Int32 → Int32 → Int32 → SD → Option (SD)} (C0 : cx wsX1_countFreeingWith cX1_countFreeingWith 7 none RX1 E p s m args meth c) (hc19 : ∀ (x1 : Int32) (x2 : Int32) (x3 : Int32) (x4 : Int32) (x5 : Int32) (u : SD) (H : Heap) (locs : List Loc) (ls : Array Slot) (_ : WD E B u s H locs), lv_has ls 7 [(0, .ref (B 0)), (1, .int x1), (2, .int x2), (3, .int x3), (4, .int x4), (5, .int x5)] → c19 x1 x2 x3 x4 x5 u = some out → W p l e rmX1_countFreeingWith s m args below meth c H locs 0 0 (MQ below (va_Qv (fun (_ : Unit) => True) (fun _ t => fP E (cD E B out) t.heap) (aD B)) args s 0 0 (aD B)) (F0 m 19 ls [])) {x1 : Int32} {x2 : Int32} {x3 : Int32} {x4 : Int32} {x5 : Int32} {u : SD} {H : Heap} {locs : List Loc} {ls : Array Slot} (hW : WD E B u s H locs) (hl : lv_has ls 7 [(0, .ref (B 0)), (1, .int x1), (2, .int x2), (3, .int x3), (4, .int x4), (5, .int x5)]) (hf : fX1_countFreeingWith_72 c19 x1 x2 x3 x4 x5 u = some out) : W p l e rmX1_countFreeingWith s m args below meth c H locs 0 0 (MQ below (va_Qv (fun (_ : Unit) => True) (fun _ t => fP E (cD E B out) t.heap) (aD B)) args s 0 0 (aD B)) (F0 m 72 ls []) := by
  obtain ⟨hx, hb, hr, hml, hown, hts, hlk, hK⟩ := id C0
  unfold fX1_countFreeingWith_72 at hf
  refine lv_iinc (v := (x5 + (1 : Int32))) (lv' := [(5, .int (x5 + (1 : Int32))), (0, .ref (B 0)), (1, .int x1), (2, .int x2), (3, .int x3), (4, .int x4)]) hx hb dX1_countFreeingWith_72 hl (k := 5) rfl rfl (by decide) rfl (fun ls hl => ?_)
  refine lv_goto (tgt := 19) hx hb dX1_countFreeingWith_75 (by decide) ?_
  exact hc19 _ _ _ _ _ _ _ _ _ hW (lv_sub hl [1, 2, 3, 4, 5, 0] rfl) hf
set_option maxHeartbeats 4000000 in
set_option maxRecDepth 100000 in
theorem tX1_countFreeingWith_19 {p : Program} {l : Launch} {e : Env} {s : State} {m : MethodId} {args : Array Value} {below : List Frame} {meth : Method} {c : Code} {E : EE} {B : Nat → Nat} {out : SD} (C0 : cx wsX1_countFreeingWith cX1_countFreeingWith 7 none RX1 E p s m args meth c) : ∀ (n : Nat) (x1 : Int32) (x2 : Int32) (x3 : Int32) (x4 : Int32) (x5 : Int32) (u : SD) (H : Heap) (locs : List Loc) (ls : Array Slot) (_ : WD E B u s H locs), lv_has ls 7 [(0, .ref (B 0)), (1, .int x1), (2, .int x2), (3, .int x3), (4, .int x4), (5, .int x5)] → fX1_countFreeingWith_19 n x1 x2 x3 x4 x5 u = some out → W p l e rmX1_countFreeingWith s m args below meth c H locs 0 0 (MQ below (va_Qv (fun (_ : Unit) => True) (fun _ t => fP E (cD E B out) t.heap) (aD B)) args s 0 0 (aD B)) (F0 m 19 ls []) := by
  obtain ⟨hx, hb, hr, hml, hown, hts, hlk, hK⟩ := id C0
  intro n
  induction n with
  | zero =>
    intro x1 x2 x3 x4 x5 u H locs ls hW hl hf
    cases (show none = some out from hf)
  | succ n ih =>
    intro x1 x2 x3 x4 x5 u H locs ls hW hl hf
    rw [fX1_countFreeingWith_19] at hf
    refine lv_iload hx hb dX1_countFreeingWith_19 (lv_at hl 5 rfl) ?_
    refine lv_iload_n hx hb dX1_countFreeingWith_21 rfl (lv_at hl 3 rfl) ?_
    refine lv_icmp_gt (tgt := 78) hx hb dX1_countFreeingWith_22 (by decide) (fun c1 => ?_) (fun c1 => ?_)
    · have hf := th hf c1
      obtain rfl := Option.some.inj hf
      exact e_muV (QH := fP E (cD E B u)) C0 hW.2.2 hW.2.1 dX1_countFreeingWith_78
    · have hf := el hf c1
      refine lv_iload hx hb dX1_countFreeingWith_25 (lv_at hl 5 rfl) ?_
      refine lv_bipush (v := (7 : Int32)) hx hb dX1_countFreeingWith_27 (by decide) ?_
      refine lv_icmp_ge (tgt := 78) hx hb dX1_countFreeingWith_29 (by decide) (fun c2 => ?_) (fun c2 => ?_)
      · have hf := th hf c2
        obtain rfl := Option.some.inj hf
        exact e_muV (QH := fP E (cD E B u)) C0 hW.2.2 hW.2.1 dX1_countFreeingWith_78
      · have hf := el hf c2
        refine lv_iload hx hb dX1_countFreeingWith_32 (lv_at hl 4 rfl) ?_
        refine lv_bipush (v := (7 : Int32)) hx hb dX1_countFreeingWith_34 (by decide) ?_
        refine lv_imul hx hb dX1_countFreeingWith_36 ?_
        refine lv_iload hx hb dX1_countFreeingWith_37 (lv_at hl 5 rfl) ?_
        refine lv_iadd hx hb dX1_countFreeingWith_39 ?_
        refine lv_istore (lv' := [(6, .int ((x4 * (7 : Int32)) + x5)), (0, .ref (B 0)), (1, .int x1), (2, .int x2), (3, .int x3), (4, .int x4), (5, .int x5)]) hx hb dX1_countFreeingWith_40 hl (by decide) rfl (fun ls hl => ?_)
        refine lv_iload hx hb dX1_countFreeingWith_42 (lv_at hl 0 rfl) ?_
        refine lv_if_lt (tgt := 72) hx hb dX1_countFreeingWith_44 (by decide) (fun c3 => ?_) (fun c3 => ?_)
        · have hf := th hf c3
          exact tX1_countFreeingWith_72 C0 ih hW (lv_sub hl [1, 2, 3, 4, 5, 6] rfl) hf
        · have hf := el hf c3
          refine lv_iload hx hb dX1_countFreeingWith_47 (lv_at hl 0 rfl) ?_
          refine lv_aload_n hx hb dX1_countFreeingWith_49 rfl (lv_at hl 1 rfl) ?_
          refine d_get C0 hW.2.1 iX1_countFreeingWith_X1 2 (by decide) (by decide +kernel) rfl dX1_countFreeingWith_50 ?_
          refine d_len3 C0 hW.2.1 dX1_countFreeingWith_53 ?_
          refine lv_icmp_ge (tgt := 72) hx hb dX1_countFreeingWith_54 (by decide) (fun c4 => ?_) (fun c4 => ?_)
          · have hf := th hf c4
            exact tX1_countFreeingWith_72 C0 ih hW (lv_sub hl [1, 2, 3, 4, 5, 6] rfl) hf
          · have hf := el hf c4
            refine lv_aload_n hx hb dX1_countFreeingWith_57 rfl (lv_at hl 1 rfl) ?_
            refine d_get C0 hW.2.1 iX1_countFreeingWith_X1 2 (by decide) (by decide +kernel) rfl dX1_countFreeingWith_58 ?_
            refine lv_iload hx hb dX1_countFreeingWith_61 (lv_at hl 0 rfl) ?_
            refine lv_aload_n hx hb dX1_countFreeingWith_63 rfl (lv_at hl 1 rfl) ?_
            refine lv_iload_n hx hb dX1_countFreeingWith_64 rfl (lv_at hl 2 rfl) ?_
            refine lv_iload_n hx hb dX1_countFreeingWith_65 rfl (lv_at hl 3 rfl) ?_
            refine lv_iload hx hb dX1_countFreeingWith_66 (lv_at hl 6 rfl) ?_
            obtain ⟨q5, h6, hf⟩ := bd hf
            refine k_roL (run_V (rest := [.int ((x4 * (7 : Int32)) + x5), .ref (B 3)]) (n := 3) C0 (tX1_waysWithLast E B h6) gX1_countFreeingWith_X1_waysWithLast rfl rfl (by decide +kernel) (hW.2.1 0 _ rfl) rfl rfl hW.2.1 hl.1 rfl rfl (Nat.le_of_ble_eq_true rfl) dX1_countFreeingWith_68) ?_
            obtain ⟨h7, hf⟩ := gd hf
            refine d_ast3 C0 hW h7 dX1_countFreeingWith_71 (fun H locs hW => ?_)
            have hW : WD E B (u.1, u.2.1, u.2.2.1, (vp_updL u.2.2.2 (((x4 * (7 : Int32)) + x5).toNatClampNeg) q5)) s H locs := hW
            exact tX1_countFreeingWith_72 C0 ih hW (lv_sub hl [1, 2, 3, 4, 5, 6] rfl) hf
set_option maxHeartbeats 4000000 in
set_option maxRecDepth 100000 in
theorem tX1_countFreeingWith_0 {p : Program} {l : Launch} {e : Env} {s : State} {m : MethodId} {args : Array Value} {below : List Frame} {meth : Method} {c : Code} {E : EE} {B : Nat → Nat} {out : SD} (C0 : cx wsX1_countFreeingWith cX1_countFreeingWith 7 none RX1 E p s m args meth c) {x1 : Int32} {x2 : Int32} {u : SD} {H : Heap} {locs : List Loc} {ls : Array Slot} (hW : WD E B u s H locs) (hl : lv_has ls 7 [(0, .ref (B 0)), (1, .int x1), (2, .int x2)]) (hf : fX1_countFreeingWith x1 x2 u = some out) : W p l e rmX1_countFreeingWith s m args below meth c H locs 0 0 (MQ below (va_Qv (fun (_ : Unit) => True) (fun _ t => fP E (cD E B out) t.heap) (aD B)) args s 0 0 (aD B)) (F0 m 0 ls []) := by
  obtain ⟨hx, hb, hr, hml, hown, hts, hlk, hK⟩ := id C0
  unfold fX1_countFreeingWith at hf
  refine lv_aload_n hx hb dX1_countFreeingWith_0 rfl (lv_at hl 0 rfl) ?_
  obtain ⟨q1, h2, hf⟩ := bd hf
  refine k_roI (run_V (rest := []) (n := 0) C0 (tX1_taken E B h2) gX1_countFreeingWith_X1_taken rfl rfl (by decide +kernel) (hW.2.1 0 _ rfl) rfl rfl hW.2.1 hl.1 rfl rfl (Nat.le_of_ble_eq_true rfl) dX1_countFreeingWith_1) ?_
  refine lv_istore_n (lv' := [(3, .int q1), (0, .ref (B 0)), (1, .int x1), (2, .int x2)]) hx hb dX1_countFreeingWith_4 rfl hl (by decide) rfl (fun ls hl => ?_)
  refine lv_iload_n hx hb dX1_countFreeingWith_5 rfl (lv_at hl 2 rfl) ?_
  refine lv_iconst (v := (1 : Int32)) hx hb dX1_countFreeingWith_6 (by decide) ?_
  refine lv_iload_n hx hb dX1_countFreeingWith_7 rfl (lv_at hl 3 rfl) ?_
  refine lv_ishl hx hb dX1_countFreeingWith_8 ?_
  refine lv_ior hx hb dX1_countFreeingWith_9 ?_
  refine lv_istore (lv' := [(4, .int (x1 ||| ((1 : Int32) <<< (x2 &&& 31)))), (3, .int q1), (0, .ref (B 0)), (1, .int x1), (2, .int x2)]) hx hb dX1_countFreeingWith_10 hl (by decide) rfl (fun ls hl => ?_)
  refine lv_iload hx hb dX1_countFreeingWith_12 (lv_at hl 0 rfl) ?_
  obtain ⟨q3, h4, hf⟩ := bd hf
  refine k_roI (run_S (rest := []) (n := 1) (PH := fun _ => True) C0 (tJ6_bitCount_0f7a4 E h4) gX1_countFreeingWith_J6_bitCount_0f7a4 rfl rfl (by decide +kernel) trivial hl.1 rfl rfl (Nat.le_of_ble_eq_true rfl) dX1_countFreeingWith_14) ?_
  refine lv_istore (lv' := [(5, .int q3), (4, .int (x1 ||| ((1 : Int32) <<< (x2 &&& 31)))), (3, .int q1), (0, .ref (B 0)), (1, .int x1), (2, .int x2)]) hx hb dX1_countFreeingWith_17 hl (by decide) rfl (fun ls hl => ?_)
  exact tX1_countFreeingWith_19 C0 fu _ _ _ _ _ _ _ _ _ hW (lv_sub hl [3, 4, 5, 2, 1, 0] rfl) hf
set_option maxHeartbeats 4000000 in
set_option maxRecDepth 100000 in
theorem tX1_countFreeingWith {l : Launch} (E : EE) (B : Nat → Nat) {u : SD} {x1 : Int32} {x2 : Int32} {out : SD} (hB : iD B) (hf : fX1_countFreeingWith x1 x2 u = some out) : muV l yX1_countFreeingWith wsX1_countFreeingWith rmX1_countFreeingWith E [.ref (B 0), .int x1, .int x2] (aD B) (fP E (cD E B u)) (fP E (cD E B out)) := by
  refine Met.ofW (cc := cX1_countFreeingWith) (maxL := 7) (ret := none) (by decide) rfl ?_
  intro p e s m args below meth c s₁ B0 hml hv
  obtain ⟨rfl, hP, hK⟩ := hv
  have C0 : cx wsX1_countFreeingWith cX1_countFreeingWith 7 none RX1 E p s m _ meth c := ⟨B0.exec, B0.bytes, B0.returns, hml, findClass_of_methodNamed B0.named, atoms_spec (ws := wsX1_countFreeingWith) B0.pre, B0.notSynchronized, hK⟩
  have hl := lv_entry ([.ref (B 0), .int x1, .int x2]) (n := 7) (Nat.le_of_ble_eq_true rfl)
  rw [lg_entry_eq]
  generalize (lg_sl ([.ref (B 0), .int x1, .int x2]) ++ List.replicate (7 - (lg_sl ([.ref (B 0), .int x1, .int x2])).length) Slot.unset).toArray = ls at hl ⊢
  exact tX1_countFreeingWith_0 C0 ⟨hB, hP, va_S.rf⟩ hl hf
abbrev rmX1_countFreeing : Room := { frames := 3, cells := 0, slots := 0, locals := 75 }
set_option maxRecDepth 20000 in
theorem iX1_countFreeing_X1 : ∀ w ∈ wsX10, w ∈ wsX1_countFreeing := by decide +kernel
set_option maxHeartbeats 4000000 in
set_option maxRecDepth 100000 in
theorem tX1_countFreeing_12 {p : Program} {l : Launch} {e : Env} {s : State} {m : MethodId} {args : Array Value} {below : List Frame} {meth : Method} {c : Code} {E : EE} {B : Nat → Nat} {out : SD} {c2 : Int32 → SD → Option (SD)} (C0 : cx wsX1_countFreeing cX1_countFreeing 3 none RX1 E p s m args meth c) (hc2 : ∀ (x1 : Int32) (u : SD) (H : Heap) (locs : List Loc) (ls : Array Slot) (_ : WD E B u s H locs), lv_has ls 3 [(0, .ref (B 0)), (1, .int x1)] → c2 x1 u = some out → W p l e rmX1_countFreeing s m args below meth c H locs 0 0 (MQ below (va_Qv (fun (_ : Unit) => True) (fun _ t => fP E (cD E B out) t.heap) (aD B)) args s 0 0 (aD B)) (F0 m 2 ls [])) : ∀ (n : Nat) (x1 : Int32) (x2 : Int32) (u : SD) (H : Heap) (locs : List Loc) (ls : Array Slot) (_ : WD E B u s H locs), lv_has ls 3 [(0, .ref (B 0)), (1, .int x1), (2, .int x2)] → fX1_countFreeing_12 c2 n x1 x2 u = some out → W p l e rmX1_countFreeing s m args below meth c H locs 0 0 (MQ below (va_Qv (fun (_ : Unit) => True) (fun _ t => fP E (cD E B out) t.heap) (aD B)) args s 0 0 (aD B)) (F0 m 12 ls []) := by
  obtain ⟨hx, hb, hr, hml, hown, hts, hlk, hK⟩ := id C0
  intro n
  induction n with
  | zero =>
    intro x1 x2 u H locs ls hW hl hf
    cases (show none = some out from hf)
  | succ n ih =>
    intro x1 x2 u H locs ls hW hl hf
    rw [fX1_countFreeing_12] at hf
    refine lv_iload_n hx hb dX1_countFreeing_12 rfl (lv_at hl 2 rfl) ?_
    refine lv_iconst (v := (1 : Int32)) hx hb dX1_countFreeing_13 (by decide) ?_
    refine lv_iload_n hx hb dX1_countFreeing_14 rfl (lv_at hl 1 rfl) ?_
    refine lv_ishl hx hb dX1_countFreeing_15 ?_
    refine lv_icmp_ge (tgt := 31) hx hb dX1_countFreeing_16 (by decide) (fun c1 => ?_) (fun c1 => ?_)
    · have hf := th hf c1
      refine lv_iinc (v := (x1 + (1 : Int32))) (lv' := [(1, .int (x1 + (1 : Int32))), (0, .ref (B 0)), (2, .int x2)]) hx hb dX1_countFreeing_31 hl (k := 1) rfl rfl (by decide) rfl (fun ls hl => ?_)
      refine lv_goto (tgt := 2) hx hb dX1_countFreeing_34 (by decide) ?_
      exact hc2 _ _ _ _ _ hW (lv_sub hl [1, 0] rfl) hf
    · have hf := el hf c1
      refine lv_aload_n hx hb dX1_countFreeing_19 rfl (lv_at hl 0 rfl) ?_
      refine lv_iload_n hx hb dX1_countFreeing_20 rfl (lv_at hl 2 rfl) ?_
      refine lv_iload_n hx hb dX1_countFreeing_21 rfl (lv_at hl 1 rfl) ?_
      obtain ⟨q2, h3, hf⟩ := bd hf
      refine k_muV (run_V (rest := []) (n := 2) C0 (tX1_countFreeingWith E B hW.1 h3) gX1_countFreeing_X1_countFreeingWith rfl rfl (by decide +kernel) (hW.2.1 0 _ rfl) rfl rfl hW.2.1 hl.1 rfl rfl (Nat.le_of_ble_eq_true rfl) dX1_countFreeing_22) hW.2.2 (fun _ h => h) (fun H locs hQ _ hS => ?_)
      have hW : WD E B q2 s H locs := ⟨hW.1, hQ, hS⟩
      refine lv_iinc (v := (x2 + (1 : Int32))) (lv' := [(2, .int (x2 + (1 : Int32))), (0, .ref (B 0)), (1, .int x1)]) hx hb dX1_countFreeing_25 hl (k := 2) rfl rfl (by decide) rfl (fun ls hl => ?_)
      refine lv_goto (tgt := 12) hx hb dX1_countFreeing_28 (by decide) ?_
      exact ih _ _ _ _ _ _ hW (lv_sub hl [1, 2, 0] rfl) hf
set_option maxHeartbeats 4000000 in
set_option maxRecDepth 100000 in
theorem tX1_countFreeing_2 {p : Program} {l : Launch} {e : Env} {s : State} {m : MethodId} {args : Array Value} {below : List Frame} {meth : Method} {c : Code} {E : EE} {B : Nat → Nat} {out : SD} (C0 : cx wsX1_countFreeing cX1_countFreeing 3 none RX1 E p s m args meth c) : ∀ (n : Nat) (x1 : Int32) (u : SD) (H : Heap) (locs : List Loc) (ls : Array Slot) (_ : WD E B u s H locs), lv_has ls 3 [(0, .ref (B 0)), (1, .int x1)] → fX1_countFreeing_2 n x1 u = some out → W p l e rmX1_countFreeing s m args below meth c H locs 0 0 (MQ below (va_Qv (fun (_ : Unit) => True) (fun _ t => fP E (cD E B out) t.heap) (aD B)) args s 0 0 (aD B)) (F0 m 2 ls []) := by
  obtain ⟨hx, hb, hr, hml, hown, hts, hlk, hK⟩ := id C0
  intro n
  induction n with
  | zero =>
    intro x1 u H locs ls hW hl hf
    cases (show none = some out from hf)
  | succ n ih =>
    intro x1 u H locs ls hW hl hf
    rw [fX1_countFreeing_2] at hf
    refine lv_iload_n hx hb dX1_countFreeing_2 rfl (lv_at hl 1 rfl) ?_
    refine lv_aload_n hx hb dX1_countFreeing_3 rfl (lv_at hl 0 rfl) ?_
    refine d_get C0 hW.2.1 iX1_countFreeing_X1 3 (by decide) (by decide +kernel) rfl dX1_countFreeing_4 ?_
    refine lv_icmp_ge (tgt := 37) hx hb dX1_countFreeing_7 (by decide) (fun c1 => ?_) (fun c1 => ?_)
    · have hf := th hf c1
      obtain rfl := Option.some.inj hf
      exact e_muV (QH := fP E (cD E B u)) C0 hW.2.2 hW.2.1 dX1_countFreeing_37
    · have hf := el hf c1
      refine lv_iconst (v := (0 : Int32)) hx hb dX1_countFreeing_10 (by decide) ?_
      refine lv_istore_n (lv' := [(2, .int (0 : Int32)), (0, .ref (B 0)), (1, .int x1)]) hx hb dX1_countFreeing_11 rfl hl (by decide) rfl (fun ls hl => ?_)
      exact tX1_countFreeing_12 C0 ih fu _ _ _ _ _ _ hW (lv_sub hl [1, 2, 0] rfl) hf
set_option maxHeartbeats 4000000 in
set_option maxRecDepth 100000 in
theorem tX1_countFreeing_0 {p : Program} {l : Launch} {e : Env} {s : State} {m : MethodId} {args : Array Value} {below : List Frame} {meth : Method} {c : Code} {E : EE} {B : Nat → Nat} {out : SD} (C0 : cx wsX1_countFreeing cX1_countFreeing 3 none RX1 E p s m args meth c) {u : SD} {H : Heap} {locs : List Loc} {ls : Array Slot} (hW : WD E B u s H locs) (hl : lv_has ls 3 [(0, .ref (B 0))]) (hf : fX1_countFreeing u = some out) : W p l e rmX1_countFreeing s m args below meth c H locs 0 0 (MQ below (va_Qv (fun (_ : Unit) => True) (fun _ t => fP E (cD E B out) t.heap) (aD B)) args s 0 0 (aD B)) (F0 m 0 ls []) := by
  obtain ⟨hx, hb, hr, hml, hown, hts, hlk, hK⟩ := id C0
  unfold fX1_countFreeing at hf
  refine lv_iconst (v := (0 : Int32)) hx hb dX1_countFreeing_0 (by decide) ?_
  refine lv_istore_n (lv' := [(1, .int (0 : Int32)), (0, .ref (B 0))]) hx hb dX1_countFreeing_1 rfl hl (by decide) rfl (fun ls hl => ?_)
  exact tX1_countFreeing_2 C0 fu _ _ _ _ _ hW (lv_sub hl [1, 0] rfl) hf
set_option maxHeartbeats 4000000 in
set_option maxRecDepth 100000 in
theorem tX1_countFreeing {l : Launch} (E : EE) (B : Nat → Nat) {u : SD} {out : SD} (hB : iD B) (hf : fX1_countFreeing u = some out) : muV l yX1_countFreeing wsX1_countFreeing rmX1_countFreeing E [.ref (B 0)] (aD B) (fP E (cD E B u)) (fP E (cD E B out)) := by
  refine Met.ofW (cc := cX1_countFreeing) (maxL := 3) (ret := none) (by decide) rfl ?_
  intro p e s m args below meth c s₁ B0 hml hv
  obtain ⟨rfl, hP, hK⟩ := hv
  have C0 : cx wsX1_countFreeing cX1_countFreeing 3 none RX1 E p s m _ meth c := ⟨B0.exec, B0.bytes, B0.returns, hml, findClass_of_methodNamed B0.named, atoms_spec (ws := wsX1_countFreeing) B0.pre, B0.notSynchronized, hK⟩
  have hl := lv_entry ([.ref (B 0)]) (n := 3) (Nat.le_of_ble_eq_true rfl)
  rw [lg_entry_eq]
  generalize (lg_sl ([.ref (B 0)]) ++ List.replicate (3 - (lg_sl ([.ref (B 0)])).length) Slot.unset).toArray = ls at hl ⊢
  exact tX1_countFreeing_0 C0 ⟨hB, hP, va_S.rf⟩ hl hf
abbrev rmX1_everybody : Room := { frames := 0, cells := 0, slots := 0, locals := 0 }
set_option maxRecDepth 20000 in
theorem iX1_everybody_X1 : ∀ w ∈ wsX10, w ∈ wsX1_everybody := by decide +kernel
set_option maxHeartbeats 4000000 in
set_option maxRecDepth 100000 in
theorem tX1_everybody_0 {p : Program} {l : Launch} {e : Env} {s : State} {m : MethodId} {args : Array Value} {below : List Frame} {meth : Method} {c : Code} {E : EE} {B : Nat → Nat} {u : SD} {out : Int32} (C0 : cx wsX1_everybody cX1_everybody 1 (some .int) RX1 E p s m args meth c) (hP : fP E (cD E B u) s.heap) {ls : Array Slot} (hl : lv_has ls 1 [(0, .ref (B 0))]) (hf : fX1_everybody u = some out) : W p l e rmX1_everybody s m args below meth c s.heap [] 0 0 (MQ below (vp_Si (fun r => r = out)) args s 0 0 (fun _ => False)) (F0 m 0 ls []) := by
  obtain ⟨hx, hb, hr, hml, hown, hts, hlk, hK⟩ := id C0
  unfold fX1_everybody at hf
  refine lv_iconst (v := (1 : Int32)) hx hb dX1_everybody_0 (by decide) ?_
  refine lv_aload_n hx hb dX1_everybody_1 rfl (lv_at hl 0 rfl) ?_
  refine d_get C0 hP iX1_everybody_X1 3 (by decide) (by decide +kernel) rfl dX1_everybody_2 ?_
  refine lv_ishl hx hb dX1_everybody_5 ?_
  refine lv_iconst (v := (1 : Int32)) hx hb dX1_everybody_6 (by decide) ?_
  refine lv_isub hx hb dX1_everybody_7 ?_
  exact e_roI C0 hf dX1_everybody_8
set_option maxHeartbeats 4000000 in
set_option maxRecDepth 100000 in
theorem tX1_everybody {l : Launch} (E : EE) (B : Nat → Nat) {u : SD} {out : Int32} (hf : fX1_everybody u = some out) : roI l yX1_everybody wsX1_everybody rmX1_everybody E [.ref (B 0)] (fP E (cD E B u)) out := by
  refine Met.ofW (cc := cX1_everybody) (maxL := 1) (ret := (some .int)) (by decide) rfl ?_
  intro p e s m args below meth c s₁ B0 hml hv
  obtain ⟨rfl, hP, hK⟩ := hv
  have C0 : cx wsX1_everybody cX1_everybody 1 (some .int) RX1 E p s m _ meth c := ⟨B0.exec, B0.bytes, B0.returns, hml, findClass_of_methodNamed B0.named, atoms_spec (ws := wsX1_everybody) B0.pre, B0.notSynchronized, hK⟩
  have hl := lv_entry ([.ref (B 0)]) (n := 1) (Nat.le_of_ble_eq_true rfl)
  rw [lg_entry_eq]
  generalize (lg_sl ([.ref (B 0)]) ++ List.replicate (1 - (lg_sl ([.ref (B 0)])).length) Slot.unset).toArray = ls at hl ⊢
  exact tX1_everybody_0 C0 hP hl hf
abbrev rmX1_freeingBy : Room := { frames := 0, cells := 0, slots := 0, locals := 0 }
set_option maxRecDepth 20000 in
theorem iX1_freeingBy_X1 : ∀ w ∈ wsX10, w ∈ wsX1_freeingBy := by decide +kernel
set_option maxHeartbeats 4000000 in
set_option maxRecDepth 100000 in
theorem tX1_freeingBy_39 {p : Program} {l : Launch} {e : Env} {s : State} {m : MethodId} {args : Array Value} {below : List Frame} {meth : Method} {c : Code} {E : EE} {B : Nat → Nat} {u : SD} {out : Int64} (C0 : cx wsX1_freeingBy cX1_freeingBy 4 (some .long) RX1 E p s m args meth c) (hP : fP E (cD E B u) s.heap) {ls : Array Slot} (hl : lv_has ls 4 []) (hf : fX1_freeingBy_39 u = some out) : W p l e rmX1_freeingBy s m args below meth c s.heap [] 0 0 (MQ below (vp_Sl (fun r => r = out)) args s 0 0 (fun _ => False)) (F0 m 39 ls []) := by
  obtain ⟨hx, hb, hr, hml, hown, hts, hlk, hK⟩ := id C0
  unfold fX1_freeingBy_39 at hf
  refine lv_lconst (v := (0 : Int64)) hx hb dX1_freeingBy_39 (by decide) ?_
  exact e_roL C0 hf dX1_freeingBy_40
set_option maxHeartbeats 4000000 in
set_option maxRecDepth 100000 in
theorem tX1_freeingBy_0 {p : Program} {l : Launch} {e : Env} {s : State} {m : MethodId} {args : Array Value} {below : List Frame} {meth : Method} {c : Code} {E : EE} {B : Nat → Nat} {u : SD} {out : Int64} (C0 : cx wsX1_freeingBy cX1_freeingBy 4 (some .long) RX1 E p s m args meth c) (hP : fP E (cD E B u) s.heap) {x1 : Int32} {x2 : Int32} {ls : Array Slot} (hl : lv_has ls 4 [(0, .ref (B 0)), (1, .int x1), (2, .int x2)]) (hf : fX1_freeingBy x1 x2 u = some out) : W p l e rmX1_freeingBy s m args below meth c s.heap [] 0 0 (MQ below (vp_Sl (fun r => r = out)) args s 0 0 (fun _ => False)) (F0 m 0 ls []) := by
  obtain ⟨hx, hb, hr, hml, hown, hts, hlk, hK⟩ := id C0
  unfold fX1_freeingBy at hf
  refine lv_iload_n hx hb dX1_freeingBy_0 rfl (lv_at hl 1 rfl) ?_
  refine lv_bipush (v := (7 : Int32)) hx hb dX1_freeingBy_1 (by decide) ?_
  refine lv_imul hx hb dX1_freeingBy_3 ?_
  refine lv_iload_n hx hb dX1_freeingBy_4 rfl (lv_at hl 2 rfl) ?_
  refine lv_iadd hx hb dX1_freeingBy_5 ?_
  refine lv_istore_n (lv' := [(3, .int ((x1 * (7 : Int32)) + x2)), (0, .ref (B 0)), (1, .int x1), (2, .int x2)]) hx hb dX1_freeingBy_6 rfl hl (by decide) rfl (fun ls hl => ?_)
  refine lv_iload_n hx hb dX1_freeingBy_7 rfl (lv_at hl 2 rfl) ?_
  refine lv_if_lt (tgt := 39) hx hb dX1_freeingBy_8 (by decide) (fun c1 => ?_) (fun c1 => ?_)
  · have hf := th hf c1
    exact tX1_freeingBy_39 C0 hP (lv_sub hl [] rfl) hf
  · have hf := el hf c1
    refine lv_iload_n hx hb dX1_freeingBy_11 rfl (lv_at hl 3 rfl) ?_
    refine lv_if_lt (tgt := 39) hx hb dX1_freeingBy_12 (by decide) (fun c2 => ?_) (fun c2 => ?_)
    · have hf := th hf c2
      exact tX1_freeingBy_39 C0 hP (lv_sub hl [] rfl) hf
    · have hf := el hf c2
      refine lv_iload_n hx hb dX1_freeingBy_15 rfl (lv_at hl 3 rfl) ?_
      refine lv_bipush (v := (7 : Int32)) hx hb dX1_freeingBy_16 (by decide) ?_
      refine lv_icmp_ge (tgt := 39) hx hb dX1_freeingBy_18 (by decide) (fun c3 => ?_) (fun c3 => ?_)
      · have hf := th hf c3
        exact tX1_freeingBy_39 C0 hP (lv_sub hl [] rfl) hf
      · have hf := el hf c3
        refine lv_iload_n hx hb dX1_freeingBy_21 rfl (lv_at hl 0 rfl) ?_
        refine lv_aload_n hx hb dX1_freeingBy_22 rfl (lv_at hl 1 rfl) ?_
        refine d_get C0 hP iX1_freeingBy_X1 2 (by decide) (by decide +kernel) rfl dX1_freeingBy_23 ?_
        refine d_len3 C0 hP dX1_freeingBy_26 ?_
        refine lv_icmp_ge (tgt := 39) hx hb dX1_freeingBy_27 (by decide) (fun c4 => ?_) (fun c4 => ?_)
        · have hf := th hf c4
          exact tX1_freeingBy_39 C0 hP (lv_sub hl [] rfl) hf
        · have hf := el hf c4
          refine lv_aload_n hx hb dX1_freeingBy_30 rfl (lv_at hl 1 rfl) ?_
          refine d_get C0 hP iX1_freeingBy_X1 2 (by decide) (by decide +kernel) rfl dX1_freeingBy_31 ?_
          refine lv_iload_n hx hb dX1_freeingBy_34 rfl (lv_at hl 0 rfl) ?_
          obtain ⟨h5, hf⟩ := gd hf
          refine d_ald3 C0 hP h5 dX1_freeingBy_35 ?_
          refine lv_goto (tgt := 40) hx hb dX1_freeingBy_36 (by decide) ?_
          exact e_roL C0 hf dX1_freeingBy_40
set_option maxHeartbeats 4000000 in
set_option maxRecDepth 100000 in
theorem tX1_freeingBy {l : Launch} (E : EE) (B : Nat → Nat) {u : SD} {x1 : Int32} {x2 : Int32} {out : Int64} (hf : fX1_freeingBy x1 x2 u = some out) : roL l yX1_freeingBy wsX1_freeingBy rmX1_freeingBy E [.ref (B 0), .int x1, .int x2] (fP E (cD E B u)) out := by
  refine Met.ofW (cc := cX1_freeingBy) (maxL := 4) (ret := (some .long)) (by decide) rfl ?_
  intro p e s m args below meth c s₁ B0 hml hv
  obtain ⟨rfl, hP, hK⟩ := hv
  have C0 : cx wsX1_freeingBy cX1_freeingBy 4 (some .long) RX1 E p s m _ meth c := ⟨B0.exec, B0.bytes, B0.returns, hml, findClass_of_methodNamed B0.named, atoms_spec (ws := wsX1_freeingBy) B0.pre, B0.notSynchronized, hK⟩
  have hl := lv_entry ([.ref (B 0), .int x1, .int x2]) (n := 4) (Nat.le_of_ble_eq_true rfl)
  rw [lg_entry_eq]
  generalize (lg_sl ([.ref (B 0), .int x1, .int x2]) ++ List.replicate (4 - (lg_sl ([.ref (B 0), .int x1, .int x2])).length) Slot.unset).toArray = ls at hl ⊢
  exact tX1_freeingBy_0 C0 hP hl hf
abbrev rmX1_drawsLeavingJust : Room := { frames := 4, cells := 0, slots := 0, locals := 97 }
set_option maxHeartbeats 4000000 in
set_option maxRecDepth 100000 in
theorem tX1_drawsLeavingJust_0 {p : Program} {l : Launch} {e : Env} {s : State} {m : MethodId} {args : Array Value} {below : List Frame} {meth : Method} {c : Code} {E : EE} {B : Nat → Nat} {out : Int64 × SD} (C0 : cx wsX1_drawsLeavingJust cX1_drawsLeavingJust 2 (some .long) RX1 E p s m args meth c) {x1 : Int32} {u : SD} {H : Heap} {locs : List Loc} {ls : Array Slot} (hW : WD E B u s H locs) (hl : lv_has ls 2 [(0, .ref (B 0)), (1, .int x1)]) (hf : fX1_drawsLeavingJust x1 u = some out) : W p l e rmX1_drawsLeavingJust s m args below meth c H locs 0 0 (MQ below (va_Ql (fun r (_ : Unit) => r = out.1) (fun _ t => fP E (cD E B out.2) t.heap) (aD B)) args s 0 0 (aD B)) (F0 m 0 ls []) := by
  obtain ⟨hx, hb, hr, hml, hown, hts, hlk, hK⟩ := id C0
  unfold fX1_drawsLeavingJust at hf
  refine lv_aload_n hx hb dX1_drawsLeavingJust_0 rfl (lv_at hl 0 rfl) ?_
  obtain ⟨q1, h2, hf⟩ := bd hf
  refine k_muV (run_V (rest := []) (n := 0) C0 (tX1_countFreeing E B hW.1 h2) gX1_drawsLeavingJust_X1_countFreeing rfl rfl (by decide +kernel) (hW.2.1 0 _ rfl) rfl rfl hW.2.1 hl.1 rfl rfl (Nat.le_of_ble_eq_true rfl) dX1_drawsLeavingJust_1) hW.2.2 (fun _ h => h) (fun H locs hQ _ hS => ?_)
  have hW : WD E B q1 s H locs := ⟨hW.1, hQ, hS⟩
  refine lv_aload_n hx hb dX1_drawsLeavingJust_4 rfl (lv_at hl 0 rfl) ?_
  refine lv_aload_n hx hb dX1_drawsLeavingJust_5 rfl (lv_at hl 0 rfl) ?_
  obtain ⟨q3, h4, hf⟩ := bd hf
  refine k_roI (run_V (rest := [.ref (B 0)]) (n := 0) C0 (tX1_everybody E B h4) gX1_drawsLeavingJust_X1_everybody rfl rfl (by decide +kernel) (hW.2.1 0 _ rfl) rfl rfl hW.2.1 hl.1 rfl rfl (Nat.le_of_ble_eq_true rfl) dX1_drawsLeavingJust_6) ?_
  refine lv_iload_n hx hb dX1_drawsLeavingJust_9 rfl (lv_at hl 1 rfl) ?_
  refine lv_iconst (v := (-1 : Int32)) hx hb dX1_drawsLeavingJust_10 (by decide) ?_
  refine lv_ixor hx hb dX1_drawsLeavingJust_11 ?_
  refine lv_iand hx hb dX1_drawsLeavingJust_12 ?_
  refine lv_aload_n hx hb dX1_drawsLeavingJust_13 rfl (lv_at hl 0 rfl) ?_
  obtain ⟨q5, h6, hf⟩ := bd hf
  refine k_roI (run_V (rest := [.int (q3 &&& (x1 ^^^ (-1 : Int32))), .ref (B 0)]) (n := 0) C0 (tX1_taken E B h6) gX1_drawsLeavingJust_X1_taken rfl rfl (by decide +kernel) (hW.2.1 0 _ rfl) rfl rfl hW.2.1 hl.1 rfl rfl (Nat.le_of_ble_eq_true rfl) dX1_drawsLeavingJust_14) ?_
  obtain ⟨q7, h8, hf⟩ := bd hf
  refine k_roL (run_V (rest := []) (n := 2) C0 (tX1_freeingBy E B h8) gX1_drawsLeavingJust_X1_freeingBy rfl rfl (by decide +kernel) (hW.2.1 0 _ rfl) rfl rfl hW.2.1 hl.1 rfl rfl (Nat.le_of_ble_eq_true rfl) dX1_drawsLeavingJust_17) ?_
  obtain rfl := Option.some.inj hf
  exact e_muL (QH := fP E (cD E B q1)) C0 hW.2.2 rfl hW.2.1 dX1_drawsLeavingJust_20
set_option maxHeartbeats 4000000 in
set_option maxRecDepth 100000 in
theorem tX1_drawsLeavingJust {l : Launch} (E : EE) (B : Nat → Nat) {u : SD} {x1 : Int32} {out : Int64 × SD} (hB : iD B) (hf : fX1_drawsLeavingJust x1 u = some out) : muL l yX1_drawsLeavingJust wsX1_drawsLeavingJust rmX1_drawsLeavingJust E [.ref (B 0), .int x1] (aD B) (fP E (cD E B u)) (fP E (cD E B out.2)) out.1 := by
  refine Met.ofW (cc := cX1_drawsLeavingJust) (maxL := 2) (ret := (some .long)) (by decide) rfl ?_
  intro p e s m args below meth c s₁ B0 hml hv
  obtain ⟨rfl, hP, hK⟩ := hv
  have C0 : cx wsX1_drawsLeavingJust cX1_drawsLeavingJust 2 (some .long) RX1 E p s m _ meth c := ⟨B0.exec, B0.bytes, B0.returns, hml, findClass_of_methodNamed B0.named, atoms_spec (ws := wsX1_drawsLeavingJust) B0.pre, B0.notSynchronized, hK⟩
  have hl := lv_entry ([.ref (B 0), .int x1]) (n := 2) (Nat.le_of_ble_eq_true rfl)
  rw [lg_entry_eq]
  generalize (lg_sl ([.ref (B 0), .int x1]) ++ List.replicate (2 - (lg_sl ([.ref (B 0), .int x1])).length) Slot.unset).toArray = ls at hl ⊢
  exact tX1_drawsLeavingJust_0 C0 ⟨hB, hP, va_S.rf⟩ hl hf
abbrev rmX1_passesUnder : Room := { frames := 1, cells := 0, slots := 0, locals := 20 }
set_option maxRecDepth 20000 in
theorem iX1_passesUnder_X1 : ∀ w ∈ wsX10, w ∈ wsX1_passesUnder := by decide +kernel
set_option maxHeartbeats 4000000 in
set_option maxRecDepth 100000 in
theorem tX1_passesUnder_0 {p : Program} {l : Launch} {e : Env} {s : State} {m : MethodId} {args : Array Value} {below : List Frame} {meth : Method} {c : Code} {E : EE} {B : Nat → Nat} {u : SD} {out : Int32} (C0 : cx wsX1_passesUnder cX1_passesUnder 2 (some .boolean) RX1 E p s m args meth c) (hP : fP E (cD E B u) s.heap) {x1 : Int32} {ls : Array Slot} (hl : lv_has ls 2 [(0, .ref (B 0)), (1, .int x1)]) (hf : fX1_passesUnder x1 u = some out) : W p l e rmX1_passesUnder s m args below meth c s.heap [] 0 0 (MQ below (vp_Si (fun r => r = out)) args s 0 0 (fun _ => False)) (F0 m 0 ls []) := by
  obtain ⟨hx, hb, hr, hml, hown, hts, hlk, hK⟩ := id C0
  unfold fX1_passesUnder at hf
  refine lv_iload_n hx hb dX1_passesUnder_0 rfl (lv_at hl 1 rfl) ?_
  refine lv_aload_n hx hb dX1_passesUnder_1 rfl (lv_at hl 0 rfl) ?_
  refine d_get C0 hP iX1_passesUnder_X1 4 (by decide) (by decide +kernel) rfl dX1_passesUnder_2 ?_
  refine lv_iand hx hb dX1_passesUnder_5 ?_
  obtain ⟨q1, h2, hf⟩ := bd hf
  refine k_roI (run_S (rest := []) (n := 1) (PH := fun _ => True) C0 (tJ6_bitCount_0f7a4 E h2) gX1_passesUnder_J6_bitCount_0f7a4 rfl rfl (by decide +kernel) trivial hl.1 rfl rfl (Nat.le_of_ble_eq_true rfl) dX1_passesUnder_6) ?_
  refine lv_iload_n hx hb dX1_passesUnder_9 rfl (lv_at hl 1 rfl) ?_
  refine lv_aload_n hx hb dX1_passesUnder_10 rfl (lv_at hl 0 rfl) ?_
  refine d_get C0 hP iX1_passesUnder_X1 4 (by decide) (by decide +kernel) rfl dX1_passesUnder_11 ?_
  refine lv_iconst (v := (-1 : Int32)) hx hb dX1_passesUnder_14 (by decide) ?_
  refine lv_ixor hx hb dX1_passesUnder_15 ?_
  refine lv_iand hx hb dX1_passesUnder_16 ?_
  obtain ⟨q3, h4, hf⟩ := bd hf
  refine k_roI (run_S (rest := [.int q1]) (n := 1) (PH := fun _ => True) C0 (tJ6_bitCount_0f7a4 E h4) gX1_passesUnder_J6_bitCount_0f7a4 rfl rfl (by decide +kernel) trivial hl.1 rfl rfl (Nat.le_of_ble_eq_true rfl) dX1_passesUnder_17) ?_
  refine lv_icmp_le (tgt := 27) hx hb dX1_passesUnder_20 (by decide) (fun c5 => ?_) (fun c5 => ?_)
  · have hf := th hf c5
    refine lv_iconst (v := (0 : Int32)) hx hb dX1_passesUnder_27 (by decide) ?_
    exact e_roZ C0 hf dX1_passesUnder_28
  · have hf := el hf c5
    refine lv_iconst (v := (1 : Int32)) hx hb dX1_passesUnder_23 (by decide) ?_
    refine lv_goto (tgt := 28) hx hb dX1_passesUnder_24 (by decide) ?_
    exact e_roZ C0 hf dX1_passesUnder_28
set_option maxHeartbeats 4000000 in
set_option maxRecDepth 100000 in
theorem tX1_passesUnder {l : Launch} (E : EE) (B : Nat → Nat) {u : SD} {x1 : Int32} {out : Int32} (hf : fX1_passesUnder x1 u = some out) : roI l yX1_passesUnder wsX1_passesUnder rmX1_passesUnder E [.ref (B 0), .int x1] (fP E (cD E B u)) out := by
  refine Met.ofW (cc := cX1_passesUnder) (maxL := 2) (ret := (some .boolean)) (by decide) rfl ?_
  intro p e s m args below meth c s₁ B0 hml hv
  obtain ⟨rfl, hP, hK⟩ := hv
  have C0 : cx wsX1_passesUnder cX1_passesUnder 2 (some .boolean) RX1 E p s m _ meth c := ⟨B0.exec, B0.bytes, B0.returns, hml, findClass_of_methodNamed B0.named, atoms_spec (ws := wsX1_passesUnder) B0.pre, B0.notSynchronized, hK⟩
  have hl := lv_entry ([.ref (B 0), .int x1]) (n := 2) (Nat.le_of_ble_eq_true rfl)
  rw [lg_entry_eq]
  generalize (lg_sl ([.ref (B 0), .int x1]) ++ List.replicate (2 - (lg_sl ([.ref (B 0), .int x1])).length) Slot.unset).toArray = ls at hl ⊢
  exact tX1_passesUnder_0 C0 hP hl hf
abbrev rmX1_drawsPassing : Room := { frames := 4, cells := 0, slots := 0, locals := 97 }
set_option maxHeartbeats 4000000 in
set_option maxRecDepth 100000 in
theorem tX1_drawsPassing_49 {p : Program} {l : Launch} {e : Env} {s : State} {m : MethodId} {args : Array Value} {below : List Frame} {meth : Method} {c : Code} {E : EE} {B : Nat → Nat} {out : Int64 × SD} {c14 : Int32 → Int64 → Int32 → SD → Option (Int64 × SD)} (C0 : cx wsX1_drawsPassing cX1_drawsPassing 5 (some .long) RX1 E p s m args meth c) (hc14 : ∀ (x1 : Int32) (x2 : Int64) (x4 : Int32) (u : SD) (H : Heap) (locs : List Loc) (ls : Array Slot) (_ : WD E B u s H locs), lv_has ls 5 [(0, .ref (B 0)), (1, .int x1), (2, .long x2), (4, .int x4)] → c14 x1 x2 x4 u = some out → W p l e rmX1_drawsPassing s m args below meth c H locs 0 0 (MQ below (va_Ql (fun r (_ : Unit) => r = out.1) (fun _ t => fP E (cD E B out.2) t.heap) (aD B)) args s 0 0 (aD B)) (F0 m 14 ls [])) {x1 : Int32} {x2 : Int64} {x4 : Int32} {u : SD} {H : Heap} {locs : List Loc} {ls : Array Slot} (hW : WD E B u s H locs) (hl : lv_has ls 5 [(0, .ref (B 0)), (1, .int x1), (2, .long x2), (4, .int x4)]) (hf : fX1_drawsPassing_49 c14 x1 x2 x4 u = some out) : W p l e rmX1_drawsPassing s m args below meth c H locs 0 0 (MQ below (va_Ql (fun r (_ : Unit) => r = out.1) (fun _ t => fP E (cD E B out.2) t.heap) (aD B)) args s 0 0 (aD B)) (F0 m 49 ls []) := by
  obtain ⟨hx, hb, hr, hml, hown, hts, hlk, hK⟩ := id C0
  unfold fX1_drawsPassing_49 at hf
  refine lv_iinc (v := (x4 + (1 : Int32))) (lv' := [(4, .int (x4 + (1 : Int32))), (0, .ref (B 0)), (1, .int x1), (2, .long x2)]) hx hb dX1_drawsPassing_49 hl (k := 3) rfl rfl (by decide) rfl (fun ls hl => ?_)
  refine lv_goto (tgt := 14) hx hb dX1_drawsPassing_52 (by decide) ?_
  exact hc14 _ _ _ _ _ _ _ hW (lv_sub hl [1, 2, 3, 0] rfl) hf
set_option maxHeartbeats 4000000 in
set_option maxRecDepth 100000 in
theorem tX1_drawsPassing_14 {p : Program} {l : Launch} {e : Env} {s : State} {m : MethodId} {args : Array Value} {below : List Frame} {meth : Method} {c : Code} {E : EE} {B : Nat → Nat} {out : Int64 × SD} (C0 : cx wsX1_drawsPassing cX1_drawsPassing 5 (some .long) RX1 E p s m args meth c) : ∀ (n : Nat) (x1 : Int32) (x2 : Int64) (x4 : Int32) (u : SD) (H : Heap) (locs : List Loc) (ls : Array Slot) (_ : WD E B u s H locs), lv_has ls 5 [(0, .ref (B 0)), (1, .int x1), (2, .long x2), (4, .int x4)] → fX1_drawsPassing_14 n x1 x2 x4 u = some out → W p l e rmX1_drawsPassing s m args below meth c H locs 0 0 (MQ below (va_Ql (fun r (_ : Unit) => r = out.1) (fun _ t => fP E (cD E B out.2) t.heap) (aD B)) args s 0 0 (aD B)) (F0 m 14 ls []) := by
  obtain ⟨hx, hb, hr, hml, hown, hts, hlk, hK⟩ := id C0
  intro n
  induction n with
  | zero =>
    intro x1 x2 x4 u H locs ls hW hl hf
    cases (show none = some out from hf)
  | succ n ih =>
    intro x1 x2 x4 u H locs ls hW hl hf
    rw [fX1_drawsPassing_14] at hf
    refine lv_iload hx hb dX1_drawsPassing_14 (lv_at hl 3 rfl) ?_
    refine lv_aload_n hx hb dX1_drawsPassing_16 rfl (lv_at hl 0 rfl) ?_
    obtain ⟨q1, h2, hf⟩ := bd hf
    refine k_roI (run_V (rest := [.int x4]) (n := 0) C0 (tX1_everybody E B h2) gX1_drawsPassing_X1_everybody rfl rfl (by decide +kernel) (hW.2.1 0 _ rfl) rfl rfl hW.2.1 hl.1 rfl rfl (Nat.le_of_ble_eq_true rfl) dX1_drawsPassing_17) ?_
    refine lv_icmp_gt (tgt := 55) hx hb dX1_drawsPassing_20 (by decide) (fun c3 => ?_) (fun c3 => ?_)
    · have hf := th hf c3
      refine lv_lload_n hx hb dX1_drawsPassing_55 rfl (lv_at hl 2 rfl) ?_
      obtain rfl := Option.some.inj hf
      exact e_muL (QH := fP E (cD E B u)) C0 hW.2.2 rfl hW.2.1 dX1_drawsPassing_56
    · have hf := el hf c3
      refine lv_aload_n hx hb dX1_drawsPassing_23 rfl (lv_at hl 0 rfl) ?_
      refine lv_iload hx hb dX1_drawsPassing_24 (lv_at hl 3 rfl) ?_
      obtain ⟨q4, h5, hf⟩ := bd hf
      refine k_roI (run_V (rest := []) (n := 1) C0 (tX1_passesUnder E B h5) gX1_drawsPassing_X1_passesUnder rfl rfl (by decide +kernel) (hW.2.1 0 _ rfl) rfl rfl hW.2.1 hl.1 rfl rfl (Nat.le_of_ble_eq_true rfl) dX1_drawsPassing_26) ?_
      refine lv_if_eq (tgt := 49) hx hb dX1_drawsPassing_29 (by decide) (fun c6 => ?_) (fun c6 => ?_)
      · have hf := th hf c6
        exact tX1_drawsPassing_49 C0 ih hW (lv_sub hl [0, 1, 2, 3] rfl) hf
      · have hf := el hf c6
        refine lv_lload_n hx hb dX1_drawsPassing_32 rfl (lv_at hl 2 rfl) ?_
        refine lv_aload_n hx hb dX1_drawsPassing_33 rfl (lv_at hl 0 rfl) ?_
        refine lv_aload_n hx hb dX1_drawsPassing_34 rfl (lv_at hl 0 rfl) ?_
        obtain ⟨q7, h8, hf⟩ := bd hf
        refine k_roI (run_V (rest := [.ref (B 0), .long x2]) (n := 0) C0 (tX1_everybody E B h8) gX1_drawsPassing_X1_everybody rfl rfl (by decide +kernel) (hW.2.1 0 _ rfl) rfl rfl hW.2.1 hl.1 rfl rfl (Nat.le_of_ble_eq_true rfl) dX1_drawsPassing_35) ?_
        refine lv_iload hx hb dX1_drawsPassing_38 (lv_at hl 3 rfl) ?_
        refine lv_iconst (v := (-1 : Int32)) hx hb dX1_drawsPassing_40 (by decide) ?_
        refine lv_ixor hx hb dX1_drawsPassing_41 ?_
        refine lv_iand hx hb dX1_drawsPassing_42 ?_
        refine lv_iload_n hx hb dX1_drawsPassing_43 rfl (lv_at hl 1 rfl) ?_
        obtain ⟨q9, h10, hf⟩ := bd hf
        refine k_roL (run_V (rest := [.long x2]) (n := 2) C0 (tX1_freeingBy E B h10) gX1_drawsPassing_X1_freeingBy rfl rfl (by decide +kernel) (hW.2.1 0 _ rfl) rfl rfl hW.2.1 hl.1 rfl rfl (Nat.le_of_ble_eq_true rfl) dX1_drawsPassing_44) ?_
        refine lv_ladd hx hb dX1_drawsPassing_47 ?_
        refine lv_lstore_n (lv' := [(2, .long (x2 + q9)), (0, .ref (B 0)), (1, .int x1), (4, .int x4)]) hx hb dX1_drawsPassing_48 rfl hl (by decide) rfl (fun ls hl => ?_)
        exact tX1_drawsPassing_49 C0 ih hW (lv_sub hl [1, 2, 0, 3] rfl) hf
set_option maxHeartbeats 4000000 in
set_option maxRecDepth 100000 in
theorem tX1_drawsPassing_0 {p : Program} {l : Launch} {e : Env} {s : State} {m : MethodId} {args : Array Value} {below : List Frame} {meth : Method} {c : Code} {E : EE} {B : Nat → Nat} {out : Int64 × SD} (C0 : cx wsX1_drawsPassing cX1_drawsPassing 5 (some .long) RX1 E p s m args meth c) {u : SD} {H : Heap} {locs : List Loc} {ls : Array Slot} (hW : WD E B u s H locs) (hl : lv_has ls 5 [(0, .ref (B 0))]) (hf : fX1_drawsPassing u = some out) : W p l e rmX1_drawsPassing s m args below meth c H locs 0 0 (MQ below (va_Ql (fun r (_ : Unit) => r = out.1) (fun _ t => fP E (cD E B out.2) t.heap) (aD B)) args s 0 0 (aD B)) (F0 m 0 ls []) := by
  obtain ⟨hx, hb, hr, hml, hown, hts, hlk, hK⟩ := id C0
  unfold fX1_drawsPassing at hf
  refine lv_aload_n hx hb dX1_drawsPassing_0 rfl (lv_at hl 0 rfl) ?_
  obtain ⟨q1, h2, hf⟩ := bd hf
  refine k_muV (run_V (rest := []) (n := 0) C0 (tX1_countFreeing E B hW.1 h2) gX1_drawsPassing_X1_countFreeing rfl rfl (by decide +kernel) (hW.2.1 0 _ rfl) rfl rfl hW.2.1 hl.1 rfl rfl (Nat.le_of_ble_eq_true rfl) dX1_drawsPassing_1) hW.2.2 (fun _ h => h) (fun H locs hQ _ hS => ?_)
  have hW : WD E B q1 s H locs := ⟨hW.1, hQ, hS⟩
  refine lv_aload_n hx hb dX1_drawsPassing_4 rfl (lv_at hl 0 rfl) ?_
  obtain ⟨q3, h4, hf⟩ := bd hf
  refine k_roI (run_V (rest := []) (n := 0) C0 (tX1_taken E B h4) gX1_drawsPassing_X1_taken rfl rfl (by decide +kernel) (hW.2.1 0 _ rfl) rfl rfl hW.2.1 hl.1 rfl rfl (Nat.le_of_ble_eq_true rfl) dX1_drawsPassing_5) ?_
  refine lv_istore_n (lv' := [(1, .int q3), (0, .ref (B 0))]) hx hb dX1_drawsPassing_8 rfl hl (by decide) rfl (fun ls hl => ?_)
  refine lv_lconst (v := (0 : Int64)) hx hb dX1_drawsPassing_9 (by decide) ?_
  refine lv_lstore_n (lv' := [(2, .long (0 : Int64)), (1, .int q3), (0, .ref (B 0))]) hx hb dX1_drawsPassing_10 rfl hl (by decide) rfl (fun ls hl => ?_)
  refine lv_iconst (v := (0 : Int32)) hx hb dX1_drawsPassing_11 (by decide) ?_
  refine lv_istore (lv' := [(4, .int (0 : Int32)), (2, .long (0 : Int64)), (1, .int q3), (0, .ref (B 0))]) hx hb dX1_drawsPassing_12 hl (by decide) rfl (fun ls hl => ?_)
  exact tX1_drawsPassing_14 C0 fu _ _ _ _ _ _ _ hW (lv_sub hl [3, 2, 1, 0] rfl) hf
set_option maxHeartbeats 4000000 in
set_option maxRecDepth 100000 in
theorem tX1_drawsPassing {l : Launch} (E : EE) (B : Nat → Nat) {u : SD} {out : Int64 × SD} (hB : iD B) (hf : fX1_drawsPassing u = some out) : muL l yX1_drawsPassing wsX1_drawsPassing rmX1_drawsPassing E [.ref (B 0)] (aD B) (fP E (cD E B u)) (fP E (cD E B out.2)) out.1 := by
  refine Met.ofW (cc := cX1_drawsPassing) (maxL := 5) (ret := (some .long)) (by decide) rfl ?_
  intro p e s m args below meth c s₁ B0 hml hv
  obtain ⟨rfl, hP, hK⟩ := hv
  have C0 : cx wsX1_drawsPassing cX1_drawsPassing 5 (some .long) RX1 E p s m _ meth c := ⟨B0.exec, B0.bytes, B0.returns, hml, findClass_of_methodNamed B0.named, atoms_spec (ws := wsX1_drawsPassing) B0.pre, B0.notSynchronized, hK⟩
  have hl := lv_entry ([.ref (B 0)]) (n := 5) (Nat.le_of_ble_eq_true rfl)
  rw [lg_entry_eq]
  generalize (lg_sl ([.ref (B 0)]) ++ List.replicate (5 - (lg_sl ([.ref (B 0)])).length) Slot.unset).toArray = ls at hl ⊢
  exact tX1_drawsPassing_0 C0 ⟨hB, hP, va_S.rf⟩ hl hf
abbrev rmX1_passesByHalf : Room := { frames := 5, cells := 0, slots := 0, locals := 121 }
set_option maxHeartbeats 4000000 in
set_option maxRecDepth 100000 in
theorem tX1_passesByHalf_0 {p : Program} {l : Launch} {e : Env} {s : State} {m : MethodId} {args : Array Value} {below : List Frame} {meth : Method} {c : Code} {E : EE} {B : Nat → Nat} {out : Int32 × SD} (C0 : cx wsX1_passesByHalf cX1_passesByHalf 1 (some .boolean) RX1 E p s m args meth c) {u : SD} {H : Heap} {locs : List Loc} {ls : Array Slot} (hW : WD E B u s H locs) (hl : lv_has ls 1 [(0, .ref (B 0))]) (hf : fX1_passesByHalf u = some out) : W p l e rmX1_passesByHalf s m args below meth c H locs 0 0 (MQ below (va_Qi (fun r (_ : Unit) => r = out.1) (fun _ t => fP E (cD E B out.2) t.heap) (aD B)) args s 0 0 (aD B)) (F0 m 0 ls []) := by
  obtain ⟨hx, hb, hr, hml, hown, hts, hlk, hK⟩ := id C0
  unfold fX1_passesByHalf at hf
  refine lv_ldc2 hx hb hown (hts (.constantLong RX1 78 (2)) (by decide +kernel)) dX1_passesByHalf_0 ?_
  refine lv_aload_n hx hb dX1_passesByHalf_3 rfl (lv_at hl 0 rfl) ?_
  obtain ⟨q1, h2, hf⟩ := bd hf
  refine k_muL (run_V (rest := [.long (2 : Int64)]) (n := 0) C0 (tX1_drawsPassing E B hW.1 h2) gX1_passesByHalf_X1_drawsPassing rfl rfl (by decide +kernel) (hW.2.1 0 _ rfl) rfl rfl hW.2.1 hl.1 rfl rfl (Nat.le_of_ble_eq_true rfl) dX1_passesByHalf_4) hW.2.2 (fun _ h => h) (fun H locs hQ _ hS => ?_)
  have hW : WD E B q1.2 s H locs := ⟨hW.1, hQ, hS⟩
  refine lv_lmul hx hb dX1_passesByHalf_7 ?_
  refine lv_aload_n hx hb dX1_passesByHalf_8 rfl (lv_at hl 0 rfl) ?_
  obtain ⟨q3, h4, hf⟩ := bd hf
  refine k_roL (run_V (rest := [.long ((2 : Int64) * q1.1)]) (n := 0) C0 (tX1_draws E B h4) gX1_passesByHalf_X1_draws rfl rfl (by decide +kernel) (hW.2.1 0 _ rfl) rfl rfl hW.2.1 hl.1 rfl rfl (Nat.le_of_ble_eq_true rfl) dX1_passesByHalf_9) ?_
  refine W.lcmp hx hb dX1_passesByHalf_12 ?_
  refine lv_if_lt (tgt := 20) hx hb dX1_passesByHalf_13 (by decide) (fun c5 => ?_) (fun c5 => ?_)
  · have hf := th hf c5
    refine lv_iconst (v := (0 : Int32)) hx hb dX1_passesByHalf_20 (by decide) ?_
    obtain ⟨h6, hf⟩ := gd hf
    obtain rfl := Option.some.inj hf
    exact e_muZ (QH := fP E (cD E B q1.2)) C0 hW.2.2 (Decidable.of_not_not h6) rfl hW.2.1 dX1_passesByHalf_21
  · have hf := el hf c5
    refine lv_iconst (v := (1 : Int32)) hx hb dX1_passesByHalf_16 (by decide) ?_
    refine lv_goto (tgt := 21) hx hb dX1_passesByHalf_17 (by decide) ?_
    obtain ⟨h7, hf⟩ := gd hf
    obtain rfl := Option.some.inj hf
    exact e_muZ (QH := fP E (cD E B q1.2)) C0 hW.2.2 (Decidable.of_not_not h7) rfl hW.2.1 dX1_passesByHalf_21
set_option maxHeartbeats 4000000 in
set_option maxRecDepth 100000 in
theorem tX1_passesByHalf {l : Launch} (E : EE) (B : Nat → Nat) {u : SD} {out : Int32 × SD} (hB : iD B) (hf : fX1_passesByHalf u = some out) : muI l yX1_passesByHalf wsX1_passesByHalf rmX1_passesByHalf E [.ref (B 0)] (aD B) (fP E (cD E B u)) (fP E (cD E B out.2)) out.1 := by
  refine Met.ofW (cc := cX1_passesByHalf) (maxL := 1) (ret := (some .boolean)) (by decide) rfl ?_
  intro p e s m args below meth c s₁ B0 hml hv
  obtain ⟨rfl, hP, hK⟩ := hv
  have C0 : cx wsX1_passesByHalf cX1_passesByHalf 1 (some .boolean) RX1 E p s m _ meth c := ⟨B0.exec, B0.bytes, B0.returns, hml, findClass_of_methodNamed B0.named, atoms_spec (ws := wsX1_passesByHalf) B0.pre, B0.notSynchronized, hK⟩
  have hl := lv_entry ([.ref (B 0)]) (n := 1) (Nat.le_of_ble_eq_true rfl)
  rw [lg_entry_eq]
  generalize (lg_sl ([.ref (B 0)]) ++ List.replicate (1 - (lg_sl ([.ref (B 0)])).length) Slot.unset).toArray = ls at hl ⊢
  exact tX1_passesByHalf_0 C0 ⟨hB, hP, va_S.rf⟩ hl hf
abbrev rmX1_canLeaveJust : Room := { frames := 2, cells := 0, slots := 0, locals := 41 }
set_option maxRecDepth 20000 in
theorem iX1_canLeaveJust_X1 : ∀ w ∈ wsX10, w ∈ wsX1_canLeaveJust := by decide +kernel
set_option maxHeartbeats 4000000 in
set_option maxRecDepth 100000 in
theorem tX1_canLeaveJust_42 {p : Program} {l : Launch} {e : Env} {s : State} {m : MethodId} {args : Array Value} {below : List Frame} {meth : Method} {c : Code} {E : EE} {B : Nat → Nat} {u : SD} {out : Int32} {c14 : Int32 → Int32 → Int32 → SD → Option (Int32)} (C0 : cx wsX1_canLeaveJust cX1_canLeaveJust 5 (some .boolean) RX1 E p s m args meth c) (hP : fP E (cD E B u) s.heap) (hc14 : ∀ (x2 : Int32) (x3 : Int32) (x4 : Int32) (ls : Array Slot), lv_has ls 5 [(0, .ref (B 0)), (2, .int x2), (3, .int x3), (4, .int x4)] → c14 x2 x3 x4 u = some out → W p l e rmX1_canLeaveJust s m args below meth c s.heap [] 0 0 (MQ below (vp_Si (fun r => r = out)) args s 0 0 (fun _ => False)) (F0 m 14 ls [])) {x2 : Int32} {x3 : Int32} {x4 : Int32} {ls : Array Slot} (hl : lv_has ls 5 [(0, .ref (B 0)), (2, .int x2), (3, .int x3), (4, .int x4)]) (hf : fX1_canLeaveJust_42 c14 x2 x3 x4 u = some out) : W p l e rmX1_canLeaveJust s m args below meth c s.heap [] 0 0 (MQ below (vp_Si (fun r => r = out)) args s 0 0 (fun _ => False)) (F0 m 42 ls []) := by
  obtain ⟨hx, hb, hr, hml, hown, hts, hlk, hK⟩ := id C0
  unfold fX1_canLeaveJust_42 at hf
  refine lv_iinc (v := (x4 + (1 : Int32))) (lv' := [(4, .int (x4 + (1 : Int32))), (0, .ref (B 0)), (2, .int x2), (3, .int x3)]) hx hb dX1_canLeaveJust_42 hl (k := 3) rfl rfl (by decide) rfl (fun ls hl => ?_)
  refine lv_goto (tgt := 14) hx hb dX1_canLeaveJust_45 (by decide) ?_
  exact hc14 _ _ _ _ (lv_sub hl [1, 2, 3, 0] rfl) hf
set_option maxHeartbeats 4000000 in
set_option maxRecDepth 100000 in
theorem tX1_canLeaveJust_71 {p : Program} {l : Launch} {e : Env} {s : State} {m : MethodId} {args : Array Value} {below : List Frame} {meth : Method} {c : Code} {E : EE} {B : Nat → Nat} {u : SD} {out : Int32} (C0 : cx wsX1_canLeaveJust cX1_canLeaveJust 5 (some .boolean) RX1 E p s m args meth c) (hP : fP E (cD E B u) s.heap) {ls : Array Slot} (hl : lv_has ls 5 []) (hf : fX1_canLeaveJust_71 u = some out) : W p l e rmX1_canLeaveJust s m args below meth c s.heap [] 0 0 (MQ below (vp_Si (fun r => r = out)) args s 0 0 (fun _ => False)) (F0 m 71 ls []) := by
  obtain ⟨hx, hb, hr, hml, hown, hts, hlk, hK⟩ := id C0
  unfold fX1_canLeaveJust_71 at hf
  refine lv_iconst (v := (0 : Int32)) hx hb dX1_canLeaveJust_71 (by decide) ?_
  exact e_roZ C0 hf dX1_canLeaveJust_72
set_option maxHeartbeats 4000000 in
set_option maxRecDepth 100000 in
theorem tX1_canLeaveJust_14 {p : Program} {l : Launch} {e : Env} {s : State} {m : MethodId} {args : Array Value} {below : List Frame} {meth : Method} {c : Code} {E : EE} {B : Nat → Nat} {u : SD} {out : Int32} (C0 : cx wsX1_canLeaveJust cX1_canLeaveJust 5 (some .boolean) RX1 E p s m args meth c) (hP : fP E (cD E B u) s.heap) : ∀ (n : Nat) (x2 : Int32) (x3 : Int32) (x4 : Int32) (ls : Array Slot), lv_has ls 5 [(0, .ref (B 0)), (2, .int x2), (3, .int x3), (4, .int x4)] → fX1_canLeaveJust_14 n x2 x3 x4 u = some out → W p l e rmX1_canLeaveJust s m args below meth c s.heap [] 0 0 (MQ below (vp_Si (fun r => r = out)) args s 0 0 (fun _ => False)) (F0 m 14 ls []) := by
  obtain ⟨hx, hb, hr, hml, hown, hts, hlk, hK⟩ := id C0
  intro n
  induction n with
  | zero =>
    intro x2 x3 x4 ls hl hf
    cases (show none = some out from hf)
  | succ n ih =>
    intro x2 x3 x4 ls hl hf
    rw [fX1_canLeaveJust_14] at hf
    refine lv_iload hx hb dX1_canLeaveJust_14 (lv_at hl 3 rfl) ?_
    refine lv_aload_n hx hb dX1_canLeaveJust_16 rfl (lv_at hl 0 rfl) ?_
    refine d_get C0 hP iX1_canLeaveJust_X1 3 (by decide) (by decide +kernel) rfl dX1_canLeaveJust_17 ?_
    refine lv_icmp_ge (tgt := 48) hx hb dX1_canLeaveJust_20 (by decide) (fun c1 => ?_) (fun c1 => ?_)
    · have hf := th hf c1
      refine lv_iload_n hx hb dX1_canLeaveJust_48 rfl (lv_at hl 1 rfl) ?_
      obtain ⟨q2, h3, hf⟩ := bd hf
      refine k_roI (run_S (rest := []) (n := 1) (PH := fun _ => True) C0 (tJ6_bitCount_0f7a4 E h3) gX1_canLeaveJust_J6_bitCount_0f7a4 rfl rfl (by decide +kernel) trivial hl.1 rfl rfl (Nat.le_of_ble_eq_true rfl) dX1_canLeaveJust_49) ?_
      refine lv_aload_n hx hb dX1_canLeaveJust_52 rfl (lv_at hl 0 rfl) ?_
      obtain ⟨q4, h5, hf⟩ := bd hf
      refine k_roI (run_V (rest := [.int q2]) (n := 0) C0 (tX1_taken E B h5) gX1_canLeaveJust_X1_taken rfl rfl (by decide +kernel) (hP 0 _ rfl) rfl rfl hP hl.1 rfl rfl (Nat.le_of_ble_eq_true rfl) dX1_canLeaveJust_53) ?_
      refine lv_icmp_gt (tgt := 71) hx hb dX1_canLeaveJust_56 (by decide) (fun c6 => ?_) (fun c6 => ?_)
      · have hf := th hf c6
        exact tX1_canLeaveJust_71 C0 hP (lv_sub hl [] rfl) hf
      · have hf := el hf c6
        refine lv_aload_n hx hb dX1_canLeaveJust_59 rfl (lv_at hl 0 rfl) ?_
        obtain ⟨q7, h8, hf⟩ := bd hf
        refine k_roI (run_V (rest := []) (n := 0) C0 (tX1_taken E B h8) gX1_canLeaveJust_X1_taken rfl rfl (by decide +kernel) (hP 0 _ rfl) rfl rfl hP hl.1 rfl rfl (Nat.le_of_ble_eq_true rfl) dX1_canLeaveJust_60) ?_
        refine lv_iload_n hx hb dX1_canLeaveJust_63 rfl (lv_at hl 2 rfl) ?_
        refine lv_icmp_gt (tgt := 71) hx hb dX1_canLeaveJust_64 (by decide) (fun c9 => ?_) (fun c9 => ?_)
        · have hf := th hf c9
          exact tX1_canLeaveJust_71 C0 hP (lv_sub hl [] rfl) hf
        · have hf := el hf c9
          refine lv_iconst (v := (1 : Int32)) hx hb dX1_canLeaveJust_67 (by decide) ?_
          refine lv_goto (tgt := 72) hx hb dX1_canLeaveJust_68 (by decide) ?_
          exact e_roZ C0 hf dX1_canLeaveJust_72
    · have hf := el hf c1
      refine lv_iload_n hx hb dX1_canLeaveJust_23 rfl (lv_at hl 1 rfl) ?_
      refine lv_iload hx hb dX1_canLeaveJust_24 (lv_at hl 3 rfl) ?_
      refine lv_ishr hx hb dX1_canLeaveJust_26 ?_
      refine lv_iconst (v := (1 : Int32)) hx hb dX1_canLeaveJust_27 (by decide) ?_
      refine lv_iand hx hb dX1_canLeaveJust_28 ?_
      refine lv_iconst (v := (1 : Int32)) hx hb dX1_canLeaveJust_29 (by decide) ?_
      refine lv_icmp_ne (tgt := 42) hx hb dX1_canLeaveJust_30 (by decide) (fun c10 => ?_) (fun c10 => ?_)
      · have hf := el hf c10
        exact tX1_canLeaveJust_42 C0 hP ih (lv_sub hl [0, 1, 2, 3] rfl) hf
      · have hf := th hf c10
        refine lv_iload_n hx hb dX1_canLeaveJust_33 rfl (lv_at hl 2 rfl) ?_
        refine lv_aload_n hx hb dX1_canLeaveJust_34 rfl (lv_at hl 0 rfl) ?_
        refine lv_iload hx hb dX1_canLeaveJust_35 (lv_at hl 3 rfl) ?_
        obtain ⟨q11, h12, hf⟩ := bd hf
        refine k_roI (run_V (rest := [.int x3]) (n := 1) C0 (tX1_slipsOfOne E B h12) gX1_canLeaveJust_X1_slipsOfOne rfl rfl (by decide +kernel) (hP 0 _ rfl) rfl rfl hP hl.1 rfl rfl (Nat.le_of_ble_eq_true rfl) dX1_canLeaveJust_37) ?_
        refine lv_iadd hx hb dX1_canLeaveJust_40 ?_
        refine lv_istore_n (lv' := [(3, .int (x3 + q11)), (0, .ref (B 0)), (2, .int x2), (4, .int x4)]) hx hb dX1_canLeaveJust_41 rfl hl (by decide) rfl (fun ls hl => ?_)
        exact tX1_canLeaveJust_42 C0 hP ih (lv_sub hl [1, 2, 0, 3] rfl) hf
set_option maxHeartbeats 4000000 in
set_option maxRecDepth 100000 in
theorem tX1_canLeaveJust_0 {p : Program} {l : Launch} {e : Env} {s : State} {m : MethodId} {args : Array Value} {below : List Frame} {meth : Method} {c : Code} {E : EE} {B : Nat → Nat} {u : SD} {out : Int32} (C0 : cx wsX1_canLeaveJust cX1_canLeaveJust 5 (some .boolean) RX1 E p s m args meth c) (hP : fP E (cD E B u) s.heap) {x1 : Int32} {ls : Array Slot} (hl : lv_has ls 5 [(0, .ref (B 0)), (1, .int x1)]) (hf : fX1_canLeaveJust x1 u = some out) : W p l e rmX1_canLeaveJust s m args below meth c s.heap [] 0 0 (MQ below (vp_Si (fun r => r = out)) args s 0 0 (fun _ => False)) (F0 m 0 ls []) := by
  obtain ⟨hx, hb, hr, hml, hown, hts, hlk, hK⟩ := id C0
  unfold fX1_canLeaveJust at hf
  refine lv_aload_n hx hb dX1_canLeaveJust_0 rfl (lv_at hl 0 rfl) ?_
  obtain ⟨q1, h2, hf⟩ := bd hf
  refine k_roI (run_V (rest := []) (n := 0) C0 (tX1_everybody E B h2) gX1_canLeaveJust_X1_everybody rfl rfl (by decide +kernel) (hP 0 _ rfl) rfl rfl hP hl.1 rfl rfl (Nat.le_of_ble_eq_true rfl) dX1_canLeaveJust_1) ?_
  refine lv_iload_n hx hb dX1_canLeaveJust_4 rfl (lv_at hl 1 rfl) ?_
  refine lv_iconst (v := (-1 : Int32)) hx hb dX1_canLeaveJust_5 (by decide) ?_
  refine lv_ixor hx hb dX1_canLeaveJust_6 ?_
  refine lv_iand hx hb dX1_canLeaveJust_7 ?_
  refine lv_istore_n (lv' := [(2, .int (q1 &&& (x1 ^^^ (-1 : Int32)))), (0, .ref (B 0)), (1, .int x1)]) hx hb dX1_canLeaveJust_8 rfl hl (by decide) rfl (fun ls hl => ?_)
  refine lv_iconst (v := (0 : Int32)) hx hb dX1_canLeaveJust_9 (by decide) ?_
  refine lv_istore_n (lv' := [(3, .int (0 : Int32)), (2, .int (q1 &&& (x1 ^^^ (-1 : Int32)))), (0, .ref (B 0)), (1, .int x1)]) hx hb dX1_canLeaveJust_10 rfl hl (by decide) rfl (fun ls hl => ?_)
  refine lv_iconst (v := (0 : Int32)) hx hb dX1_canLeaveJust_11 (by decide) ?_
  refine lv_istore (lv' := [(4, .int (0 : Int32)), (3, .int (0 : Int32)), (2, .int (q1 &&& (x1 ^^^ (-1 : Int32)))), (0, .ref (B 0)), (1, .int x1)]) hx hb dX1_canLeaveJust_12 hl (by decide) rfl (fun ls hl => ?_)
  exact tX1_canLeaveJust_14 C0 hP fu _ _ _ _ (lv_sub hl [3, 2, 1, 0] rfl) hf
set_option maxHeartbeats 4000000 in
set_option maxRecDepth 100000 in
theorem tX1_canLeaveJust {l : Launch} (E : EE) (B : Nat → Nat) {u : SD} {x1 : Int32} {out : Int32} (hf : fX1_canLeaveJust x1 u = some out) : roI l yX1_canLeaveJust wsX1_canLeaveJust rmX1_canLeaveJust E [.ref (B 0), .int x1] (fP E (cD E B u)) out := by
  refine Met.ofW (cc := cX1_canLeaveJust) (maxL := 5) (ret := (some .boolean)) (by decide) rfl ?_
  intro p e s m args below meth c s₁ B0 hml hv
  obtain ⟨rfl, hP, hK⟩ := hv
  have C0 : cx wsX1_canLeaveJust cX1_canLeaveJust 5 (some .boolean) RX1 E p s m _ meth c := ⟨B0.exec, B0.bytes, B0.returns, hml, findClass_of_methodNamed B0.named, atoms_spec (ws := wsX1_canLeaveJust) B0.pre, B0.notSynchronized, hK⟩
  have hl := lv_entry ([.ref (B 0), .int x1]) (n := 5) (Nat.le_of_ble_eq_true rfl)
  rw [lg_entry_eq]
  generalize (lg_sl ([.ref (B 0), .int x1]) ++ List.replicate (5 - (lg_sl ([.ref (B 0), .int x1])).length) Slot.unset).toArray = ls at hl ⊢
  exact tX1_canLeaveJust_0 C0 hP hl hf
abbrev rmX2_begin : Room := { frames := 1, cells := 0, slots := 0, locals := 21 }
set_option maxRecDepth 20000 in
theorem iX2_begin_X2 : ∀ w ∈ wsX20, w ∈ wsX2_begin := by decide +kernel
set_option maxHeartbeats 4000000 in
set_option maxRecDepth 100000 in
theorem tX2_begin_29 {p : Program} {l : Launch} {e : Env} {s : State} {m : MethodId} {args : Array Value} {below : List Frame} {meth : Method} {c : Code} {E : EE} {B : Nat → Nat} {A : Nat → Prop} {out : Nat → SR} (C0 : cx wsX2_begin cX2_begin 4 none RX2 E p s m args meth c) : ∀ (n : Nat) (k0 : Nat) (x3 : Int32) (u : SX) (H : Heap) (locs : List Loc) (ls : Array Slot) (hk0 : k0 < 4) (_ : WX E A B u s H locs), lv_has ls 4 [(0, .ref (B (14 + k0))), (3, .int x3)] → fX2_begin_29 n k0 x3 u = some out → W p l e rmX2_begin s m args below meth c H locs 0 0 (MQ below (va_Qv (fun (_ : Unit) => True) (fun _ t => QX E A B (u.1, u.2.1, u.2.2.1, out, u.2.2.2.2) t.heap) A) args s 0 0 A) (F0 m 29 ls []) := by
  obtain ⟨hx, hb, hr, hml, hown, hts, hlk, hK⟩ := id C0
  intro n
  induction n with
  | zero =>
    intro k0 x3 u H locs ls hk0 hW hl hf
    cases (show none = some out from hf)
  | succ n ih =>
    intro k0 x3 u H locs ls hk0 hW hl hf
    rw [fX2_begin_29] at hf
    refine lv_iload_n hx hb dX2_begin_29 rfl (lv_at hl 1 rfl) ?_
    refine lv_aload_n hx hb dX2_begin_30 rfl (lv_at hl 0 rfl) ?_
    refine w_get C0 (hW.1.row hk0) iX2_begin_X2 0 (by decide) (by decide +kernel) rfl dX2_begin_31 ?_
    refine w_len C0 (hW.1.row hk0) dX2_begin_34 ?_
    refine lv_icmp_ge (tgt := 51) hx hb dX2_begin_35 (by decide) (fun c1 => ?_) (fun c1 => ?_)
    · have hf := th hf c1
      obtain rfl := Option.some.inj hf
      exact e_muV (QH := QX E A B u) C0 hW.2.2.2 ⟨hW.1, hW.2.1, hW.2.2.1⟩ dX2_begin_51
    · have hf := el hf c1
      refine lv_aload_n hx hb dX2_begin_38 rfl (lv_at hl 0 rfl) ?_
      refine w_get C0 (hW.1.row hk0) iX2_begin_X2 0 (by decide) (by decide +kernel) rfl dX2_begin_39 ?_
      refine lv_iload_n hx hb dX2_begin_42 rfl (lv_at hl 1 rfl) ?_
      refine lv_iconst (v := (0 : Int32)) hx hb dX2_begin_43 (by decide) ?_
      obtain ⟨h2, hf⟩ := gd hf
      refine x_dast C0 hW hk0 h2 dX2_begin_44 (fun H locs hW => ?_)
      have hW : WX E A B (u.1, u.2.1, u.2.2.1, (va_up u.2.2.2.1 k0 ((u.2.2.2.1 k0).1, upd (u.2.2.2.1 k0).2 x3.toNatClampNeg (0 : Int32))), u.2.2.2.2) s H locs := hW
      refine lv_iinc (v := (x3 + (1 : Int32))) (lv' := [(3, .int (x3 + (1 : Int32))), (0, .ref (B (14 + k0)))]) hx hb dX2_begin_45 hl (k := 1) rfl rfl (by decide) rfl (fun ls hl => ?_)
      refine lv_goto (tgt := 29) hx hb dX2_begin_48 (by decide) ?_
      exact ih _ _ (u.1, u.2.1, u.2.2.1, (va_up u.2.2.2.1 k0 ((u.2.2.2.1 k0).1, upd (u.2.2.2.1 k0).2 x3.toNatClampNeg (0 : Int32))), u.2.2.2.2) _ _ _ hk0 hW (lv_sub hl [1, 0] rfl) hf
set_option maxHeartbeats 4000000 in
set_option maxRecDepth 100000 in
theorem tX2_begin_0 {p : Program} {l : Launch} {e : Env} {s : State} {m : MethodId} {args : Array Value} {below : List Frame} {meth : Method} {c : Code} {E : EE} {B : Nat → Nat} {A : Nat → Prop} {out : Nat → SR} (C0 : cx wsX2_begin cX2_begin 4 none RX2 E p s m args meth c) {k0 : Nat} {x1 : Int32} {x2 : Int32} {u : SX} {H : Heap} {locs : List Loc} {ls : Array Slot} (hk0 : k0 < 4) (hW : WX E A B u s H locs) (hl : lv_has ls 4 [(0, .ref (B (14 + k0))), (1, .int x1), (2, .int x2)]) (hf : fX2_begin k0 x1 x2 u = some out) : W p l e rmX2_begin s m args below meth c H locs 0 0 (MQ below (va_Qv (fun (_ : Unit) => True) (fun _ t => QX E A B (u.1, u.2.1, u.2.2.1, out, u.2.2.2.2) t.heap) A) args s 0 0 A) (F0 m 0 ls []) := by
  obtain ⟨hx, hb, hr, hml, hown, hts, hlk, hK⟩ := id C0
  unfold fX2_begin at hf
  refine lv_aload_n hx hb dX2_begin_0 rfl (lv_at hl 0 rfl) ?_
  refine lv_iconst (v := (1 : Int32)) hx hb dX2_begin_1 (by decide) ?_
  obtain ⟨h1, hf⟩ := gd hf
  refine x_putRZ C0 hW hk0 iX2_begin_X2 (Decidable.of_not_not h1) 1 (by decide) (by decide +kernel) (by decide +kernel) rfl (fun _ _ => rfl) dX2_begin_2 (fun H locs hW => ?_)
  have hW : WX E A B (u.1, u.2.1, u.2.2.1, (va_up u.2.2.2.1 k0 (upd (u.2.2.2.1 k0).1 1 (1 : Int32), (u.2.2.2.1 k0).2)), u.2.2.2.2) s H locs := hW
  refine lv_aload_n hx hb dX2_begin_5 rfl (lv_at hl 0 rfl) ?_
  refine lv_iload_n hx hb dX2_begin_6 rfl (lv_at hl 1 rfl) ?_
  refine x_putR C0 hW hk0 iX2_begin_X2 2 (by decide) (by decide +kernel) (by decide +kernel) rfl (fun _ _ => rfl) dX2_begin_7 (fun H locs hW => ?_)
  have hW : WX E A B (u.1, u.2.1, u.2.2.1, (va_up (va_up u.2.2.2.1 k0 (upd (u.2.2.2.1 k0).1 1 (1 : Int32), (u.2.2.2.1 k0).2)) k0 (upd ((va_up u.2.2.2.1 k0 (upd (u.2.2.2.1 k0).1 1 (1 : Int32), (u.2.2.2.1 k0).2)) k0).1 2 x1, ((va_up u.2.2.2.1 k0 (upd (u.2.2.2.1 k0).1 1 (1 : Int32), (u.2.2.2.1 k0).2)) k0).2)), u.2.2.2.2) s H locs := hW
  refine lv_aload_n hx hb dX2_begin_10 rfl (lv_at hl 0 rfl) ?_
  refine lv_iconst (v := (0 : Int32)) hx hb dX2_begin_11 (by decide) ?_
  refine lv_iload_n hx hb dX2_begin_12 rfl (lv_at hl 2 rfl) ?_
  refine lv_aload_n hx hb dX2_begin_13 rfl (lv_at hl 0 rfl) ?_
  refine w_get C0 (hW.1.row hk0) iX2_begin_X2 0 (by decide) (by decide +kernel) rfl dX2_begin_14 ?_
  refine w_len C0 (hW.1.row hk0) dX2_begin_17 ?_
  refine k_min C0 hl.1 (by decide +kernel) (by decide +kernel) (by decide +kernel) (by decide +kernel) (Nat.le_of_ble_eq_true rfl) (Nat.le_of_ble_eq_true rfl) (Nat.le_of_ble_eq_true rfl) (Nat.le_of_ble_eq_true rfl) dX2_begin_18 ?_
  refine k_max C0 hl.1 (by decide +kernel) (by decide +kernel) (by decide +kernel) (by decide +kernel) (Nat.le_of_ble_eq_true rfl) (Nat.le_of_ble_eq_true rfl) (Nat.le_of_ble_eq_true rfl) (Nat.le_of_ble_eq_true rfl) dX2_begin_21 ?_
  refine x_putR C0 hW hk0 iX2_begin_X2 3 (by decide) (by decide +kernel) (by decide +kernel) rfl (fun _ _ => rfl) dX2_begin_24 (fun H locs hW => ?_)
  have hW : WX E A B (u.1, u.2.1, u.2.2.1, (va_up (va_up (va_up u.2.2.2.1 k0 (upd (u.2.2.2.1 k0).1 1 (1 : Int32), (u.2.2.2.1 k0).2)) k0 (upd ((va_up u.2.2.2.1 k0 (upd (u.2.2.2.1 k0).1 1 (1 : Int32), (u.2.2.2.1 k0).2)) k0).1 2 x1, ((va_up u.2.2.2.1 k0 (upd (u.2.2.2.1 k0).1 1 (1 : Int32), (u.2.2.2.1 k0).2)) k0).2)) k0 (upd ((va_up (va_up u.2.2.2.1 k0 (upd (u.2.2.2.1 k0).1 1 (1 : Int32), (u.2.2.2.1 k0).2)) k0 (upd ((va_up u.2.2.2.1 k0 (upd (u.2.2.2.1 k0).1 1 (1 : Int32), (u.2.2.2.1 k0).2)) k0).1 2 x1, ((va_up u.2.2.2.1 k0 (upd (u.2.2.2.1 k0).1 1 (1 : Int32), (u.2.2.2.1 k0).2)) k0).2)) k0).1 3 (if (0 : Int32) < (if (60 : Int32) < x2 then (60 : Int32) else x2) then (if (60 : Int32) < x2 then (60 : Int32) else x2) else (0 : Int32)), ((va_up (va_up u.2.2.2.1 k0 (upd (u.2.2.2.1 k0).1 1 (1 : Int32), (u.2.2.2.1 k0).2)) k0 (upd ((va_up u.2.2.2.1 k0 (upd (u.2.2.2.1 k0).1 1 (1 : Int32), (u.2.2.2.1 k0).2)) k0).1 2 x1, ((va_up u.2.2.2.1 k0 (upd (u.2.2.2.1 k0).1 1 (1 : Int32), (u.2.2.2.1 k0).2)) k0).2)) k0).2)), u.2.2.2.2) s H locs := hW
  refine lv_iconst (v := (0 : Int32)) hx hb dX2_begin_27 (by decide) ?_
  refine lv_istore_n (lv' := [(3, .int (0 : Int32)), (0, .ref (B (14 + k0))), (1, .int x1), (2, .int x2)]) hx hb dX2_begin_28 rfl hl (by decide) rfl (fun ls hl => ?_)
  exact tX2_begin_29 C0 fu _ _ (u.1, u.2.1, u.2.2.1, (va_up (va_up (va_up u.2.2.2.1 k0 (upd (u.2.2.2.1 k0).1 1 (1 : Int32), (u.2.2.2.1 k0).2)) k0 (upd ((va_up u.2.2.2.1 k0 (upd (u.2.2.2.1 k0).1 1 (1 : Int32), (u.2.2.2.1 k0).2)) k0).1 2 x1, ((va_up u.2.2.2.1 k0 (upd (u.2.2.2.1 k0).1 1 (1 : Int32), (u.2.2.2.1 k0).2)) k0).2)) k0 (upd ((va_up (va_up u.2.2.2.1 k0 (upd (u.2.2.2.1 k0).1 1 (1 : Int32), (u.2.2.2.1 k0).2)) k0 (upd ((va_up u.2.2.2.1 k0 (upd (u.2.2.2.1 k0).1 1 (1 : Int32), (u.2.2.2.1 k0).2)) k0).1 2 x1, ((va_up u.2.2.2.1 k0 (upd (u.2.2.2.1 k0).1 1 (1 : Int32), (u.2.2.2.1 k0).2)) k0).2)) k0).1 3 (if (0 : Int32) < (if (60 : Int32) < x2 then (60 : Int32) else x2) then (if (60 : Int32) < x2 then (60 : Int32) else x2) else (0 : Int32)), ((va_up (va_up u.2.2.2.1 k0 (upd (u.2.2.2.1 k0).1 1 (1 : Int32), (u.2.2.2.1 k0).2)) k0 (upd ((va_up u.2.2.2.1 k0 (upd (u.2.2.2.1 k0).1 1 (1 : Int32), (u.2.2.2.1 k0).2)) k0).1 2 x1, ((va_up u.2.2.2.1 k0 (upd (u.2.2.2.1 k0).1 1 (1 : Int32), (u.2.2.2.1 k0).2)) k0).2)) k0).2)), u.2.2.2.2) _ _ _ hk0 hW (lv_sub hl [1, 0] rfl) hf
set_option maxHeartbeats 4000000 in
set_option maxRecDepth 100000 in
theorem tX2_begin {l : Launch} (E : EE) (A : Nat → Prop) (B : Nat → Nat) {u : SX} {k0 : Nat} {x1 : Int32} {x2 : Int32} {out : Nat → SR} (hk0 : k0 < 4) (hI : fI (cX E B u)) (hA : AX E B u A) (hf : fX2_begin k0 x1 x2 u = some out) : muV l yX2_begin wsX2_begin rmX2_begin E [.ref (B (14 + k0)), .int x1, .int x2] A (fP E (cX E B u)) (QX E A B (u.1, u.2.1, u.2.2.1, out, u.2.2.2.2)) := by
  refine Met.ofW (cc := cX2_begin) (maxL := 4) (ret := none) (by decide) rfl ?_
  intro p e s m args below meth c s₁ B0 hml hv
  obtain ⟨rfl, hP, hK⟩ := hv
  have C0 : cx wsX2_begin cX2_begin 4 none RX2 E p s m _ meth c := ⟨B0.exec, B0.bytes, B0.returns, hml, findClass_of_methodNamed B0.named, atoms_spec (ws := wsX2_begin) B0.pre, B0.notSynchronized, hK⟩
  have hl := lv_entry ([.ref (B (14 + k0)), .int x1, .int x2]) (n := 4) (Nat.le_of_ble_eq_true rfl)
  rw [lg_entry_eq]
  generalize (lg_sl ([.ref (B (14 + k0)), .int x1, .int x2]) ++ List.replicate (4 - (lg_sl ([.ref (B (14 + k0)), .int x1, .int x2])).length) Slot.unset).toArray = ls at hl ⊢
  exact tX2_begin_0 C0 hk0 ⟨hP, hI, hA, va_S.rf⟩ hl hf
abbrev rmX2_end : Room := { frames := 0, cells := 0, slots := 0, locals := 0 }
set_option maxRecDepth 20000 in
theorem iX2_end_X2 : ∀ w ∈ wsX20, w ∈ wsX2_end := by decide +kernel
set_option maxHeartbeats 4000000 in
set_option maxRecDepth 100000 in
theorem tX2_end_0 {p : Program} {l : Launch} {e : Env} {s : State} {m : MethodId} {args : Array Value} {below : List Frame} {meth : Method} {c : Code} {E : EE} {B : Nat → Nat} {A : Nat → Prop} {out : Nat → SR} (C0 : cx wsX2_end cX2_end 1 none RX2 E p s m args meth c) {k0 : Nat} {u : SX} {H : Heap} {locs : List Loc} {ls : Array Slot} (hk0 : k0 < 4) (hW : WX E A B u s H locs) (hl : lv_has ls 1 [(0, .ref (B (14 + k0)))]) (hf : fX2_end k0 u = some out) : W p l e rmX2_end s m args below meth c H locs 0 0 (MQ below (va_Qv (fun (_ : Unit) => True) (fun _ t => QX E A B (u.1, u.2.1, u.2.2.1, out, u.2.2.2.2) t.heap) A) args s 0 0 A) (F0 m 0 ls []) := by
  obtain ⟨hx, hb, hr, hml, hown, hts, hlk, hK⟩ := id C0
  unfold fX2_end at hf
  refine lv_aload_n hx hb dX2_end_0 rfl (lv_at hl 0 rfl) ?_
  refine lv_iconst (v := (0 : Int32)) hx hb dX2_end_1 (by decide) ?_
  obtain ⟨h1, hf⟩ := gd hf
  refine x_putRZ C0 hW hk0 iX2_end_X2 (Decidable.of_not_not h1) 1 (by decide) (by decide +kernel) (by decide +kernel) rfl (fun _ _ => rfl) dX2_end_2 (fun H locs hW => ?_)
  have hW : WX E A B (u.1, u.2.1, u.2.2.1, (va_up u.2.2.2.1 k0 (upd (u.2.2.2.1 k0).1 1 (0 : Int32), (u.2.2.2.1 k0).2)), u.2.2.2.2) s H locs := hW
  obtain rfl := Option.some.inj hf
  exact e_muV (QH := QX E A B (u.1, u.2.1, u.2.2.1, (va_up u.2.2.2.1 k0 (upd (u.2.2.2.1 k0).1 1 (0 : Int32), (u.2.2.2.1 k0).2)), u.2.2.2.2)) C0 hW.2.2.2 ⟨hW.1, hW.2.1, hW.2.2.1⟩ dX2_end_5
set_option maxHeartbeats 4000000 in
set_option maxRecDepth 100000 in
theorem tX2_end {l : Launch} (E : EE) (A : Nat → Prop) (B : Nat → Nat) {u : SX} {k0 : Nat} {out : Nat → SR} (hk0 : k0 < 4) (hI : fI (cX E B u)) (hA : AX E B u A) (hf : fX2_end k0 u = some out) : muV l yX2_end wsX2_end rmX2_end E [.ref (B (14 + k0))] A (fP E (cX E B u)) (QX E A B (u.1, u.2.1, u.2.2.1, out, u.2.2.2.2)) := by
  refine Met.ofW (cc := cX2_end) (maxL := 1) (ret := none) (by decide) rfl ?_
  intro p e s m args below meth c s₁ B0 hml hv
  obtain ⟨rfl, hP, hK⟩ := hv
  have C0 : cx wsX2_end cX2_end 1 none RX2 E p s m _ meth c := ⟨B0.exec, B0.bytes, B0.returns, hml, findClass_of_methodNamed B0.named, atoms_spec (ws := wsX2_end) B0.pre, B0.notSynchronized, hK⟩
  have hl := lv_entry ([.ref (B (14 + k0))]) (n := 1) (Nat.le_of_ble_eq_true rfl)
  rw [lg_entry_eq]
  generalize (lg_sl ([.ref (B (14 + k0))]) ++ List.replicate (1 - (lg_sl ([.ref (B (14 + k0))])).length) Slot.unset).toArray = ls at hl ⊢
  exact tX2_end_0 C0 hk0 ⟨hP, hI, hA, va_S.rf⟩ hl hf
abbrev rmX2_holds : Room := { frames := 0, cells := 0, slots := 0, locals := 0 }
set_option maxRecDepth 20000 in
theorem iX2_holds_X2 : ∀ w ∈ wsX20, w ∈ wsX2_holds := by decide +kernel
set_option maxHeartbeats 4000000 in
set_option maxRecDepth 100000 in
theorem tX2_holds_30 {p : Program} {l : Launch} {e : Env} {s : State} {m : MethodId} {args : Array Value} {below : List Frame} {meth : Method} {c : Code} {E : EE} {y0 z0 : Nat} {r : SR} {out : Int32} (C0 : cx wsX2_holds cX2_holds 3 (some .boolean) RX2 E p s m args meth c) (hP : fP E (cR E y0 z0 r) s.heap) {ls : Array Slot} (hl : lv_has ls 3 []) (hf : fX2_holds_30 r = some out) : W p l e rmX2_holds s m args below meth c s.heap [] 0 0 (MQ below (vp_Si (fun r => r = out)) args s 0 0 (fun _ => False)) (F0 m 30 ls []) := by
  obtain ⟨hx, hb, hr, hml, hown, hts, hlk, hK⟩ := id C0
  unfold fX2_holds_30 at hf
  refine lv_iconst (v := (0 : Int32)) hx hb dX2_holds_30 (by decide) ?_
  exact e_roZ C0 hf dX2_holds_31
set_option maxHeartbeats 4000000 in
set_option maxRecDepth 100000 in
theorem tX2_holds_0 {p : Program} {l : Launch} {e : Env} {s : State} {m : MethodId} {args : Array Value} {below : List Frame} {meth : Method} {c : Code} {E : EE} {y0 z0 : Nat} {r : SR} {out : Int32} (C0 : cx wsX2_holds cX2_holds 3 (some .boolean) RX2 E p s m args meth c) (hP : fP E (cR E y0 z0 r) s.heap) {x1 : Int32} {x2 : Int32} {ls : Array Slot} (hl : lv_has ls 3 [(0, .ref (y0)), (1, .int x1), (2, .int x2)]) (hf : fX2_holds x1 x2 r = some out) : W p l e rmX2_holds s m args below meth c s.heap [] 0 0 (MQ below (vp_Si (fun r => r = out)) args s 0 0 (fun _ => False)) (F0 m 0 ls []) := by
  obtain ⟨hx, hb, hr, hml, hown, hts, hlk, hK⟩ := id C0
  unfold fX2_holds at hf
  refine lv_iload_n hx hb dX2_holds_0 rfl (lv_at hl 1 rfl) ?_
  refine lv_if_lt (tgt := 30) hx hb dX2_holds_1 (by decide) (fun c1 => ?_) (fun c1 => ?_)
  · have hf := th hf c1
    exact tX2_holds_30 C0 hP (lv_sub hl [] rfl) hf
  · have hf := el hf c1
    refine lv_iload_n hx hb dX2_holds_4 rfl (lv_at hl 2 rfl) ?_
    refine lv_if_lt (tgt := 30) hx hb dX2_holds_5 (by decide) (fun c2 => ?_) (fun c2 => ?_)
    · have hf := th hf c2
      exact tX2_holds_30 C0 hP (lv_sub hl [] rfl) hf
    · have hf := el hf c2
      refine lv_iload_n hx hb dX2_holds_8 rfl (lv_at hl 1 rfl) ?_
      refine lv_aload_n hx hb dX2_holds_9 rfl (lv_at hl 0 rfl) ?_
      refine w_get C0 hP iX2_holds_X2 3 (by decide) (by decide +kernel) rfl dX2_holds_10 ?_
      refine lv_icmp_gt (tgt := 30) hx hb dX2_holds_13 (by decide) (fun c3 => ?_) (fun c3 => ?_)
      · have hf := th hf c3
        exact tX2_holds_30 C0 hP (lv_sub hl [] rfl) hf
      · have hf := el hf c3
        refine lv_iload_n hx hb dX2_holds_16 rfl (lv_at hl 2 rfl) ?_
        refine lv_aload_n hx hb dX2_holds_17 rfl (lv_at hl 0 rfl) ?_
        refine w_get C0 hP iX2_holds_X2 3 (by decide) (by decide +kernel) rfl dX2_holds_18 ?_
        refine lv_iload_n hx hb dX2_holds_21 rfl (lv_at hl 1 rfl) ?_
        refine lv_isub hx hb dX2_holds_22 ?_
        refine lv_icmp_gt (tgt := 30) hx hb dX2_holds_23 (by decide) (fun c4 => ?_) (fun c4 => ?_)
        · have hf := th hf c4
          exact tX2_holds_30 C0 hP (lv_sub hl [] rfl) hf
        · have hf := el hf c4
          refine lv_iconst (v := (1 : Int32)) hx hb dX2_holds_26 (by decide) ?_
          refine lv_goto (tgt := 31) hx hb dX2_holds_27 (by decide) ?_
          exact e_roZ C0 hf dX2_holds_31
set_option maxHeartbeats 4000000 in
set_option maxRecDepth 100000 in
theorem tX2_holds {l : Launch} (E : EE) (y0 z0 : Nat) {r : SR} {x1 : Int32} {x2 : Int32} {out : Int32} (hf : fX2_holds x1 x2 r = some out) : roI l yX2_holds wsX2_holds rmX2_holds E [.ref (y0), .int x1, .int x2] (fP E (cR E y0 z0 r)) out := by
  refine Met.ofW (cc := cX2_holds) (maxL := 3) (ret := (some .boolean)) (by decide) rfl ?_
  intro p e s m args below meth c s₁ B0 hml hv
  obtain ⟨rfl, hP, hK⟩ := hv
  have C0 : cx wsX2_holds cX2_holds 3 (some .boolean) RX2 E p s m _ meth c := ⟨B0.exec, B0.bytes, B0.returns, hml, findClass_of_methodNamed B0.named, atoms_spec (ws := wsX2_holds) B0.pre, B0.notSynchronized, hK⟩
  have hl := lv_entry ([.ref (y0), .int x1, .int x2]) (n := 3) (Nat.le_of_ble_eq_true rfl)
  rw [lg_entry_eq]
  generalize (lg_sl ([.ref (y0), .int x1, .int x2]) ++ List.replicate (3 - (lg_sl ([.ref (y0), .int x1, .int x2])).length) Slot.unset).toArray = ls at hl ⊢
  exact tX2_holds_0 C0 hP hl hf
abbrev rmX2_at : Room := { frames := 0, cells := 0, slots := 0, locals := 0 }
set_option maxRecDepth 20000 in
theorem iX2_at_X2 : ∀ w ∈ wsX20, w ∈ wsX2_at := by decide +kernel
set_option maxHeartbeats 4000000 in
set_option maxRecDepth 100000 in
theorem tX2_at_22 {p : Program} {l : Launch} {e : Env} {s : State} {m : MethodId} {args : Array Value} {below : List Frame} {meth : Method} {c : Code} {E : EE} {y0 z0 : Nat} {r : SR} {out : Int32} (C0 : cx wsX2_at cX2_at 2 (some .int) RX2 E p s m args meth c) (hP : fP E (cR E y0 z0 r) s.heap) {ls : Array Slot} (hl : lv_has ls 2 []) (hf : fX2_at_22 r = some out) : W p l e rmX2_at s m args below meth c s.heap [] 0 0 (MQ below (vp_Si (fun r => r = out)) args s 0 0 (fun _ => False)) (F0 m 22 ls []) := by
  obtain ⟨hx, hb, hr, hml, hown, hts, hlk, hK⟩ := id C0
  unfold fX2_at_22 at hf
  refine lv_iconst (v := (0 : Int32)) hx hb dX2_at_22 (by decide) ?_
  exact e_roI C0 hf dX2_at_23
set_option maxHeartbeats 4000000 in
set_option maxRecDepth 100000 in
theorem tX2_at_0 {p : Program} {l : Launch} {e : Env} {s : State} {m : MethodId} {args : Array Value} {below : List Frame} {meth : Method} {c : Code} {E : EE} {y0 z0 : Nat} {r : SR} {out : Int32} (C0 : cx wsX2_at cX2_at 2 (some .int) RX2 E p s m args meth c) (hP : fP E (cR E y0 z0 r) s.heap) {x1 : Int32} {ls : Array Slot} (hl : lv_has ls 2 [(0, .ref (y0)), (1, .int x1)]) (hf : fX2_at x1 r = some out) : W p l e rmX2_at s m args below meth c s.heap [] 0 0 (MQ below (vp_Si (fun r => r = out)) args s 0 0 (fun _ => False)) (F0 m 0 ls []) := by
  obtain ⟨hx, hb, hr, hml, hown, hts, hlk, hK⟩ := id C0
  unfold fX2_at at hf
  refine lv_iload_n hx hb dX2_at_0 rfl (lv_at hl 1 rfl) ?_
  refine lv_if_lt (tgt := 22) hx hb dX2_at_1 (by decide) (fun c1 => ?_) (fun c1 => ?_)
  · have hf := th hf c1
    exact tX2_at_22 C0 hP (lv_sub hl [] rfl) hf
  · have hf := el hf c1
    refine lv_iload_n hx hb dX2_at_4 rfl (lv_at hl 1 rfl) ?_
    refine lv_aload_n hx hb dX2_at_5 rfl (lv_at hl 0 rfl) ?_
    refine w_get C0 hP iX2_at_X2 0 (by decide) (by decide +kernel) rfl dX2_at_6 ?_
    refine w_len C0 hP dX2_at_9 ?_
    refine lv_icmp_ge (tgt := 22) hx hb dX2_at_10 (by decide) (fun c2 => ?_) (fun c2 => ?_)
    · have hf := th hf c2
      exact tX2_at_22 C0 hP (lv_sub hl [] rfl) hf
    · have hf := el hf c2
      refine lv_aload_n hx hb dX2_at_13 rfl (lv_at hl 0 rfl) ?_
      refine w_get C0 hP iX2_at_X2 0 (by decide) (by decide +kernel) rfl dX2_at_14 ?_
      refine lv_iload_n hx hb dX2_at_17 rfl (lv_at hl 1 rfl) ?_
      obtain ⟨h3, hf⟩ := gd hf
      refine w_ald C0 hP h3 dX2_at_18 ?_
      refine lv_goto (tgt := 23) hx hb dX2_at_19 (by decide) ?_
      exact e_roI C0 hf dX2_at_23
set_option maxHeartbeats 4000000 in
set_option maxRecDepth 100000 in
theorem tX2_at {l : Launch} (E : EE) (y0 z0 : Nat) {r : SR} {x1 : Int32} {out : Int32} (hf : fX2_at x1 r = some out) : roI l yX2_at wsX2_at rmX2_at E [.ref (y0), .int x1] (fP E (cR E y0 z0 r)) out := by
  refine Met.ofW (cc := cX2_at) (maxL := 2) (ret := (some .int)) (by decide) rfl ?_
  intro p e s m args below meth c s₁ B0 hml hv
  obtain ⟨rfl, hP, hK⟩ := hv
  have C0 : cx wsX2_at cX2_at 2 (some .int) RX2 E p s m _ meth c := ⟨B0.exec, B0.bytes, B0.returns, hml, findClass_of_methodNamed B0.named, atoms_spec (ws := wsX2_at) B0.pre, B0.notSynchronized, hK⟩
  have hl := lv_entry ([.ref (y0), .int x1]) (n := 2) (Nat.le_of_ble_eq_true rfl)
  rw [lg_entry_eq]
  generalize (lg_sl ([.ref (y0), .int x1]) ++ List.replicate (2 - (lg_sl ([.ref (y0), .int x1])).length) Slot.unset).toArray = ls at hl ⊢
  exact tX2_at_0 C0 hP hl hf
abbrev rmX2_cut : Room := { frames := 0, cells := 0, slots := 0, locals := 0 }
set_option maxRecDepth 20000 in
theorem iX2_cut_X2 : ∀ w ∈ wsX20, w ∈ wsX2_cut := by decide +kernel
set_option maxHeartbeats 4000000 in
set_option maxRecDepth 100000 in
theorem tX2_cut_0 {p : Program} {l : Launch} {e : Env} {s : State} {m : MethodId} {args : Array Value} {below : List Frame} {meth : Method} {c : Code} {E : EE} {y0 z0 : Nat} {r : SR} {out : Int32} (C0 : cx wsX2_cut cX2_cut 2 (some .int) RX2 E p s m args meth c) (hP : fP E (cR E y0 z0 r) s.heap) {x1 : Int32} {ls : Array Slot} (hl : lv_has ls 2 [(0, .ref (y0)), (1, .int x1)]) (hf : fX2_cut x1 r = some out) : W p l e rmX2_cut s m args below meth c s.heap [] 0 0 (MQ below (vp_Si (fun r => r = out)) args s 0 0 (fun _ => False)) (F0 m 0 ls []) := by
  obtain ⟨hx, hb, hr, hml, hown, hts, hlk, hK⟩ := id C0
  unfold fX2_cut at hf
  refine lv_aload_n hx hb dX2_cut_0 rfl (lv_at hl 0 rfl) ?_
  refine w_get C0 hP iX2_cut_X2 2 (by decide) (by decide +kernel) rfl dX2_cut_1 ?_
  by_cases c1 : (r.1 2) = (0 : Int32)
  · have hf := th hf c1
    rw [c1]
    refine lv_lookup (off := 28) (tgt := 32) hx hb dX2_cut_4 (by decide) (by decide) (by decide) ?_
    refine lv_iload_n hx hb dX2_cut_32 rfl (lv_at hl 1 rfl) ?_
    refine lv_i2b (v := x1.toInt8.toInt32) hx hb dX2_cut_33 rfl ?_
    exact e_roI C0 hf dX2_cut_34
  · have hf := el hf c1
    by_cases c2 : (r.1 2) = (1 : Int32)
    · have hf := th hf c2
      rw [c2]
      refine lv_lookup (off := 31) (tgt := 35) hx hb dX2_cut_4 (by decide) (by decide) (by decide) ?_
      refine lv_iload_n hx hb dX2_cut_35 rfl (lv_at hl 1 rfl) ?_
      refine lv_i2s (v := x1.toInt16.toInt32) hx hb dX2_cut_36 rfl ?_
      exact e_roI C0 hf dX2_cut_37
    · have hf := el hf c2
      refine lv_lookup (off := 34) (tgt := 38) hx hb dX2_cut_4 (by decide) (by rw [lv_osw c1 (by decide)]; rw [lv_osw c2 (by decide)]; rfl) (by decide) ?_
      refine lv_iload_n hx hb dX2_cut_38 rfl (lv_at hl 1 rfl) ?_
      exact e_roI C0 hf dX2_cut_39
set_option maxHeartbeats 4000000 in
set_option maxRecDepth 100000 in
theorem tX2_cut {l : Launch} (E : EE) (y0 z0 : Nat) {r : SR} {x1 : Int32} {out : Int32} (hf : fX2_cut x1 r = some out) : roI l yX2_cut wsX2_cut rmX2_cut E [.ref (y0), .int x1] (fP E (cR E y0 z0 r)) out := by
  refine Met.ofW (cc := cX2_cut) (maxL := 2) (ret := (some .int)) (by decide) rfl ?_
  intro p e s m args below meth c s₁ B0 hml hv
  obtain ⟨rfl, hP, hK⟩ := hv
  have C0 : cx wsX2_cut cX2_cut 2 (some .int) RX2 E p s m _ meth c := ⟨B0.exec, B0.bytes, B0.returns, hml, findClass_of_methodNamed B0.named, atoms_spec (ws := wsX2_cut) B0.pre, B0.notSynchronized, hK⟩
  have hl := lv_entry ([.ref (y0), .int x1]) (n := 2) (Nat.le_of_ble_eq_true rfl)
  rw [lg_entry_eq]
  generalize (lg_sl ([.ref (y0), .int x1]) ++ List.replicate (2 - (lg_sl ([.ref (y0), .int x1])).length) Slot.unset).toArray = ls at hl ⊢
  exact tX2_cut_0 C0 hP hl hf
abbrev rmX2_set : Room := { frames := 1, cells := 0, slots := 0, locals := 21 }
set_option maxRecDepth 20000 in
theorem iX2_set_X2 : ∀ w ∈ wsX20, w ∈ wsX2_set := by decide +kernel
set_option maxHeartbeats 4000000 in
set_option maxRecDepth 100000 in
theorem tX2_set_0 {p : Program} {l : Launch} {e : Env} {s : State} {m : MethodId} {args : Array Value} {below : List Frame} {meth : Method} {c : Code} {E : EE} {B : Nat → Nat} {A : Nat → Prop} {out : Nat → SR} (C0 : cx wsX2_set cX2_set 3 none RX2 E p s m args meth c) {k0 : Nat} {x1 : Int32} {x2 : Int32} {u : SX} {H : Heap} {locs : List Loc} {ls : Array Slot} (hk0 : k0 < 4) (hW : WX E A B u s H locs) (hl : lv_has ls 3 [(0, .ref (B (14 + k0))), (1, .int x1), (2, .int x2)]) (hf : fX2_set k0 x1 x2 u = some out) : W p l e rmX2_set s m args below meth c H locs 0 0 (MQ below (va_Qv (fun (_ : Unit) => True) (fun _ t => QX E A B (u.1, u.2.1, u.2.2.1, out, u.2.2.2.2) t.heap) A) args s 0 0 A) (F0 m 0 ls []) := by
  obtain ⟨hx, hb, hr, hml, hown, hts, hlk, hK⟩ := id C0
  unfold fX2_set at hf
  refine lv_iload_n hx hb dX2_set_0 rfl (lv_at hl 1 rfl) ?_
  refine lv_if_lt (tgt := 24) hx hb dX2_set_1 (by decide) (fun c1 => ?_) (fun c1 => ?_)
  · have hf := th hf c1
    obtain rfl := Option.some.inj hf
    exact e_muV (QH := QX E A B u) C0 hW.2.2.2 ⟨hW.1, hW.2.1, hW.2.2.1⟩ dX2_set_24
  · have hf := el hf c1
    refine lv_iload_n hx hb dX2_set_4 rfl (lv_at hl 1 rfl) ?_
    refine lv_aload_n hx hb dX2_set_5 rfl (lv_at hl 0 rfl) ?_
    refine w_get C0 (hW.1.row hk0) iX2_set_X2 0 (by decide) (by decide +kernel) rfl dX2_set_6 ?_
    refine w_len C0 (hW.1.row hk0) dX2_set_9 ?_
    refine lv_icmp_ge (tgt := 24) hx hb dX2_set_10 (by decide) (fun c2 => ?_) (fun c2 => ?_)
    · have hf := th hf c2
      obtain rfl := Option.some.inj hf
      exact e_muV (QH := QX E A B u) C0 hW.2.2.2 ⟨hW.1, hW.2.1, hW.2.2.1⟩ dX2_set_24
    · have hf := el hf c2
      refine lv_aload_n hx hb dX2_set_13 rfl (lv_at hl 0 rfl) ?_
      refine w_get C0 (hW.1.row hk0) iX2_set_X2 0 (by decide) (by decide +kernel) rfl dX2_set_14 ?_
      refine lv_iload_n hx hb dX2_set_17 rfl (lv_at hl 1 rfl) ?_
      refine lv_aload_n hx hb dX2_set_18 rfl (lv_at hl 0 rfl) ?_
      refine lv_iload_n hx hb dX2_set_19 rfl (lv_at hl 2 rfl) ?_
      obtain ⟨q3, h4, hf⟩ := bd hf
      refine k_roI (run_V (rest := [.int x1, .ref (B (18 + k0))]) (n := 1) C0 (tX2_cut E (B (14 + k0)) (B (18 + k0)) h4) gX2_set_X2_cut rfl rfl (by decide +kernel) (hW.1.row hk0 0 _ rfl) rfl rfl (hW.1.row hk0) hl.1 rfl rfl (Nat.le_of_ble_eq_true rfl) dX2_set_20) ?_
      obtain ⟨h5, hf⟩ := gd hf
      refine x_dast C0 hW hk0 h5 dX2_set_23 (fun H locs hW => ?_)
      have hW : WX E A B (u.1, u.2.1, u.2.2.1, (va_up u.2.2.2.1 k0 ((u.2.2.2.1 k0).1, upd (u.2.2.2.1 k0).2 x1.toNatClampNeg q3)), u.2.2.2.2) s H locs := hW
      obtain rfl := Option.some.inj hf
      exact e_muV (QH := QX E A B (u.1, u.2.1, u.2.2.1, (va_up u.2.2.2.1 k0 ((u.2.2.2.1 k0).1, upd (u.2.2.2.1 k0).2 x1.toNatClampNeg q3)), u.2.2.2.2)) C0 hW.2.2.2 ⟨hW.1, hW.2.1, hW.2.2.1⟩ dX2_set_24
set_option maxHeartbeats 4000000 in
set_option maxRecDepth 100000 in
theorem tX2_set {l : Launch} (E : EE) (A : Nat → Prop) (B : Nat → Nat) {u : SX} {k0 : Nat} {x1 : Int32} {x2 : Int32} {out : Nat → SR} (hk0 : k0 < 4) (hI : fI (cX E B u)) (hA : AX E B u A) (hf : fX2_set k0 x1 x2 u = some out) : muV l yX2_set wsX2_set rmX2_set E [.ref (B (14 + k0)), .int x1, .int x2] A (fP E (cX E B u)) (QX E A B (u.1, u.2.1, u.2.2.1, out, u.2.2.2.2)) := by
  refine Met.ofW (cc := cX2_set) (maxL := 3) (ret := none) (by decide) rfl ?_
  intro p e s m args below meth c s₁ B0 hml hv
  obtain ⟨rfl, hP, hK⟩ := hv
  have C0 : cx wsX2_set cX2_set 3 none RX2 E p s m _ meth c := ⟨B0.exec, B0.bytes, B0.returns, hml, findClass_of_methodNamed B0.named, atoms_spec (ws := wsX2_set) B0.pre, B0.notSynchronized, hK⟩
  have hl := lv_entry ([.ref (B (14 + k0)), .int x1, .int x2]) (n := 3) (Nat.le_of_ble_eq_true rfl)
  rw [lg_entry_eq]
  generalize (lg_sl ([.ref (B (14 + k0)), .int x1, .int x2]) ++ List.replicate (3 - (lg_sl ([.ref (B (14 + k0)), .int x1, .int x2])).length) Slot.unset).toArray = ls at hl ⊢
  exact tX2_set_0 C0 hk0 ⟨hP, hI, hA, va_S.rf⟩ hl hf
abbrev rmX2_has : Room := { frames := 1, cells := 0, slots := 0, locals := 21 }
set_option maxHeartbeats 4000000 in
set_option maxRecDepth 100000 in
theorem tX2_has_3 {p : Program} {l : Launch} {e : Env} {s : State} {m : MethodId} {args : Array Value} {below : List Frame} {meth : Method} {c : Code} {E : EE} {y0 z0 : Nat} {r : SR} {out : Int32} (C0 : cx wsX2_has cX2_has 5 (some .boolean) RX2 E p s m args meth c) (hP : fP E (cR E y0 z0 r) s.heap) : ∀ (n : Nat) (x1 : Int32) (x2 : Int32) (x3 : Int32) (x4 : Int32) (ls : Array Slot), lv_has ls 5 [(0, .ref (y0)), (1, .int x1), (2, .int x2), (3, .int x3), (4, .int x4)] → fX2_has_3 n x1 x2 x3 x4 r = some out → W p l e rmX2_has s m args below meth c s.heap [] 0 0 (MQ below (vp_Si (fun r => r = out)) args s 0 0 (fun _ => False)) (F0 m 3 ls []) := by
  obtain ⟨hx, hb, hr, hml, hown, hts, hlk, hK⟩ := id C0
  intro n
  induction n with
  | zero =>
    intro x1 x2 x3 x4 ls hl hf
    cases (show none = some out from hf)
  | succ n ih =>
    intro x1 x2 x3 x4 ls hl hf
    rw [fX2_has_3] at hf
    refine lv_iload hx hb dX2_has_3 (lv_at hl 4 rfl) ?_
    refine lv_iload_n hx hb dX2_has_5 rfl (lv_at hl 3 rfl) ?_
    refine lv_icmp_ge (tgt := 29) hx hb dX2_has_6 (by decide) (fun c1 => ?_) (fun c1 => ?_)
    · have hf := th hf c1
      refine lv_iconst (v := (0 : Int32)) hx hb dX2_has_29 (by decide) ?_
      exact e_roZ C0 hf dX2_has_30
    · have hf := el hf c1
      refine lv_aload_n hx hb dX2_has_9 rfl (lv_at hl 0 rfl) ?_
      refine lv_iload_n hx hb dX2_has_10 rfl (lv_at hl 2 rfl) ?_
      refine lv_iload hx hb dX2_has_11 (lv_at hl 4 rfl) ?_
      refine lv_iadd hx hb dX2_has_13 ?_
      obtain ⟨q2, h3, hf⟩ := bd hf
      refine k_roI (run_V (rest := []) (n := 1) C0 (tX2_at E y0 z0 h3) gX2_has_X2_at rfl rfl (by decide +kernel) (hP 0 _ rfl) rfl rfl hP hl.1 rfl rfl (Nat.le_of_ble_eq_true rfl) dX2_has_14) ?_
      refine lv_iload_n hx hb dX2_has_17 rfl (lv_at hl 1 rfl) ?_
      refine lv_icmp_ne (tgt := 23) hx hb dX2_has_18 (by decide) (fun c4 => ?_) (fun c4 => ?_)
      · have hf := el hf c4
        refine lv_iinc (v := (x4 + (1 : Int32))) (lv' := [(4, .int (x4 + (1 : Int32))), (0, .ref (y0)), (1, .int x1), (2, .int x2), (3, .int x3)]) hx hb dX2_has_23 hl (k := 4) rfl rfl (by decide) rfl (fun ls hl => ?_)
        refine lv_goto (tgt := 3) hx hb dX2_has_26 (by decide) ?_
        exact ih _ _ _ _ _ (lv_sub hl [1, 2, 3, 4, 0] rfl) hf
      · have hf := th hf c4
        refine lv_iconst (v := (1 : Int32)) hx hb dX2_has_21 (by decide) ?_
        exact e_roZ C0 hf dX2_has_22
set_option maxHeartbeats 4000000 in
set_option maxRecDepth 100000 in
theorem tX2_has_0 {p : Program} {l : Launch} {e : Env} {s : State} {m : MethodId} {args : Array Value} {below : List Frame} {meth : Method} {c : Code} {E : EE} {y0 z0 : Nat} {r : SR} {out : Int32} (C0 : cx wsX2_has cX2_has 5 (some .boolean) RX2 E p s m args meth c) (hP : fP E (cR E y0 z0 r) s.heap) {x1 : Int32} {x2 : Int32} {x3 : Int32} {ls : Array Slot} (hl : lv_has ls 5 [(0, .ref (y0)), (1, .int x1), (2, .int x2), (3, .int x3)]) (hf : fX2_has x1 x2 x3 r = some out) : W p l e rmX2_has s m args below meth c s.heap [] 0 0 (MQ below (vp_Si (fun r => r = out)) args s 0 0 (fun _ => False)) (F0 m 0 ls []) := by
  obtain ⟨hx, hb, hr, hml, hown, hts, hlk, hK⟩ := id C0
  unfold fX2_has at hf
  refine lv_iconst (v := (0 : Int32)) hx hb dX2_has_0 (by decide) ?_
  refine lv_istore (lv' := [(4, .int (0 : Int32)), (0, .ref (y0)), (1, .int x1), (2, .int x2), (3, .int x3)]) hx hb dX2_has_1 hl (by decide) rfl (fun ls hl => ?_)
  exact tX2_has_3 C0 hP fu _ _ _ _ _ (lv_sub hl [1, 2, 3, 4, 0] rfl) hf
set_option maxHeartbeats 4000000 in
set_option maxRecDepth 100000 in
theorem tX2_has {l : Launch} (E : EE) (y0 z0 : Nat) {r : SR} {x1 : Int32} {x2 : Int32} {x3 : Int32} {out : Int32} (hf : fX2_has x1 x2 x3 r = some out) : roI l yX2_has wsX2_has rmX2_has E [.ref (y0), .int x1, .int x2, .int x3] (fP E (cR E y0 z0 r)) out := by
  refine Met.ofW (cc := cX2_has) (maxL := 5) (ret := (some .boolean)) (by decide) rfl ?_
  intro p e s m args below meth c s₁ B0 hml hv
  obtain ⟨rfl, hP, hK⟩ := hv
  have C0 : cx wsX2_has cX2_has 5 (some .boolean) RX2 E p s m _ meth c := ⟨B0.exec, B0.bytes, B0.returns, hml, findClass_of_methodNamed B0.named, atoms_spec (ws := wsX2_has) B0.pre, B0.notSynchronized, hK⟩
  have hl := lv_entry ([.ref (y0), .int x1, .int x2, .int x3]) (n := 5) (Nat.le_of_ble_eq_true rfl)
  rw [lg_entry_eq]
  generalize (lg_sl ([.ref (y0), .int x1, .int x2, .int x3]) ++ List.replicate (5 - (lg_sl ([.ref (y0), .int x1, .int x2, .int x3])).length) Slot.unset).toArray = ls at hl ⊢
  exact tX2_has_0 C0 hP hl hf
abbrev rmX3_isDigit : Room := { frames := 0, cells := 0, slots := 0, locals := 0 }
set_option maxHeartbeats 4000000 in
set_option maxRecDepth 100000 in
theorem tX3_isDigit_20 {p : Program} {l : Launch} {e : Env} {s : State} {m : MethodId} {args : Array Value} {below : List Frame} {meth : Method} {c : Code} {E : EE} {out : Int32} (C0 : cx wsX3_isDigit cX3_isDigit 3 (some .boolean) RX3 E p s m args meth c) {ls : Array Slot} (hl : lv_has ls 3 []) (hf : fX3_isDigit_20 = some out) : W p l e rmX3_isDigit s m args below meth c s.heap [] 0 0 (MQ below (vp_Si (fun r => r = out)) args s 0 0 (fun _ => False)) (F0 m 20 ls []) := by
  obtain ⟨hx, hb, hr, hml, hown, hts, hlk, hK⟩ := id C0
  unfold fX3_isDigit_20 at hf
  refine lv_iconst (v := (0 : Int32)) hx hb dX3_isDigit_20 (by decide) ?_
  exact e_roZ C0 hf dX3_isDigit_21
set_option maxHeartbeats 4000000 in
set_option maxRecDepth 100000 in
theorem tX3_isDigit_0 {p : Program} {l : Launch} {e : Env} {s : State} {m : MethodId} {args : Array Value} {below : List Frame} {meth : Method} {c : Code} {E : EE} {out : Int32} (C0 : cx wsX3_isDigit cX3_isDigit 3 (some .boolean) RX3 E p s m args meth c) {x0 : Int32} {x1 : Int32} {x2 : Int32} {ls : Array Slot} (hl : lv_has ls 3 [(0, .int x0), (1, .int x1), (2, .int x2)]) (hf : fX3_isDigit x0 x1 x2 = some out) : W p l e rmX3_isDigit s m args below meth c s.heap [] 0 0 (MQ below (vp_Si (fun r => r = out)) args s 0 0 (fun _ => False)) (F0 m 0 ls []) := by
  obtain ⟨hx, hb, hr, hml, hown, hts, hlk, hK⟩ := id C0
  unfold fX3_isDigit at hf
  refine lv_iload_n hx hb dX3_isDigit_0 rfl (lv_at hl 0 rfl) ?_
  refine lv_bipush (v := (48 : Int32)) hx hb dX3_isDigit_1 (by decide) ?_
  refine lv_iload_n hx hb dX3_isDigit_3 rfl (lv_at hl 1 rfl) ?_
  refine lv_iadd hx hb dX3_isDigit_4 ?_
  refine lv_icmp_lt (tgt := 20) hx hb dX3_isDigit_5 (by decide) (fun c1 => ?_) (fun c1 => ?_)
  · have hf := th hf c1
    exact tX3_isDigit_20 C0 (lv_sub hl [] rfl) hf
  · have hf := el hf c1
    refine lv_iload_n hx hb dX3_isDigit_8 rfl (lv_at hl 0 rfl) ?_
    refine lv_bipush (v := (48 : Int32)) hx hb dX3_isDigit_9 (by decide) ?_
    refine lv_iload_n hx hb dX3_isDigit_11 rfl (lv_at hl 2 rfl) ?_
    refine lv_iadd hx hb dX3_isDigit_12 ?_
    refine lv_icmp_gt (tgt := 20) hx hb dX3_isDigit_13 (by decide) (fun c2 => ?_) (fun c2 => ?_)
    · have hf := th hf c2
      exact tX3_isDigit_20 C0 (lv_sub hl [] rfl) hf
    · have hf := el hf c2
      refine lv_iconst (v := (1 : Int32)) hx hb dX3_isDigit_16 (by decide) ?_
      refine lv_goto (tgt := 21) hx hb dX3_isDigit_17 (by decide) ?_
      exact e_roZ C0 hf dX3_isDigit_21
set_option maxHeartbeats 4000000 in
set_option maxRecDepth 100000 in
theorem tX3_isDigit {l : Launch} (E : EE) {x0 : Int32} {x1 : Int32} {x2 : Int32} {out : Int32} (hf : fX3_isDigit x0 x1 x2 = some out) : roI l yX3_isDigit wsX3_isDigit rmX3_isDigit E [.int x0, .int x1, .int x2] ((fun _ => True)) out := by
  refine Met.ofW (cc := cX3_isDigit) (maxL := 3) (ret := (some .boolean)) (by decide) rfl ?_
  intro p e s m args below meth c s₁ B0 hml hv
  obtain ⟨rfl, -, hK⟩ := hv
  have C0 : cx wsX3_isDigit cX3_isDigit 3 (some .boolean) RX3 E p s m _ meth c := ⟨B0.exec, B0.bytes, B0.returns, hml, findClass_of_methodNamed B0.named, atoms_spec (ws := wsX3_isDigit) B0.pre, B0.notSynchronized, hK⟩
  have hl := lv_entry ([.int x0, .int x1, .int x2]) (n := 3) (Nat.le_of_ble_eq_true rfl)
  rw [lg_entry_eq]
  generalize (lg_sl ([.int x0, .int x1, .int x2]) ++ List.replicate (3 - (lg_sl ([.int x0, .int x1, .int x2])).length) Slot.unset).toArray = ls at hl ⊢
  exact tX3_isDigit_0 C0 hl hf
abbrev rmX3_citizenGoesOnWith : Room := { frames := 1, cells := 0, slots := 0, locals := 22 }
set_option maxHeartbeats 4000000 in
set_option maxRecDepth 100000 in
theorem tX3_citizenGoesOnWith_66 {p : Program} {l : Launch} {e : Env} {s : State} {m : MethodId} {args : Array Value} {below : List Frame} {meth : Method} {c : Code} {E : EE} {out : Int32} (C0 : cx wsX3_citizenGoesOnWith cX3_citizenGoesOnWith 2 (some .boolean) RX3 E p s m args meth c) {ls : Array Slot} (hl : lv_has ls 2 []) (hf : fX3_citizenGoesOnWith_66 = some out) : W p l e rmX3_citizenGoesOnWith s m args below meth c s.heap [] 0 0 (MQ below (vp_Si (fun r => r = out)) args s 0 0 (fun _ => False)) (F0 m 66 ls []) := by
  obtain ⟨hx, hb, hr, hml, hown, hts, hlk, hK⟩ := id C0
  unfold fX3_citizenGoesOnWith_66 at hf
  refine lv_iconst (v := (1 : Int32)) hx hb dX3_citizenGoesOnWith_66 (by decide) ?_
  refine lv_goto (tgt := 71) hx hb dX3_citizenGoesOnWith_67 (by decide) ?_
  exact e_roZ C0 hf dX3_citizenGoesOnWith_71
set_option maxHeartbeats 4000000 in
set_option maxRecDepth 100000 in
theorem tX3_citizenGoesOnWith_100 {p : Program} {l : Launch} {e : Env} {s : State} {m : MethodId} {args : Array Value} {below : List Frame} {meth : Method} {c : Code} {E : EE} {out : Int32} (C0 : cx wsX3_citizenGoesOnWith cX3_citizenGoesOnWith 2 (some .boolean) RX3 E p s m args meth c) {ls : Array Slot} (hl : lv_has ls 2 []) (hf : fX3_citizenGoesOnWith_100 = some out) : W p l e rmX3_citizenGoesOnWith s m args below meth c s.heap [] 0 0 (MQ below (vp_Si (fun r => r = out)) args s 0 0 (fun _ => False)) (F0 m 100 ls []) := by
  obtain ⟨hx, hb, hr, hml, hown, hts, hlk, hK⟩ := id C0
  unfold fX3_citizenGoesOnWith_100 at hf
  refine lv_iconst (v := (1 : Int32)) hx hb dX3_citizenGoesOnWith_100 (by decide) ?_
  refine lv_goto (tgt := 105) hx hb dX3_citizenGoesOnWith_101 (by decide) ?_
  exact e_roZ C0 hf dX3_citizenGoesOnWith_105
set_option maxHeartbeats 4000000 in
set_option maxRecDepth 100000 in
theorem tX3_citizenGoesOnWith_0 {p : Program} {l : Launch} {e : Env} {s : State} {m : MethodId} {args : Array Value} {below : List Frame} {meth : Method} {c : Code} {E : EE} {out : Int32} (C0 : cx wsX3_citizenGoesOnWith cX3_citizenGoesOnWith 2 (some .boolean) RX3 E p s m args meth c) {x0 : Int32} {x1 : Int32} {ls : Array Slot} (hl : lv_has ls 2 [(0, .int x0), (1, .int x1)]) (hf : fX3_citizenGoesOnWith x0 x1 = some out) : W p l e rmX3_citizenGoesOnWith s m args below meth c s.heap [] 0 0 (MQ below (vp_Si (fun r => r = out)) args s 0 0 (fun _ => False)) (F0 m 0 ls []) := by
  obtain ⟨hx, hb, hr, hml, hown, hts, hlk, hK⟩ := id C0
  unfold fX3_citizenGoesOnWith at hf
  refine lv_iload_n hx hb dX3_citizenGoesOnWith_0 rfl (lv_at hl 1 rfl) ?_
  by_cases c1 : x1 = (0 : Int32)
  · have hf := th hf c1
    rw [c1]
    refine lv_tableIn (tgt := 36) hx hb dX3_citizenGoesOnWith_1 (by decide) (by decide) (by rfl) (by decide) ?_
    refine lv_iload_n hx hb dX3_citizenGoesOnWith_36 rfl (lv_at hl 0 rfl) ?_
    refine lv_bipush (v := (59 : Int32)) hx hb dX3_citizenGoesOnWith_37 (by decide) ?_
    refine lv_icmp_ne (tgt := 46) hx hb dX3_citizenGoesOnWith_39 (by decide) (fun c2 => ?_) (fun c2 => ?_)
    · have hf := el hf c2
      refine lv_iconst (v := (0 : Int32)) hx hb dX3_citizenGoesOnWith_46 (by decide) ?_
      exact e_roZ C0 hf dX3_citizenGoesOnWith_47
    · have hf := th hf c2
      refine lv_iconst (v := (1 : Int32)) hx hb dX3_citizenGoesOnWith_42 (by decide) ?_
      refine lv_goto (tgt := 47) hx hb dX3_citizenGoesOnWith_43 (by decide) ?_
      exact e_roZ C0 hf dX3_citizenGoesOnWith_47
  · have hf := el hf c1
    by_cases c3 : x1 = (1 : Int32)
    · have hf := th hf c3
      rw [c3]
      refine lv_tableIn (tgt := 48) hx hb dX3_citizenGoesOnWith_1 (by decide) (by decide) (by rfl) (by decide) ?_
      refine lv_iload_n hx hb dX3_citizenGoesOnWith_48 rfl (lv_at hl 0 rfl) ?_
      refine lv_bipush (v := (99 : Int32)) hx hb dX3_citizenGoesOnWith_49 (by decide) ?_
      refine lv_icmp_eq (tgt := 66) hx hb dX3_citizenGoesOnWith_51 (by decide) (fun c4 => ?_) (fun c4 => ?_)
      · have hf := th hf c4
        exact tX3_citizenGoesOnWith_66 C0 (lv_sub hl [] rfl) hf
      · have hf := el hf c4
        refine lv_iload_n hx hb dX3_citizenGoesOnWith_54 rfl (lv_at hl 0 rfl) ?_
        refine lv_bipush (v := (114 : Int32)) hx hb dX3_citizenGoesOnWith_55 (by decide) ?_
        refine lv_icmp_eq (tgt := 66) hx hb dX3_citizenGoesOnWith_57 (by decide) (fun c5 => ?_) (fun c5 => ?_)
        · have hf := th hf c5
          exact tX3_citizenGoesOnWith_66 C0 (lv_sub hl [] rfl) hf
        · have hf := el hf c5
          refine lv_iload_n hx hb dX3_citizenGoesOnWith_60 rfl (lv_at hl 0 rfl) ?_
          refine lv_bipush (v := (109 : Int32)) hx hb dX3_citizenGoesOnWith_61 (by decide) ?_
          refine lv_icmp_ne (tgt := 70) hx hb dX3_citizenGoesOnWith_63 (by decide) (fun c6 => ?_) (fun c6 => ?_)
          · have hf := el hf c6
            refine lv_iconst (v := (0 : Int32)) hx hb dX3_citizenGoesOnWith_70 (by decide) ?_
            exact e_roZ C0 hf dX3_citizenGoesOnWith_71
          · have hf := th hf c6
            exact tX3_citizenGoesOnWith_66 C0 (lv_sub hl [] rfl) hf
    · have hf := el hf c3
      by_cases c7 : x1 = (2 : Int32)
      · have hf := th hf c7
        rw [c7]
        refine lv_tableIn (tgt := 72) hx hb dX3_citizenGoesOnWith_1 (by decide) (by decide) (by rfl) (by decide) ?_
        refine lv_iload_n hx hb dX3_citizenGoesOnWith_72 rfl (lv_at hl 0 rfl) ?_
        refine lv_iconst (v := (1 : Int32)) hx hb dX3_citizenGoesOnWith_73 (by decide) ?_
        refine lv_bipush (v := (9 : Int32)) hx hb dX3_citizenGoesOnWith_74 (by decide) ?_
        obtain ⟨q8, h9, hf⟩ := bd hf
        refine k_roI (run_S (rest := []) (n := 3) (PH := fun _ => True) C0 (tX3_isDigit E h9) gX3_citizenGoesOnWith_X3_isDigit rfl rfl (by decide +kernel) trivial hl.1 rfl rfl (Nat.le_of_ble_eq_true rfl) dX3_citizenGoesOnWith_76) ?_
        exact e_roZ C0 hf dX3_citizenGoesOnWith_79
      · have hf := el hf c7
        by_cases c10 : x1 = (3 : Int32)
        · have hf := th hf c10
          rw [c10]
          refine lv_tableIn (tgt := 80) hx hb dX3_citizenGoesOnWith_1 (by decide) (by decide) (by rfl) (by decide) ?_
          refine lv_iload_n hx hb dX3_citizenGoesOnWith_80 rfl (lv_at hl 0 rfl) ?_
          refine lv_iconst (v := (0 : Int32)) hx hb dX3_citizenGoesOnWith_81 (by decide) ?_
          refine lv_bipush (v := (9 : Int32)) hx hb dX3_citizenGoesOnWith_82 (by decide) ?_
          obtain ⟨q11, h12, hf⟩ := bd hf
          refine k_roI (run_S (rest := []) (n := 3) (PH := fun _ => True) C0 (tX3_isDigit E h12) gX3_citizenGoesOnWith_X3_isDigit rfl rfl (by decide +kernel) trivial hl.1 rfl rfl (Nat.le_of_ble_eq_true rfl) dX3_citizenGoesOnWith_84) ?_
          exact e_roZ C0 hf dX3_citizenGoesOnWith_87
        · have hf := el hf c10
          by_cases c13 : x1 = (4 : Int32)
          · have hf := th hf c13
            rw [c13]
            refine lv_tableIn (tgt := 80) hx hb dX3_citizenGoesOnWith_1 (by decide) (by decide) (by rfl) (by decide) ?_
            refine lv_iload_n hx hb dX3_citizenGoesOnWith_80 rfl (lv_at hl 0 rfl) ?_
            refine lv_iconst (v := (0 : Int32)) hx hb dX3_citizenGoesOnWith_81 (by decide) ?_
            refine lv_bipush (v := (9 : Int32)) hx hb dX3_citizenGoesOnWith_82 (by decide) ?_
            obtain ⟨q14, h15, hf⟩ := bd hf
            refine k_roI (run_S (rest := []) (n := 3) (PH := fun _ => True) C0 (tX3_isDigit E h15) gX3_citizenGoesOnWith_X3_isDigit rfl rfl (by decide +kernel) trivial hl.1 rfl rfl (Nat.le_of_ble_eq_true rfl) dX3_citizenGoesOnWith_84) ?_
            exact e_roZ C0 hf dX3_citizenGoesOnWith_87
          · have hf := el hf c13
            refine lv_tableOut (tgt := 88) hx hb dX3_citizenGoesOnWith_1 (by have q0 := lv_neT (a := 0) c1 (by decide); have q1 := lv_neT (a := 1) c3 (by decide); have q2 := lv_neT (a := 2) c7 (by decide); have q3 := lv_neT (a := 3) c10 (by decide); have q4 := lv_neT (a := 4) c13 (by decide); omega) (by decide) ?_
            refine lv_iload_n hx hb dX3_citizenGoesOnWith_88 rfl (lv_at hl 0 rfl) ?_
            refine lv_bipush (v := (121 : Int32)) hx hb dX3_citizenGoesOnWith_89 (by decide) ?_
            refine lv_icmp_eq (tgt := 100) hx hb dX3_citizenGoesOnWith_91 (by decide) (fun c16 => ?_) (fun c16 => ?_)
            · have hf := th hf c16
              exact tX3_citizenGoesOnWith_100 C0 (lv_sub hl [] rfl) hf
            · have hf := el hf c16
              refine lv_iload_n hx hb dX3_citizenGoesOnWith_94 rfl (lv_at hl 0 rfl) ?_
              refine lv_bipush (v := (110 : Int32)) hx hb dX3_citizenGoesOnWith_95 (by decide) ?_
              refine lv_icmp_ne (tgt := 104) hx hb dX3_citizenGoesOnWith_97 (by decide) (fun c17 => ?_) (fun c17 => ?_)
              · have hf := el hf c17
                refine lv_iconst (v := (0 : Int32)) hx hb dX3_citizenGoesOnWith_104 (by decide) ?_
                exact e_roZ C0 hf dX3_citizenGoesOnWith_105
              · have hf := th hf c17
                exact tX3_citizenGoesOnWith_100 C0 (lv_sub hl [] rfl) hf
set_option maxHeartbeats 4000000 in
set_option maxRecDepth 100000 in
theorem tX3_citizenGoesOnWith {l : Launch} (E : EE) {x0 : Int32} {x1 : Int32} {out : Int32} (hf : fX3_citizenGoesOnWith x0 x1 = some out) : roI l yX3_citizenGoesOnWith wsX3_citizenGoesOnWith rmX3_citizenGoesOnWith E [.int x0, .int x1] ((fun _ => True)) out := by
  refine Met.ofW (cc := cX3_citizenGoesOnWith) (maxL := 2) (ret := (some .boolean)) (by decide) rfl ?_
  intro p e s m args below meth c s₁ B0 hml hv
  obtain ⟨rfl, -, hK⟩ := hv
  have C0 : cx wsX3_citizenGoesOnWith cX3_citizenGoesOnWith 2 (some .boolean) RX3 E p s m _ meth c := ⟨B0.exec, B0.bytes, B0.returns, hml, findClass_of_methodNamed B0.named, atoms_spec (ws := wsX3_citizenGoesOnWith) B0.pre, B0.notSynchronized, hK⟩
  have hl := lv_entry ([.int x0, .int x1]) (n := 2) (Nat.le_of_ble_eq_true rfl)
  rw [lg_entry_eq]
  generalize (lg_sl ([.int x0, .int x1]) ++ List.replicate (2 - (lg_sl ([.int x0, .int x1])).length) Slot.unset).toArray = ls at hl ⊢
  exact tX3_citizenGoesOnWith_0 C0 hl hf
abbrev rmX3_goesOnWith : Room := { frames := 2, cells := 0, slots := 0, locals := 43 }
set_option maxHeartbeats 4000000 in
set_option maxRecDepth 100000 in
theorem tX3_goesOnWith_79 {p : Program} {l : Launch} {e : Env} {s : State} {m : MethodId} {args : Array Value} {below : List Frame} {meth : Method} {c : Code} {E : EE} {out : Int32} (C0 : cx wsX3_goesOnWith cX3_goesOnWith 2 (some .boolean) RX3 E p s m args meth c) {ls : Array Slot} (hl : lv_has ls 2 []) (hf : fX3_goesOnWith_79 = some out) : W p l e rmX3_goesOnWith s m args below meth c s.heap [] 0 0 (MQ below (vp_Si (fun r => r = out)) args s 0 0 (fun _ => False)) (F0 m 79 ls []) := by
  obtain ⟨hx, hb, hr, hml, hown, hts, hlk, hK⟩ := id C0
  unfold fX3_goesOnWith_79 at hf
  refine lv_iconst (v := (0 : Int32)) hx hb dX3_goesOnWith_79 (by decide) ?_
  exact e_roZ C0 hf dX3_goesOnWith_80
set_option maxHeartbeats 4000000 in
set_option maxRecDepth 100000 in
theorem tX3_goesOnWith_0 {p : Program} {l : Launch} {e : Env} {s : State} {m : MethodId} {args : Array Value} {below : List Frame} {meth : Method} {c : Code} {E : EE} {out : Int32} (C0 : cx wsX3_goesOnWith cX3_goesOnWith 2 (some .boolean) RX3 E p s m args meth c) {x0 : Int32} {x1 : Int32} {ls : Array Slot} (hl : lv_has ls 2 [(0, .int x0), (1, .int x1)]) (hf : fX3_goesOnWith x0 x1 = some out) : W p l e rmX3_goesOnWith s m args below meth c s.heap [] 0 0 (MQ below (vp_Si (fun r => r = out)) args s 0 0 (fun _ => False)) (F0 m 0 ls []) := by
  obtain ⟨hx, hb, hr, hml, hown, hts, hlk, hK⟩ := id C0
  unfold fX3_goesOnWith at hf
  refine lv_iload_n hx hb dX3_goesOnWith_0 rfl (lv_at hl 1 rfl) ?_
  by_cases c1 : x1 = (0 : Int32)
  · have hf := th hf c1
    rw [c1]
    refine lv_tableIn (tgt := 28) hx hb dX3_goesOnWith_1 (by decide) (by decide) (by rfl) (by decide) ?_
    refine lv_iload_n hx hb dX3_goesOnWith_28 rfl (lv_at hl 0 rfl) ?_
    refine lv_bipush (v := (108 : Int32)) hx hb dX3_goesOnWith_29 (by decide) ?_
    refine lv_icmp_ne (tgt := 38) hx hb dX3_goesOnWith_31 (by decide) (fun c2 => ?_) (fun c2 => ?_)
    · have hf := el hf c2
      refine lv_iconst (v := (0 : Int32)) hx hb dX3_goesOnWith_38 (by decide) ?_
      exact e_roZ C0 hf dX3_goesOnWith_39
    · have hf := th hf c2
      refine lv_iconst (v := (1 : Int32)) hx hb dX3_goesOnWith_34 (by decide) ?_
      refine lv_goto (tgt := 39) hx hb dX3_goesOnWith_35 (by decide) ?_
      exact e_roZ C0 hf dX3_goesOnWith_39
  · have hf := el hf c1
    by_cases c3 : x1 = (1 : Int32)
    · have hf := th hf c3
      rw [c3]
      refine lv_tableIn (tgt := 40) hx hb dX3_goesOnWith_1 (by decide) (by decide) (by rfl) (by decide) ?_
      refine lv_iload_n hx hb dX3_goesOnWith_40 rfl (lv_at hl 0 rfl) ?_
      refine lv_iconst (v := (0 : Int32)) hx hb dX3_goesOnWith_41 (by decide) ?_
      refine lv_bipush (v := (6 : Int32)) hx hb dX3_goesOnWith_42 (by decide) ?_
      obtain ⟨q4, h5, hf⟩ := bd hf
      refine k_roI (run_S (rest := []) (n := 3) (PH := fun _ => True) C0 (tX3_isDigit E h5) gX3_goesOnWith_X3_isDigit rfl rfl (by decide +kernel) trivial hl.1 rfl rfl (Nat.le_of_ble_eq_true rfl) dX3_goesOnWith_44) ?_
      exact e_roZ C0 hf dX3_goesOnWith_47
    · have hf := el hf c3
      by_cases c6 : x1 = (2 : Int32)
      · have hf := th hf c6
        rw [c6]
        refine lv_tableIn (tgt := 48) hx hb dX3_goesOnWith_1 (by decide) (by decide) (by rfl) (by decide) ?_
        refine lv_iload_n hx hb dX3_goesOnWith_48 rfl (lv_at hl 0 rfl) ?_
        refine lv_iconst (v := (1 : Int32)) hx hb dX3_goesOnWith_49 (by decide) ?_
        refine lv_bipush (v := (9 : Int32)) hx hb dX3_goesOnWith_50 (by decide) ?_
        obtain ⟨q7, h8, hf⟩ := bd hf
        refine k_roI (run_S (rest := []) (n := 3) (PH := fun _ => True) C0 (tX3_isDigit E h8) gX3_goesOnWith_X3_isDigit rfl rfl (by decide +kernel) trivial hl.1 rfl rfl (Nat.le_of_ble_eq_true rfl) dX3_goesOnWith_52) ?_
        exact e_roZ C0 hf dX3_goesOnWith_55
      · have hf := el hf c6
        refine lv_tableOut (tgt := 56) hx hb dX3_goesOnWith_1 (by have q0 := lv_neT (a := 0) c1 (by decide); have q1 := lv_neT (a := 1) c3 (by decide); have q2 := lv_neT (a := 2) c6 (by decide); omega) (by decide) ?_
        refine lv_iload_n hx hb dX3_goesOnWith_56 rfl (lv_at hl 1 rfl) ?_
        refine lv_bipush (v := (39 : Int32)) hx hb dX3_goesOnWith_57 (by decide) ?_
        refine lv_icmp_ge (tgt := 79) hx hb dX3_goesOnWith_59 (by decide) (fun c9 => ?_) (fun c9 => ?_)
        · have hf := th hf c9
          exact tX3_goesOnWith_79 C0 (lv_sub hl [] rfl) hf
        · have hf := el hf c9
          refine lv_iload_n hx hb dX3_goesOnWith_62 rfl (lv_at hl 0 rfl) ?_
          refine lv_iload_n hx hb dX3_goesOnWith_63 rfl (lv_at hl 1 rfl) ?_
          refine lv_iconst (v := (3 : Int32)) hx hb dX3_goesOnWith_64 (by decide) ?_
          refine lv_isub hx hb dX3_goesOnWith_65 ?_
          refine lv_bipush (v := (6 : Int32)) hx hb dX3_goesOnWith_66 (by decide) ?_
          obtain ⟨h10, hf⟩ := gd hf
          refine lv_irem hx hb dX3_goesOnWith_68 h10 ?_
          obtain ⟨q11, h12, hf⟩ := bd hf
          refine k_roI (run_S (rest := []) (n := 2) (PH := fun _ => True) C0 (tX3_citizenGoesOnWith E h12) gX3_goesOnWith_X3_citizenGoesOnWith rfl rfl (by decide +kernel) trivial hl.1 rfl rfl (Nat.le_of_ble_eq_true rfl) dX3_goesOnWith_69) ?_
          refine lv_if_eq (tgt := 79) hx hb dX3_goesOnWith_72 (by decide) (fun c13 => ?_) (fun c13 => ?_)
          · have hf := th hf c13
            exact tX3_goesOnWith_79 C0 (lv_sub hl [] rfl) hf
          · have hf := el hf c13
            refine lv_iconst (v := (1 : Int32)) hx hb dX3_goesOnWith_75 (by decide) ?_
            refine lv_goto (tgt := 80) hx hb dX3_goesOnWith_76 (by decide) ?_
            exact e_roZ C0 hf dX3_goesOnWith_80
set_option maxHeartbeats 4000000 in
set_option maxRecDepth 100000 in
theorem tX3_goesOnWith {l : Launch} (E : EE) {x0 : Int32} {x1 : Int32} {out : Int32} (hf : fX3_goesOnWith x0 x1 = some out) : roI l yX3_goesOnWith wsX3_goesOnWith rmX3_goesOnWith E [.int x0, .int x1] ((fun _ => True)) out := by
  refine Met.ofW (cc := cX3_goesOnWith) (maxL := 2) (ret := (some .boolean)) (by decide) rfl ?_
  intro p e s m args below meth c s₁ B0 hml hv
  obtain ⟨rfl, -, hK⟩ := hv
  have C0 : cx wsX3_goesOnWith cX3_goesOnWith 2 (some .boolean) RX3 E p s m _ meth c := ⟨B0.exec, B0.bytes, B0.returns, hml, findClass_of_methodNamed B0.named, atoms_spec (ws := wsX3_goesOnWith) B0.pre, B0.notSynchronized, hK⟩
  have hl := lv_entry ([.int x0, .int x1]) (n := 2) (Nat.le_of_ble_eq_true rfl)
  rw [lg_entry_eq]
  generalize (lg_sl ([.int x0, .int x1]) ++ List.replicate (2 - (lg_sl ([.int x0, .int x1])).length) Slot.unset).toArray = ls at hl ⊢
  exact tX3_goesOnWith_0 C0 hl hf
abbrev rmX3_firstFault : Room := { frames := 3, cells := 0, slots := 0, locals := 64 }
set_option maxHeartbeats 4000000 in
set_option maxRecDepth 100000 in
theorem tX3_firstFault_49 {p : Program} {l : Launch} {e : Env} {s : State} {m : MethodId} {args : Array Value} {below : List Frame} {meth : Method} {c : Code} {E : EE} {y0 z0 : Nat} {r : SR} {out : Int32} (C0 : cx wsX3_firstFault cX3_firstFault 4 (some .int) RX3 E p s m args meth c) (hP : fP E (cR E y0 z0 r) s.heap) {x2 : Int32} {xs0 : Int32} {ls : Array Slot} (hl : lv_has ls 4 [(2, .int x2)]) (hf : fX3_firstFault_49 x2 xs0 r = some out) : W p l e rmX3_firstFault s m args below meth c s.heap [] 0 0 (MQ below (vp_Si (fun r => r = out)) args s 0 0 (fun _ => False)) (F0 m 49 ls [.int xs0]) := by
  obtain ⟨hx, hb, hr, hml, hown, hts, hlk, hK⟩ := id C0
  unfold fX3_firstFault_49 at hf
  refine lv_istore_n (lv' := [(3, .int xs0), (2, .int x2)]) hx hb dX3_firstFault_49 rfl hl (by decide) rfl (fun ls hl => ?_)
  refine lv_iload_n hx hb dX3_firstFault_50 rfl (lv_at hl 0 rfl) ?_
  refine lv_if_eq (tgt := 59) hx hb dX3_firstFault_51 (by decide) (fun c1 => ?_) (fun c1 => ?_)
  · have hf := th hf c1
    refine lv_iload_n hx hb dX3_firstFault_59 rfl (lv_at hl 1 rfl) ?_
    exact e_roI C0 hf dX3_firstFault_60
  · have hf := el hf c1
    refine lv_bipush (v := (-9 : Int32)) hx hb dX3_firstFault_54 (by decide) ?_
    refine lv_goto (tgt := 60) hx hb dX3_firstFault_56 (by decide) ?_
    exact e_roI C0 hf dX3_firstFault_60
set_option maxHeartbeats 4000000 in
set_option maxRecDepth 100000 in
theorem tX3_firstFault_48 {p : Program} {l : Launch} {e : Env} {s : State} {m : MethodId} {args : Array Value} {below : List Frame} {meth : Method} {c : Code} {E : EE} {y0 z0 : Nat} {r : SR} {out : Int32} (C0 : cx wsX3_firstFault cX3_firstFault 4 (some .int) RX3 E p s m args meth c) (hP : fP E (cR E y0 z0 r) s.heap) {x2 : Int32} {ls : Array Slot} (hl : lv_has ls 4 [(2, .int x2)]) (hf : fX3_firstFault_48 x2 r = some out) : W p l e rmX3_firstFault s m args below meth c s.heap [] 0 0 (MQ below (vp_Si (fun r => r = out)) args s 0 0 (fun _ => False)) (F0 m 48 ls []) := by
  obtain ⟨hx, hb, hr, hml, hown, hts, hlk, hK⟩ := id C0
  unfold fX3_firstFault_48 at hf
  refine lv_iconst (v := (0 : Int32)) hx hb dX3_firstFault_48 (by decide) ?_
  exact tX3_firstFault_49 C0 hP (lv_sub hl [0] rfl) hf
set_option maxHeartbeats 4000000 in
set_option maxRecDepth 100000 in
theorem tX3_firstFault_2 {p : Program} {l : Launch} {e : Env} {s : State} {m : MethodId} {args : Array Value} {below : List Frame} {meth : Method} {c : Code} {E : EE} {y0 z0 : Nat} {r : SR} {out : Int32} (C0 : cx wsX3_firstFault cX3_firstFault 4 (some .int) RX3 E p s m args meth c) (hP : fP E (cR E y0 z0 r) s.heap) : ∀ (n : Nat) (x1 : Int32) (x2 : Int32) (x3 : Int32) (ls : Array Slot), lv_has ls 4 [(0, .ref (y0)), (1, .int x1), (2, .int x2), (3, .int x3)] → fX3_firstFault_2 n x1 x2 x3 r = some out → W p l e rmX3_firstFault s m args below meth c s.heap [] 0 0 (MQ below (vp_Si (fun r => r = out)) args s 0 0 (fun _ => False)) (F0 m 2 ls []) := by
  obtain ⟨hx, hb, hr, hml, hown, hts, hlk, hK⟩ := id C0
  intro n
  induction n with
  | zero =>
    intro x1 x2 x3 ls hl hf
    cases (show none = some out from hf)
  | succ n ih =>
    intro x1 x2 x3 ls hl hf
    rw [fX3_firstFault_2] at hf
    refine lv_iload_n hx hb dX3_firstFault_2 rfl (lv_at hl 3 rfl) ?_
    refine lv_iload_n hx hb dX3_firstFault_3 rfl (lv_at hl 2 rfl) ?_
    refine lv_icmp_ge (tgt := 29) hx hb dX3_firstFault_4 (by decide) (fun c1 => ?_) (fun c1 => ?_)
    · have hf := th hf c1
      refine lv_iload_n hx hb dX3_firstFault_29 rfl (lv_at hl 2 rfl) ?_
      refine lv_bipush (v := (9 : Int32)) hx hb dX3_firstFault_30 (by decide) ?_
      refine lv_icmp_lt (tgt := 48) hx hb dX3_firstFault_32 (by decide) (fun c2 => ?_) (fun c2 => ?_)
      · have hf := th hf c2
        exact tX3_firstFault_48 C0 hP (lv_sub hl [2] rfl) hf
      · have hf := el hf c2
        refine lv_iload_n hx hb dX3_firstFault_35 rfl (lv_at hl 2 rfl) ?_
        refine lv_iconst (v := (3 : Int32)) hx hb dX3_firstFault_36 (by decide) ?_
        refine lv_isub hx hb dX3_firstFault_37 ?_
        refine lv_bipush (v := (6 : Int32)) hx hb dX3_firstFault_38 (by decide) ?_
        obtain ⟨h3, hf⟩ := gd hf
        refine lv_irem hx hb dX3_firstFault_40 h3 ?_
        refine lv_if_ne (tgt := 48) hx hb dX3_firstFault_41 (by decide) (fun c4 => ?_) (fun c4 => ?_)
        · have hf := el hf c4
          exact tX3_firstFault_48 C0 hP (lv_sub hl [2] rfl) hf
        · have hf := th hf c4
          refine lv_iconst (v := (1 : Int32)) hx hb dX3_firstFault_44 (by decide) ?_
          refine lv_goto (tgt := 49) hx hb dX3_firstFault_45 (by decide) ?_
          exact tX3_firstFault_49 C0 hP (lv_sub hl [2] rfl) hf
    · have hf := el hf c1
      refine lv_aload_n hx hb dX3_firstFault_7 rfl (lv_at hl 0 rfl) ?_
      refine lv_iload_n hx hb dX3_firstFault_8 rfl (lv_at hl 1 rfl) ?_
      refine lv_iload_n hx hb dX3_firstFault_9 rfl (lv_at hl 3 rfl) ?_
      refine lv_iadd hx hb dX3_firstFault_10 ?_
      obtain ⟨q5, h6, hf⟩ := bd hf
      refine k_roI (run_VN (rest := []) (n := 1) C0 (tX2_at E y0 z0 h6) gX3_firstFault_X2_at_n9 rfl (by decide +kernel) (by decide +kernel) (by decide +kernel) (by decide +kernel) rfl (by decide +kernel) (hP 0 _ rfl) rfl rfl hP hl.1 rfl rfl (Nat.le_of_ble_eq_true rfl) dX3_firstFault_11) ?_
      refine lv_iload_n hx hb dX3_firstFault_14 rfl (lv_at hl 3 rfl) ?_
      obtain ⟨q7, h8, hf⟩ := bd hf
      refine k_roI (run_S (rest := []) (n := 2) (PH := fun _ => True) C0 (tX3_goesOnWith E h8) gX3_firstFault_X3_goesOnWith rfl rfl (by decide +kernel) trivial hl.1 rfl rfl (Nat.le_of_ble_eq_true rfl) dX3_firstFault_15) ?_
      refine lv_if_ne (tgt := 23) hx hb dX3_firstFault_18 (by decide) (fun c9 => ?_) (fun c9 => ?_)
      · have hf := el hf c9
        refine lv_iinc (v := (x3 + (1 : Int32))) (lv' := [(3, .int (x3 + (1 : Int32))), (0, .ref (y0)), (1, .int x1), (2, .int x2)]) hx hb dX3_firstFault_23 hl (k := 3) rfl rfl (by decide) rfl (fun ls hl => ?_)
        refine lv_goto (tgt := 2) hx hb dX3_firstFault_26 (by decide) ?_
        exact ih _ _ _ _ (lv_sub hl [1, 2, 3, 0] rfl) hf
      · have hf := th hf c9
        refine lv_iload_n hx hb dX3_firstFault_21 rfl (lv_at hl 3 rfl) ?_
        exact e_roI C0 hf dX3_firstFault_22
set_option maxHeartbeats 4000000 in
set_option maxRecDepth 100000 in
theorem tX3_firstFault_0 {p : Program} {l : Launch} {e : Env} {s : State} {m : MethodId} {args : Array Value} {below : List Frame} {meth : Method} {c : Code} {E : EE} {y0 z0 : Nat} {r : SR} {out : Int32} (C0 : cx wsX3_firstFault cX3_firstFault 4 (some .int) RX3 E p s m args meth c) (hP : fP E (cR E y0 z0 r) s.heap) {x1 : Int32} {x2 : Int32} {ls : Array Slot} (hl : lv_has ls 4 [(0, .ref (y0)), (1, .int x1), (2, .int x2)]) (hf : fX3_firstFault x1 x2 r = some out) : W p l e rmX3_firstFault s m args below meth c s.heap [] 0 0 (MQ below (vp_Si (fun r => r = out)) args s 0 0 (fun _ => False)) (F0 m 0 ls []) := by
  obtain ⟨hx, hb, hr, hml, hown, hts, hlk, hK⟩ := id C0
  unfold fX3_firstFault at hf
  refine lv_iconst (v := (0 : Int32)) hx hb dX3_firstFault_0 (by decide) ?_
  refine lv_istore_n (lv' := [(3, .int (0 : Int32)), (0, .ref (y0)), (1, .int x1), (2, .int x2)]) hx hb dX3_firstFault_1 rfl hl (by decide) rfl (fun ls hl => ?_)
  exact tX3_firstFault_2 C0 hP fu _ _ _ _ (lv_sub hl [1, 2, 3, 0] rfl) hf
set_option maxHeartbeats 4000000 in
set_option maxRecDepth 100000 in
theorem tX3_firstFault {l : Launch} (E : EE) (y0 z0 : Nat) {r : SR} {x1 : Int32} {x2 : Int32} {out : Int32} (hf : fX3_firstFault x1 x2 r = some out) : roI l yX3_firstFault wsX3_firstFault rmX3_firstFault E [.ref (y0), .int x1, .int x2] (fP E (cR E y0 z0 r)) out := by
  refine Met.ofW (cc := cX3_firstFault) (maxL := 4) (ret := (some .int)) (by decide) rfl ?_
  intro p e s m args below meth c s₁ B0 hml hv
  obtain ⟨rfl, hP, hK⟩ := hv
  have C0 : cx wsX3_firstFault cX3_firstFault 4 (some .int) RX3 E p s m _ meth c := ⟨B0.exec, B0.bytes, B0.returns, hml, findClass_of_methodNamed B0.named, atoms_spec (ws := wsX3_firstFault) B0.pre, B0.notSynchronized, hK⟩
  have hl := lv_entry ([.ref (y0), .int x1, .int x2]) (n := 4) (Nat.le_of_ble_eq_true rfl)
  rw [lg_entry_eq]
  generalize (lg_sl ([.ref (y0), .int x1, .int x2]) ++ List.replicate (4 - (lg_sl ([.ref (y0), .int x1, .int x2])).length) Slot.unset).toArray = ls at hl ⊢
  exact tX3_firstFault_0 C0 hP hl hf
abbrev rmX3_digit : Room := { frames := 0, cells := 0, slots := 0, locals := 0 }
set_option maxHeartbeats 4000000 in
set_option maxRecDepth 100000 in
theorem tX3_digit_0 {p : Program} {l : Launch} {e : Env} {s : State} {m : MethodId} {args : Array Value} {below : List Frame} {meth : Method} {c : Code} {E : EE} {out : Int32} (C0 : cx wsX3_digit cX3_digit 1 (some .int) RX3 E p s m args meth c) {x0 : Int32} {ls : Array Slot} (hl : lv_has ls 1 [(0, .int x0)]) (hf : fX3_digit x0 = some out) : W p l e rmX3_digit s m args below meth c s.heap [] 0 0 (MQ below (vp_Si (fun r => r = out)) args s 0 0 (fun _ => False)) (F0 m 0 ls []) := by
  obtain ⟨hx, hb, hr, hml, hown, hts, hlk, hK⟩ := id C0
  unfold fX3_digit at hf
  refine lv_iload_n hx hb dX3_digit_0 rfl (lv_at hl 0 rfl) ?_
  refine lv_bipush (v := (48 : Int32)) hx hb dX3_digit_1 (by decide) ?_
  refine lv_isub hx hb dX3_digit_3 ?_
  exact e_roI C0 hf dX3_digit_4
set_option maxHeartbeats 4000000 in
set_option maxRecDepth 100000 in
theorem tX3_digit {l : Launch} (E : EE) {x0 : Int32} {out : Int32} (hf : fX3_digit x0 = some out) : roI l yX3_digit wsX3_digit rmX3_digit E [.int x0] ((fun _ => True)) out := by
  refine Met.ofW (cc := cX3_digit) (maxL := 1) (ret := (some .int)) (by decide) rfl ?_
  intro p e s m args below meth c s₁ B0 hml hv
  obtain ⟨rfl, -, hK⟩ := hv
  have C0 : cx wsX3_digit cX3_digit 1 (some .int) RX3 E p s m _ meth c := ⟨B0.exec, B0.bytes, B0.returns, hml, findClass_of_methodNamed B0.named, atoms_spec (ws := wsX3_digit) B0.pre, B0.notSynchronized, hK⟩
  have hl := lv_entry ([.int x0]) (n := 1) (Nat.le_of_ble_eq_true rfl)
  rw [lg_entry_eq]
  generalize (lg_sl ([.int x0]) ++ List.replicate (1 - (lg_sl ([.int x0])).length) Slot.unset).toArray = ls at hl ⊢
  exact tX3_digit_0 C0 hl hf
abbrev rmX3_citizensIn : Room := { frames := 1, cells := 0, slots := 0, locals := 21 }
set_option maxHeartbeats 4000000 in
set_option maxRecDepth 100000 in
theorem tX3_citizensIn_0 {p : Program} {l : Launch} {e : Env} {s : State} {m : MethodId} {args : Array Value} {below : List Frame} {meth : Method} {c : Code} {E : EE} {out : Int32} (C0 : cx wsX3_citizensIn cX3_citizensIn 1 (some .int) RX3 E p s m args meth c) {x0 : Int32} {ls : Array Slot} (hl : lv_has ls 1 [(0, .int x0)]) (hf : fX3_citizensIn x0 = some out) : W p l e rmX3_citizensIn s m args below meth c s.heap [] 0 0 (MQ below (vp_Si (fun r => r = out)) args s 0 0 (fun _ => False)) (F0 m 0 ls []) := by
  obtain ⟨hx, hb, hr, hml, hown, hts, hlk, hK⟩ := id C0
  unfold fX3_citizensIn at hf
  refine lv_iload_n hx hb dX3_citizensIn_0 rfl (lv_at hl 0 rfl) ?_
  refine lv_iconst (v := (3 : Int32)) hx hb dX3_citizensIn_1 (by decide) ?_
  refine lv_isub hx hb dX3_citizensIn_2 ?_
  refine lv_bipush (v := (6 : Int32)) hx hb dX3_citizensIn_3 (by decide) ?_
  obtain ⟨h1, hf⟩ := gd hf
  refine lv_idiv hx hb dX3_citizensIn_5 h1 ?_
  refine lv_bipush (v := (6 : Int32)) hx hb dX3_citizensIn_6 (by decide) ?_
  refine k_min C0 hl.1 (by decide +kernel) (by decide +kernel) (by decide +kernel) (by decide +kernel) (Nat.le_of_ble_eq_true rfl) (Nat.le_of_ble_eq_true rfl) (Nat.le_of_ble_eq_true rfl) (Nat.le_of_ble_eq_true rfl) dX3_citizensIn_8 ?_
  exact e_roI C0 hf dX3_citizensIn_11
set_option maxHeartbeats 4000000 in
set_option maxRecDepth 100000 in
theorem tX3_citizensIn {l : Launch} (E : EE) {x0 : Int32} {out : Int32} (hf : fX3_citizensIn x0 = some out) : roI l yX3_citizensIn wsX3_citizensIn rmX3_citizensIn E [.int x0] ((fun _ => True)) out := by
  refine Met.ofW (cc := cX3_citizensIn) (maxL := 1) (ret := (some .int)) (by decide) rfl ?_
  intro p e s m args below meth c s₁ B0 hml hv
  obtain ⟨rfl, -, hK⟩ := hv
  have C0 : cx wsX3_citizensIn cX3_citizensIn 1 (some .int) RX3 E p s m _ meth c := ⟨B0.exec, B0.bytes, B0.returns, hml, findClass_of_methodNamed B0.named, atoms_spec (ws := wsX3_citizensIn) B0.pre, B0.notSynchronized, hK⟩
  have hl := lv_entry ([.int x0]) (n := 1) (Nat.le_of_ble_eq_true rfl)
  rw [lg_entry_eq]
  generalize (lg_sl ([.int x0]) ++ List.replicate (1 - (lg_sl ([.int x0])).length) Slot.unset).toArray = ls at hl ⊢
  exact tX3_citizensIn_0 C0 hl hf
abbrev rmX3_tellCitizen : Room := { frames := 1, cells := 0, slots := 0, locals := 21 }
set_option maxRecDepth 20000 in
theorem iX3_tellCitizen_X0 : ∀ w ∈ wsX00, w ∈ wsX3_tellCitizen := by decide +kernel
set_option maxHeartbeats 4000000 in
set_option maxRecDepth 100000 in
theorem tX3_tellCitizen_93 {p : Program} {l : Launch} {e : Env} {s : State} {m : MethodId} {args : Array Value} {below : List Frame} {meth : Method} {c : Code} {E : EE} {B : Nat → Nat} {A : Nat → Prop} {out : Nat → Nat → Int32} (C0 : cx wsX3_tellCitizen cX3_tellCitizen 4 none RX3 E p s m args meth c) {ks0 : Nat} {xs1 : Int32} {u : SX} {H : Heap} {locs : List Loc} {ls : Array Slot} (hks0 : ks0 < 6) (hW : WX E A B u s H locs) (hl : lv_has ls 4 []) (hf : fX3_tellCitizen_93 ks0 xs1 u = some out) : W p l e rmX3_tellCitizen s m args below meth c H locs 0 0 (MQ below (va_Qv (fun (_ : Unit) => True) (fun _ t => QX E A B (u.1, u.2.1, out, u.2.2.2) t.heap) A) args s 0 0 A) (F0 m 93 ls [.int xs1, .ref (B (8 + ks0))]) := by
  obtain ⟨hx, hb, hr, hml, hown, hts, hlk, hK⟩ := id C0
  unfold fX3_tellCitizen_93 at hf
  obtain ⟨h1, hf⟩ := gd hf
  refine x_putCZ C0 hW hks0 iX3_tellCitizen_X0 (Decidable.of_not_not h1) 3 (by decide) (by decide +kernel) (by decide +kernel) rfl (fun _ => rfl) dX3_tellCitizen_93 (fun H locs hW => ?_)
  have hW : WX E A B (u.1, u.2.1, (va_up u.2.2.1 ks0 (upd (u.2.2.1 ks0) 3 xs1)), u.2.2.2.1, u.2.2.2.2) s H locs := hW
  obtain rfl := Option.some.inj hf
  exact e_muV (QH := QX E A B (u.1, u.2.1, (va_up u.2.2.1 ks0 (upd (u.2.2.1 ks0) 3 xs1)), u.2.2.2.1, u.2.2.2.2)) C0 hW.2.2.2 ⟨hW.1, hW.2.1, hW.2.2.1⟩ dX3_tellCitizen_96
set_option maxHeartbeats 4000000 in
set_option maxRecDepth 100000 in
theorem tX3_tellCitizen_30 {p : Program} {l : Launch} {e : Env} {s : State} {m : MethodId} {args : Array Value} {below : List Frame} {meth : Method} {c : Code} {E : EE} {B : Nat → Nat} {A : Nat → Prop} {out : Nat → Nat → Int32} (C0 : cx wsX3_tellCitizen cX3_tellCitizen 4 none RX3 E p s m args meth c) {k0 : Nat} {x1 : Int32} {k2 : Nat} {ks0 : Nat} {xs1 : Int32} {u : SX} {H : Heap} {locs : List Loc} {ls : Array Slot} (hk0 : k0 < 4) (hk2 : k2 < 6) (hks0 : ks0 < 6) (hW : WX E A B u s H locs) (hl : lv_has ls 4 [(0, .ref (B (14 + k0))), (1, .int x1), (2, .ref (B (8 + k2)))]) (hf : fX3_tellCitizen_30 k0 x1 k2 ks0 xs1 u = some out) : W p l e rmX3_tellCitizen s m args below meth c H locs 0 0 (MQ below (va_Qv (fun (_ : Unit) => True) (fun _ t => QX E A B (u.1, u.2.1, out, u.2.2.2) t.heap) A) args s 0 0 A) (F0 m 30 ls [.int xs1, .ref (B (8 + ks0))]) := by
  obtain ⟨hx, hb, hr, hml, hown, hts, hlk, hK⟩ := id C0
  unfold fX3_tellCitizen_30 at hf
  refine x_putC C0 hW hks0 iX3_tellCitizen_X0 0 (by decide) (by decide +kernel) (by decide +kernel) rfl (fun _ => rfl) dX3_tellCitizen_30 (fun H locs hW => ?_)
  have hW : WX E A B (u.1, u.2.1, (va_up u.2.2.1 ks0 (upd (u.2.2.1 ks0) 0 xs1)), u.2.2.2.1, u.2.2.2.2) s H locs := hW
  refine lv_aload_n hx hb dX3_tellCitizen_33 rfl (lv_at hl 2 rfl) ?_
  refine lv_aload_n hx hb dX3_tellCitizen_34 rfl (lv_at hl 0 rfl) ?_
  refine lv_iload_n hx hb dX3_tellCitizen_35 rfl (lv_at hl 1 rfl) ?_
  refine lv_iconst (v := (2 : Int32)) hx hb dX3_tellCitizen_36 (by decide) ?_
  refine lv_iadd hx hb dX3_tellCitizen_37 ?_
  obtain ⟨q1, h2, hf⟩ := bd hf
  refine k_roI (run_VN (rest := [.ref (B (8 + k2))]) (n := 1) C0 (tX2_at E (B (14 + k0)) (B (18 + k0)) h2) gX3_tellCitizen_X2_at_n9 rfl (by decide +kernel) (by decide +kernel) (by decide +kernel) (by decide +kernel) rfl (by decide +kernel) (hW.1.row hk0 0 _ rfl) rfl rfl (hW.1.row hk0) hl.1 rfl rfl (Nat.le_of_ble_eq_true rfl) dX3_tellCitizen_38) ?_
  obtain ⟨q3, h4, hf⟩ := bd hf
  refine k_roI (run_S (rest := [.ref (B (8 + k2))]) (n := 1) (PH := fun _ => True) C0 (tX3_digit E h4) gX3_tellCitizen_X3_digit rfl rfl (by decide +kernel) trivial hl.1 rfl rfl (Nat.le_of_ble_eq_true rfl) dX3_tellCitizen_41) ?_
  refine x_putC C0 hW hk2 iX3_tellCitizen_X0 1 (by decide) (by decide +kernel) (by decide +kernel) rfl (fun _ => rfl) dX3_tellCitizen_44 (fun H locs hW => ?_)
  have hW : WX E A B (u.1, u.2.1, (va_up (va_up u.2.2.1 ks0 (upd (u.2.2.1 ks0) 0 xs1)) k2 (upd ((va_up u.2.2.1 ks0 (upd (u.2.2.1 ks0) 0 xs1)) k2) 1 q3)), u.2.2.2.1, u.2.2.2.2) s H locs := hW
  refine lv_aload_n hx hb dX3_tellCitizen_47 rfl (lv_at hl 2 rfl) ?_
  refine lv_bipush (v := (10 : Int32)) hx hb dX3_tellCitizen_48 (by decide) ?_
  refine lv_aload_n hx hb dX3_tellCitizen_50 rfl (lv_at hl 0 rfl) ?_
  refine lv_iload_n hx hb dX3_tellCitizen_51 rfl (lv_at hl 1 rfl) ?_
  refine lv_iconst (v := (3 : Int32)) hx hb dX3_tellCitizen_52 (by decide) ?_
  refine lv_iadd hx hb dX3_tellCitizen_53 ?_
  obtain ⟨q5, h6, hf⟩ := bd hf
  refine k_roI (run_VN (rest := [.int (10 : Int32), .ref (B (8 + k2))]) (n := 1) C0 (tX2_at E (B (14 + k0)) (B (18 + k0)) h6) gX3_tellCitizen_X2_at_n9 rfl (by decide +kernel) (by decide +kernel) (by decide +kernel) (by decide +kernel) rfl (by decide +kernel) (hW.1.row hk0 0 _ rfl) rfl rfl (hW.1.row hk0) hl.1 rfl rfl (Nat.le_of_ble_eq_true rfl) dX3_tellCitizen_54) ?_
  obtain ⟨q7, h8, hf⟩ := bd hf
  refine k_roI (run_S (rest := [.int (10 : Int32), .ref (B (8 + k2))]) (n := 1) (PH := fun _ => True) C0 (tX3_digit E h8) gX3_tellCitizen_X3_digit rfl rfl (by decide +kernel) trivial hl.1 rfl rfl (Nat.le_of_ble_eq_true rfl) dX3_tellCitizen_57) ?_
  refine lv_imul hx hb dX3_tellCitizen_60 ?_
  refine lv_aload_n hx hb dX3_tellCitizen_61 rfl (lv_at hl 0 rfl) ?_
  refine lv_iload_n hx hb dX3_tellCitizen_62 rfl (lv_at hl 1 rfl) ?_
  refine lv_iconst (v := (4 : Int32)) hx hb dX3_tellCitizen_63 (by decide) ?_
  refine lv_iadd hx hb dX3_tellCitizen_64 ?_
  obtain ⟨q9, h10, hf⟩ := bd hf
  refine k_roI (run_VN (rest := [.int ((10 : Int32) * q7), .ref (B (8 + k2))]) (n := 1) C0 (tX2_at E (B (14 + k0)) (B (18 + k0)) h10) gX3_tellCitizen_X2_at_n9 rfl (by decide +kernel) (by decide +kernel) (by decide +kernel) (by decide +kernel) rfl (by decide +kernel) (hW.1.row hk0 0 _ rfl) rfl rfl (hW.1.row hk0) hl.1 rfl rfl (Nat.le_of_ble_eq_true rfl) dX3_tellCitizen_65) ?_
  obtain ⟨q11, h12, hf⟩ := bd hf
  refine k_roI (run_S (rest := [.int ((10 : Int32) * q7), .ref (B (8 + k2))]) (n := 1) (PH := fun _ => True) C0 (tX3_digit E h12) gX3_tellCitizen_X3_digit rfl rfl (by decide +kernel) trivial hl.1 rfl rfl (Nat.le_of_ble_eq_true rfl) dX3_tellCitizen_68) ?_
  refine lv_iadd hx hb dX3_tellCitizen_71 ?_
  refine x_putC C0 hW hk2 iX3_tellCitizen_X0 2 (by decide) (by decide +kernel) (by decide +kernel) rfl (fun _ => rfl) dX3_tellCitizen_72 (fun H locs hW => ?_)
  have hW : WX E A B (u.1, u.2.1, (va_up (va_up (va_up u.2.2.1 ks0 (upd (u.2.2.1 ks0) 0 xs1)) k2 (upd ((va_up u.2.2.1 ks0 (upd (u.2.2.1 ks0) 0 xs1)) k2) 1 q3)) k2 (upd ((va_up (va_up u.2.2.1 ks0 (upd (u.2.2.1 ks0) 0 xs1)) k2 (upd ((va_up u.2.2.1 ks0 (upd (u.2.2.1 ks0) 0 xs1)) k2) 1 q3)) k2) 2 (((10 : Int32) * q7) + q11))), u.2.2.2.1, u.2.2.2.2) s H locs := hW
  refine lv_aload_n hx hb dX3_tellCitizen_75 rfl (lv_at hl 2 rfl) ?_
  refine lv_aload_n hx hb dX3_tellCitizen_76 rfl (lv_at hl 0 rfl) ?_
  refine lv_iload_n hx hb dX3_tellCitizen_77 rfl (lv_at hl 1 rfl) ?_
  refine lv_iconst (v := (5 : Int32)) hx hb dX3_tellCitizen_78 (by decide) ?_
  refine lv_iadd hx hb dX3_tellCitizen_79 ?_
  obtain ⟨q13, h14, hf⟩ := bd hf
  refine k_roI (run_VN (rest := [.ref (B (8 + k2))]) (n := 1) C0 (tX2_at E (B (14 + k0)) (B (18 + k0)) h14) gX3_tellCitizen_X2_at_n9 rfl (by decide +kernel) (by decide +kernel) (by decide +kernel) (by decide +kernel) rfl (by decide +kernel) (hW.1.row hk0 0 _ rfl) rfl rfl (hW.1.row hk0) hl.1 rfl rfl (Nat.le_of_ble_eq_true rfl) dX3_tellCitizen_80) ?_
  refine lv_bipush (v := (121 : Int32)) hx hb dX3_tellCitizen_83 (by decide) ?_
  refine lv_icmp_ne (tgt := 92) hx hb dX3_tellCitizen_85 (by decide) (fun c15 => ?_) (fun c15 => ?_)
  · have hf := el hf c15
    refine lv_iconst (v := (0 : Int32)) hx hb dX3_tellCitizen_92 (by decide) ?_
    exact tX3_tellCitizen_93 (u := (u.1, u.2.1, (va_up (va_up (va_up u.2.2.1 ks0 (upd (u.2.2.1 ks0) 0 xs1)) k2 (upd ((va_up u.2.2.1 ks0 (upd (u.2.2.1 ks0) 0 xs1)) k2) 1 q3)) k2 (upd ((va_up (va_up u.2.2.1 ks0 (upd (u.2.2.1 ks0) 0 xs1)) k2 (upd ((va_up u.2.2.1 ks0 (upd (u.2.2.1 ks0) 0 xs1)) k2) 1 q3)) k2) 2 (((10 : Int32) * q7) + q11))), u.2.2.2.1, u.2.2.2.2)) C0 hk2 hW (lv_sub hl [] rfl) hf
  · have hf := th hf c15
    refine lv_iconst (v := (1 : Int32)) hx hb dX3_tellCitizen_88 (by decide) ?_
    refine lv_goto (tgt := 93) hx hb dX3_tellCitizen_89 (by decide) ?_
    exact tX3_tellCitizen_93 (u := (u.1, u.2.1, (va_up (va_up (va_up u.2.2.1 ks0 (upd (u.2.2.1 ks0) 0 xs1)) k2 (upd ((va_up u.2.2.1 ks0 (upd (u.2.2.1 ks0) 0 xs1)) k2) 1 q3)) k2 (upd ((va_up (va_up u.2.2.1 ks0 (upd (u.2.2.1 ks0) 0 xs1)) k2 (upd ((va_up u.2.2.1 ks0 (upd (u.2.2.1 ks0) 0 xs1)) k2) 1 q3)) k2) 2 (((10 : Int32) * q7) + q11))), u.2.2.2.1, u.2.2.2.2)) C0 hk2 hW (lv_sub hl [] rfl) hf
set_option maxHeartbeats 4000000 in
set_option maxRecDepth 100000 in
theorem tX3_tellCitizen_0 {p : Program} {l : Launch} {e : Env} {s : State} {m : MethodId} {args : Array Value} {below : List Frame} {meth : Method} {c : Code} {E : EE} {B : Nat → Nat} {A : Nat → Prop} {out : Nat → Nat → Int32} (C0 : cx wsX3_tellCitizen cX3_tellCitizen 4 none RX3 E p s m args meth c) {k0 : Nat} {x1 : Int32} {k2 : Nat} {u : SX} {H : Heap} {locs : List Loc} {ls : Array Slot} (hk0 : k0 < 4) (hk2 : k2 < 6) (hW : WX E A B u s H locs) (hl : lv_has ls 4 [(0, .ref (B (14 + k0))), (1, .int x1), (2, .ref (B (8 + k2)))]) (hf : fX3_tellCitizen k0 x1 k2 u = some out) : W p l e rmX3_tellCitizen s m args below meth c H locs 0 0 (MQ below (va_Qv (fun (_ : Unit) => True) (fun _ t => QX E A B (u.1, u.2.1, out, u.2.2.2) t.heap) A) args s 0 0 A) (F0 m 0 ls []) := by
  obtain ⟨hx, hb, hr, hml, hown, hts, hlk, hK⟩ := id C0
  unfold fX3_tellCitizen at hf
  refine lv_aload_n hx hb dX3_tellCitizen_0 rfl (lv_at hl 0 rfl) ?_
  refine lv_iload_n hx hb dX3_tellCitizen_1 rfl (lv_at hl 1 rfl) ?_
  refine lv_iconst (v := (1 : Int32)) hx hb dX3_tellCitizen_2 (by decide) ?_
  refine lv_iadd hx hb dX3_tellCitizen_3 ?_
  obtain ⟨q1, h2, hf⟩ := bd hf
  refine k_roI (run_VN (rest := []) (n := 1) C0 (tX2_at E (B (14 + k0)) (B (18 + k0)) h2) gX3_tellCitizen_X2_at_n9 rfl (by decide +kernel) (by decide +kernel) (by decide +kernel) (by decide +kernel) rfl (by decide +kernel) (hW.1.row hk0 0 _ rfl) rfl rfl (hW.1.row hk0) hl.1 rfl rfl (Nat.le_of_ble_eq_true rfl) dX3_tellCitizen_4) ?_
  refine lv_istore_n (lv' := [(3, .int q1), (0, .ref (B (14 + k0))), (1, .int x1), (2, .ref (B (8 + k2)))]) hx hb dX3_tellCitizen_7 rfl hl (by decide) rfl (fun ls hl => ?_)
  refine lv_aload_n hx hb dX3_tellCitizen_8 rfl (lv_at hl 3 rfl) ?_
  refine lv_iload_n hx hb dX3_tellCitizen_9 rfl (lv_at hl 0 rfl) ?_
  refine lv_bipush (v := (109 : Int32)) hx hb dX3_tellCitizen_10 (by decide) ?_
  refine lv_icmp_ne (tgt := 19) hx hb dX3_tellCitizen_12 (by decide) (fun c3 => ?_) (fun c3 => ?_)
  · have hf := el hf c3
    refine lv_iload_n hx hb dX3_tellCitizen_19 rfl (lv_at hl 0 rfl) ?_
    refine lv_bipush (v := (114 : Int32)) hx hb dX3_tellCitizen_20 (by decide) ?_
    refine lv_icmp_ne (tgt := 29) hx hb dX3_tellCitizen_22 (by decide) (fun c4 => ?_) (fun c4 => ?_)
    · have hf := el hf c4
      refine lv_iconst (v := (0 : Int32)) hx hb dX3_tellCitizen_29 (by decide) ?_
      exact tX3_tellCitizen_30 (u := u) C0 hk0 hk2 hk2 hW (lv_sub hl [1, 2, 3] rfl) hf
    · have hf := th hf c4
      refine lv_iconst (v := (1 : Int32)) hx hb dX3_tellCitizen_25 (by decide) ?_
      refine lv_goto (tgt := 30) hx hb dX3_tellCitizen_26 (by decide) ?_
      exact tX3_tellCitizen_30 (u := u) C0 hk0 hk2 hk2 hW (lv_sub hl [1, 2, 3] rfl) hf
  · have hf := th hf c3
    refine lv_iconst (v := (2 : Int32)) hx hb dX3_tellCitizen_15 (by decide) ?_
    refine lv_goto (tgt := 30) hx hb dX3_tellCitizen_16 (by decide) ?_
    exact tX3_tellCitizen_30 (u := u) C0 hk0 hk2 hk2 hW (lv_sub hl [1, 2, 3] rfl) hf
set_option maxHeartbeats 4000000 in
set_option maxRecDepth 100000 in
theorem tX3_tellCitizen {l : Launch} (E : EE) (A : Nat → Prop) (B : Nat → Nat) {u : SX} {k0 : Nat} {x1 : Int32} {k2 : Nat} {out : Nat → Nat → Int32} (hk0 : k0 < 4) (hk2 : k2 < 6) (hI : fI (cX E B u)) (hA : AX E B u A) (hf : fX3_tellCitizen k0 x1 k2 u = some out) : muV l yX3_tellCitizen wsX3_tellCitizen rmX3_tellCitizen E [.ref (B (14 + k0)), .int x1, .ref (B (8 + k2))] A (fP E (cX E B u)) (QX E A B (u.1, u.2.1, out, u.2.2.2)) := by
  refine Met.ofW (cc := cX3_tellCitizen) (maxL := 4) (ret := none) (by decide) rfl ?_
  intro p e s m args below meth c s₁ B0 hml hv
  obtain ⟨rfl, hP, hK⟩ := hv
  have C0 : cx wsX3_tellCitizen cX3_tellCitizen 4 none RX3 E p s m _ meth c := ⟨B0.exec, B0.bytes, B0.returns, hml, findClass_of_methodNamed B0.named, atoms_spec (ws := wsX3_tellCitizen) B0.pre, B0.notSynchronized, hK⟩
  have hl := lv_entry ([.ref (B (14 + k0)), .int x1, .ref (B (8 + k2))]) (n := 4) (Nat.le_of_ble_eq_true rfl)
  rw [lg_entry_eq]
  generalize (lg_sl ([.ref (B (14 + k0)), .int x1, .ref (B (8 + k2))]) ++ List.replicate (4 - (lg_sl ([.ref (B (14 + k0)), .int x1, .ref (B (8 + k2))])).length) Slot.unset).toArray = ls at hl ⊢
  exact tX3_tellCitizen_0 C0 hk0 hk2 ⟨hP, hI, hA, va_S.rf⟩ hl hf
