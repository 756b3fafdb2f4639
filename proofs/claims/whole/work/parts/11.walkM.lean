abbrev rmJ6_bitCount_0f7a4 : Room := { frames := 0, cells := 0, slots := 0, locals := 0 }
set_option maxHeartbeats 4000000 in
set_option maxRecDepth 100000 in
theorem tJ6_bitCount_0f7a4_0 {p : Program} {l : Launch} {e : Env} {s : State} {m : MethodId} {args : Array Value} {below : List Frame} {meth : Method} {c : Code} {E : EE} {out : Int32} (C0 : cx wsJ6_bitCount_0f7a4 cJ6_bitCount_0f7a4 1 (some .int) RJ6 E p s m args meth c) {x0 : Int32} {ls : Array Slot} (hl : lv_has ls 1 [(0, .int x0)]) (hf : fJ6_bitCount_0f7a4 x0 = some out) : W p l e rmJ6_bitCount_0f7a4 s m args below meth c s.heap [] 0 0 (MQ below (vp_Si (fun r => r = out)) args s 0 0 (fun _ => False)) (F0 m 0 ls []) := by
  obtain ⟨hx, hb, hr, hml, hown, hts, hlk, hK⟩ := id C0
  unfold fJ6_bitCount_0f7a4 at hf
  refine lv_iload_n hx hb dJ6_bitCount_0f7a4_0 rfl (lv_at hl 0 rfl) ?_
  refine lv_iload_n hx hb dJ6_bitCount_0f7a4_1 rfl (lv_at hl 0 rfl) ?_
  refine lv_iconst (v := (1 : Int32)) hx hb dJ6_bitCount_0f7a4_2 (by decide) ?_
  refine lv_iushr (v := (x0.toUInt32 >>> ((1 : Int32).toUInt32 &&& Int32.toUInt32 31)).toInt32) hx hb dJ6_bitCount_0f7a4_3 rfl ?_
  refine lv_ldcw hx hb hown (hts (.constant RJ6 265 (1431655765)) (by decide +kernel)) dJ6_bitCount_0f7a4_4 ?_
  refine lv_iand hx hb dJ6_bitCount_0f7a4_7 ?_
  refine lv_isub hx hb dJ6_bitCount_0f7a4_8 ?_
  refine lv_istore_n (lv' := [(0, .int (x0 - ((x0.toUInt32 >>> ((1 : Int32).toUInt32 &&& Int32.toUInt32 31)).toInt32 &&& (1431655765 : Int32))))]) hx hb dJ6_bitCount_0f7a4_9 rfl hl (by decide) rfl (fun ls hl => ?_)
  refine lv_iload_n hx hb dJ6_bitCount_0f7a4_10 rfl (lv_at hl 0 rfl) ?_
  refine lv_ldcw hx hb hown (hts (.constant RJ6 266 (858993459)) (by decide +kernel)) dJ6_bitCount_0f7a4_11 ?_
  refine lv_iand hx hb dJ6_bitCount_0f7a4_14 ?_
  refine lv_iload_n hx hb dJ6_bitCount_0f7a4_15 rfl (lv_at hl 0 rfl) ?_
  refine lv_iconst (v := (2 : Int32)) hx hb dJ6_bitCount_0f7a4_16 (by decide) ?_
  refine lv_iushr (v := ((x0 - ((x0.toUInt32 >>> ((1 : Int32).toUInt32 &&& Int32.toUInt32 31)).toInt32 &&& (1431655765 : Int32))).toUInt32 >>> ((2 : Int32).toUInt32 &&& Int32.toUInt32 31)).toInt32) hx hb dJ6_bitCount_0f7a4_17 rfl ?_
  refine lv_ldcw hx hb hown (hts (.constant RJ6 266 (858993459)) (by decide +kernel)) dJ6_bitCount_0f7a4_18 ?_
  refine lv_iand hx hb dJ6_bitCount_0f7a4_21 ?_
  refine lv_iadd hx hb dJ6_bitCount_0f7a4_22 ?_
  refine lv_istore_n (lv' := [(0, .int (((x0 - ((x0.toUInt32 >>> ((1 : Int32).toUInt32 &&& Int32.toUInt32 31)).toInt32 &&& (1431655765 : Int32))) &&& (858993459 : Int32)) + (((x0 - ((x0.toUInt32 >>> ((1 : Int32).toUInt32 &&& Int32.toUInt32 31)).toInt32 &&& (1431655765 : Int32))).toUInt32 >>> ((2 : Int32).toUInt32 &&& Int32.toUInt32 31)).toInt32 &&& (858993459 : Int32))))]) hx hb dJ6_bitCount_0f7a4_23 rfl hl (by decide) rfl (fun ls hl => ?_)
  refine lv_iload_n hx hb dJ6_bitCount_0f7a4_24 rfl (lv_at hl 0 rfl) ?_
  refine lv_iload_n hx hb dJ6_bitCount_0f7a4_25 rfl (lv_at hl 0 rfl) ?_
  refine lv_iconst (v := (4 : Int32)) hx hb dJ6_bitCount_0f7a4_26 (by decide) ?_
  refine lv_iushr (v := ((((x0 - ((x0.toUInt32 >>> ((1 : Int32).toUInt32 &&& Int32.toUInt32 31)).toInt32 &&& (1431655765 : Int32))) &&& (858993459 : Int32)) + (((x0 - ((x0.toUInt32 >>> ((1 : Int32).toUInt32 &&& Int32.toUInt32 31)).toInt32 &&& (1431655765 : Int32))).toUInt32 >>> ((2 : Int32).toUInt32 &&& Int32.toUInt32 31)).toInt32 &&& (858993459 : Int32))).toUInt32 >>> ((4 : Int32).toUInt32 &&& Int32.toUInt32 31)).toInt32) hx hb dJ6_bitCount_0f7a4_27 rfl ?_
  refine lv_iadd hx hb dJ6_bitCount_0f7a4_28 ?_
  refine lv_ldcw hx hb hown (hts (.constant RJ6 267 (252645135)) (by decide +kernel)) dJ6_bitCount_0f7a4_29 ?_
  refine lv_iand hx hb dJ6_bitCount_0f7a4_32 ?_
  refine lv_istore_n (lv' := [(0, .int (((((x0 - ((x0.toUInt32 >>> ((1 : Int32).toUInt32 &&& Int32.toUInt32 31)).toInt32 &&& (1431655765 : Int32))) &&& (858993459 : Int32)) + (((x0 - ((x0.toUInt32 >>> ((1 : Int32).toUInt32 &&& Int32.toUInt32 31)).toInt32 &&& (1431655765 : Int32))).toUInt32 >>> ((2 : Int32).toUInt32 &&& Int32.toUInt32 31)).toInt32 &&& (858993459 : Int32))) + ((((x0 - ((x0.toUInt32 >>> ((1 : Int32).toUInt32 &&& Int32.toUInt32 31)).toInt32 &&& (1431655765 : Int32))) &&& (858993459 : Int32)) + (((x0 - ((x0.toUInt32 >>> ((1 : Int32).toUInt32 &&& Int32.toUInt32 31)).toInt32 &&& (1431655765 : Int32))).toUInt32 >>> ((2 : Int32).toUInt32 &&& Int32.toUInt32 31)).toInt32 &&& (858993459 : Int32))).toUInt32 >>> ((4 : Int32).toUInt32 &&& Int32.toUInt32 31)).toInt32) &&& (252645135 : Int32)))]) hx hb dJ6_bitCount_0f7a4_33 rfl hl (by decide) rfl (fun ls hl => ?_)
  refine lv_iload_n hx hb dJ6_bitCount_0f7a4_34 rfl (lv_at hl 0 rfl) ?_
  refine lv_iload_n hx hb dJ6_bitCount_0f7a4_35 rfl (lv_at hl 0 rfl) ?_
  refine lv_bipush (v := (8 : Int32)) hx hb dJ6_bitCount_0f7a4_36 (by decide) ?_
  refine lv_iushr (v := ((((((x0 - ((x0.toUInt32 >>> ((1 : Int32).toUInt32 &&& Int32.toUInt32 31)).toInt32 &&& (1431655765 : Int32))) &&& (858993459 : Int32)) + (((x0 - ((x0.toUInt32 >>> ((1 : Int32).toUInt32 &&& Int32.toUInt32 31)).toInt32 &&& (1431655765 : Int32))).toUInt32 >>> ((2 : Int32).toUInt32 &&& Int32.toUInt32 31)).toInt32 &&& (858993459 : Int32))) + ((((x0 - ((x0.toUInt32 >>> ((1 : Int32).toUInt32 &&& Int32.toUInt32 31)).toInt32 &&& (1431655765 : Int32))) &&& (858993459 : Int32)) + (((x0 - ((x0.toUInt32 >>> ((1 : Int32).toUInt32 &&& Int32.toUInt32 31)).toInt32 &&& (1431655765 : Int32))).toUInt32 >>> ((2 : Int32).toUInt32 &&& Int32.toUInt32 31)).toInt32 &&& (858993459 : Int32))).toUInt32 >>> ((4 : Int32).toUInt32 &&& Int32.toUInt32 31)).toInt32) &&& (252645135 : Int32)).toUInt32 >>> ((8 : Int32).toUInt32 &&& Int32.toUInt32 31)).toInt32) hx hb dJ6_bitCount_0f7a4_38 rfl ?_
  refine lv_iadd hx hb dJ6_bitCount_0f7a4_39 ?_
  refine lv_istore_n (lv' := [(0, .int ((((((x0 - ((x0.toUInt32 >>> ((1 : Int32).toUInt32 &&& Int32.toUInt32 31)).toInt32 &&& (1431655765 : Int32))) &&& (858993459 : Int32)) + (((x0 - ((x0.toUInt32 >>> ((1 : Int32).toUInt32 &&& Int32.toUInt32 31)).toInt32 &&& (1431655765 : Int32))).toUInt32 >>> ((2 : Int32).toUInt32 &&& Int32.toUInt32 31)).toInt32 &&& (858993459 : Int32))) + ((((x0 - ((x0.toUInt32 >>> ((1 : Int32).toUInt32 &&& Int32.toUInt32 31)).toInt32 &&& (1431655765 : Int32))) &&& (858993459 : Int32)) + (((x0 - ((x0.toUInt32 >>> ((1 : Int32).toUInt32 &&& Int32.toUInt32 31)).toInt32 &&& (1431655765 : Int32))).toUInt32 >>> ((2 : Int32).toUInt32 &&& Int32.toUInt32 31)).toInt32 &&& (858993459 : Int32))).toUInt32 >>> ((4 : Int32).toUInt32 &&& Int32.toUInt32 31)).toInt32) &&& (252645135 : Int32)) + ((((((x0 - ((x0.toUInt32 >>> ((1 : Int32).toUInt32 &&& Int32.toUInt32 31)).toInt32 &&& (1431655765 : Int32))) &&& (858993459 : Int32)) + (((x0 - ((x0.toUInt32 >>> ((1 : Int32).toUInt32 &&& Int32.toUInt32 31)).toInt32 &&& (1431655765 : Int32))).toUInt32 >>> ((2 : Int32).toUInt32 &&& Int32.toUInt32 31)).toInt32 &&& (858993459 : Int32))) + ((((x0 - ((x0.toUInt32 >>> ((1 : Int32).toUInt32 &&& Int32.toUInt32 31)).toInt32 &&& (1431655765 : Int32))) &&& (858993459 : Int32)) + (((x0 - ((x0.toUInt32 >>> ((1 : Int32).toUInt32 &&& Int32.toUInt32 31)).toInt32 &&& (1431655765 : Int32))).toUInt32 >>> ((2 : Int32).toUInt32 &&& Int32.toUInt32 31)).toInt32 &&& (858993459 : Int32))).toUInt32 >>> ((4 : Int32).toUInt32 &&& Int32.toUInt32 31)).toInt32) &&& (252645135 : Int32)).toUInt32 >>> ((8 : Int32).toUInt32 &&& Int32.toUInt32 31)).toInt32))]) hx hb dJ6_bitCount_0f7a4_40 rfl hl (by decide) rfl (fun ls hl => ?_)
  refine lv_iload_n hx hb dJ6_bitCount_0f7a4_41 rfl (lv_at hl 0 rfl) ?_
  refine lv_iload_n hx hb dJ6_bitCount_0f7a4_42 rfl (lv_at hl 0 rfl) ?_
  refine lv_bipush (v := (16 : Int32)) hx hb dJ6_bitCount_0f7a4_43 (by decide) ?_
  refine lv_iushr (v := (((((((x0 - ((x0.toUInt32 >>> ((1 : Int32).toUInt32 &&& Int32.toUInt32 31)).toInt32 &&& (1431655765 : Int32))) &&& (858993459 : Int32)) + (((x0 - ((x0.toUInt32 >>> ((1 : Int32).toUInt32 &&& Int32.toUInt32 31)).toInt32 &&& (1431655765 : Int32))).toUInt32 >>> ((2 : Int32).toUInt32 &&& Int32.toUInt32 31)).toInt32 &&& (858993459 : Int32))) + ((((x0 - ((x0.toUInt32 >>> ((1 : Int32).toUInt32 &&& Int32.toUInt32 31)).toInt32 &&& (1431655765 : Int32))) &&& (858993459 : Int32)) + (((x0 - ((x0.toUInt32 >>> ((1 : Int32).toUInt32 &&& Int32.toUInt32 31)).toInt32 &&& (1431655765 : Int32))).toUInt32 >>> ((2 : Int32).toUInt32 &&& Int32.toUInt32 31)).toInt32 &&& (858993459 : Int32))).toUInt32 >>> ((4 : Int32).toUInt32 &&& Int32.toUInt32 31)).toInt32) &&& (252645135 : Int32)) + ((((((x0 - ((x0.toUInt32 >>> ((1 : Int32).toUInt32 &&& Int32.toUInt32 31)).toInt32 &&& (1431655765 : Int32))) &&& (858993459 : Int32)) + (((x0 - ((x0.toUInt32 >>> ((1 : Int32).toUInt32 &&& Int32.toUInt32 31)).toInt32 &&& (1431655765 : Int32))).toUInt32 >>> ((2 : Int32).toUInt32 &&& Int32.toUInt32 31)).toInt32 &&& (858993459 : Int32))) + ((((x0 - ((x0.toUInt32 >>> ((1 : Int32).toUInt32 &&& Int32.toUInt32 31)).toInt32 &&& (1431655765 : Int32))) &&& (858993459 : Int32)) + (((x0 - ((x0.toUInt32 >>> ((1 : Int32).toUInt32 &&& Int32.toUInt32 31)).toInt32 &&& (1431655765 : Int32))).toUInt32 >>> ((2 : Int32).toUInt32 &&& Int32.toUInt32 31)).toInt32 &&& (858993459 : Int32))).toUInt32 >>> ((4 : Int32).toUInt32 &&& Int32.toUInt32 31)).toInt32) &&& (252645135 : Int32)).toUInt32 >>> ((8 : Int32).toUInt32 &&& Int32.toUInt32 31)).toInt32).toUInt32 >>> ((16 : Int32).toUInt32 &&& Int32.toUInt32 31)).toInt32) hx hb dJ6_bitCount_0f7a4_45 rfl ?_
  refine lv_iadd hx hb dJ6_bitCount_0f7a4_46 ?_
  refine lv_istore_n (lv' := [(0, .int (((((((x0 - ((x0.toUInt32 >>> ((1 : Int32).toUInt32 &&& Int32.toUInt32 31)).toInt32 &&& (1431655765 : Int32))) &&& (858993459 : Int32)) + (((x0 - ((x0.toUInt32 >>> ((1 : Int32).toUInt32 &&& Int32.toUInt32 31)).toInt32 &&& (1431655765 : Int32))).toUInt32 >>> ((2 : Int32).toUInt32 &&& Int32.toUInt32 31)).toInt32 &&& (858993459 : Int32))) + ((((x0 - ((x0.toUInt32 >>> ((1 : Int32).toUInt32 &&& Int32.toUInt32 31)).toInt32 &&& (1431655765 : Int32))) &&& (858993459 : Int32)) + (((x0 - ((x0.toUInt32 >>> ((1 : Int32).toUInt32 &&& Int32.toUInt32 31)).toInt32 &&& (1431655765 : Int32))).toUInt32 >>> ((2 : Int32).toUInt32 &&& Int32.toUInt32 31)).toInt32 &&& (858993459 : Int32))).toUInt32 >>> ((4 : Int32).toUInt32 &&& Int32.toUInt32 31)).toInt32) &&& (252645135 : Int32)) + ((((((x0 - ((x0.toUInt32 >>> ((1 : Int32).toUInt32 &&& Int32.toUInt32 31)).toInt32 &&& (1431655765 : Int32))) &&& (858993459 : Int32)) + (((x0 - ((x0.toUInt32 >>> ((1 : Int32).toUInt32 &&& Int32.toUInt32 31)).toInt32 &&& (1431655765 : Int32))).toUInt32 >>> ((2 : Int32).toUInt32 &&& Int32.toUInt32 31)).toInt32 &&& (858993459 : Int32))) + ((((x0 - ((x0.toUInt32 >>> ((1 : Int32).toUInt32 &&& Int32.toUInt32 31)).toInt32 &&& (1431655765 : Int32))) &&& (858993459 : Int32)) + (((x0 - ((x0.toUInt32 >>> ((1 : Int32).toUInt32 &&& Int32.toUInt32 31)).toInt32 &&& (1431655765 : Int32))).toUInt32 >>> ((2 : Int32).toUInt32 &&& Int32.toUInt32 31)).toInt32 &&& (858993459 : Int32))).toUInt32 >>> ((4 : Int32).toUInt32 &&& Int32.toUInt32 31)).toInt32) &&& (252645135 : Int32)).toUInt32 >>> ((8 : Int32).toUInt32 &&& Int32.toUInt32 31)).toInt32) + (((((((x0 - ((x0.toUInt32 >>> ((1 : Int32).toUInt32 &&& Int32.toUInt32 31)).toInt32 &&& (1431655765 : Int32))) &&& (858993459 : Int32)) + (((x0 - ((x0.toUInt32 >>> ((1 : Int32).toUInt32 &&& Int32.toUInt32 31)).toInt32 &&& (1431655765 : Int32))).toUInt32 >>> ((2 : Int32).toUInt32 &&& Int32.toUInt32 31)).toInt32 &&& (858993459 : Int32))) + ((((x0 - ((x0.toUInt32 >>> ((1 : Int32).toUInt32 &&& Int32.toUInt32 31)).toInt32 &&& (1431655765 : Int32))) &&& (858993459 : Int32)) + (((x0 - ((x0.toUInt32 >>> ((1 : Int32).toUInt32 &&& Int32.toUInt32 31)).toInt32 &&& (1431655765 : Int32))).toUInt32 >>> ((2 : Int32).toUInt32 &&& Int32.toUInt32 31)).toInt32 &&& (858993459 : Int32))).toUInt32 >>> ((4 : Int32).toUInt32 &&& Int32.toUInt32 31)).toInt32) &&& (252645135 : Int32)) + ((((((x0 - ((x0.toUInt32 >>> ((1 : Int32).toUInt32 &&& Int32.toUInt32 31)).toInt32 &&& (1431655765 : Int32))) &&& (858993459 : Int32)) + (((x0 - ((x0.toUInt32 >>> ((1 : Int32).toUInt32 &&& Int32.toUInt32 31)).toInt32 &&& (1431655765 : Int32))).toUInt32 >>> ((2 : Int32).toUInt32 &&& Int32.toUInt32 31)).toInt32 &&& (858993459 : Int32))) + ((((x0 - ((x0.toUInt32 >>> ((1 : Int32).toUInt32 &&& Int32.toUInt32 31)).toInt32 &&& (1431655765 : Int32))) &&& (858993459 : Int32)) + (((x0 - ((x0.toUInt32 >>> ((1 : Int32).toUInt32 &&& Int32.toUInt32 31)).toInt32 &&& (1431655765 : Int32))).toUInt32 >>> ((2 : Int32).toUInt32 &&& Int32.toUInt32 31)).toInt32 &&& (858993459 : Int32))).toUInt32 >>> ((4 : Int32).toUInt32 &&& Int32.toUInt32 31)).toInt32) &&& (252645135 : Int32)).toUInt32 >>> ((8 : Int32).toUInt32 &&& Int32.toUInt32 31)).toInt32).toUInt32 >>> ((16 : Int32).toUInt32 &&& Int32.toUInt32 31)).toInt32))]) hx hb dJ6_bitCount_0f7a4_47 rfl hl (by decide) rfl (fun ls hl => ?_)
  refine lv_iload_n hx hb dJ6_bitCount_0f7a4_48 rfl (lv_at hl 0 rfl) ?_
  refine lv_bipush (v := (63 : Int32)) hx hb dJ6_bitCount_0f7a4_49 (by decide) ?_
  refine lv_iand hx hb dJ6_bitCount_0f7a4_51 ?_
  exact e_roI C0 hf dJ6_bitCount_0f7a4_52
set_option maxHeartbeats 4000000 in
set_option maxRecDepth 100000 in
theorem tJ6_bitCount_0f7a4 {l : Launch} (E : EE) {x0 : Int32} {out : Int32} (hf : fJ6_bitCount_0f7a4 x0 = some out) : roI l yJ6_bitCount_0f7a4 wsJ6_bitCount_0f7a4 rmJ6_bitCount_0f7a4 E [.int x0] ((fun _ => True)) out := by
  refine va_MetF (cc := cJ6_bitCount_0f7a4) (maxL := 1) (ret := (some .int)) (by decide) rfl ?_
  intro p e s m args below meth c s₁ B0 hml hv
  obtain ⟨rfl, -, hK⟩ := hv
  have C0 : cx wsJ6_bitCount_0f7a4 cJ6_bitCount_0f7a4 1 (some .int) RJ6 E p s m _ meth c := ⟨B0.exec, B0.bytes, B0.returns, hml, findClass_of_methodNamed B0.named, atoms_spec (ws := wsJ6_bitCount_0f7a4) B0.pre, B0.notSynchronized, hK⟩
  have hl := lv_entry ([.int x0]) (n := 1) (Nat.le_of_ble_eq_true rfl)
  rw [lg_entry_eq]
  generalize (lg_sl ([.int x0]) ++ List.replicate (1 - (lg_sl ([.int x0])).length) Slot.unset).toArray = ls at hl ⊢
  exact tJ6_bitCount_0f7a4_0 C0 hl hf
abbrev rmX5_in : Room := { frames := 0, cells := 0, slots := 0, locals := 0 }
set_option maxHeartbeats 4000000 in
set_option maxRecDepth 100000 in
theorem tX5_in_17 {p : Program} {l : Launch} {e : Env} {s : State} {m : MethodId} {args : Array Value} {below : List Frame} {meth : Method} {c : Code} {E : EE} {out : Int32} (C0 : cx wsX5_in cX5_in 6 (some .boolean) RX5 E p s m args meth c) {ls : Array Slot} (hl : lv_has ls 6 []) (hf : fX5_in_17 = some out) : W p l e rmX5_in s m args below meth c s.heap [] 0 0 (MQ below (vp_Si (fun r => r = out)) args s 0 0 (fun _ => False)) (F0 m 17 ls []) := by
  obtain ⟨hx, hb, hr, hml, hown, hts, hlk, hK⟩ := id C0
  unfold fX5_in_17 at hf
  refine lv_iconst (v := (0 : Int32)) hx hb dX5_in_17 (by decide) ?_
  exact e_roZ C0 hf dX5_in_18
set_option maxHeartbeats 4000000 in
set_option maxRecDepth 100000 in
theorem tX5_in_0 {p : Program} {l : Launch} {e : Env} {s : State} {m : MethodId} {args : Array Value} {below : List Frame} {meth : Method} {c : Code} {E : EE} {out : Int32} (C0 : cx wsX5_in cX5_in 6 (some .boolean) RX5 E p s m args meth c) {x0 : Int64} {x2 : Int64} {x4 : Int64} {ls : Array Slot} (hl : lv_has ls 6 [(0, .long x0), (2, .long x2), (4, .long x4)]) (hf : fX5_in x0 x2 x4 = some out) : W p l e rmX5_in s m args below meth c s.heap [] 0 0 (MQ below (vp_Si (fun r => r = out)) args s 0 0 (fun _ => False)) (F0 m 0 ls []) := by
  obtain ⟨hx, hb, hr, hml, hown, hts, hlk, hK⟩ := id C0
  unfold fX5_in at hf
  refine lv_lload_n hx hb dX5_in_0 rfl (lv_at hl 0 rfl) ?_
  refine lv_lload_n hx hb dX5_in_1 rfl (lv_at hl 1 rfl) ?_
  refine W.lcmp hx hb dX5_in_2 ?_
  refine lv_if_lt (tgt := 17) hx hb dX5_in_3 (by decide) (fun c1 => ?_) (fun c1 => ?_)
  · have hf := th hf c1
    exact tX5_in_17 C0 (lv_sub hl [] rfl) hf
  · have hf := el hf c1
    refine lv_lload_n hx hb dX5_in_6 rfl (lv_at hl 0 rfl) ?_
    refine lv_lload hx hb dX5_in_7 (lv_at hl 2 rfl) ?_
    refine W.lcmp hx hb dX5_in_9 ?_
    refine lv_if_gt (tgt := 17) hx hb dX5_in_10 (by decide) (fun c2 => ?_) (fun c2 => ?_)
    · have hf := th hf c2
      exact tX5_in_17 C0 (lv_sub hl [] rfl) hf
    · have hf := el hf c2
      refine lv_iconst (v := (1 : Int32)) hx hb dX5_in_13 (by decide) ?_
      refine lv_goto (tgt := 18) hx hb dX5_in_14 (by decide) ?_
      exact e_roZ C0 hf dX5_in_18
set_option maxHeartbeats 4000000 in
set_option maxRecDepth 100000 in
theorem tX5_in {l : Launch} (E : EE) {x0 : Int64} {x2 : Int64} {x4 : Int64} {out : Int32} (hf : fX5_in x0 x2 x4 = some out) : roI l yX5_in wsX5_in rmX5_in E [.long x0, .long x2, .long x4] ((fun _ => True)) out := by
  refine Met.ofW (cc := cX5_in) (maxL := 6) (ret := (some .boolean)) (by decide) rfl ?_
  intro p e s m args below meth c s₁ B0 hml hv
  obtain ⟨rfl, -, hK⟩ := hv
  have C0 : cx wsX5_in cX5_in 6 (some .boolean) RX5 E p s m _ meth c := ⟨B0.exec, B0.bytes, B0.returns, hml, findClass_of_methodNamed B0.named, atoms_spec (ws := wsX5_in) B0.pre, B0.notSynchronized, hK⟩
  have hl := lv_entry ([.long x0, .long x2, .long x4]) (n := 6) (Nat.le_of_ble_eq_true rfl)
  rw [lg_entry_eq]
  generalize (lg_sl ([.long x0, .long x2, .long x4]) ++ List.replicate (6 - (lg_sl ([.long x0, .long x2, .long x4])).length) Slot.unset).toArray = ls at hl ⊢
  exact tX5_in_0 C0 hl hf
abbrev rmX5_lost : Room := { frames := 0, cells := 0, slots := 0, locals := 0 }
set_option maxHeartbeats 4000000 in
set_option maxRecDepth 100000 in
theorem tX5_lost_0 {p : Program} {l : Launch} {e : Env} {s : State} {m : MethodId} {args : Array Value} {below : List Frame} {meth : Method} {c : Code} {E : EE} {out : Int64} (C0 : cx wsX5_lost cX5_lost 0 (some .long) RX5 E p s m args meth c) {ls : Array Slot} (hl : lv_has ls 0 []) (hf : fX5_lost = some out) : W p l e rmX5_lost s m args below meth c s.heap [] 0 0 (MQ below (vp_Sl (fun r => r = out)) args s 0 0 (fun _ => False)) (F0 m 0 ls []) := by
  obtain ⟨hx, hb, hr, hml, hown, hts, hlk, hK⟩ := id C0
  unfold fX5_lost at hf
  refine lv_ldc2 hx hb hown (hts (.constantLong RX5 43 (-9223372036854775808)) (by decide +kernel)) dX5_lost_0 ?_
  exact e_roL C0 hf dX5_lost_3
set_option maxHeartbeats 4000000 in
set_option maxRecDepth 100000 in
theorem tX5_lost {l : Launch} (E : EE) {out : Int64} (hf : fX5_lost = some out) : roL l yX5_lost wsX5_lost rmX5_lost E [] ((fun _ => True)) out := by
  refine Met.ofW (cc := cX5_lost) (maxL := 0) (ret := (some .long)) (by decide) rfl ?_
  intro p e s m args below meth c s₁ B0 hml hv
  obtain ⟨rfl, -, hK⟩ := hv
  have C0 : cx wsX5_lost cX5_lost 0 (some .long) RX5 E p s m _ meth c := ⟨B0.exec, B0.bytes, B0.returns, hml, findClass_of_methodNamed B0.named, atoms_spec (ws := wsX5_lost) B0.pre, B0.notSynchronized, hK⟩
  have hl := lv_entry ([]) (n := 0) (Nat.le_of_ble_eq_true rfl)
  rw [lg_entry_eq]
  generalize (lg_sl ([]) ++ List.replicate (0 - (lg_sl ([])).length) Slot.unset).toArray = ls at hl ⊢
  exact tX5_lost_0 C0 hl hf
abbrev rmX5_isIn : Room := { frames := 0, cells := 0, slots := 0, locals := 0 }
set_option maxHeartbeats 4000000 in
set_option maxRecDepth 100000 in
theorem tX5_isIn_0 {p : Program} {l : Launch} {e : Env} {s : State} {m : MethodId} {args : Array Value} {below : List Frame} {meth : Method} {c : Code} {E : EE} {out : Int32} (C0 : cx wsX5_isIn cX5_isIn 2 (some .boolean) RX5 E p s m args meth c) {x0 : Int32} {x1 : Int32} {ls : Array Slot} (hl : lv_has ls 2 [(0, .int x0), (1, .int x1)]) (hf : fX5_isIn x0 x1 = some out) : W p l e rmX5_isIn s m args below meth c s.heap [] 0 0 (MQ below (vp_Si (fun r => r = out)) args s 0 0 (fun _ => False)) (F0 m 0 ls []) := by
  obtain ⟨hx, hb, hr, hml, hown, hts, hlk, hK⟩ := id C0
  unfold fX5_isIn at hf
  refine lv_iload_n hx hb dX5_isIn_0 rfl (lv_at hl 0 rfl) ?_
  refine lv_iload_n hx hb dX5_isIn_1 rfl (lv_at hl 1 rfl) ?_
  refine lv_ishr hx hb dX5_isIn_2 ?_
  refine lv_iconst (v := (1 : Int32)) hx hb dX5_isIn_3 (by decide) ?_
  refine lv_iand hx hb dX5_isIn_4 ?_
  refine lv_iconst (v := (1 : Int32)) hx hb dX5_isIn_5 (by decide) ?_
  refine lv_icmp_ne (tgt := 13) hx hb dX5_isIn_6 (by decide) (fun c1 => ?_) (fun c1 => ?_)
  · have hf := el hf c1
    refine lv_iconst (v := (0 : Int32)) hx hb dX5_isIn_13 (by decide) ?_
    exact e_roZ C0 hf dX5_isIn_14
  · have hf := th hf c1
    refine lv_iconst (v := (1 : Int32)) hx hb dX5_isIn_9 (by decide) ?_
    refine lv_goto (tgt := 14) hx hb dX5_isIn_10 (by decide) ?_
    exact e_roZ C0 hf dX5_isIn_14
set_option maxHeartbeats 4000000 in
set_option maxRecDepth 100000 in
theorem tX5_isIn {l : Launch} (E : EE) {x0 : Int32} {x1 : Int32} {out : Int32} (hf : fX5_isIn x0 x1 = some out) : roI l yX5_isIn wsX5_isIn rmX5_isIn E [.int x0, .int x1] ((fun _ => True)) out := by
  refine Met.ofW (cc := cX5_isIn) (maxL := 2) (ret := (some .boolean)) (by decide) rfl ?_
  intro p e s m args below meth c s₁ B0 hml hv
  obtain ⟨rfl, -, hK⟩ := hv
  have C0 : cx wsX5_isIn cX5_isIn 2 (some .boolean) RX5 E p s m _ meth c := ⟨B0.exec, B0.bytes, B0.returns, hml, findClass_of_methodNamed B0.named, atoms_spec (ws := wsX5_isIn) B0.pre, B0.notSynchronized, hK⟩
  have hl := lv_entry ([.int x0, .int x1]) (n := 2) (Nat.le_of_ble_eq_true rfl)
  rw [lg_entry_eq]
  generalize (lg_sl ([.int x0, .int x1]) ++ List.replicate (2 - (lg_sl ([.int x0, .int x1])).length) Slot.unset).toArray = ls at hl ⊢
  exact tX5_isIn_0 C0 hl hf
abbrev rmX5_bits : Room := { frames := 0, cells := 0, slots := 0, locals := 0 }
set_option maxHeartbeats 4000000 in
set_option maxRecDepth 100000 in
theorem tX5_bits_4 {p : Program} {l : Launch} {e : Env} {s : State} {m : MethodId} {args : Array Value} {below : List Frame} {meth : Method} {c : Code} {E : EE} {out : Int32} (C0 : cx wsX5_bits cX5_bits 3 (some .int) RX5 E p s m args meth c) : ∀ (n : Nat) (x1 : Int32) (x2 : Int32) (ls : Array Slot), lv_has ls 3 [(1, .int x1), (2, .int x2)] → fX5_bits_4 n x1 x2 = some out → W p l e rmX5_bits s m args below meth c s.heap [] 0 0 (MQ below (vp_Si (fun r => r = out)) args s 0 0 (fun _ => False)) (F0 m 4 ls []) := by
  obtain ⟨hx, hb, hr, hml, hown, hts, hlk, hK⟩ := id C0
  intro n
  induction n with
  | zero =>
    intro x1 x2 ls hl hf
    cases (show none = some out from hf)
  | succ n ih =>
    intro x1 x2 ls hl hf
    rw [fX5_bits_4] at hf
    refine lv_iload_n hx hb dX5_bits_4 rfl (lv_at hl 1 rfl) ?_
    refine lv_if_le (tgt := 21) hx hb dX5_bits_5 (by decide) (fun c1 => ?_) (fun c1 => ?_)
    · have hf := th hf c1
      refine lv_iload_n hx hb dX5_bits_21 rfl (lv_at hl 0 rfl) ?_
      exact e_roI C0 hf dX5_bits_22
    · have hf := el hf c1
      refine lv_iload_n hx hb dX5_bits_8 rfl (lv_at hl 0 rfl) ?_
      refine lv_iload_n hx hb dX5_bits_9 rfl (lv_at hl 1 rfl) ?_
      refine lv_iconst (v := (1 : Int32)) hx hb dX5_bits_10 (by decide) ?_
      refine lv_iand hx hb dX5_bits_11 ?_
      refine lv_iadd hx hb dX5_bits_12 ?_
      refine lv_istore_n (lv' := [(1, .int (x1 + (x2 &&& (1 : Int32)))), (2, .int x2)]) hx hb dX5_bits_13 rfl hl (by decide) rfl (fun ls hl => ?_)
      refine lv_iload_n hx hb dX5_bits_14 rfl (lv_at hl 1 rfl) ?_
      refine lv_iconst (v := (1 : Int32)) hx hb dX5_bits_15 (by decide) ?_
      refine lv_ishr hx hb dX5_bits_16 ?_
      refine lv_istore_n (lv' := [(2, .int (x2 >>> ((1 : Int32) &&& 31))), (1, .int (x1 + (x2 &&& (1 : Int32))))]) hx hb dX5_bits_17 rfl hl (by decide) rfl (fun ls hl => ?_)
      refine lv_goto (tgt := 4) hx hb dX5_bits_18 (by decide) ?_
      exact ih _ _ _ (lv_sub hl [1, 0] rfl) hf
set_option maxHeartbeats 4000000 in
set_option maxRecDepth 100000 in
theorem tX5_bits_0 {p : Program} {l : Launch} {e : Env} {s : State} {m : MethodId} {args : Array Value} {below : List Frame} {meth : Method} {c : Code} {E : EE} {out : Int32} (C0 : cx wsX5_bits cX5_bits 3 (some .int) RX5 E p s m args meth c) {x0 : Int32} {ls : Array Slot} (hl : lv_has ls 3 [(0, .int x0)]) (hf : fX5_bits x0 = some out) : W p l e rmX5_bits s m args below meth c s.heap [] 0 0 (MQ below (vp_Si (fun r => r = out)) args s 0 0 (fun _ => False)) (F0 m 0 ls []) := by
  obtain ⟨hx, hb, hr, hml, hown, hts, hlk, hK⟩ := id C0
  unfold fX5_bits at hf
  refine lv_iconst (v := (0 : Int32)) hx hb dX5_bits_0 (by decide) ?_
  refine lv_istore_n (lv' := [(1, .int (0 : Int32)), (0, .int x0)]) hx hb dX5_bits_1 rfl hl (by decide) rfl (fun ls hl => ?_)
  refine lv_iload_n hx hb dX5_bits_2 rfl (lv_at hl 1 rfl) ?_
  refine lv_istore_n (lv' := [(2, .int x0), (1, .int (0 : Int32)), (0, .int x0)]) hx hb dX5_bits_3 rfl hl (by decide) rfl (fun ls hl => ?_)
  exact tX5_bits_4 C0 fu _ _ _ (lv_sub hl [1, 0] rfl) hf
set_option maxHeartbeats 4000000 in
set_option maxRecDepth 100000 in
theorem tX5_bits {l : Launch} (E : EE) {x0 : Int32} {out : Int32} (hf : fX5_bits x0 = some out) : roI l yX5_bits wsX5_bits rmX5_bits E [.int x0] ((fun _ => True)) out := by
  refine Met.ofW (cc := cX5_bits) (maxL := 3) (ret := (some .int)) (by decide) rfl ?_
  intro p e s m args below meth c s₁ B0 hml hv
  obtain ⟨rfl, -, hK⟩ := hv
  have C0 : cx wsX5_bits cX5_bits 3 (some .int) RX5 E p s m _ meth c := ⟨B0.exec, B0.bytes, B0.returns, hml, findClass_of_methodNamed B0.named, atoms_spec (ws := wsX5_bits) B0.pre, B0.notSynchronized, hK⟩
  have hl := lv_entry ([.int x0]) (n := 3) (Nat.le_of_ble_eq_true rfl)
  rw [lg_entry_eq]
  generalize (lg_sl ([.int x0]) ++ List.replicate (3 - (lg_sl ([.int x0])).length) Slot.unset).toArray = ls at hl ⊢
  exact tX5_bits_0 C0 hl hf
abbrev rmX5_share : Room := { frames := 0, cells := 0, slots := 0, locals := 0 }
set_option maxHeartbeats 4000000 in
set_option maxRecDepth 100000 in
theorem tX5_share_41 {p : Program} {l : Launch} {e : Env} {s : State} {m : MethodId} {args : Array Value} {below : List Frame} {meth : Method} {c : Code} {E : EE} {out : Int64} (C0 : cx wsX5_share cX5_share 11 (some .long) RX5 E p s m args meth c) {x5 : Int64} {xs0 : Int64} {ls : Array Slot} (hl : lv_has ls 11 [(5, .long x5)]) (hf : fX5_share_41 x5 xs0 = some out) : W p l e rmX5_share s m args below meth c s.heap [] 0 0 (MQ below (vp_Sl (fun r => r = out)) args s 0 0 (fun _ => False)) (F0 m 41 ls [.long xs0]) := by
  obtain ⟨hx, hb, hr, hml, hown, hts, hlk, hK⟩ := id C0
  unfold fX5_share_41 at hf
  refine lv_lload hx hb dX5_share_41 (lv_at hl 0 rfl) ?_
  obtain ⟨h1, hf⟩ := gd hf
  refine lv_ldiv hx hb dX5_share_43 h1 ?_
  exact e_roL C0 hf dX5_share_44
set_option maxHeartbeats 4000000 in
set_option maxRecDepth 100000 in
theorem tX5_share_6 {p : Program} {l : Launch} {e : Env} {s : State} {m : MethodId} {args : Array Value} {below : List Frame} {meth : Method} {c : Code} {E : EE} {out : Int64} (C0 : cx wsX5_share cX5_share 11 (some .long) RX5 E p s m args meth c) : ∀ (n : Nat) (x0 : Int64) (x2 : Int64) (x4 : Int32) (x5 : Int64) (x7 : Int64) (ls : Array Slot), lv_has ls 11 [(0, .long x0), (2, .long x2), (4, .int x4), (5, .long x5), (7, .long x7)] → fX5_share_6 n x0 x2 x4 x5 x7 = some out → W p l e rmX5_share s m args below meth c s.heap [] 0 0 (MQ below (vp_Sl (fun r => r = out)) args s 0 0 (fun _ => False)) (F0 m 6 ls []) := by
  obtain ⟨hx, hb, hr, hml, hown, hts, hlk, hK⟩ := id C0
  intro n
  induction n with
  | zero =>
    intro x0 x2 x4 x5 x7 ls hl hf
    cases (show none = some out from hf)
  | succ n ih =>
    intro x0 x2 x4 x5 x7 ls hl hf
    rw [fX5_share_6] at hf
    refine lv_lload hx hb dX5_share_6 (lv_at hl 4 rfl) ?_
    refine lv_lconst (v := (0 : Int64)) hx hb dX5_share_8 (by decide) ?_
    refine W.lcmp hx hb dX5_share_9 ?_
    refine lv_if_eq (tgt := 31) hx hb dX5_share_10 (by decide) (fun c1 => ?_) (fun c1 => ?_)
    · have hf := th hf c1
      refine lv_iload hx hb dX5_share_31 (lv_at hl 2 rfl) ?_
      refine lv_if_ne (tgt := 40) hx hb dX5_share_33 (by decide) (fun c2 => ?_) (fun c2 => ?_)
      · have hf := el hf c2
        refine lv_lload_n hx hb dX5_share_40 rfl (lv_at hl 1 rfl) ?_
        exact tX5_share_41 C0 (lv_sub hl [3] rfl) hf
      · have hf := th hf c2
        refine lv_lload_n hx hb dX5_share_36 rfl (lv_at hl 0 rfl) ?_
        refine lv_goto (tgt := 41) hx hb dX5_share_37 (by decide) ?_
        exact tX5_share_41 C0 (lv_sub hl [3] rfl) hf
    · have hf := el hf c1
      refine lv_lload hx hb dX5_share_13 (lv_at hl 3 rfl) ?_
      refine lv_lload hx hb dX5_share_15 (lv_at hl 4 rfl) ?_
      obtain ⟨h3, hf⟩ := gd hf
      refine lv_lrem hx hb dX5_share_17 h3 ?_
      refine lv_lstore (lv' := [(9, .long (x5 - x5 / x7 * x7)), (0, .long x0), (2, .long x2), (4, .int x4), (5, .long x5), (7, .long x7)]) hx hb dX5_share_18 hl (by decide) rfl (fun ls hl => ?_)
      refine lv_lload hx hb dX5_share_20 (lv_at hl 5 rfl) ?_
      refine lv_lstore (lv' := [(5, .long x7), (9, .long (x5 - x5 / x7 * x7)), (0, .long x0), (2, .long x2), (4, .int x4), (7, .long x7)]) hx hb dX5_share_22 hl (by decide) rfl (fun ls hl => ?_)
      refine lv_lload hx hb dX5_share_24 (lv_at hl 1 rfl) ?_
      refine lv_lstore (lv' := [(7, .long (x5 - x5 / x7 * x7)), (5, .long x7), (9, .long (x5 - x5 / x7 * x7)), (0, .long x0), (2, .long x2), (4, .int x4)]) hx hb dX5_share_26 hl (by decide) rfl (fun ls hl => ?_)
      refine lv_goto (tgt := 6) hx hb dX5_share_28 (by decide) ?_
      exact ih _ _ _ _ _ _ (lv_sub hl [3, 4, 5, 1, 0] rfl) hf
set_option maxHeartbeats 4000000 in
set_option maxRecDepth 100000 in
theorem tX5_share_0 {p : Program} {l : Launch} {e : Env} {s : State} {m : MethodId} {args : Array Value} {below : List Frame} {meth : Method} {c : Code} {E : EE} {out : Int64} (C0 : cx wsX5_share cX5_share 11 (some .long) RX5 E p s m args meth c) {x0 : Int64} {x2 : Int64} {x4 : Int32} {ls : Array Slot} (hl : lv_has ls 11 [(0, .long x0), (2, .long x2), (4, .int x4)]) (hf : fX5_share x0 x2 x4 = some out) : W p l e rmX5_share s m args below meth c s.heap [] 0 0 (MQ below (vp_Sl (fun r => r = out)) args s 0 0 (fun _ => False)) (F0 m 0 ls []) := by
  obtain ⟨hx, hb, hr, hml, hown, hts, hlk, hK⟩ := id C0
  unfold fX5_share at hf
  refine lv_lload_n hx hb dX5_share_0 rfl (lv_at hl 0 rfl) ?_
  refine lv_lstore (lv' := [(5, .long x0), (0, .long x0), (2, .long x2), (4, .int x4)]) hx hb dX5_share_1 hl (by decide) rfl (fun ls hl => ?_)
  refine lv_lload_n hx hb dX5_share_3 rfl (lv_at hl 2 rfl) ?_
  refine lv_lstore (lv' := [(7, .long x2), (5, .long x0), (0, .long x0), (2, .long x2), (4, .int x4)]) hx hb dX5_share_4 hl (by decide) rfl (fun ls hl => ?_)
  exact tX5_share_6 C0 fu _ _ _ _ _ _ (lv_sub hl [2, 3, 4, 1, 0] rfl) hf
set_option maxHeartbeats 4000000 in
set_option maxRecDepth 100000 in
theorem tX5_share {l : Launch} (E : EE) {x0 : Int64} {x2 : Int64} {x4 : Int32} {out : Int64} (hf : fX5_share x0 x2 x4 = some out) : roL l yX5_share wsX5_share rmX5_share E [.long x0, .long x2, .int x4] ((fun _ => True)) out := by
  refine Met.ofW (cc := cX5_share) (maxL := 11) (ret := (some .long)) (by decide) rfl ?_
  intro p e s m args below meth c s₁ B0 hml hv
  obtain ⟨rfl, -, hK⟩ := hv
  have C0 : cx wsX5_share cX5_share 11 (some .long) RX5 E p s m _ meth c := ⟨B0.exec, B0.bytes, B0.returns, hml, findClass_of_methodNamed B0.named, atoms_spec (ws := wsX5_share) B0.pre, B0.notSynchronized, hK⟩
  have hl := lv_entry ([.long x0, .long x2, .int x4]) (n := 11) (Nat.le_of_ble_eq_true rfl)
  rw [lg_entry_eq]
  generalize (lg_sl ([.long x0, .long x2, .int x4]) ++ List.replicate (11 - (lg_sl ([.long x0, .long x2, .int x4])).length) Slot.unset).toArray = ls at hl ⊢
  exact tX5_share_0 C0 hl hf
abbrev rmX5_isAbove : Room := { frames := 0, cells := 0, slots := 0, locals := 0 }
set_option maxHeartbeats 4000000 in
set_option maxRecDepth 100000 in
theorem tX5_isAbove_91 {p : Program} {l : Launch} {e : Env} {s : State} {m : MethodId} {args : Array Value} {below : List Frame} {meth : Method} {c : Code} {E : EE} {out : Int32} {c17 : Int64 → Int64 → Int64 → Int64 → Int32 → Option (Int32)} (C0 : cx wsX5_isAbove cX5_isAbove 21 (some .boolean) RX5 E p s m args meth c) (hc17 : ∀ (x8 : Int64) (x10 : Int64) (x12 : Int64) (x14 : Int64) (x16 : Int32) (ls : Array Slot), lv_has ls 21 [(8, .long x8), (10, .long x10), (12, .long x12), (14, .long x14), (16, .int x16)] → c17 x8 x10 x12 x14 x16 = some out → W p l e rmX5_isAbove s m args below meth c s.heap [] 0 0 (MQ below (vp_Si (fun r => r = out)) args s 0 0 (fun _ => False)) (F0 m 17 ls [])) {x8 : Int64} {x10 : Int64} {x12 : Int64} {x14 : Int64} {xs0 : Int32} {ls : Array Slot} (hl : lv_has ls 21 [(8, .long x8), (10, .long x10), (12, .long x12), (14, .long x14)]) (hf : fX5_isAbove_91 c17 x8 x10 x12 x14 xs0 = some out) : W p l e rmX5_isAbove s m args below meth c s.heap [] 0 0 (MQ below (vp_Si (fun r => r = out)) args s 0 0 (fun _ => False)) (F0 m 91 ls [.int xs0]) := by
  obtain ⟨hx, hb, hr, hml, hown, hts, hlk, hK⟩ := id C0
  unfold fX5_isAbove_91 at hf
  refine lv_istore (lv' := [(16, .int xs0), (8, .long x8), (10, .long x10), (12, .long x12), (14, .long x14)]) hx hb dX5_isAbove_91 hl (by decide) rfl (fun ls hl => ?_)
  refine lv_goto (tgt := 17) hx hb dX5_isAbove_93 (by decide) ?_
  exact hc17 _ _ _ _ _ _ (lv_sub hl [1, 2, 3, 4, 0] rfl) hf
set_option maxHeartbeats 4000000 in
set_option maxRecDepth 100000 in
theorem tX5_isAbove_96 {p : Program} {l : Launch} {e : Env} {s : State} {m : MethodId} {args : Array Value} {below : List Frame} {meth : Method} {c : Code} {E : EE} {out : Int32} (C0 : cx wsX5_isAbove cX5_isAbove 21 (some .boolean) RX5 E p s m args meth c) {x8 : Int64} {x10 : Int64} {x12 : Int64} {x14 : Int64} {x16 : Int32} {ls : Array Slot} (hl : lv_has ls 21 [(8, .long x8), (10, .long x10), (12, .long x12), (14, .long x14), (16, .int x16)]) (hf : fX5_isAbove_96 x8 x10 x12 x14 x16 = some out) : W p l e rmX5_isAbove s m args below meth c s.heap [] 0 0 (MQ below (vp_Si (fun r => r = out)) args s 0 0 (fun _ => False)) (F0 m 96 ls []) := by
  obtain ⟨hx, hb, hr, hml, hown, hts, hlk, hK⟩ := id C0
  unfold fX5_isAbove_96 at hf
  refine lv_lload hx hb dX5_isAbove_96 (lv_at hl 0 rfl) ?_
  refine lv_lload hx hb dX5_isAbove_98 (lv_at hl 1 rfl) ?_
  obtain ⟨h1, hf⟩ := gd hf
  refine lv_ldiv hx hb dX5_isAbove_100 h1 ?_
  refine lv_lload hx hb dX5_isAbove_101 (lv_at hl 2 rfl) ?_
  refine lv_lload hx hb dX5_isAbove_103 (lv_at hl 3 rfl) ?_
  obtain ⟨h2, hf⟩ := gd hf
  refine lv_ldiv hx hb dX5_isAbove_105 h2 ?_
  refine W.lcmp hx hb dX5_isAbove_106 ?_
  refine lv_if_eq (tgt := 157) hx hb dX5_isAbove_107 (by decide) (fun c3 => ?_) (fun c3 => ?_)
  · have hf := th hf c3
    refine lv_iload hx hb dX5_isAbove_157 (lv_at hl 4 rfl) ?_
    refine lv_if_eq (tgt := 184) hx hb dX5_isAbove_159 (by decide) (fun c4 => ?_) (fun c4 => ?_)
    · have hf := th hf c4
      refine lv_lload hx hb dX5_isAbove_184 (lv_at hl 0 rfl) ?_
      refine lv_lload hx hb dX5_isAbove_186 (lv_at hl 1 rfl) ?_
      obtain ⟨h5, hf⟩ := gd hf
      refine lv_lrem hx hb dX5_isAbove_188 h5 ?_
      refine lv_lload hx hb dX5_isAbove_189 (lv_at hl 2 rfl) ?_
      refine lv_lload hx hb dX5_isAbove_191 (lv_at hl 3 rfl) ?_
      obtain ⟨h6, hf⟩ := gd hf
      refine lv_lrem hx hb dX5_isAbove_193 h6 ?_
      refine W.lcmp hx hb dX5_isAbove_194 ?_
      refine lv_if_le (tgt := 202) hx hb dX5_isAbove_195 (by decide) (fun c7 => ?_) (fun c7 => ?_)
      · have hf := th hf c7
        refine lv_iconst (v := (0 : Int32)) hx hb dX5_isAbove_202 (by decide) ?_
        exact e_roZ C0 hf dX5_isAbove_203
      · have hf := el hf c7
        refine lv_iconst (v := (1 : Int32)) hx hb dX5_isAbove_198 (by decide) ?_
        refine lv_goto (tgt := 203) hx hb dX5_isAbove_199 (by decide) ?_
        exact e_roZ C0 hf dX5_isAbove_203
    · have hf := el hf c4
      refine lv_lload hx hb dX5_isAbove_162 (lv_at hl 0 rfl) ?_
      refine lv_lload hx hb dX5_isAbove_164 (lv_at hl 1 rfl) ?_
      obtain ⟨h8, hf⟩ := gd hf
      refine lv_lrem hx hb dX5_isAbove_166 h8 ?_
      refine lv_lload hx hb dX5_isAbove_167 (lv_at hl 2 rfl) ?_
      refine lv_lload hx hb dX5_isAbove_169 (lv_at hl 3 rfl) ?_
      obtain ⟨h9, hf⟩ := gd hf
      refine lv_lrem hx hb dX5_isAbove_171 h9 ?_
      refine W.lcmp hx hb dX5_isAbove_172 ?_
      refine lv_if_ge (tgt := 180) hx hb dX5_isAbove_173 (by decide) (fun c10 => ?_) (fun c10 => ?_)
      · have hf := th hf c10
        refine lv_iconst (v := (0 : Int32)) hx hb dX5_isAbove_180 (by decide) ?_
        refine lv_goto (tgt := 203) hx hb dX5_isAbove_181 (by decide) ?_
        exact e_roZ C0 hf dX5_isAbove_203
      · have hf := el hf c10
        refine lv_iconst (v := (1 : Int32)) hx hb dX5_isAbove_176 (by decide) ?_
        refine lv_goto (tgt := 203) hx hb dX5_isAbove_177 (by decide) ?_
        exact e_roZ C0 hf dX5_isAbove_203
  · have hf := el hf c3
    refine lv_iload hx hb dX5_isAbove_110 (lv_at hl 4 rfl) ?_
    refine lv_if_eq (tgt := 137) hx hb dX5_isAbove_112 (by decide) (fun c11 => ?_) (fun c11 => ?_)
    · have hf := th hf c11
      refine lv_lload hx hb dX5_isAbove_137 (lv_at hl 0 rfl) ?_
      refine lv_lload hx hb dX5_isAbove_139 (lv_at hl 1 rfl) ?_
      obtain ⟨h12, hf⟩ := gd hf
      refine lv_ldiv hx hb dX5_isAbove_141 h12 ?_
      refine lv_lload hx hb dX5_isAbove_142 (lv_at hl 2 rfl) ?_
      refine lv_lload hx hb dX5_isAbove_144 (lv_at hl 3 rfl) ?_
      obtain ⟨h13, hf⟩ := gd hf
      refine lv_ldiv hx hb dX5_isAbove_146 h13 ?_
      refine W.lcmp hx hb dX5_isAbove_147 ?_
      refine lv_if_le (tgt := 155) hx hb dX5_isAbove_148 (by decide) (fun c14 => ?_) (fun c14 => ?_)
      · have hf := th hf c14
        refine lv_iconst (v := (0 : Int32)) hx hb dX5_isAbove_155 (by decide) ?_
        exact e_roZ C0 hf dX5_isAbove_156
      · have hf := el hf c14
        refine lv_iconst (v := (1 : Int32)) hx hb dX5_isAbove_151 (by decide) ?_
        refine lv_goto (tgt := 156) hx hb dX5_isAbove_152 (by decide) ?_
        exact e_roZ C0 hf dX5_isAbove_156
    · have hf := el hf c11
      refine lv_lload hx hb dX5_isAbove_115 (lv_at hl 0 rfl) ?_
      refine lv_lload hx hb dX5_isAbove_117 (lv_at hl 1 rfl) ?_
      obtain ⟨h15, hf⟩ := gd hf
      refine lv_ldiv hx hb dX5_isAbove_119 h15 ?_
      refine lv_lload hx hb dX5_isAbove_120 (lv_at hl 2 rfl) ?_
      refine lv_lload hx hb dX5_isAbove_122 (lv_at hl 3 rfl) ?_
      obtain ⟨h16, hf⟩ := gd hf
      refine lv_ldiv hx hb dX5_isAbove_124 h16 ?_
      refine W.lcmp hx hb dX5_isAbove_125 ?_
      refine lv_if_ge (tgt := 133) hx hb dX5_isAbove_126 (by decide) (fun c17 => ?_) (fun c17 => ?_)
      · have hf := th hf c17
        refine lv_iconst (v := (0 : Int32)) hx hb dX5_isAbove_133 (by decide) ?_
        refine lv_goto (tgt := 156) hx hb dX5_isAbove_134 (by decide) ?_
        exact e_roZ C0 hf dX5_isAbove_156
      · have hf := el hf c17
        refine lv_iconst (v := (1 : Int32)) hx hb dX5_isAbove_129 (by decide) ?_
        refine lv_goto (tgt := 156) hx hb dX5_isAbove_130 (by decide) ?_
        exact e_roZ C0 hf dX5_isAbove_156
set_option maxHeartbeats 4000000 in
set_option maxRecDepth 100000 in
theorem tX5_isAbove_17 {p : Program} {l : Launch} {e : Env} {s : State} {m : MethodId} {args : Array Value} {below : List Frame} {meth : Method} {c : Code} {E : EE} {out : Int32} (C0 : cx wsX5_isAbove cX5_isAbove 21 (some .boolean) RX5 E p s m args meth c) : ∀ (n : Nat) (x8 : Int64) (x10 : Int64) (x12 : Int64) (x14 : Int64) (x16 : Int32) (ls : Array Slot), lv_has ls 21 [(8, .long x8), (10, .long x10), (12, .long x12), (14, .long x14), (16, .int x16)] → fX5_isAbove_17 n x8 x10 x12 x14 x16 = some out → W p l e rmX5_isAbove s m args below meth c s.heap [] 0 0 (MQ below (vp_Si (fun r => r = out)) args s 0 0 (fun _ => False)) (F0 m 17 ls []) := by
  obtain ⟨hx, hb, hr, hml, hown, hts, hlk, hK⟩ := id C0
  intro n
  induction n with
  | zero =>
    intro x8 x10 x12 x14 x16 ls hl hf
    cases (show none = some out from hf)
  | succ n ih =>
    intro x8 x10 x12 x14 x16 ls hl hf
    rw [fX5_isAbove_17] at hf
    refine lv_lload hx hb dX5_isAbove_17 (lv_at hl 0 rfl) ?_
    refine lv_lload hx hb dX5_isAbove_19 (lv_at hl 1 rfl) ?_
    obtain ⟨h1, hf⟩ := gd hf
    refine lv_ldiv hx hb dX5_isAbove_21 h1 ?_
    refine lv_lload hx hb dX5_isAbove_22 (lv_at hl 2 rfl) ?_
    refine lv_lload hx hb dX5_isAbove_24 (lv_at hl 3 rfl) ?_
    obtain ⟨h2, hf⟩ := gd hf
    refine lv_ldiv hx hb dX5_isAbove_26 h2 ?_
    refine W.lcmp hx hb dX5_isAbove_27 ?_
    refine lv_if_ne (tgt := 96) hx hb dX5_isAbove_28 (by decide) (fun c3 => ?_) (fun c3 => ?_)
    · have hf := el hf c3
      exact tX5_isAbove_96 C0 (lv_sub hl [0, 1, 2, 3, 4] rfl) hf
    · have hf := th hf c3
      refine lv_lload hx hb dX5_isAbove_31 (lv_at hl 0 rfl) ?_
      refine lv_lload hx hb dX5_isAbove_33 (lv_at hl 1 rfl) ?_
      obtain ⟨h4, hf⟩ := gd hf
      refine lv_lrem hx hb dX5_isAbove_35 h4 ?_
      refine lv_lconst (v := (0 : Int64)) hx hb dX5_isAbove_36 (by decide) ?_
      refine W.lcmp hx hb dX5_isAbove_37 ?_
      refine lv_if_eq (tgt := 96) hx hb dX5_isAbove_38 (by decide) (fun c5 => ?_) (fun c5 => ?_)
      · have hf := th hf c5
        exact tX5_isAbove_96 C0 (lv_sub hl [0, 1, 2, 3, 4] rfl) hf
      · have hf := el hf c5
        refine lv_lload hx hb dX5_isAbove_41 (lv_at hl 2 rfl) ?_
        refine lv_lload hx hb dX5_isAbove_43 (lv_at hl 3 rfl) ?_
        obtain ⟨h6, hf⟩ := gd hf
        refine lv_lrem hx hb dX5_isAbove_45 h6 ?_
        refine lv_lconst (v := (0 : Int64)) hx hb dX5_isAbove_46 (by decide) ?_
        refine W.lcmp hx hb dX5_isAbove_47 ?_
        refine lv_if_eq (tgt := 96) hx hb dX5_isAbove_48 (by decide) (fun c7 => ?_) (fun c7 => ?_)
        · have hf := th hf c7
          exact tX5_isAbove_96 C0 (lv_sub hl [0, 1, 2, 3, 4] rfl) hf
        · have hf := el hf c7
          refine lv_lload hx hb dX5_isAbove_51 (lv_at hl 0 rfl) ?_
          refine lv_lload hx hb dX5_isAbove_53 (lv_at hl 1 rfl) ?_
          obtain ⟨h8, hf⟩ := gd hf
          refine lv_lrem hx hb dX5_isAbove_55 h8 ?_
          refine lv_lstore (lv' := [(17, .long (x8 - x8 / x10 * x10)), (8, .long x8), (10, .long x10), (12, .long x12), (14, .long x14), (16, .int x16)]) hx hb dX5_isAbove_56 hl (by decide) rfl (fun ls hl => ?_)
          refine lv_lload hx hb dX5_isAbove_58 (lv_at hl 3 rfl) ?_
          refine lv_lload hx hb dX5_isAbove_60 (lv_at hl 4 rfl) ?_
          obtain ⟨h9, hf⟩ := gd hf
          refine lv_lrem hx hb dX5_isAbove_62 h9 ?_
          refine lv_lstore (lv' := [(19, .long (x12 - x12 / x14 * x14)), (17, .long (x8 - x8 / x10 * x10)), (8, .long x8), (10, .long x10), (12, .long x12), (14, .long x14), (16, .int x16)]) hx hb dX5_isAbove_63 hl (by decide) rfl (fun ls hl => ?_)
          refine lv_lload hx hb dX5_isAbove_65 (lv_at hl 3 rfl) ?_
          refine lv_lstore (lv' := [(8, .long x10), (19, .long (x12 - x12 / x14 * x14)), (17, .long (x8 - x8 / x10 * x10)), (10, .long x10), (12, .long x12), (14, .long x14), (16, .int x16)]) hx hb dX5_isAbove_67 hl (by decide) rfl (fun ls hl => ?_)
          refine lv_lload hx hb dX5_isAbove_69 (lv_at hl 2 rfl) ?_
          refine lv_lstore (lv' := [(10, .long (x8 - x8 / x10 * x10)), (8, .long x10), (19, .long (x12 - x12 / x14 * x14)), (17, .long (x8 - x8 / x10 * x10)), (12, .long x12), (14, .long x14), (16, .int x16)]) hx hb dX5_isAbove_71 hl (by decide) rfl (fun ls hl => ?_)
          refine lv_lload hx hb dX5_isAbove_73 (lv_at hl 5 rfl) ?_
          refine lv_lstore (lv' := [(12, .long x14), (10, .long (x8 - x8 / x10 * x10)), (8, .long x10), (19, .long (x12 - x12 / x14 * x14)), (17, .long (x8 - x8 / x10 * x10)), (14, .long x14), (16, .int x16)]) hx hb dX5_isAbove_75 hl (by decide) rfl (fun ls hl => ?_)
          refine lv_lload hx hb dX5_isAbove_77 (lv_at hl 3 rfl) ?_
          refine lv_lstore (lv' := [(14, .long (x12 - x12 / x14 * x14)), (12, .long x14), (10, .long (x8 - x8 / x10 * x10)), (8, .long x10), (19, .long (x12 - x12 / x14 * x14)), (17, .long (x8 - x8 / x10 * x10)), (16, .int x16)]) hx hb dX5_isAbove_79 hl (by decide) rfl (fun ls hl => ?_)
          refine lv_iload hx hb dX5_isAbove_81 (lv_at hl 6 rfl) ?_
          refine lv_if_ne (tgt := 90) hx hb dX5_isAbove_83 (by decide) (fun c10 => ?_) (fun c10 => ?_)
          · have hf := el hf c10
            refine lv_iconst (v := (0 : Int32)) hx hb dX5_isAbove_90 (by decide) ?_
            exact tX5_isAbove_91 C0 ih (lv_sub hl [3, 2, 1, 0] rfl) hf
          · have hf := th hf c10
            refine lv_iconst (v := (1 : Int32)) hx hb dX5_isAbove_86 (by decide) ?_
            refine lv_goto (tgt := 91) hx hb dX5_isAbove_87 (by decide) ?_
            exact tX5_isAbove_91 C0 ih (lv_sub hl [3, 2, 1, 0] rfl) hf
set_option maxHeartbeats 4000000 in
set_option maxRecDepth 100000 in
theorem tX5_isAbove_0 {p : Program} {l : Launch} {e : Env} {s : State} {m : MethodId} {args : Array Value} {below : List Frame} {meth : Method} {c : Code} {E : EE} {out : Int32} (C0 : cx wsX5_isAbove cX5_isAbove 21 (some .boolean) RX5 E p s m args meth c) {x0 : Int64} {x2 : Int64} {x4 : Int64} {x6 : Int64} {ls : Array Slot} (hl : lv_has ls 21 [(0, .long x0), (2, .long x2), (4, .long x4), (6, .long x6)]) (hf : fX5_isAbove x0 x2 x4 x6 = some out) : W p l e rmX5_isAbove s m args below meth c s.heap [] 0 0 (MQ below (vp_Si (fun r => r = out)) args s 0 0 (fun _ => False)) (F0 m 0 ls []) := by
  obtain ⟨hx, hb, hr, hml, hown, hts, hlk, hK⟩ := id C0
  unfold fX5_isAbove at hf
  refine lv_lload_n hx hb dX5_isAbove_0 rfl (lv_at hl 0 rfl) ?_
  refine lv_lstore (lv' := [(8, .long x0), (0, .long x0), (2, .long x2), (4, .long x4), (6, .long x6)]) hx hb dX5_isAbove_1 hl (by decide) rfl (fun ls hl => ?_)
  refine lv_lload_n hx hb dX5_isAbove_3 rfl (lv_at hl 2 rfl) ?_
  refine lv_lstore (lv' := [(10, .long x2), (8, .long x0), (0, .long x0), (2, .long x2), (4, .long x4), (6, .long x6)]) hx hb dX5_isAbove_4 hl (by decide) rfl (fun ls hl => ?_)
  refine lv_lload hx hb dX5_isAbove_6 (lv_at hl 4 rfl) ?_
  refine lv_lstore (lv' := [(12, .long x4), (10, .long x2), (8, .long x0), (0, .long x0), (2, .long x2), (4, .long x4), (6, .long x6)]) hx hb dX5_isAbove_8 hl (by decide) rfl (fun ls hl => ?_)
  refine lv_lload hx hb dX5_isAbove_10 (lv_at hl 6 rfl) ?_
  refine lv_lstore (lv' := [(14, .long x6), (12, .long x4), (10, .long x2), (8, .long x0), (0, .long x0), (2, .long x2), (4, .long x4), (6, .long x6)]) hx hb dX5_isAbove_12 hl (by decide) rfl (fun ls hl => ?_)
  refine lv_iconst (v := (0 : Int32)) hx hb dX5_isAbove_14 (by decide) ?_
  refine lv_istore (lv' := [(16, .int (0 : Int32)), (14, .long x6), (12, .long x4), (10, .long x2), (8, .long x0), (0, .long x0), (2, .long x2), (4, .long x4), (6, .long x6)]) hx hb dX5_isAbove_15 hl (by decide) rfl (fun ls hl => ?_)
  exact tX5_isAbove_17 C0 fu _ _ _ _ _ _ (lv_sub hl [4, 3, 2, 1, 0] rfl) hf
set_option maxHeartbeats 4000000 in
set_option maxRecDepth 100000 in
theorem tX5_isAbove {l : Launch} (E : EE) {x0 : Int64} {x2 : Int64} {x4 : Int64} {x6 : Int64} {out : Int32} (hf : fX5_isAbove x0 x2 x4 x6 = some out) : roI l yX5_isAbove wsX5_isAbove rmX5_isAbove E [.long x0, .long x2, .long x4, .long x6] ((fun _ => True)) out := by
  refine Met.ofW (cc := cX5_isAbove) (maxL := 21) (ret := (some .boolean)) (by decide) rfl ?_
  intro p e s m args below meth c s₁ B0 hml hv
  obtain ⟨rfl, -, hK⟩ := hv
  have C0 : cx wsX5_isAbove cX5_isAbove 21 (some .boolean) RX5 E p s m _ meth c := ⟨B0.exec, B0.bytes, B0.returns, hml, findClass_of_methodNamed B0.named, atoms_spec (ws := wsX5_isAbove) B0.pre, B0.notSynchronized, hK⟩
  have hl := lv_entry ([.long x0, .long x2, .long x4, .long x6]) (n := 21) (Nat.le_of_ble_eq_true rfl)
  rw [lg_entry_eq]
  generalize (lg_sl ([.long x0, .long x2, .long x4, .long x6]) ++ List.replicate (21 - (lg_sl ([.long x0, .long x2, .long x4, .long x6])).length) Slot.unset).toArray = ls at hl ⊢
  exact tX5_isAbove_0 C0 hl hf
abbrev rmX5_waysOf : Room := { frames := 0, cells := 0, slots := 0, locals := 0 }
set_option maxHeartbeats 4000000 in
set_option maxRecDepth 100000 in
theorem tX5_waysOf_46 {p : Program} {l : Launch} {e : Env} {s : State} {m : MethodId} {args : Array Value} {below : List Frame} {meth : Method} {c : Code} {E : EE} {out : Int64} (C0 : cx wsX5_waysOf cX5_waysOf 5 (some .long) RX5 E p s m args meth c) {x2 : Int64} {ls : Array Slot} (hl : lv_has ls 5 [(2, .long x2)]) (hf : fX5_waysOf_46 x2 = some out) : W p l e rmX5_waysOf s m args below meth c s.heap [] 0 0 (MQ below (vp_Sl (fun r => r = out)) args s 0 0 (fun _ => False)) (F0 m 46 ls []) := by
  obtain ⟨hx, hb, hr, hml, hown, hts, hlk, hK⟩ := id C0
  unfold fX5_waysOf_46 at hf
  refine lv_lload_n hx hb dX5_waysOf_46 rfl (lv_at hl 0 rfl) ?_
  exact e_roL C0 hf dX5_waysOf_47
set_option maxHeartbeats 4000000 in
set_option maxRecDepth 100000 in
theorem tX5_waysOf_14 {p : Program} {l : Launch} {e : Env} {s : State} {m : MethodId} {args : Array Value} {below : List Frame} {meth : Method} {c : Code} {E : EE} {out : Int64} (C0 : cx wsX5_waysOf cX5_waysOf 5 (some .long) RX5 E p s m args meth c) : ∀ (n : Nat) (x0 : Int32) (x1 : Int32) (x2 : Int64) (x4 : Int32) (ls : Array Slot), lv_has ls 5 [(0, .int x0), (1, .int x1), (2, .long x2), (4, .int x4)] → fX5_waysOf_14 n x0 x1 x2 x4 = some out → W p l e rmX5_waysOf s m args below meth c s.heap [] 0 0 (MQ below (vp_Sl (fun r => r = out)) args s 0 0 (fun _ => False)) (F0 m 14 ls []) := by
  obtain ⟨hx, hb, hr, hml, hown, hts, hlk, hK⟩ := id C0
  intro n
  induction n with
  | zero =>
    intro x0 x1 x2 x4 ls hl hf
    cases (show none = some out from hf)
  | succ n ih =>
    intro x0 x1 x2 x4 ls hl hf
    rw [fX5_waysOf_14] at hf
    refine lv_iload hx hb dX5_waysOf_14 (lv_at hl 3 rfl) ?_
    refine lv_iload_n hx hb dX5_waysOf_16 rfl (lv_at hl 1 rfl) ?_
    refine lv_icmp_ge (tgt := 46) hx hb dX5_waysOf_17 (by decide) (fun c1 => ?_) (fun c1 => ?_)
    · have hf := th hf c1
      exact tX5_waysOf_46 C0 (lv_sub hl [2] rfl) hf
    · have hf := el hf c1
      refine lv_lload_n hx hb dX5_waysOf_20 rfl (lv_at hl 2 rfl) ?_
      refine lv_lconst (v := (0 : Int64)) hx hb dX5_waysOf_21 (by decide) ?_
      refine W.lcmp hx hb dX5_waysOf_22 ?_
      refine lv_if_le (tgt := 46) hx hb dX5_waysOf_23 (by decide) (fun c2 => ?_) (fun c2 => ?_)
      · have hf := th hf c2
        exact tX5_waysOf_46 C0 (lv_sub hl [2] rfl) hf
      · have hf := el hf c2
        refine lv_lload_n hx hb dX5_waysOf_26 rfl (lv_at hl 2 rfl) ?_
        refine lv_iload_n hx hb dX5_waysOf_27 rfl (lv_at hl 0 rfl) ?_
        refine lv_iload hx hb dX5_waysOf_28 (lv_at hl 3 rfl) ?_
        refine lv_isub hx hb dX5_waysOf_30 ?_
        refine lv_i2l (v := (x0 - x4).toInt64) hx hb dX5_waysOf_31 rfl ?_
        refine lv_lmul hx hb dX5_waysOf_32 ?_
        refine lv_iload hx hb dX5_waysOf_33 (lv_at hl 3 rfl) ?_
        refine lv_iconst (v := (1 : Int32)) hx hb dX5_waysOf_35 (by decide) ?_
        refine lv_iadd hx hb dX5_waysOf_36 ?_
        refine lv_i2l (v := (x4 + (1 : Int32)).toInt64) hx hb dX5_waysOf_37 rfl ?_
        obtain ⟨h3, hf⟩ := gd hf
        refine lv_ldiv hx hb dX5_waysOf_38 h3 ?_
        refine lv_lstore_n (lv' := [(2, .long ((x2 * (x0 - x4).toInt64) / (x4 + (1 : Int32)).toInt64)), (0, .int x0), (1, .int x1), (4, .int x4)]) hx hb dX5_waysOf_39 rfl hl (by decide) rfl (fun ls hl => ?_)
        refine lv_iinc (v := (x4 + (1 : Int32))) (lv' := [(4, .int (x4 + (1 : Int32))), (2, .long ((x2 * (x0 - x4).toInt64) / (x4 + (1 : Int32)).toInt64)), (0, .int x0), (1, .int x1)]) hx hb dX5_waysOf_40 hl (k := 3) rfl rfl (by decide) rfl (fun ls hl => ?_)
        refine lv_goto (tgt := 14) hx hb dX5_waysOf_43 (by decide) ?_
        exact ih _ _ _ _ _ (lv_sub hl [2, 3, 1, 0] rfl) hf
set_option maxHeartbeats 4000000 in
set_option maxRecDepth 100000 in
theorem tX5_waysOf_10 {p : Program} {l : Launch} {e : Env} {s : State} {m : MethodId} {args : Array Value} {below : List Frame} {meth : Method} {c : Code} {E : EE} {out : Int64} (C0 : cx wsX5_waysOf cX5_waysOf 5 (some .long) RX5 E p s m args meth c) {x0 : Int32} {x1 : Int32} {xs0 : Int64} {ls : Array Slot} (hl : lv_has ls 5 [(0, .int x0), (1, .int x1)]) (hf : fX5_waysOf_10 x0 x1 xs0 = some out) : W p l e rmX5_waysOf s m args below meth c s.heap [] 0 0 (MQ below (vp_Sl (fun r => r = out)) args s 0 0 (fun _ => False)) (F0 m 10 ls [.long xs0]) := by
  obtain ⟨hx, hb, hr, hml, hown, hts, hlk, hK⟩ := id C0
  unfold fX5_waysOf_10 at hf
  refine lv_lstore_n (lv' := [(2, .long xs0), (0, .int x0), (1, .int x1)]) hx hb dX5_waysOf_10 rfl hl (by decide) rfl (fun ls hl => ?_)
  refine lv_iconst (v := (0 : Int32)) hx hb dX5_waysOf_11 (by decide) ?_
  refine lv_istore (lv' := [(4, .int (0 : Int32)), (2, .long xs0), (0, .int x0), (1, .int x1)]) hx hb dX5_waysOf_12 hl (by decide) rfl (fun ls hl => ?_)
  exact tX5_waysOf_14 C0 fu _ _ _ _ _ (lv_sub hl [2, 3, 1, 0] rfl) hf
set_option maxHeartbeats 4000000 in
set_option maxRecDepth 100000 in
theorem tX5_waysOf_0 {p : Program} {l : Launch} {e : Env} {s : State} {m : MethodId} {args : Array Value} {below : List Frame} {meth : Method} {c : Code} {E : EE} {out : Int64} (C0 : cx wsX5_waysOf cX5_waysOf 5 (some .long) RX5 E p s m args meth c) {x0 : Int32} {x1 : Int32} {ls : Array Slot} (hl : lv_has ls 5 [(0, .int x0), (1, .int x1)]) (hf : fX5_waysOf x0 x1 = some out) : W p l e rmX5_waysOf s m args below meth c s.heap [] 0 0 (MQ below (vp_Sl (fun r => r = out)) args s 0 0 (fun _ => False)) (F0 m 0 ls []) := by
  obtain ⟨hx, hb, hr, hml, hown, hts, hlk, hK⟩ := id C0
  unfold fX5_waysOf at hf
  refine lv_iload_n hx hb dX5_waysOf_0 rfl (lv_at hl 1 rfl) ?_
  refine lv_iload_n hx hb dX5_waysOf_1 rfl (lv_at hl 0 rfl) ?_
  refine lv_icmp_le (tgt := 9) hx hb dX5_waysOf_2 (by decide) (fun c1 => ?_) (fun c1 => ?_)
  · have hf := th hf c1
    refine lv_lconst (v := (1 : Int64)) hx hb dX5_waysOf_9 (by decide) ?_
    exact tX5_waysOf_10 C0 (lv_sub hl [0, 1] rfl) hf
  · have hf := el hf c1
    refine lv_lconst (v := (0 : Int64)) hx hb dX5_waysOf_5 (by decide) ?_
    refine lv_goto (tgt := 10) hx hb dX5_waysOf_6 (by decide) ?_
    exact tX5_waysOf_10 C0 (lv_sub hl [0, 1] rfl) hf
set_option maxHeartbeats 4000000 in
set_option maxRecDepth 100000 in
theorem tX5_waysOf {l : Launch} (E : EE) {x0 : Int32} {x1 : Int32} {out : Int64} (hf : fX5_waysOf x0 x1 = some out) : roL l yX5_waysOf wsX5_waysOf rmX5_waysOf E [.int x0, .int x1] ((fun _ => True)) out := by
  refine Met.ofW (cc := cX5_waysOf) (maxL := 5) (ret := (some .long)) (by decide) rfl ?_
  intro p e s m args below meth c s₁ B0 hml hv
  obtain ⟨rfl, -, hK⟩ := hv
  have C0 : cx wsX5_waysOf cX5_waysOf 5 (some .long) RX5 E p s m _ meth c := ⟨B0.exec, B0.bytes, B0.returns, hml, findClass_of_methodNamed B0.named, atoms_spec (ws := wsX5_waysOf) B0.pre, B0.notSynchronized, hK⟩
  have hl := lv_entry ([.int x0, .int x1]) (n := 5) (Nat.le_of_ble_eq_true rfl)
  rw [lg_entry_eq]
  generalize (lg_sl ([.int x0, .int x1]) ++ List.replicate (5 - (lg_sl ([.int x0, .int x1])).length) Slot.unset).toArray = ls at hl ⊢
  exact tX5_waysOf_0 C0 hl hf
abbrev rmX5_refused : Room := { frames := 0, cells := 0, slots := 0, locals := 0 }
set_option maxRecDepth 20000 in
theorem iX5_refused_X5 : ∀ w ∈ wsX50, w ∈ wsX5_refused := by decide +kernel
set_option maxHeartbeats 4000000 in
set_option maxRecDepth 100000 in
theorem tX5_refused_0 {p : Program} {l : Launch} {e : Env} {s : State} {m : MethodId} {args : Array Value} {below : List Frame} {meth : Method} {c : Code} {E : EE} {B : Nat → Nat} {out : Int32 × SM} (C0 : cx wsX5_refused cX5_refused 2 (some .int) RX5 E p s m args meth c) {x1 : Int32} {u : SM} {H : Heap} {locs : List Loc} {ls : Array Slot} (hW : WM E B u s H locs) (hl : lv_has ls 2 [(0, .ref (B 0)), (1, .int x1)]) (hf : fX5_refused x1 u = some out) : W p l e rmX5_refused s m args below meth c H locs 0 0 (MQ below (va_Qi (fun r (_ : Unit) => r = out.1) (fun _ t => fP E (cM E B out.2) t.heap) (aM B)) args s 0 0 (aM B)) (F0 m 0 ls []) := by
  obtain ⟨hx, hb, hr, hml, hown, hts, hlk, hK⟩ := id C0
  unfold fX5_refused at hf
  refine lv_aload_n hx hb dX5_refused_0 rfl (lv_at hl 0 rfl) ?_
  refine lv_iconst (v := (0 : Int32)) hx hb dX5_refused_1 (by decide) ?_
  refine m_put C0 hW iX5_refused_X5 0 (by decide) (by decide +kernel) rfl (by decide +kernel) rfl dX5_refused_2 (fun H locs hW => ?_)
  have hW : WM E B ((upd u.1 0 (0 : Int32)), u.2) s H locs := hW
  refine lv_iload_n hx hb dX5_refused_5 rfl (lv_at hl 1 rfl) ?_
  obtain rfl := Option.some.inj hf
  exact e_muI (QH := fP E (cM E B ((upd u.1 0 (0 : Int32)), u.2))) C0 hW.2.2 rfl hW.2.1 dX5_refused_6
set_option maxHeartbeats 4000000 in
set_option maxRecDepth 100000 in
theorem tX5_refused {l : Launch} (E : EE) (B : Nat → Nat) {u : SM} {x1 : Int32} {out : Int32 × SM} (hB : iM B) (hf : fX5_refused x1 u = some out) : muI l yX5_refused wsX5_refused rmX5_refused E [.ref (B 0), .int x1] (aM B) (fP E (cM E B u)) (fP E (cM E B out.2)) out.1 := by
  refine Met.ofW (cc := cX5_refused) (maxL := 2) (ret := (some .int)) (by decide) rfl ?_
  intro p e s m args below meth c s₁ B0 hml hv
  obtain ⟨rfl, hP, hK⟩ := hv
  have C0 : cx wsX5_refused cX5_refused 2 (some .int) RX5 E p s m _ meth c := ⟨B0.exec, B0.bytes, B0.returns, hml, findClass_of_methodNamed B0.named, atoms_spec (ws := wsX5_refused) B0.pre, B0.notSynchronized, hK⟩
  have hl := lv_entry ([.ref (B 0), .int x1]) (n := 2) (Nat.le_of_ble_eq_true rfl)
  rw [lg_entry_eq]
  generalize (lg_sl ([.ref (B 0), .int x1]) ++ List.replicate (2 - (lg_sl ([.ref (B 0), .int x1])).length) Slot.unset).toArray = ls at hl ⊢
  exact tX5_refused_0 C0 ⟨hB, hP, va_S.rf⟩ hl hf
abbrev rmX5_failed : Room := { frames := 0, cells := 0, slots := 0, locals := 0 }
set_option maxRecDepth 20000 in
theorem iX5_failed_X5 : ∀ w ∈ wsX50, w ∈ wsX5_failed := by decide +kernel
set_option maxHeartbeats 4000000 in
set_option maxRecDepth 100000 in
theorem tX5_failed_0 {p : Program} {l : Launch} {e : Env} {s : State} {m : MethodId} {args : Array Value} {below : List Frame} {meth : Method} {c : Code} {E : EE} {B : Nat → Nat} {out : Int32 × SM} (C0 : cx wsX5_failed cX5_failed 2 (some .int) RX5 E p s m args meth c) {x1 : Int32} {u : SM} {H : Heap} {locs : List Loc} {ls : Array Slot} (hW : WM E B u s H locs) (hl : lv_has ls 2 [(0, .ref (B 0)), (1, .int x1)]) (hf : fX5_failed x1 u = some out) : W p l e rmX5_failed s m args below meth c H locs 0 0 (MQ below (va_Qi (fun r (_ : Unit) => r = out.1) (fun _ t => fP E (cM E B out.2) t.heap) (aM B)) args s 0 0 (aM B)) (F0 m 0 ls []) := by
  obtain ⟨hx, hb, hr, hml, hown, hts, hlk, hK⟩ := id C0
  unfold fX5_failed at hf
  refine lv_aload_n hx hb dX5_failed_0 rfl (lv_at hl 0 rfl) ?_
  refine lv_iload_n hx hb dX5_failed_1 rfl (lv_at hl 1 rfl) ?_
  refine m_put C0 hW iX5_failed_X5 0 (by decide) (by decide +kernel) rfl (by decide +kernel) rfl dX5_failed_2 (fun H locs hW => ?_)
  have hW : WM E B ((upd u.1 0 x1), u.2) s H locs := hW
  refine lv_bipush (v := (-10 : Int32)) hx hb dX5_failed_5 (by decide) ?_
  refine lv_iload_n hx hb dX5_failed_7 rfl (lv_at hl 1 rfl) ?_
  refine lv_isub hx hb dX5_failed_8 ?_
  obtain rfl := Option.some.inj hf
  exact e_muI (QH := fP E (cM E B ((upd u.1 0 x1), u.2))) C0 hW.2.2 rfl hW.2.1 dX5_failed_9
set_option maxHeartbeats 4000000 in
set_option maxRecDepth 100000 in
theorem tX5_failed {l : Launch} (E : EE) (B : Nat → Nat) {u : SM} {x1 : Int32} {out : Int32 × SM} (hB : iM B) (hf : fX5_failed x1 u = some out) : muI l yX5_failed wsX5_failed rmX5_failed E [.ref (B 0), .int x1] (aM B) (fP E (cM E B u)) (fP E (cM E B out.2)) out.1 := by
  refine Met.ofW (cc := cX5_failed) (maxL := 2) (ret := (some .int)) (by decide) rfl ?_
  intro p e s m args below meth c s₁ B0 hml hv
  obtain ⟨rfl, hP, hK⟩ := hv
  have C0 : cx wsX5_failed cX5_failed 2 (some .int) RX5 E p s m _ meth c := ⟨B0.exec, B0.bytes, B0.returns, hml, findClass_of_methodNamed B0.named, atoms_spec (ws := wsX5_failed) B0.pre, B0.notSynchronized, hK⟩
  have hl := lv_entry ([.ref (B 0), .int x1]) (n := 2) (Nat.le_of_ble_eq_true rfl)
  rw [lg_entry_eq]
  generalize (lg_sl ([.ref (B 0), .int x1]) ++ List.replicate (2 - (lg_sl ([.ref (B 0), .int x1])).length) Slot.unset).toArray = ls at hl ⊢
  exact tX5_failed_0 C0 ⟨hB, hP, va_S.rf⟩ hl hf
abbrev rmX5_failedLong : Room := { frames := 1, cells := 0, slots := 0, locals := 19 }
set_option maxRecDepth 20000 in
theorem iX5_failedLong_X5 : ∀ w ∈ wsX50, w ∈ wsX5_failedLong := by decide +kernel
set_option maxHeartbeats 4000000 in
set_option maxRecDepth 100000 in
theorem tX5_failedLong_0 {p : Program} {l : Launch} {e : Env} {s : State} {m : MethodId} {args : Array Value} {below : List Frame} {meth : Method} {c : Code} {E : EE} {B : Nat → Nat} {out : Int64 × SM} (C0 : cx wsX5_failedLong cX5_failedLong 2 (some .long) RX5 E p s m args meth c) {x1 : Int32} {u : SM} {H : Heap} {locs : List Loc} {ls : Array Slot} (hW : WM E B u s H locs) (hl : lv_has ls 2 [(0, .ref (B 0)), (1, .int x1)]) (hf : fX5_failedLong x1 u = some out) : W p l e rmX5_failedLong s m args below meth c H locs 0 0 (MQ below (va_Ql (fun r (_ : Unit) => r = out.1) (fun _ t => fP E (cM E B out.2) t.heap) (aM B)) args s 0 0 (aM B)) (F0 m 0 ls []) := by
  obtain ⟨hx, hb, hr, hml, hown, hts, hlk, hK⟩ := id C0
  unfold fX5_failedLong at hf
  refine lv_aload_n hx hb dX5_failedLong_0 rfl (lv_at hl 0 rfl) ?_
  refine lv_iload_n hx hb dX5_failedLong_1 rfl (lv_at hl 1 rfl) ?_
  refine m_put C0 hW iX5_failedLong_X5 0 (by decide) (by decide +kernel) rfl (by decide +kernel) rfl dX5_failedLong_2 (fun H locs hW => ?_)
  have hW : WM E B ((upd u.1 0 x1), u.2) s H locs := hW
  obtain ⟨q1, h2, hf⟩ := bd hf
  refine k_roL (run_S (rest := []) (n := 0) (PH := fun _ => True) C0 (tX5_lost E h2) gX5_failedLong_X5_lost rfl rfl (by decide +kernel) trivial hl.1 rfl rfl (Nat.le_of_ble_eq_true rfl) dX5_failedLong_5) ?_
  obtain rfl := Option.some.inj hf
  exact e_muL (QH := fP E (cM E B ((upd u.1 0 x1), u.2))) C0 hW.2.2 rfl hW.2.1 dX5_failedLong_8
set_option maxHeartbeats 4000000 in
set_option maxRecDepth 100000 in
theorem tX5_failedLong {l : Launch} (E : EE) (B : Nat → Nat) {u : SM} {x1 : Int32} {out : Int64 × SM} (hB : iM B) (hf : fX5_failedLong x1 u = some out) : muL l yX5_failedLong wsX5_failedLong rmX5_failedLong E [.ref (B 0), .int x1] (aM B) (fP E (cM E B u)) (fP E (cM E B out.2)) out.1 := by
  refine Met.ofW (cc := cX5_failedLong) (maxL := 2) (ret := (some .long)) (by decide) rfl ?_
  intro p e s m args below meth c s₁ B0 hml hv
  obtain ⟨rfl, hP, hK⟩ := hv
  have C0 : cx wsX5_failedLong cX5_failedLong 2 (some .long) RX5 E p s m _ meth c := ⟨B0.exec, B0.bytes, B0.returns, hml, findClass_of_methodNamed B0.named, atoms_spec (ws := wsX5_failedLong) B0.pre, B0.notSynchronized, hK⟩
  have hl := lv_entry ([.ref (B 0), .int x1]) (n := 2) (Nat.le_of_ble_eq_true rfl)
  rw [lg_entry_eq]
  generalize (lg_sl ([.ref (B 0), .int x1]) ++ List.replicate (2 - (lg_sl ([.ref (B 0), .int x1])).length) Slot.unset).toArray = ls at hl ⊢
  exact tX5_failedLong_0 C0 ⟨hB, hP, va_S.rf⟩ hl hf
abbrev rmX5_noCitizen : Room := { frames := 1, cells := 0, slots := 0, locals := 25 }
set_option maxRecDepth 20000 in
theorem iX5_noCitizen_X5 : ∀ w ∈ wsX50, w ∈ wsX5_noCitizen := by decide +kernel
set_option maxHeartbeats 4000000 in
set_option maxRecDepth 100000 in
theorem tX5_noCitizen_0 {p : Program} {l : Launch} {e : Env} {s : State} {m : MethodId} {args : Array Value} {below : List Frame} {meth : Method} {c : Code} {E : EE} {B : Nat → Nat} {u : SM} {out : Int32} (C0 : cx wsX5_noCitizen cX5_noCitizen 2 (some .boolean) RX5 E p s m args meth c) (hP : fP E (cM E B u) s.heap) {x1 : Int32} {ls : Array Slot} (hl : lv_has ls 2 [(0, .ref (B 0)), (1, .int x1)]) (hf : fX5_noCitizen x1 u = some out) : W p l e rmX5_noCitizen s m args below meth c s.heap [] 0 0 (MQ below (vp_Si (fun r => r = out)) args s 0 0 (fun _ => False)) (F0 m 0 ls []) := by
  obtain ⟨hx, hb, hr, hml, hown, hts, hlk, hK⟩ := id C0
  unfold fX5_noCitizen at hf
  refine lv_iload_n hx hb dX5_noCitizen_0 rfl (lv_at hl 1 rfl) ?_
  refine lv_i2l (v := x1.toInt64) hx hb dX5_noCitizen_1 rfl ?_
  refine lv_lconst (v := (0 : Int64)) hx hb dX5_noCitizen_2 (by decide) ?_
  refine lv_aload_n hx hb dX5_noCitizen_3 rfl (lv_at hl 0 rfl) ?_
  refine m_get C0 hP iX5_noCitizen_X5 3 (by decide) (by decide +kernel) rfl dX5_noCitizen_4 ?_
  refine lv_i2l (v := (u.1 3).toInt64) hx hb dX5_noCitizen_7 rfl ?_
  refine lv_lconst (v := (1 : Int64)) hx hb dX5_noCitizen_8 (by decide) ?_
  refine lv_lsub hx hb dX5_noCitizen_9 ?_
  obtain ⟨q1, h2, hf⟩ := bd hf
  refine k_roI (run_S (rest := []) (n := 3) (PH := fun _ => True) C0 (tX5_in E h2) gX5_noCitizen_X5_in rfl rfl (by decide +kernel) trivial hl.1 rfl rfl (Nat.le_of_ble_eq_true rfl) dX5_noCitizen_10) ?_
  refine lv_if_ne (tgt := 20) hx hb dX5_noCitizen_13 (by decide) (fun c3 => ?_) (fun c3 => ?_)
  · have hf := el hf c3
    refine lv_iconst (v := (0 : Int32)) hx hb dX5_noCitizen_20 (by decide) ?_
    exact e_roZ C0 hf dX5_noCitizen_21
  · have hf := th hf c3
    refine lv_iconst (v := (1 : Int32)) hx hb dX5_noCitizen_16 (by decide) ?_
    refine lv_goto (tgt := 21) hx hb dX5_noCitizen_17 (by decide) ?_
    exact e_roZ C0 hf dX5_noCitizen_21
set_option maxHeartbeats 4000000 in
set_option maxRecDepth 100000 in
theorem tX5_noCitizen {l : Launch} (E : EE) (B : Nat → Nat) {u : SM} {x1 : Int32} {out : Int32} (hf : fX5_noCitizen x1 u = some out) : roI l yX5_noCitizen wsX5_noCitizen rmX5_noCitizen E [.ref (B 0), .int x1] (fP E (cM E B u)) out := by
  refine Met.ofW (cc := cX5_noCitizen) (maxL := 2) (ret := (some .boolean)) (by decide) rfl ?_
  intro p e s m args below meth c s₁ B0 hml hv
  obtain ⟨rfl, hP, hK⟩ := hv
  have C0 : cx wsX5_noCitizen cX5_noCitizen 2 (some .boolean) RX5 E p s m _ meth c := ⟨B0.exec, B0.bytes, B0.returns, hml, findClass_of_methodNamed B0.named, atoms_spec (ws := wsX5_noCitizen) B0.pre, B0.notSynchronized, hK⟩
  have hl := lv_entry ([.ref (B 0), .int x1]) (n := 2) (Nat.le_of_ble_eq_true rfl)
  rw [lg_entry_eq]
  generalize (lg_sl ([.ref (B 0), .int x1]) ++ List.replicate (2 - (lg_sl ([.ref (B 0), .int x1])).length) Slot.unset).toArray = ls at hl ⊢
  exact tX5_noCitizen_0 C0 hP hl hf
abbrev rmX5_everybody : Room := { frames := 0, cells := 0, slots := 0, locals := 0 }
set_option maxRecDepth 20000 in
theorem iX5_everybody_X5 : ∀ w ∈ wsX50, w ∈ wsX5_everybody := by decide +kernel
set_option maxHeartbeats 4000000 in
set_option maxRecDepth 100000 in
theorem tX5_everybody_0 {p : Program} {l : Launch} {e : Env} {s : State} {m : MethodId} {args : Array Value} {below : List Frame} {meth : Method} {c : Code} {E : EE} {B : Nat → Nat} {u : SM} {out : Int32} (C0 : cx wsX5_everybody cX5_everybody 1 (some .int) RX5 E p s m args meth c) (hP : fP E (cM E B u) s.heap) {ls : Array Slot} (hl : lv_has ls 1 [(0, .ref (B 0))]) (hf : fX5_everybody u = some out) : W p l e rmX5_everybody s m args below meth c s.heap [] 0 0 (MQ below (vp_Si (fun r => r = out)) args s 0 0 (fun _ => False)) (F0 m 0 ls []) := by
  obtain ⟨hx, hb, hr, hml, hown, hts, hlk, hK⟩ := id C0
  unfold fX5_everybody at hf
  refine lv_iconst (v := (1 : Int32)) hx hb dX5_everybody_0 (by decide) ?_
  refine lv_aload_n hx hb dX5_everybody_1 rfl (lv_at hl 0 rfl) ?_
  refine m_get C0 hP iX5_everybody_X5 3 (by decide) (by decide +kernel) rfl dX5_everybody_2 ?_
  refine lv_ishl hx hb dX5_everybody_5 ?_
  refine lv_iconst (v := (1 : Int32)) hx hb dX5_everybody_6 (by decide) ?_
  refine lv_isub hx hb dX5_everybody_7 ?_
  exact e_roI C0 hf dX5_everybody_8
set_option maxHeartbeats 4000000 in
set_option maxRecDepth 100000 in
theorem tX5_everybody {l : Launch} (E : EE) (B : Nat → Nat) {u : SM} {out : Int32} (hf : fX5_everybody u = some out) : roI l yX5_everybody wsX5_everybody rmX5_everybody E [.ref (B 0)] (fP E (cM E B u)) out := by
  refine Met.ofW (cc := cX5_everybody) (maxL := 1) (ret := (some .int)) (by decide) rfl ?_
  intro p e s m args below meth c s₁ B0 hml hv
  obtain ⟨rfl, hP, hK⟩ := hv
  have C0 : cx wsX5_everybody cX5_everybody 1 (some .int) RX5 E p s m _ meth c := ⟨B0.exec, B0.bytes, B0.returns, hml, findClass_of_methodNamed B0.named, atoms_spec (ws := wsX5_everybody) B0.pre, B0.notSynchronized, hK⟩
  have hl := lv_entry ([.ref (B 0)]) (n := 1) (Nat.le_of_ble_eq_true rfl)
  rw [lg_entry_eq]
  generalize (lg_sl ([.ref (B 0)]) ++ List.replicate (1 - (lg_sl ([.ref (B 0)])).length) Slot.unset).toArray = ls at hl ⊢
  exact tX5_everybody_0 C0 hP hl hf
abbrev rmX5_codeAt : Room := { frames := 0, cells := 0, slots := 0, locals := 0 }
set_option maxRecDepth 20000 in
theorem iX5_codeAt_X5 : ∀ w ∈ wsX50, w ∈ wsX5_codeAt := by decide +kernel
set_option maxHeartbeats 4000000 in
set_option maxRecDepth 100000 in
theorem tX5_codeAt_0 {p : Program} {l : Launch} {e : Env} {s : State} {m : MethodId} {args : Array Value} {below : List Frame} {meth : Method} {c : Code} {E : EE} {B : Nat → Nat} {u : SM} {out : Int32} (C0 : cx wsX5_codeAt cX5_codeAt 3 (some .int) RX5 E p s m args meth c) (hP : fP E (cM E B u) s.heap) {x1 : Int32} {x2 : Int32} {ls : Array Slot} (hl : lv_has ls 3 [(0, .ref (B 0)), (1, .int x1), (2, .int x2)]) (hf : fX5_codeAt x1 x2 u = some out) : W p l e rmX5_codeAt s m args below meth c s.heap [] 0 0 (MQ below (vp_Si (fun r => r = out)) args s 0 0 (fun _ => False)) (F0 m 0 ls []) := by
  obtain ⟨hx, hb, hr, hml, hown, hts, hlk, hK⟩ := id C0
  unfold fX5_codeAt at hf
  refine lv_aload_n hx hb dX5_codeAt_0 rfl (lv_at hl 0 rfl) ?_
  refine m_get C0 hP iX5_codeAt_X5 8 (by decide) (by decide +kernel) rfl dX5_codeAt_1 ?_
  refine lv_iload_n hx hb dX5_codeAt_4 rfl (lv_at hl 2 rfl) ?_
  refine lv_icmp_ge (tgt := 22) hx hb dX5_codeAt_5 (by decide) (fun c1 => ?_) (fun c1 => ?_)
  · have hf := th hf c1
    refine lv_bipush (v := (-9 : Int32)) hx hb dX5_codeAt_22 (by decide) ?_
    exact e_roI C0 hf dX5_codeAt_24
  · have hf := el hf c1
    refine lv_aload_n hx hb dX5_codeAt_8 rfl (lv_at hl 0 rfl) ?_
    refine m_get C0 hP iX5_codeAt_X5 21 (by decide) (by decide +kernel) rfl dX5_codeAt_9 ?_
    refine lv_iload_n hx hb dX5_codeAt_12 rfl (lv_at hl 1 rfl) ?_
    refine lv_aload_n hx hb dX5_codeAt_13 rfl (lv_at hl 0 rfl) ?_
    refine m_get C0 hP iX5_codeAt_X5 8 (by decide) (by decide +kernel) rfl dX5_codeAt_14 ?_
    refine lv_iadd hx hb dX5_codeAt_17 ?_
    obtain ⟨h2, hf⟩ := gd hf
    refine m_ald C0 hP 10 240 rfl h2 dX5_codeAt_18 ?_
    refine lv_goto (tgt := 24) hx hb dX5_codeAt_19 (by decide) ?_
    exact e_roI C0 hf dX5_codeAt_24
set_option maxHeartbeats 4000000 in
set_option maxRecDepth 100000 in
theorem tX5_codeAt {l : Launch} (E : EE) (B : Nat → Nat) {u : SM} {x1 : Int32} {x2 : Int32} {out : Int32} (hf : fX5_codeAt x1 x2 u = some out) : roI l yX5_codeAt wsX5_codeAt rmX5_codeAt E [.ref (B 0), .int x1, .int x2] (fP E (cM E B u)) out := by
  refine Met.ofW (cc := cX5_codeAt) (maxL := 3) (ret := (some .int)) (by decide) rfl ?_
  intro p e s m args below meth c s₁ B0 hml hv
  obtain ⟨rfl, hP, hK⟩ := hv
  have C0 : cx wsX5_codeAt cX5_codeAt 3 (some .int) RX5 E p s m _ meth c := ⟨B0.exec, B0.bytes, B0.returns, hml, findClass_of_methodNamed B0.named, atoms_spec (ws := wsX5_codeAt) B0.pre, B0.notSynchronized, hK⟩
  have hl := lv_entry ([.ref (B 0), .int x1, .int x2]) (n := 3) (Nat.le_of_ble_eq_true rfl)
  rw [lg_entry_eq]
  generalize (lg_sl ([.ref (B 0), .int x1, .int x2]) ++ List.replicate (3 - (lg_sl ([.ref (B 0), .int x1, .int x2])).length) Slot.unset).toArray = ls at hl ⊢
  exact tX5_codeAt_0 C0 hP hl hf
abbrev rmX5_figure : Room := { frames := 1, cells := 0, slots := 0, locals := 25 }
set_option maxRecDepth 20000 in
theorem iX5_figure_X5 : ∀ w ∈ wsX50, w ∈ wsX5_figure := by decide +kernel
set_option maxHeartbeats 4000000 in
set_option maxRecDepth 100000 in
theorem tX5_figure_39 {p : Program} {l : Launch} {e : Env} {s : State} {m : MethodId} {args : Array Value} {below : List Frame} {meth : Method} {c : Code} {E : EE} {B : Nat → Nat} {out : Int32 × SM} (C0 : cx wsX5_figure cX5_figure 7 (some .int) RX5 E p s m args meth c) {x5 : Int32} {x6 : Int32} {xs1 : Int32} {xs2 : Int32} {u : SM} {H : Heap} {locs : List Loc} {ls : Array Slot} (hW : WM E B u s H locs) (hl : lv_has ls 7 [(5, .int x5), (6, .int x6)]) (hf : fX5_figure_39 x5 x6 xs1 xs2 u = some out) : W p l e rmX5_figure s m args below meth c H locs 0 0 (MQ below (va_Qi (fun r (_ : Unit) => r = out.1) (fun _ t => fP E (cM E B out.2) t.heap) (aM B)) args s 0 0 (aM B)) (F0 m 39 ls [.int xs2, .int xs1, .ref (B 0)]) := by
  obtain ⟨hx, hb, hr, hml, hown, hts, hlk, hK⟩ := id C0
  unfold fX5_figure_39 at hf
  refine lv_iadd hx hb dX5_figure_39 ?_
  refine m_put C0 hW iX5_figure_X5 8 (by decide) (by decide +kernel) rfl (by decide +kernel) rfl dX5_figure_40 (fun H locs hW => ?_)
  have hW : WM E B ((upd u.1 8 (xs1 + xs2)), u.2) s H locs := hW
  refine lv_iload hx hb dX5_figure_43 (lv_at hl 1 rfl) ?_
  refine lv_if_eq (tgt := 53) hx hb dX5_figure_45 (by decide) (fun c1 => ?_) (fun c1 => ?_)
  · have hf := th hf c1
    refine lv_bipush (v := (-9 : Int32)) hx hb dX5_figure_53 (by decide) ?_
    obtain rfl := Option.some.inj hf
    exact e_muI (QH := fP E (cM E B ((upd u.1 8 (xs1 + xs2)), u.2))) C0 hW.2.2 rfl hW.2.1 dX5_figure_55
  · have hf := el hf c1
    refine lv_iload hx hb dX5_figure_48 (lv_at hl 0 rfl) ?_
    refine lv_goto (tgt := 55) hx hb dX5_figure_50 (by decide) ?_
    obtain rfl := Option.some.inj hf
    exact e_muI (QH := fP E (cM E B ((upd u.1 8 (xs1 + xs2)), u.2))) C0 hW.2.2 rfl hW.2.1 dX5_figure_55
set_option maxHeartbeats 4000000 in
set_option maxRecDepth 100000 in
theorem tX5_figure_0 {p : Program} {l : Launch} {e : Env} {s : State} {m : MethodId} {args : Array Value} {below : List Frame} {meth : Method} {c : Code} {E : EE} {B : Nat → Nat} {out : Int32 × SM} (C0 : cx wsX5_figure cX5_figure 7 (some .int) RX5 E p s m args meth c) {x1 : Int32} {x2 : Int32} {x3 : Int32} {x4 : Int32} {u : SM} {H : Heap} {locs : List Loc} {ls : Array Slot} (hW : WM E B u s H locs) (hl : lv_has ls 7 [(0, .ref (B 0)), (1, .int x1), (2, .int x2), (3, .int x3), (4, .int x4)]) (hf : fX5_figure x1 x2 x3 x4 u = some out) : W p l e rmX5_figure s m args below meth c H locs 0 0 (MQ below (va_Qi (fun r (_ : Unit) => r = out.1) (fun _ t => fP E (cM E B out.2) t.heap) (aM B)) args s 0 0 (aM B)) (F0 m 0 ls []) := by
  obtain ⟨hx, hb, hr, hml, hown, hts, hlk, hK⟩ := id C0
  unfold fX5_figure at hf
  refine lv_aload_n hx hb dX5_figure_0 rfl (lv_at hl 0 rfl) ?_
  refine lv_iload_n hx hb dX5_figure_1 rfl (lv_at hl 1 rfl) ?_
  refine lv_iload_n hx hb dX5_figure_2 rfl (lv_at hl 2 rfl) ?_
  obtain ⟨q1, h2, hf⟩ := bd hf
  refine k_roI (run_V (rest := []) (n := 2) C0 (tX5_codeAt E B h2) gX5_figure_X5_codeAt rfl rfl (by decide +kernel) (hW.2.1 0 _ rfl) rfl rfl hW.2.1 hl.1 rfl rfl (Nat.le_of_ble_eq_true rfl) dX5_figure_3) ?_
  refine lv_bipush (v := (48 : Int32)) hx hb dX5_figure_6 (by decide) ?_
  refine lv_isub hx hb dX5_figure_8 ?_
  refine lv_istore (lv' := [(5, .int (q1 - (48 : Int32))), (0, .ref (B 0)), (1, .int x1), (2, .int x2), (3, .int x3), (4, .int x4)]) hx hb dX5_figure_9 hl (by decide) rfl (fun ls hl => ?_)
  refine lv_iload hx hb dX5_figure_11 (lv_at hl 0 rfl) ?_
  refine lv_i2l (v := (q1 - (48 : Int32)).toInt64) hx hb dX5_figure_13 rfl ?_
  refine lv_iload_n hx hb dX5_figure_14 rfl (lv_at hl 4 rfl) ?_
  refine lv_i2l (v := x3.toInt64) hx hb dX5_figure_15 rfl ?_
  refine lv_iload hx hb dX5_figure_16 (lv_at hl 5 rfl) ?_
  refine lv_i2l (v := x4.toInt64) hx hb dX5_figure_18 rfl ?_
  obtain ⟨q3, h4, hf⟩ := bd hf
  refine k_roI (run_S (rest := []) (n := 3) (PH := fun _ => True) C0 (tX5_in E h4) gX5_figure_X5_in rfl rfl (by decide +kernel) trivial hl.1 rfl rfl (Nat.le_of_ble_eq_true rfl) dX5_figure_19) ?_
  refine lv_istore (lv' := [(6, .int q3), (5, .int (q1 - (48 : Int32))), (0, .ref (B 0)), (1, .int x1), (2, .int x2), (3, .int x3), (4, .int x4)]) hx hb dX5_figure_22 hl (by decide) rfl (fun ls hl => ?_)
  refine lv_aload_n hx hb dX5_figure_24 rfl (lv_at hl 2 rfl) ?_
  refine lv_dup hx hb dX5_figure_25 rfl ?_
  refine m_get C0 hW.2.1 iX5_figure_X5 8 (by decide) (by decide +kernel) rfl dX5_figure_26 ?_
  refine lv_iload hx hb dX5_figure_29 (lv_at hl 0 rfl) ?_
  refine lv_if_eq (tgt := 38) hx hb dX5_figure_31 (by decide) (fun c5 => ?_) (fun c5 => ?_)
  · have hf := th hf c5
    refine lv_iconst (v := (0 : Int32)) hx hb dX5_figure_38 (by decide) ?_
    exact tX5_figure_39 C0 hW (lv_sub hl [1, 0] rfl) hf
  · have hf := el hf c5
    refine lv_iconst (v := (1 : Int32)) hx hb dX5_figure_34 (by decide) ?_
    refine lv_goto (tgt := 39) hx hb dX5_figure_35 (by decide) ?_
    exact tX5_figure_39 C0 hW (lv_sub hl [1, 0] rfl) hf
set_option maxHeartbeats 4000000 in
set_option maxRecDepth 100000 in
theorem tX5_figure {l : Launch} (E : EE) (B : Nat → Nat) {u : SM} {x1 : Int32} {x2 : Int32} {x3 : Int32} {x4 : Int32} {out : Int32 × SM} (hB : iM B) (hf : fX5_figure x1 x2 x3 x4 u = some out) : muI l yX5_figure wsX5_figure rmX5_figure E [.ref (B 0), .int x1, .int x2, .int x3, .int x4] (aM B) (fP E (cM E B u)) (fP E (cM E B out.2)) out.1 := by
  refine Met.ofW (cc := cX5_figure) (maxL := 7) (ret := (some .int)) (by decide) rfl ?_
  intro p e s m args below meth c s₁ B0 hml hv
  obtain ⟨rfl, hP, hK⟩ := hv
  have C0 : cx wsX5_figure cX5_figure 7 (some .int) RX5 E p s m _ meth c := ⟨B0.exec, B0.bytes, B0.returns, hml, findClass_of_methodNamed B0.named, atoms_spec (ws := wsX5_figure) B0.pre, B0.notSynchronized, hK⟩
  have hl := lv_entry ([.ref (B 0), .int x1, .int x2, .int x3, .int x4]) (n := 7) (Nat.le_of_ble_eq_true rfl)
  rw [lg_entry_eq]
  generalize (lg_sl ([.ref (B 0), .int x1, .int x2, .int x3, .int x4]) ++ List.replicate (7 - (lg_sl ([.ref (B 0), .int x1, .int x2, .int x3, .int x4])).length) Slot.unset).toArray = ls at hl ⊢
  exact tX5_figure_0 C0 ⟨hB, hP, va_S.rf⟩ hl hf
abbrev rmX5_readsCitizen : Room := { frames := 2, cells := 0, slots := 0, locals := 51 }
set_option maxRecDepth 20000 in
theorem iX5_readsCitizen_X5 : ∀ w ∈ wsX50, w ∈ wsX5_readsCitizen := by decide +kernel
set_option maxHeartbeats 4000000 in
set_option maxRecDepth 100000 in
theorem tX5_readsCitizen_20 {p : Program} {l : Launch} {e : Env} {s : State} {m : MethodId} {args : Array Value} {below : List Frame} {meth : Method} {c : Code} {E : EE} {B : Nat → Nat} {out : Int32 × SM} (C0 : cx wsX5_readsCitizen cX5_readsCitizen 8 (some .boolean) RX5 E p s m args meth c) {u : SM} {H : Heap} {locs : List Loc} {ls : Array Slot} (hW : WM E B u s H locs) (hl : lv_has ls 8 []) (hf : fX5_readsCitizen_20 u = some out) : W p l e rmX5_readsCitizen s m args below meth c H locs 0 0 (MQ below (va_Qi (fun r (_ : Unit) => r = out.1) (fun _ t => fP E (cM E B out.2) t.heap) (aM B)) args s 0 0 (aM B)) (F0 m 20 ls []) := by
  obtain ⟨hx, hb, hr, hml, hown, hts, hlk, hK⟩ := id C0
  unfold fX5_readsCitizen_20 at hf
  refine lv_iconst (v := (0 : Int32)) hx hb dX5_readsCitizen_20 (by decide) ?_
  obtain ⟨h1, hf⟩ := gd hf
  obtain rfl := Option.some.inj hf
  exact e_muZ (QH := fP E (cM E B u)) C0 hW.2.2 (Decidable.of_not_not h1) rfl hW.2.1 dX5_readsCitizen_21
set_option maxHeartbeats 4000000 in
set_option maxRecDepth 100000 in
theorem tX5_readsCitizen_246 {p : Program} {l : Launch} {e : Env} {s : State} {m : MethodId} {args : Array Value} {below : List Frame} {meth : Method} {c : Code} {E : EE} {B : Nat → Nat} {out : Int32 × SM} (C0 : cx wsX5_readsCitizen cX5_readsCitizen 8 (some .boolean) RX5 E p s m args meth c) {xs1 : Int32} {xs2 : Int32} {u : SM} {H : Heap} {locs : List Loc} {ls : Array Slot} (hW : WM E B u s H locs) (hl : lv_has ls 8 [(0, .ref (B 0))]) (hf : fX5_readsCitizen_246 xs1 xs2 u = some out) : W p l e rmX5_readsCitizen s m args below meth c H locs 0 0 (MQ below (va_Qi (fun r (_ : Unit) => r = out.1) (fun _ t => fP E (cM E B out.2) t.heap) (aM B)) args s 0 0 (aM B)) (F0 m 246 ls [.int xs2, .int xs1, .ref (B 0)]) := by
  obtain ⟨hx, hb, hr, hml, hown, hts, hlk, hK⟩ := id C0
  unfold fX5_readsCitizen_246 at hf
  refine lv_ior hx hb dX5_readsCitizen_246 ?_
  refine m_put C0 hW iX5_readsCitizen_X5 12 (by decide) (by decide +kernel) rfl (by decide +kernel) rfl dX5_readsCitizen_247 (fun H locs hW => ?_)
  have hW : WM E B ((upd u.1 12 (xs1 ||| xs2)), u.2) s H locs := hW
  refine lv_aload_n hx hb dX5_readsCitizen_250 rfl (lv_at hl 0 rfl) ?_
  refine lv_dup hx hb dX5_readsCitizen_251 rfl ?_
  refine m_get C0 hW.2.1 iX5_readsCitizen_X5 11 (by decide) (by decide +kernel) rfl dX5_readsCitizen_252 ?_
  refine lv_iconst (v := (1 : Int32)) hx hb dX5_readsCitizen_255 (by decide) ?_
  refine lv_iadd hx hb dX5_readsCitizen_256 ?_
  refine m_put C0 hW iX5_readsCitizen_X5 11 (by decide) (by decide +kernel) rfl (by decide +kernel) rfl dX5_readsCitizen_257 (fun H locs hW => ?_)
  have hW : WM E B ((upd (upd u.1 12 (xs1 ||| xs2)) 11 (((upd u.1 12 (xs1 ||| xs2)) 11) + (1 : Int32))), u.2) s H locs := hW
  refine lv_iconst (v := (1 : Int32)) hx hb dX5_readsCitizen_260 (by decide) ?_
  obtain ⟨h1, hf⟩ := gd hf
  obtain rfl := Option.some.inj hf
  exact e_muZ (QH := fP E (cM E B ((upd (upd u.1 12 (xs1 ||| xs2)) 11 (((upd u.1 12 (xs1 ||| xs2)) 11) + (1 : Int32))), u.2))) C0 hW.2.2 (Decidable.of_not_not h1) rfl hW.2.1 dX5_readsCitizen_261
set_option maxHeartbeats 4000000 in
set_option maxRecDepth 100000 in
theorem tX5_readsCitizen_195 {p : Program} {l : Launch} {e : Env} {s : State} {m : MethodId} {args : Array Value} {below : List Frame} {meth : Method} {c : Code} {E : EE} {B : Nat → Nat} {out : Int32 × SM} (C0 : cx wsX5_readsCitizen cX5_readsCitizen 8 (some .boolean) RX5 E p s m args meth c) {x4 : Int32} {x5 : Int32} {x6 : Int32} {x7 : Int32} {xs1 : Int32} {xs2 : Int32} {u : SM} {H : Heap} {locs : List Loc} {ls : Array Slot} (hW : WM E B u s H locs) (hl : lv_has ls 8 [(0, .ref (B 0)), (4, .int x4), (5, .int x5), (6, .int x6), (7, .int x7)]) (hf : fX5_readsCitizen_195 x4 x5 x6 x7 xs1 xs2 u = some out) : W p l e rmX5_readsCitizen s m args below meth c H locs 0 0 (MQ below (va_Qi (fun r (_ : Unit) => r = out.1) (fun _ t => fP E (cM E B out.2) t.heap) (aM B)) args s 0 0 (aM B)) (F0 m 195 ls [.int xs2, .int xs1, .ref (B 4)]) := by
  obtain ⟨hx, hb, hr, hml, hown, hts, hlk, hK⟩ := id C0
  unfold fX5_readsCitizen_195 at hf
  obtain ⟨h1, hf⟩ := gd hf
  refine m_ast C0 hW 4 6 (by decide) (by decide) rfl h1 dX5_readsCitizen_195 (fun H locs hW => ?_)
  have hW : WM E B (u.1, (va_up u.2 4 (upd (u.2 4) xs1.toNatClampNeg xs2))) s H locs := hW
  refine lv_aload_n hx hb dX5_readsCitizen_196 rfl (lv_at hl 0 rfl) ?_
  refine m_get C0 hW.2.1 iX5_readsCitizen_X5 14 (by decide) (by decide +kernel) rfl dX5_readsCitizen_197 ?_
  refine lv_aload_n hx hb dX5_readsCitizen_200 rfl (lv_at hl 0 rfl) ?_
  refine m_get C0 hW.2.1 iX5_readsCitizen_X5 11 (by decide) (by decide +kernel) rfl dX5_readsCitizen_201 ?_
  refine lv_iload hx hb dX5_readsCitizen_204 (lv_at hl 1 rfl) ?_
  obtain ⟨h2, hf⟩ := gd hf
  refine m_ast C0 hW 5 6 (by decide) (by decide) rfl h2 dX5_readsCitizen_206 (fun H locs hW => ?_)
  have hW : WM E B (u.1, (va_up (va_up u.2 4 (upd (u.2 4) xs1.toNatClampNeg xs2)) 5 (upd ((va_up u.2 4 (upd (u.2 4) xs1.toNatClampNeg xs2)) 5) ((u.1 11).toNatClampNeg) x4))) s H locs := hW
  refine lv_aload_n hx hb dX5_readsCitizen_207 rfl (lv_at hl 0 rfl) ?_
  refine m_get C0 hW.2.1 iX5_readsCitizen_X5 15 (by decide) (by decide +kernel) rfl dX5_readsCitizen_208 ?_
  refine lv_aload_n hx hb dX5_readsCitizen_211 rfl (lv_at hl 0 rfl) ?_
  refine m_get C0 hW.2.1 iX5_readsCitizen_X5 11 (by decide) (by decide +kernel) rfl dX5_readsCitizen_212 ?_
  refine lv_bipush (v := (10 : Int32)) hx hb dX5_readsCitizen_215 (by decide) ?_
  refine lv_iload hx hb dX5_readsCitizen_217 (lv_at hl 2 rfl) ?_
  refine lv_imul hx hb dX5_readsCitizen_219 ?_
  refine lv_iload hx hb dX5_readsCitizen_220 (lv_at hl 3 rfl) ?_
  refine lv_iadd hx hb dX5_readsCitizen_222 ?_
  obtain ⟨h3, hf⟩ := gd hf
  refine m_ast C0 hW 6 6 (by decide) (by decide) rfl h3 dX5_readsCitizen_223 (fun H locs hW => ?_)
  have hW : WM E B (u.1, (va_up (va_up (va_up u.2 4 (upd (u.2 4) xs1.toNatClampNeg xs2)) 5 (upd ((va_up u.2 4 (upd (u.2 4) xs1.toNatClampNeg xs2)) 5) ((u.1 11).toNatClampNeg) x4)) 6 (upd ((va_up (va_up u.2 4 (upd (u.2 4) xs1.toNatClampNeg xs2)) 5 (upd ((va_up u.2 4 (upd (u.2 4) xs1.toNatClampNeg xs2)) 5) ((u.1 11).toNatClampNeg) x4)) 6) ((u.1 11).toNatClampNeg) (((10 : Int32) * x5) + x6)))) s H locs := hW
  refine lv_aload_n hx hb dX5_readsCitizen_224 rfl (lv_at hl 0 rfl) ?_
  refine lv_dup hx hb dX5_readsCitizen_225 rfl ?_
  refine m_get C0 hW.2.1 iX5_readsCitizen_X5 12 (by decide) (by decide +kernel) rfl dX5_readsCitizen_226 ?_
  refine lv_iload hx hb dX5_readsCitizen_229 (lv_at hl 4 rfl) ?_
  refine lv_bipush (v := (121 : Int32)) hx hb dX5_readsCitizen_231 (by decide) ?_
  refine lv_icmp_ne (tgt := 245) hx hb dX5_readsCitizen_233 (by decide) (fun c4 => ?_) (fun c4 => ?_)
  · have hf := el hf c4
    refine lv_iconst (v := (0 : Int32)) hx hb dX5_readsCitizen_245 (by decide) ?_
    exact tX5_readsCitizen_246 C0 hW (lv_sub hl [0] rfl) hf
  · have hf := th hf c4
    refine lv_iconst (v := (1 : Int32)) hx hb dX5_readsCitizen_236 (by decide) ?_
    refine lv_aload_n hx hb dX5_readsCitizen_237 rfl (lv_at hl 0 rfl) ?_
    refine m_get C0 hW.2.1 iX5_readsCitizen_X5 11 (by decide) (by decide +kernel) rfl dX5_readsCitizen_238 ?_
    refine lv_ishl hx hb dX5_readsCitizen_241 ?_
    refine lv_goto (tgt := 246) hx hb dX5_readsCitizen_242 (by decide) ?_
    exact tX5_readsCitizen_246 C0 hW (lv_sub hl [0] rfl) hf
set_option maxHeartbeats 4000000 in
set_option maxRecDepth 100000 in
theorem tX5_readsCitizen_156 {p : Program} {l : Launch} {e : Env} {s : State} {m : MethodId} {args : Array Value} {below : List Frame} {meth : Method} {c : Code} {E : EE} {B : Nat → Nat} {out : Int32 × SM} (C0 : cx wsX5_readsCitizen cX5_readsCitizen 8 (some .boolean) RX5 E p s m args meth c) {x3 : Int32} {x4 : Int32} {x5 : Int32} {x6 : Int32} {x7 : Int32} {u : SM} {H : Heap} {locs : List Loc} {ls : Array Slot} (hW : WM E B u s H locs) (hl : lv_has ls 8 [(0, .ref (B 0)), (3, .int x3), (4, .int x4), (5, .int x5), (6, .int x6), (7, .int x7)]) (hf : fX5_readsCitizen_156 x3 x4 x5 x6 x7 u = some out) : W p l e rmX5_readsCitizen s m args below meth c H locs 0 0 (MQ below (va_Qi (fun r (_ : Unit) => r = out.1) (fun _ t => fP E (cM E B out.2) t.heap) (aM B)) args s 0 0 (aM B)) (F0 m 156 ls []) := by
  obtain ⟨hx, hb, hr, hml, hown, hts, hlk, hK⟩ := id C0
  unfold fX5_readsCitizen_156 at hf
  refine lv_aload_n hx hb dX5_readsCitizen_156 rfl (lv_at hl 0 rfl) ?_
  refine lv_dup hx hb dX5_readsCitizen_157 rfl ?_
  refine m_get C0 hW.2.1 iX5_readsCitizen_X5 8 (by decide) (by decide +kernel) rfl dX5_readsCitizen_158 ?_
  refine lv_iconst (v := (1 : Int32)) hx hb dX5_readsCitizen_161 (by decide) ?_
  refine lv_iadd hx hb dX5_readsCitizen_162 ?_
  refine m_put C0 hW iX5_readsCitizen_X5 8 (by decide) (by decide +kernel) rfl (by decide +kernel) rfl dX5_readsCitizen_163 (fun H locs hW => ?_)
  have hW : WM E B ((upd u.1 8 ((u.1 8) + (1 : Int32))), u.2) s H locs := hW
  refine lv_aload_n hx hb dX5_readsCitizen_166 rfl (lv_at hl 0 rfl) ?_
  refine m_get C0 hW.2.1 iX5_readsCitizen_X5 13 (by decide) (by decide +kernel) rfl dX5_readsCitizen_167 ?_
  refine lv_aload_n hx hb dX5_readsCitizen_170 rfl (lv_at hl 0 rfl) ?_
  refine m_get C0 hW.2.1 iX5_readsCitizen_X5 11 (by decide) (by decide +kernel) rfl dX5_readsCitizen_171 ?_
  refine lv_iload_n hx hb dX5_readsCitizen_174 rfl (lv_at hl 1 rfl) ?_
  refine lv_bipush (v := (99 : Int32)) hx hb dX5_readsCitizen_175 (by decide) ?_
  refine lv_icmp_ne (tgt := 184) hx hb dX5_readsCitizen_177 (by decide) (fun c1 => ?_) (fun c1 => ?_)
  · have hf := el hf c1
    refine lv_iload_n hx hb dX5_readsCitizen_184 rfl (lv_at hl 1 rfl) ?_
    refine lv_bipush (v := (114 : Int32)) hx hb dX5_readsCitizen_185 (by decide) ?_
    refine lv_icmp_ne (tgt := 194) hx hb dX5_readsCitizen_187 (by decide) (fun c2 => ?_) (fun c2 => ?_)
    · have hf := el hf c2
      refine lv_iconst (v := (2 : Int32)) hx hb dX5_readsCitizen_194 (by decide) ?_
      exact tX5_readsCitizen_195 C0 hW (lv_sub hl [0, 2, 3, 4, 5] rfl) hf
    · have hf := th hf c2
      refine lv_iconst (v := (1 : Int32)) hx hb dX5_readsCitizen_190 (by decide) ?_
      refine lv_goto (tgt := 195) hx hb dX5_readsCitizen_191 (by decide) ?_
      exact tX5_readsCitizen_195 C0 hW (lv_sub hl [0, 2, 3, 4, 5] rfl) hf
  · have hf := th hf c1
    refine lv_iconst (v := (0 : Int32)) hx hb dX5_readsCitizen_180 (by decide) ?_
    refine lv_goto (tgt := 195) hx hb dX5_readsCitizen_181 (by decide) ?_
    exact tX5_readsCitizen_195 C0 hW (lv_sub hl [0, 2, 3, 4, 5] rfl) hf
set_option maxHeartbeats 4000000 in
set_option maxRecDepth 100000 in
theorem tX5_readsCitizen_138 {p : Program} {l : Launch} {e : Env} {s : State} {m : MethodId} {args : Array Value} {below : List Frame} {meth : Method} {c : Code} {E : EE} {B : Nat → Nat} {out : Int32 × SM} (C0 : cx wsX5_readsCitizen cX5_readsCitizen 8 (some .boolean) RX5 E p s m args meth c) {x3 : Int32} {x4 : Int32} {x5 : Int32} {x6 : Int32} {xs0 : Int32} {u : SM} {H : Heap} {locs : List Loc} {ls : Array Slot} (hW : WM E B u s H locs) (hl : lv_has ls 8 [(0, .ref (B 0)), (3, .int x3), (4, .int x4), (5, .int x5), (6, .int x6)]) (hf : fX5_readsCitizen_138 x3 x4 x5 x6 xs0 u = some out) : W p l e rmX5_readsCitizen s m args below meth c H locs 0 0 (MQ below (va_Qi (fun r (_ : Unit) => r = out.1) (fun _ t => fP E (cM E B out.2) t.heap) (aM B)) args s 0 0 (aM B)) (F0 m 138 ls [.int xs0]) := by
  obtain ⟨hx, hb, hr, hml, hown, hts, hlk, hK⟩ := id C0
  unfold fX5_readsCitizen_138 at hf
  refine lv_istore (lv' := [(7, .int xs0), (0, .ref (B 0)), (3, .int x3), (4, .int x4), (5, .int x5), (6, .int x6)]) hx hb dX5_readsCitizen_138 hl (by decide) rfl (fun ls hl => ?_)
  refine lv_iload hx hb dX5_readsCitizen_140 (lv_at hl 0 rfl) ?_
  refine lv_bipush (v := (121 : Int32)) hx hb dX5_readsCitizen_142 (by decide) ?_
  refine lv_icmp_eq (tgt := 156) hx hb dX5_readsCitizen_144 (by decide) (fun c1 => ?_) (fun c1 => ?_)
  · have hf := th hf c1
    exact tX5_readsCitizen_156 C0 hW (lv_sub hl [1, 2, 3, 4, 5, 0] rfl) hf
  · have hf := el hf c1
    refine lv_iload hx hb dX5_readsCitizen_147 (lv_at hl 0 rfl) ?_
    refine lv_bipush (v := (110 : Int32)) hx hb dX5_readsCitizen_149 (by decide) ?_
    refine lv_icmp_eq (tgt := 156) hx hb dX5_readsCitizen_151 (by decide) (fun c2 => ?_) (fun c2 => ?_)
    · have hf := th hf c2
      exact tX5_readsCitizen_156 C0 hW (lv_sub hl [1, 2, 3, 4, 5, 0] rfl) hf
    · have hf := el hf c2
      refine lv_iconst (v := (0 : Int32)) hx hb dX5_readsCitizen_154 (by decide) ?_
      obtain ⟨h3, hf⟩ := gd hf
      obtain rfl := Option.some.inj hf
      exact e_muZ (QH := fP E (cM E B u)) C0 hW.2.2 (Decidable.of_not_not h3) rfl hW.2.1 dX5_readsCitizen_155
set_option maxHeartbeats 4000000 in
set_option maxRecDepth 100000 in
theorem tX5_readsCitizen_120 {p : Program} {l : Launch} {e : Env} {s : State} {m : MethodId} {args : Array Value} {below : List Frame} {meth : Method} {c : Code} {E : EE} {B : Nat → Nat} {out : Int32 × SM} (C0 : cx wsX5_readsCitizen cX5_readsCitizen 8 (some .boolean) RX5 E p s m args meth c) {x1 : Int32} {x2 : Int32} {x3 : Int32} {x4 : Int32} {x5 : Int32} {xs0 : Int32} {u : SM} {H : Heap} {locs : List Loc} {ls : Array Slot} (hW : WM E B u s H locs) (hl : lv_has ls 8 [(0, .ref (B 0)), (1, .int x1), (2, .int x2), (3, .int x3), (4, .int x4), (5, .int x5)]) (hf : fX5_readsCitizen_120 x1 x2 x3 x4 x5 xs0 u = some out) : W p l e rmX5_readsCitizen s m args below meth c H locs 0 0 (MQ below (va_Qi (fun r (_ : Unit) => r = out.1) (fun _ t => fP E (cM E B out.2) t.heap) (aM B)) args s 0 0 (aM B)) (F0 m 120 ls [.int xs0]) := by
  obtain ⟨hx, hb, hr, hml, hown, hts, hlk, hK⟩ := id C0
  unfold fX5_readsCitizen_120 at hf
  refine lv_istore (lv' := [(6, .int xs0), (0, .ref (B 0)), (1, .int x1), (2, .int x2), (3, .int x3), (4, .int x4), (5, .int x5)]) hx hb dX5_readsCitizen_120 hl (by decide) rfl (fun ls hl => ?_)
  refine lv_iload hx hb dX5_readsCitizen_122 (lv_at hl 0 rfl) ?_
  refine lv_if_ge (tgt := 132) hx hb dX5_readsCitizen_124 (by decide) (fun c1 => ?_) (fun c1 => ?_)
  · have hf := th hf c1
    refine lv_aload_n hx hb dX5_readsCitizen_132 rfl (lv_at hl 1 rfl) ?_
    refine lv_iload_n hx hb dX5_readsCitizen_133 rfl (lv_at hl 2 rfl) ?_
    refine lv_iload_n hx hb dX5_readsCitizen_134 rfl (lv_at hl 3 rfl) ?_
    obtain ⟨q2, h3, hf⟩ := bd hf
    refine k_roI (run_V (rest := []) (n := 2) C0 (tX5_codeAt E B h3) gX5_readsCitizen_X5_codeAt rfl rfl (by decide +kernel) (hW.2.1 0 _ rfl) rfl rfl hW.2.1 hl.1 rfl rfl (Nat.le_of_ble_eq_true rfl) dX5_readsCitizen_135) ?_
    exact tX5_readsCitizen_138 C0 hW (lv_sub hl [1, 4, 5, 6, 0] rfl) hf
  · have hf := el hf c1
    refine lv_bipush (v := (-9 : Int32)) hx hb dX5_readsCitizen_127 (by decide) ?_
    refine lv_goto (tgt := 138) hx hb dX5_readsCitizen_129 (by decide) ?_
    exact tX5_readsCitizen_138 C0 hW (lv_sub hl [1, 4, 5, 6, 0] rfl) hf
set_option maxHeartbeats 4000000 in
set_option maxRecDepth 100000 in
theorem tX5_readsCitizen_99 {p : Program} {l : Launch} {e : Env} {s : State} {m : MethodId} {args : Array Value} {below : List Frame} {meth : Method} {c : Code} {E : EE} {B : Nat → Nat} {out : Int32 × SM} (C0 : cx wsX5_readsCitizen cX5_readsCitizen 8 (some .boolean) RX5 E p s m args meth c) {x1 : Int32} {x2 : Int32} {x3 : Int32} {x4 : Int32} {xs0 : Int32} {u : SM} {H : Heap} {locs : List Loc} {ls : Array Slot} (hW : WM E B u s H locs) (hl : lv_has ls 8 [(0, .ref (B 0)), (1, .int x1), (2, .int x2), (3, .int x3), (4, .int x4)]) (hf : fX5_readsCitizen_99 x1 x2 x3 x4 xs0 u = some out) : W p l e rmX5_readsCitizen s m args below meth c H locs 0 0 (MQ below (va_Qi (fun r (_ : Unit) => r = out.1) (fun _ t => fP E (cM E B out.2) t.heap) (aM B)) args s 0 0 (aM B)) (F0 m 99 ls [.int xs0]) := by
  obtain ⟨hx, hb, hr, hml, hown, hts, hlk, hK⟩ := id C0
  unfold fX5_readsCitizen_99 at hf
  refine lv_istore (lv' := [(5, .int xs0), (0, .ref (B 0)), (1, .int x1), (2, .int x2), (3, .int x3), (4, .int x4)]) hx hb dX5_readsCitizen_99 hl (by decide) rfl (fun ls hl => ?_)
  refine lv_iload hx hb dX5_readsCitizen_101 (lv_at hl 0 rfl) ?_
  refine lv_if_ge (tgt := 111) hx hb dX5_readsCitizen_103 (by decide) (fun c1 => ?_) (fun c1 => ?_)
  · have hf := th hf c1
    refine lv_aload_n hx hb dX5_readsCitizen_111 rfl (lv_at hl 1 rfl) ?_
    refine lv_iload_n hx hb dX5_readsCitizen_112 rfl (lv_at hl 2 rfl) ?_
    refine lv_iload_n hx hb dX5_readsCitizen_113 rfl (lv_at hl 3 rfl) ?_
    refine lv_iconst (v := (0 : Int32)) hx hb dX5_readsCitizen_114 (by decide) ?_
    refine lv_bipush (v := (9 : Int32)) hx hb dX5_readsCitizen_115 (by decide) ?_
    obtain ⟨q2, h3, hf⟩ := bd hf
    refine k_muI (run_V (rest := []) (n := 4) C0 (tX5_figure E B hW.1 h3) gX5_readsCitizen_X5_figure rfl rfl (by decide +kernel) (hW.2.1 0 _ rfl) rfl rfl hW.2.1 hl.1 rfl rfl (Nat.le_of_ble_eq_true rfl) dX5_readsCitizen_117) hW.2.2 (fun _ h => h) (fun H locs hQ _ hS => ?_)
    have hW : WM E B q2.2 s H locs := ⟨hW.1, hQ, hS⟩
    exact tX5_readsCitizen_120 C0 hW (lv_sub hl [1, 2, 3, 4, 5, 0] rfl) hf
  · have hf := el hf c1
    refine lv_bipush (v := (-9 : Int32)) hx hb dX5_readsCitizen_106 (by decide) ?_
    refine lv_goto (tgt := 120) hx hb dX5_readsCitizen_108 (by decide) ?_
    exact tX5_readsCitizen_120 C0 hW (lv_sub hl [1, 2, 3, 4, 5, 0] rfl) hf
set_option maxHeartbeats 4000000 in
set_option maxRecDepth 100000 in
theorem tX5_readsCitizen_59 {p : Program} {l : Launch} {e : Env} {s : State} {m : MethodId} {args : Array Value} {below : List Frame} {meth : Method} {c : Code} {E : EE} {B : Nat → Nat} {out : Int32 × SM} (C0 : cx wsX5_readsCitizen cX5_readsCitizen 8 (some .boolean) RX5 E p s m args meth c) {x1 : Int32} {x2 : Int32} {x3 : Int32} {u : SM} {H : Heap} {locs : List Loc} {ls : Array Slot} (hW : WM E B u s H locs) (hl : lv_has ls 8 [(0, .ref (B 0)), (1, .int x1), (2, .int x2), (3, .int x3)]) (hf : fX5_readsCitizen_59 x1 x2 x3 u = some out) : W p l e rmX5_readsCitizen s m args below meth c H locs 0 0 (MQ below (va_Qi (fun r (_ : Unit) => r = out.1) (fun _ t => fP E (cM E B out.2) t.heap) (aM B)) args s 0 0 (aM B)) (F0 m 59 ls []) := by
  obtain ⟨hx, hb, hr, hml, hown, hts, hlk, hK⟩ := id C0
  unfold fX5_readsCitizen_59 at hf
  refine lv_aload_n hx hb dX5_readsCitizen_59 rfl (lv_at hl 0 rfl) ?_
  refine lv_dup hx hb dX5_readsCitizen_60 rfl ?_
  refine m_get C0 hW.2.1 iX5_readsCitizen_X5 8 (by decide) (by decide +kernel) rfl dX5_readsCitizen_61 ?_
  refine lv_iconst (v := (1 : Int32)) hx hb dX5_readsCitizen_64 (by decide) ?_
  refine lv_iadd hx hb dX5_readsCitizen_65 ?_
  refine m_put C0 hW iX5_readsCitizen_X5 8 (by decide) (by decide +kernel) rfl (by decide +kernel) rfl dX5_readsCitizen_66 (fun H locs hW => ?_)
  have hW : WM E B ((upd u.1 8 ((u.1 8) + (1 : Int32))), u.2) s H locs := hW
  refine lv_aload_n hx hb dX5_readsCitizen_69 rfl (lv_at hl 0 rfl) ?_
  refine lv_iload_n hx hb dX5_readsCitizen_70 rfl (lv_at hl 1 rfl) ?_
  refine lv_iload_n hx hb dX5_readsCitizen_71 rfl (lv_at hl 2 rfl) ?_
  refine lv_iconst (v := (1 : Int32)) hx hb dX5_readsCitizen_72 (by decide) ?_
  refine lv_bipush (v := (9 : Int32)) hx hb dX5_readsCitizen_73 (by decide) ?_
  obtain ⟨q1, h2, hf⟩ := bd hf
  refine k_muI (run_V (rest := []) (n := 4) C0 (tX5_figure E B hW.1 h2) gX5_readsCitizen_X5_figure rfl rfl (by decide +kernel) (hW.2.1 0 _ rfl) rfl rfl hW.2.1 hl.1 rfl rfl (Nat.le_of_ble_eq_true rfl) dX5_readsCitizen_75) hW.2.2 (fun _ h => h) (fun H locs hQ _ hS => ?_)
  have hW : WM E B q1.2 s H locs := ⟨hW.1, hQ, hS⟩
  refine lv_istore (lv' := [(4, .int q1.1), (0, .ref (B 0)), (1, .int x1), (2, .int x2), (3, .int x3)]) hx hb dX5_readsCitizen_78 hl (by decide) rfl (fun ls hl => ?_)
  refine lv_iload hx hb dX5_readsCitizen_80 (lv_at hl 0 rfl) ?_
  refine lv_if_ge (tgt := 90) hx hb dX5_readsCitizen_82 (by decide) (fun c3 => ?_) (fun c3 => ?_)
  · have hf := th hf c3
    refine lv_aload_n hx hb dX5_readsCitizen_90 rfl (lv_at hl 1 rfl) ?_
    refine lv_iload_n hx hb dX5_readsCitizen_91 rfl (lv_at hl 2 rfl) ?_
    refine lv_iload_n hx hb dX5_readsCitizen_92 rfl (lv_at hl 3 rfl) ?_
    refine lv_iconst (v := (0 : Int32)) hx hb dX5_readsCitizen_93 (by decide) ?_
    refine lv_bipush (v := (9 : Int32)) hx hb dX5_readsCitizen_94 (by decide) ?_
    obtain ⟨q4, h5, hf⟩ := bd hf
    refine k_muI (run_V (rest := []) (n := 4) C0 (tX5_figure E B hW.1 h5) gX5_readsCitizen_X5_figure rfl rfl (by decide +kernel) (hW.2.1 0 _ rfl) rfl rfl hW.2.1 hl.1 rfl rfl (Nat.le_of_ble_eq_true rfl) dX5_readsCitizen_96) hW.2.2 (fun _ h => h) (fun H locs hQ _ hS => ?_)
    have hW : WM E B q4.2 s H locs := ⟨hW.1, hQ, hS⟩
    exact tX5_readsCitizen_99 C0 hW (lv_sub hl [1, 2, 3, 4, 0] rfl) hf
  · have hf := el hf c3
    refine lv_bipush (v := (-9 : Int32)) hx hb dX5_readsCitizen_85 (by decide) ?_
    refine lv_goto (tgt := 99) hx hb dX5_readsCitizen_87 (by decide) ?_
    exact tX5_readsCitizen_99 C0 hW (lv_sub hl [1, 2, 3, 4, 0] rfl) hf
set_option maxHeartbeats 4000000 in
set_option maxRecDepth 100000 in
theorem tX5_readsCitizen_0 {p : Program} {l : Launch} {e : Env} {s : State} {m : MethodId} {args : Array Value} {below : List Frame} {meth : Method} {c : Code} {E : EE} {B : Nat → Nat} {out : Int32 × SM} (C0 : cx wsX5_readsCitizen cX5_readsCitizen 8 (some .boolean) RX5 E p s m args meth c) {x1 : Int32} {x2 : Int32} {u : SM} {H : Heap} {locs : List Loc} {ls : Array Slot} (hW : WM E B u s H locs) (hl : lv_has ls 8 [(0, .ref (B 0)), (1, .int x1), (2, .int x2)]) (hf : fX5_readsCitizen x1 x2 u = some out) : W p l e rmX5_readsCitizen s m args below meth c H locs 0 0 (MQ below (va_Qi (fun r (_ : Unit) => r = out.1) (fun _ t => fP E (cM E B out.2) t.heap) (aM B)) args s 0 0 (aM B)) (F0 m 0 ls []) := by
  obtain ⟨hx, hb, hr, hml, hown, hts, hlk, hK⟩ := id C0
  unfold fX5_readsCitizen at hf
  refine lv_aload_n hx hb dX5_readsCitizen_0 rfl (lv_at hl 0 rfl) ?_
  refine m_get C0 hW.2.1 iX5_readsCitizen_X5 11 (by decide) (by decide +kernel) rfl dX5_readsCitizen_1 ?_
  refine lv_bipush (v := (6 : Int32)) hx hb dX5_readsCitizen_4 (by decide) ?_
  refine lv_icmp_eq (tgt := 20) hx hb dX5_readsCitizen_6 (by decide) (fun c1 => ?_) (fun c1 => ?_)
  · have hf := th hf c1
    exact tX5_readsCitizen_20 C0 hW (lv_sub hl [] rfl) hf
  · have hf := el hf c1
    refine lv_aload_n hx hb dX5_readsCitizen_9 rfl (lv_at hl 0 rfl) ?_
    refine lv_iload_n hx hb dX5_readsCitizen_10 rfl (lv_at hl 1 rfl) ?_
    refine lv_iload_n hx hb dX5_readsCitizen_11 rfl (lv_at hl 2 rfl) ?_
    obtain ⟨q2, h3, hf⟩ := bd hf
    refine k_roI (run_V (rest := []) (n := 2) C0 (tX5_codeAt E B h3) gX5_readsCitizen_X5_codeAt rfl rfl (by decide +kernel) (hW.2.1 0 _ rfl) rfl rfl hW.2.1 hl.1 rfl rfl (Nat.le_of_ble_eq_true rfl) dX5_readsCitizen_12) ?_
    refine lv_bipush (v := (59 : Int32)) hx hb dX5_readsCitizen_15 (by decide) ?_
    refine lv_icmp_eq (tgt := 22) hx hb dX5_readsCitizen_17 (by decide) (fun c4 => ?_) (fun c4 => ?_)
    · have hf := th hf c4
      refine lv_aload_n hx hb dX5_readsCitizen_22 rfl (lv_at hl 0 rfl) ?_
      refine lv_dup hx hb dX5_readsCitizen_23 rfl ?_
      refine m_get C0 hW.2.1 iX5_readsCitizen_X5 8 (by decide) (by decide +kernel) rfl dX5_readsCitizen_24 ?_
      refine lv_iconst (v := (1 : Int32)) hx hb dX5_readsCitizen_27 (by decide) ?_
      refine lv_iadd hx hb dX5_readsCitizen_28 ?_
      refine m_put C0 hW iX5_readsCitizen_X5 8 (by decide) (by decide +kernel) rfl (by decide +kernel) rfl dX5_readsCitizen_29 (fun H locs hW => ?_)
      have hW : WM E B ((upd u.1 8 ((u.1 8) + (1 : Int32))), u.2) s H locs := hW
      refine lv_aload_n hx hb dX5_readsCitizen_32 rfl (lv_at hl 0 rfl) ?_
      refine lv_iload_n hx hb dX5_readsCitizen_33 rfl (lv_at hl 1 rfl) ?_
      refine lv_iload_n hx hb dX5_readsCitizen_34 rfl (lv_at hl 2 rfl) ?_
      obtain ⟨q5, h6, hf⟩ := bd hf
      refine k_roI (run_V (rest := []) (n := 2) C0 (tX5_codeAt E B h6) gX5_readsCitizen_X5_codeAt rfl rfl (by decide +kernel) (hW.2.1 0 _ rfl) rfl rfl hW.2.1 hl.1 rfl rfl (Nat.le_of_ble_eq_true rfl) dX5_readsCitizen_35) ?_
      refine lv_istore_n (lv' := [(3, .int q5), (0, .ref (B 0)), (1, .int x1), (2, .int x2)]) hx hb dX5_readsCitizen_38 rfl hl (by decide) rfl (fun ls hl => ?_)
      refine lv_iload_n hx hb dX5_readsCitizen_39 rfl (lv_at hl 0 rfl) ?_
      refine lv_bipush (v := (99 : Int32)) hx hb dX5_readsCitizen_40 (by decide) ?_
      refine lv_icmp_eq (tgt := 59) hx hb dX5_readsCitizen_42 (by decide) (fun c7 => ?_) (fun c7 => ?_)
      · have hf := th hf c7
        exact tX5_readsCitizen_59 C0 hW (lv_sub hl [1, 2, 3, 0] rfl) hf
      · have hf := el hf c7
        refine lv_iload_n hx hb dX5_readsCitizen_45 rfl (lv_at hl 0 rfl) ?_
        refine lv_bipush (v := (114 : Int32)) hx hb dX5_readsCitizen_46 (by decide) ?_
        refine lv_icmp_eq (tgt := 59) hx hb dX5_readsCitizen_48 (by decide) (fun c8 => ?_) (fun c8 => ?_)
        · have hf := th hf c8
          exact tX5_readsCitizen_59 C0 hW (lv_sub hl [1, 2, 3, 0] rfl) hf
        · have hf := el hf c8
          refine lv_iload_n hx hb dX5_readsCitizen_51 rfl (lv_at hl 0 rfl) ?_
          refine lv_bipush (v := (109 : Int32)) hx hb dX5_readsCitizen_52 (by decide) ?_
          refine lv_icmp_eq (tgt := 59) hx hb dX5_readsCitizen_54 (by decide) (fun c9 => ?_) (fun c9 => ?_)
          · have hf := th hf c9
            exact tX5_readsCitizen_59 C0 hW (lv_sub hl [1, 2, 3, 0] rfl) hf
          · have hf := el hf c9
            refine lv_iconst (v := (0 : Int32)) hx hb dX5_readsCitizen_57 (by decide) ?_
            obtain ⟨h10, hf⟩ := gd hf
            obtain rfl := Option.some.inj hf
            exact e_muZ (QH := fP E (cM E B ((upd u.1 8 ((u.1 8) + (1 : Int32))), u.2))) C0 hW.2.2 (Decidable.of_not_not h10) rfl hW.2.1 dX5_readsCitizen_58
    · have hf := el hf c4
      exact tX5_readsCitizen_20 C0 hW (lv_sub hl [] rfl) hf
set_option maxHeartbeats 4000000 in
set_option maxRecDepth 100000 in
theorem tX5_readsCitizen {l : Launch} (E : EE) (B : Nat → Nat) {u : SM} {x1 : Int32} {x2 : Int32} {out : Int32 × SM} (hB : iM B) (hf : fX5_readsCitizen x1 x2 u = some out) : muI l yX5_readsCitizen wsX5_readsCitizen rmX5_readsCitizen E [.ref (B 0), .int x1, .int x2] (aM B) (fP E (cM E B u)) (fP E (cM E B out.2)) out.1 := by
  refine Met.ofW (cc := cX5_readsCitizen) (maxL := 8) (ret := (some .boolean)) (by decide) rfl ?_
  intro p e s m args below meth c s₁ B0 hml hv
  obtain ⟨rfl, hP, hK⟩ := hv
  have C0 : cx wsX5_readsCitizen cX5_readsCitizen 8 (some .boolean) RX5 E p s m _ meth c := ⟨B0.exec, B0.bytes, B0.returns, hml, findClass_of_methodNamed B0.named, atoms_spec (ws := wsX5_readsCitizen) B0.pre, B0.notSynchronized, hK⟩
  have hl := lv_entry ([.ref (B 0), .int x1, .int x2]) (n := 8) (Nat.le_of_ble_eq_true rfl)
  rw [lg_entry_eq]
  generalize (lg_sl ([.ref (B 0), .int x1, .int x2]) ++ List.replicate (8 - (lg_sl ([.ref (B 0), .int x1, .int x2])).length) Slot.unset).toArray = ls at hl ⊢
  exact tX5_readsCitizen_0 C0 ⟨hB, hP, va_S.rf⟩ hl hf
abbrev rmX5_readsRepublic : Room := { frames := 3, cells := 0, slots := 0, locals := 78 }
set_option maxRecDepth 20000 in
theorem iX5_readsRepublic_X5 : ∀ w ∈ wsX50, w ∈ wsX5_readsRepublic := by decide +kernel
set_option maxHeartbeats 4000000 in
set_option maxRecDepth 100000 in
theorem tX5_readsRepublic_129 {p : Program} {l : Launch} {e : Env} {s : State} {m : MethodId} {args : Array Value} {below : List Frame} {meth : Method} {c : Code} {E : EE} {B : Nat → Nat} {out : Int32 × SM} {c110 : Int32 → Int32 → Int32 → SM → Option (Int32 × SM)} (C0 : cx wsX5_readsRepublic cX5_readsRepublic 4 (some .boolean) RX5 E p s m args meth c) (hc110 : ∀ (x1 : Int32) (x2 : Int32) (x3 : Int32) (u : SM) (H : Heap) (locs : List Loc) (ls : Array Slot) (_ : WM E B u s H locs), lv_has ls 4 [(0, .ref (B 0)), (1, .int x1), (2, .int x2), (3, .int x3)] → c110 x1 x2 x3 u = some out → W p l e rmX5_readsRepublic s m args below meth c H locs 0 0 (MQ below (va_Qi (fun r (_ : Unit) => r = out.1) (fun _ t => fP E (cM E B out.2) t.heap) (aM B)) args s 0 0 (aM B)) (F0 m 110 ls [])) {x1 : Int32} {x2 : Int32} {u : SM} {H : Heap} {locs : List Loc} {ls : Array Slot} (hW : WM E B u s H locs) (hl : lv_has ls 4 [(0, .ref (B 0)), (1, .int x1), (2, .int x2)]) (hf : fX5_readsRepublic_129 c110 x1 x2 u = some out) : W p l e rmX5_readsRepublic s m args below meth c H locs 0 0 (MQ below (va_Qi (fun r (_ : Unit) => r = out.1) (fun _ t => fP E (cM E B out.2) t.heap) (aM B)) args s 0 0 (aM B)) (F0 m 129 ls []) := by
  obtain ⟨hx, hb, hr, hml, hown, hts, hlk, hK⟩ := id C0
  unfold fX5_readsRepublic_129 at hf
  refine lv_aload_n hx hb dX5_readsRepublic_129 rfl (lv_at hl 0 rfl) ?_
  refine lv_iload_n hx hb dX5_readsRepublic_130 rfl (lv_at hl 1 rfl) ?_
  refine lv_iload_n hx hb dX5_readsRepublic_131 rfl (lv_at hl 2 rfl) ?_
  obtain ⟨q1, h2, hf⟩ := bd hf
  refine k_muI (run_V (rest := []) (n := 2) C0 (tX5_readsCitizen E B hW.1 h2) gX5_readsRepublic_X5_readsCitizen rfl rfl (by decide +kernel) (hW.2.1 0 _ rfl) rfl rfl hW.2.1 hl.1 rfl rfl (Nat.le_of_ble_eq_true rfl) dX5_readsRepublic_132) hW.2.2 (fun _ h => h) (fun H locs hQ _ hS => ?_)
  have hW : WM E B q1.2 s H locs := ⟨hW.1, hQ, hS⟩
  refine lv_istore_n (lv' := [(3, .int q1.1), (0, .ref (B 0)), (1, .int x1), (2, .int x2)]) hx hb dX5_readsRepublic_135 rfl hl (by decide) rfl (fun ls hl => ?_)
  refine lv_goto (tgt := 110) hx hb dX5_readsRepublic_136 (by decide) ?_
  exact hc110 _ _ _ _ _ _ _ hW (lv_sub hl [1, 2, 3, 0] rfl) hf
set_option maxHeartbeats 4000000 in
set_option maxRecDepth 100000 in
theorem tX5_readsRepublic_139 {p : Program} {l : Launch} {e : Env} {s : State} {m : MethodId} {args : Array Value} {below : List Frame} {meth : Method} {c : Code} {E : EE} {B : Nat → Nat} {out : Int32 × SM} (C0 : cx wsX5_readsRepublic cX5_readsRepublic 4 (some .boolean) RX5 E p s m args meth c) {x3 : Int32} {u : SM} {H : Heap} {locs : List Loc} {ls : Array Slot} (hW : WM E B u s H locs) (hl : lv_has ls 4 [(3, .int x3)]) (hf : fX5_readsRepublic_139 x3 u = some out) : W p l e rmX5_readsRepublic s m args below meth c H locs 0 0 (MQ below (va_Qi (fun r (_ : Unit) => r = out.1) (fun _ t => fP E (cM E B out.2) t.heap) (aM B)) args s 0 0 (aM B)) (F0 m 139 ls []) := by
  obtain ⟨hx, hb, hr, hml, hown, hts, hlk, hK⟩ := id C0
  unfold fX5_readsRepublic_139 at hf
  refine lv_iload_n hx hb dX5_readsRepublic_139 rfl (lv_at hl 0 rfl) ?_
  obtain ⟨h1, hf⟩ := gd hf
  obtain rfl := Option.some.inj hf
  exact e_muZ (QH := fP E (cM E B u)) C0 hW.2.2 (Decidable.of_not_not h1) rfl hW.2.1 dX5_readsRepublic_140
set_option maxHeartbeats 4000000 in
set_option maxRecDepth 100000 in
theorem tX5_readsRepublic_110 {p : Program} {l : Launch} {e : Env} {s : State} {m : MethodId} {args : Array Value} {below : List Frame} {meth : Method} {c : Code} {E : EE} {B : Nat → Nat} {out : Int32 × SM} (C0 : cx wsX5_readsRepublic cX5_readsRepublic 4 (some .boolean) RX5 E p s m args meth c) : ∀ (n : Nat) (x1 : Int32) (x2 : Int32) (x3 : Int32) (u : SM) (H : Heap) (locs : List Loc) (ls : Array Slot) (_ : WM E B u s H locs), lv_has ls 4 [(0, .ref (B 0)), (1, .int x1), (2, .int x2), (3, .int x3)] → fX5_readsRepublic_110 n x1 x2 x3 u = some out → W p l e rmX5_readsRepublic s m args below meth c H locs 0 0 (MQ below (va_Qi (fun r (_ : Unit) => r = out.1) (fun _ t => fP E (cM E B out.2) t.heap) (aM B)) args s 0 0 (aM B)) (F0 m 110 ls []) := by
  obtain ⟨hx, hb, hr, hml, hown, hts, hlk, hK⟩ := id C0
  intro n
  induction n with
  | zero =>
    intro x1 x2 x3 u H locs ls hW hl hf
    cases (show none = some out from hf)
  | succ n ih =>
    intro x1 x2 x3 u H locs ls hW hl hf
    rw [fX5_readsRepublic_110] at hf
    refine lv_iload_n hx hb dX5_readsRepublic_110 rfl (lv_at hl 3 rfl) ?_
    refine lv_if_eq (tgt := 139) hx hb dX5_readsRepublic_111 (by decide) (fun c1 => ?_) (fun c1 => ?_)
    · have hf := th hf c1
      exact tX5_readsRepublic_139 C0 hW (lv_sub hl [3] rfl) hf
    · have hf := el hf c1
      refine lv_aload_n hx hb dX5_readsRepublic_114 rfl (lv_at hl 0 rfl) ?_
      refine m_get C0 hW.2.1 iX5_readsRepublic_X5 11 (by decide) (by decide +kernel) rfl dX5_readsRepublic_115 ?_
      refine lv_if_eq (tgt := 129) hx hb dX5_readsRepublic_118 (by decide) (fun c2 => ?_) (fun c2 => ?_)
      · have hf := th hf c2
        exact tX5_readsRepublic_129 C0 ih hW (lv_sub hl [0, 1, 2] rfl) hf
      · have hf := el hf c2
        refine lv_aload_n hx hb dX5_readsRepublic_121 rfl (lv_at hl 0 rfl) ?_
        refine m_get C0 hW.2.1 iX5_readsRepublic_X5 8 (by decide) (by decide +kernel) rfl dX5_readsRepublic_122 ?_
        refine lv_iload_n hx hb dX5_readsRepublic_125 rfl (lv_at hl 2 rfl) ?_
        refine lv_icmp_ge (tgt := 139) hx hb dX5_readsRepublic_126 (by decide) (fun c3 => ?_) (fun c3 => ?_)
        · have hf := th hf c3
          exact tX5_readsRepublic_139 C0 hW (lv_sub hl [3] rfl) hf
        · have hf := el hf c3
          exact tX5_readsRepublic_129 C0 ih hW (lv_sub hl [0, 1, 2] rfl) hf
set_option maxHeartbeats 4000000 in
set_option maxRecDepth 100000 in
theorem tX5_readsRepublic_109 {p : Program} {l : Launch} {e : Env} {s : State} {m : MethodId} {args : Array Value} {below : List Frame} {meth : Method} {c : Code} {E : EE} {B : Nat → Nat} {out : Int32 × SM} (C0 : cx wsX5_readsRepublic cX5_readsRepublic 4 (some .boolean) RX5 E p s m args meth c) {x1 : Int32} {x2 : Int32} {xs0 : Int32} {u : SM} {H : Heap} {locs : List Loc} {ls : Array Slot} (hW : WM E B u s H locs) (hl : lv_has ls 4 [(0, .ref (B 0)), (1, .int x1), (2, .int x2)]) (hf : fX5_readsRepublic_109 x1 x2 xs0 u = some out) : W p l e rmX5_readsRepublic s m args below meth c H locs 0 0 (MQ below (va_Qi (fun r (_ : Unit) => r = out.1) (fun _ t => fP E (cM E B out.2) t.heap) (aM B)) args s 0 0 (aM B)) (F0 m 109 ls [.int xs0]) := by
  obtain ⟨hx, hb, hr, hml, hown, hts, hlk, hK⟩ := id C0
  unfold fX5_readsRepublic_109 at hf
  refine lv_istore_n (lv' := [(3, .int xs0), (0, .ref (B 0)), (1, .int x1), (2, .int x2)]) hx hb dX5_readsRepublic_109 rfl hl (by decide) rfl (fun ls hl => ?_)
  exact tX5_readsRepublic_110 C0 fu _ _ _ _ _ _ _ hW (lv_sub hl [1, 2, 3, 0] rfl) hf
set_option maxHeartbeats 4000000 in
set_option maxRecDepth 100000 in
theorem tX5_readsRepublic_94 {p : Program} {l : Launch} {e : Env} {s : State} {m : MethodId} {args : Array Value} {below : List Frame} {meth : Method} {c : Code} {E : EE} {B : Nat → Nat} {out : Int32 × SM} (C0 : cx wsX5_readsRepublic cX5_readsRepublic 4 (some .boolean) RX5 E p s m args meth c) {x1 : Int32} {x2 : Int32} {xs1 : Int32} {u : SM} {H : Heap} {locs : List Loc} {ls : Array Slot} (hW : WM E B u s H locs) (hl : lv_has ls 4 [(0, .ref (B 0)), (1, .int x1), (2, .int x2)]) (hf : fX5_readsRepublic_94 x1 x2 xs1 u = some out) : W p l e rmX5_readsRepublic s m args below meth c H locs 0 0 (MQ below (va_Qi (fun r (_ : Unit) => r = out.1) (fun _ t => fP E (cM E B out.2) t.heap) (aM B)) args s 0 0 (aM B)) (F0 m 94 ls [.int xs1, .ref (B 0)]) := by
  obtain ⟨hx, hb, hr, hml, hown, hts, hlk, hK⟩ := id C0
  unfold fX5_readsRepublic_94 at hf
  refine m_put C0 hW iX5_readsRepublic_X5 10 (by decide) (by decide +kernel) rfl (by decide +kernel) rfl dX5_readsRepublic_94 (fun H locs hW => ?_)
  have hW : WM E B ((upd u.1 10 xs1), u.2) s H locs := hW
  refine lv_aload_n hx hb dX5_readsRepublic_97 rfl (lv_at hl 0 rfl) ?_
  refine m_get C0 hW.2.1 iX5_readsRepublic_X5 10 (by decide) (by decide +kernel) rfl dX5_readsRepublic_98 ?_
  refine lv_if_le (tgt := 108) hx hb dX5_readsRepublic_101 (by decide) (fun c1 => ?_) (fun c1 => ?_)
  · have hf := th hf c1
    refine lv_iconst (v := (0 : Int32)) hx hb dX5_readsRepublic_108 (by decide) ?_
    exact tX5_readsRepublic_109 C0 hW (lv_sub hl [0, 1, 2] rfl) hf
  · have hf := el hf c1
    refine lv_iconst (v := (1 : Int32)) hx hb dX5_readsRepublic_104 (by decide) ?_
    refine lv_goto (tgt := 109) hx hb dX5_readsRepublic_105 (by decide) ?_
    exact tX5_readsRepublic_109 C0 hW (lv_sub hl [0, 1, 2] rfl) hf
set_option maxHeartbeats 4000000 in
set_option maxRecDepth 100000 in
theorem tX5_readsRepublic_69 {p : Program} {l : Launch} {e : Env} {s : State} {m : MethodId} {args : Array Value} {below : List Frame} {meth : Method} {c : Code} {E : EE} {B : Nat → Nat} {out : Int32 × SM} (C0 : cx wsX5_readsRepublic cX5_readsRepublic 4 (some .boolean) RX5 E p s m args meth c) {x1 : Int32} {x2 : Int32} {xs1 : Int32} {u : SM} {H : Heap} {locs : List Loc} {ls : Array Slot} (hW : WM E B u s H locs) (hl : lv_has ls 4 [(0, .ref (B 0)), (1, .int x1), (2, .int x2)]) (hf : fX5_readsRepublic_69 x1 x2 xs1 u = some out) : W p l e rmX5_readsRepublic s m args below meth c H locs 0 0 (MQ below (va_Qi (fun r (_ : Unit) => r = out.1) (fun _ t => fP E (cM E B out.2) t.heap) (aM B)) args s 0 0 (aM B)) (F0 m 69 ls [.int xs1, .ref (B 0)]) := by
  obtain ⟨hx, hb, hr, hml, hown, hts, hlk, hK⟩ := id C0
  unfold fX5_readsRepublic_69 at hf
  refine m_put C0 hW iX5_readsRepublic_X5 9 (by decide) (by decide +kernel) rfl (by decide +kernel) rfl dX5_readsRepublic_69 (fun H locs hW => ?_)
  have hW : WM E B ((upd u.1 9 xs1), u.2) s H locs := hW
  refine lv_aload_n hx hb dX5_readsRepublic_72 rfl (lv_at hl 0 rfl) ?_
  refine lv_aload_n hx hb dX5_readsRepublic_73 rfl (lv_at hl 0 rfl) ?_
  refine m_get C0 hW.2.1 iX5_readsRepublic_X5 9 (by decide) (by decide +kernel) rfl dX5_readsRepublic_74 ?_
  refine lv_if_lt (tgt := 92) hx hb dX5_readsRepublic_77 (by decide) (fun c1 => ?_) (fun c1 => ?_)
  · have hf := th hf c1
    refine lv_bipush (v := (-9 : Int32)) hx hb dX5_readsRepublic_92 (by decide) ?_
    exact tX5_readsRepublic_94 C0 hW (lv_sub hl [0, 1, 2] rfl) hf
  · have hf := el hf c1
    refine lv_aload_n hx hb dX5_readsRepublic_80 rfl (lv_at hl 0 rfl) ?_
    refine lv_iload_n hx hb dX5_readsRepublic_81 rfl (lv_at hl 1 rfl) ?_
    refine lv_iload_n hx hb dX5_readsRepublic_82 rfl (lv_at hl 2 rfl) ?_
    refine lv_iconst (v := (1 : Int32)) hx hb dX5_readsRepublic_83 (by decide) ?_
    refine lv_bipush (v := (9 : Int32)) hx hb dX5_readsRepublic_84 (by decide) ?_
    obtain ⟨q2, h3, hf⟩ := bd hf
    refine k_muI (run_V (rest := [.ref (B 0)]) (n := 4) C0 (tX5_figure E B hW.1 h3) gX5_readsRepublic_X5_figure rfl rfl (by decide +kernel) (hW.2.1 0 _ rfl) rfl rfl hW.2.1 hl.1 rfl rfl (Nat.le_of_ble_eq_true rfl) dX5_readsRepublic_86) hW.2.2 (fun _ h => h) (fun H locs hQ _ hS => ?_)
    have hW : WM E B q2.2 s H locs := ⟨hW.1, hQ, hS⟩
    refine lv_goto (tgt := 94) hx hb dX5_readsRepublic_89 (by decide) ?_
    exact tX5_readsRepublic_94 C0 hW (lv_sub hl [0, 1, 2] rfl) hf
set_option maxHeartbeats 4000000 in
set_option maxRecDepth 100000 in
theorem tX5_readsRepublic_46 {p : Program} {l : Launch} {e : Env} {s : State} {m : MethodId} {args : Array Value} {below : List Frame} {meth : Method} {c : Code} {E : EE} {B : Nat → Nat} {out : Int32 × SM} (C0 : cx wsX5_readsRepublic cX5_readsRepublic 4 (some .boolean) RX5 E p s m args meth c) {x1 : Int32} {x2 : Int32} {x3 : Int32} {xs1 : Int32} {xs2 : Int32} {u : SM} {H : Heap} {locs : List Loc} {ls : Array Slot} (hW : WM E B u s H locs) (hl : lv_has ls 4 [(0, .ref (B 0)), (1, .int x1), (2, .int x2), (3, .int x3)]) (hf : fX5_readsRepublic_46 x1 x2 x3 xs1 xs2 u = some out) : W p l e rmX5_readsRepublic s m args below meth c H locs 0 0 (MQ below (va_Qi (fun r (_ : Unit) => r = out.1) (fun _ t => fP E (cM E B out.2) t.heap) (aM B)) args s 0 0 (aM B)) (F0 m 46 ls [.int xs2, .int xs1, .ref (B 0)]) := by
  obtain ⟨hx, hb, hr, hml, hown, hts, hlk, hK⟩ := id C0
  unfold fX5_readsRepublic_46 at hf
  refine lv_iadd hx hb dX5_readsRepublic_46 ?_
  refine m_put C0 hW iX5_readsRepublic_X5 8 (by decide) (by decide +kernel) rfl (by decide +kernel) rfl dX5_readsRepublic_47 (fun H locs hW => ?_)
  have hW : WM E B ((upd u.1 8 (xs1 + xs2)), u.2) s H locs := hW
  refine lv_aload_n hx hb dX5_readsRepublic_50 rfl (lv_at hl 0 rfl) ?_
  refine lv_iload_n hx hb dX5_readsRepublic_51 rfl (lv_at hl 3 rfl) ?_
  refine lv_if_eq (tgt := 67) hx hb dX5_readsRepublic_52 (by decide) (fun c1 => ?_) (fun c1 => ?_)
  · have hf := th hf c1
    refine lv_bipush (v := (-9 : Int32)) hx hb dX5_readsRepublic_67 (by decide) ?_
    exact tX5_readsRepublic_69 C0 hW (lv_sub hl [0, 1, 2] rfl) hf
  · have hf := el hf c1
    refine lv_aload_n hx hb dX5_readsRepublic_55 rfl (lv_at hl 0 rfl) ?_
    refine lv_iload_n hx hb dX5_readsRepublic_56 rfl (lv_at hl 1 rfl) ?_
    refine lv_iload_n hx hb dX5_readsRepublic_57 rfl (lv_at hl 2 rfl) ?_
    refine lv_iconst (v := (0 : Int32)) hx hb dX5_readsRepublic_58 (by decide) ?_
    refine lv_bipush (v := (6 : Int32)) hx hb dX5_readsRepublic_59 (by decide) ?_
    obtain ⟨q2, h3, hf⟩ := bd hf
    refine k_muI (run_V (rest := [.ref (B 0)]) (n := 4) C0 (tX5_figure E B hW.1 h3) gX5_readsRepublic_X5_figure rfl rfl (by decide +kernel) (hW.2.1 0 _ rfl) rfl rfl hW.2.1 hl.1 rfl rfl (Nat.le_of_ble_eq_true rfl) dX5_readsRepublic_61) hW.2.2 (fun _ h => h) (fun H locs hQ _ hS => ?_)
    have hW : WM E B q2.2 s H locs := ⟨hW.1, hQ, hS⟩
    refine lv_goto (tgt := 69) hx hb dX5_readsRepublic_64 (by decide) ?_
    exact tX5_readsRepublic_69 C0 hW (lv_sub hl [0, 1, 2] rfl) hf
set_option maxHeartbeats 4000000 in
set_option maxRecDepth 100000 in
theorem tX5_readsRepublic_31 {p : Program} {l : Launch} {e : Env} {s : State} {m : MethodId} {args : Array Value} {below : List Frame} {meth : Method} {c : Code} {E : EE} {B : Nat → Nat} {out : Int32 × SM} (C0 : cx wsX5_readsRepublic cX5_readsRepublic 4 (some .boolean) RX5 E p s m args meth c) {x1 : Int32} {x2 : Int32} {xs0 : Int32} {u : SM} {H : Heap} {locs : List Loc} {ls : Array Slot} (hW : WM E B u s H locs) (hl : lv_has ls 4 [(0, .ref (B 0)), (1, .int x1), (2, .int x2)]) (hf : fX5_readsRepublic_31 x1 x2 xs0 u = some out) : W p l e rmX5_readsRepublic s m args below meth c H locs 0 0 (MQ below (va_Qi (fun r (_ : Unit) => r = out.1) (fun _ t => fP E (cM E B out.2) t.heap) (aM B)) args s 0 0 (aM B)) (F0 m 31 ls [.int xs0]) := by
  obtain ⟨hx, hb, hr, hml, hown, hts, hlk, hK⟩ := id C0
  unfold fX5_readsRepublic_31 at hf
  refine lv_istore_n (lv' := [(3, .int xs0), (0, .ref (B 0)), (1, .int x1), (2, .int x2)]) hx hb dX5_readsRepublic_31 rfl hl (by decide) rfl (fun ls hl => ?_)
  refine lv_aload_n hx hb dX5_readsRepublic_32 rfl (lv_at hl 1 rfl) ?_
  refine lv_dup hx hb dX5_readsRepublic_33 rfl ?_
  refine m_get C0 hW.2.1 iX5_readsRepublic_X5 8 (by decide) (by decide +kernel) rfl dX5_readsRepublic_34 ?_
  refine lv_iload_n hx hb dX5_readsRepublic_37 rfl (lv_at hl 0 rfl) ?_
  refine lv_if_eq (tgt := 45) hx hb dX5_readsRepublic_38 (by decide) (fun c1 => ?_) (fun c1 => ?_)
  · have hf := th hf c1
    refine lv_iconst (v := (0 : Int32)) hx hb dX5_readsRepublic_45 (by decide) ?_
    exact tX5_readsRepublic_46 C0 hW (lv_sub hl [1, 2, 3, 0] rfl) hf
  · have hf := el hf c1
    refine lv_iconst (v := (1 : Int32)) hx hb dX5_readsRepublic_41 (by decide) ?_
    refine lv_goto (tgt := 46) hx hb dX5_readsRepublic_42 (by decide) ?_
    exact tX5_readsRepublic_46 C0 hW (lv_sub hl [1, 2, 3, 0] rfl) hf
set_option maxHeartbeats 4000000 in
set_option maxRecDepth 100000 in
theorem tX5_readsRepublic_0 {p : Program} {l : Launch} {e : Env} {s : State} {m : MethodId} {args : Array Value} {below : List Frame} {meth : Method} {c : Code} {E : EE} {B : Nat → Nat} {out : Int32 × SM} (C0 : cx wsX5_readsRepublic cX5_readsRepublic 4 (some .boolean) RX5 E p s m args meth c) {x1 : Int32} {x2 : Int32} {u : SM} {H : Heap} {locs : List Loc} {ls : Array Slot} (hW : WM E B u s H locs) (hl : lv_has ls 4 [(0, .ref (B 0)), (1, .int x1), (2, .int x2)]) (hf : fX5_readsRepublic x1 x2 u = some out) : W p l e rmX5_readsRepublic s m args below meth c H locs 0 0 (MQ below (va_Qi (fun r (_ : Unit) => r = out.1) (fun _ t => fP E (cM E B out.2) t.heap) (aM B)) args s 0 0 (aM B)) (F0 m 0 ls []) := by
  obtain ⟨hx, hb, hr, hml, hown, hts, hlk, hK⟩ := id C0
  unfold fX5_readsRepublic at hf
  refine lv_aload_n hx hb dX5_readsRepublic_0 rfl (lv_at hl 0 rfl) ?_
  refine lv_iconst (v := (0 : Int32)) hx hb dX5_readsRepublic_1 (by decide) ?_
  refine m_put C0 hW iX5_readsRepublic_X5 8 (by decide) (by decide +kernel) rfl (by decide +kernel) rfl dX5_readsRepublic_2 (fun H locs hW => ?_)
  have hW : WM E B ((upd u.1 8 (0 : Int32)), u.2) s H locs := hW
  refine lv_aload_n hx hb dX5_readsRepublic_5 rfl (lv_at hl 0 rfl) ?_
  refine lv_iconst (v := (0 : Int32)) hx hb dX5_readsRepublic_6 (by decide) ?_
  refine m_put C0 hW iX5_readsRepublic_X5 11 (by decide) (by decide +kernel) rfl (by decide +kernel) rfl dX5_readsRepublic_7 (fun H locs hW => ?_)
  have hW : WM E B ((upd (upd u.1 8 (0 : Int32)) 11 (0 : Int32)), u.2) s H locs := hW
  refine lv_aload_n hx hb dX5_readsRepublic_10 rfl (lv_at hl 0 rfl) ?_
  refine lv_iconst (v := (0 : Int32)) hx hb dX5_readsRepublic_11 (by decide) ?_
  refine m_put C0 hW iX5_readsRepublic_X5 12 (by decide) (by decide +kernel) rfl (by decide +kernel) rfl dX5_readsRepublic_12 (fun H locs hW => ?_)
  have hW : WM E B ((upd (upd (upd u.1 8 (0 : Int32)) 11 (0 : Int32)) 12 (0 : Int32)), u.2) s H locs := hW
  refine lv_aload_n hx hb dX5_readsRepublic_15 rfl (lv_at hl 0 rfl) ?_
  refine lv_iload_n hx hb dX5_readsRepublic_16 rfl (lv_at hl 1 rfl) ?_
  refine lv_iload_n hx hb dX5_readsRepublic_17 rfl (lv_at hl 2 rfl) ?_
  obtain ⟨q1, h2, hf⟩ := bd hf
  refine k_roI (run_V (rest := []) (n := 2) C0 (tX5_codeAt E B h2) gX5_readsRepublic_X5_codeAt rfl rfl (by decide +kernel) (hW.2.1 0 _ rfl) rfl rfl hW.2.1 hl.1 rfl rfl (Nat.le_of_ble_eq_true rfl) dX5_readsRepublic_18) ?_
  refine lv_bipush (v := (108 : Int32)) hx hb dX5_readsRepublic_21 (by decide) ?_
  refine lv_icmp_ne (tgt := 30) hx hb dX5_readsRepublic_23 (by decide) (fun c3 => ?_) (fun c3 => ?_)
  · have hf := el hf c3
    refine lv_iconst (v := (0 : Int32)) hx hb dX5_readsRepublic_30 (by decide) ?_
    exact tX5_readsRepublic_31 C0 hW (lv_sub hl [0, 1, 2] rfl) hf
  · have hf := th hf c3
    refine lv_iconst (v := (1 : Int32)) hx hb dX5_readsRepublic_26 (by decide) ?_
    refine lv_goto (tgt := 31) hx hb dX5_readsRepublic_27 (by decide) ?_
    exact tX5_readsRepublic_31 C0 hW (lv_sub hl [0, 1, 2] rfl) hf
set_option maxHeartbeats 4000000 in
set_option maxRecDepth 100000 in
theorem tX5_readsRepublic {l : Launch} (E : EE) (B : Nat → Nat) {u : SM} {x1 : Int32} {x2 : Int32} {out : Int32 × SM} (hB : iM B) (hf : fX5_readsRepublic x1 x2 u = some out) : muI l yX5_readsRepublic wsX5_readsRepublic rmX5_readsRepublic E [.ref (B 0), .int x1, .int x2] (aM B) (fP E (cM E B u)) (fP E (cM E B out.2)) out.1 := by
  refine Met.ofW (cc := cX5_readsRepublic) (maxL := 4) (ret := (some .boolean)) (by decide) rfl ?_
  intro p e s m args below meth c s₁ B0 hml hv
  obtain ⟨rfl, hP, hK⟩ := hv
  have C0 : cx wsX5_readsRepublic cX5_readsRepublic 4 (some .boolean) RX5 E p s m _ meth c := ⟨B0.exec, B0.bytes, B0.returns, hml, findClass_of_methodNamed B0.named, atoms_spec (ws := wsX5_readsRepublic) B0.pre, B0.notSynchronized, hK⟩
  have hl := lv_entry ([.ref (B 0), .int x1, .int x2]) (n := 4) (Nat.le_of_ble_eq_true rfl)
  rw [lg_entry_eq]
  generalize (lg_sl ([.ref (B 0), .int x1, .int x2]) ++ List.replicate (4 - (lg_sl ([.ref (B 0), .int x1, .int x2])).length) Slot.unset).toArray = ls at hl ⊢
  exact tX5_readsRepublic_0 C0 ⟨hB, hP, va_S.rf⟩ hl hf
abbrev rmX5_isBeyond : Room := { frames := 0, cells := 0, slots := 0, locals := 0 }
set_option maxHeartbeats 4000000 in
set_option maxRecDepth 100000 in
theorem tX5_isBeyond_20 {p : Program} {l : Launch} {e : Env} {s : State} {m : MethodId} {args : Array Value} {below : List Frame} {meth : Method} {c : Code} {E : EE} {out : Int32} (C0 : cx wsX5_isBeyond cX5_isBeyond 4 (some .boolean) RX5 E p s m args meth c) {ls : Array Slot} (hl : lv_has ls 4 []) (hf : fX5_isBeyond_20 = some out) : W p l e rmX5_isBeyond s m args below meth c s.heap [] 0 0 (MQ below (vp_Si (fun r => r = out)) args s 0 0 (fun _ => False)) (F0 m 20 ls []) := by
  obtain ⟨hx, hb, hr, hml, hown, hts, hlk, hK⟩ := id C0
  unfold fX5_isBeyond_20 at hf
  refine lv_iconst (v := (1 : Int32)) hx hb dX5_isBeyond_20 (by decide) ?_
  refine lv_goto (tgt := 25) hx hb dX5_isBeyond_21 (by decide) ?_
  exact e_roZ C0 hf dX5_isBeyond_25
set_option maxHeartbeats 4000000 in
set_option maxRecDepth 100000 in
theorem tX5_isBeyond_0 {p : Program} {l : Launch} {e : Env} {s : State} {m : MethodId} {args : Array Value} {below : List Frame} {meth : Method} {c : Code} {E : EE} {out : Int32} (C0 : cx wsX5_isBeyond cX5_isBeyond 4 (some .boolean) RX5 E p s m args meth c) {x0 : Int32} {x1 : Int64} {x3 : Int32} {ls : Array Slot} (hl : lv_has ls 4 [(0, .int x0), (1, .long x1), (3, .int x3)]) (hf : fX5_isBeyond x0 x1 x3 = some out) : W p l e rmX5_isBeyond s m args below meth c s.heap [] 0 0 (MQ below (vp_Si (fun r => r = out)) args s 0 0 (fun _ => False)) (F0 m 0 ls []) := by
  obtain ⟨hx, hb, hr, hml, hown, hts, hlk, hK⟩ := id C0
  unfold fX5_isBeyond at hf
  refine lv_iload_n hx hb dX5_isBeyond_0 rfl (lv_at hl 0 rfl) ?_
  refine lv_if_lt (tgt := 20) hx hb dX5_isBeyond_1 (by decide) (fun c1 => ?_) (fun c1 => ?_)
  · have hf := th hf c1
    exact tX5_isBeyond_20 C0 (lv_sub hl [] rfl) hf
  · have hf := el hf c1
    refine lv_lload_n hx hb dX5_isBeyond_4 rfl (lv_at hl 1 rfl) ?_
    refine lv_lconst (v := (0 : Int64)) hx hb dX5_isBeyond_5 (by decide) ?_
    refine W.lcmp hx hb dX5_isBeyond_6 ?_
    refine lv_if_lt (tgt := 20) hx hb dX5_isBeyond_7 (by decide) (fun c2 => ?_) (fun c2 => ?_)
    · have hf := th hf c2
      exact tX5_isBeyond_20 C0 (lv_sub hl [] rfl) hf
    · have hf := el hf c2
      refine lv_iload_n hx hb dX5_isBeyond_10 rfl (lv_at hl 0 rfl) ?_
      refine lv_i2l (v := x0.toInt64) hx hb dX5_isBeyond_11 rfl ?_
      refine lv_lload_n hx hb dX5_isBeyond_12 rfl (lv_at hl 1 rfl) ?_
      refine lv_ladd hx hb dX5_isBeyond_13 ?_
      refine lv_iload_n hx hb dX5_isBeyond_14 rfl (lv_at hl 2 rfl) ?_
      refine lv_i2l (v := x3.toInt64) hx hb dX5_isBeyond_15 rfl ?_
      refine W.lcmp hx hb dX5_isBeyond_16 ?_
      refine lv_if_le (tgt := 24) hx hb dX5_isBeyond_17 (by decide) (fun c3 => ?_) (fun c3 => ?_)
      · have hf := th hf c3
        refine lv_iconst (v := (0 : Int32)) hx hb dX5_isBeyond_24 (by decide) ?_
        exact e_roZ C0 hf dX5_isBeyond_25
      · have hf := el hf c3
        exact tX5_isBeyond_20 C0 (lv_sub hl [] rfl) hf
set_option maxHeartbeats 4000000 in
set_option maxRecDepth 100000 in
theorem tX5_isBeyond {l : Launch} (E : EE) {x0 : Int32} {x1 : Int64} {x3 : Int32} {out : Int32} (hf : fX5_isBeyond x0 x1 x3 = some out) : roI l yX5_isBeyond wsX5_isBeyond rmX5_isBeyond E [.int x0, .long x1, .int x3] ((fun _ => True)) out := by
  refine Met.ofW (cc := cX5_isBeyond) (maxL := 4) (ret := (some .boolean)) (by decide) rfl ?_
  intro p e s m args below meth c s₁ B0 hml hv
  obtain ⟨rfl, -, hK⟩ := hv
  have C0 : cx wsX5_isBeyond cX5_isBeyond 4 (some .boolean) RX5 E p s m _ meth c := ⟨B0.exec, B0.bytes, B0.returns, hml, findClass_of_methodNamed B0.named, atoms_spec (ws := wsX5_isBeyond) B0.pre, B0.notSynchronized, hK⟩
  have hl := lv_entry ([.int x0, .long x1, .int x3]) (n := 4) (Nat.le_of_ble_eq_true rfl)
  rw [lg_entry_eq]
  generalize (lg_sl ([.int x0, .long x1, .int x3]) ++ List.replicate (4 - (lg_sl ([.int x0, .long x1, .int x3])).length) Slot.unset).toArray = ls at hl ⊢
  exact tX5_isBeyond_0 C0 hl hf
abbrev rmX5_cellsBarred : Room := { frames := 1, cells := 0, slots := 0, locals := 23 }
set_option maxRecDepth 20000 in
theorem iX5_cellsBarred_X5 : ∀ w ∈ wsX50, w ∈ wsX5_cellsBarred := by decide +kernel
set_option maxHeartbeats 4000000 in
set_option maxRecDepth 100000 in
theorem tX5_cellsBarred_25 {p : Program} {l : Launch} {e : Env} {s : State} {m : MethodId} {args : Array Value} {below : List Frame} {meth : Method} {c : Code} {E : EE} {B : Nat → Nat} {out : Int32 × SM} (C0 : cx wsX5_cellsBarred cX5_cellsBarred 6 (some .int) RX5 E p s m args meth c) {x1 : Int32} {x3 : Int32} {x4 : Int64} {u : SM} {H : Heap} {locs : List Loc} {ls : Array Slot} (hW : WM E B u s H locs) (hl : lv_has ls 6 [(0, .ref (B 0)), (1, .int x1), (3, .int x3), (4, .long x4)]) (hf : fX5_cellsBarred_25 x1 x3 x4 u = some out) : W p l e rmX5_cellsBarred s m args below meth c H locs 0 0 (MQ below (va_Qi (fun r (_ : Unit) => r = out.1) (fun _ t => fP E (cM E B out.2) t.heap) (aM B)) args s 0 0 (aM B)) (F0 m 25 ls []) := by
  obtain ⟨hx, hb, hr, hml, hown, hts, hlk, hK⟩ := id C0
  unfold fX5_cellsBarred_25 at hf
  refine lv_aload_n hx hb dX5_cellsBarred_25 rfl (lv_at hl 0 rfl) ?_
  refine m_get C0 hW.2.1 iX5_cellsBarred_X5 19 (by decide) (by decide +kernel) rfl dX5_cellsBarred_26 ?_
  refine lv_iload_n hx hb dX5_cellsBarred_29 rfl (lv_at hl 1 rfl) ?_
  obtain ⟨h1, hf⟩ := gd hf
  refine m_ald C0 hW.2.1 8 4 rfl h1 dX5_cellsBarred_30 ?_
  refine lv_if_ge (tgt := 40) hx hb dX5_cellsBarred_31 (by decide) (fun c2 => ?_) (fun c2 => ?_)
  · have hf := th hf c2
    refine lv_lload hx hb dX5_cellsBarred_40 (lv_at hl 3 rfl) ?_
    refine lv_lconst (v := (0 : Int64)) hx hb dX5_cellsBarred_42 (by decide) ?_
    refine W.lcmp hx hb dX5_cellsBarred_43 ?_
    refine lv_if_ge (tgt := 53) hx hb dX5_cellsBarred_44 (by decide) (fun c3 => ?_) (fun c3 => ?_)
    · have hf := th hf c3
      refine lv_iload_n hx hb dX5_cellsBarred_53 rfl (lv_at hl 2 rfl) ?_
      refine lv_lload hx hb dX5_cellsBarred_54 (lv_at hl 3 rfl) ?_
      refine lv_aload_n hx hb dX5_cellsBarred_56 rfl (lv_at hl 0 rfl) ?_
      refine m_get C0 hW.2.1 iX5_cellsBarred_X5 19 (by decide) (by decide +kernel) rfl dX5_cellsBarred_57 ?_
      refine lv_iload_n hx hb dX5_cellsBarred_60 rfl (lv_at hl 1 rfl) ?_
      obtain ⟨h4, hf⟩ := gd hf
      refine m_ald C0 hW.2.1 8 4 rfl h4 dX5_cellsBarred_61 ?_
      obtain ⟨q5, h6, hf⟩ := bd hf
      refine k_roI (run_S (rest := []) (n := 3) (PH := fun _ => True) C0 (tX5_isBeyond E h6) gX5_cellsBarred_X5_isBeyond rfl rfl (by decide +kernel) trivial hl.1 rfl rfl (Nat.le_of_ble_eq_true rfl) dX5_cellsBarred_62) ?_
      refine lv_if_eq (tgt := 76) hx hb dX5_cellsBarred_65 (by decide) (fun c7 => ?_) (fun c7 => ?_)
      · have hf := th hf c7
        refine lv_iconst (v := (0 : Int32)) hx hb dX5_cellsBarred_76 (by decide) ?_
        obtain rfl := Option.some.inj hf
        exact e_muI (QH := fP E (cM E B u)) C0 hW.2.2 rfl hW.2.1 dX5_cellsBarred_77
      · have hf := el hf c7
        refine lv_aload_n hx hb dX5_cellsBarred_68 rfl (lv_at hl 0 rfl) ?_
        refine lv_iconst (v := (3 : Int32)) hx hb dX5_cellsBarred_69 (by decide) ?_
        obtain ⟨q8, h9, hf⟩ := bd hf
        refine k_muI (run_V (rest := []) (n := 1) C0 (tX5_failed E B hW.1 h9) gX5_cellsBarred_X5_failed rfl rfl (by decide +kernel) (hW.2.1 0 _ rfl) rfl rfl hW.2.1 hl.1 rfl rfl (Nat.le_of_ble_eq_true rfl) dX5_cellsBarred_70) hW.2.2 (fun _ h => h) (fun H locs hQ _ hS => ?_)
        have hW : WM E B q8.2 s H locs := ⟨hW.1, hQ, hS⟩
        refine lv_goto (tgt := 77) hx hb dX5_cellsBarred_73 (by decide) ?_
        obtain rfl := Option.some.inj hf
        exact e_muI (QH := fP E (cM E B q8.2)) C0 hW.2.2 rfl hW.2.1 dX5_cellsBarred_77
    · have hf := el hf c3
      refine lv_aload_n hx hb dX5_cellsBarred_47 rfl (lv_at hl 0 rfl) ?_
      refine lv_iconst (v := (4 : Int32)) hx hb dX5_cellsBarred_48 (by decide) ?_
      obtain ⟨q10, h11, hf⟩ := bd hf
      refine k_muI (run_V (rest := []) (n := 1) C0 (tX5_failed E B hW.1 h11) gX5_cellsBarred_X5_failed rfl rfl (by decide +kernel) (hW.2.1 0 _ rfl) rfl rfl hW.2.1 hl.1 rfl rfl (Nat.le_of_ble_eq_true rfl) dX5_cellsBarred_49) hW.2.2 (fun _ h => h) (fun H locs hQ _ hS => ?_)
      have hW : WM E B q10.2 s H locs := ⟨hW.1, hQ, hS⟩
      obtain rfl := Option.some.inj hf
      exact e_muI (QH := fP E (cM E B q10.2)) C0 hW.2.2 rfl hW.2.1 dX5_cellsBarred_52
  · have hf := el hf c2
    refine lv_aload_n hx hb dX5_cellsBarred_34 rfl (lv_at hl 0 rfl) ?_
    refine lv_iconst (v := (1 : Int32)) hx hb dX5_cellsBarred_35 (by decide) ?_
    obtain ⟨q12, h13, hf⟩ := bd hf
    refine k_muI (run_V (rest := []) (n := 1) C0 (tX5_failed E B hW.1 h13) gX5_cellsBarred_X5_failed rfl rfl (by decide +kernel) (hW.2.1 0 _ rfl) rfl rfl hW.2.1 hl.1 rfl rfl (Nat.le_of_ble_eq_true rfl) dX5_cellsBarred_36) hW.2.2 (fun _ h => h) (fun H locs hQ _ hS => ?_)
    have hW : WM E B q12.2 s H locs := ⟨hW.1, hQ, hS⟩
    obtain rfl := Option.some.inj hf
    exact e_muI (QH := fP E (cM E B q12.2)) C0 hW.2.2 rfl hW.2.1 dX5_cellsBarred_39
set_option maxHeartbeats 4000000 in
set_option maxRecDepth 100000 in
theorem tX5_cellsBarred_0 {p : Program} {l : Launch} {e : Env} {s : State} {m : MethodId} {args : Array Value} {below : List Frame} {meth : Method} {c : Code} {E : EE} {B : Nat → Nat} {out : Int32 × SM} (C0 : cx wsX5_cellsBarred cX5_cellsBarred 6 (some .int) RX5 E p s m args meth c) {x1 : Int32} {x2 : Int32} {x3 : Int32} {x4 : Int64} {u : SM} {H : Heap} {locs : List Loc} {ls : Array Slot} (hW : WM E B u s H locs) (hl : lv_has ls 6 [(0, .ref (B 0)), (1, .int x1), (2, .int x2), (3, .int x3), (4, .long x4)]) (hf : fX5_cellsBarred x1 x2 x3 x4 u = some out) : W p l e rmX5_cellsBarred s m args below meth c H locs 0 0 (MQ below (va_Qi (fun r (_ : Unit) => r = out.1) (fun _ t => fP E (cM E B out.2) t.heap) (aM B)) args s 0 0 (aM B)) (F0 m 0 ls []) := by
  obtain ⟨hx, hb, hr, hml, hown, hts, hlk, hK⟩ := id C0
  unfold fX5_cellsBarred at hf
  refine lv_aload_n hx hb dX5_cellsBarred_0 rfl (lv_at hl 0 rfl) ?_
  refine m_get C0 hW.2.1 iX5_cellsBarred_X5 19 (by decide) (by decide +kernel) rfl dX5_cellsBarred_1 ?_
  refine lv_iload_n hx hb dX5_cellsBarred_4 rfl (lv_at hl 1 rfl) ?_
  obtain ⟨h1, hf⟩ := gd hf
  refine m_ald C0 hW.2.1 8 4 rfl h1 dX5_cellsBarred_5 ?_
  refine lv_if_lt (tgt := 25) hx hb dX5_cellsBarred_6 (by decide) (fun c2 => ?_) (fun c2 => ?_)
  · have hf := th hf c2
    exact tX5_cellsBarred_25 C0 hW (lv_sub hl [0, 1, 3, 4] rfl) hf
  · have hf := el hf c2
    refine lv_aload_n hx hb dX5_cellsBarred_9 rfl (lv_at hl 0 rfl) ?_
    refine m_get C0 hW.2.1 iX5_cellsBarred_X5 20 (by decide) (by decide +kernel) rfl dX5_cellsBarred_10 ?_
    refine lv_iload_n hx hb dX5_cellsBarred_13 rfl (lv_at hl 1 rfl) ?_
    obtain ⟨h3, hf⟩ := gd hf
    refine m_ald C0 hW.2.1 9 4 rfl h3 dX5_cellsBarred_14 ?_
    refine lv_iload_n hx hb dX5_cellsBarred_15 rfl (lv_at hl 2 rfl) ?_
    refine lv_icmp_eq (tgt := 25) hx hb dX5_cellsBarred_16 (by decide) (fun c4 => ?_) (fun c4 => ?_)
    · have hf := th hf c4
      exact tX5_cellsBarred_25 C0 hW (lv_sub hl [0, 1, 3, 4] rfl) hf
    · have hf := el hf c4
      refine lv_aload_n hx hb dX5_cellsBarred_19 rfl (lv_at hl 0 rfl) ?_
      refine lv_iconst (v := (2 : Int32)) hx hb dX5_cellsBarred_20 (by decide) ?_
      obtain ⟨q5, h6, hf⟩ := bd hf
      refine k_muI (run_V (rest := []) (n := 1) C0 (tX5_failed E B hW.1 h6) gX5_cellsBarred_X5_failed rfl rfl (by decide +kernel) (hW.2.1 0 _ rfl) rfl rfl hW.2.1 hl.1 rfl rfl (Nat.le_of_ble_eq_true rfl) dX5_cellsBarred_21) hW.2.2 (fun _ h => h) (fun H locs hQ _ hS => ?_)
      have hW : WM E B q5.2 s H locs := ⟨hW.1, hQ, hS⟩
      obtain rfl := Option.some.inj hf
      exact e_muI (QH := fP E (cM E B q5.2)) C0 hW.2.2 rfl hW.2.1 dX5_cellsBarred_24
set_option maxHeartbeats 4000000 in
set_option maxRecDepth 100000 in
theorem tX5_cellsBarred {l : Launch} (E : EE) (B : Nat → Nat) {u : SM} {x1 : Int32} {x2 : Int32} {x3 : Int32} {x4 : Int64} {out : Int32 × SM} (hB : iM B) (hf : fX5_cellsBarred x1 x2 x3 x4 u = some out) : muI l yX5_cellsBarred wsX5_cellsBarred rmX5_cellsBarred E [.ref (B 0), .int x1, .int x2, .int x3, .long x4] (aM B) (fP E (cM E B u)) (fP E (cM E B out.2)) out.1 := by
  refine Met.ofW (cc := cX5_cellsBarred) (maxL := 6) (ret := (some .int)) (by decide) rfl ?_
  intro p e s m args below meth c s₁ B0 hml hv
  obtain ⟨rfl, hP, hK⟩ := hv
  have C0 : cx wsX5_cellsBarred cX5_cellsBarred 6 (some .int) RX5 E p s m _ meth c := ⟨B0.exec, B0.bytes, B0.returns, hml, findClass_of_methodNamed B0.named, atoms_spec (ws := wsX5_cellsBarred) B0.pre, B0.notSynchronized, hK⟩
  have hl := lv_entry ([.ref (B 0), .int x1, .int x2, .int x3, .long x4]) (n := 6) (Nat.le_of_ble_eq_true rfl)
  rw [lg_entry_eq]
  generalize (lg_sl ([.ref (B 0), .int x1, .int x2, .int x3, .long x4]) ++ List.replicate (6 - (lg_sl ([.ref (B 0), .int x1, .int x2, .int x3, .long x4])).length) Slot.unset).toArray = ls at hl ⊢
  exact tX5_cellsBarred_0 C0 ⟨hB, hP, va_S.rf⟩ hl hf
abbrev rmX5_noSheet : Room := { frames := 1, cells := 0, slots := 0, locals := 25 }
set_option maxHeartbeats 4000000 in
set_option maxRecDepth 100000 in
theorem tX5_noSheet_0 {p : Program} {l : Launch} {e : Env} {s : State} {m : MethodId} {args : Array Value} {below : List Frame} {meth : Method} {c : Code} {E : EE} {out : Int32} (C0 : cx wsX5_noSheet cX5_noSheet 1 (some .boolean) RX5 E p s m args meth c) {x0 : Int32} {ls : Array Slot} (hl : lv_has ls 1 [(0, .int x0)]) (hf : fX5_noSheet x0 = some out) : W p l e rmX5_noSheet s m args below meth c s.heap [] 0 0 (MQ below (vp_Si (fun r => r = out)) args s 0 0 (fun _ => False)) (F0 m 0 ls []) := by
  obtain ⟨hx, hb, hr, hml, hown, hts, hlk, hK⟩ := id C0
  unfold fX5_noSheet at hf
  refine lv_iload_n hx hb dX5_noSheet_0 rfl (lv_at hl 0 rfl) ?_
  refine lv_i2l (v := x0.toInt64) hx hb dX5_noSheet_1 rfl ?_
  refine lv_lconst (v := (0 : Int64)) hx hb dX5_noSheet_2 (by decide) ?_
  refine lv_ldc2 hx hb hown (hts (.constantLong RX5 197 (3)) (by decide +kernel)) dX5_noSheet_3 ?_
  obtain ⟨q1, h2, hf⟩ := bd hf
  refine k_roI (run_S (rest := []) (n := 3) (PH := fun _ => True) C0 (tX5_in E h2) gX5_noSheet_X5_in rfl rfl (by decide +kernel) trivial hl.1 rfl rfl (Nat.le_of_ble_eq_true rfl) dX5_noSheet_6) ?_
  refine lv_if_ne (tgt := 16) hx hb dX5_noSheet_9 (by decide) (fun c3 => ?_) (fun c3 => ?_)
  · have hf := el hf c3
    refine lv_iconst (v := (0 : Int32)) hx hb dX5_noSheet_16 (by decide) ?_
    exact e_roZ C0 hf dX5_noSheet_17
  · have hf := th hf c3
    refine lv_iconst (v := (1 : Int32)) hx hb dX5_noSheet_12 (by decide) ?_
    refine lv_goto (tgt := 17) hx hb dX5_noSheet_13 (by decide) ?_
    exact e_roZ C0 hf dX5_noSheet_17
set_option maxHeartbeats 4000000 in
set_option maxRecDepth 100000 in
theorem tX5_noSheet {l : Launch} (E : EE) {x0 : Int32} {out : Int32} (hf : fX5_noSheet x0 = some out) : roI l yX5_noSheet wsX5_noSheet rmX5_noSheet E [.int x0] ((fun _ => True)) out := by
  refine Met.ofW (cc := cX5_noSheet) (maxL := 1) (ret := (some .boolean)) (by decide) rfl ?_
  intro p e s m args below meth c s₁ B0 hml hv
  obtain ⟨rfl, -, hK⟩ := hv
  have C0 : cx wsX5_noSheet cX5_noSheet 1 (some .boolean) RX5 E p s m _ meth c := ⟨B0.exec, B0.bytes, B0.returns, hml, findClass_of_methodNamed B0.named, atoms_spec (ws := wsX5_noSheet) B0.pre, B0.notSynchronized, hK⟩
  have hl := lv_entry ([.int x0]) (n := 1) (Nat.le_of_ble_eq_true rfl)
  rw [lg_entry_eq]
  generalize (lg_sl ([.int x0]) ++ List.replicate (1 - (lg_sl ([.int x0])).length) Slot.unset).toArray = ls at hl ⊢
  exact tX5_noSheet_0 C0 hl hf
abbrev rmX5_republic : Room := { frames := 4, cells := 0, slots := 0, locals := 101 }
set_option maxRecDepth 20000 in
theorem iX5_republic_X5 : ∀ w ∈ wsX50, w ∈ wsX5_republic := by decide +kernel
set_option maxHeartbeats 4000000 in
set_option maxRecDepth 100000 in
theorem tX5_republic_114 {p : Program} {l : Launch} {e : Env} {s : State} {m : MethodId} {args : Array Value} {below : List Frame} {meth : Method} {c : Code} {E : EE} {B : Nat → Nat} {out : Int32 × SM} (C0 : cx wsX5_republic cX5_republic 7 (some .int) RX5 E p s m args meth c) : ∀ (n : Nat) (x6 : Int32) (u : SM) (H : Heap) (locs : List Loc) (ls : Array Slot) (_ : WM E B u s H locs), lv_has ls 7 [(0, .ref (B 0)), (6, .int x6)] → fX5_republic_114 n x6 u = some out → W p l e rmX5_republic s m args below meth c H locs 0 0 (MQ below (va_Qi (fun r (_ : Unit) => r = out.1) (fun _ t => fP E (cM E B out.2) t.heap) (aM B)) args s 0 0 (aM B)) (F0 m 114 ls []) := by
  obtain ⟨hx, hb, hr, hml, hown, hts, hlk, hK⟩ := id C0
  intro n
  induction n with
  | zero =>
    intro x6 u H locs ls hW hl hf
    cases (show none = some out from hf)
  | succ n ih =>
    intro x6 u H locs ls hW hl hf
    rw [fX5_republic_114] at hf
    refine lv_iload hx hb dX5_republic_114 (lv_at hl 1 rfl) ?_
    refine lv_aload_n hx hb dX5_republic_116 rfl (lv_at hl 0 rfl) ?_
    refine m_get C0 hW.2.1 iX5_republic_X5 3 (by decide) (by decide +kernel) rfl dX5_republic_117 ?_
    refine lv_icmp_ge (tgt := 171) hx hb dX5_republic_120 (by decide) (fun c1 => ?_) (fun c1 => ?_)
    · have hf := th hf c1
      refine lv_aload_n hx hb dX5_republic_171 rfl (lv_at hl 0 rfl) ?_
      refine lv_iconst (v := (0 : Int32)) hx hb dX5_republic_172 (by decide) ?_
      refine m_put C0 hW iX5_republic_X5 17 (by decide) (by decide +kernel) rfl (by decide +kernel) rfl dX5_republic_173 (fun H locs hW => ?_)
      have hW : WM E B ((upd u.1 17 (0 : Int32)), u.2) s H locs := hW
      refine lv_aload_n hx hb dX5_republic_176 rfl (lv_at hl 0 rfl) ?_
      refine lv_aload_n hx hb dX5_republic_177 rfl (lv_at hl 0 rfl) ?_
      refine m_get C0 hW.2.1 iX5_republic_X5 3 (by decide) (by decide +kernel) rfl dX5_republic_178 ?_
      obtain ⟨q2, h3, hf⟩ := bd hf
      refine k_muI (run_V (rest := []) (n := 1) C0 (tX5_refused E B hW.1 h3) gX5_republic_X5_refused rfl rfl (by decide +kernel) (hW.2.1 0 _ rfl) rfl rfl hW.2.1 hl.1 rfl rfl (Nat.le_of_ble_eq_true rfl) dX5_republic_181) hW.2.2 (fun _ h => h) (fun H locs hQ _ hS => ?_)
      have hW : WM E B q2.2 s H locs := ⟨hW.1, hQ, hS⟩
      obtain rfl := Option.some.inj hf
      exact e_muI (QH := fP E (cM E B q2.2)) C0 hW.2.2 rfl hW.2.1 dX5_republic_184
    · have hf := el hf c1
      refine lv_aload_n hx hb dX5_republic_123 rfl (lv_at hl 0 rfl) ?_
      refine m_get C0 hW.2.1 iX5_republic_X5 4 (by decide) (by decide +kernel) rfl dX5_republic_124 ?_
      refine lv_iload hx hb dX5_republic_127 (lv_at hl 1 rfl) ?_
      refine lv_aload_n hx hb dX5_republic_129 rfl (lv_at hl 0 rfl) ?_
      refine m_get C0 hW.2.1 iX5_republic_X5 13 (by decide) (by decide +kernel) rfl dX5_republic_130 ?_
      refine lv_iload hx hb dX5_republic_133 (lv_at hl 1 rfl) ?_
      obtain ⟨h4, hf⟩ := gd hf
      refine m_ald C0 hW.2.1 4 6 rfl h4 dX5_republic_135 ?_
      obtain ⟨h5, hf⟩ := gd hf
      refine m_ast C0 hW 1 6 (by decide) (by decide) rfl h5 dX5_republic_136 (fun H locs hW => ?_)
      have hW : WM E B (u.1, (va_up u.2 1 (upd (u.2 1) x6.toNatClampNeg (u.2 4 x6.toNatClampNeg)))) s H locs := hW
      refine lv_aload_n hx hb dX5_republic_137 rfl (lv_at hl 0 rfl) ?_
      refine m_get C0 hW.2.1 iX5_republic_X5 5 (by decide) (by decide +kernel) rfl dX5_republic_138 ?_
      refine lv_iload hx hb dX5_republic_141 (lv_at hl 1 rfl) ?_
      refine lv_aload_n hx hb dX5_republic_143 rfl (lv_at hl 0 rfl) ?_
      refine m_get C0 hW.2.1 iX5_republic_X5 14 (by decide) (by decide +kernel) rfl dX5_republic_144 ?_
      refine lv_iload hx hb dX5_republic_147 (lv_at hl 1 rfl) ?_
      obtain ⟨h6, hf⟩ := gd hf
      refine m_ald C0 hW.2.1 5 6 rfl h6 dX5_republic_149 ?_
      obtain ⟨h7, hf⟩ := gd hf
      refine m_ast C0 hW 2 6 (by decide) (by decide) rfl h7 dX5_republic_150 (fun H locs hW => ?_)
      have hW : WM E B (u.1, (va_up (va_up u.2 1 (upd (u.2 1) x6.toNatClampNeg (u.2 4 x6.toNatClampNeg))) 2 (upd ((va_up u.2 1 (upd (u.2 1) x6.toNatClampNeg (u.2 4 x6.toNatClampNeg))) 2) x6.toNatClampNeg ((va_up u.2 1 (upd (u.2 1) x6.toNatClampNeg (u.2 4 x6.toNatClampNeg))) 5 x6.toNatClampNeg)))) s H locs := hW
      refine lv_aload_n hx hb dX5_republic_151 rfl (lv_at hl 0 rfl) ?_
      refine m_get C0 hW.2.1 iX5_republic_X5 6 (by decide) (by decide +kernel) rfl dX5_republic_152 ?_
      refine lv_iload hx hb dX5_republic_155 (lv_at hl 1 rfl) ?_
      refine lv_aload_n hx hb dX5_republic_157 rfl (lv_at hl 0 rfl) ?_
      refine m_get C0 hW.2.1 iX5_republic_X5 15 (by decide) (by decide +kernel) rfl dX5_republic_158 ?_
      refine lv_iload hx hb dX5_republic_161 (lv_at hl 1 rfl) ?_
      obtain ⟨h8, hf⟩ := gd hf
      refine m_ald C0 hW.2.1 6 6 rfl h8 dX5_republic_163 ?_
      obtain ⟨h9, hf⟩ := gd hf
      refine m_ast C0 hW 3 6 (by decide) (by decide) rfl h9 dX5_republic_164 (fun H locs hW => ?_)
      have hW : WM E B (u.1, (va_up (va_up (va_up u.2 1 (upd (u.2 1) x6.toNatClampNeg (u.2 4 x6.toNatClampNeg))) 2 (upd ((va_up u.2 1 (upd (u.2 1) x6.toNatClampNeg (u.2 4 x6.toNatClampNeg))) 2) x6.toNatClampNeg ((va_up u.2 1 (upd (u.2 1) x6.toNatClampNeg (u.2 4 x6.toNatClampNeg))) 5 x6.toNatClampNeg))) 3 (upd ((va_up (va_up u.2 1 (upd (u.2 1) x6.toNatClampNeg (u.2 4 x6.toNatClampNeg))) 2 (upd ((va_up u.2 1 (upd (u.2 1) x6.toNatClampNeg (u.2 4 x6.toNatClampNeg))) 2) x6.toNatClampNeg ((va_up u.2 1 (upd (u.2 1) x6.toNatClampNeg (u.2 4 x6.toNatClampNeg))) 5 x6.toNatClampNeg))) 3) x6.toNatClampNeg ((va_up (va_up u.2 1 (upd (u.2 1) x6.toNatClampNeg (u.2 4 x6.toNatClampNeg))) 2 (upd ((va_up u.2 1 (upd (u.2 1) x6.toNatClampNeg (u.2 4 x6.toNatClampNeg))) 2) x6.toNatClampNeg ((va_up u.2 1 (upd (u.2 1) x6.toNatClampNeg (u.2 4 x6.toNatClampNeg))) 5 x6.toNatClampNeg))) 6 x6.toNatClampNeg)))) s H locs := hW
      refine lv_iinc (v := (x6 + (1 : Int32))) (lv' := [(6, .int (x6 + (1 : Int32))), (0, .ref (B 0))]) hx hb dX5_republic_165 hl (k := 1) rfl rfl (by decide) rfl (fun ls hl => ?_)
      refine lv_goto (tgt := 114) hx hb dX5_republic_168 (by decide) ?_
      exact ih _ _ _ _ _ hW (lv_sub hl [1, 0] rfl) hf
set_option maxHeartbeats 4000000 in
set_option maxRecDepth 100000 in
theorem tX5_republic_0 {p : Program} {l : Launch} {e : Env} {s : State} {m : MethodId} {args : Array Value} {below : List Frame} {meth : Method} {c : Code} {E : EE} {B : Nat → Nat} {out : Int32 × SM} (C0 : cx wsX5_republic cX5_republic 7 (some .int) RX5 E p s m args meth c) {x1 : Int32} {x2 : Int32} {x3 : Int32} {x4 : Int32} {u : SM} {H : Heap} {locs : List Loc} {ls : Array Slot} (hW : WM E B u s H locs) (hl : lv_has ls 7 [(0, .ref (B 0)), (1, .int x1), (2, .int x2), (3, .int x3), (4, .int x4)]) (hf : fX5_republic x1 x2 x3 x4 u = some out) : W p l e rmX5_republic s m args below meth c H locs 0 0 (MQ below (va_Qi (fun r (_ : Unit) => r = out.1) (fun _ t => fP E (cM E B out.2) t.heap) (aM B)) args s 0 0 (aM B)) (F0 m 0 ls []) := by
  obtain ⟨hx, hb, hr, hml, hown, hts, hlk, hK⟩ := id C0
  unfold fX5_republic at hf
  refine lv_iload_n hx hb dX5_republic_0 rfl (lv_at hl 1 rfl) ?_
  obtain ⟨q1, h2, hf⟩ := bd hf
  refine k_roI (run_S (rest := []) (n := 1) (PH := fun _ => True) C0 (tX5_noSheet E h2) gX5_republic_X5_noSheet rfl rfl (by decide +kernel) trivial hl.1 rfl rfl (Nat.le_of_ble_eq_true rfl) dX5_republic_1) ?_
  refine lv_if_eq (tgt := 13) hx hb dX5_republic_4 (by decide) (fun c3 => ?_) (fun c3 => ?_)
  · have hf := th hf c3
    refine lv_iload_n hx hb dX5_republic_13 rfl (lv_at hl 2 rfl) ?_
    refine lv_i2l (v := x2.toInt64) hx hb dX5_republic_14 rfl ?_
    refine lv_lconst (v := (0 : Int64)) hx hb dX5_republic_15 (by decide) ?_
    refine lv_ldc2 hx hb hown (hts (.constantLong RX5 102 (2)) (by decide +kernel)) dX5_republic_16 ?_
    obtain ⟨q4, h5, hf⟩ := bd hf
    refine k_roI (run_S (rest := []) (n := 3) (PH := fun _ => True) C0 (tX5_in E h5) gX5_republic_X5_in rfl rfl (by decide +kernel) trivial hl.1 rfl rfl (Nat.le_of_ble_eq_true rfl) dX5_republic_19) ?_
    refine lv_if_ne (tgt := 32) hx hb dX5_republic_22 (by decide) (fun c6 => ?_) (fun c6 => ?_)
    · have hf := el hf c6
      refine lv_aload_n hx hb dX5_republic_32 rfl (lv_at hl 0 rfl) ?_
      refine lv_iload_n hx hb dX5_republic_33 rfl (lv_at hl 1 rfl) ?_
      refine lv_iload_n hx hb dX5_republic_34 rfl (lv_at hl 2 rfl) ?_
      refine lv_iload_n hx hb dX5_republic_35 rfl (lv_at hl 3 rfl) ?_
      refine lv_iload hx hb dX5_republic_36 (lv_at hl 4 rfl) ?_
      refine lv_i2l (v := x4.toInt64) hx hb dX5_republic_38 rfl ?_
      obtain ⟨q7, h8, hf⟩ := bd hf
      refine k_muI (run_V (rest := []) (n := 4) C0 (tX5_cellsBarred E B hW.1 h8) gX5_republic_X5_cellsBarred rfl rfl (by decide +kernel) (hW.2.1 0 _ rfl) rfl rfl hW.2.1 hl.1 rfl rfl (Nat.le_of_ble_eq_true rfl) dX5_republic_39) hW.2.2 (fun _ h => h) (fun H locs hQ _ hS => ?_)
      have hW : WM E B q7.2 s H locs := ⟨hW.1, hQ, hS⟩
      refine lv_istore (lv' := [(5, .int q7.1), (0, .ref (B 0)), (1, .int x1), (2, .int x2), (3, .int x3), (4, .int x4)]) hx hb dX5_republic_42 hl (by decide) rfl (fun ls hl => ?_)
      refine lv_iload hx hb dX5_republic_44 (lv_at hl 0 rfl) ?_
      refine lv_if_ge (tgt := 52) hx hb dX5_republic_46 (by decide) (fun c9 => ?_) (fun c9 => ?_)
      · have hf := th hf c9
        refine lv_aload_n hx hb dX5_republic_52 rfl (lv_at hl 1 rfl) ?_
        refine lv_bipush (v := (60 : Int32)) hx hb dX5_republic_53 (by decide) ?_
        refine lv_iload_n hx hb dX5_republic_55 rfl (lv_at hl 2 rfl) ?_
        refine lv_imul hx hb dX5_republic_56 ?_
        refine lv_iload_n hx hb dX5_republic_57 rfl (lv_at hl 4 rfl) ?_
        refine lv_iadd hx hb dX5_republic_58 ?_
        refine lv_iload hx hb dX5_republic_59 (lv_at hl 5 rfl) ?_
        obtain ⟨q10, h11, hf⟩ := bd hf
        refine k_muI (run_V (rest := []) (n := 2) C0 (tX5_readsRepublic E B hW.1 h11) gX5_republic_X5_readsRepublic rfl rfl (by decide +kernel) (hW.2.1 0 _ rfl) rfl rfl hW.2.1 hl.1 rfl rfl (Nat.le_of_ble_eq_true rfl) dX5_republic_61) hW.2.2 (fun _ h => h) (fun H locs hQ _ hS => ?_)
        have hW : WM E B q10.2 s H locs := ⟨hW.1, hQ, hS⟩
        refine lv_if_ne (tgt := 79) hx hb dX5_republic_64 (by decide) (fun c12 => ?_) (fun c12 => ?_)
        · have hf := el hf c12
          refine lv_aload_n hx hb dX5_republic_79 rfl (lv_at hl 1 rfl) ?_
          refine lv_aload_n hx hb dX5_republic_80 rfl (lv_at hl 1 rfl) ?_
          refine m_get C0 hW.2.1 iX5_republic_X5 9 (by decide) (by decide +kernel) rfl dX5_republic_81 ?_
          refine m_put C0 hW iX5_republic_X5 1 (by decide) (by decide +kernel) rfl (by decide +kernel) rfl dX5_republic_84 (fun H locs hW => ?_)
          have hW : WM E B ((upd q10.2.1 1 (q10.2.1 9)), q10.2.2) s H locs := hW
          refine lv_aload_n hx hb dX5_republic_87 rfl (lv_at hl 1 rfl) ?_
          refine lv_aload_n hx hb dX5_republic_88 rfl (lv_at hl 1 rfl) ?_
          refine m_get C0 hW.2.1 iX5_republic_X5 10 (by decide) (by decide +kernel) rfl dX5_republic_89 ?_
          refine m_put C0 hW iX5_republic_X5 2 (by decide) (by decide +kernel) rfl (by decide +kernel) rfl dX5_republic_92 (fun H locs hW => ?_)
          have hW : WM E B ((upd (upd q10.2.1 1 (q10.2.1 9)) 2 ((upd q10.2.1 1 (q10.2.1 9)) 10)), q10.2.2) s H locs := hW
          refine lv_aload_n hx hb dX5_republic_95 rfl (lv_at hl 1 rfl) ?_
          refine lv_aload_n hx hb dX5_republic_96 rfl (lv_at hl 1 rfl) ?_
          refine m_get C0 hW.2.1 iX5_republic_X5 11 (by decide) (by decide +kernel) rfl dX5_republic_97 ?_
          refine m_put C0 hW iX5_republic_X5 3 (by decide) (by decide +kernel) rfl (by decide +kernel) rfl dX5_republic_100 (fun H locs hW => ?_)
          have hW : WM E B ((upd (upd (upd q10.2.1 1 (q10.2.1 9)) 2 ((upd q10.2.1 1 (q10.2.1 9)) 10)) 3 ((upd (upd q10.2.1 1 (q10.2.1 9)) 2 ((upd q10.2.1 1 (q10.2.1 9)) 10)) 11)), q10.2.2) s H locs := hW
          refine lv_aload_n hx hb dX5_republic_103 rfl (lv_at hl 1 rfl) ?_
          refine lv_aload_n hx hb dX5_republic_104 rfl (lv_at hl 1 rfl) ?_
          refine m_get C0 hW.2.1 iX5_republic_X5 12 (by decide) (by decide +kernel) rfl dX5_republic_105 ?_
          refine m_put C0 hW iX5_republic_X5 7 (by decide) (by decide +kernel) rfl (by decide +kernel) rfl dX5_republic_108 (fun H locs hW => ?_)
          have hW : WM E B ((upd (upd (upd (upd q10.2.1 1 (q10.2.1 9)) 2 ((upd q10.2.1 1 (q10.2.1 9)) 10)) 3 ((upd (upd q10.2.1 1 (q10.2.1 9)) 2 ((upd q10.2.1 1 (q10.2.1 9)) 10)) 11)) 7 ((upd (upd (upd q10.2.1 1 (q10.2.1 9)) 2 ((upd q10.2.1 1 (q10.2.1 9)) 10)) 3 ((upd (upd q10.2.1 1 (q10.2.1 9)) 2 ((upd q10.2.1 1 (q10.2.1 9)) 10)) 11)) 12)), q10.2.2) s H locs := hW
          refine lv_iconst (v := (0 : Int32)) hx hb dX5_republic_111 (by decide) ?_
          refine lv_istore (lv' := [(6, .int (0 : Int32)), (5, .int q7.1), (0, .ref (B 0)), (1, .int x1), (2, .int x2), (3, .int x3), (4, .int x4)]) hx hb dX5_republic_112 hl (by decide) rfl (fun ls hl => ?_)
          exact tX5_republic_114 C0 fu _ _ _ _ _ hW (lv_sub hl [2, 0] rfl) hf
        · have hf := th hf c12
          refine lv_aload_n hx hb dX5_republic_67 rfl (lv_at hl 1 rfl) ?_
          refine lv_bipush (v := (-100 : Int32)) hx hb dX5_republic_68 (by decide) ?_
          refine lv_aload_n hx hb dX5_republic_70 rfl (lv_at hl 1 rfl) ?_
          refine m_get C0 hW.2.1 iX5_republic_X5 8 (by decide) (by decide +kernel) rfl dX5_republic_71 ?_
          refine lv_isub hx hb dX5_republic_74 ?_
          obtain ⟨q13, h14, hf⟩ := bd hf
          refine k_muI (run_V (rest := []) (n := 1) C0 (tX5_refused E B hW.1 h14) gX5_republic_X5_refused rfl rfl (by decide +kernel) (hW.2.1 0 _ rfl) rfl rfl hW.2.1 hl.1 rfl rfl (Nat.le_of_ble_eq_true rfl) dX5_republic_75) hW.2.2 (fun _ h => h) (fun H locs hQ _ hS => ?_)
          have hW : WM E B q13.2 s H locs := ⟨hW.1, hQ, hS⟩
          obtain rfl := Option.some.inj hf
          exact e_muI (QH := fP E (cM E B q13.2)) C0 hW.2.2 rfl hW.2.1 dX5_republic_78
      · have hf := el hf c9
        refine lv_iload hx hb dX5_republic_49 (lv_at hl 0 rfl) ?_
        obtain rfl := Option.some.inj hf
        exact e_muI (QH := fP E (cM E B q7.2)) C0 hW.2.2 rfl hW.2.1 dX5_republic_51
    · have hf := th hf c6
      refine lv_aload_n hx hb dX5_republic_25 rfl (lv_at hl 0 rfl) ?_
      refine lv_bipush (v := (-2 : Int32)) hx hb dX5_republic_26 (by decide) ?_
      obtain ⟨q15, h16, hf⟩ := bd hf
      refine k_muI (run_V (rest := []) (n := 1) C0 (tX5_refused E B hW.1 h16) gX5_republic_X5_refused rfl rfl (by decide +kernel) (hW.2.1 0 _ rfl) rfl rfl hW.2.1 hl.1 rfl rfl (Nat.le_of_ble_eq_true rfl) dX5_republic_28) hW.2.2 (fun _ h => h) (fun H locs hQ _ hS => ?_)
      have hW : WM E B q15.2 s H locs := ⟨hW.1, hQ, hS⟩
      obtain rfl := Option.some.inj hf
      exact e_muI (QH := fP E (cM E B q15.2)) C0 hW.2.2 rfl hW.2.1 dX5_republic_31
  · have hf := el hf c3
    refine lv_aload_n hx hb dX5_republic_7 rfl (lv_at hl 0 rfl) ?_
    refine lv_iconst (v := (-1 : Int32)) hx hb dX5_republic_8 (by decide) ?_
    obtain ⟨q17, h18, hf⟩ := bd hf
    refine k_muI (run_V (rest := []) (n := 1) C0 (tX5_refused E B hW.1 h18) gX5_republic_X5_refused rfl rfl (by decide +kernel) (hW.2.1 0 _ rfl) rfl rfl hW.2.1 hl.1 rfl rfl (Nat.le_of_ble_eq_true rfl) dX5_republic_9) hW.2.2 (fun _ h => h) (fun H locs hQ _ hS => ?_)
    have hW : WM E B q17.2 s H locs := ⟨hW.1, hQ, hS⟩
    obtain rfl := Option.some.inj hf
    exact e_muI (QH := fP E (cM E B q17.2)) C0 hW.2.2 rfl hW.2.1 dX5_republic_12
set_option maxHeartbeats 4000000 in
set_option maxRecDepth 100000 in
theorem tX5_republic {l : Launch} (E : EE) (B : Nat → Nat) {u : SM} {x1 : Int32} {x2 : Int32} {x3 : Int32} {x4 : Int32} {out : Int32 × SM} (hB : iM B) (hf : fX5_republic x1 x2 x3 x4 u = some out) : muI l yX5_republic wsX5_republic rmX5_republic E [.ref (B 0), .int x1, .int x2, .int x3, .int x4] (aM B) (fP E (cM E B u)) (fP E (cM E B out.2)) out.1 := by
  refine Met.ofW (cc := cX5_republic) (maxL := 7) (ret := (some .int)) (by decide) rfl ?_
  intro p e s m args below meth c s₁ B0 hml hv
  obtain ⟨rfl, hP, hK⟩ := hv
  have C0 : cx wsX5_republic cX5_republic 7 (some .int) RX5 E p s m _ meth c := ⟨B0.exec, B0.bytes, B0.returns, hml, findClass_of_methodNamed B0.named, atoms_spec (ws := wsX5_republic) B0.pre, B0.notSynchronized, hK⟩
  have hl := lv_entry ([.ref (B 0), .int x1, .int x2, .int x3, .int x4]) (n := 7) (Nat.le_of_ble_eq_true rfl)
  rw [lg_entry_eq]
  generalize (lg_sl ([.ref (B 0), .int x1, .int x2, .int x3, .int x4]) ++ List.replicate (7 - (lg_sl ([.ref (B 0), .int x1, .int x2, .int x3, .int x4])).length) Slot.unset).toArray = ls at hl ⊢
  exact tX5_republic_0 C0 ⟨hB, hP, va_S.rf⟩ hl hf
abbrev rmX5_slipsOf : Room := { frames := 0, cells := 0, slots := 0, locals := 0 }
set_option maxRecDepth 20000 in
theorem iX5_slipsOf_X5 : ∀ w ∈ wsX50, w ∈ wsX5_slipsOf := by decide +kernel
set_option maxHeartbeats 4000000 in
set_option maxRecDepth 100000 in
theorem tX5_slipsOf_0 {p : Program} {l : Launch} {e : Env} {s : State} {m : MethodId} {args : Array Value} {below : List Frame} {meth : Method} {c : Code} {E : EE} {B : Nat → Nat} {u : SM} {out : Int32} (C0 : cx wsX5_slipsOf cX5_slipsOf 3 (some .int) RX5 E p s m args meth c) (hP : fP E (cM E B u) s.heap) {x1 : Int32} {ls : Array Slot} (hl : lv_has ls 3 [(0, .ref (B 0)), (1, .int x1)]) (hf : fX5_slipsOf x1 u = some out) : W p l e rmX5_slipsOf s m args below meth c s.heap [] 0 0 (MQ below (vp_Si (fun r => r = out)) args s 0 0 (fun _ => False)) (F0 m 0 ls []) := by
  obtain ⟨hx, hb, hr, hml, hown, hts, hlk, hK⟩ := id C0
  unfold fX5_slipsOf at hf
  refine lv_aload_n hx hb dX5_slipsOf_0 rfl (lv_at hl 0 rfl) ?_
  refine m_get C0 hP iX5_slipsOf_X5 5 (by decide) (by decide +kernel) rfl dX5_slipsOf_1 ?_
  refine lv_iload_n hx hb dX5_slipsOf_4 rfl (lv_at hl 1 rfl) ?_
  obtain ⟨h1, hf⟩ := gd hf
  refine m_ald C0 hP 2 6 rfl h1 dX5_slipsOf_5 ?_
  refine lv_istore_n (lv' := [(2, .int (u.2 2 x1.toNatClampNeg)), (0, .ref (B 0)), (1, .int x1)]) hx hb dX5_slipsOf_6 rfl hl (by decide) rfl (fun ls hl => ?_)
  refine lv_aload_n hx hb dX5_slipsOf_7 rfl (lv_at hl 1 rfl) ?_
  refine m_get C0 hP iX5_slipsOf_X5 4 (by decide) (by decide +kernel) rfl dX5_slipsOf_8 ?_
  refine lv_iload_n hx hb dX5_slipsOf_11 rfl (lv_at hl 2 rfl) ?_
  obtain ⟨h2, hf⟩ := gd hf
  refine m_ald C0 hP 1 6 rfl h2 dX5_slipsOf_12 ?_
  refine lv_if_ne (tgt := 20) hx hb dX5_slipsOf_13 (by decide) (fun c3 => ?_) (fun c3 => ?_)
  · have hf := el hf c3
    refine lv_aload_n hx hb dX5_slipsOf_20 rfl (lv_at hl 1 rfl) ?_
    refine m_get C0 hP iX5_slipsOf_X5 4 (by decide) (by decide +kernel) rfl dX5_slipsOf_21 ?_
    refine lv_iload_n hx hb dX5_slipsOf_24 rfl (lv_at hl 2 rfl) ?_
    obtain ⟨h4, hf⟩ := gd hf
    refine m_ald C0 hP 1 6 rfl h4 dX5_slipsOf_25 ?_
    refine lv_iconst (v := (1 : Int32)) hx hb dX5_slipsOf_26 (by decide) ?_
    refine lv_icmp_ne (tgt := 36) hx hb dX5_slipsOf_27 (by decide) (fun c5 => ?_) (fun c5 => ?_)
    · have hf := el hf c5
      refine lv_iconst (v := (2 : Int32)) hx hb dX5_slipsOf_36 (by decide) ?_
      refine lv_iload_n hx hb dX5_slipsOf_37 rfl (lv_at hl 0 rfl) ?_
      refine lv_iconst (v := (1 : Int32)) hx hb dX5_slipsOf_38 (by decide) ?_
      refine lv_iadd hx hb dX5_slipsOf_39 ?_
      refine lv_imul hx hb dX5_slipsOf_40 ?_
      exact e_roI C0 hf dX5_slipsOf_41
    · have hf := th hf c5
      refine lv_iload_n hx hb dX5_slipsOf_30 rfl (lv_at hl 0 rfl) ?_
      refine lv_iconst (v := (1 : Int32)) hx hb dX5_slipsOf_31 (by decide) ?_
      refine lv_iadd hx hb dX5_slipsOf_32 ?_
      refine lv_goto (tgt := 41) hx hb dX5_slipsOf_33 (by decide) ?_
      exact e_roI C0 hf dX5_slipsOf_41
  · have hf := th hf c3
    refine lv_iload_n hx hb dX5_slipsOf_16 rfl (lv_at hl 0 rfl) ?_
    refine lv_goto (tgt := 41) hx hb dX5_slipsOf_17 (by decide) ?_
    exact e_roI C0 hf dX5_slipsOf_41
set_option maxHeartbeats 4000000 in
set_option maxRecDepth 100000 in
theorem tX5_slipsOf {l : Launch} (E : EE) (B : Nat → Nat) {u : SM} {x1 : Int32} {out : Int32} (hf : fX5_slipsOf x1 u = some out) : roI l yX5_slipsOf wsX5_slipsOf rmX5_slipsOf E [.ref (B 0), .int x1] (fP E (cM E B u)) out := by
  refine Met.ofW (cc := cX5_slipsOf) (maxL := 3) (ret := (some .int)) (by decide) rfl ?_
  intro p e s m args below meth c s₁ B0 hml hv
  obtain ⟨rfl, hP, hK⟩ := hv
  have C0 : cx wsX5_slipsOf cX5_slipsOf 3 (some .int) RX5 E p s m _ meth c := ⟨B0.exec, B0.bytes, B0.returns, hml, findClass_of_methodNamed B0.named, atoms_spec (ws := wsX5_slipsOf) B0.pre, B0.notSynchronized, hK⟩
  have hl := lv_entry ([.ref (B 0), .int x1]) (n := 3) (Nat.le_of_ble_eq_true rfl)
  rw [lg_entry_eq]
  generalize (lg_sl ([.ref (B 0), .int x1]) ++ List.replicate (3 - (lg_sl ([.ref (B 0), .int x1])).length) Slot.unset).toArray = ls at hl ⊢
  exact tX5_slipsOf_0 C0 hP hl hf
abbrev rmX5_slipsOfAll : Room := { frames := 1, cells := 0, slots := 0, locals := 22 }
set_option maxRecDepth 20000 in
theorem iX5_slipsOfAll_X5 : ∀ w ∈ wsX50, w ∈ wsX5_slipsOfAll := by decide +kernel
set_option maxHeartbeats 4000000 in
set_option maxRecDepth 100000 in
theorem tX5_slipsOfAll_30 {p : Program} {l : Launch} {e : Env} {s : State} {m : MethodId} {args : Array Value} {below : List Frame} {meth : Method} {c : Code} {E : EE} {B : Nat → Nat} {u : SM} {out : Int32} {c4 : Int32 → Int32 → Int32 → SM → Option (Int32)} (C0 : cx wsX5_slipsOfAll cX5_slipsOfAll 4 (some .int) RX5 E p s m args meth c) (hP : fP E (cM E B u) s.heap) (hc4 : ∀ (x1 : Int32) (x2 : Int32) (x3 : Int32) (ls : Array Slot), lv_has ls 4 [(0, .ref (B 0)), (1, .int x1), (2, .int x2), (3, .int x3)] → c4 x1 x2 x3 u = some out → W p l e rmX5_slipsOfAll s m args below meth c s.heap [] 0 0 (MQ below (vp_Si (fun r => r = out)) args s 0 0 (fun _ => False)) (F0 m 4 ls [])) {x1 : Int32} {x3 : Int32} {xs0 : Int32} {xs1 : Int32} {ls : Array Slot} (hl : lv_has ls 4 [(0, .ref (B 0)), (1, .int x1), (3, .int x3)]) (hf : fX5_slipsOfAll_30 c4 x1 x3 xs0 xs1 u = some out) : W p l e rmX5_slipsOfAll s m args below meth c s.heap [] 0 0 (MQ below (vp_Si (fun r => r = out)) args s 0 0 (fun _ => False)) (F0 m 30 ls [.int xs1, .int xs0]) := by
  obtain ⟨hx, hb, hr, hml, hown, hts, hlk, hK⟩ := id C0
  unfold fX5_slipsOfAll_30 at hf
  refine lv_iadd hx hb dX5_slipsOfAll_30 ?_
  refine lv_istore_n (lv' := [(2, .int (xs0 + xs1)), (0, .ref (B 0)), (1, .int x1), (3, .int x3)]) hx hb dX5_slipsOfAll_31 rfl hl (by decide) rfl (fun ls hl => ?_)
  refine lv_iinc (v := (x3 + (1 : Int32))) (lv' := [(3, .int (x3 + (1 : Int32))), (2, .int (xs0 + xs1)), (0, .ref (B 0)), (1, .int x1)]) hx hb dX5_slipsOfAll_32 hl (k := 3) rfl rfl (by decide) rfl (fun ls hl => ?_)
  refine lv_goto (tgt := 4) hx hb dX5_slipsOfAll_35 (by decide) ?_
  exact hc4 _ _ _ _ (lv_sub hl [2, 3, 1, 0] rfl) hf
set_option maxHeartbeats 4000000 in
set_option maxRecDepth 100000 in
theorem tX5_slipsOfAll_4 {p : Program} {l : Launch} {e : Env} {s : State} {m : MethodId} {args : Array Value} {below : List Frame} {meth : Method} {c : Code} {E : EE} {B : Nat → Nat} {u : SM} {out : Int32} (C0 : cx wsX5_slipsOfAll cX5_slipsOfAll 4 (some .int) RX5 E p s m args meth c) (hP : fP E (cM E B u) s.heap) : ∀ (n : Nat) (x1 : Int32) (x2 : Int32) (x3 : Int32) (ls : Array Slot), lv_has ls 4 [(0, .ref (B 0)), (1, .int x1), (2, .int x2), (3, .int x3)] → fX5_slipsOfAll_4 n x1 x2 x3 u = some out → W p l e rmX5_slipsOfAll s m args below meth c s.heap [] 0 0 (MQ below (vp_Si (fun r => r = out)) args s 0 0 (fun _ => False)) (F0 m 4 ls []) := by
  obtain ⟨hx, hb, hr, hml, hown, hts, hlk, hK⟩ := id C0
  intro n
  induction n with
  | zero =>
    intro x1 x2 x3 ls hl hf
    cases (show none = some out from hf)
  | succ n ih =>
    intro x1 x2 x3 ls hl hf
    rw [fX5_slipsOfAll_4] at hf
    refine lv_iload_n hx hb dX5_slipsOfAll_4 rfl (lv_at hl 3 rfl) ?_
    refine lv_aload_n hx hb dX5_slipsOfAll_5 rfl (lv_at hl 0 rfl) ?_
    refine m_get C0 hP iX5_slipsOfAll_X5 3 (by decide) (by decide +kernel) rfl dX5_slipsOfAll_6 ?_
    refine lv_icmp_ge (tgt := 38) hx hb dX5_slipsOfAll_9 (by decide) (fun c1 => ?_) (fun c1 => ?_)
    · have hf := th hf c1
      refine lv_iload_n hx hb dX5_slipsOfAll_38 rfl (lv_at hl 2 rfl) ?_
      exact e_roI C0 hf dX5_slipsOfAll_39
    · have hf := el hf c1
      refine lv_iload_n hx hb dX5_slipsOfAll_12 rfl (lv_at hl 2 rfl) ?_
      refine lv_iload_n hx hb dX5_slipsOfAll_13 rfl (lv_at hl 1 rfl) ?_
      refine lv_iload_n hx hb dX5_slipsOfAll_14 rfl (lv_at hl 3 rfl) ?_
      obtain ⟨q2, h3, hf⟩ := bd hf
      refine k_roI (run_S (rest := [.int x2]) (n := 2) (PH := fun _ => True) C0 (tX5_isIn E h3) gX5_slipsOfAll_X5_isIn rfl rfl (by decide +kernel) trivial hl.1 rfl rfl (Nat.le_of_ble_eq_true rfl) dX5_slipsOfAll_15) ?_
      refine lv_if_eq (tgt := 29) hx hb dX5_slipsOfAll_18 (by decide) (fun c4 => ?_) (fun c4 => ?_)
      · have hf := th hf c4
        refine lv_iconst (v := (0 : Int32)) hx hb dX5_slipsOfAll_29 (by decide) ?_
        exact tX5_slipsOfAll_30 C0 hP ih (lv_sub hl [0, 1, 3] rfl) hf
      · have hf := el hf c4
        refine lv_aload_n hx hb dX5_slipsOfAll_21 rfl (lv_at hl 0 rfl) ?_
        refine lv_iload_n hx hb dX5_slipsOfAll_22 rfl (lv_at hl 3 rfl) ?_
        obtain ⟨q5, h6, hf⟩ := bd hf
        refine k_roI (run_V (rest := [.int x2]) (n := 1) C0 (tX5_slipsOf E B h6) gX5_slipsOfAll_X5_slipsOf rfl rfl (by decide +kernel) (hP 0 _ rfl) rfl rfl hP hl.1 rfl rfl (Nat.le_of_ble_eq_true rfl) dX5_slipsOfAll_23) ?_
        refine lv_goto (tgt := 30) hx hb dX5_slipsOfAll_26 (by decide) ?_
        exact tX5_slipsOfAll_30 C0 hP ih (lv_sub hl [0, 1, 3] rfl) hf
set_option maxHeartbeats 4000000 in
set_option maxRecDepth 100000 in
theorem tX5_slipsOfAll_0 {p : Program} {l : Launch} {e : Env} {s : State} {m : MethodId} {args : Array Value} {below : List Frame} {meth : Method} {c : Code} {E : EE} {B : Nat → Nat} {u : SM} {out : Int32} (C0 : cx wsX5_slipsOfAll cX5_slipsOfAll 4 (some .int) RX5 E p s m args meth c) (hP : fP E (cM E B u) s.heap) {x1 : Int32} {ls : Array Slot} (hl : lv_has ls 4 [(0, .ref (B 0)), (1, .int x1)]) (hf : fX5_slipsOfAll x1 u = some out) : W p l e rmX5_slipsOfAll s m args below meth c s.heap [] 0 0 (MQ below (vp_Si (fun r => r = out)) args s 0 0 (fun _ => False)) (F0 m 0 ls []) := by
  obtain ⟨hx, hb, hr, hml, hown, hts, hlk, hK⟩ := id C0
  unfold fX5_slipsOfAll at hf
  refine lv_iconst (v := (0 : Int32)) hx hb dX5_slipsOfAll_0 (by decide) ?_
  refine lv_istore_n (lv' := [(2, .int (0 : Int32)), (0, .ref (B 0)), (1, .int x1)]) hx hb dX5_slipsOfAll_1 rfl hl (by decide) rfl (fun ls hl => ?_)
  refine lv_iconst (v := (0 : Int32)) hx hb dX5_slipsOfAll_2 (by decide) ?_
  refine lv_istore_n (lv' := [(3, .int (0 : Int32)), (2, .int (0 : Int32)), (0, .ref (B 0)), (1, .int x1)]) hx hb dX5_slipsOfAll_3 rfl hl (by decide) rfl (fun ls hl => ?_)
  exact tX5_slipsOfAll_4 C0 hP fu _ _ _ _ (lv_sub hl [2, 3, 1, 0] rfl) hf
set_option maxHeartbeats 4000000 in
set_option maxRecDepth 100000 in
theorem tX5_slipsOfAll {l : Launch} (E : EE) (B : Nat → Nat) {u : SM} {x1 : Int32} {out : Int32} (hf : fX5_slipsOfAll x1 u = some out) : roI l yX5_slipsOfAll wsX5_slipsOfAll rmX5_slipsOfAll E [.ref (B 0), .int x1] (fP E (cM E B u)) out := by
  refine Met.ofW (cc := cX5_slipsOfAll) (maxL := 4) (ret := (some .int)) (by decide) rfl ?_
  intro p e s m args below meth c s₁ B0 hml hv
  obtain ⟨rfl, hP, hK⟩ := hv
  have C0 : cx wsX5_slipsOfAll cX5_slipsOfAll 4 (some .int) RX5 E p s m _ meth c := ⟨B0.exec, B0.bytes, B0.returns, hml, findClass_of_methodNamed B0.named, atoms_spec (ws := wsX5_slipsOfAll) B0.pre, B0.notSynchronized, hK⟩
  have hl := lv_entry ([.ref (B 0), .int x1]) (n := 4) (Nat.le_of_ble_eq_true rfl)
  rw [lg_entry_eq]
  generalize (lg_sl ([.ref (B 0), .int x1]) ++ List.replicate (4 - (lg_sl ([.ref (B 0), .int x1])).length) Slot.unset).toArray = ls at hl ⊢
  exact tX5_slipsOfAll_0 C0 hP hl hf
abbrev rmX5_drawnOf : Room := { frames := 0, cells := 0, slots := 0, locals := 0 }
set_option maxRecDepth 20000 in
theorem iX5_drawnOf_X5 : ∀ w ∈ wsX50, w ∈ wsX5_drawnOf := by decide +kernel
set_option maxHeartbeats 4000000 in
set_option maxRecDepth 100000 in
theorem tX5_drawnOf_0 {p : Program} {l : Launch} {e : Env} {s : State} {m : MethodId} {args : Array Value} {below : List Frame} {meth : Method} {c : Code} {E : EE} {B : Nat → Nat} {u : SM} {out : Int32} (C0 : cx wsX5_drawnOf cX5_drawnOf 2 (some .int) RX5 E p s m args meth c) (hP : fP E (cM E B u) s.heap) {x1 : Int32} {ls : Array Slot} (hl : lv_has ls 2 [(0, .ref (B 0)), (1, .int x1)]) (hf : fX5_drawnOf x1 u = some out) : W p l e rmX5_drawnOf s m args below meth c s.heap [] 0 0 (MQ below (vp_Si (fun r => r = out)) args s 0 0 (fun _ => False)) (F0 m 0 ls []) := by
  obtain ⟨hx, hb, hr, hml, hown, hts, hlk, hK⟩ := id C0
  unfold fX5_drawnOf at hf
  refine lv_aload_n hx hb dX5_drawnOf_0 rfl (lv_at hl 0 rfl) ?_
  refine m_get C0 hP iX5_drawnOf_X5 1 (by decide) (by decide +kernel) rfl dX5_drawnOf_1 ?_
  refine lv_iload_n hx hb dX5_drawnOf_4 rfl (lv_at hl 1 rfl) ?_
  refine lv_icmp_ge (tgt := 15) hx hb dX5_drawnOf_5 (by decide) (fun c1 => ?_) (fun c1 => ?_)
  · have hf := th hf c1
    refine lv_iload_n hx hb dX5_drawnOf_15 rfl (lv_at hl 1 rfl) ?_
    exact e_roI C0 hf dX5_drawnOf_16
  · have hf := el hf c1
    refine lv_aload_n hx hb dX5_drawnOf_8 rfl (lv_at hl 0 rfl) ?_
    refine m_get C0 hP iX5_drawnOf_X5 1 (by decide) (by decide +kernel) rfl dX5_drawnOf_9 ?_
    refine lv_goto (tgt := 16) hx hb dX5_drawnOf_12 (by decide) ?_
    exact e_roI C0 hf dX5_drawnOf_16
set_option maxHeartbeats 4000000 in
set_option maxRecDepth 100000 in
theorem tX5_drawnOf {l : Launch} (E : EE) (B : Nat → Nat) {u : SM} {x1 : Int32} {out : Int32} (hf : fX5_drawnOf x1 u = some out) : roI l yX5_drawnOf wsX5_drawnOf rmX5_drawnOf E [.ref (B 0), .int x1] (fP E (cM E B u)) out := by
  refine Met.ofW (cc := cX5_drawnOf) (maxL := 2) (ret := (some .int)) (by decide) rfl ?_
  intro p e s m args below meth c s₁ B0 hml hv
  obtain ⟨rfl, hP, hK⟩ := hv
  have C0 : cx wsX5_drawnOf cX5_drawnOf 2 (some .int) RX5 E p s m _ meth c := ⟨B0.exec, B0.bytes, B0.returns, hml, findClass_of_methodNamed B0.named, atoms_spec (ws := wsX5_drawnOf) B0.pre, B0.notSynchronized, hK⟩
  have hl := lv_entry ([.ref (B 0), .int x1]) (n := 2) (Nat.le_of_ble_eq_true rfl)
  rw [lg_entry_eq]
  generalize (lg_sl ([.ref (B 0), .int x1]) ++ List.replicate (2 - (lg_sl ([.ref (B 0), .int x1])).length) Slot.unset).toArray = ls at hl ⊢
  exact tX5_drawnOf_0 C0 hP hl hf
abbrev rmX5_ofCitizen : Room := { frames := 2, cells := 0, slots := 0, locals := 46 }
set_option maxRecDepth 20000 in
theorem iX5_ofCitizen_X5 : ∀ w ∈ wsX50, w ∈ wsX5_ofCitizen := by decide +kernel
set_option maxHeartbeats 4000000 in
set_option maxRecDepth 100000 in
theorem tX5_ofCitizen_0 {p : Program} {l : Launch} {e : Env} {s : State} {m : MethodId} {args : Array Value} {below : List Frame} {meth : Method} {c : Code} {E : EE} {B : Nat → Nat} {u : SM} {out : Int32} (C0 : cx wsX5_ofCitizen cX5_ofCitizen 3 (some .int) RX5 E p s m args meth c) (hP : fP E (cM E B u) s.heap) {x1 : Int32} {x2 : Int32} {ls : Array Slot} (hl : lv_has ls 3 [(0, .ref (B 0)), (1, .int x1), (2, .int x2)]) (hf : fX5_ofCitizen x1 x2 u = some out) : W p l e rmX5_ofCitizen s m args below meth c s.heap [] 0 0 (MQ below (vp_Si (fun r => r = out)) args s 0 0 (fun _ => False)) (F0 m 0 ls []) := by
  obtain ⟨hx, hb, hr, hml, hown, hts, hlk, hK⟩ := id C0
  unfold fX5_ofCitizen at hf
  refine lv_aload_n hx hb dX5_ofCitizen_0 rfl (lv_at hl 0 rfl) ?_
  refine lv_iload_n hx hb dX5_ofCitizen_1 rfl (lv_at hl 1 rfl) ?_
  obtain ⟨q1, h2, hf⟩ := bd hf
  refine k_roI (run_V (rest := []) (n := 1) C0 (tX5_noCitizen E B h2) gX5_ofCitizen_X5_noCitizen rfl rfl (by decide +kernel) (hP 0 _ rfl) rfl rfl hP hl.1 rfl rfl (Nat.le_of_ble_eq_true rfl) dX5_ofCitizen_2) ?_
  refine lv_if_eq (tgt := 10) hx hb dX5_ofCitizen_5 (by decide) (fun c3 => ?_) (fun c3 => ?_)
  · have hf := th hf c3
    refine lv_iload_n hx hb dX5_ofCitizen_10 rfl (lv_at hl 2 rfl) ?_
    by_cases c4 : x2 = (0 : Int32)
    · have hf := th hf c4
      rw [c4]
      refine lv_tableIn (tgt := 48) hx hb dX5_ofCitizen_11 (by decide) (by decide) (by rfl) (by decide) ?_
      refine lv_aload_n hx hb dX5_ofCitizen_48 rfl (lv_at hl 0 rfl) ?_
      refine m_get C0 hP iX5_ofCitizen_X5 4 (by decide) (by decide +kernel) rfl dX5_ofCitizen_49 ?_
      refine lv_iload_n hx hb dX5_ofCitizen_52 rfl (lv_at hl 1 rfl) ?_
      obtain ⟨h5, hf⟩ := gd hf
      refine m_ald C0 hP 1 6 rfl h5 dX5_ofCitizen_53 ?_
      exact e_roI C0 hf dX5_ofCitizen_54
    · have hf := el hf c4
      by_cases c6 : x2 = (1 : Int32)
      · have hf := th hf c6
        rw [c6]
        refine lv_tableIn (tgt := 55) hx hb dX5_ofCitizen_11 (by decide) (by decide) (by rfl) (by decide) ?_
        refine lv_aload_n hx hb dX5_ofCitizen_55 rfl (lv_at hl 0 rfl) ?_
        refine m_get C0 hP iX5_ofCitizen_X5 5 (by decide) (by decide +kernel) rfl dX5_ofCitizen_56 ?_
        refine lv_iload_n hx hb dX5_ofCitizen_59 rfl (lv_at hl 1 rfl) ?_
        obtain ⟨h7, hf⟩ := gd hf
        refine m_ald C0 hP 2 6 rfl h7 dX5_ofCitizen_60 ?_
        exact e_roI C0 hf dX5_ofCitizen_61
      · have hf := el hf c6
        by_cases c8 : x2 = (2 : Int32)
        · have hf := th hf c8
          rw [c8]
          refine lv_tableIn (tgt := 62) hx hb dX5_ofCitizen_11 (by decide) (by decide) (by rfl) (by decide) ?_
          refine lv_aload_n hx hb dX5_ofCitizen_62 rfl (lv_at hl 0 rfl) ?_
          refine m_get C0 hP iX5_ofCitizen_X5 6 (by decide) (by decide +kernel) rfl dX5_ofCitizen_63 ?_
          refine lv_iload_n hx hb dX5_ofCitizen_66 rfl (lv_at hl 1 rfl) ?_
          obtain ⟨h9, hf⟩ := gd hf
          refine m_ald C0 hP 3 6 rfl h9 dX5_ofCitizen_67 ?_
          exact e_roI C0 hf dX5_ofCitizen_68
        · have hf := el hf c8
          by_cases c10 : x2 = (3 : Int32)
          · have hf := th hf c10
            rw [c10]
            refine lv_tableIn (tgt := 69) hx hb dX5_ofCitizen_11 (by decide) (by decide) (by rfl) (by decide) ?_
            refine lv_aload_n hx hb dX5_ofCitizen_69 rfl (lv_at hl 0 rfl) ?_
            refine m_get C0 hP iX5_ofCitizen_X5 7 (by decide) (by decide +kernel) rfl dX5_ofCitizen_70 ?_
            refine lv_iload_n hx hb dX5_ofCitizen_73 rfl (lv_at hl 1 rfl) ?_
            obtain ⟨q11, h12, hf⟩ := bd hf
            refine k_roI (run_S (rest := []) (n := 2) (PH := fun _ => True) C0 (tX5_isIn E h12) gX5_ofCitizen_X5_isIn rfl rfl (by decide +kernel) trivial hl.1 rfl rfl (Nat.le_of_ble_eq_true rfl) dX5_ofCitizen_74) ?_
            refine lv_if_eq (tgt := 84) hx hb dX5_ofCitizen_77 (by decide) (fun c13 => ?_) (fun c13 => ?_)
            · have hf := th hf c13
              refine lv_iconst (v := (0 : Int32)) hx hb dX5_ofCitizen_84 (by decide) ?_
              exact e_roI C0 hf dX5_ofCitizen_85
            · have hf := el hf c13
              refine lv_iconst (v := (1 : Int32)) hx hb dX5_ofCitizen_80 (by decide) ?_
              refine lv_goto (tgt := 85) hx hb dX5_ofCitizen_81 (by decide) ?_
              exact e_roI C0 hf dX5_ofCitizen_85
          · have hf := el hf c10
            by_cases c14 : x2 = (4 : Int32)
            · have hf := th hf c14
              rw [c14]
              refine lv_tableIn (tgt := 86) hx hb dX5_ofCitizen_11 (by decide) (by decide) (by rfl) (by decide) ?_
              refine lv_aload_n hx hb dX5_ofCitizen_86 rfl (lv_at hl 0 rfl) ?_
              refine lv_iload_n hx hb dX5_ofCitizen_87 rfl (lv_at hl 1 rfl) ?_
              obtain ⟨q15, h16, hf⟩ := bd hf
              refine k_roI (run_V (rest := []) (n := 1) C0 (tX5_slipsOf E B h16) gX5_ofCitizen_X5_slipsOf rfl rfl (by decide +kernel) (hP 0 _ rfl) rfl rfl hP hl.1 rfl rfl (Nat.le_of_ble_eq_true rfl) dX5_ofCitizen_88) ?_
              exact e_roI C0 hf dX5_ofCitizen_91
            · have hf := el hf c14
              by_cases c17 : x2 = (5 : Int32)
              · have hf := th hf c17
                rw [c17]
                refine lv_tableIn (tgt := 92) hx hb dX5_ofCitizen_11 (by decide) (by decide) (by rfl) (by decide) ?_
                refine lv_aload_n hx hb dX5_ofCitizen_92 rfl (lv_at hl 0 rfl) ?_
                refine lv_iconst (v := (1 : Int32)) hx hb dX5_ofCitizen_93 (by decide) ?_
                refine lv_iload_n hx hb dX5_ofCitizen_94 rfl (lv_at hl 1 rfl) ?_
                refine lv_ishl hx hb dX5_ofCitizen_95 ?_
                refine lv_iconst (v := (1 : Int32)) hx hb dX5_ofCitizen_96 (by decide) ?_
                refine lv_isub hx hb dX5_ofCitizen_97 ?_
                obtain ⟨q18, h19, hf⟩ := bd hf
                refine k_roI (run_V (rest := []) (n := 1) C0 (tX5_slipsOfAll E B h19) gX5_ofCitizen_X5_slipsOfAll rfl rfl (by decide +kernel) (hP 0 _ rfl) rfl rfl hP hl.1 rfl rfl (Nat.le_of_ble_eq_true rfl) dX5_ofCitizen_98) ?_
                exact e_roI C0 hf dX5_ofCitizen_101
              · have hf := el hf c17
                refine lv_tableOut (tgt := 102) hx hb dX5_ofCitizen_11 (by have q0 := lv_neT (a := 0) c4 (by decide); have q1 := lv_neT (a := 1) c6 (by decide); have q2 := lv_neT (a := 2) c8 (by decide); have q3 := lv_neT (a := 3) c10 (by decide); have q4 := lv_neT (a := 4) c14 (by decide); have q5 := lv_neT (a := 5) c17 (by decide); omega) (by decide) ?_
                refine lv_bipush (v := (-2 : Int32)) hx hb dX5_ofCitizen_102 (by decide) ?_
                exact e_roI C0 hf dX5_ofCitizen_104
  · have hf := el hf c3
    refine lv_iconst (v := (-1 : Int32)) hx hb dX5_ofCitizen_8 (by decide) ?_
    exact e_roI C0 hf dX5_ofCitizen_9
set_option maxHeartbeats 4000000 in
set_option maxRecDepth 100000 in
theorem tX5_ofCitizen {l : Launch} (E : EE) (B : Nat → Nat) {u : SM} {x1 : Int32} {x2 : Int32} {out : Int32} (hf : fX5_ofCitizen x1 x2 u = some out) : roI l yX5_ofCitizen wsX5_ofCitizen rmX5_ofCitizen E [.ref (B 0), .int x1, .int x2] (fP E (cM E B u)) out := by
  refine Met.ofW (cc := cX5_ofCitizen) (maxL := 3) (ret := (some .int)) (by decide) rfl ?_
  intro p e s m args below meth c s₁ B0 hml hv
  obtain ⟨rfl, hP, hK⟩ := hv
  have C0 : cx wsX5_ofCitizen cX5_ofCitizen 3 (some .int) RX5 E p s m _ meth c := ⟨B0.exec, B0.bytes, B0.returns, hml, findClass_of_methodNamed B0.named, atoms_spec (ws := wsX5_ofCitizen) B0.pre, B0.notSynchronized, hK⟩
  have hl := lv_entry ([.ref (B 0), .int x1, .int x2]) (n := 3) (Nat.le_of_ble_eq_true rfl)
  rw [lg_entry_eq]
  generalize (lg_sl ([.ref (B 0), .int x1, .int x2]) ++ List.replicate (3 - (lg_sl ([.ref (B 0), .int x1, .int x2])).length) Slot.unset).toArray = ls at hl ⊢
  exact tX5_ofCitizen_0 C0 hP hl hf
abbrev rmX5_drawn : Room := { frames := 1, cells := 0, slots := 0, locals := 25 }
set_option maxRecDepth 20000 in
theorem iX5_drawn_X5 : ∀ w ∈ wsX50, w ∈ wsX5_drawn := by decide +kernel
set_option maxHeartbeats 4000000 in
set_option maxRecDepth 100000 in
theorem tX5_drawn_0 {p : Program} {l : Launch} {e : Env} {s : State} {m : MethodId} {args : Array Value} {below : List Frame} {meth : Method} {c : Code} {E : EE} {B : Nat → Nat} {out : Int32 × SM} (C0 : cx wsX5_drawn cX5_drawn 3 (some .int) RX5 E p s m args meth c) {x1 : Int32} {u : SM} {H : Heap} {locs : List Loc} {ls : Array Slot} (hW : WM E B u s H locs) (hl : lv_has ls 3 [(0, .ref (B 0)), (1, .int x1)]) (hf : fX5_drawn x1 u = some out) : W p l e rmX5_drawn s m args below meth c H locs 0 0 (MQ below (va_Qi (fun r (_ : Unit) => r = out.1) (fun _ t => fP E (cM E B out.2) t.heap) (aM B)) args s 0 0 (aM B)) (F0 m 0 ls []) := by
  obtain ⟨hx, hb, hr, hml, hown, hts, hlk, hK⟩ := id C0
  unfold fX5_drawn at hf
  refine lv_iload_n hx hb dX5_drawn_0 rfl (lv_at hl 1 rfl) ?_
  refine lv_i2l (v := x1.toInt64) hx hb dX5_drawn_1 rfl ?_
  refine lv_lconst (v := (0 : Int64)) hx hb dX5_drawn_2 (by decide) ?_
  refine lv_ldc2 hx hb hown (hts (.constantLong RX5 135 (6)) (by decide +kernel)) dX5_drawn_3 ?_
  obtain ⟨q1, h2, hf⟩ := bd hf
  refine k_roI (run_S (rest := []) (n := 3) (PH := fun _ => True) C0 (tX5_in E h2) gX5_drawn_X5_in rfl rfl (by decide +kernel) trivial hl.1 rfl rfl (Nat.le_of_ble_eq_true rfl) dX5_drawn_6) ?_
  refine lv_if_ne (tgt := 15) hx hb dX5_drawn_9 (by decide) (fun c3 => ?_) (fun c3 => ?_)
  · have hf := el hf c3
    refine lv_aload_n hx hb dX5_drawn_15 rfl (lv_at hl 0 rfl) ?_
    refine m_get C0 hW.2.1 iX5_drawn_X5 3 (by decide) (by decide +kernel) rfl dX5_drawn_16 ?_
    refine lv_if_ne (tgt := 25) hx hb dX5_drawn_19 (by decide) (fun c4 => ?_) (fun c4 => ?_)
    · have hf := el hf c4
      refine lv_aload_n hx hb dX5_drawn_25 rfl (lv_at hl 0 rfl) ?_
      refine m_get C0 hW.2.1 iX5_drawn_X5 1 (by decide) (by decide +kernel) rfl dX5_drawn_26 ?_
      refine lv_istore_n (lv' := [(2, .int (u.1 1)), (0, .ref (B 0)), (1, .int x1)]) hx hb dX5_drawn_29 rfl hl (by decide) rfl (fun ls hl => ?_)
      refine lv_aload_n hx hb dX5_drawn_30 rfl (lv_at hl 1 rfl) ?_
      refine lv_iload_n hx hb dX5_drawn_31 rfl (lv_at hl 2 rfl) ?_
      refine m_put C0 hW iX5_drawn_X5 1 (by decide) (by decide +kernel) rfl (by decide +kernel) rfl dX5_drawn_32 (fun H locs hW => ?_)
      have hW : WM E B ((upd u.1 1 x1), u.2) s H locs := hW
      refine lv_iload_n hx hb dX5_drawn_35 rfl (lv_at hl 0 rfl) ?_
      obtain rfl := Option.some.inj hf
      exact e_muI (QH := fP E (cM E B ((upd u.1 1 x1), u.2))) C0 hW.2.2 rfl hW.2.1 dX5_drawn_36
    · have hf := th hf c4
      refine lv_bipush (v := (-3 : Int32)) hx hb dX5_drawn_22 (by decide) ?_
      obtain rfl := Option.some.inj hf
      exact e_muI (QH := fP E (cM E B u)) C0 hW.2.2 rfl hW.2.1 dX5_drawn_24
  · have hf := th hf c3
    refine lv_bipush (v := (-2 : Int32)) hx hb dX5_drawn_12 (by decide) ?_
    obtain rfl := Option.some.inj hf
    exact e_muI (QH := fP E (cM E B u)) C0 hW.2.2 rfl hW.2.1 dX5_drawn_14
set_option maxHeartbeats 4000000 in
set_option maxRecDepth 100000 in
theorem tX5_drawn {l : Launch} (E : EE) (B : Nat → Nat) {u : SM} {x1 : Int32} {out : Int32 × SM} (hB : iM B) (hf : fX5_drawn x1 u = some out) : muI l yX5_drawn wsX5_drawn rmX5_drawn E [.ref (B 0), .int x1] (aM B) (fP E (cM E B u)) (fP E (cM E B out.2)) out.1 := by
  refine Met.ofW (cc := cX5_drawn) (maxL := 3) (ret := (some .int)) (by decide) rfl ?_
  intro p e s m args below meth c s₁ B0 hml hv
  obtain ⟨rfl, hP, hK⟩ := hv
  have C0 : cx wsX5_drawn cX5_drawn 3 (some .int) RX5 E p s m _ meth c := ⟨B0.exec, B0.bytes, B0.returns, hml, findClass_of_methodNamed B0.named, atoms_spec (ws := wsX5_drawn) B0.pre, B0.notSynchronized, hK⟩
  have hl := lv_entry ([.ref (B 0), .int x1]) (n := 3) (Nat.le_of_ble_eq_true rfl)
  rw [lg_entry_eq]
  generalize (lg_sl ([.ref (B 0), .int x1]) ++ List.replicate (3 - (lg_sl ([.ref (B 0), .int x1])).length) Slot.unset).toArray = ls at hl ⊢
  exact tX5_drawn_0 C0 ⟨hB, hP, va_S.rf⟩ hl hf
abbrev rmX5_price : Room := { frames := 1, cells := 0, slots := 0, locals := 25 }
set_option maxRecDepth 20000 in
theorem iX5_price_X5 : ∀ w ∈ wsX50, w ∈ wsX5_price := by decide +kernel
set_option maxHeartbeats 4000000 in
set_option maxRecDepth 100000 in
theorem tX5_price_0 {p : Program} {l : Launch} {e : Env} {s : State} {m : MethodId} {args : Array Value} {below : List Frame} {meth : Method} {c : Code} {E : EE} {B : Nat → Nat} {out : Int32 × SM} (C0 : cx wsX5_price cX5_price 3 (some .int) RX5 E p s m args meth c) {x1 : Int32} {u : SM} {H : Heap} {locs : List Loc} {ls : Array Slot} (hW : WM E B u s H locs) (hl : lv_has ls 3 [(0, .ref (B 0)), (1, .int x1)]) (hf : fX5_price x1 u = some out) : W p l e rmX5_price s m args below meth c H locs 0 0 (MQ below (va_Qi (fun r (_ : Unit) => r = out.1) (fun _ t => fP E (cM E B out.2) t.heap) (aM B)) args s 0 0 (aM B)) (F0 m 0 ls []) := by
  obtain ⟨hx, hb, hr, hml, hown, hts, hlk, hK⟩ := id C0
  unfold fX5_price at hf
  refine lv_iload_n hx hb dX5_price_0 rfl (lv_at hl 1 rfl) ?_
  refine lv_i2l (v := x1.toInt64) hx hb dX5_price_1 rfl ?_
  refine lv_lconst (v := (1 : Int64)) hx hb dX5_price_2 (by decide) ?_
  refine lv_ldc2 hx hb hown (hts (.constantLong RX5 137 (9)) (by decide +kernel)) dX5_price_3 ?_
  obtain ⟨q1, h2, hf⟩ := bd hf
  refine k_roI (run_S (rest := []) (n := 3) (PH := fun _ => True) C0 (tX5_in E h2) gX5_price_X5_in rfl rfl (by decide +kernel) trivial hl.1 rfl rfl (Nat.le_of_ble_eq_true rfl) dX5_price_6) ?_
  refine lv_if_ne (tgt := 15) hx hb dX5_price_9 (by decide) (fun c3 => ?_) (fun c3 => ?_)
  · have hf := el hf c3
    refine lv_aload_n hx hb dX5_price_15 rfl (lv_at hl 0 rfl) ?_
    refine m_get C0 hW.2.1 iX5_price_X5 3 (by decide) (by decide +kernel) rfl dX5_price_16 ?_
    refine lv_if_ne (tgt := 25) hx hb dX5_price_19 (by decide) (fun c4 => ?_) (fun c4 => ?_)
    · have hf := el hf c4
      refine lv_aload_n hx hb dX5_price_25 rfl (lv_at hl 0 rfl) ?_
      refine m_get C0 hW.2.1 iX5_price_X5 2 (by decide) (by decide +kernel) rfl dX5_price_26 ?_
      refine lv_istore_n (lv' := [(2, .int (u.1 2)), (0, .ref (B 0)), (1, .int x1)]) hx hb dX5_price_29 rfl hl (by decide) rfl (fun ls hl => ?_)
      refine lv_aload_n hx hb dX5_price_30 rfl (lv_at hl 1 rfl) ?_
      refine lv_iload_n hx hb dX5_price_31 rfl (lv_at hl 2 rfl) ?_
      refine m_put C0 hW iX5_price_X5 2 (by decide) (by decide +kernel) rfl (by decide +kernel) rfl dX5_price_32 (fun H locs hW => ?_)
      have hW : WM E B ((upd u.1 2 x1), u.2) s H locs := hW
      refine lv_iload_n hx hb dX5_price_35 rfl (lv_at hl 0 rfl) ?_
      obtain rfl := Option.some.inj hf
      exact e_muI (QH := fP E (cM E B ((upd u.1 2 x1), u.2))) C0 hW.2.2 rfl hW.2.1 dX5_price_36
    · have hf := th hf c4
      refine lv_bipush (v := (-3 : Int32)) hx hb dX5_price_22 (by decide) ?_
      obtain rfl := Option.some.inj hf
      exact e_muI (QH := fP E (cM E B u)) C0 hW.2.2 rfl hW.2.1 dX5_price_24
  · have hf := th hf c3
    refine lv_bipush (v := (-2 : Int32)) hx hb dX5_price_12 (by decide) ?_
    obtain rfl := Option.some.inj hf
    exact e_muI (QH := fP E (cM E B u)) C0 hW.2.2 rfl hW.2.1 dX5_price_14
set_option maxHeartbeats 4000000 in
set_option maxRecDepth 100000 in
theorem tX5_price {l : Launch} (E : EE) (B : Nat → Nat) {u : SM} {x1 : Int32} {out : Int32 × SM} (hB : iM B) (hf : fX5_price x1 u = some out) : muI l yX5_price wsX5_price rmX5_price E [.ref (B 0), .int x1] (aM B) (fP E (cM E B u)) (fP E (cM E B out.2)) out.1 := by
  refine Met.ofW (cc := cX5_price) (maxL := 3) (ret := (some .int)) (by decide) rfl ?_
  intro p e s m args below meth c s₁ B0 hml hv
  obtain ⟨rfl, hP, hK⟩ := hv
  have C0 : cx wsX5_price cX5_price 3 (some .int) RX5 E p s m _ meth c := ⟨B0.exec, B0.bytes, B0.returns, hml, findClass_of_methodNamed B0.named, atoms_spec (ws := wsX5_price) B0.pre, B0.notSynchronized, hK⟩
  have hl := lv_entry ([.ref (B 0), .int x1]) (n := 3) (Nat.le_of_ble_eq_true rfl)
  rw [lg_entry_eq]
  generalize (lg_sl ([.ref (B 0), .int x1]) ++ List.replicate (3 - (lg_sl ([.ref (B 0), .int x1])).length) Slot.unset).toArray = ls at hl ⊢
  exact tX5_price_0 C0 ⟨hB, hP, va_S.rf⟩ hl hf
abbrev rmX5_wish : Room := { frames := 2, cells := 0, slots := 0, locals := 46 }
set_option maxRecDepth 20000 in
theorem iX5_wish_X5 : ∀ w ∈ wsX50, w ∈ wsX5_wish := by decide +kernel
set_option maxHeartbeats 4000000 in
set_option maxRecDepth 100000 in
theorem tX5_wish_45 {p : Program} {l : Launch} {e : Env} {s : State} {m : MethodId} {args : Array Value} {below : List Frame} {meth : Method} {c : Code} {E : EE} {B : Nat → Nat} {out : Int32 × SM} (C0 : cx wsX5_wish cX5_wish 4 (some .int) RX5 E p s m args meth c) {x2 : Int32} {x3 : Int32} {xs1 : Int32} {u : SM} {H : Heap} {locs : List Loc} {ls : Array Slot} (hW : WM E B u s H locs) (hl : lv_has ls 4 [(2, .int x2), (3, .int x3)]) (hf : fX5_wish_45 x2 x3 xs1 u = some out) : W p l e rmX5_wish s m args below meth c H locs 0 0 (MQ below (va_Qi (fun r (_ : Unit) => r = out.1) (fun _ t => fP E (cM E B out.2) t.heap) (aM B)) args s 0 0 (aM B)) (F0 m 45 ls [.int xs1, .ref (B 0)]) := by
  obtain ⟨hx, hb, hr, hml, hown, hts, hlk, hK⟩ := id C0
  unfold fX5_wish_45 at hf
  refine m_put C0 hW iX5_wish_X5 7 (by decide) (by decide +kernel) rfl (by decide +kernel) rfl dX5_wish_45 (fun H locs hW => ?_)
  have hW : WM E B ((upd u.1 7 xs1), u.2) s H locs := hW
  refine lv_iload_n hx hb dX5_wish_48 rfl (lv_at hl 1 rfl) ?_
  refine lv_iload_n hx hb dX5_wish_49 rfl (lv_at hl 0 rfl) ?_
  refine lv_icmp_ne (tgt := 57) hx hb dX5_wish_50 (by decide) (fun c1 => ?_) (fun c1 => ?_)
  · have hf := el hf c1
    refine lv_iconst (v := (1 : Int32)) hx hb dX5_wish_57 (by decide) ?_
    obtain rfl := Option.some.inj hf
    exact e_muI (QH := fP E (cM E B ((upd u.1 7 xs1), u.2))) C0 hW.2.2 rfl hW.2.1 dX5_wish_58
  · have hf := th hf c1
    refine lv_iconst (v := (0 : Int32)) hx hb dX5_wish_53 (by decide) ?_
    refine lv_goto (tgt := 58) hx hb dX5_wish_54 (by decide) ?_
    obtain rfl := Option.some.inj hf
    exact e_muI (QH := fP E (cM E B ((upd u.1 7 xs1), u.2))) C0 hW.2.2 rfl hW.2.1 dX5_wish_58
set_option maxHeartbeats 4000000 in
set_option maxRecDepth 100000 in
theorem tX5_wish_0 {p : Program} {l : Launch} {e : Env} {s : State} {m : MethodId} {args : Array Value} {below : List Frame} {meth : Method} {c : Code} {E : EE} {B : Nat → Nat} {out : Int32 × SM} (C0 : cx wsX5_wish cX5_wish 4 (some .int) RX5 E p s m args meth c) {x1 : Int32} {x2 : Int32} {u : SM} {H : Heap} {locs : List Loc} {ls : Array Slot} (hW : WM E B u s H locs) (hl : lv_has ls 4 [(0, .ref (B 0)), (1, .int x1), (2, .int x2)]) (hf : fX5_wish x1 x2 u = some out) : W p l e rmX5_wish s m args below meth c H locs 0 0 (MQ below (va_Qi (fun r (_ : Unit) => r = out.1) (fun _ t => fP E (cM E B out.2) t.heap) (aM B)) args s 0 0 (aM B)) (F0 m 0 ls []) := by
  obtain ⟨hx, hb, hr, hml, hown, hts, hlk, hK⟩ := id C0
  unfold fX5_wish at hf
  refine lv_aload_n hx hb dX5_wish_0 rfl (lv_at hl 0 rfl) ?_
  refine lv_iload_n hx hb dX5_wish_1 rfl (lv_at hl 1 rfl) ?_
  obtain ⟨q1, h2, hf⟩ := bd hf
  refine k_roI (run_V (rest := []) (n := 1) C0 (tX5_noCitizen E B h2) gX5_wish_X5_noCitizen rfl rfl (by decide +kernel) (hW.2.1 0 _ rfl) rfl rfl hW.2.1 hl.1 rfl rfl (Nat.le_of_ble_eq_true rfl) dX5_wish_2) ?_
  refine lv_if_eq (tgt := 10) hx hb dX5_wish_5 (by decide) (fun c3 => ?_) (fun c3 => ?_)
  · have hf := th hf c3
    refine lv_aload_n hx hb dX5_wish_10 rfl (lv_at hl 0 rfl) ?_
    refine m_get C0 hW.2.1 iX5_wish_X5 7 (by decide) (by decide +kernel) rfl dX5_wish_11 ?_
    refine lv_iload_n hx hb dX5_wish_14 rfl (lv_at hl 1 rfl) ?_
    obtain ⟨q4, h5, hf⟩ := bd hf
    refine k_roI (run_S (rest := []) (n := 2) (PH := fun _ => True) C0 (tX5_isIn E h5) gX5_wish_X5_isIn rfl rfl (by decide +kernel) trivial hl.1 rfl rfl (Nat.le_of_ble_eq_true rfl) dX5_wish_15) ?_
    refine lv_istore_n (lv' := [(3, .int q4), (0, .ref (B 0)), (1, .int x1), (2, .int x2)]) hx hb dX5_wish_18 rfl hl (by decide) rfl (fun ls hl => ?_)
    refine lv_aload_n hx hb dX5_wish_19 rfl (lv_at hl 1 rfl) ?_
    refine lv_iload_n hx hb dX5_wish_20 rfl (lv_at hl 3 rfl) ?_
    refine lv_if_eq (tgt := 35) hx hb dX5_wish_21 (by decide) (fun c6 => ?_) (fun c6 => ?_)
    · have hf := th hf c6
      refine lv_aload_n hx hb dX5_wish_35 rfl (lv_at hl 1 rfl) ?_
      refine m_get C0 hW.2.1 iX5_wish_X5 7 (by decide) (by decide +kernel) rfl dX5_wish_36 ?_
      refine lv_iconst (v := (1 : Int32)) hx hb dX5_wish_39 (by decide) ?_
      refine lv_iload_n hx hb dX5_wish_40 rfl (lv_at hl 2 rfl) ?_
      refine lv_ishl hx hb dX5_wish_41 ?_
      refine lv_iconst (v := (-1 : Int32)) hx hb dX5_wish_42 (by decide) ?_
      refine lv_ixor hx hb dX5_wish_43 ?_
      refine lv_iand hx hb dX5_wish_44 ?_
      exact tX5_wish_45 C0 hW (lv_sub hl [3, 0] rfl) hf
    · have hf := el hf c6
      refine lv_aload_n hx hb dX5_wish_24 rfl (lv_at hl 1 rfl) ?_
      refine m_get C0 hW.2.1 iX5_wish_X5 7 (by decide) (by decide +kernel) rfl dX5_wish_25 ?_
      refine lv_iconst (v := (1 : Int32)) hx hb dX5_wish_28 (by decide) ?_
      refine lv_iload_n hx hb dX5_wish_29 rfl (lv_at hl 2 rfl) ?_
      refine lv_ishl hx hb dX5_wish_30 ?_
      refine lv_ior hx hb dX5_wish_31 ?_
      refine lv_goto (tgt := 45) hx hb dX5_wish_32 (by decide) ?_
      exact tX5_wish_45 C0 hW (lv_sub hl [3, 0] rfl) hf
  · have hf := el hf c3
    refine lv_iconst (v := (-1 : Int32)) hx hb dX5_wish_8 (by decide) ?_
    obtain rfl := Option.some.inj hf
    exact e_muI (QH := fP E (cM E B u)) C0 hW.2.2 rfl hW.2.1 dX5_wish_9
set_option maxHeartbeats 4000000 in
set_option maxRecDepth 100000 in
theorem tX5_wish {l : Launch} (E : EE) (B : Nat → Nat) {u : SM} {x1 : Int32} {x2 : Int32} {out : Int32 × SM} (hB : iM B) (hf : fX5_wish x1 x2 u = some out) : muI l yX5_wish wsX5_wish rmX5_wish E [.ref (B 0), .int x1, .int x2] (aM B) (fP E (cM E B u)) (fP E (cM E B out.2)) out.1 := by
  refine Met.ofW (cc := cX5_wish) (maxL := 4) (ret := (some .int)) (by decide) rfl ?_
  intro p e s m args below meth c s₁ B0 hml hv
  obtain ⟨rfl, hP, hK⟩ := hv
  have C0 : cx wsX5_wish cX5_wish 4 (some .int) RX5 E p s m _ meth c := ⟨B0.exec, B0.bytes, B0.returns, hml, findClass_of_methodNamed B0.named, atoms_spec (ws := wsX5_wish) B0.pre, B0.notSynchronized, hK⟩
  have hl := lv_entry ([.ref (B 0), .int x1, .int x2]) (n := 4) (Nat.le_of_ble_eq_true rfl)
  rw [lg_entry_eq]
  generalize (lg_sl ([.ref (B 0), .int x1, .int x2]) ++ List.replicate (4 - (lg_sl ([.ref (B 0), .int x1, .int x2])).length) Slot.unset).toArray = ls at hl ⊢
  exact tX5_wish_0 C0 ⟨hB, hP, va_S.rf⟩ hl hf
abbrev rmX5_ownerOf : Room := { frames := 1, cells := 0, slots := 0, locals := 22 }
set_option maxHeartbeats 4000000 in
set_option maxRecDepth 100000 in
theorem tX5_ownerOf_4 {p : Program} {l : Launch} {e : Env} {s : State} {m : MethodId} {args : Array Value} {below : List Frame} {meth : Method} {c : Code} {E : EE} {B : Nat → Nat} {u : SM} {out : Int32} (C0 : cx wsX5_ownerOf cX5_ownerOf 4 (some .int) RX5 E p s m args meth c) (hP : fP E (cM E B u) s.heap) : ∀ (n : Nat) (x2 : Int32) (x3 : Int32) (ls : Array Slot), lv_has ls 4 [(0, .ref (B 0)), (2, .int x2), (3, .int x3)] → fX5_ownerOf_4 n x2 x3 u = some out → W p l e rmX5_ownerOf s m args below meth c s.heap [] 0 0 (MQ below (vp_Si (fun r => r = out)) args s 0 0 (fun _ => False)) (F0 m 4 ls []) := by
  obtain ⟨hx, hb, hr, hml, hown, hts, hlk, hK⟩ := id C0
  intro n
  induction n with
  | zero =>
    intro x2 x3 ls hl hf
    cases (show none = some out from hf)
  | succ n ih =>
    intro x2 x3 ls hl hf
    rw [fX5_ownerOf_4] at hf
    refine lv_iload_n hx hb dX5_ownerOf_4 rfl (lv_at hl 2 rfl) ?_
    refine lv_aload_n hx hb dX5_ownerOf_5 rfl (lv_at hl 0 rfl) ?_
    refine lv_iload_n hx hb dX5_ownerOf_6 rfl (lv_at hl 1 rfl) ?_
    obtain ⟨q1, h2, hf⟩ := bd hf
    refine k_roI (run_V (rest := [.int x3]) (n := 1) C0 (tX5_slipsOf E B h2) gX5_ownerOf_X5_slipsOf rfl rfl (by decide +kernel) (hP 0 _ rfl) rfl rfl hP hl.1 rfl rfl (Nat.le_of_ble_eq_true rfl) dX5_ownerOf_7) ?_
    refine lv_icmp_lt (tgt := 27) hx hb dX5_ownerOf_10 (by decide) (fun c3 => ?_) (fun c3 => ?_)
    · have hf := th hf c3
      refine lv_iload_n hx hb dX5_ownerOf_27 rfl (lv_at hl 1 rfl) ?_
      exact e_roI C0 hf dX5_ownerOf_28
    · have hf := el hf c3
      refine lv_iload_n hx hb dX5_ownerOf_13 rfl (lv_at hl 2 rfl) ?_
      refine lv_aload_n hx hb dX5_ownerOf_14 rfl (lv_at hl 0 rfl) ?_
      refine lv_iload_n hx hb dX5_ownerOf_15 rfl (lv_at hl 1 rfl) ?_
      obtain ⟨q4, h5, hf⟩ := bd hf
      refine k_roI (run_V (rest := [.int x3]) (n := 1) C0 (tX5_slipsOf E B h5) gX5_ownerOf_X5_slipsOf rfl rfl (by decide +kernel) (hP 0 _ rfl) rfl rfl hP hl.1 rfl rfl (Nat.le_of_ble_eq_true rfl) dX5_ownerOf_16) ?_
      refine lv_isub hx hb dX5_ownerOf_19 ?_
      refine lv_istore_n (lv' := [(3, .int (x3 - q4)), (0, .ref (B 0)), (2, .int x2)]) hx hb dX5_ownerOf_20 rfl hl (by decide) rfl (fun ls hl => ?_)
      refine lv_iinc (v := (x2 + (1 : Int32))) (lv' := [(2, .int (x2 + (1 : Int32))), (3, .int (x3 - q4)), (0, .ref (B 0))]) hx hb dX5_ownerOf_21 hl (k := 2) rfl rfl (by decide) rfl (fun ls hl => ?_)
      refine lv_goto (tgt := 4) hx hb dX5_ownerOf_24 (by decide) ?_
      exact ih _ _ _ (lv_sub hl [2, 0, 1] rfl) hf
set_option maxHeartbeats 4000000 in
set_option maxRecDepth 100000 in
theorem tX5_ownerOf_0 {p : Program} {l : Launch} {e : Env} {s : State} {m : MethodId} {args : Array Value} {below : List Frame} {meth : Method} {c : Code} {E : EE} {B : Nat → Nat} {u : SM} {out : Int32} (C0 : cx wsX5_ownerOf cX5_ownerOf 4 (some .int) RX5 E p s m args meth c) (hP : fP E (cM E B u) s.heap) {x1 : Int32} {ls : Array Slot} (hl : lv_has ls 4 [(0, .ref (B 0)), (1, .int x1)]) (hf : fX5_ownerOf x1 u = some out) : W p l e rmX5_ownerOf s m args below meth c s.heap [] 0 0 (MQ below (vp_Si (fun r => r = out)) args s 0 0 (fun _ => False)) (F0 m 0 ls []) := by
  obtain ⟨hx, hb, hr, hml, hown, hts, hlk, hK⟩ := id C0
  unfold fX5_ownerOf at hf
  refine lv_iconst (v := (0 : Int32)) hx hb dX5_ownerOf_0 (by decide) ?_
  refine lv_istore_n (lv' := [(2, .int (0 : Int32)), (0, .ref (B 0)), (1, .int x1)]) hx hb dX5_ownerOf_1 rfl hl (by decide) rfl (fun ls hl => ?_)
  refine lv_iload_n hx hb dX5_ownerOf_2 rfl (lv_at hl 2 rfl) ?_
  refine lv_istore_n (lv' := [(3, .int x1), (2, .int (0 : Int32)), (0, .ref (B 0)), (1, .int x1)]) hx hb dX5_ownerOf_3 rfl hl (by decide) rfl (fun ls hl => ?_)
  exact tX5_ownerOf_4 C0 hP fu _ _ _ (lv_sub hl [2, 1, 0] rfl) hf
set_option maxHeartbeats 4000000 in
set_option maxRecDepth 100000 in
theorem tX5_ownerOf {l : Launch} (E : EE) (B : Nat → Nat) {u : SM} {x1 : Int32} {out : Int32} (hf : fX5_ownerOf x1 u = some out) : roI l yX5_ownerOf wsX5_ownerOf rmX5_ownerOf E [.ref (B 0), .int x1] (fP E (cM E B u)) out := by
  refine Met.ofW (cc := cX5_ownerOf) (maxL := 4) (ret := (some .int)) (by decide) rfl ?_
  intro p e s m args below meth c s₁ B0 hml hv
  obtain ⟨rfl, hP, hK⟩ := hv
  have C0 : cx wsX5_ownerOf cX5_ownerOf 4 (some .int) RX5 E p s m _ meth c := ⟨B0.exec, B0.bytes, B0.returns, hml, findClass_of_methodNamed B0.named, atoms_spec (ws := wsX5_ownerOf) B0.pre, B0.notSynchronized, hK⟩
  have hl := lv_entry ([.ref (B 0), .int x1]) (n := 4) (Nat.le_of_ble_eq_true rfl)
  rw [lg_entry_eq]
  generalize (lg_sl ([.ref (B 0), .int x1]) ++ List.replicate (4 - (lg_sl ([.ref (B 0), .int x1])).length) Slot.unset).toArray = ls at hl ⊢
  exact tX5_ownerOf_0 C0 hP hl hf
abbrev rmX5_doesPass : Room := { frames := 1, cells := 0, slots := 0, locals := 22 }
set_option maxRecDepth 20000 in
theorem iX5_doesPass_X5 : ∀ w ∈ wsX50, w ∈ wsX5_doesPass := by decide +kernel
set_option maxHeartbeats 4000000 in
set_option maxRecDepth 100000 in
theorem tX5_doesPass_0 {p : Program} {l : Launch} {e : Env} {s : State} {m : MethodId} {args : Array Value} {below : List Frame} {meth : Method} {c : Code} {E : EE} {B : Nat → Nat} {u : SM} {out : Int32} (C0 : cx wsX5_doesPass cX5_doesPass 2 (some .boolean) RX5 E p s m args meth c) (hP : fP E (cM E B u) s.heap) {x1 : Int32} {ls : Array Slot} (hl : lv_has ls 2 [(0, .ref (B 0)), (1, .int x1)]) (hf : fX5_doesPass x1 u = some out) : W p l e rmX5_doesPass s m args below meth c s.heap [] 0 0 (MQ below (vp_Si (fun r => r = out)) args s 0 0 (fun _ => False)) (F0 m 0 ls []) := by
  obtain ⟨hx, hb, hr, hml, hown, hts, hlk, hK⟩ := id C0
  unfold fX5_doesPass at hf
  refine lv_iload_n hx hb dX5_doesPass_0 rfl (lv_at hl 1 rfl) ?_
  refine lv_aload_n hx hb dX5_doesPass_1 rfl (lv_at hl 0 rfl) ?_
  refine m_get C0 hP iX5_doesPass_X5 7 (by decide) (by decide +kernel) rfl dX5_doesPass_2 ?_
  refine lv_iand hx hb dX5_doesPass_5 ?_
  obtain ⟨q1, h2, hf⟩ := bd hf
  refine k_roI (run_S (rest := []) (n := 1) (PH := fun _ => True) C0 (tX5_bits E h2) gX5_doesPass_X5_bits rfl rfl (by decide +kernel) trivial hl.1 rfl rfl (Nat.le_of_ble_eq_true rfl) dX5_doesPass_6) ?_
  refine lv_iload_n hx hb dX5_doesPass_9 rfl (lv_at hl 1 rfl) ?_
  refine lv_aload_n hx hb dX5_doesPass_10 rfl (lv_at hl 0 rfl) ?_
  refine m_get C0 hP iX5_doesPass_X5 7 (by decide) (by decide +kernel) rfl dX5_doesPass_11 ?_
  refine lv_iconst (v := (-1 : Int32)) hx hb dX5_doesPass_14 (by decide) ?_
  refine lv_ixor hx hb dX5_doesPass_15 ?_
  refine lv_iand hx hb dX5_doesPass_16 ?_
  obtain ⟨q3, h4, hf⟩ := bd hf
  refine k_roI (run_S (rest := [.int q1]) (n := 1) (PH := fun _ => True) C0 (tX5_bits E h4) gX5_doesPass_X5_bits rfl rfl (by decide +kernel) trivial hl.1 rfl rfl (Nat.le_of_ble_eq_true rfl) dX5_doesPass_17) ?_
  refine lv_icmp_le (tgt := 27) hx hb dX5_doesPass_20 (by decide) (fun c5 => ?_) (fun c5 => ?_)
  · have hf := th hf c5
    refine lv_iconst (v := (0 : Int32)) hx hb dX5_doesPass_27 (by decide) ?_
    exact e_roZ C0 hf dX5_doesPass_28
  · have hf := el hf c5
    refine lv_iconst (v := (1 : Int32)) hx hb dX5_doesPass_23 (by decide) ?_
    refine lv_goto (tgt := 28) hx hb dX5_doesPass_24 (by decide) ?_
    exact e_roZ C0 hf dX5_doesPass_28
set_option maxHeartbeats 4000000 in
set_option maxRecDepth 100000 in
theorem tX5_doesPass {l : Launch} (E : EE) (B : Nat → Nat) {u : SM} {x1 : Int32} {out : Int32} (hf : fX5_doesPass x1 u = some out) : roI l yX5_doesPass wsX5_doesPass rmX5_doesPass E [.ref (B 0), .int x1] (fP E (cM E B u)) out := by
  refine Met.ofW (cc := cX5_doesPass) (maxL := 2) (ret := (some .boolean)) (by decide) rfl ?_
  intro p e s m args below meth c s₁ B0 hml hv
  obtain ⟨rfl, hP, hK⟩ := hv
  have C0 : cx wsX5_doesPass cX5_doesPass 2 (some .boolean) RX5 E p s m _ meth c := ⟨B0.exec, B0.bytes, B0.returns, hml, findClass_of_methodNamed B0.named, atoms_spec (ws := wsX5_doesPass) B0.pre, B0.notSynchronized, hK⟩
  have hl := lv_entry ([.ref (B 0), .int x1]) (n := 2) (Nat.le_of_ble_eq_true rfl)
  rw [lg_entry_eq]
  generalize (lg_sl ([.ref (B 0), .int x1]) ++ List.replicate (2 - (lg_sl ([.ref (B 0), .int x1])).length) Slot.unset).toArray = ls at hl ⊢
  exact tX5_doesPass_0 C0 hP hl hf
abbrev rmX5_freeBy : Room := { frames := 2, cells := 0, slots := 0, locals := 45 }
set_option maxRecDepth 20000 in
theorem iX5_freeBy_X5 : ∀ w ∈ wsX50, w ∈ wsX5_freeBy := by decide +kernel
set_option maxHeartbeats 4000000 in
set_option maxRecDepth 100000 in
theorem tX5_freeBy_97 {p : Program} {l : Launch} {e : Env} {s : State} {m : MethodId} {args : Array Value} {below : List Frame} {meth : Method} {c : Code} {E : EE} {B : Nat → Nat} {out : Int32 × SM} {c11 : Int32 → Int32 → Int32 → Int32 → SM → Option (Int32 × SM)} {c66 : Int32 → Int32 → Int32 → Int32 → Int32 → Int32 → Int32 → SM → Option (Int32 × SM)} (C0 : cx wsX5_freeBy cX5_freeBy 8 (some .int) RX5 E p s m args meth c) (hc11 : ∀ (x1 : Int32) (x2 : Int32) (x3 : Int32) (x4 : Int32) (u : SM) (H : Heap) (locs : List Loc) (ls : Array Slot) (_ : WM E B u s H locs), lv_has ls 8 [(0, .ref (B 0)), (1, .int x1), (2, .int x2), (3, .int x3), (4, .int x4)] → c11 x1 x2 x3 x4 u = some out → W p l e rmX5_freeBy s m args below meth c H locs 0 0 (MQ below (va_Qi (fun r (_ : Unit) => r = out.1) (fun _ t => fP E (cM E B out.2) t.heap) (aM B)) args s 0 0 (aM B)) (F0 m 11 ls [])) (hc66 : ∀ (x1 : Int32) (x2 : Int32) (x3 : Int32) (x4 : Int32) (x5 : Int32) (x6 : Int32) (x7 : Int32) (u : SM) (H : Heap) (locs : List Loc) (ls : Array Slot) (_ : WM E B u s H locs), lv_has ls 8 [(0, .ref (B 0)), (1, .int x1), (2, .int x2), (3, .int x3), (4, .int x4), (5, .int x5), (6, .int x6), (7, .int x7)] → c66 x1 x2 x3 x4 x5 x6 x7 u = some out → W p l e rmX5_freeBy s m args below meth c H locs 0 0 (MQ below (va_Qi (fun r (_ : Unit) => r = out.1) (fun _ t => fP E (cM E B out.2) t.heap) (aM B)) args s 0 0 (aM B)) (F0 m 66 ls [])) {x1 : Int32} {x2 : Int32} {x3 : Int32} {x4 : Int32} {x5 : Int32} {x7 : Int32} {xs0 : Int32} {u : SM} {H : Heap} {locs : List Loc} {ls : Array Slot} (hW : WM E B u s H locs) (hl : lv_has ls 8 [(0, .ref (B 0)), (1, .int x1), (2, .int x2), (3, .int x3), (4, .int x4), (5, .int x5), (7, .int x7)]) (hf : fX5_freeBy_97 c11 c66 x1 x2 x3 x4 x5 x7 xs0 u = some out) : W p l e rmX5_freeBy s m args below meth c H locs 0 0 (MQ below (va_Qi (fun r (_ : Unit) => r = out.1) (fun _ t => fP E (cM E B out.2) t.heap) (aM B)) args s 0 0 (aM B)) (F0 m 97 ls [.int xs0]) := by
  obtain ⟨hx, hb, hr, hml, hown, hts, hlk, hK⟩ := id C0
  unfold fX5_freeBy_97 at hf
  refine lv_istore (lv' := [(6, .int xs0), (0, .ref (B 0)), (1, .int x1), (2, .int x2), (3, .int x3), (4, .int x4), (5, .int x5), (7, .int x7)]) hx hb dX5_freeBy_97 hl (by decide) rfl (fun ls hl => ?_)
  refine lv_iinc (v := (x7 + (1 : Int32))) (lv' := [(7, .int (x7 + (1 : Int32))), (6, .int xs0), (0, .ref (B 0)), (1, .int x1), (2, .int x2), (3, .int x3), (4, .int x4), (5, .int x5)]) hx hb dX5_freeBy_99 hl (k := 7) rfl rfl (by decide) rfl (fun ls hl => ?_)
  refine lv_goto (tgt := 66) hx hb dX5_freeBy_102 (by decide) ?_
  exact hc66 _ _ _ _ _ _ _ _ _ _ _ hW (lv_sub hl [2, 3, 4, 5, 6, 7, 1, 0] rfl) hf
set_option maxHeartbeats 4000000 in
set_option maxRecDepth 100000 in
theorem tX5_freeBy_92 {p : Program} {l : Launch} {e : Env} {s : State} {m : MethodId} {args : Array Value} {below : List Frame} {meth : Method} {c : Code} {E : EE} {B : Nat → Nat} {out : Int32 × SM} {c11 : Int32 → Int32 → Int32 → Int32 → SM → Option (Int32 × SM)} {c66 : Int32 → Int32 → Int32 → Int32 → Int32 → Int32 → Int32 → SM → Option (Int32 × SM)} (C0 : cx wsX5_freeBy cX5_freeBy 8 (some .int) RX5 E p s m args meth c) (hc11 : ∀ (x1 : Int32) (x2 : Int32) (x3 : Int32) (x4 : Int32) (u : SM) (H : Heap) (locs : List Loc) (ls : Array Slot) (_ : WM E B u s H locs), lv_has ls 8 [(0, .ref (B 0)), (1, .int x1), (2, .int x2), (3, .int x3), (4, .int x4)] → c11 x1 x2 x3 x4 u = some out → W p l e rmX5_freeBy s m args below meth c H locs 0 0 (MQ below (va_Qi (fun r (_ : Unit) => r = out.1) (fun _ t => fP E (cM E B out.2) t.heap) (aM B)) args s 0 0 (aM B)) (F0 m 11 ls [])) (hc66 : ∀ (x1 : Int32) (x2 : Int32) (x3 : Int32) (x4 : Int32) (x5 : Int32) (x6 : Int32) (x7 : Int32) (u : SM) (H : Heap) (locs : List Loc) (ls : Array Slot) (_ : WM E B u s H locs), lv_has ls 8 [(0, .ref (B 0)), (1, .int x1), (2, .int x2), (3, .int x3), (4, .int x4), (5, .int x5), (6, .int x6), (7, .int x7)] → c66 x1 x2 x3 x4 x5 x6 x7 u = some out → W p l e rmX5_freeBy s m args below meth c H locs 0 0 (MQ below (va_Qi (fun r (_ : Unit) => r = out.1) (fun _ t => fP E (cM E B out.2) t.heap) (aM B)) args s 0 0 (aM B)) (F0 m 66 ls [])) {x1 : Int32} {x2 : Int32} {x3 : Int32} {x4 : Int32} {x5 : Int32} {x7 : Int32} {u : SM} {H : Heap} {locs : List Loc} {ls : Array Slot} (hW : WM E B u s H locs) (hl : lv_has ls 8 [(0, .ref (B 0)), (1, .int x1), (2, .int x2), (3, .int x3), (4, .int x4), (5, .int x5), (7, .int x7)]) (hf : fX5_freeBy_92 c11 c66 x1 x2 x3 x4 x5 x7 u = some out) : W p l e rmX5_freeBy s m args below meth c H locs 0 0 (MQ below (va_Qi (fun r (_ : Unit) => r = out.1) (fun _ t => fP E (cM E B out.2) t.heap) (aM B)) args s 0 0 (aM B)) (F0 m 92 ls []) := by
  obtain ⟨hx, hb, hr, hml, hown, hts, hlk, hK⟩ := id C0
  unfold fX5_freeBy_92 at hf
  refine lv_iconst (v := (1 : Int32)) hx hb dX5_freeBy_92 (by decide) ?_
  refine lv_goto (tgt := 97) hx hb dX5_freeBy_93 (by decide) ?_
  exact tX5_freeBy_97 C0 hc11 hc66 hW (lv_sub hl [0, 1, 2, 3, 4, 5, 6] rfl) hf
set_option maxHeartbeats 4000000 in
set_option maxRecDepth 100000 in
theorem tX5_freeBy_139 {p : Program} {l : Launch} {e : Env} {s : State} {m : MethodId} {args : Array Value} {below : List Frame} {meth : Method} {c : Code} {E : EE} {B : Nat → Nat} {out : Int32 × SM} {c11 : Int32 → Int32 → Int32 → Int32 → SM → Option (Int32 × SM)} (C0 : cx wsX5_freeBy cX5_freeBy 8 (some .int) RX5 E p s m args meth c) (hc11 : ∀ (x1 : Int32) (x2 : Int32) (x3 : Int32) (x4 : Int32) (u : SM) (H : Heap) (locs : List Loc) (ls : Array Slot) (_ : WM E B u s H locs), lv_has ls 8 [(0, .ref (B 0)), (1, .int x1), (2, .int x2), (3, .int x3), (4, .int x4)] → c11 x1 x2 x3 x4 u = some out → W p l e rmX5_freeBy s m args below meth c H locs 0 0 (MQ below (va_Qi (fun r (_ : Unit) => r = out.1) (fun _ t => fP E (cM E B out.2) t.heap) (aM B)) args s 0 0 (aM B)) (F0 m 11 ls [])) {x1 : Int32} {x2 : Int32} {x4 : Int32} {xs0 : Int32} {xs1 : Int32} {u : SM} {H : Heap} {locs : List Loc} {ls : Array Slot} (hW : WM E B u s H locs) (hl : lv_has ls 8 [(0, .ref (B 0)), (1, .int x1), (2, .int x2), (4, .int x4)]) (hf : fX5_freeBy_139 c11 x1 x2 x4 xs0 xs1 u = some out) : W p l e rmX5_freeBy s m args below meth c H locs 0 0 (MQ below (va_Qi (fun r (_ : Unit) => r = out.1) (fun _ t => fP E (cM E B out.2) t.heap) (aM B)) args s 0 0 (aM B)) (F0 m 139 ls [.int xs1, .int xs0]) := by
  obtain ⟨hx, hb, hr, hml, hown, hts, hlk, hK⟩ := id C0
  unfold fX5_freeBy_139 at hf
  refine lv_ior hx hb dX5_freeBy_139 ?_
  refine lv_istore_n (lv' := [(3, .int (xs0 ||| xs1)), (0, .ref (B 0)), (1, .int x1), (2, .int x2), (4, .int x4)]) hx hb dX5_freeBy_140 rfl hl (by decide) rfl (fun ls hl => ?_)
  refine lv_iinc (v := (x4 + (1 : Int32))) (lv' := [(4, .int (x4 + (1 : Int32))), (3, .int (xs0 ||| xs1)), (0, .ref (B 0)), (1, .int x1), (2, .int x2)]) hx hb dX5_freeBy_141 hl (k := 4) rfl rfl (by decide) rfl (fun ls hl => ?_)
  refine lv_goto (tgt := 11) hx hb dX5_freeBy_144 (by decide) ?_
  exact hc11 _ _ _ _ _ _ _ _ hW (lv_sub hl [2, 3, 4, 1, 0] rfl) hf
set_option maxHeartbeats 4000000 in
set_option maxRecDepth 100000 in
theorem tX5_freeBy_118 {p : Program} {l : Launch} {e : Env} {s : State} {m : MethodId} {args : Array Value} {below : List Frame} {meth : Method} {c : Code} {E : EE} {B : Nat → Nat} {out : Int32 × SM} {c11 : Int32 → Int32 → Int32 → Int32 → SM → Option (Int32 × SM)} (C0 : cx wsX5_freeBy cX5_freeBy 8 (some .int) RX5 E p s m args meth c) (hc11 : ∀ (x1 : Int32) (x2 : Int32) (x3 : Int32) (x4 : Int32) (u : SM) (H : Heap) (locs : List Loc) (ls : Array Slot) (_ : WM E B u s H locs), lv_has ls 8 [(0, .ref (B 0)), (1, .int x1), (2, .int x2), (3, .int x3), (4, .int x4)] → c11 x1 x2 x3 x4 u = some out → W p l e rmX5_freeBy s m args below meth c H locs 0 0 (MQ below (va_Qi (fun r (_ : Unit) => r = out.1) (fun _ t => fP E (cM E B out.2) t.heap) (aM B)) args s 0 0 (aM B)) (F0 m 11 ls [])) {x1 : Int32} {x2 : Int32} {x3 : Int32} {x4 : Int32} {x5 : Int32} {x6 : Int32} {xs1 : Int32} {u : SM} {H : Heap} {locs : List Loc} {ls : Array Slot} (hW : WM E B u s H locs) (hl : lv_has ls 8 [(0, .ref (B 0)), (1, .int x1), (2, .int x2), (3, .int x3), (4, .int x4), (5, .int x5), (6, .int x6)]) (hf : fX5_freeBy_118 c11 x1 x2 x3 x4 x5 x6 xs1 u = some out) : W p l e rmX5_freeBy s m args below meth c H locs 0 0 (MQ below (va_Qi (fun r (_ : Unit) => r = out.1) (fun _ t => fP E (cM E B out.2) t.heap) (aM B)) args s 0 0 (aM B)) (F0 m 118 ls [.int xs1, .ref (B 0)]) := by
  obtain ⟨hx, hb, hr, hml, hown, hts, hlk, hK⟩ := id C0
  unfold fX5_freeBy_118 at hf
  refine m_put C0 hW iX5_freeBy_X5 16 (by decide) (by decide +kernel) rfl (by decide +kernel) rfl dX5_freeBy_118 (fun H locs hW => ?_)
  have hW : WM E B ((upd u.1 16 xs1), u.2) s H locs := hW
  refine lv_iload_n hx hb dX5_freeBy_121 rfl (lv_at hl 3 rfl) ?_
  refine lv_iload hx hb dX5_freeBy_122 (lv_at hl 6 rfl) ?_
  refine lv_if_eq (tgt := 131) hx hb dX5_freeBy_124 (by decide) (fun c1 => ?_) (fun c1 => ?_)
  · have hf := th hf c1
    refine lv_iconst (v := (1 : Int32)) hx hb dX5_freeBy_131 (by decide) ?_
    refine lv_aload_n hx hb dX5_freeBy_132 rfl (lv_at hl 0 rfl) ?_
    refine lv_iload hx hb dX5_freeBy_133 (lv_at hl 5 rfl) ?_
    obtain ⟨q2, h3, hf⟩ := bd hf
    refine k_roI (run_V (rest := [.int (1 : Int32), .int x3]) (n := 1) C0 (tX5_ownerOf E B h3) gX5_freeBy_X5_ownerOf rfl rfl (by decide +kernel) (hW.2.1 0 _ rfl) rfl rfl hW.2.1 hl.1 rfl rfl (Nat.le_of_ble_eq_true rfl) dX5_freeBy_135) ?_
    refine lv_ishl hx hb dX5_freeBy_138 ?_
    exact tX5_freeBy_139 C0 hc11 hW (lv_sub hl [0, 1, 2, 4] rfl) hf
  · have hf := el hf c1
    refine lv_iconst (v := (0 : Int32)) hx hb dX5_freeBy_127 (by decide) ?_
    refine lv_goto (tgt := 139) hx hb dX5_freeBy_128 (by decide) ?_
    exact tX5_freeBy_139 C0 hc11 hW (lv_sub hl [0, 1, 2, 4] rfl) hf
set_option maxHeartbeats 4000000 in
set_option maxRecDepth 100000 in
theorem tX5_freeBy_66 {p : Program} {l : Launch} {e : Env} {s : State} {m : MethodId} {args : Array Value} {below : List Frame} {meth : Method} {c : Code} {E : EE} {B : Nat → Nat} {out : Int32 × SM} {c11 : Int32 → Int32 → Int32 → Int32 → SM → Option (Int32 × SM)} (C0 : cx wsX5_freeBy cX5_freeBy 8 (some .int) RX5 E p s m args meth c) (hc11 : ∀ (x1 : Int32) (x2 : Int32) (x3 : Int32) (x4 : Int32) (u : SM) (H : Heap) (locs : List Loc) (ls : Array Slot) (_ : WM E B u s H locs), lv_has ls 8 [(0, .ref (B 0)), (1, .int x1), (2, .int x2), (3, .int x3), (4, .int x4)] → c11 x1 x2 x3 x4 u = some out → W p l e rmX5_freeBy s m args below meth c H locs 0 0 (MQ below (va_Qi (fun r (_ : Unit) => r = out.1) (fun _ t => fP E (cM E B out.2) t.heap) (aM B)) args s 0 0 (aM B)) (F0 m 11 ls [])) : ∀ (n : Nat) (x1 : Int32) (x2 : Int32) (x3 : Int32) (x4 : Int32) (x5 : Int32) (x6 : Int32) (x7 : Int32) (u : SM) (H : Heap) (locs : List Loc) (ls : Array Slot) (_ : WM E B u s H locs), lv_has ls 8 [(0, .ref (B 0)), (1, .int x1), (2, .int x2), (3, .int x3), (4, .int x4), (5, .int x5), (6, .int x6), (7, .int x7)] → fX5_freeBy_66 c11 n x1 x2 x3 x4 x5 x6 x7 u = some out → W p l e rmX5_freeBy s m args below meth c H locs 0 0 (MQ below (va_Qi (fun r (_ : Unit) => r = out.1) (fun _ t => fP E (cM E B out.2) t.heap) (aM B)) args s 0 0 (aM B)) (F0 m 66 ls []) := by
  obtain ⟨hx, hb, hr, hml, hown, hts, hlk, hK⟩ := id C0
  intro n
  induction n with
  | zero =>
    intro x1 x2 x3 x4 x5 x6 x7 u H locs ls hW hl hf
    cases (show none = some out from hf)
  | succ n ih =>
    intro x1 x2 x3 x4 x5 x6 x7 u H locs ls hW hl hf
    rw [fX5_freeBy_66] at hf
    refine lv_iload hx hb dX5_freeBy_66 (lv_at hl 7 rfl) ?_
    refine lv_iload hx hb dX5_freeBy_68 (lv_at hl 4 rfl) ?_
    refine lv_icmp_ge (tgt := 105) hx hb dX5_freeBy_70 (by decide) (fun c1 => ?_) (fun c1 => ?_)
    · have hf := th hf c1
      refine lv_aload_n hx hb dX5_freeBy_105 rfl (lv_at hl 0 rfl) ?_
      refine lv_iload hx hb dX5_freeBy_106 (lv_at hl 6 rfl) ?_
      refine lv_if_eq (tgt := 116) hx hb dX5_freeBy_108 (by decide) (fun c2 => ?_) (fun c2 => ?_)
      · have hf := th hf c2
        refine lv_bipush (v := (-9 : Int32)) hx hb dX5_freeBy_116 (by decide) ?_
        exact tX5_freeBy_118 C0 hc11 hW (lv_sub hl [0, 1, 2, 3, 4, 5, 6] rfl) hf
      · have hf := el hf c2
        refine lv_iload hx hb dX5_freeBy_111 (lv_at hl 4 rfl) ?_
        refine lv_goto (tgt := 118) hx hb dX5_freeBy_113 (by decide) ?_
        exact tX5_freeBy_118 C0 hc11 hW (lv_sub hl [0, 1, 2, 3, 4, 5, 6] rfl) hf
    · have hf := el hf c1
      refine lv_iload hx hb dX5_freeBy_73 (lv_at hl 6 rfl) ?_
      refine lv_if_ne (tgt := 92) hx hb dX5_freeBy_75 (by decide) (fun c3 => ?_) (fun c3 => ?_)
      · have hf := el hf c3
        exact tX5_freeBy_92 C0 hc11 ih hW (lv_sub hl [0, 1, 2, 3, 4, 5, 7] rfl) hf
      · have hf := th hf c3
        refine lv_aload_n hx hb dX5_freeBy_78 rfl (lv_at hl 0 rfl) ?_
        refine m_get C0 hW.2.1 iX5_freeBy_X5 21 (by decide) (by decide +kernel) rfl dX5_freeBy_79 ?_
        refine lv_iload_n hx hb dX5_freeBy_82 rfl (lv_at hl 1 rfl) ?_
        refine lv_iload hx hb dX5_freeBy_83 (lv_at hl 7 rfl) ?_
        refine lv_iadd hx hb dX5_freeBy_85 ?_
        obtain ⟨h4, hf⟩ := gd hf
        refine m_ald C0 hW.2.1 10 240 rfl h4 dX5_freeBy_86 ?_
        refine lv_iload hx hb dX5_freeBy_87 (lv_at hl 5 rfl) ?_
        refine lv_icmp_ne (tgt := 96) hx hb dX5_freeBy_89 (by decide) (fun c5 => ?_) (fun c5 => ?_)
        · have hf := el hf c5
          refine lv_iconst (v := (0 : Int32)) hx hb dX5_freeBy_96 (by decide) ?_
          exact tX5_freeBy_97 C0 hc11 ih hW (lv_sub hl [0, 1, 2, 3, 4, 5, 7] rfl) hf
        · have hf := th hf c5
          exact tX5_freeBy_92 C0 hc11 ih hW (lv_sub hl [0, 1, 2, 3, 4, 5, 7] rfl) hf
set_option maxHeartbeats 4000000 in
set_option maxRecDepth 100000 in
theorem tX5_freeBy_61 {p : Program} {l : Launch} {e : Env} {s : State} {m : MethodId} {args : Array Value} {below : List Frame} {meth : Method} {c : Code} {E : EE} {B : Nat → Nat} {out : Int32 × SM} {c11 : Int32 → Int32 → Int32 → Int32 → SM → Option (Int32 × SM)} (C0 : cx wsX5_freeBy cX5_freeBy 8 (some .int) RX5 E p s m args meth c) (hc11 : ∀ (x1 : Int32) (x2 : Int32) (x3 : Int32) (x4 : Int32) (u : SM) (H : Heap) (locs : List Loc) (ls : Array Slot) (_ : WM E B u s H locs), lv_has ls 8 [(0, .ref (B 0)), (1, .int x1), (2, .int x2), (3, .int x3), (4, .int x4)] → c11 x1 x2 x3 x4 u = some out → W p l e rmX5_freeBy s m args below meth c H locs 0 0 (MQ below (va_Qi (fun r (_ : Unit) => r = out.1) (fun _ t => fP E (cM E B out.2) t.heap) (aM B)) args s 0 0 (aM B)) (F0 m 11 ls [])) {x1 : Int32} {x2 : Int32} {x3 : Int32} {x4 : Int32} {x5 : Int32} {xs0 : Int32} {u : SM} {H : Heap} {locs : List Loc} {ls : Array Slot} (hW : WM E B u s H locs) (hl : lv_has ls 8 [(0, .ref (B 0)), (1, .int x1), (2, .int x2), (3, .int x3), (4, .int x4), (5, .int x5)]) (hf : fX5_freeBy_61 c11 x1 x2 x3 x4 x5 xs0 u = some out) : W p l e rmX5_freeBy s m args below meth c H locs 0 0 (MQ below (va_Qi (fun r (_ : Unit) => r = out.1) (fun _ t => fP E (cM E B out.2) t.heap) (aM B)) args s 0 0 (aM B)) (F0 m 61 ls [.int xs0]) := by
  obtain ⟨hx, hb, hr, hml, hown, hts, hlk, hK⟩ := id C0
  unfold fX5_freeBy_61 at hf
  refine lv_istore (lv' := [(6, .int xs0), (0, .ref (B 0)), (1, .int x1), (2, .int x2), (3, .int x3), (4, .int x4), (5, .int x5)]) hx hb dX5_freeBy_61 hl (by decide) rfl (fun ls hl => ?_)
  refine lv_iconst (v := (0 : Int32)) hx hb dX5_freeBy_63 (by decide) ?_
  refine lv_istore (lv' := [(7, .int (0 : Int32)), (6, .int xs0), (0, .ref (B 0)), (1, .int x1), (2, .int x2), (3, .int x3), (4, .int x4), (5, .int x5)]) hx hb dX5_freeBy_64 hl (by decide) rfl (fun ls hl => ?_)
  exact tX5_freeBy_66 C0 hc11 fu _ _ _ _ _ _ _ _ _ _ _ hW (lv_sub hl [2, 3, 4, 5, 6, 7, 1, 0] rfl) hf
set_option maxHeartbeats 4000000 in
set_option maxRecDepth 100000 in
theorem tX5_freeBy_147 {p : Program} {l : Launch} {e : Env} {s : State} {m : MethodId} {args : Array Value} {below : List Frame} {meth : Method} {c : Code} {E : EE} {B : Nat → Nat} {out : Int32 × SM} (C0 : cx wsX5_freeBy cX5_freeBy 8 (some .int) RX5 E p s m args meth c) {x3 : Int32} {u : SM} {H : Heap} {locs : List Loc} {ls : Array Slot} (hW : WM E B u s H locs) (hl : lv_has ls 8 [(3, .int x3)]) (hf : fX5_freeBy_147 x3 u = some out) : W p l e rmX5_freeBy s m args below meth c H locs 0 0 (MQ below (va_Qi (fun r (_ : Unit) => r = out.1) (fun _ t => fP E (cM E B out.2) t.heap) (aM B)) args s 0 0 (aM B)) (F0 m 147 ls []) := by
  obtain ⟨hx, hb, hr, hml, hown, hts, hlk, hK⟩ := id C0
  unfold fX5_freeBy_147 at hf
  refine lv_iload_n hx hb dX5_freeBy_147 rfl (lv_at hl 0 rfl) ?_
  obtain rfl := Option.some.inj hf
  exact e_muI (QH := fP E (cM E B u)) C0 hW.2.2 rfl hW.2.1 dX5_freeBy_148
set_option maxHeartbeats 4000000 in
set_option maxRecDepth 100000 in
theorem tX5_freeBy_11 {p : Program} {l : Launch} {e : Env} {s : State} {m : MethodId} {args : Array Value} {below : List Frame} {meth : Method} {c : Code} {E : EE} {B : Nat → Nat} {out : Int32 × SM} (C0 : cx wsX5_freeBy cX5_freeBy 8 (some .int) RX5 E p s m args meth c) : ∀ (n : Nat) (x1 : Int32) (x2 : Int32) (x3 : Int32) (x4 : Int32) (u : SM) (H : Heap) (locs : List Loc) (ls : Array Slot) (_ : WM E B u s H locs), lv_has ls 8 [(0, .ref (B 0)), (1, .int x1), (2, .int x2), (3, .int x3), (4, .int x4)] → fX5_freeBy_11 n x1 x2 x3 x4 u = some out → W p l e rmX5_freeBy s m args below meth c H locs 0 0 (MQ below (va_Qi (fun r (_ : Unit) => r = out.1) (fun _ t => fP E (cM E B out.2) t.heap) (aM B)) args s 0 0 (aM B)) (F0 m 11 ls []) := by
  obtain ⟨hx, hb, hr, hml, hown, hts, hlk, hK⟩ := id C0
  intro n
  induction n with
  | zero =>
    intro x1 x2 x3 x4 u H locs ls hW hl hf
    cases (show none = some out from hf)
  | succ n ih =>
    intro x1 x2 x3 x4 u H locs ls hW hl hf
    rw [fX5_freeBy_11] at hf
    refine lv_iload hx hb dX5_freeBy_11 (lv_at hl 4 rfl) ?_
    refine lv_iload_n hx hb dX5_freeBy_13 rfl (lv_at hl 2 rfl) ?_
    refine lv_icmp_ge (tgt := 147) hx hb dX5_freeBy_14 (by decide) (fun c1 => ?_) (fun c1 => ?_)
    · have hf := th hf c1
      exact tX5_freeBy_147 C0 hW (lv_sub hl [3] rfl) hf
    · have hf := el hf c1
      refine lv_aload_n hx hb dX5_freeBy_17 rfl (lv_at hl 0 rfl) ?_
      refine m_get C0 hW.2.1 iX5_freeBy_X5 16 (by decide) (by decide +kernel) rfl dX5_freeBy_18 ?_
      refine lv_if_ge (tgt := 147) hx hb dX5_freeBy_21 (by decide) (fun c2 => ?_) (fun c2 => ?_)
      · have hf := th hf c2
        exact tX5_freeBy_147 C0 hW (lv_sub hl [3] rfl) hf
      · have hf := el hf c2
        refine lv_aload_n hx hb dX5_freeBy_24 rfl (lv_at hl 0 rfl) ?_
        refine m_get C0 hW.2.1 iX5_freeBy_X5 21 (by decide) (by decide +kernel) rfl dX5_freeBy_25 ?_
        refine lv_iload_n hx hb dX5_freeBy_28 rfl (lv_at hl 1 rfl) ?_
        refine lv_iload hx hb dX5_freeBy_29 (lv_at hl 4 rfl) ?_
        refine lv_iadd hx hb dX5_freeBy_31 ?_
        obtain ⟨h3, hf⟩ := gd hf
        refine m_ald C0 hW.2.1 10 240 rfl h3 dX5_freeBy_32 ?_
        refine lv_istore (lv' := [(5, .int (u.2 10 (x1 + x4).toNatClampNeg)), (0, .ref (B 0)), (1, .int x1), (2, .int x2), (3, .int x3), (4, .int x4)]) hx hb dX5_freeBy_33 hl (by decide) rfl (fun ls hl => ?_)
        refine lv_iload hx hb dX5_freeBy_35 (lv_at hl 0 rfl) ?_
        refine lv_i2l (v := (u.2 10 (x1 + x4).toNatClampNeg).toInt64) hx hb dX5_freeBy_37 rfl ?_
        refine lv_lconst (v := (0 : Int64)) hx hb dX5_freeBy_38 (by decide) ?_
        refine lv_aload_n hx hb dX5_freeBy_39 rfl (lv_at hl 1 rfl) ?_
        refine lv_aload_n hx hb dX5_freeBy_40 rfl (lv_at hl 1 rfl) ?_
        obtain ⟨q4, h5, hf⟩ := bd hf
        refine k_roI (run_V (rest := [.ref (B 0), .long (0 : Int64), .long ((u.2 10 (x1 + x4).toNatClampNeg).toInt64)]) (n := 0) C0 (tX5_everybody E B h5) gX5_freeBy_X5_everybody rfl rfl (by decide +kernel) (hW.2.1 0 _ rfl) rfl rfl hW.2.1 hl.1 rfl rfl (Nat.le_of_ble_eq_true rfl) dX5_freeBy_41) ?_
        obtain ⟨q6, h7, hf⟩ := bd hf
        refine k_roI (run_V (rest := [.long (0 : Int64), .long ((u.2 10 (x1 + x4).toNatClampNeg).toInt64)]) (n := 1) C0 (tX5_slipsOfAll E B h7) gX5_freeBy_X5_slipsOfAll rfl rfl (by decide +kernel) (hW.2.1 0 _ rfl) rfl rfl hW.2.1 hl.1 rfl rfl (Nat.le_of_ble_eq_true rfl) dX5_freeBy_44) ?_
        refine lv_i2l (v := q6.toInt64) hx hb dX5_freeBy_47 rfl ?_
        refine lv_lconst (v := (1 : Int64)) hx hb dX5_freeBy_48 (by decide) ?_
        refine lv_lsub hx hb dX5_freeBy_49 ?_
        obtain ⟨q8, h9, hf⟩ := bd hf
        refine k_roI (run_S (rest := []) (n := 3) (PH := fun _ => True) C0 (tX5_in E h9) gX5_freeBy_X5_in rfl rfl (by decide +kernel) trivial hl.1 rfl rfl (Nat.le_of_ble_eq_true rfl) dX5_freeBy_50) ?_
        refine lv_if_ne (tgt := 60) hx hb dX5_freeBy_53 (by decide) (fun c10 => ?_) (fun c10 => ?_)
        · have hf := el hf c10
          refine lv_iconst (v := (0 : Int32)) hx hb dX5_freeBy_60 (by decide) ?_
          exact tX5_freeBy_61 C0 ih hW (lv_sub hl [1, 2, 3, 4, 5, 0] rfl) hf
        · have hf := th hf c10
          refine lv_iconst (v := (1 : Int32)) hx hb dX5_freeBy_56 (by decide) ?_
          refine lv_goto (tgt := 61) hx hb dX5_freeBy_57 (by decide) ?_
          exact tX5_freeBy_61 C0 ih hW (lv_sub hl [1, 2, 3, 4, 5, 0] rfl) hf
set_option maxHeartbeats 4000000 in
set_option maxRecDepth 100000 in
theorem tX5_freeBy_0 {p : Program} {l : Launch} {e : Env} {s : State} {m : MethodId} {args : Array Value} {below : List Frame} {meth : Method} {c : Code} {E : EE} {B : Nat → Nat} {out : Int32 × SM} (C0 : cx wsX5_freeBy cX5_freeBy 8 (some .int) RX5 E p s m args meth c) {x1 : Int32} {x2 : Int32} {u : SM} {H : Heap} {locs : List Loc} {ls : Array Slot} (hW : WM E B u s H locs) (hl : lv_has ls 8 [(0, .ref (B 0)), (1, .int x1), (2, .int x2)]) (hf : fX5_freeBy x1 x2 u = some out) : W p l e rmX5_freeBy s m args below meth c H locs 0 0 (MQ below (va_Qi (fun r (_ : Unit) => r = out.1) (fun _ t => fP E (cM E B out.2) t.heap) (aM B)) args s 0 0 (aM B)) (F0 m 0 ls []) := by
  obtain ⟨hx, hb, hr, hml, hown, hts, hlk, hK⟩ := id C0
  unfold fX5_freeBy at hf
  refine lv_iconst (v := (0 : Int32)) hx hb dX5_freeBy_0 (by decide) ?_
  refine lv_istore_n (lv' := [(3, .int (0 : Int32)), (0, .ref (B 0)), (1, .int x1), (2, .int x2)]) hx hb dX5_freeBy_1 rfl hl (by decide) rfl (fun ls hl => ?_)
  refine lv_aload_n hx hb dX5_freeBy_2 rfl (lv_at hl 1 rfl) ?_
  refine lv_bipush (v := (-9 : Int32)) hx hb dX5_freeBy_3 (by decide) ?_
  refine m_put C0 hW iX5_freeBy_X5 16 (by decide) (by decide +kernel) rfl (by decide +kernel) rfl dX5_freeBy_5 (fun H locs hW => ?_)
  have hW : WM E B ((upd u.1 16 (-9 : Int32)), u.2) s H locs := hW
  refine lv_iconst (v := (0 : Int32)) hx hb dX5_freeBy_8 (by decide) ?_
  refine lv_istore (lv' := [(4, .int (0 : Int32)), (3, .int (0 : Int32)), (0, .ref (B 0)), (1, .int x1), (2, .int x2)]) hx hb dX5_freeBy_9 hl (by decide) rfl (fun ls hl => ?_)
  exact tX5_freeBy_11 C0 fu _ _ _ _ _ _ _ _ hW (lv_sub hl [2, 3, 4, 1, 0] rfl) hf
set_option maxHeartbeats 4000000 in
set_option maxRecDepth 100000 in
theorem tX5_freeBy {l : Launch} (E : EE) (B : Nat → Nat) {u : SM} {x1 : Int32} {x2 : Int32} {out : Int32 × SM} (hB : iM B) (hf : fX5_freeBy x1 x2 u = some out) : muI l yX5_freeBy wsX5_freeBy rmX5_freeBy E [.ref (B 0), .int x1, .int x2] (aM B) (fP E (cM E B u)) (fP E (cM E B out.2)) out.1 := by
  refine Met.ofW (cc := cX5_freeBy) (maxL := 8) (ret := (some .int)) (by decide) rfl ?_
  intro p e s m args below meth c s₁ B0 hml hv
  obtain ⟨rfl, hP, hK⟩ := hv
  have C0 : cx wsX5_freeBy cX5_freeBy 8 (some .int) RX5 E p s m _ meth c := ⟨B0.exec, B0.bytes, B0.returns, hml, findClass_of_methodNamed B0.named, atoms_spec (ws := wsX5_freeBy) B0.pre, B0.notSynchronized, hK⟩
  have hl := lv_entry ([.ref (B 0), .int x1, .int x2]) (n := 8) (Nat.le_of_ble_eq_true rfl)
  rw [lg_entry_eq]
  generalize (lg_sl ([.ref (B 0), .int x1, .int x2]) ++ List.replicate (8 - (lg_sl ([.ref (B 0), .int x1, .int x2])).length) Slot.unset).toArray = ls at hl ⊢
  exact tX5_freeBy_0 C0 ⟨hB, hP, va_S.rf⟩ hl hf
abbrev rmX5_draw : Room := { frames := 3, cells := 0, slots := 0, locals := 72 }
set_option maxRecDepth 20000 in
theorem iX5_draw_X5 : ∀ w ∈ wsX50, w ∈ wsX5_draw := by decide +kernel
set_option maxHeartbeats 4000000 in
set_option maxRecDepth 100000 in
theorem tX5_draw_51 {p : Program} {l : Launch} {e : Env} {s : State} {m : MethodId} {args : Array Value} {below : List Frame} {meth : Method} {c : Code} {E : EE} {B : Nat → Nat} {out : Int32 × SM} (C0 : cx wsX5_draw cX5_draw 8 (some .int) RX5 E p s m args meth c) {u : SM} {H : Heap} {locs : List Loc} {ls : Array Slot} (hW : WM E B u s H locs) (hl : lv_has ls 8 [(0, .ref (B 0))]) (hf : fX5_draw_51 u = some out) : W p l e rmX5_draw s m args below meth c H locs 0 0 (MQ below (va_Qi (fun r (_ : Unit) => r = out.1) (fun _ t => fP E (cM E B out.2) t.heap) (aM B)) args s 0 0 (aM B)) (F0 m 51 ls []) := by
  obtain ⟨hx, hb, hr, hml, hown, hts, hlk, hK⟩ := id C0
  unfold fX5_draw_51 at hf
  refine lv_aload_n hx hb dX5_draw_51 rfl (lv_at hl 0 rfl) ?_
  refine lv_bipush (v := (-2 : Int32)) hx hb dX5_draw_52 (by decide) ?_
  obtain ⟨q1, h2, hf⟩ := bd hf
  refine k_muI (run_V (rest := []) (n := 1) C0 (tX5_refused E B hW.1 h2) gX5_draw_X5_refused rfl rfl (by decide +kernel) (hW.2.1 0 _ rfl) rfl rfl hW.2.1 hl.1 rfl rfl (Nat.le_of_ble_eq_true rfl) dX5_draw_54) hW.2.2 (fun _ h => h) (fun H locs hQ _ hS => ?_)
  have hW : WM E B q1.2 s H locs := ⟨hW.1, hQ, hS⟩
  obtain rfl := Option.some.inj hf
  exact e_muI (QH := fP E (cM E B q1.2)) C0 hW.2.2 rfl hW.2.1 dX5_draw_57
set_option maxHeartbeats 4000000 in
set_option maxRecDepth 100000 in
theorem tX5_draw_172 {p : Program} {l : Launch} {e : Env} {s : State} {m : MethodId} {args : Array Value} {below : List Frame} {meth : Method} {c : Code} {E : EE} {B : Nat → Nat} {out : Int32 × SM} (C0 : cx wsX5_draw cX5_draw 8 (some .int) RX5 E p s m args meth c) {xs1 : Int32} {u : SM} {H : Heap} {locs : List Loc} {ls : Array Slot} (hW : WM E B u s H locs) (hl : lv_has ls 8 []) (hf : fX5_draw_172 xs1 u = some out) : W p l e rmX5_draw s m args below meth c H locs 0 0 (MQ below (va_Qi (fun r (_ : Unit) => r = out.1) (fun _ t => fP E (cM E B out.2) t.heap) (aM B)) args s 0 0 (aM B)) (F0 m 172 ls [.int xs1, .ref (B 0)]) := by
  obtain ⟨hx, hb, hr, hml, hown, hts, hlk, hK⟩ := id C0
  unfold fX5_draw_172 at hf
  obtain ⟨q1, h2, hf⟩ := bd hf
  refine k_muI (run_V (rest := []) (n := 1) C0 (tX5_refused E B hW.1 h2) gX5_draw_X5_refused rfl rfl (by decide +kernel) (hW.2.1 0 _ rfl) rfl rfl hW.2.1 hl.1 rfl rfl (Nat.le_of_ble_eq_true rfl) dX5_draw_172) hW.2.2 (fun _ h => h) (fun H locs hQ _ hS => ?_)
  have hW : WM E B q1.2 s H locs := ⟨hW.1, hQ, hS⟩
  obtain rfl := Option.some.inj hf
  exact e_muI (QH := fP E (cM E B q1.2)) C0 hW.2.2 rfl hW.2.1 dX5_draw_175
set_option maxHeartbeats 4000000 in
set_option maxRecDepth 100000 in
theorem tX5_draw_0 {p : Program} {l : Launch} {e : Env} {s : State} {m : MethodId} {args : Array Value} {below : List Frame} {meth : Method} {c : Code} {E : EE} {B : Nat → Nat} {out : Int32 × SM} (C0 : cx wsX5_draw cX5_draw 8 (some .int) RX5 E p s m args meth c) {x1 : Int32} {x2 : Int32} {x3 : Int32} {x4 : Int32} {x5 : Int32} {u : SM} {H : Heap} {locs : List Loc} {ls : Array Slot} (hW : WM E B u s H locs) (hl : lv_has ls 8 [(0, .ref (B 0)), (1, .int x1), (2, .int x2), (3, .int x3), (4, .int x4), (5, .int x5)]) (hf : fX5_draw x1 x2 x3 x4 x5 u = some out) : W p l e rmX5_draw s m args below meth c H locs 0 0 (MQ below (va_Qi (fun r (_ : Unit) => r = out.1) (fun _ t => fP E (cM E B out.2) t.heap) (aM B)) args s 0 0 (aM B)) (F0 m 0 ls []) := by
  obtain ⟨hx, hb, hr, hml, hown, hts, hlk, hK⟩ := id C0
  unfold fX5_draw at hf
  refine lv_iload_n hx hb dX5_draw_0 rfl (lv_at hl 1 rfl) ?_
  obtain ⟨q1, h2, hf⟩ := bd hf
  refine k_roI (run_S (rest := []) (n := 1) (PH := fun _ => True) C0 (tX5_noSheet E h2) gX5_draw_X5_noSheet rfl rfl (by decide +kernel) trivial hl.1 rfl rfl (Nat.le_of_ble_eq_true rfl) dX5_draw_1) ?_
  refine lv_if_eq (tgt := 13) hx hb dX5_draw_4 (by decide) (fun c3 => ?_) (fun c3 => ?_)
  · have hf := th hf c3
    refine lv_iload_n hx hb dX5_draw_13 rfl (lv_at hl 2 rfl) ?_
    refine lv_i2l (v := x2.toInt64) hx hb dX5_draw_14 rfl ?_
    refine lv_lconst (v := (0 : Int64)) hx hb dX5_draw_15 (by decide) ?_
    refine lv_ldc2 hx hb hown (hts (.constantLong RX5 102 (2)) (by decide +kernel)) dX5_draw_16 ?_
    obtain ⟨q4, h5, hf⟩ := bd hf
    refine k_roI (run_S (rest := []) (n := 3) (PH := fun _ => True) C0 (tX5_in E h5) gX5_draw_X5_in rfl rfl (by decide +kernel) trivial hl.1 rfl rfl (Nat.le_of_ble_eq_true rfl) dX5_draw_19) ?_
    refine lv_if_eq (tgt := 51) hx hb dX5_draw_22 (by decide) (fun c6 => ?_) (fun c6 => ?_)
    · have hf := th hf c6
      exact tX5_draw_51 C0 hW (lv_sub hl [0] rfl) hf
    · have hf := el hf c6
      refine lv_iload hx hb dX5_draw_25 (lv_at hl 4 rfl) ?_
      refine lv_i2l (v := x4.toInt64) hx hb dX5_draw_27 rfl ?_
      refine lv_lconst (v := (0 : Int64)) hx hb dX5_draw_28 (by decide) ?_
      refine lv_ldc2 hx hb hown (hts (.constantLong RX5 152 (20)) (by decide +kernel)) dX5_draw_29 ?_
      obtain ⟨q7, h8, hf⟩ := bd hf
      refine k_roI (run_S (rest := []) (n := 3) (PH := fun _ => True) C0 (tX5_in E h8) gX5_draw_X5_in rfl rfl (by decide +kernel) trivial hl.1 rfl rfl (Nat.le_of_ble_eq_true rfl) dX5_draw_32) ?_
      refine lv_if_eq (tgt := 51) hx hb dX5_draw_35 (by decide) (fun c9 => ?_) (fun c9 => ?_)
      · have hf := th hf c9
        exact tX5_draw_51 C0 hW (lv_sub hl [0] rfl) hf
      · have hf := el hf c9
        refine lv_iload hx hb dX5_draw_38 (lv_at hl 5 rfl) ?_
        refine lv_i2l (v := x5.toInt64) hx hb dX5_draw_40 rfl ?_
        refine lv_lconst (v := (0 : Int64)) hx hb dX5_draw_41 (by decide) ?_
        refine lv_ldc2 hx hb hown (hts (.constantLong RX5 102 (2)) (by decide +kernel)) dX5_draw_42 ?_
        obtain ⟨q10, h11, hf⟩ := bd hf
        refine k_roI (run_S (rest := []) (n := 3) (PH := fun _ => True) C0 (tX5_in E h11) gX5_draw_X5_in rfl rfl (by decide +kernel) trivial hl.1 rfl rfl (Nat.le_of_ble_eq_true rfl) dX5_draw_45) ?_
        refine lv_if_ne (tgt := 58) hx hb dX5_draw_48 (by decide) (fun c12 => ?_) (fun c12 => ?_)
        · have hf := el hf c12
          refine lv_aload_n hx hb dX5_draw_58 rfl (lv_at hl 0 rfl) ?_
          refine m_get C0 hW.2.1 iX5_draw_X5 3 (by decide) (by decide +kernel) rfl dX5_draw_59 ?_
          refine lv_if_ne (tgt := 72) hx hb dX5_draw_62 (by decide) (fun c13 => ?_) (fun c13 => ?_)
          · have hf := el hf c13
            refine lv_aload_n hx hb dX5_draw_72 rfl (lv_at hl 0 rfl) ?_
            refine lv_iload_n hx hb dX5_draw_73 rfl (lv_at hl 1 rfl) ?_
            refine lv_iload_n hx hb dX5_draw_74 rfl (lv_at hl 2 rfl) ?_
            refine lv_iload_n hx hb dX5_draw_75 rfl (lv_at hl 3 rfl) ?_
            refine lv_iload hx hb dX5_draw_76 (lv_at hl 4 rfl) ?_
            refine lv_i2l (v := x4.toInt64) hx hb dX5_draw_78 rfl ?_
            obtain ⟨q14, h15, hf⟩ := bd hf
            refine k_muI (run_V (rest := []) (n := 4) C0 (tX5_cellsBarred E B hW.1 h15) gX5_draw_X5_cellsBarred rfl rfl (by decide +kernel) (hW.2.1 0 _ rfl) rfl rfl hW.2.1 hl.1 rfl rfl (Nat.le_of_ble_eq_true rfl) dX5_draw_79) hW.2.2 (fun _ h => h) (fun H locs hQ _ hS => ?_)
            have hW : WM E B q14.2 s H locs := ⟨hW.1, hQ, hS⟩
            refine lv_istore (lv' := [(6, .int q14.1), (0, .ref (B 0)), (1, .int x1), (2, .int x2), (3, .int x3), (4, .int x4), (5, .int x5)]) hx hb dX5_draw_82 hl (by decide) rfl (fun ls hl => ?_)
            refine lv_iload hx hb dX5_draw_84 (lv_at hl 0 rfl) ?_
            refine lv_if_ge (tgt := 92) hx hb dX5_draw_86 (by decide) (fun c16 => ?_) (fun c16 => ?_)
            · have hf := th hf c16
              refine lv_aload_n hx hb dX5_draw_92 rfl (lv_at hl 1 rfl) ?_
              obtain ⟨q17, h18, hf⟩ := bd hf
              refine k_roI (run_V (rest := []) (n := 0) C0 (tX5_everybody E B h18) gX5_draw_X5_everybody rfl rfl (by decide +kernel) (hW.2.1 0 _ rfl) rfl rfl hW.2.1 hl.1 rfl rfl (Nat.le_of_ble_eq_true rfl) dX5_draw_93) ?_
              refine lv_aload_n hx hb dX5_draw_96 rfl (lv_at hl 1 rfl) ?_
              refine lv_bipush (v := (60 : Int32)) hx hb dX5_draw_97 (by decide) ?_
              refine lv_iload_n hx hb dX5_draw_99 rfl (lv_at hl 2 rfl) ?_
              refine lv_imul hx hb dX5_draw_100 ?_
              refine lv_iload_n hx hb dX5_draw_101 rfl (lv_at hl 4 rfl) ?_
              refine lv_iadd hx hb dX5_draw_102 ?_
              refine lv_iload hx hb dX5_draw_103 (lv_at hl 5 rfl) ?_
              obtain ⟨q19, h20, hf⟩ := bd hf
              refine k_muI (run_V (rest := [.int q17]) (n := 2) C0 (tX5_freeBy E B hW.1 h20) gX5_draw_X5_freeBy rfl rfl (by decide +kernel) (hW.2.1 0 _ rfl) rfl rfl hW.2.1 hl.1 rfl rfl (Nat.le_of_ble_eq_true rfl) dX5_draw_105) hW.2.2 (fun _ h => h) (fun H locs hQ _ hS => ?_)
              have hW : WM E B q19.2 s H locs := ⟨hW.1, hQ, hS⟩
              refine lv_iconst (v := (-1 : Int32)) hx hb dX5_draw_108 (by decide) ?_
              refine lv_ixor hx hb dX5_draw_109 ?_
              refine lv_iand hx hb dX5_draw_110 ?_
              refine lv_istore (lv' := [(7, .int (q17 &&& (q19.1 ^^^ (-1 : Int32)))), (6, .int q14.1), (0, .ref (B 0)), (1, .int x1), (2, .int x2), (3, .int x3), (4, .int x4), (5, .int x5)]) hx hb dX5_draw_111 hl (by decide) rfl (fun ls hl => ?_)
              refine lv_iload hx hb dX5_draw_113 (lv_at hl 7 rfl) ?_
              refine lv_iconst (v := (1 : Int32)) hx hb dX5_draw_115 (by decide) ?_
              refine lv_icmp_ne (tgt := 128) hx hb dX5_draw_116 (by decide) (fun c21 => ?_) (fun c21 => ?_)
              · have hf := el hf c21
                refine lv_aload_n hx hb dX5_draw_128 rfl (lv_at hl 2 rfl) ?_
                refine m_get C0 hW.2.1 iX5_draw_X5 16 (by decide) (by decide +kernel) rfl dX5_draw_129 ?_
                refine lv_if_lt (tgt := 147) hx hb dX5_draw_132 (by decide) (fun c22 => ?_) (fun c22 => ?_)
                · have hf := th hf c22
                  refine lv_aload_n hx hb dX5_draw_147 rfl (lv_at hl 2 rfl) ?_
                  refine lv_iload hx hb dX5_draw_148 (lv_at hl 7 rfl) ?_
                  refine lv_if_ne (tgt := 158) hx hb dX5_draw_150 (by decide) (fun c23 => ?_) (fun c23 => ?_)
                  · have hf := el hf c23
                    refine lv_aload_n hx hb dX5_draw_158 rfl (lv_at hl 2 rfl) ?_
                    refine lv_iload hx hb dX5_draw_159 (lv_at hl 0 rfl) ?_
                    obtain ⟨q24, h25, hf⟩ := bd hf
                    refine k_roI (run_V (rest := [.ref (B 0)]) (n := 1) C0 (tX5_doesPass E B h25) gX5_draw_X5_doesPass rfl rfl (by decide +kernel) (hW.2.1 0 _ rfl) rfl rfl hW.2.1 hl.1 rfl rfl (Nat.le_of_ble_eq_true rfl) dX5_draw_161) ?_
                    refine lv_if_eq (tgt := 171) hx hb dX5_draw_164 (by decide) (fun c26 => ?_) (fun c26 => ?_)
                    · have hf := th hf c26
                      refine lv_iconst (v := (0 : Int32)) hx hb dX5_draw_171 (by decide) ?_
                      exact tX5_draw_172 C0 hW (lv_sub hl [] rfl) hf
                    · have hf := el hf c26
                      refine lv_iconst (v := (1 : Int32)) hx hb dX5_draw_167 (by decide) ?_
                      refine lv_goto (tgt := 172) hx hb dX5_draw_168 (by decide) ?_
                      exact tX5_draw_172 C0 hW (lv_sub hl [] rfl) hf
                  · have hf := th hf c23
                    refine lv_iload hx hb dX5_draw_153 (lv_at hl 0 rfl) ?_
                    refine lv_goto (tgt := 172) hx hb dX5_draw_155 (by decide) ?_
                    exact tX5_draw_172 C0 hW (lv_sub hl [] rfl) hf
                · have hf := el hf c22
                  refine lv_aload_n hx hb dX5_draw_135 rfl (lv_at hl 2 rfl) ?_
                  refine lv_bipush (v := (-100 : Int32)) hx hb dX5_draw_136 (by decide) ?_
                  refine lv_aload_n hx hb dX5_draw_138 rfl (lv_at hl 2 rfl) ?_
                  refine m_get C0 hW.2.1 iX5_draw_X5 16 (by decide) (by decide +kernel) rfl dX5_draw_139 ?_
                  refine lv_isub hx hb dX5_draw_142 ?_
                  obtain ⟨q27, h28, hf⟩ := bd hf
                  refine k_muI (run_V (rest := []) (n := 1) C0 (tX5_refused E B hW.1 h28) gX5_draw_X5_refused rfl rfl (by decide +kernel) (hW.2.1 0 _ rfl) rfl rfl hW.2.1 hl.1 rfl rfl (Nat.le_of_ble_eq_true rfl) dX5_draw_143) hW.2.2 (fun _ h => h) (fun H locs hQ _ hS => ?_)
                  have hW : WM E B q27.2 s H locs := ⟨hW.1, hQ, hS⟩
                  obtain rfl := Option.some.inj hf
                  exact e_muI (QH := fP E (cM E B q27.2)) C0 hW.2.2 rfl hW.2.1 dX5_draw_146
              · have hf := th hf c21
                refine lv_aload_n hx hb dX5_draw_119 rfl (lv_at hl 2 rfl) ?_
                refine lv_aload_n hx hb dX5_draw_120 rfl (lv_at hl 2 rfl) ?_
                refine m_get C0 hW.2.1 iX5_draw_X5 16 (by decide) (by decide +kernel) rfl dX5_draw_121 ?_
                obtain ⟨q29, h30, hf⟩ := bd hf
                refine k_muI (run_V (rest := []) (n := 1) C0 (tX5_refused E B hW.1 h30) gX5_draw_X5_refused rfl rfl (by decide +kernel) (hW.2.1 0 _ rfl) rfl rfl hW.2.1 hl.1 rfl rfl (Nat.le_of_ble_eq_true rfl) dX5_draw_124) hW.2.2 (fun _ h => h) (fun H locs hQ _ hS => ?_)
                have hW : WM E B q29.2 s H locs := ⟨hW.1, hQ, hS⟩
                obtain rfl := Option.some.inj hf
                exact e_muI (QH := fP E (cM E B q29.2)) C0 hW.2.2 rfl hW.2.1 dX5_draw_127
            · have hf := el hf c16
              refine lv_iload hx hb dX5_draw_89 (lv_at hl 0 rfl) ?_
              obtain rfl := Option.some.inj hf
              exact e_muI (QH := fP E (cM E B q14.2)) C0 hW.2.2 rfl hW.2.1 dX5_draw_91
          · have hf := th hf c13
            refine lv_aload_n hx hb dX5_draw_65 rfl (lv_at hl 0 rfl) ?_
            refine lv_bipush (v := (-3 : Int32)) hx hb dX5_draw_66 (by decide) ?_
            obtain ⟨q31, h32, hf⟩ := bd hf
            refine k_muI (run_V (rest := []) (n := 1) C0 (tX5_refused E B hW.1 h32) gX5_draw_X5_refused rfl rfl (by decide +kernel) (hW.2.1 0 _ rfl) rfl rfl hW.2.1 hl.1 rfl rfl (Nat.le_of_ble_eq_true rfl) dX5_draw_68) hW.2.2 (fun _ h => h) (fun H locs hQ _ hS => ?_)
            have hW : WM E B q31.2 s H locs := ⟨hW.1, hQ, hS⟩
            obtain rfl := Option.some.inj hf
            exact e_muI (QH := fP E (cM E B q31.2)) C0 hW.2.2 rfl hW.2.1 dX5_draw_71
        · have hf := th hf c12
          exact tX5_draw_51 C0 hW (lv_sub hl [0] rfl) hf
  · have hf := el hf c3
    refine lv_aload_n hx hb dX5_draw_7 rfl (lv_at hl 0 rfl) ?_
    refine lv_iconst (v := (-1 : Int32)) hx hb dX5_draw_8 (by decide) ?_
    obtain ⟨q33, h34, hf⟩ := bd hf
    refine k_muI (run_V (rest := []) (n := 1) C0 (tX5_refused E B hW.1 h34) gX5_draw_X5_refused rfl rfl (by decide +kernel) (hW.2.1 0 _ rfl) rfl rfl hW.2.1 hl.1 rfl rfl (Nat.le_of_ble_eq_true rfl) dX5_draw_9) hW.2.2 (fun _ h => h) (fun H locs hQ _ hS => ?_)
    have hW : WM E B q33.2 s H locs := ⟨hW.1, hQ, hS⟩
    obtain rfl := Option.some.inj hf
    exact e_muI (QH := fP E (cM E B q33.2)) C0 hW.2.2 rfl hW.2.1 dX5_draw_12
set_option maxHeartbeats 4000000 in
set_option maxRecDepth 100000 in
theorem tX5_draw {l : Launch} (E : EE) (B : Nat → Nat) {u : SM} {x1 : Int32} {x2 : Int32} {x3 : Int32} {x4 : Int32} {x5 : Int32} {out : Int32 × SM} (hB : iM B) (hf : fX5_draw x1 x2 x3 x4 x5 u = some out) : muI l yX5_draw wsX5_draw rmX5_draw E [.ref (B 0), .int x1, .int x2, .int x3, .int x4, .int x5] (aM B) (fP E (cM E B u)) (fP E (cM E B out.2)) out.1 := by
  refine Met.ofW (cc := cX5_draw) (maxL := 8) (ret := (some .int)) (by decide) rfl ?_
  intro p e s m args below meth c s₁ B0 hml hv
  obtain ⟨rfl, hP, hK⟩ := hv
  have C0 : cx wsX5_draw cX5_draw 8 (some .int) RX5 E p s m _ meth c := ⟨B0.exec, B0.bytes, B0.returns, hml, findClass_of_methodNamed B0.named, atoms_spec (ws := wsX5_draw) B0.pre, B0.notSynchronized, hK⟩
  have hl := lv_entry ([.ref (B 0), .int x1, .int x2, .int x3, .int x4, .int x5]) (n := 8) (Nat.le_of_ble_eq_true rfl)
  rw [lg_entry_eq]
  generalize (lg_sl ([.ref (B 0), .int x1, .int x2, .int x3, .int x4, .int x5]) ++ List.replicate (8 - (lg_sl ([.ref (B 0), .int x1, .int x2, .int x3, .int x4, .int x5])).length) Slot.unset).toArray = ls at hl ⊢
  exact tX5_draw_0 C0 ⟨hB, hP, va_S.rf⟩ hl hf
abbrev rmX5_allDraws : Room := { frames := 2, cells := 0, slots := 0, locals := 45 }
set_option maxHeartbeats 4000000 in
set_option maxRecDepth 100000 in
theorem tX5_allDraws_0 {p : Program} {l : Launch} {e : Env} {s : State} {m : MethodId} {args : Array Value} {below : List Frame} {meth : Method} {c : Code} {E : EE} {B : Nat → Nat} {u : SM} {out : Int64} (C0 : cx wsX5_allDraws cX5_allDraws 2 (some .long) RX5 E p s m args meth c) (hP : fP E (cM E B u) s.heap) {ls : Array Slot} (hl : lv_has ls 2 [(0, .ref (B 0))]) (hf : fX5_allDraws u = some out) : W p l e rmX5_allDraws s m args below meth c s.heap [] 0 0 (MQ below (vp_Sl (fun r => r = out)) args s 0 0 (fun _ => False)) (F0 m 0 ls []) := by
  obtain ⟨hx, hb, hr, hml, hown, hts, hlk, hK⟩ := id C0
  unfold fX5_allDraws at hf
  refine lv_aload_n hx hb dX5_allDraws_0 rfl (lv_at hl 0 rfl) ?_
  refine lv_aload_n hx hb dX5_allDraws_1 rfl (lv_at hl 0 rfl) ?_
  obtain ⟨q1, h2, hf⟩ := bd hf
  refine k_roI (run_V (rest := [.ref (B 0)]) (n := 0) C0 (tX5_everybody E B h2) gX5_allDraws_X5_everybody rfl rfl (by decide +kernel) (hP 0 _ rfl) rfl rfl hP hl.1 rfl rfl (Nat.le_of_ble_eq_true rfl) dX5_allDraws_2) ?_
  obtain ⟨q3, h4, hf⟩ := bd hf
  refine k_roI (run_V (rest := []) (n := 1) C0 (tX5_slipsOfAll E B h4) gX5_allDraws_X5_slipsOfAll rfl rfl (by decide +kernel) (hP 0 _ rfl) rfl rfl hP hl.1 rfl rfl (Nat.le_of_ble_eq_true rfl) dX5_allDraws_5) ?_
  refine lv_istore_n (lv' := [(1, .int q3), (0, .ref (B 0))]) hx hb dX5_allDraws_8 rfl hl (by decide) rfl (fun ls hl => ?_)
  refine lv_iload_n hx hb dX5_allDraws_9 rfl (lv_at hl 0 rfl) ?_
  refine lv_aload_n hx hb dX5_allDraws_10 rfl (lv_at hl 1 rfl) ?_
  refine lv_iload_n hx hb dX5_allDraws_11 rfl (lv_at hl 0 rfl) ?_
  obtain ⟨q5, h6, hf⟩ := bd hf
  refine k_roI (run_V (rest := [.int q3]) (n := 1) C0 (tX5_drawnOf E B h6) gX5_allDraws_X5_drawnOf rfl rfl (by decide +kernel) (hP 0 _ rfl) rfl rfl hP hl.1 rfl rfl (Nat.le_of_ble_eq_true rfl) dX5_allDraws_12) ?_
  obtain ⟨q7, h8, hf⟩ := bd hf
  refine k_roL (run_S (rest := []) (n := 2) (PH := fun _ => True) C0 (tX5_waysOf E h8) gX5_allDraws_X5_waysOf rfl rfl (by decide +kernel) trivial hl.1 rfl rfl (Nat.le_of_ble_eq_true rfl) dX5_allDraws_15) ?_
  exact e_roL C0 hf dX5_allDraws_18
set_option maxHeartbeats 4000000 in
set_option maxRecDepth 100000 in
theorem tX5_allDraws {l : Launch} (E : EE) (B : Nat → Nat) {u : SM} {out : Int64} (hf : fX5_allDraws u = some out) : roL l yX5_allDraws wsX5_allDraws rmX5_allDraws E [.ref (B 0)] (fP E (cM E B u)) out := by
  refine Met.ofW (cc := cX5_allDraws) (maxL := 2) (ret := (some .long)) (by decide) rfl ?_
  intro p e s m args below meth c s₁ B0 hml hv
  obtain ⟨rfl, hP, hK⟩ := hv
  have C0 : cx wsX5_allDraws cX5_allDraws 2 (some .long) RX5 E p s m _ meth c := ⟨B0.exec, B0.bytes, B0.returns, hml, findClass_of_methodNamed B0.named, atoms_spec (ws := wsX5_allDraws) B0.pre, B0.notSynchronized, hK⟩
  have hl := lv_entry ([.ref (B 0)]) (n := 2) (Nat.le_of_ble_eq_true rfl)
  rw [lg_entry_eq]
  generalize (lg_sl ([.ref (B 0)]) ++ List.replicate (2 - (lg_sl ([.ref (B 0)])).length) Slot.unset).toArray = ls at hl ⊢
  exact tX5_allDraws_0 C0 hP hl hf
abbrev rmX5_drawsOf : Room := { frames := 2, cells := 0, slots := 0, locals := 45 }
set_option maxHeartbeats 4000000 in
set_option maxRecDepth 100000 in
theorem tX5_drawsOf_82 {p : Program} {l : Launch} {e : Env} {s : State} {m : MethodId} {args : Array Value} {below : List Frame} {meth : Method} {c : Code} {E : EE} {B : Nat → Nat} {u : SM} {out : Int64} {c28 : Int32 → Int32 → Int64 → Int32 → SM → Option (Int64)} (C0 : cx wsX5_drawsOf cX5_drawsOf 9 (some .long) RX5 E p s m args meth c) (hP : fP E (cM E B u) s.heap) (hc28 : ∀ (x2 : Int32) (x3 : Int32) (x4 : Int64) (x6 : Int32) (ls : Array Slot), lv_has ls 9 [(0, .ref (B 0)), (2, .int x2), (3, .int x3), (4, .long x4), (6, .int x6)] → c28 x2 x3 x4 x6 u = some out → W p l e rmX5_drawsOf s m args below meth c s.heap [] 0 0 (MQ below (vp_Sl (fun r => r = out)) args s 0 0 (fun _ => False)) (F0 m 28 ls [])) {x2 : Int32} {x3 : Int32} {x4 : Int64} {x6 : Int32} {ls : Array Slot} (hl : lv_has ls 9 [(0, .ref (B 0)), (2, .int x2), (3, .int x3), (4, .long x4), (6, .int x6)]) (hf : fX5_drawsOf_82 c28 x2 x3 x4 x6 u = some out) : W p l e rmX5_drawsOf s m args below meth c s.heap [] 0 0 (MQ below (vp_Sl (fun r => r = out)) args s 0 0 (fun _ => False)) (F0 m 82 ls []) := by
  obtain ⟨hx, hb, hr, hml, hown, hts, hlk, hK⟩ := id C0
  unfold fX5_drawsOf_82 at hf
  refine lv_iinc (v := (x6 + (1 : Int32))) (lv' := [(6, .int (x6 + (1 : Int32))), (0, .ref (B 0)), (2, .int x2), (3, .int x3), (4, .long x4)]) hx hb dX5_drawsOf_82 hl (k := 4) rfl rfl (by decide) rfl (fun ls hl => ?_)
  refine lv_goto (tgt := 28) hx hb dX5_drawsOf_85 (by decide) ?_
  exact hc28 _ _ _ _ _ (lv_sub hl [1, 2, 3, 4, 0] rfl) hf
set_option maxHeartbeats 4000000 in
set_option maxRecDepth 100000 in
theorem tX5_drawsOf_79 {p : Program} {l : Launch} {e : Env} {s : State} {m : MethodId} {args : Array Value} {below : List Frame} {meth : Method} {c : Code} {E : EE} {B : Nat → Nat} {u : SM} {out : Int64} {c28 : Int32 → Int32 → Int64 → Int32 → SM → Option (Int64)} (C0 : cx wsX5_drawsOf cX5_drawsOf 9 (some .long) RX5 E p s m args meth c) (hP : fP E (cM E B u) s.heap) (hc28 : ∀ (x2 : Int32) (x3 : Int32) (x4 : Int64) (x6 : Int32) (ls : Array Slot), lv_has ls 9 [(0, .ref (B 0)), (2, .int x2), (3, .int x3), (4, .long x4), (6, .int x6)] → c28 x2 x3 x4 x6 u = some out → W p l e rmX5_drawsOf s m args below meth c s.heap [] 0 0 (MQ below (vp_Sl (fun r => r = out)) args s 0 0 (fun _ => False)) (F0 m 28 ls [])) {x2 : Int32} {x3 : Int32} {x6 : Int32} {xs0 : Int64} {xs1 : Int64} {ls : Array Slot} (hl : lv_has ls 9 [(0, .ref (B 0)), (2, .int x2), (3, .int x3), (6, .int x6)]) (hf : fX5_drawsOf_79 c28 x2 x3 x6 xs0 xs1 u = some out) : W p l e rmX5_drawsOf s m args below meth c s.heap [] 0 0 (MQ below (vp_Sl (fun r => r = out)) args s 0 0 (fun _ => False)) (F0 m 79 ls [.long xs1, .long xs0]) := by
  obtain ⟨hx, hb, hr, hml, hown, hts, hlk, hK⟩ := id C0
  unfold fX5_drawsOf_79 at hf
  refine lv_ladd hx hb dX5_drawsOf_79 ?_
  refine lv_lstore (lv' := [(4, .long (xs0 + xs1)), (0, .ref (B 0)), (2, .int x2), (3, .int x3), (6, .int x6)]) hx hb dX5_drawsOf_80 hl (by decide) rfl (fun ls hl => ?_)
  exact tX5_drawsOf_82 C0 hP hc28 (lv_sub hl [1, 2, 3, 0, 4] rfl) hf
set_option maxHeartbeats 4000000 in
set_option maxRecDepth 100000 in
theorem tX5_drawsOf_28 {p : Program} {l : Launch} {e : Env} {s : State} {m : MethodId} {args : Array Value} {below : List Frame} {meth : Method} {c : Code} {E : EE} {B : Nat → Nat} {u : SM} {out : Int64} (C0 : cx wsX5_drawsOf cX5_drawsOf 9 (some .long) RX5 E p s m args meth c) (hP : fP E (cM E B u) s.heap) : ∀ (n : Nat) (x2 : Int32) (x3 : Int32) (x4 : Int64) (x6 : Int32) (ls : Array Slot), lv_has ls 9 [(0, .ref (B 0)), (2, .int x2), (3, .int x3), (4, .long x4), (6, .int x6)] → fX5_drawsOf_28 n x2 x3 x4 x6 u = some out → W p l e rmX5_drawsOf s m args below meth c s.heap [] 0 0 (MQ below (vp_Sl (fun r => r = out)) args s 0 0 (fun _ => False)) (F0 m 28 ls []) := by
  obtain ⟨hx, hb, hr, hml, hown, hts, hlk, hK⟩ := id C0
  intro n
  induction n with
  | zero =>
    intro x2 x3 x4 x6 ls hl hf
    cases (show none = some out from hf)
  | succ n ih =>
    intro x2 x3 x4 x6 ls hl hf
    rw [fX5_drawsOf_28] at hf
    refine lv_iload hx hb dX5_drawsOf_28 (lv_at hl 4 rfl) ?_
    refine lv_iload_n hx hb dX5_drawsOf_30 rfl (lv_at hl 1 rfl) ?_
    refine lv_icmp_gt (tgt := 88) hx hb dX5_drawsOf_31 (by decide) (fun c1 => ?_) (fun c1 => ?_)
    · have hf := th hf c1
      refine lv_lload hx hb dX5_drawsOf_88 (lv_at hl 3 rfl) ?_
      exact e_roL C0 hf dX5_drawsOf_90
    · have hf := el hf c1
      refine lv_iload hx hb dX5_drawsOf_34 (lv_at hl 4 rfl) ?_
      refine lv_iload_n hx hb dX5_drawsOf_36 rfl (lv_at hl 1 rfl) ?_
      refine lv_iconst (v := (-1 : Int32)) hx hb dX5_drawsOf_37 (by decide) ?_
      refine lv_ixor hx hb dX5_drawsOf_38 ?_
      refine lv_iand hx hb dX5_drawsOf_39 ?_
      refine lv_if_ne (tgt := 82) hx hb dX5_drawsOf_40 (by decide) (fun c2 => ?_) (fun c2 => ?_)
      · have hf := el hf c2
        exact tX5_drawsOf_82 C0 hP ih (lv_sub hl [0, 1, 2, 3, 4] rfl) hf
      · have hf := th hf c2
        refine lv_aload_n hx hb dX5_drawsOf_43 rfl (lv_at hl 0 rfl) ?_
        refine lv_iload hx hb dX5_drawsOf_44 (lv_at hl 4 rfl) ?_
        obtain ⟨q3, h4, hf⟩ := bd hf
        refine k_roI (run_V (rest := []) (n := 1) C0 (tX5_slipsOfAll E B h4) gX5_drawsOf_X5_slipsOfAll rfl rfl (by decide +kernel) (hP 0 _ rfl) rfl rfl hP hl.1 rfl rfl (Nat.le_of_ble_eq_true rfl) dX5_drawsOf_46) ?_
        refine lv_iload_n hx hb dX5_drawsOf_49 rfl (lv_at hl 2 rfl) ?_
        obtain ⟨q5, h6, hf⟩ := bd hf
        refine k_roL (run_S (rest := []) (n := 2) (PH := fun _ => True) C0 (tX5_waysOf E h6) gX5_drawsOf_X5_waysOf rfl rfl (by decide +kernel) trivial hl.1 rfl rfl (Nat.le_of_ble_eq_true rfl) dX5_drawsOf_50) ?_
        refine lv_lstore (lv' := [(7, .long q5), (0, .ref (B 0)), (2, .int x2), (3, .int x3), (4, .long x4), (6, .int x6)]) hx hb dX5_drawsOf_53 hl (by decide) rfl (fun ls hl => ?_)
        refine lv_lload hx hb dX5_drawsOf_55 (lv_at hl 4 rfl) ?_
        refine lv_iload_n hx hb dX5_drawsOf_57 rfl (lv_at hl 2 rfl) ?_
        refine lv_iload hx hb dX5_drawsOf_58 (lv_at hl 5 rfl) ?_
        refine lv_iconst (v := (-1 : Int32)) hx hb dX5_drawsOf_60 (by decide) ?_
        refine lv_ixor hx hb dX5_drawsOf_61 ?_
        refine lv_iand hx hb dX5_drawsOf_62 ?_
        obtain ⟨q7, h8, hf⟩ := bd hf
        refine k_roI (run_S (rest := [.long x4]) (n := 1) (PH := fun _ => True) C0 (tX5_bits E h8) gX5_drawsOf_X5_bits rfl rfl (by decide +kernel) trivial hl.1 rfl rfl (Nat.le_of_ble_eq_true rfl) dX5_drawsOf_63) ?_
        refine lv_iconst (v := (2 : Int32)) hx hb dX5_drawsOf_66 (by decide) ?_
        obtain ⟨h9, hf⟩ := gd hf
        refine lv_irem hx hb dX5_drawsOf_67 h9 ?_
        refine lv_if_ne (tgt := 76) hx hb dX5_drawsOf_68 (by decide) (fun c10 => ?_) (fun c10 => ?_)
        · have hf := el hf c10
          refine lv_lload hx hb dX5_drawsOf_76 (lv_at hl 0 rfl) ?_
          refine lv_lneg hx hb dX5_drawsOf_78 ?_
          exact tX5_drawsOf_79 C0 hP ih (lv_sub hl [1, 2, 3, 5] rfl) hf
        · have hf := th hf c10
          refine lv_lload hx hb dX5_drawsOf_71 (lv_at hl 0 rfl) ?_
          refine lv_goto (tgt := 79) hx hb dX5_drawsOf_73 (by decide) ?_
          exact tX5_drawsOf_79 C0 hP ih (lv_sub hl [1, 2, 3, 5] rfl) hf
set_option maxHeartbeats 4000000 in
set_option maxRecDepth 100000 in
theorem tX5_drawsOf_0 {p : Program} {l : Launch} {e : Env} {s : State} {m : MethodId} {args : Array Value} {below : List Frame} {meth : Method} {c : Code} {E : EE} {B : Nat → Nat} {u : SM} {out : Int64} (C0 : cx wsX5_drawsOf cX5_drawsOf 9 (some .long) RX5 E p s m args meth c) (hP : fP E (cM E B u) s.heap) {x1 : Int32} {ls : Array Slot} (hl : lv_has ls 9 [(0, .ref (B 0)), (1, .int x1)]) (hf : fX5_drawsOf x1 u = some out) : W p l e rmX5_drawsOf s m args below meth c s.heap [] 0 0 (MQ below (vp_Sl (fun r => r = out)) args s 0 0 (fun _ => False)) (F0 m 0 ls []) := by
  obtain ⟨hx, hb, hr, hml, hown, hts, hlk, hK⟩ := id C0
  unfold fX5_drawsOf at hf
  refine lv_aload_n hx hb dX5_drawsOf_0 rfl (lv_at hl 0 rfl) ?_
  obtain ⟨q1, h2, hf⟩ := bd hf
  refine k_roI (run_V (rest := []) (n := 0) C0 (tX5_everybody E B h2) gX5_drawsOf_X5_everybody rfl rfl (by decide +kernel) (hP 0 _ rfl) rfl rfl hP hl.1 rfl rfl (Nat.le_of_ble_eq_true rfl) dX5_drawsOf_1) ?_
  refine lv_iload_n hx hb dX5_drawsOf_4 rfl (lv_at hl 1 rfl) ?_
  refine lv_iconst (v := (-1 : Int32)) hx hb dX5_drawsOf_5 (by decide) ?_
  refine lv_ixor hx hb dX5_drawsOf_6 ?_
  refine lv_iand hx hb dX5_drawsOf_7 ?_
  refine lv_istore_n (lv' := [(2, .int (q1 &&& (x1 ^^^ (-1 : Int32)))), (0, .ref (B 0)), (1, .int x1)]) hx hb dX5_drawsOf_8 rfl hl (by decide) rfl (fun ls hl => ?_)
  refine lv_aload_n hx hb dX5_drawsOf_9 rfl (lv_at hl 1 rfl) ?_
  refine lv_aload_n hx hb dX5_drawsOf_10 rfl (lv_at hl 1 rfl) ?_
  refine lv_aload_n hx hb dX5_drawsOf_11 rfl (lv_at hl 1 rfl) ?_
  obtain ⟨q3, h4, hf⟩ := bd hf
  refine k_roI (run_V (rest := [.ref (B 0), .ref (B 0)]) (n := 0) C0 (tX5_everybody E B h4) gX5_drawsOf_X5_everybody rfl rfl (by decide +kernel) (hP 0 _ rfl) rfl rfl hP hl.1 rfl rfl (Nat.le_of_ble_eq_true rfl) dX5_drawsOf_12) ?_
  obtain ⟨q5, h6, hf⟩ := bd hf
  refine k_roI (run_V (rest := [.ref (B 0)]) (n := 1) C0 (tX5_slipsOfAll E B h6) gX5_drawsOf_X5_slipsOfAll rfl rfl (by decide +kernel) (hP 0 _ rfl) rfl rfl hP hl.1 rfl rfl (Nat.le_of_ble_eq_true rfl) dX5_drawsOf_15) ?_
  obtain ⟨q7, h8, hf⟩ := bd hf
  refine k_roI (run_V (rest := []) (n := 1) C0 (tX5_drawnOf E B h8) gX5_drawsOf_X5_drawnOf rfl rfl (by decide +kernel) (hP 0 _ rfl) rfl rfl hP hl.1 rfl rfl (Nat.le_of_ble_eq_true rfl) dX5_drawsOf_18) ?_
  refine lv_istore_n (lv' := [(3, .int q7), (2, .int (q1 &&& (x1 ^^^ (-1 : Int32)))), (0, .ref (B 0)), (1, .int x1)]) hx hb dX5_drawsOf_21 rfl hl (by decide) rfl (fun ls hl => ?_)
  refine lv_lconst (v := (0 : Int64)) hx hb dX5_drawsOf_22 (by decide) ?_
  refine lv_lstore (lv' := [(4, .long (0 : Int64)), (3, .int q7), (2, .int (q1 &&& (x1 ^^^ (-1 : Int32)))), (0, .ref (B 0)), (1, .int x1)]) hx hb dX5_drawsOf_23 hl (by decide) rfl (fun ls hl => ?_)
  refine lv_iconst (v := (0 : Int32)) hx hb dX5_drawsOf_25 (by decide) ?_
  refine lv_istore (lv' := [(6, .int (0 : Int32)), (4, .long (0 : Int64)), (3, .int q7), (2, .int (q1 &&& (x1 ^^^ (-1 : Int32)))), (0, .ref (B 0)), (1, .int x1)]) hx hb dX5_drawsOf_26 hl (by decide) rfl (fun ls hl => ?_)
  exact tX5_drawsOf_28 C0 hP fu _ _ _ _ _ (lv_sub hl [4, 3, 2, 1, 0] rfl) hf
set_option maxHeartbeats 4000000 in
set_option maxRecDepth 100000 in
theorem tX5_drawsOf {l : Launch} (E : EE) (B : Nat → Nat) {u : SM} {x1 : Int32} {out : Int64} (hf : fX5_drawsOf x1 u = some out) : roL l yX5_drawsOf wsX5_drawsOf rmX5_drawsOf E [.ref (B 0), .int x1] (fP E (cM E B u)) out := by
  refine Met.ofW (cc := cX5_drawsOf) (maxL := 9) (ret := (some .long)) (by decide) rfl ?_
  intro p e s m args below meth c s₁ B0 hml hv
  obtain ⟨rfl, hP, hK⟩ := hv
  have C0 : cx wsX5_drawsOf cX5_drawsOf 9 (some .long) RX5 E p s m _ meth c := ⟨B0.exec, B0.bytes, B0.returns, hml, findClass_of_methodNamed B0.named, atoms_spec (ws := wsX5_drawsOf) B0.pre, B0.notSynchronized, hK⟩
  have hl := lv_entry ([.ref (B 0), .int x1]) (n := 9) (Nat.le_of_ble_eq_true rfl)
  rw [lg_entry_eq]
  generalize (lg_sl ([.ref (B 0), .int x1]) ++ List.replicate (9 - (lg_sl ([.ref (B 0), .int x1])).length) Slot.unset).toArray = ls at hl ⊢
  exact tX5_drawsOf_0 C0 hP hl hf
abbrev rmX5_drawsWithout : Room := { frames := 2, cells := 0, slots := 0, locals := 45 }
set_option maxHeartbeats 4000000 in
set_option maxRecDepth 100000 in
theorem tX5_drawsWithout_0 {p : Program} {l : Launch} {e : Env} {s : State} {m : MethodId} {args : Array Value} {below : List Frame} {meth : Method} {c : Code} {E : EE} {B : Nat → Nat} {u : SM} {out : Int64} (C0 : cx wsX5_drawsWithout cX5_drawsWithout 3 (some .long) RX5 E p s m args meth c) (hP : fP E (cM E B u) s.heap) {x1 : Int32} {ls : Array Slot} (hl : lv_has ls 3 [(0, .ref (B 0)), (1, .int x1)]) (hf : fX5_drawsWithout x1 u = some out) : W p l e rmX5_drawsWithout s m args below meth c s.heap [] 0 0 (MQ below (vp_Sl (fun r => r = out)) args s 0 0 (fun _ => False)) (F0 m 0 ls []) := by
  obtain ⟨hx, hb, hr, hml, hown, hts, hlk, hK⟩ := id C0
  unfold fX5_drawsWithout at hf
  refine lv_aload_n hx hb dX5_drawsWithout_0 rfl (lv_at hl 0 rfl) ?_
  refine lv_aload_n hx hb dX5_drawsWithout_1 rfl (lv_at hl 0 rfl) ?_
  obtain ⟨q1, h2, hf⟩ := bd hf
  refine k_roI (run_V (rest := [.ref (B 0)]) (n := 0) C0 (tX5_everybody E B h2) gX5_drawsWithout_X5_everybody rfl rfl (by decide +kernel) (hP 0 _ rfl) rfl rfl hP hl.1 rfl rfl (Nat.le_of_ble_eq_true rfl) dX5_drawsWithout_2) ?_
  obtain ⟨q3, h4, hf⟩ := bd hf
  refine k_roI (run_V (rest := []) (n := 1) C0 (tX5_slipsOfAll E B h4) gX5_drawsWithout_X5_slipsOfAll rfl rfl (by decide +kernel) (hP 0 _ rfl) rfl rfl hP hl.1 rfl rfl (Nat.le_of_ble_eq_true rfl) dX5_drawsWithout_5) ?_
  refine lv_istore_n (lv' := [(2, .int q3), (0, .ref (B 0)), (1, .int x1)]) hx hb dX5_drawsWithout_8 rfl hl (by decide) rfl (fun ls hl => ?_)
  refine lv_iload_n hx hb dX5_drawsWithout_9 rfl (lv_at hl 0 rfl) ?_
  refine lv_aload_n hx hb dX5_drawsWithout_10 rfl (lv_at hl 1 rfl) ?_
  refine lv_iload_n hx hb dX5_drawsWithout_11 rfl (lv_at hl 2 rfl) ?_
  obtain ⟨q5, h6, hf⟩ := bd hf
  refine k_roI (run_V (rest := [.int q3]) (n := 1) C0 (tX5_slipsOf E B h6) gX5_drawsWithout_X5_slipsOf rfl rfl (by decide +kernel) (hP 0 _ rfl) rfl rfl hP hl.1 rfl rfl (Nat.le_of_ble_eq_true rfl) dX5_drawsWithout_12) ?_
  refine lv_isub hx hb dX5_drawsWithout_15 ?_
  refine lv_aload_n hx hb dX5_drawsWithout_16 rfl (lv_at hl 1 rfl) ?_
  refine lv_iload_n hx hb dX5_drawsWithout_17 rfl (lv_at hl 0 rfl) ?_
  obtain ⟨q7, h8, hf⟩ := bd hf
  refine k_roI (run_V (rest := [.int (q3 - q5)]) (n := 1) C0 (tX5_drawnOf E B h8) gX5_drawsWithout_X5_drawnOf rfl rfl (by decide +kernel) (hP 0 _ rfl) rfl rfl hP hl.1 rfl rfl (Nat.le_of_ble_eq_true rfl) dX5_drawsWithout_18) ?_
  obtain ⟨q9, h10, hf⟩ := bd hf
  refine k_roL (run_S (rest := []) (n := 2) (PH := fun _ => True) C0 (tX5_waysOf E h10) gX5_drawsWithout_X5_waysOf rfl rfl (by decide +kernel) trivial hl.1 rfl rfl (Nat.le_of_ble_eq_true rfl) dX5_drawsWithout_21) ?_
  exact e_roL C0 hf dX5_drawsWithout_24
set_option maxHeartbeats 4000000 in
set_option maxRecDepth 100000 in
theorem tX5_drawsWithout {l : Launch} (E : EE) (B : Nat → Nat) {u : SM} {x1 : Int32} {out : Int64} (hf : fX5_drawsWithout x1 u = some out) : roL l yX5_drawsWithout wsX5_drawsWithout rmX5_drawsWithout E [.ref (B 0), .int x1] (fP E (cM E B u)) out := by
  refine Met.ofW (cc := cX5_drawsWithout) (maxL := 3) (ret := (some .long)) (by decide) rfl ?_
  intro p e s m args below meth c s₁ B0 hml hv
  obtain ⟨rfl, hP, hK⟩ := hv
  have C0 : cx wsX5_drawsWithout cX5_drawsWithout 3 (some .long) RX5 E p s m _ meth c := ⟨B0.exec, B0.bytes, B0.returns, hml, findClass_of_methodNamed B0.named, atoms_spec (ws := wsX5_drawsWithout) B0.pre, B0.notSynchronized, hK⟩
  have hl := lv_entry ([.ref (B 0), .int x1]) (n := 3) (Nat.le_of_ble_eq_true rfl)
  rw [lg_entry_eq]
  generalize (lg_sl ([.ref (B 0), .int x1]) ++ List.replicate (3 - (lg_sl ([.ref (B 0), .int x1])).length) Slot.unset).toArray = ls at hl ⊢
  exact tX5_drawsWithout_0 C0 hP hl hf
abbrev rmX5_rules : Room := { frames := 3, cells := 0, slots := 0, locals := 67 }
set_option maxHeartbeats 4000000 in
set_option maxRecDepth 100000 in
theorem tX5_rules_18 {p : Program} {l : Launch} {e : Env} {s : State} {m : MethodId} {args : Array Value} {below : List Frame} {meth : Method} {c : Code} {E : EE} {B : Nat → Nat} {u : SM} {out : Int64} (C0 : cx wsX5_rules cX5_rules 3 (some .long) RX5 E p s m args meth c) (hP : fP E (cM E B u) s.heap) {ls : Array Slot} (hl : lv_has ls 3 []) (hf : fX5_rules_18 u = some out) : W p l e rmX5_rules s m args below meth c s.heap [] 0 0 (MQ below (vp_Sl (fun r => r = out)) args s 0 0 (fun _ => False)) (F0 m 18 ls []) := by
  obtain ⟨hx, hb, hr, hml, hown, hts, hlk, hK⟩ := id C0
  unfold fX5_rules_18 at hf
  obtain ⟨q1, h2, hf⟩ := bd hf
  refine k_roL (run_S (rest := []) (n := 0) (PH := fun _ => True) C0 (tX5_lost E h2) gX5_rules_X5_lost rfl rfl (by decide +kernel) trivial hl.1 rfl rfl (Nat.le_of_ble_eq_true rfl) dX5_rules_18) ?_
  refine lv_goto (tgt := 37) hx hb dX5_rules_21 (by decide) ?_
  exact e_roL C0 hf dX5_rules_37
set_option maxHeartbeats 4000000 in
set_option maxRecDepth 100000 in
theorem tX5_rules_0 {p : Program} {l : Launch} {e : Env} {s : State} {m : MethodId} {args : Array Value} {below : List Frame} {meth : Method} {c : Code} {E : EE} {B : Nat → Nat} {u : SM} {out : Int64} (C0 : cx wsX5_rules cX5_rules 3 (some .long) RX5 E p s m args meth c) (hP : fP E (cM E B u) s.heap) {x1 : Int32} {x2 : Int32} {ls : Array Slot} (hl : lv_has ls 3 [(0, .ref (B 0)), (1, .int x1), (2, .int x2)]) (hf : fX5_rules x1 x2 u = some out) : W p l e rmX5_rules s m args below meth c s.heap [] 0 0 (MQ below (vp_Sl (fun r => r = out)) args s 0 0 (fun _ => False)) (F0 m 0 ls []) := by
  obtain ⟨hx, hb, hr, hml, hown, hts, hlk, hK⟩ := id C0
  unfold fX5_rules at hf
  refine lv_aload_n hx hb dX5_rules_0 rfl (lv_at hl 0 rfl) ?_
  refine lv_iload_n hx hb dX5_rules_1 rfl (lv_at hl 1 rfl) ?_
  obtain ⟨q1, h2, hf⟩ := bd hf
  refine k_roI (run_V (rest := []) (n := 1) C0 (tX5_noCitizen E B h2) gX5_rules_X5_noCitizen rfl rfl (by decide +kernel) (hP 0 _ rfl) rfl rfl hP hl.1 rfl rfl (Nat.le_of_ble_eq_true rfl) dX5_rules_2) ?_
  refine lv_if_ne (tgt := 18) hx hb dX5_rules_5 (by decide) (fun c3 => ?_) (fun c3 => ?_)
  · have hf := el hf c3
    exact tX5_rules_18 C0 hP (lv_sub hl [] rfl) hf
  · have hf := th hf c3
    refine lv_iload_n hx hb dX5_rules_8 rfl (lv_at hl 2 rfl) ?_
    refine lv_i2l (v := x2.toInt64) hx hb dX5_rules_9 rfl ?_
    refine lv_lconst (v := (0 : Int64)) hx hb dX5_rules_10 (by decide) ?_
    refine lv_lconst (v := (1 : Int64)) hx hb dX5_rules_11 (by decide) ?_
    obtain ⟨q4, h5, hf⟩ := bd hf
    refine k_roI (run_S (rest := []) (n := 3) (PH := fun _ => True) C0 (tX5_in E h5) gX5_rules_X5_in rfl rfl (by decide +kernel) trivial hl.1 rfl rfl (Nat.le_of_ble_eq_true rfl) dX5_rules_12) ?_
    refine lv_if_ne (tgt := 24) hx hb dX5_rules_15 (by decide) (fun c6 => ?_) (fun c6 => ?_)
    · have hf := el hf c6
      refine lv_aload_n hx hb dX5_rules_24 rfl (lv_at hl 0 rfl) ?_
      refine lv_iload_n hx hb dX5_rules_25 rfl (lv_at hl 1 rfl) ?_
      obtain ⟨q7, h8, hf⟩ := bd hf
      refine k_roL (run_V (rest := []) (n := 1) C0 (tX5_drawsWithout E B h8) gX5_rules_X5_drawsWithout rfl rfl (by decide +kernel) (hP 0 _ rfl) rfl rfl hP hl.1 rfl rfl (Nat.le_of_ble_eq_true rfl) dX5_rules_26) ?_
      refine lv_aload_n hx hb dX5_rules_29 rfl (lv_at hl 0 rfl) ?_
      obtain ⟨q9, h10, hf⟩ := bd hf
      refine k_roL (run_V (rest := [.long q7]) (n := 0) C0 (tX5_allDraws E B h10) gX5_rules_X5_allDraws rfl rfl (by decide +kernel) (hP 0 _ rfl) rfl rfl hP hl.1 rfl rfl (Nat.le_of_ble_eq_true rfl) dX5_rules_30) ?_
      refine lv_iload_n hx hb dX5_rules_33 rfl (lv_at hl 2 rfl) ?_
      obtain ⟨q11, h12, hf⟩ := bd hf
      refine k_roL (run_S (rest := []) (n := 3) (PH := fun _ => True) C0 (tX5_share E h12) gX5_rules_X5_share rfl rfl (by decide +kernel) trivial hl.1 rfl rfl (Nat.le_of_ble_eq_true rfl) dX5_rules_34) ?_
      exact e_roL C0 hf dX5_rules_37
    · have hf := th hf c6
      exact tX5_rules_18 C0 hP (lv_sub hl [] rfl) hf
set_option maxHeartbeats 4000000 in
set_option maxRecDepth 100000 in
theorem tX5_rules {l : Launch} (E : EE) (B : Nat → Nat) {u : SM} {x1 : Int32} {x2 : Int32} {out : Int64} (hf : fX5_rules x1 x2 u = some out) : roL l yX5_rules wsX5_rules rmX5_rules E [.ref (B 0), .int x1, .int x2] (fP E (cM E B u)) out := by
  refine Met.ofW (cc := cX5_rules) (maxL := 3) (ret := (some .long)) (by decide) rfl ?_
  intro p e s m args below meth c s₁ B0 hml hv
  obtain ⟨rfl, hP, hK⟩ := hv
  have C0 : cx wsX5_rules cX5_rules 3 (some .long) RX5 E p s m _ meth c := ⟨B0.exec, B0.bytes, B0.returns, hml, findClass_of_methodNamed B0.named, atoms_spec (ws := wsX5_rules) B0.pre, B0.notSynchronized, hK⟩
  have hl := lv_entry ([.ref (B 0), .int x1, .int x2]) (n := 3) (Nat.le_of_ble_eq_true rfl)
  rw [lg_entry_eq]
  generalize (lg_sl ([.ref (B 0), .int x1, .int x2]) ++ List.replicate (3 - (lg_sl ([.ref (B 0), .int x1, .int x2])).length) Slot.unset).toArray = ls at hl ⊢
  exact tX5_rules_0 C0 hP hl hf
abbrev rmX5_just : Room := { frames := 3, cells := 0, slots := 0, locals := 73 }
set_option maxRecDepth 20000 in
theorem iX5_just_X5 : ∀ w ∈ wsX50, w ∈ wsX5_just := by decide +kernel
set_option maxHeartbeats 4000000 in
set_option maxRecDepth 100000 in
theorem tX5_just_31 {p : Program} {l : Launch} {e : Env} {s : State} {m : MethodId} {args : Array Value} {below : List Frame} {meth : Method} {c : Code} {E : EE} {B : Nat → Nat} {u : SM} {out : Int64} (C0 : cx wsX5_just cX5_just 3 (some .long) RX5 E p s m args meth c) (hP : fP E (cM E B u) s.heap) {ls : Array Slot} (hl : lv_has ls 3 []) (hf : fX5_just_31 u = some out) : W p l e rmX5_just s m args below meth c s.heap [] 0 0 (MQ below (vp_Sl (fun r => r = out)) args s 0 0 (fun _ => False)) (F0 m 31 ls []) := by
  obtain ⟨hx, hb, hr, hml, hown, hts, hlk, hK⟩ := id C0
  unfold fX5_just_31 at hf
  obtain ⟨q1, h2, hf⟩ := bd hf
  refine k_roL (run_S (rest := []) (n := 0) (PH := fun _ => True) C0 (tX5_lost E h2) gX5_just_X5_lost rfl rfl (by decide +kernel) trivial hl.1 rfl rfl (Nat.le_of_ble_eq_true rfl) dX5_just_31) ?_
  exact e_roL C0 hf dX5_just_34
set_option maxHeartbeats 4000000 in
set_option maxRecDepth 100000 in
theorem tX5_just_0 {p : Program} {l : Launch} {e : Env} {s : State} {m : MethodId} {args : Array Value} {below : List Frame} {meth : Method} {c : Code} {E : EE} {B : Nat → Nat} {u : SM} {out : Int64} (C0 : cx wsX5_just cX5_just 3 (some .long) RX5 E p s m args meth c) (hP : fP E (cM E B u) s.heap) {x1 : Int32} {x2 : Int32} {ls : Array Slot} (hl : lv_has ls 3 [(0, .ref (B 0)), (1, .int x1), (2, .int x2)]) (hf : fX5_just x1 x2 u = some out) : W p l e rmX5_just s m args below meth c s.heap [] 0 0 (MQ below (vp_Sl (fun r => r = out)) args s 0 0 (fun _ => False)) (F0 m 0 ls []) := by
  obtain ⟨hx, hb, hr, hml, hown, hts, hlk, hK⟩ := id C0
  unfold fX5_just at hf
  refine lv_aload_n hx hb dX5_just_0 rfl (lv_at hl 0 rfl) ?_
  refine m_get C0 hP iX5_just_X5 3 (by decide) (by decide +kernel) rfl dX5_just_1 ?_
  refine lv_if_eq (tgt := 31) hx hb dX5_just_4 (by decide) (fun c1 => ?_) (fun c1 => ?_)
  · have hf := th hf c1
    exact tX5_just_31 C0 hP (lv_sub hl [] rfl) hf
  · have hf := el hf c1
    refine lv_iload_n hx hb dX5_just_7 rfl (lv_at hl 1 rfl) ?_
    refine lv_i2l (v := x1.toInt64) hx hb dX5_just_8 rfl ?_
    refine lv_lconst (v := (0 : Int64)) hx hb dX5_just_9 (by decide) ?_
    refine lv_aload_n hx hb dX5_just_10 rfl (lv_at hl 0 rfl) ?_
    obtain ⟨q2, h3, hf⟩ := bd hf
    refine k_roI (run_V (rest := [.long (0 : Int64), .long x1.toInt64]) (n := 0) C0 (tX5_everybody E B h3) gX5_just_X5_everybody rfl rfl (by decide +kernel) (hP 0 _ rfl) rfl rfl hP hl.1 rfl rfl (Nat.le_of_ble_eq_true rfl) dX5_just_11) ?_
    refine lv_i2l (v := q2.toInt64) hx hb dX5_just_14 rfl ?_
    obtain ⟨q4, h5, hf⟩ := bd hf
    refine k_roI (run_S (rest := []) (n := 3) (PH := fun _ => True) C0 (tX5_in E h5) gX5_just_X5_in rfl rfl (by decide +kernel) trivial hl.1 rfl rfl (Nat.le_of_ble_eq_true rfl) dX5_just_15) ?_
    refine lv_if_eq (tgt := 31) hx hb dX5_just_18 (by decide) (fun c6 => ?_) (fun c6 => ?_)
    · have hf := th hf c6
      exact tX5_just_31 C0 hP (lv_sub hl [] rfl) hf
    · have hf := el hf c6
      refine lv_iload_n hx hb dX5_just_21 rfl (lv_at hl 2 rfl) ?_
      refine lv_i2l (v := x2.toInt64) hx hb dX5_just_22 rfl ?_
      refine lv_lconst (v := (0 : Int64)) hx hb dX5_just_23 (by decide) ?_
      refine lv_lconst (v := (1 : Int64)) hx hb dX5_just_24 (by decide) ?_
      obtain ⟨q7, h8, hf⟩ := bd hf
      refine k_roI (run_S (rest := []) (n := 3) (PH := fun _ => True) C0 (tX5_in E h8) gX5_just_X5_in rfl rfl (by decide +kernel) trivial hl.1 rfl rfl (Nat.le_of_ble_eq_true rfl) dX5_just_25) ?_
      refine lv_if_ne (tgt := 35) hx hb dX5_just_28 (by decide) (fun c9 => ?_) (fun c9 => ?_)
      · have hf := el hf c9
        refine lv_aload_n hx hb dX5_just_35 rfl (lv_at hl 0 rfl) ?_
        refine lv_iload_n hx hb dX5_just_36 rfl (lv_at hl 1 rfl) ?_
        obtain ⟨q10, h11, hf⟩ := bd hf
        refine k_roL (run_V (rest := []) (n := 1) C0 (tX5_drawsOf E B h11) gX5_just_X5_drawsOf rfl rfl (by decide +kernel) (hP 0 _ rfl) rfl rfl hP hl.1 rfl rfl (Nat.le_of_ble_eq_true rfl) dX5_just_37) ?_
        refine lv_aload_n hx hb dX5_just_40 rfl (lv_at hl 0 rfl) ?_
        obtain ⟨q12, h13, hf⟩ := bd hf
        refine k_roL (run_V (rest := [.long q10]) (n := 0) C0 (tX5_allDraws E B h13) gX5_just_X5_allDraws rfl rfl (by decide +kernel) (hP 0 _ rfl) rfl rfl hP hl.1 rfl rfl (Nat.le_of_ble_eq_true rfl) dX5_just_41) ?_
        refine lv_iload_n hx hb dX5_just_44 rfl (lv_at hl 2 rfl) ?_
        obtain ⟨q14, h15, hf⟩ := bd hf
        refine k_roL (run_S (rest := []) (n := 3) (PH := fun _ => True) C0 (tX5_share E h15) gX5_just_X5_share rfl rfl (by decide +kernel) trivial hl.1 rfl rfl (Nat.le_of_ble_eq_true rfl) dX5_just_45) ?_
        exact e_roL C0 hf dX5_just_48
      · have hf := th hf c9
        exact tX5_just_31 C0 hP (lv_sub hl [] rfl) hf
set_option maxHeartbeats 4000000 in
set_option maxRecDepth 100000 in
theorem tX5_just {l : Launch} (E : EE) (B : Nat → Nat) {u : SM} {x1 : Int32} {x2 : Int32} {out : Int64} (hf : fX5_just x1 x2 u = some out) : roL l yX5_just wsX5_just rmX5_just E [.ref (B 0), .int x1, .int x2] (fP E (cM E B u)) out := by
  refine Met.ofW (cc := cX5_just) (maxL := 3) (ret := (some .long)) (by decide) rfl ?_
  intro p e s m args below meth c s₁ B0 hml hv
  obtain ⟨rfl, hP, hK⟩ := hv
  have C0 : cx wsX5_just cX5_just 3 (some .long) RX5 E p s m _ meth c := ⟨B0.exec, B0.bytes, B0.returns, hml, findClass_of_methodNamed B0.named, atoms_spec (ws := wsX5_just) B0.pre, B0.notSynchronized, hK⟩
  have hl := lv_entry ([.ref (B 0), .int x1, .int x2]) (n := 3) (Nat.le_of_ble_eq_true rfl)
  rw [lg_entry_eq]
  generalize (lg_sl ([.ref (B 0), .int x1, .int x2]) ++ List.replicate (3 - (lg_sl ([.ref (B 0), .int x1, .int x2])).length) Slot.unset).toArray = ls at hl ⊢
  exact tX5_just_0 C0 hP hl hf
abbrev rmX5_mean : Room := { frames := 3, cells := 0, slots := 0, locals := 67 }
set_option maxRecDepth 20000 in
theorem iX5_mean_X5 : ∀ w ∈ wsX50, w ∈ wsX5_mean := by decide +kernel
set_option maxHeartbeats 4000000 in
set_option maxRecDepth 100000 in
theorem tX5_mean_17 {p : Program} {l : Launch} {e : Env} {s : State} {m : MethodId} {args : Array Value} {below : List Frame} {meth : Method} {c : Code} {E : EE} {B : Nat → Nat} {u : SM} {out : Int64} (C0 : cx wsX5_mean cX5_mean 5 (some .long) RX5 E p s m args meth c) (hP : fP E (cM E B u) s.heap) {ls : Array Slot} (hl : lv_has ls 5 []) (hf : fX5_mean_17 u = some out) : W p l e rmX5_mean s m args below meth c s.heap [] 0 0 (MQ below (vp_Sl (fun r => r = out)) args s 0 0 (fun _ => False)) (F0 m 17 ls []) := by
  obtain ⟨hx, hb, hr, hml, hown, hts, hlk, hK⟩ := id C0
  unfold fX5_mean_17 at hf
  obtain ⟨q1, h2, hf⟩ := bd hf
  refine k_roL (run_S (rest := []) (n := 0) (PH := fun _ => True) C0 (tX5_lost E h2) gX5_mean_X5_lost rfl rfl (by decide +kernel) trivial hl.1 rfl rfl (Nat.le_of_ble_eq_true rfl) dX5_mean_17) ?_
  exact e_roL C0 hf dX5_mean_20
set_option maxHeartbeats 4000000 in
set_option maxRecDepth 100000 in
theorem tX5_mean_26 {p : Program} {l : Launch} {e : Env} {s : State} {m : MethodId} {args : Array Value} {below : List Frame} {meth : Method} {c : Code} {E : EE} {B : Nat → Nat} {u : SM} {out : Int64} (C0 : cx wsX5_mean cX5_mean 5 (some .long) RX5 E p s m args meth c) (hP : fP E (cM E B u) s.heap) : ∀ (n : Nat) (x1 : Int32) (x2 : Int64) (x4 : Int32) (ls : Array Slot), lv_has ls 5 [(0, .ref (B 0)), (1, .int x1), (2, .long x2), (4, .int x4)] → fX5_mean_26 n x1 x2 x4 u = some out → W p l e rmX5_mean s m args below meth c s.heap [] 0 0 (MQ below (vp_Sl (fun r => r = out)) args s 0 0 (fun _ => False)) (F0 m 26 ls []) := by
  obtain ⟨hx, hb, hr, hml, hown, hts, hlk, hK⟩ := id C0
  intro n
  induction n with
  | zero =>
    intro x1 x2 x4 ls hl hf
    cases (show none = some out from hf)
  | succ n ih =>
    intro x1 x2 x4 ls hl hf
    rw [fX5_mean_26] at hf
    refine lv_iload hx hb dX5_mean_26 (lv_at hl 3 rfl) ?_
    refine lv_aload_n hx hb dX5_mean_28 rfl (lv_at hl 0 rfl) ?_
    refine m_get C0 hP iX5_mean_X5 3 (by decide) (by decide +kernel) rfl dX5_mean_29 ?_
    refine lv_icmp_ge (tgt := 50) hx hb dX5_mean_32 (by decide) (fun c1 => ?_) (fun c1 => ?_)
    · have hf := th hf c1
      refine lv_lload_n hx hb dX5_mean_50 rfl (lv_at hl 2 rfl) ?_
      refine lv_aload_n hx hb dX5_mean_51 rfl (lv_at hl 0 rfl) ?_
      obtain ⟨q2, h3, hf⟩ := bd hf
      refine k_roL (run_V (rest := [.long x2]) (n := 0) C0 (tX5_allDraws E B h3) gX5_mean_X5_allDraws rfl rfl (by decide +kernel) (hP 0 _ rfl) rfl rfl hP hl.1 rfl rfl (Nat.le_of_ble_eq_true rfl) dX5_mean_52) ?_
      refine lv_iload_n hx hb dX5_mean_55 rfl (lv_at hl 1 rfl) ?_
      obtain ⟨q4, h5, hf⟩ := bd hf
      refine k_roL (run_S (rest := []) (n := 3) (PH := fun _ => True) C0 (tX5_share E h5) gX5_mean_X5_share rfl rfl (by decide +kernel) trivial hl.1 rfl rfl (Nat.le_of_ble_eq_true rfl) dX5_mean_56) ?_
      exact e_roL C0 hf dX5_mean_59
    · have hf := el hf c1
      refine lv_lload_n hx hb dX5_mean_35 rfl (lv_at hl 2 rfl) ?_
      refine lv_aload_n hx hb dX5_mean_36 rfl (lv_at hl 0 rfl) ?_
      refine lv_iload hx hb dX5_mean_37 (lv_at hl 3 rfl) ?_
      obtain ⟨q6, h7, hf⟩ := bd hf
      refine k_roL (run_V (rest := [.long x2]) (n := 1) C0 (tX5_drawsWithout E B h7) gX5_mean_X5_drawsWithout rfl rfl (by decide +kernel) (hP 0 _ rfl) rfl rfl hP hl.1 rfl rfl (Nat.le_of_ble_eq_true rfl) dX5_mean_39) ?_
      refine lv_ladd hx hb dX5_mean_42 ?_
      refine lv_lstore_n (lv' := [(2, .long (x2 + q6)), (0, .ref (B 0)), (1, .int x1), (4, .int x4)]) hx hb dX5_mean_43 rfl hl (by decide) rfl (fun ls hl => ?_)
      refine lv_iinc (v := (x4 + (1 : Int32))) (lv' := [(4, .int (x4 + (1 : Int32))), (2, .long (x2 + q6)), (0, .ref (B 0)), (1, .int x1)]) hx hb dX5_mean_44 hl (k := 3) rfl rfl (by decide) rfl (fun ls hl => ?_)
      refine lv_goto (tgt := 26) hx hb dX5_mean_47 (by decide) ?_
      exact ih _ _ _ _ (lv_sub hl [2, 3, 1, 0] rfl) hf
set_option maxHeartbeats 4000000 in
set_option maxRecDepth 100000 in
theorem tX5_mean_0 {p : Program} {l : Launch} {e : Env} {s : State} {m : MethodId} {args : Array Value} {below : List Frame} {meth : Method} {c : Code} {E : EE} {B : Nat → Nat} {u : SM} {out : Int64} (C0 : cx wsX5_mean cX5_mean 5 (some .long) RX5 E p s m args meth c) (hP : fP E (cM E B u) s.heap) {x1 : Int32} {ls : Array Slot} (hl : lv_has ls 5 [(0, .ref (B 0)), (1, .int x1)]) (hf : fX5_mean x1 u = some out) : W p l e rmX5_mean s m args below meth c s.heap [] 0 0 (MQ below (vp_Sl (fun r => r = out)) args s 0 0 (fun _ => False)) (F0 m 0 ls []) := by
  obtain ⟨hx, hb, hr, hml, hown, hts, hlk, hK⟩ := id C0
  unfold fX5_mean at hf
  refine lv_aload_n hx hb dX5_mean_0 rfl (lv_at hl 0 rfl) ?_
  refine m_get C0 hP iX5_mean_X5 3 (by decide) (by decide +kernel) rfl dX5_mean_1 ?_
  refine lv_if_eq (tgt := 17) hx hb dX5_mean_4 (by decide) (fun c1 => ?_) (fun c1 => ?_)
  · have hf := th hf c1
    exact tX5_mean_17 C0 hP (lv_sub hl [] rfl) hf
  · have hf := el hf c1
    refine lv_iload_n hx hb dX5_mean_7 rfl (lv_at hl 1 rfl) ?_
    refine lv_i2l (v := x1.toInt64) hx hb dX5_mean_8 rfl ?_
    refine lv_lconst (v := (0 : Int64)) hx hb dX5_mean_9 (by decide) ?_
    refine lv_lconst (v := (1 : Int64)) hx hb dX5_mean_10 (by decide) ?_
    obtain ⟨q2, h3, hf⟩ := bd hf
    refine k_roI (run_S (rest := []) (n := 3) (PH := fun _ => True) C0 (tX5_in E h3) gX5_mean_X5_in rfl rfl (by decide +kernel) trivial hl.1 rfl rfl (Nat.le_of_ble_eq_true rfl) dX5_mean_11) ?_
    refine lv_if_ne (tgt := 21) hx hb dX5_mean_14 (by decide) (fun c4 => ?_) (fun c4 => ?_)
    · have hf := el hf c4
      refine lv_lconst (v := (0 : Int64)) hx hb dX5_mean_21 (by decide) ?_
      refine lv_lstore_n (lv' := [(2, .long (0 : Int64)), (0, .ref (B 0)), (1, .int x1)]) hx hb dX5_mean_22 rfl hl (by decide) rfl (fun ls hl => ?_)
      refine lv_iconst (v := (0 : Int32)) hx hb dX5_mean_23 (by decide) ?_
      refine lv_istore (lv' := [(4, .int (0 : Int32)), (2, .long (0 : Int64)), (0, .ref (B 0)), (1, .int x1)]) hx hb dX5_mean_24 hl (by decide) rfl (fun ls hl => ?_)
      exact tX5_mean_26 C0 hP fu _ _ _ _ (lv_sub hl [2, 3, 1, 0] rfl) hf
    · have hf := th hf c4
      exact tX5_mean_17 C0 hP (lv_sub hl [] rfl) hf
set_option maxHeartbeats 4000000 in
set_option maxRecDepth 100000 in
theorem tX5_mean {l : Launch} (E : EE) (B : Nat → Nat) {u : SM} {x1 : Int32} {out : Int64} (hf : fX5_mean x1 u = some out) : roL l yX5_mean wsX5_mean rmX5_mean E [.ref (B 0), .int x1] (fP E (cM E B u)) out := by
  refine Met.ofW (cc := cX5_mean) (maxL := 5) (ret := (some .long)) (by decide) rfl ?_
  intro p e s m args below meth c s₁ B0 hml hv
  obtain ⟨rfl, hP, hK⟩ := hv
  have C0 : cx wsX5_mean cX5_mean 5 (some .long) RX5 E p s m _ meth c := ⟨B0.exec, B0.bytes, B0.returns, hml, findClass_of_methodNamed B0.named, atoms_spec (ws := wsX5_mean) B0.pre, B0.notSynchronized, hK⟩
  have hl := lv_entry ([.ref (B 0), .int x1]) (n := 5) (Nat.le_of_ble_eq_true rfl)
  rw [lg_entry_eq]
  generalize (lg_sl ([.ref (B 0), .int x1]) ++ List.replicate (5 - (lg_sl ([.ref (B 0), .int x1])).length) Slot.unset).toArray = ls at hl ⊢
  exact tX5_mean_0 C0 hP hl hf
abbrev rmX5_passingDraws : Room := { frames := 3, cells := 0, slots := 0, locals := 73 }
set_option maxHeartbeats 4000000 in
set_option maxRecDepth 100000 in
theorem tX5_passingDraws_30 {p : Program} {l : Launch} {e : Env} {s : State} {m : MethodId} {args : Array Value} {below : List Frame} {meth : Method} {c : Code} {E : EE} {B : Nat → Nat} {u : SM} {out : Int64} {c4 : Int64 → Int32 → SM → Option (Int64)} (C0 : cx wsX5_passingDraws cX5_passingDraws 4 (some .long) RX5 E p s m args meth c) (hP : fP E (cM E B u) s.heap) (hc4 : ∀ (x1 : Int64) (x3 : Int32) (ls : Array Slot), lv_has ls 4 [(0, .ref (B 0)), (1, .long x1), (3, .int x3)] → c4 x1 x3 u = some out → W p l e rmX5_passingDraws s m args below meth c s.heap [] 0 0 (MQ below (vp_Sl (fun r => r = out)) args s 0 0 (fun _ => False)) (F0 m 4 ls [])) {x3 : Int32} {xs0 : Int64} {xs1 : Int64} {ls : Array Slot} (hl : lv_has ls 4 [(0, .ref (B 0)), (3, .int x3)]) (hf : fX5_passingDraws_30 c4 x3 xs0 xs1 u = some out) : W p l e rmX5_passingDraws s m args below meth c s.heap [] 0 0 (MQ below (vp_Sl (fun r => r = out)) args s 0 0 (fun _ => False)) (F0 m 30 ls [.long xs1, .long xs0]) := by
  obtain ⟨hx, hb, hr, hml, hown, hts, hlk, hK⟩ := id C0
  unfold fX5_passingDraws_30 at hf
  refine lv_ladd hx hb dX5_passingDraws_30 ?_
  refine lv_lstore_n (lv' := [(1, .long (xs0 + xs1)), (0, .ref (B 0)), (3, .int x3)]) hx hb dX5_passingDraws_31 rfl hl (by decide) rfl (fun ls hl => ?_)
  refine lv_iinc (v := (x3 + (1 : Int32))) (lv' := [(3, .int (x3 + (1 : Int32))), (1, .long (xs0 + xs1)), (0, .ref (B 0))]) hx hb dX5_passingDraws_32 hl (k := 2) rfl rfl (by decide) rfl (fun ls hl => ?_)
  refine lv_goto (tgt := 4) hx hb dX5_passingDraws_35 (by decide) ?_
  exact hc4 _ _ _ (lv_sub hl [2, 1, 0] rfl) hf
set_option maxHeartbeats 4000000 in
set_option maxRecDepth 100000 in
theorem tX5_passingDraws_4 {p : Program} {l : Launch} {e : Env} {s : State} {m : MethodId} {args : Array Value} {below : List Frame} {meth : Method} {c : Code} {E : EE} {B : Nat → Nat} {u : SM} {out : Int64} (C0 : cx wsX5_passingDraws cX5_passingDraws 4 (some .long) RX5 E p s m args meth c) (hP : fP E (cM E B u) s.heap) : ∀ (n : Nat) (x1 : Int64) (x3 : Int32) (ls : Array Slot), lv_has ls 4 [(0, .ref (B 0)), (1, .long x1), (3, .int x3)] → fX5_passingDraws_4 n x1 x3 u = some out → W p l e rmX5_passingDraws s m args below meth c s.heap [] 0 0 (MQ below (vp_Sl (fun r => r = out)) args s 0 0 (fun _ => False)) (F0 m 4 ls []) := by
  obtain ⟨hx, hb, hr, hml, hown, hts, hlk, hK⟩ := id C0
  intro n
  induction n with
  | zero =>
    intro x1 x3 ls hl hf
    cases (show none = some out from hf)
  | succ n ih =>
    intro x1 x3 ls hl hf
    rw [fX5_passingDraws_4] at hf
    refine lv_iload_n hx hb dX5_passingDraws_4 rfl (lv_at hl 2 rfl) ?_
    refine lv_aload_n hx hb dX5_passingDraws_5 rfl (lv_at hl 0 rfl) ?_
    obtain ⟨q1, h2, hf⟩ := bd hf
    refine k_roI (run_V (rest := [.int x3]) (n := 0) C0 (tX5_everybody E B h2) gX5_passingDraws_X5_everybody rfl rfl (by decide +kernel) (hP 0 _ rfl) rfl rfl hP hl.1 rfl rfl (Nat.le_of_ble_eq_true rfl) dX5_passingDraws_6) ?_
    refine lv_icmp_gt (tgt := 38) hx hb dX5_passingDraws_9 (by decide) (fun c3 => ?_) (fun c3 => ?_)
    · have hf := th hf c3
      refine lv_lload_n hx hb dX5_passingDraws_38 rfl (lv_at hl 1 rfl) ?_
      exact e_roL C0 hf dX5_passingDraws_39
    · have hf := el hf c3
      refine lv_lload_n hx hb dX5_passingDraws_12 rfl (lv_at hl 1 rfl) ?_
      refine lv_aload_n hx hb dX5_passingDraws_13 rfl (lv_at hl 0 rfl) ?_
      refine lv_iload_n hx hb dX5_passingDraws_14 rfl (lv_at hl 2 rfl) ?_
      obtain ⟨q4, h5, hf⟩ := bd hf
      refine k_roI (run_V (rest := [.long x1]) (n := 1) C0 (tX5_doesPass E B h5) gX5_passingDraws_X5_doesPass rfl rfl (by decide +kernel) (hP 0 _ rfl) rfl rfl hP hl.1 rfl rfl (Nat.le_of_ble_eq_true rfl) dX5_passingDraws_15) ?_
      refine lv_if_eq (tgt := 29) hx hb dX5_passingDraws_18 (by decide) (fun c6 => ?_) (fun c6 => ?_)
      · have hf := th hf c6
        refine lv_lconst (v := (0 : Int64)) hx hb dX5_passingDraws_29 (by decide) ?_
        exact tX5_passingDraws_30 C0 hP ih (lv_sub hl [0, 2] rfl) hf
      · have hf := el hf c6
        refine lv_aload_n hx hb dX5_passingDraws_21 rfl (lv_at hl 0 rfl) ?_
        refine lv_iload_n hx hb dX5_passingDraws_22 rfl (lv_at hl 2 rfl) ?_
        obtain ⟨q7, h8, hf⟩ := bd hf
        refine k_roL (run_V (rest := [.long x1]) (n := 1) C0 (tX5_drawsOf E B h8) gX5_passingDraws_X5_drawsOf rfl rfl (by decide +kernel) (hP 0 _ rfl) rfl rfl hP hl.1 rfl rfl (Nat.le_of_ble_eq_true rfl) dX5_passingDraws_23) ?_
        refine lv_goto (tgt := 30) hx hb dX5_passingDraws_26 (by decide) ?_
        exact tX5_passingDraws_30 C0 hP ih (lv_sub hl [0, 2] rfl) hf
set_option maxHeartbeats 4000000 in
set_option maxRecDepth 100000 in
theorem tX5_passingDraws_0 {p : Program} {l : Launch} {e : Env} {s : State} {m : MethodId} {args : Array Value} {below : List Frame} {meth : Method} {c : Code} {E : EE} {B : Nat → Nat} {u : SM} {out : Int64} (C0 : cx wsX5_passingDraws cX5_passingDraws 4 (some .long) RX5 E p s m args meth c) (hP : fP E (cM E B u) s.heap) {ls : Array Slot} (hl : lv_has ls 4 [(0, .ref (B 0))]) (hf : fX5_passingDraws u = some out) : W p l e rmX5_passingDraws s m args below meth c s.heap [] 0 0 (MQ below (vp_Sl (fun r => r = out)) args s 0 0 (fun _ => False)) (F0 m 0 ls []) := by
  obtain ⟨hx, hb, hr, hml, hown, hts, hlk, hK⟩ := id C0
  unfold fX5_passingDraws at hf
  refine lv_lconst (v := (0 : Int64)) hx hb dX5_passingDraws_0 (by decide) ?_
  refine lv_lstore_n (lv' := [(1, .long (0 : Int64)), (0, .ref (B 0))]) hx hb dX5_passingDraws_1 rfl hl (by decide) rfl (fun ls hl => ?_)
  refine lv_iconst (v := (0 : Int32)) hx hb dX5_passingDraws_2 (by decide) ?_
  refine lv_istore_n (lv' := [(3, .int (0 : Int32)), (1, .long (0 : Int64)), (0, .ref (B 0))]) hx hb dX5_passingDraws_3 rfl hl (by decide) rfl (fun ls hl => ?_)
  exact tX5_passingDraws_4 C0 hP fu _ _ _ (lv_sub hl [2, 1, 0] rfl) hf
set_option maxHeartbeats 4000000 in
set_option maxRecDepth 100000 in
theorem tX5_passingDraws {l : Launch} (E : EE) (B : Nat → Nat) {u : SM} {out : Int64} (hf : fX5_passingDraws u = some out) : roL l yX5_passingDraws wsX5_passingDraws rmX5_passingDraws E [.ref (B 0)] (fP E (cM E B u)) out := by
  refine Met.ofW (cc := cX5_passingDraws) (maxL := 4) (ret := (some .long)) (by decide) rfl ?_
  intro p e s m args below meth c s₁ B0 hml hv
  obtain ⟨rfl, hP, hK⟩ := hv
  have C0 : cx wsX5_passingDraws cX5_passingDraws 4 (some .long) RX5 E p s m _ meth c := ⟨B0.exec, B0.bytes, B0.returns, hml, findClass_of_methodNamed B0.named, atoms_spec (ws := wsX5_passingDraws) B0.pre, B0.notSynchronized, hK⟩
  have hl := lv_entry ([.ref (B 0)]) (n := 4) (Nat.le_of_ble_eq_true rfl)
  rw [lg_entry_eq]
  generalize (lg_sl ([.ref (B 0)]) ++ List.replicate (4 - (lg_sl ([.ref (B 0)])).length) Slot.unset).toArray = ls at hl ⊢
  exact tX5_passingDraws_0 C0 hP hl hf
abbrev rmX5_passes : Room := { frames := 4, cells := 0, slots := 0, locals := 96 }
set_option maxRecDepth 20000 in
theorem iX5_passes_X5 : ∀ w ∈ wsX50, w ∈ wsX5_passes := by decide +kernel
set_option maxHeartbeats 4000000 in
set_option maxRecDepth 100000 in
theorem tX5_passes_17 {p : Program} {l : Launch} {e : Env} {s : State} {m : MethodId} {args : Array Value} {below : List Frame} {meth : Method} {c : Code} {E : EE} {B : Nat → Nat} {u : SM} {out : Int64} (C0 : cx wsX5_passes cX5_passes 2 (some .long) RX5 E p s m args meth c) (hP : fP E (cM E B u) s.heap) {ls : Array Slot} (hl : lv_has ls 2 []) (hf : fX5_passes_17 u = some out) : W p l e rmX5_passes s m args below meth c s.heap [] 0 0 (MQ below (vp_Sl (fun r => r = out)) args s 0 0 (fun _ => False)) (F0 m 17 ls []) := by
  obtain ⟨hx, hb, hr, hml, hown, hts, hlk, hK⟩ := id C0
  unfold fX5_passes_17 at hf
  obtain ⟨q1, h2, hf⟩ := bd hf
  refine k_roL (run_S (rest := []) (n := 0) (PH := fun _ => True) C0 (tX5_lost E h2) gX5_passes_X5_lost rfl rfl (by decide +kernel) trivial hl.1 rfl rfl (Nat.le_of_ble_eq_true rfl) dX5_passes_17) ?_
  refine lv_goto (tgt := 35) hx hb dX5_passes_20 (by decide) ?_
  exact e_roL C0 hf dX5_passes_35
set_option maxHeartbeats 4000000 in
set_option maxRecDepth 100000 in
theorem tX5_passes_0 {p : Program} {l : Launch} {e : Env} {s : State} {m : MethodId} {args : Array Value} {below : List Frame} {meth : Method} {c : Code} {E : EE} {B : Nat → Nat} {u : SM} {out : Int64} (C0 : cx wsX5_passes cX5_passes 2 (some .long) RX5 E p s m args meth c) (hP : fP E (cM E B u) s.heap) {x1 : Int32} {ls : Array Slot} (hl : lv_has ls 2 [(0, .ref (B 0)), (1, .int x1)]) (hf : fX5_passes x1 u = some out) : W p l e rmX5_passes s m args below meth c s.heap [] 0 0 (MQ below (vp_Sl (fun r => r = out)) args s 0 0 (fun _ => False)) (F0 m 0 ls []) := by
  obtain ⟨hx, hb, hr, hml, hown, hts, hlk, hK⟩ := id C0
  unfold fX5_passes at hf
  refine lv_aload_n hx hb dX5_passes_0 rfl (lv_at hl 0 rfl) ?_
  refine m_get C0 hP iX5_passes_X5 3 (by decide) (by decide +kernel) rfl dX5_passes_1 ?_
  refine lv_if_eq (tgt := 17) hx hb dX5_passes_4 (by decide) (fun c1 => ?_) (fun c1 => ?_)
  · have hf := th hf c1
    exact tX5_passes_17 C0 hP (lv_sub hl [] rfl) hf
  · have hf := el hf c1
    refine lv_iload_n hx hb dX5_passes_7 rfl (lv_at hl 1 rfl) ?_
    refine lv_i2l (v := x1.toInt64) hx hb dX5_passes_8 rfl ?_
    refine lv_lconst (v := (0 : Int64)) hx hb dX5_passes_9 (by decide) ?_
    refine lv_lconst (v := (1 : Int64)) hx hb dX5_passes_10 (by decide) ?_
    obtain ⟨q2, h3, hf⟩ := bd hf
    refine k_roI (run_S (rest := []) (n := 3) (PH := fun _ => True) C0 (tX5_in E h3) gX5_passes_X5_in rfl rfl (by decide +kernel) trivial hl.1 rfl rfl (Nat.le_of_ble_eq_true rfl) dX5_passes_11) ?_
    refine lv_if_ne (tgt := 23) hx hb dX5_passes_14 (by decide) (fun c4 => ?_) (fun c4 => ?_)
    · have hf := el hf c4
      refine lv_aload_n hx hb dX5_passes_23 rfl (lv_at hl 0 rfl) ?_
      obtain ⟨q5, h6, hf⟩ := bd hf
      refine k_roL (run_V (rest := []) (n := 0) C0 (tX5_passingDraws E B h6) gX5_passes_X5_passingDraws rfl rfl (by decide +kernel) (hP 0 _ rfl) rfl rfl hP hl.1 rfl rfl (Nat.le_of_ble_eq_true rfl) dX5_passes_24) ?_
      refine lv_aload_n hx hb dX5_passes_27 rfl (lv_at hl 0 rfl) ?_
      obtain ⟨q7, h8, hf⟩ := bd hf
      refine k_roL (run_V (rest := [.long q5]) (n := 0) C0 (tX5_allDraws E B h8) gX5_passes_X5_allDraws rfl rfl (by decide +kernel) (hP 0 _ rfl) rfl rfl hP hl.1 rfl rfl (Nat.le_of_ble_eq_true rfl) dX5_passes_28) ?_
      refine lv_iload_n hx hb dX5_passes_31 rfl (lv_at hl 1 rfl) ?_
      obtain ⟨q9, h10, hf⟩ := bd hf
      refine k_roL (run_S (rest := []) (n := 3) (PH := fun _ => True) C0 (tX5_share E h10) gX5_passes_X5_share rfl rfl (by decide +kernel) trivial hl.1 rfl rfl (Nat.le_of_ble_eq_true rfl) dX5_passes_32) ?_
      exact e_roL C0 hf dX5_passes_35
    · have hf := th hf c4
      exact tX5_passes_17 C0 hP (lv_sub hl [] rfl) hf
set_option maxHeartbeats 4000000 in
set_option maxRecDepth 100000 in
theorem tX5_passes {l : Launch} (E : EE) (B : Nat → Nat) {u : SM} {x1 : Int32} {out : Int64} (hf : fX5_passes x1 u = some out) : roL l yX5_passes wsX5_passes rmX5_passes E [.ref (B 0), .int x1] (fP E (cM E B u)) out := by
  refine Met.ofW (cc := cX5_passes) (maxL := 2) (ret := (some .long)) (by decide) rfl ?_
  intro p e s m args below meth c s₁ B0 hml hv
  obtain ⟨rfl, hP, hK⟩ := hv
  have C0 : cx wsX5_passes cX5_passes 2 (some .long) RX5 E p s m _ meth c := ⟨B0.exec, B0.bytes, B0.returns, hml, findClass_of_methodNamed B0.named, atoms_spec (ws := wsX5_passes) B0.pre, B0.notSynchronized, hK⟩
  have hl := lv_entry ([.ref (B 0), .int x1]) (n := 2) (Nat.le_of_ble_eq_true rfl)
  rw [lg_entry_eq]
  generalize (lg_sl ([.ref (B 0), .int x1]) ++ List.replicate (2 - (lg_sl ([.ref (B 0), .int x1])).length) Slot.unset).toArray = ls at hl ⊢
  exact tX5_passes_0 C0 hP hl hf
abbrev rmX5_buy : Room := { frames := 2, cells := 0, slots := 0, locals := 46 }
set_option maxRecDepth 20000 in
theorem iX5_buy_X5 : ∀ w ∈ wsX50, w ∈ wsX5_buy := by decide +kernel
set_option maxHeartbeats 4000000 in
set_option maxRecDepth 100000 in
theorem tX5_buy_34 {p : Program} {l : Launch} {e : Env} {s : State} {m : MethodId} {args : Array Value} {below : List Frame} {meth : Method} {c : Code} {E : EE} {B : Nat → Nat} {u : SM} {out : Int32} (C0 : cx wsX5_buy cX5_buy 10 (some .int) RX5 E p s m args meth c) (hP : fP E (cM E B u) s.heap) {ls : Array Slot} (hl : lv_has ls 10 []) (hf : fX5_buy_34 u = some out) : W p l e rmX5_buy s m args below meth c s.heap [] 0 0 (MQ below (vp_Si (fun r => r = out)) args s 0 0 (fun _ => False)) (F0 m 34 ls []) := by
  obtain ⟨hx, hb, hr, hml, hown, hts, hlk, hK⟩ := id C0
  unfold fX5_buy_34 at hf
  refine lv_bipush (v := (-2 : Int32)) hx hb dX5_buy_34 (by decide) ?_
  exact e_roI C0 hf dX5_buy_36
set_option maxHeartbeats 4000000 in
set_option maxRecDepth 100000 in
theorem tX5_buy_140 {p : Program} {l : Launch} {e : Env} {s : State} {m : MethodId} {args : Array Value} {below : List Frame} {meth : Method} {c : Code} {E : EE} {B : Nat → Nat} {u : SM} {out : Int32} (C0 : cx wsX5_buy cX5_buy 10 (some .int) RX5 E p s m args meth c) (hP : fP E (cM E B u) s.heap) {ls : Array Slot} (hl : lv_has ls 10 []) (hf : fX5_buy_140 u = some out) : W p l e rmX5_buy s m args below meth c s.heap [] 0 0 (MQ below (vp_Si (fun r => r = out)) args s 0 0 (fun _ => False)) (F0 m 140 ls []) := by
  obtain ⟨hx, hb, hr, hml, hown, hts, hlk, hK⟩ := id C0
  unfold fX5_buy_140 at hf
  refine lv_bipush (v := (-9 : Int32)) hx hb dX5_buy_140 (by decide) ?_
  exact e_roI C0 hf dX5_buy_142
set_option maxHeartbeats 4000000 in
set_option maxRecDepth 100000 in
theorem tX5_buy_50 {p : Program} {l : Launch} {e : Env} {s : State} {m : MethodId} {args : Array Value} {below : List Frame} {meth : Method} {c : Code} {E : EE} {B : Nat → Nat} {u : SM} {out : Int32} (C0 : cx wsX5_buy cX5_buy 10 (some .int) RX5 E p s m args meth c) (hP : fP E (cM E B u) s.heap) : ∀ (n : Nat) (x1 : Int32) (x2 : Int32) (x3 : Int32) (x4 : Int32) (x5 : Int32) (ls : Array Slot), lv_has ls 10 [(0, .ref (B 0)), (1, .int x1), (2, .int x2), (3, .int x3), (4, .int x4), (5, .int x5)] → fX5_buy_50 n x1 x2 x3 x4 x5 u = some out → W p l e rmX5_buy s m args below meth c s.heap [] 0 0 (MQ below (vp_Si (fun r => r = out)) args s 0 0 (fun _ => False)) (F0 m 50 ls []) := by
  obtain ⟨hx, hb, hr, hml, hown, hts, hlk, hK⟩ := id C0
  intro n
  induction n with
  | zero =>
    intro x1 x2 x3 x4 x5 ls hl hf
    cases (show none = some out from hf)
  | succ n ih =>
    intro x1 x2 x3 x4 x5 ls hl hf
    rw [fX5_buy_50] at hf
    refine lv_iload hx hb dX5_buy_50 (lv_at hl 5 rfl) ?_
    refine lv_bipush (v := (20 : Int32)) hx hb dX5_buy_52 (by decide) ?_
    refine lv_icmp_gt (tgt := 140) hx hb dX5_buy_54 (by decide) (fun c1 => ?_) (fun c1 => ?_)
    · have hf := th hf c1
      exact tX5_buy_140 C0 hP (lv_sub hl [] rfl) hf
    · have hf := el hf c1
      refine lv_iload hx hb dX5_buy_57 (lv_at hl 5 rfl) ?_
      refine lv_aload_n hx hb dX5_buy_59 rfl (lv_at hl 0 rfl) ?_
      refine m_get C0 hP iX5_buy_X5 2 (by decide) (by decide +kernel) rfl dX5_buy_60 ?_
      refine lv_imul hx hb dX5_buy_63 ?_
      refine lv_aload_n hx hb dX5_buy_64 rfl (lv_at hl 0 rfl) ?_
      refine m_get C0 hP iX5_buy_X5 6 (by decide) (by decide +kernel) rfl dX5_buy_65 ?_
      refine lv_iload_n hx hb dX5_buy_68 rfl (lv_at hl 1 rfl) ?_
      obtain ⟨h2, hf⟩ := gd hf
      refine m_ald C0 hP 3 6 rfl h2 dX5_buy_69 ?_
      refine lv_icmp_gt (tgt := 140) hx hb dX5_buy_70 (by decide) (fun c3 => ?_) (fun c3 => ?_)
      · have hf := th hf c3
        exact tX5_buy_140 C0 hP (lv_sub hl [] rfl) hf
      · have hf := el hf c3
        refine lv_iload hx hb dX5_buy_73 (lv_at hl 4 rfl) ?_
        refine lv_iload hx hb dX5_buy_75 (lv_at hl 5 rfl) ?_
        refine lv_iadd hx hb dX5_buy_77 ?_
        refine lv_aload_n hx hb dX5_buy_78 rfl (lv_at hl 0 rfl) ?_
        refine lv_iload hx hb dX5_buy_79 (lv_at hl 4 rfl) ?_
        refine lv_iload hx hb dX5_buy_81 (lv_at hl 5 rfl) ?_
        refine lv_iadd hx hb dX5_buy_83 ?_
        obtain ⟨q4, h5, hf⟩ := bd hf
        refine k_roI (run_V (rest := [.int (x4 + x5)]) (n := 1) C0 (tX5_drawnOf E B h5) gX5_buy_X5_drawnOf rfl rfl (by decide +kernel) (hP 0 _ rfl) rfl rfl hP hl.1 rfl rfl (Nat.le_of_ble_eq_true rfl) dX5_buy_84) ?_
        obtain ⟨q6, h7, hf⟩ := bd hf
        refine k_roL (run_S (rest := []) (n := 2) (PH := fun _ => True) C0 (tX5_waysOf E h7) gX5_buy_X5_waysOf rfl rfl (by decide +kernel) trivial hl.1 rfl rfl (Nat.le_of_ble_eq_true rfl) dX5_buy_87) ?_
        refine lv_lstore (lv' := [(6, .long q6), (0, .ref (B 0)), (1, .int x1), (2, .int x2), (3, .int x3), (4, .int x4), (5, .int x5)]) hx hb dX5_buy_90 hl (by decide) rfl (fun ls hl => ?_)
        refine lv_lload hx hb dX5_buy_92 (lv_at hl 0 rfl) ?_
        refine lv_iload hx hb dX5_buy_94 (lv_at hl 5 rfl) ?_
        refine lv_aload_n hx hb dX5_buy_96 rfl (lv_at hl 1 rfl) ?_
        refine lv_iload_n hx hb dX5_buy_97 rfl (lv_at hl 2 rfl) ?_
        obtain ⟨q8, h9, hf⟩ := bd hf
        refine k_roI (run_V (rest := [.int x4, .long q6]) (n := 1) C0 (tX5_slipsOf E B h9) gX5_buy_X5_slipsOf rfl rfl (by decide +kernel) (hP 0 _ rfl) rfl rfl hP hl.1 rfl rfl (Nat.le_of_ble_eq_true rfl) dX5_buy_98) ?_
        refine lv_isub hx hb dX5_buy_101 ?_
        refine lv_aload_n hx hb dX5_buy_102 rfl (lv_at hl 1 rfl) ?_
        refine lv_iload hx hb dX5_buy_103 (lv_at hl 5 rfl) ?_
        refine lv_iload hx hb dX5_buy_105 (lv_at hl 6 rfl) ?_
        refine lv_iadd hx hb dX5_buy_107 ?_
        obtain ⟨q10, h11, hf⟩ := bd hf
        refine k_roI (run_V (rest := [.int (x4 - q8), .long q6]) (n := 1) C0 (tX5_drawnOf E B h11) gX5_buy_X5_drawnOf rfl rfl (by decide +kernel) (hP 0 _ rfl) rfl rfl hP hl.1 rfl rfl (Nat.le_of_ble_eq_true rfl) dX5_buy_108) ?_
        obtain ⟨q12, h13, hf⟩ := bd hf
        refine k_roL (run_S (rest := [.long q6]) (n := 2) (PH := fun _ => True) C0 (tX5_waysOf E h13) gX5_buy_X5_waysOf rfl rfl (by decide +kernel) trivial hl.1 rfl rfl (Nat.le_of_ble_eq_true rfl) dX5_buy_111) ?_
        refine lv_lsub hx hb dX5_buy_114 ?_
        refine lv_lstore (lv' := [(8, .long (q6 - q12)), (6, .long q6), (0, .ref (B 0)), (1, .int x1), (2, .int x2), (3, .int x3), (4, .int x4), (5, .int x5)]) hx hb dX5_buy_115 hl (by decide) rfl (fun ls hl => ?_)
        refine lv_lload hx hb dX5_buy_117 (lv_at hl 0 rfl) ?_
        refine lv_iload_n hx hb dX5_buy_119 rfl (lv_at hl 5 rfl) ?_
        refine lv_i2l (v := x3.toInt64) hx hb dX5_buy_120 rfl ?_
        refine lv_lmul hx hb dX5_buy_121 ?_
        refine lv_lload hx hb dX5_buy_122 (lv_at hl 1 rfl) ?_
        refine lv_iload_n hx hb dX5_buy_124 rfl (lv_at hl 4 rfl) ?_
        refine lv_i2l (v := x2.toInt64) hx hb dX5_buy_125 rfl ?_
        refine lv_lmul hx hb dX5_buy_126 ?_
        refine W.lcmp hx hb dX5_buy_127 ?_
        refine lv_if_lt (tgt := 134) hx hb dX5_buy_128 (by decide) (fun c14 => ?_) (fun c14 => ?_)
        · have hf := th hf c14
          refine lv_iinc (v := (x5 + (1 : Int32))) (lv' := [(5, .int (x5 + (1 : Int32))), (8, .long (q6 - q12)), (6, .long q6), (0, .ref (B 0)), (1, .int x1), (2, .int x2), (3, .int x3), (4, .int x4)]) hx hb dX5_buy_134 hl (k := 7) rfl rfl (by decide) rfl (fun ls hl => ?_)
          refine lv_goto (tgt := 50) hx hb dX5_buy_137 (by decide) ?_
          exact ih _ _ _ _ _ _ (lv_sub hl [3, 4, 5, 6, 7, 0] rfl) hf
        · have hf := el hf c14
          refine lv_iload hx hb dX5_buy_131 (lv_at hl 7 rfl) ?_
          exact e_roI C0 hf dX5_buy_133
set_option maxHeartbeats 4000000 in
set_option maxRecDepth 100000 in
theorem tX5_buy_0 {p : Program} {l : Launch} {e : Env} {s : State} {m : MethodId} {args : Array Value} {below : List Frame} {meth : Method} {c : Code} {E : EE} {B : Nat → Nat} {u : SM} {out : Int32} (C0 : cx wsX5_buy cX5_buy 10 (some .int) RX5 E p s m args meth c) (hP : fP E (cM E B u) s.heap) {x1 : Int32} {x2 : Int32} {x3 : Int32} {ls : Array Slot} (hl : lv_has ls 10 [(0, .ref (B 0)), (1, .int x1), (2, .int x2), (3, .int x3)]) (hf : fX5_buy x1 x2 x3 u = some out) : W p l e rmX5_buy s m args below meth c s.heap [] 0 0 (MQ below (vp_Si (fun r => r = out)) args s 0 0 (fun _ => False)) (F0 m 0 ls []) := by
  obtain ⟨hx, hb, hr, hml, hown, hts, hlk, hK⟩ := id C0
  unfold fX5_buy at hf
  refine lv_aload_n hx hb dX5_buy_0 rfl (lv_at hl 0 rfl) ?_
  refine lv_iload_n hx hb dX5_buy_1 rfl (lv_at hl 1 rfl) ?_
  obtain ⟨q1, h2, hf⟩ := bd hf
  refine k_roI (run_V (rest := []) (n := 1) C0 (tX5_noCitizen E B h2) gX5_buy_X5_noCitizen rfl rfl (by decide +kernel) (hP 0 _ rfl) rfl rfl hP hl.1 rfl rfl (Nat.le_of_ble_eq_true rfl) dX5_buy_2) ?_
  refine lv_if_eq (tgt := 10) hx hb dX5_buy_5 (by decide) (fun c3 => ?_) (fun c3 => ?_)
  · have hf := th hf c3
    refine lv_iload_n hx hb dX5_buy_10 rfl (lv_at hl 2 rfl) ?_
    refine lv_i2l (v := x2.toInt64) hx hb dX5_buy_11 rfl ?_
    refine lv_lconst (v := (0 : Int64)) hx hb dX5_buy_12 (by decide) ?_
    refine lv_ldc2 hx hb hown (hts (.constantLong RX5 184 (999)) (by decide +kernel)) dX5_buy_13 ?_
    obtain ⟨q4, h5, hf⟩ := bd hf
    refine k_roI (run_S (rest := []) (n := 3) (PH := fun _ => True) C0 (tX5_in E h5) gX5_buy_X5_in rfl rfl (by decide +kernel) trivial hl.1 rfl rfl (Nat.le_of_ble_eq_true rfl) dX5_buy_16) ?_
    refine lv_if_eq (tgt := 34) hx hb dX5_buy_19 (by decide) (fun c6 => ?_) (fun c6 => ?_)
    · have hf := th hf c6
      exact tX5_buy_34 C0 hP (lv_sub hl [] rfl) hf
    · have hf := el hf c6
      refine lv_iload_n hx hb dX5_buy_22 rfl (lv_at hl 3 rfl) ?_
      refine lv_i2l (v := x3.toInt64) hx hb dX5_buy_23 rfl ?_
      refine lv_lconst (v := (1 : Int64)) hx hb dX5_buy_24 (by decide) ?_
      refine lv_ldc2 hx hb hown (hts (.constantLong RX5 184 (999)) (by decide +kernel)) dX5_buy_25 ?_
      obtain ⟨q7, h8, hf⟩ := bd hf
      refine k_roI (run_S (rest := []) (n := 3) (PH := fun _ => True) C0 (tX5_in E h8) gX5_buy_X5_in rfl rfl (by decide +kernel) trivial hl.1 rfl rfl (Nat.le_of_ble_eq_true rfl) dX5_buy_28) ?_
      refine lv_if_ne (tgt := 37) hx hb dX5_buy_31 (by decide) (fun c9 => ?_) (fun c9 => ?_)
      · have hf := el hf c9
        refine lv_aload_n hx hb dX5_buy_37 rfl (lv_at hl 0 rfl) ?_
        refine lv_aload_n hx hb dX5_buy_38 rfl (lv_at hl 0 rfl) ?_
        obtain ⟨q10, h11, hf⟩ := bd hf
        refine k_roI (run_V (rest := [.ref (B 0)]) (n := 0) C0 (tX5_everybody E B h11) gX5_buy_X5_everybody rfl rfl (by decide +kernel) (hP 0 _ rfl) rfl rfl hP hl.1 rfl rfl (Nat.le_of_ble_eq_true rfl) dX5_buy_39) ?_
        obtain ⟨q12, h13, hf⟩ := bd hf
        refine k_roI (run_V (rest := []) (n := 1) C0 (tX5_slipsOfAll E B h13) gX5_buy_X5_slipsOfAll rfl rfl (by decide +kernel) (hP 0 _ rfl) rfl rfl hP hl.1 rfl rfl (Nat.le_of_ble_eq_true rfl) dX5_buy_42) ?_
        refine lv_istore (lv' := [(4, .int q12), (0, .ref (B 0)), (1, .int x1), (2, .int x2), (3, .int x3)]) hx hb dX5_buy_45 hl (by decide) rfl (fun ls hl => ?_)
        refine lv_iconst (v := (0 : Int32)) hx hb dX5_buy_47 (by decide) ?_
        refine lv_istore (lv' := [(5, .int (0 : Int32)), (4, .int q12), (0, .ref (B 0)), (1, .int x1), (2, .int x2), (3, .int x3)]) hx hb dX5_buy_48 hl (by decide) rfl (fun ls hl => ?_)
        exact tX5_buy_50 C0 hP fu _ _ _ _ _ _ (lv_sub hl [2, 3, 4, 5, 1, 0] rfl) hf
      · have hf := th hf c9
        exact tX5_buy_34 C0 hP (lv_sub hl [] rfl) hf
  · have hf := el hf c3
    refine lv_iconst (v := (-1 : Int32)) hx hb dX5_buy_8 (by decide) ?_
    exact e_roI C0 hf dX5_buy_9
set_option maxHeartbeats 4000000 in
set_option maxRecDepth 100000 in
theorem tX5_buy {l : Launch} (E : EE) (B : Nat → Nat) {u : SM} {x1 : Int32} {x2 : Int32} {x3 : Int32} {out : Int32} (hf : fX5_buy x1 x2 x3 u = some out) : roI l yX5_buy wsX5_buy rmX5_buy E [.ref (B 0), .int x1, .int x2, .int x3] (fP E (cM E B u)) out := by
  refine Met.ofW (cc := cX5_buy) (maxL := 10) (ret := (some .int)) (by decide) rfl ?_
  intro p e s m args below meth c s₁ B0 hml hv
  obtain ⟨rfl, hP, hK⟩ := hv
  have C0 : cx wsX5_buy cX5_buy 10 (some .int) RX5 E p s m _ meth c := ⟨B0.exec, B0.bytes, B0.returns, hml, findClass_of_methodNamed B0.named, atoms_spec (ws := wsX5_buy) B0.pre, B0.notSynchronized, hK⟩
  have hl := lv_entry ([.ref (B 0), .int x1, .int x2, .int x3]) (n := 10) (Nat.le_of_ble_eq_true rfl)
  rw [lg_entry_eq]
  generalize (lg_sl ([.ref (B 0), .int x1, .int x2, .int x3]) ++ List.replicate (10 - (lg_sl ([.ref (B 0), .int x1, .int x2, .int x3])).length) Slot.unset).toArray = ls at hl ⊢
  exact tX5_buy_0 C0 hP hl hf
abbrev rmX5_lend : Room := { frames := 4, cells := 0, slots := 0, locals := 96 }
set_option maxRecDepth 20000 in
theorem iX5_lend_X5 : ∀ w ∈ wsX50, w ∈ wsX5_lend := by decide +kernel
set_option maxHeartbeats 4000000 in
set_option maxRecDepth 100000 in
theorem tX5_lend_124 {p : Program} {l : Launch} {e : Env} {s : State} {m : MethodId} {args : Array Value} {below : List Frame} {meth : Method} {c : Code} {E : EE} {B : Nat → Nat} {out : Int32 × SM} {c51 : Int32 → Int64 → Int64 → Int32 → Int32 → SM → Option (Int32 × SM)} (C0 : cx wsX5_lend cX5_lend 12 (some .int) RX5 E p s m args meth c) (hc51 : ∀ (x1 : Int32) (x2 : Int64) (x4 : Int64) (x6 : Int32) (x7 : Int32) (u : SM) (H : Heap) (locs : List Loc) (ls : Array Slot) (_ : WM E B u s H locs), lv_has ls 12 [(0, .ref (B 0)), (1, .int x1), (2, .long x2), (4, .long x4), (6, .int x6), (7, .int x7)] → c51 x1 x2 x4 x6 x7 u = some out → W p l e rmX5_lend s m args below meth c H locs 0 0 (MQ below (va_Qi (fun r (_ : Unit) => r = out.1) (fun _ t => fP E (cM E B out.2) t.heap) (aM B)) args s 0 0 (aM B)) (F0 m 51 ls [])) {x1 : Int32} {x2 : Int64} {x4 : Int64} {x6 : Int32} {x7 : Int32} {u : SM} {H : Heap} {locs : List Loc} {ls : Array Slot} (hW : WM E B u s H locs) (hl : lv_has ls 12 [(0, .ref (B 0)), (1, .int x1), (2, .long x2), (4, .long x4), (6, .int x6), (7, .int x7)]) (hf : fX5_lend_124 c51 x1 x2 x4 x6 x7 u = some out) : W p l e rmX5_lend s m args below meth c H locs 0 0 (MQ below (va_Qi (fun r (_ : Unit) => r = out.1) (fun _ t => fP E (cM E B out.2) t.heap) (aM B)) args s 0 0 (aM B)) (F0 m 124 ls []) := by
  obtain ⟨hx, hb, hr, hml, hown, hts, hlk, hK⟩ := id C0
  unfold fX5_lend_124 at hf
  refine lv_iinc (v := (x7 + (1 : Int32))) (lv' := [(7, .int (x7 + (1 : Int32))), (0, .ref (B 0)), (1, .int x1), (2, .long x2), (4, .long x4), (6, .int x6)]) hx hb dX5_lend_124 hl (k := 5) rfl rfl (by decide) rfl (fun ls hl => ?_)
  refine lv_goto (tgt := 51) hx hb dX5_lend_127 (by decide) ?_
  exact hc51 _ _ _ _ _ _ _ _ _ hW (lv_sub hl [1, 2, 3, 4, 5, 0] rfl) hf
set_option maxHeartbeats 4000000 in
set_option maxRecDepth 100000 in
theorem tX5_lend_51 {p : Program} {l : Launch} {e : Env} {s : State} {m : MethodId} {args : Array Value} {below : List Frame} {meth : Method} {c : Code} {E : EE} {B : Nat → Nat} {out : Int32 × SM} (C0 : cx wsX5_lend cX5_lend 12 (some .int) RX5 E p s m args meth c) : ∀ (n : Nat) (x1 : Int32) (x2 : Int64) (x4 : Int64) (x6 : Int32) (x7 : Int32) (u : SM) (H : Heap) (locs : List Loc) (ls : Array Slot) (_ : WM E B u s H locs), lv_has ls 12 [(0, .ref (B 0)), (1, .int x1), (2, .long x2), (4, .long x4), (6, .int x6), (7, .int x7)] → fX5_lend_51 n x1 x2 x4 x6 x7 u = some out → W p l e rmX5_lend s m args below meth c H locs 0 0 (MQ below (va_Qi (fun r (_ : Unit) => r = out.1) (fun _ t => fP E (cM E B out.2) t.heap) (aM B)) args s 0 0 (aM B)) (F0 m 51 ls []) := by
  obtain ⟨hx, hb, hr, hml, hown, hts, hlk, hK⟩ := id C0
  intro n
  induction n with
  | zero =>
    intro x1 x2 x4 x6 x7 u H locs ls hW hl hf
    cases (show none = some out from hf)
  | succ n ih =>
    intro x1 x2 x4 x6 x7 u H locs ls hW hl hf
    rw [fX5_lend_51] at hf
    refine lv_iload hx hb dX5_lend_51 (lv_at hl 5 rfl) ?_
    refine lv_aload_n hx hb dX5_lend_53 rfl (lv_at hl 0 rfl) ?_
    refine m_get C0 hW.2.1 iX5_lend_X5 3 (by decide) (by decide +kernel) rfl dX5_lend_54 ?_
    refine lv_icmp_ge (tgt := 130) hx hb dX5_lend_57 (by decide) (fun c1 => ?_) (fun c1 => ?_)
    · have hf := th hf c1
      refine lv_aload_n hx hb dX5_lend_130 rfl (lv_at hl 0 rfl) ?_
      refine m_get C0 hW.2.1 iX5_lend_X5 5 (by decide) (by decide +kernel) rfl dX5_lend_131 ?_
      refine lv_iload_n hx hb dX5_lend_134 rfl (lv_at hl 1 rfl) ?_
      refine lv_dup2_11 hx hb dX5_lend_135 rfl rfl ?_
      obtain ⟨h2, hf⟩ := gd hf
      refine m_ald C0 hW.2.1 2 6 rfl h2 dX5_lend_136 ?_
      refine lv_iconst (v := (1 : Int32)) hx hb dX5_lend_137 (by decide) ?_
      refine lv_iadd hx hb dX5_lend_138 ?_
      obtain ⟨h3, hf⟩ := gd hf
      refine m_ast C0 hW 2 6 (by decide) (by decide) rfl h3 dX5_lend_139 (fun H locs hW => ?_)
      have hW : WM E B (u.1, (va_up u.2 2 (upd (u.2 2) x1.toNatClampNeg ((u.2 2 x1.toNatClampNeg) + (1 : Int32))))) s H locs := hW
      refine lv_iload hx hb dX5_lend_140 (lv_at hl 4 rfl) ?_
      obtain rfl := Option.some.inj hf
      exact e_muI (QH := fP E (cM E B (u.1, (va_up u.2 2 (upd (u.2 2) x1.toNatClampNeg ((u.2 2 x1.toNatClampNeg) + (1 : Int32))))))) C0 hW.2.2 rfl hW.2.1 dX5_lend_142
    · have hf := el hf c1
      refine lv_iload hx hb dX5_lend_60 (lv_at hl 5 rfl) ?_
      refine lv_iload_n hx hb dX5_lend_62 rfl (lv_at hl 1 rfl) ?_
      refine lv_icmp_eq (tgt := 124) hx hb dX5_lend_63 (by decide) (fun c4 => ?_) (fun c4 => ?_)
      · have hf := th hf c4
        exact tX5_lend_124 C0 ih hW (lv_sub hl [0, 1, 2, 3, 4, 5] rfl) hf
      · have hf := el hf c4
        refine lv_aload_n hx hb dX5_lend_66 rfl (lv_at hl 0 rfl) ?_
        refine m_get C0 hW.2.1 iX5_lend_X5 5 (by decide) (by decide +kernel) rfl dX5_lend_67 ?_
        refine lv_iload hx hb dX5_lend_70 (lv_at hl 5 rfl) ?_
        refine lv_dup2_11 hx hb dX5_lend_72 rfl rfl ?_
        obtain ⟨h5, hf⟩ := gd hf
        refine m_ald C0 hW.2.1 2 6 rfl h5 dX5_lend_73 ?_
        refine lv_iconst (v := (1 : Int32)) hx hb dX5_lend_74 (by decide) ?_
        refine lv_iadd hx hb dX5_lend_75 ?_
        obtain ⟨h6, hf⟩ := gd hf
        refine m_ast C0 hW 2 6 (by decide) (by decide) rfl h6 dX5_lend_76 (fun H locs hW => ?_)
        have hW : WM E B (u.1, (va_up u.2 2 (upd (u.2 2) x7.toNatClampNeg ((u.2 2 x7.toNatClampNeg) + (1 : Int32))))) s H locs := hW
        refine lv_aload_n hx hb dX5_lend_77 rfl (lv_at hl 0 rfl) ?_
        obtain ⟨q7, h8, hf⟩ := bd hf
        refine k_roL (run_V (rest := []) (n := 0) C0 (tX5_passingDraws E B h8) gX5_lend_X5_passingDraws rfl rfl (by decide +kernel) (hW.2.1 0 _ rfl) rfl rfl hW.2.1 hl.1 rfl rfl (Nat.le_of_ble_eq_true rfl) dX5_lend_78) ?_
        refine lv_lstore (lv' := [(8, .long q7), (0, .ref (B 0)), (1, .int x1), (2, .long x2), (4, .long x4), (6, .int x6), (7, .int x7)]) hx hb dX5_lend_81 hl (by decide) rfl (fun ls hl => ?_)
        refine lv_aload_n hx hb dX5_lend_83 rfl (lv_at hl 1 rfl) ?_
        obtain ⟨q9, h10, hf⟩ := bd hf
        refine k_roL (run_V (rest := []) (n := 0) C0 (tX5_allDraws E B h10) gX5_lend_X5_allDraws rfl rfl (by decide +kernel) (hW.2.1 0 _ rfl) rfl rfl hW.2.1 hl.1 rfl rfl (Nat.le_of_ble_eq_true rfl) dX5_lend_84) ?_
        refine lv_lstore (lv' := [(10, .long q9), (8, .long q7), (0, .ref (B 0)), (1, .int x1), (2, .long x2), (4, .long x4), (6, .int x6), (7, .int x7)]) hx hb dX5_lend_87 hl (by decide) rfl (fun ls hl => ?_)
        refine lv_aload_n hx hb dX5_lend_89 rfl (lv_at hl 2 rfl) ?_
        refine m_get C0 hW.2.1 iX5_lend_X5 5 (by decide) (by decide +kernel) rfl dX5_lend_90 ?_
        refine lv_iload hx hb dX5_lend_93 (lv_at hl 7 rfl) ?_
        refine lv_dup2_11 hx hb dX5_lend_95 rfl rfl ?_
        obtain ⟨h11, hf⟩ := gd hf
        refine m_ald C0 hW.2.1 2 6 rfl h11 dX5_lend_96 ?_
        refine lv_iconst (v := (1 : Int32)) hx hb dX5_lend_97 (by decide) ?_
        refine lv_isub hx hb dX5_lend_98 ?_
        obtain ⟨h12, hf⟩ := gd hf
        refine m_ast C0 hW 2 6 (by decide) (by decide) rfl h12 dX5_lend_99 (fun H locs hW => ?_)
        have hW : WM E B (u.1, (va_up (va_up u.2 2 (upd (u.2 2) x7.toNatClampNeg ((u.2 2 x7.toNatClampNeg) + (1 : Int32)))) 2 (upd ((va_up u.2 2 (upd (u.2 2) x7.toNatClampNeg ((u.2 2 x7.toNatClampNeg) + (1 : Int32)))) 2) x7.toNatClampNeg (((va_up u.2 2 (upd (u.2 2) x7.toNatClampNeg ((u.2 2 x7.toNatClampNeg) + (1 : Int32)))) 2 x7.toNatClampNeg) - (1 : Int32))))) s H locs := hW
        refine lv_lload hx hb dX5_lend_100 (lv_at hl 1 rfl) ?_
        refine lv_lload hx hb dX5_lend_102 (lv_at hl 0 rfl) ?_
        refine lv_lload_n hx hb dX5_lend_104 rfl (lv_at hl 4 rfl) ?_
        refine lv_lload hx hb dX5_lend_105 (lv_at hl 5 rfl) ?_
        obtain ⟨q13, h14, hf⟩ := bd hf
        refine k_roI (run_S (rest := []) (n := 4) (PH := fun _ => True) C0 (tX5_isAbove E h14) gX5_lend_X5_isAbove rfl rfl (by decide +kernel) trivial hl.1 rfl rfl (Nat.le_of_ble_eq_true rfl) dX5_lend_107) ?_
        refine lv_if_eq (tgt := 124) hx hb dX5_lend_110 (by decide) (fun c15 => ?_) (fun c15 => ?_)
        · have hf := th hf c15
          exact tX5_lend_124 C0 ih hW (lv_sub hl [2, 3, 4, 5, 6, 7] rfl) hf
        · have hf := el hf c15
          refine lv_iload hx hb dX5_lend_113 (lv_at hl 7 rfl) ?_
          refine lv_istore (lv' := [(6, .int x7), (10, .long q9), (8, .long q7), (0, .ref (B 0)), (1, .int x1), (2, .long x2), (4, .long x4), (7, .int x7)]) hx hb dX5_lend_115 hl (by decide) rfl (fun ls hl => ?_)
          refine lv_lload hx hb dX5_lend_117 (lv_at hl 2 rfl) ?_
          refine lv_lstore_n (lv' := [(2, .long q7), (6, .int x7), (10, .long q9), (8, .long q7), (0, .ref (B 0)), (1, .int x1), (4, .long x4), (7, .int x7)]) hx hb dX5_lend_119 rfl hl (by decide) rfl (fun ls hl => ?_)
          refine lv_lload hx hb dX5_lend_120 (lv_at hl 2 rfl) ?_
          refine lv_lstore (lv' := [(4, .long q9), (2, .long q7), (6, .int x7), (10, .long q9), (8, .long q7), (0, .ref (B 0)), (1, .int x1), (7, .int x7)]) hx hb dX5_lend_122 hl (by decide) rfl (fun ls hl => ?_)
          exact tX5_lend_124 C0 ih hW (lv_sub hl [5, 6, 1, 0, 2, 7] rfl) hf
set_option maxHeartbeats 4000000 in
set_option maxRecDepth 100000 in
theorem tX5_lend_0 {p : Program} {l : Launch} {e : Env} {s : State} {m : MethodId} {args : Array Value} {below : List Frame} {meth : Method} {c : Code} {E : EE} {B : Nat → Nat} {out : Int32 × SM} (C0 : cx wsX5_lend cX5_lend 12 (some .int) RX5 E p s m args meth c) {x1 : Int32} {u : SM} {H : Heap} {locs : List Loc} {ls : Array Slot} (hW : WM E B u s H locs) (hl : lv_has ls 12 [(0, .ref (B 0)), (1, .int x1)]) (hf : fX5_lend x1 u = some out) : W p l e rmX5_lend s m args below meth c H locs 0 0 (MQ below (va_Qi (fun r (_ : Unit) => r = out.1) (fun _ t => fP E (cM E B out.2) t.heap) (aM B)) args s 0 0 (aM B)) (F0 m 0 ls []) := by
  obtain ⟨hx, hb, hr, hml, hown, hts, hlk, hK⟩ := id C0
  unfold fX5_lend at hf
  refine lv_aload_n hx hb dX5_lend_0 rfl (lv_at hl 0 rfl) ?_
  refine lv_iload_n hx hb dX5_lend_1 rfl (lv_at hl 1 rfl) ?_
  obtain ⟨q1, h2, hf⟩ := bd hf
  refine k_roI (run_V (rest := []) (n := 1) C0 (tX5_noCitizen E B h2) gX5_lend_X5_noCitizen rfl rfl (by decide +kernel) (hW.2.1 0 _ rfl) rfl rfl hW.2.1 hl.1 rfl rfl (Nat.le_of_ble_eq_true rfl) dX5_lend_2) ?_
  refine lv_if_eq (tgt := 10) hx hb dX5_lend_5 (by decide) (fun c3 => ?_) (fun c3 => ?_)
  · have hf := th hf c3
    refine lv_aload_n hx hb dX5_lend_10 rfl (lv_at hl 0 rfl) ?_
    refine m_get C0 hW.2.1 iX5_lend_X5 5 (by decide) (by decide +kernel) rfl dX5_lend_11 ?_
    refine lv_iload_n hx hb dX5_lend_14 rfl (lv_at hl 1 rfl) ?_
    obtain ⟨h4, hf⟩ := gd hf
    refine m_ald C0 hW.2.1 2 6 rfl h4 dX5_lend_15 ?_
    refine lv_iconst (v := (2 : Int32)) hx hb dX5_lend_16 (by decide) ?_
    refine lv_icmp_ge (tgt := 23) hx hb dX5_lend_17 (by decide) (fun c5 => ?_) (fun c5 => ?_)
    · have hf := th hf c5
      refine lv_aload_n hx hb dX5_lend_23 rfl (lv_at hl 0 rfl) ?_
      obtain ⟨q6, h7, hf⟩ := bd hf
      refine k_roL (run_V (rest := []) (n := 0) C0 (tX5_passingDraws E B h7) gX5_lend_X5_passingDraws rfl rfl (by decide +kernel) (hW.2.1 0 _ rfl) rfl rfl hW.2.1 hl.1 rfl rfl (Nat.le_of_ble_eq_true rfl) dX5_lend_24) ?_
      refine lv_lstore_n (lv' := [(2, .long q6), (0, .ref (B 0)), (1, .int x1)]) hx hb dX5_lend_27 rfl hl (by decide) rfl (fun ls hl => ?_)
      refine lv_aload_n hx hb dX5_lend_28 rfl (lv_at hl 1 rfl) ?_
      obtain ⟨q8, h9, hf⟩ := bd hf
      refine k_roL (run_V (rest := []) (n := 0) C0 (tX5_allDraws E B h9) gX5_lend_X5_allDraws rfl rfl (by decide +kernel) (hW.2.1 0 _ rfl) rfl rfl hW.2.1 hl.1 rfl rfl (Nat.le_of_ble_eq_true rfl) dX5_lend_29) ?_
      refine lv_lstore (lv' := [(4, .long q8), (2, .long q6), (0, .ref (B 0)), (1, .int x1)]) hx hb dX5_lend_32 hl (by decide) rfl (fun ls hl => ?_)
      refine lv_bipush (v := (-9 : Int32)) hx hb dX5_lend_34 (by decide) ?_
      refine lv_istore (lv' := [(6, .int (-9 : Int32)), (4, .long q8), (2, .long q6), (0, .ref (B 0)), (1, .int x1)]) hx hb dX5_lend_36 hl (by decide) rfl (fun ls hl => ?_)
      refine lv_aload_n hx hb dX5_lend_38 rfl (lv_at hl 3 rfl) ?_
      refine m_get C0 hW.2.1 iX5_lend_X5 5 (by decide) (by decide +kernel) rfl dX5_lend_39 ?_
      refine lv_iload_n hx hb dX5_lend_42 rfl (lv_at hl 4 rfl) ?_
      refine lv_dup2_11 hx hb dX5_lend_43 rfl rfl ?_
      obtain ⟨h10, hf⟩ := gd hf
      refine m_ald C0 hW.2.1 2 6 rfl h10 dX5_lend_44 ?_
      refine lv_iconst (v := (1 : Int32)) hx hb dX5_lend_45 (by decide) ?_
      refine lv_isub hx hb dX5_lend_46 ?_
      obtain ⟨h11, hf⟩ := gd hf
      refine m_ast C0 hW 2 6 (by decide) (by decide) rfl h11 dX5_lend_47 (fun H locs hW => ?_)
      have hW : WM E B (u.1, (va_up u.2 2 (upd (u.2 2) x1.toNatClampNeg ((u.2 2 x1.toNatClampNeg) - (1 : Int32))))) s H locs := hW
      refine lv_iconst (v := (0 : Int32)) hx hb dX5_lend_48 (by decide) ?_
      refine lv_istore (lv' := [(7, .int (0 : Int32)), (6, .int (-9 : Int32)), (4, .long q8), (2, .long q6), (0, .ref (B 0)), (1, .int x1)]) hx hb dX5_lend_49 hl (by decide) rfl (fun ls hl => ?_)
      exact tX5_lend_51 C0 fu _ _ _ _ _ _ _ _ _ hW (lv_sub hl [4, 5, 3, 2, 1, 0] rfl) hf
    · have hf := el hf c5
      refine lv_bipush (v := (-3 : Int32)) hx hb dX5_lend_20 (by decide) ?_
      obtain rfl := Option.some.inj hf
      exact e_muI (QH := fP E (cM E B u)) C0 hW.2.2 rfl hW.2.1 dX5_lend_22
  · have hf := el hf c3
    refine lv_iconst (v := (-1 : Int32)) hx hb dX5_lend_8 (by decide) ?_
    obtain rfl := Option.some.inj hf
    exact e_muI (QH := fP E (cM E B u)) C0 hW.2.2 rfl hW.2.1 dX5_lend_9
set_option maxHeartbeats 4000000 in
set_option maxRecDepth 100000 in
theorem tX5_lend {l : Launch} (E : EE) (B : Nat → Nat) {u : SM} {x1 : Int32} {out : Int32 × SM} (hB : iM B) (hf : fX5_lend x1 u = some out) : muI l yX5_lend wsX5_lend rmX5_lend E [.ref (B 0), .int x1] (aM B) (fP E (cM E B u)) (fP E (cM E B out.2)) out.1 := by
  refine Met.ofW (cc := cX5_lend) (maxL := 12) (ret := (some .int)) (by decide) rfl ?_
  intro p e s m args below meth c s₁ B0 hml hv
  obtain ⟨rfl, hP, hK⟩ := hv
  have C0 : cx wsX5_lend cX5_lend 12 (some .int) RX5 E p s m _ meth c := ⟨B0.exec, B0.bytes, B0.returns, hml, findClass_of_methodNamed B0.named, atoms_spec (ws := wsX5_lend) B0.pre, B0.notSynchronized, hK⟩
  have hl := lv_entry ([.ref (B 0), .int x1]) (n := 12) (Nat.le_of_ble_eq_true rfl)
  rw [lg_entry_eq]
  generalize (lg_sl ([.ref (B 0), .int x1]) ++ List.replicate (12 - (lg_sl ([.ref (B 0), .int x1])).length) Slot.unset).toArray = ls at hl ⊢
  exact tX5_lend_0 C0 ⟨hB, hP, va_S.rf⟩ hl hf
abbrev rmX5_isLikely : Room := { frames := 4, cells := 0, slots := 0, locals := 96 }
set_option maxHeartbeats 4000000 in
set_option maxRecDepth 100000 in
theorem tX5_isLikely_0 {p : Program} {l : Launch} {e : Env} {s : State} {m : MethodId} {args : Array Value} {below : List Frame} {meth : Method} {c : Code} {E : EE} {B : Nat → Nat} {u : SM} {out : Int32} (C0 : cx wsX5_isLikely cX5_isLikely 1 (some .boolean) RX5 E p s m args meth c) (hP : fP E (cM E B u) s.heap) {ls : Array Slot} (hl : lv_has ls 1 [(0, .ref (B 0))]) (hf : fX5_isLikely u = some out) : W p l e rmX5_isLikely s m args below meth c s.heap [] 0 0 (MQ below (vp_Si (fun r => r = out)) args s 0 0 (fun _ => False)) (F0 m 0 ls []) := by
  obtain ⟨hx, hb, hr, hml, hown, hts, hlk, hK⟩ := id C0
  unfold fX5_isLikely at hf
  refine lv_ldc2 hx hb hown (hts (.constantLong RX5 102 (2)) (by decide +kernel)) dX5_isLikely_0 ?_
  refine lv_aload_n hx hb dX5_isLikely_3 rfl (lv_at hl 0 rfl) ?_
  obtain ⟨q1, h2, hf⟩ := bd hf
  refine k_roL (run_V (rest := [.long (2 : Int64)]) (n := 0) C0 (tX5_passingDraws E B h2) gX5_isLikely_X5_passingDraws rfl rfl (by decide +kernel) (hP 0 _ rfl) rfl rfl hP hl.1 rfl rfl (Nat.le_of_ble_eq_true rfl) dX5_isLikely_4) ?_
  refine lv_lmul hx hb dX5_isLikely_7 ?_
  refine lv_aload_n hx hb dX5_isLikely_8 rfl (lv_at hl 0 rfl) ?_
  obtain ⟨q3, h4, hf⟩ := bd hf
  refine k_roL (run_V (rest := [.long ((2 : Int64) * q1)]) (n := 0) C0 (tX5_allDraws E B h4) gX5_isLikely_X5_allDraws rfl rfl (by decide +kernel) (hP 0 _ rfl) rfl rfl hP hl.1 rfl rfl (Nat.le_of_ble_eq_true rfl) dX5_isLikely_9) ?_
  refine W.lcmp hx hb dX5_isLikely_12 ?_
  refine lv_if_lt (tgt := 20) hx hb dX5_isLikely_13 (by decide) (fun c5 => ?_) (fun c5 => ?_)
  · have hf := th hf c5
    refine lv_iconst (v := (0 : Int32)) hx hb dX5_isLikely_20 (by decide) ?_
    exact e_roZ C0 hf dX5_isLikely_21
  · have hf := el hf c5
    refine lv_iconst (v := (1 : Int32)) hx hb dX5_isLikely_16 (by decide) ?_
    refine lv_goto (tgt := 21) hx hb dX5_isLikely_17 (by decide) ?_
    exact e_roZ C0 hf dX5_isLikely_21
set_option maxHeartbeats 4000000 in
set_option maxRecDepth 100000 in
theorem tX5_isLikely {l : Launch} (E : EE) (B : Nat → Nat) {u : SM} {out : Int32} (hf : fX5_isLikely u = some out) : roI l yX5_isLikely wsX5_isLikely rmX5_isLikely E [.ref (B 0)] (fP E (cM E B u)) out := by
  refine Met.ofW (cc := cX5_isLikely) (maxL := 1) (ret := (some .boolean)) (by decide) rfl ?_
  intro p e s m args below meth c s₁ B0 hml hv
  obtain ⟨rfl, hP, hK⟩ := hv
  have C0 : cx wsX5_isLikely cX5_isLikely 1 (some .boolean) RX5 E p s m _ meth c := ⟨B0.exec, B0.bytes, B0.returns, hml, findClass_of_methodNamed B0.named, atoms_spec (ws := wsX5_isLikely) B0.pre, B0.notSynchronized, hK⟩
  have hl := lv_entry ([.ref (B 0)]) (n := 1) (Nat.le_of_ble_eq_true rfl)
  rw [lg_entry_eq]
  generalize (lg_sl ([.ref (B 0)]) ++ List.replicate (1 - (lg_sl ([.ref (B 0)])).length) Slot.unset).toArray = ls at hl ⊢
  exact tX5_isLikely_0 C0 hP hl hf
abbrev rmX5_least : Room := { frames := 5, cells := 0, slots := 0, locals := 116 }
set_option maxRecDepth 20000 in
theorem iX5_least_X5 : ∀ w ∈ wsX50, w ∈ wsX5_least := by decide +kernel
set_option maxHeartbeats 4000000 in
set_option maxRecDepth 100000 in
theorem tX5_least_121 {p : Program} {l : Launch} {e : Env} {s : State} {m : MethodId} {args : Array Value} {below : List Frame} {meth : Method} {c : Code} {E : EE} {B : Nat → Nat} {out : Int32 × SM} {c56 : Int32 → Int32 → Int32 → Int32 → Int32 → SM → Option (Int32 × SM)} (C0 : cx wsX5_least cX5_least 7 (some .int) RX5 E p s m args meth c) (hc56 : ∀ (x1 : Int32) (x2 : Int32) (x3 : Int32) (x4 : Int32) (x5 : Int32) (u : SM) (H : Heap) (locs : List Loc) (ls : Array Slot) (_ : WM E B u s H locs), lv_has ls 7 [(0, .ref (B 0)), (1, .int x1), (2, .int x2), (3, .int x3), (4, .int x4), (5, .int x5)] → c56 x1 x2 x3 x4 x5 u = some out → W p l e rmX5_least s m args below meth c H locs 0 0 (MQ below (va_Qi (fun r (_ : Unit) => r = out.1) (fun _ t => fP E (cM E B out.2) t.heap) (aM B)) args s 0 0 (aM B)) (F0 m 56 ls [])) {x1 : Int32} {x2 : Int32} {x3 : Int32} {x4 : Int32} {x5 : Int32} {u : SM} {H : Heap} {locs : List Loc} {ls : Array Slot} (hW : WM E B u s H locs) (hl : lv_has ls 7 [(0, .ref (B 0)), (1, .int x1), (2, .int x2), (3, .int x3), (4, .int x4), (5, .int x5)]) (hf : fX5_least_121 c56 x1 x2 x3 x4 x5 u = some out) : W p l e rmX5_least s m args below meth c H locs 0 0 (MQ below (va_Qi (fun r (_ : Unit) => r = out.1) (fun _ t => fP E (cM E B out.2) t.heap) (aM B)) args s 0 0 (aM B)) (F0 m 121 ls []) := by
  obtain ⟨hx, hb, hr, hml, hown, hts, hlk, hK⟩ := id C0
  unfold fX5_least_121 at hf
  refine lv_iinc (v := (x5 + (1 : Int32))) (lv' := [(5, .int (x5 + (1 : Int32))), (0, .ref (B 0)), (1, .int x1), (2, .int x2), (3, .int x3), (4, .int x4)]) hx hb dX5_least_121 hl (k := 5) rfl rfl (by decide) rfl (fun ls hl => ?_)
  refine lv_goto (tgt := 56) hx hb dX5_least_124 (by decide) ?_
  exact hc56 _ _ _ _ _ _ _ _ _ hW (lv_sub hl [1, 2, 3, 4, 5, 0] rfl) hf
set_option maxHeartbeats 4000000 in
set_option maxRecDepth 100000 in
theorem tX5_least_114 {p : Program} {l : Launch} {e : Env} {s : State} {m : MethodId} {args : Array Value} {below : List Frame} {meth : Method} {c : Code} {E : EE} {B : Nat → Nat} {out : Int32 × SM} {c56 : Int32 → Int32 → Int32 → Int32 → Int32 → SM → Option (Int32 × SM)} (C0 : cx wsX5_least cX5_least 7 (some .int) RX5 E p s m args meth c) (hc56 : ∀ (x1 : Int32) (x2 : Int32) (x3 : Int32) (x4 : Int32) (x5 : Int32) (u : SM) (H : Heap) (locs : List Loc) (ls : Array Slot) (_ : WM E B u s H locs), lv_has ls 7 [(0, .ref (B 0)), (1, .int x1), (2, .int x2), (3, .int x3), (4, .int x4), (5, .int x5)] → c56 x1 x2 x3 x4 x5 u = some out → W p l e rmX5_least s m args below meth c H locs 0 0 (MQ below (va_Qi (fun r (_ : Unit) => r = out.1) (fun _ t => fP E (cM E B out.2) t.heap) (aM B)) args s 0 0 (aM B)) (F0 m 56 ls [])) {x1 : Int32} {x2 : Int32} {x5 : Int32} {x6 : Int32} {u : SM} {H : Heap} {locs : List Loc} {ls : Array Slot} (hW : WM E B u s H locs) (hl : lv_has ls 7 [(0, .ref (B 0)), (1, .int x1), (2, .int x2), (5, .int x5), (6, .int x6)]) (hf : fX5_least_114 c56 x1 x2 x5 x6 u = some out) : W p l e rmX5_least s m args below meth c H locs 0 0 (MQ below (va_Qi (fun r (_ : Unit) => r = out.1) (fun _ t => fP E (cM E B out.2) t.heap) (aM B)) args s 0 0 (aM B)) (F0 m 114 ls []) := by
  obtain ⟨hx, hb, hr, hml, hown, hts, hlk, hK⟩ := id C0
  unfold fX5_least_114 at hf
  refine lv_iload hx hb dX5_least_114 (lv_at hl 4 rfl) ?_
  refine lv_istore_n (lv' := [(3, .int x6), (0, .ref (B 0)), (1, .int x1), (2, .int x2), (5, .int x5), (6, .int x6)]) hx hb dX5_least_116 rfl hl (by decide) rfl (fun ls hl => ?_)
  refine lv_iload hx hb dX5_least_117 (lv_at hl 4 rfl) ?_
  refine lv_istore (lv' := [(4, .int x5), (3, .int x6), (0, .ref (B 0)), (1, .int x1), (2, .int x2), (5, .int x5), (6, .int x6)]) hx hb dX5_least_119 hl (by decide) rfl (fun ls hl => ?_)
  exact tX5_least_121 C0 hc56 hW (lv_sub hl [2, 3, 4, 1, 0, 5] rfl) hf
set_option maxHeartbeats 4000000 in
set_option maxRecDepth 100000 in
theorem tX5_least_56 {p : Program} {l : Launch} {e : Env} {s : State} {m : MethodId} {args : Array Value} {below : List Frame} {meth : Method} {c : Code} {E : EE} {B : Nat → Nat} {out : Int32 × SM} (C0 : cx wsX5_least cX5_least 7 (some .int) RX5 E p s m args meth c) : ∀ (n : Nat) (x1 : Int32) (x2 : Int32) (x3 : Int32) (x4 : Int32) (x5 : Int32) (u : SM) (H : Heap) (locs : List Loc) (ls : Array Slot) (_ : WM E B u s H locs), lv_has ls 7 [(0, .ref (B 0)), (1, .int x1), (2, .int x2), (3, .int x3), (4, .int x4), (5, .int x5)] → fX5_least_56 n x1 x2 x3 x4 x5 u = some out → W p l e rmX5_least s m args below meth c H locs 0 0 (MQ below (va_Qi (fun r (_ : Unit) => r = out.1) (fun _ t => fP E (cM E B out.2) t.heap) (aM B)) args s 0 0 (aM B)) (F0 m 56 ls []) := by
  obtain ⟨hx, hb, hr, hml, hown, hts, hlk, hK⟩ := id C0
  intro n
  induction n with
  | zero =>
    intro x1 x2 x3 x4 x5 u H locs ls hW hl hf
    cases (show none = some out from hf)
  | succ n ih =>
    intro x1 x2 x3 x4 x5 u H locs ls hW hl hf
    rw [fX5_least_56] at hf
    refine lv_iload hx hb dX5_least_56 (lv_at hl 5 rfl) ?_
    refine lv_aload_n hx hb dX5_least_58 rfl (lv_at hl 0 rfl) ?_
    refine m_get C0 hW.2.1 iX5_least_X5 3 (by decide) (by decide +kernel) rfl dX5_least_59 ?_
    refine lv_icmp_ge (tgt := 127) hx hb dX5_least_62 (by decide) (fun c1 => ?_) (fun c1 => ?_)
    · have hf := th hf c1
      refine lv_aload_n hx hb dX5_least_127 rfl (lv_at hl 0 rfl) ?_
      refine lv_iload_n hx hb dX5_least_128 rfl (lv_at hl 2 rfl) ?_
      refine m_put C0 hW iX5_least_X5 7 (by decide) (by decide +kernel) rfl (by decide +kernel) rfl dX5_least_129 (fun H locs hW => ?_)
      have hW : WM E B ((upd u.1 7 x2), u.2) s H locs := hW
      refine lv_iload_n hx hb dX5_least_132 rfl (lv_at hl 1 rfl) ?_
      refine lv_if_ne (tgt := 140) hx hb dX5_least_133 (by decide) (fun c2 => ?_) (fun c2 => ?_)
      · have hf := el hf c2
        refine lv_iload hx hb dX5_least_140 (lv_at hl 4 rfl) ?_
        obtain rfl := Option.some.inj hf
        exact e_muI (QH := fP E (cM E B ((upd u.1 7 x2), u.2))) C0 hW.2.2 rfl hW.2.1 dX5_least_142
      · have hf := th hf c2
        refine lv_iload_n hx hb dX5_least_136 rfl (lv_at hl 3 rfl) ?_
        refine lv_goto (tgt := 142) hx hb dX5_least_137 (by decide) ?_
        obtain rfl := Option.some.inj hf
        exact e_muI (QH := fP E (cM E B ((upd u.1 7 x2), u.2))) C0 hW.2.2 rfl hW.2.1 dX5_least_142
    · have hf := el hf c1
      refine lv_aload_n hx hb dX5_least_65 rfl (lv_at hl 0 rfl) ?_
      refine lv_iload_n hx hb dX5_least_66 rfl (lv_at hl 2 rfl) ?_
      refine lv_iconst (v := (1 : Int32)) hx hb dX5_least_67 (by decide) ?_
      refine lv_iload hx hb dX5_least_68 (lv_at hl 5 rfl) ?_
      refine lv_ishl hx hb dX5_least_70 ?_
      refine lv_ior hx hb dX5_least_71 ?_
      refine m_put C0 hW iX5_least_X5 7 (by decide) (by decide +kernel) rfl (by decide +kernel) rfl dX5_least_72 (fun H locs hW => ?_)
      have hW : WM E B ((upd u.1 7 (x2 ||| ((1 : Int32) <<< (x5 &&& 31)))), u.2) s H locs := hW
      refine lv_aload_n hx hb dX5_least_75 rfl (lv_at hl 0 rfl) ?_
      refine m_get C0 hW.2.1 iX5_least_X5 6 (by decide) (by decide +kernel) rfl dX5_least_76 ?_
      refine lv_iload hx hb dX5_least_79 (lv_at hl 5 rfl) ?_
      obtain ⟨h3, hf⟩ := gd hf
      refine m_ald C0 hW.2.1 3 6 rfl h3 dX5_least_81 ?_
      refine lv_aload_n hx hb dX5_least_82 rfl (lv_at hl 0 rfl) ?_
      refine m_get C0 hW.2.1 iX5_least_X5 2 (by decide) (by decide +kernel) rfl dX5_least_83 ?_
      refine lv_aload_n hx hb dX5_least_86 rfl (lv_at hl 0 rfl) ?_
      refine m_get C0 hW.2.1 iX5_least_X5 5 (by decide) (by decide +kernel) rfl dX5_least_87 ?_
      refine lv_iload hx hb dX5_least_90 (lv_at hl 5 rfl) ?_
      obtain ⟨h4, hf⟩ := gd hf
      refine m_ald C0 hW.2.1 2 6 rfl h4 dX5_least_92 ?_
      refine lv_imul hx hb dX5_least_93 ?_
      refine lv_iadd hx hb dX5_least_94 ?_
      refine lv_istore (lv' := [(6, .int ((u.2 3 x5.toNatClampNeg) + (((upd u.1 7 (x2 ||| ((1 : Int32) <<< (x5 &&& 31)))) 2) * (u.2 2 x5.toNatClampNeg)))), (0, .ref (B 0)), (1, .int x1), (2, .int x2), (3, .int x3), (4, .int x4), (5, .int x5)]) hx hb dX5_least_95 hl (by decide) rfl (fun ls hl => ?_)
      refine lv_aload_n hx hb dX5_least_97 rfl (lv_at hl 1 rfl) ?_
      obtain ⟨q5, h6, hf⟩ := bd hf
      refine k_roI (run_V (rest := []) (n := 0) C0 (tX5_isLikely E B h6) gX5_least_X5_isLikely rfl rfl (by decide +kernel) (hW.2.1 0 _ rfl) rfl rfl hW.2.1 hl.1 rfl rfl (Nat.le_of_ble_eq_true rfl) dX5_least_98) ?_
      refine lv_if_eq (tgt := 121) hx hb dX5_least_101 (by decide) (fun c7 => ?_) (fun c7 => ?_)
      · have hf := th hf c7
        exact tX5_least_121 C0 ih hW (lv_sub hl [1, 2, 3, 4, 5, 6] rfl) hf
      · have hf := el hf c7
        refine lv_iload_n hx hb dX5_least_104 rfl (lv_at hl 4 rfl) ?_
        refine lv_if_lt (tgt := 114) hx hb dX5_least_105 (by decide) (fun c8 => ?_) (fun c8 => ?_)
        · have hf := th hf c8
          exact tX5_least_114 C0 ih hW (lv_sub hl [1, 2, 3, 6, 0] rfl) hf
        · have hf := el hf c8
          refine lv_iload hx hb dX5_least_108 (lv_at hl 0 rfl) ?_
          refine lv_iload_n hx hb dX5_least_110 rfl (lv_at hl 4 rfl) ?_
          refine lv_icmp_ge (tgt := 121) hx hb dX5_least_111 (by decide) (fun c9 => ?_) (fun c9 => ?_)
          · have hf := th hf c9
            exact tX5_least_121 C0 ih hW (lv_sub hl [1, 2, 3, 4, 5, 6] rfl) hf
          · have hf := el hf c9
            exact tX5_least_114 C0 ih hW (lv_sub hl [1, 2, 3, 6, 0] rfl) hf
set_option maxHeartbeats 4000000 in
set_option maxRecDepth 100000 in
theorem tX5_least_0 {p : Program} {l : Launch} {e : Env} {s : State} {m : MethodId} {args : Array Value} {below : List Frame} {meth : Method} {c : Code} {E : EE} {B : Nat → Nat} {out : Int32 × SM} (C0 : cx wsX5_least cX5_least 7 (some .int) RX5 E p s m args meth c) {x1 : Int32} {u : SM} {H : Heap} {locs : List Loc} {ls : Array Slot} (hW : WM E B u s H locs) (hl : lv_has ls 7 [(0, .ref (B 0)), (1, .int x1)]) (hf : fX5_least x1 u = some out) : W p l e rmX5_least s m args below meth c H locs 0 0 (MQ below (va_Qi (fun r (_ : Unit) => r = out.1) (fun _ t => fP E (cM E B out.2) t.heap) (aM B)) args s 0 0 (aM B)) (F0 m 0 ls []) := by
  obtain ⟨hx, hb, hr, hml, hown, hts, hlk, hK⟩ := id C0
  unfold fX5_least at hf
  refine lv_iload_n hx hb dX5_least_0 rfl (lv_at hl 1 rfl) ?_
  refine lv_i2l (v := x1.toInt64) hx hb dX5_least_1 rfl ?_
  refine lv_lconst (v := (0 : Int64)) hx hb dX5_least_2 (by decide) ?_
  refine lv_lconst (v := (1 : Int64)) hx hb dX5_least_3 (by decide) ?_
  obtain ⟨q1, h2, hf⟩ := bd hf
  refine k_roI (run_S (rest := []) (n := 3) (PH := fun _ => True) C0 (tX5_in E h2) gX5_least_X5_in rfl rfl (by decide +kernel) trivial hl.1 rfl rfl (Nat.le_of_ble_eq_true rfl) dX5_least_4) ?_
  refine lv_if_ne (tgt := 13) hx hb dX5_least_7 (by decide) (fun c3 => ?_) (fun c3 => ?_)
  · have hf := el hf c3
    refine lv_aload_n hx hb dX5_least_13 rfl (lv_at hl 0 rfl) ?_
    refine m_get C0 hW.2.1 iX5_least_X5 3 (by decide) (by decide +kernel) rfl dX5_least_14 ?_
    refine lv_if_ne (tgt := 23) hx hb dX5_least_17 (by decide) (fun c4 => ?_) (fun c4 => ?_)
    · have hf := el hf c4
      refine lv_aload_n hx hb dX5_least_23 rfl (lv_at hl 0 rfl) ?_
      obtain ⟨q5, h6, hf⟩ := bd hf
      refine k_roI (run_V (rest := []) (n := 0) C0 (tX5_isLikely E B h6) gX5_least_X5_isLikely rfl rfl (by decide +kernel) (hW.2.1 0 _ rfl) rfl rfl hW.2.1 hl.1 rfl rfl (Nat.le_of_ble_eq_true rfl) dX5_least_24) ?_
      refine lv_if_eq (tgt := 41) hx hb dX5_least_27 (by decide) (fun c7 => ?_) (fun c7 => ?_)
      · have hf := th hf c7
        refine lv_aload_n hx hb dX5_least_41 rfl (lv_at hl 0 rfl) ?_
        refine m_get C0 hW.2.1 iX5_least_X5 7 (by decide) (by decide +kernel) rfl dX5_least_42 ?_
        refine lv_istore_n (lv' := [(2, .int (u.1 7)), (0, .ref (B 0)), (1, .int x1)]) hx hb dX5_least_45 rfl hl (by decide) rfl (fun ls hl => ?_)
        refine lv_bipush (v := (-9 : Int32)) hx hb dX5_least_46 (by decide) ?_
        refine lv_istore_n (lv' := [(3, .int (-9 : Int32)), (2, .int (u.1 7)), (0, .ref (B 0)), (1, .int x1)]) hx hb dX5_least_48 rfl hl (by decide) rfl (fun ls hl => ?_)
        refine lv_bipush (v := (-9 : Int32)) hx hb dX5_least_49 (by decide) ?_
        refine lv_istore (lv' := [(4, .int (-9 : Int32)), (3, .int (-9 : Int32)), (2, .int (u.1 7)), (0, .ref (B 0)), (1, .int x1)]) hx hb dX5_least_51 hl (by decide) rfl (fun ls hl => ?_)
        refine lv_iconst (v := (0 : Int32)) hx hb dX5_least_53 (by decide) ?_
        refine lv_istore (lv' := [(5, .int (0 : Int32)), (4, .int (-9 : Int32)), (3, .int (-9 : Int32)), (2, .int (u.1 7)), (0, .ref (B 0)), (1, .int x1)]) hx hb dX5_least_54 hl (by decide) rfl (fun ls hl => ?_)
        exact tX5_least_56 C0 fu _ _ _ _ _ _ _ _ _ hW (lv_sub hl [4, 5, 3, 2, 1, 0] rfl) hf
      · have hf := el hf c7
        refine lv_iload_n hx hb dX5_least_30 rfl (lv_at hl 1 rfl) ?_
        refine lv_if_ne (tgt := 38) hx hb dX5_least_31 (by decide) (fun c8 => ?_) (fun c8 => ?_)
        · have hf := el hf c8
          refine lv_bipush (v := (-9 : Int32)) hx hb dX5_least_38 (by decide) ?_
          obtain rfl := Option.some.inj hf
          exact e_muI (QH := fP E (cM E B u)) C0 hW.2.2 rfl hW.2.1 dX5_least_40
        · have hf := th hf c8
          refine lv_iconst (v := (0 : Int32)) hx hb dX5_least_34 (by decide) ?_
          refine lv_goto (tgt := 40) hx hb dX5_least_35 (by decide) ?_
          obtain rfl := Option.some.inj hf
          exact e_muI (QH := fP E (cM E B u)) C0 hW.2.2 rfl hW.2.1 dX5_least_40
    · have hf := th hf c4
      refine lv_bipush (v := (-3 : Int32)) hx hb dX5_least_20 (by decide) ?_
      obtain rfl := Option.some.inj hf
      exact e_muI (QH := fP E (cM E B u)) C0 hW.2.2 rfl hW.2.1 dX5_least_22
  · have hf := th hf c3
    refine lv_bipush (v := (-2 : Int32)) hx hb dX5_least_10 (by decide) ?_
    obtain rfl := Option.some.inj hf
    exact e_muI (QH := fP E (cM E B u)) C0 hW.2.2 rfl hW.2.1 dX5_least_12
set_option maxHeartbeats 4000000 in
set_option maxRecDepth 100000 in
theorem tX5_least {l : Launch} (E : EE) (B : Nat → Nat) {u : SM} {x1 : Int32} {out : Int32 × SM} (hB : iM B) (hf : fX5_least x1 u = some out) : muI l yX5_least wsX5_least rmX5_least E [.ref (B 0), .int x1] (aM B) (fP E (cM E B u)) (fP E (cM E B out.2)) out.1 := by
  refine Met.ofW (cc := cX5_least) (maxL := 7) (ret := (some .int)) (by decide) rfl ?_
  intro p e s m args below meth c s₁ B0 hml hv
  obtain ⟨rfl, hP, hK⟩ := hv
  have C0 : cx wsX5_least cX5_least 7 (some .int) RX5 E p s m _ meth c := ⟨B0.exec, B0.bytes, B0.returns, hml, findClass_of_methodNamed B0.named, atoms_spec (ws := wsX5_least) B0.pre, B0.notSynchronized, hK⟩
  have hl := lv_entry ([.ref (B 0), .int x1]) (n := 7) (Nat.le_of_ble_eq_true rfl)
  rw [lg_entry_eq]
  generalize (lg_sl ([.ref (B 0), .int x1]) ++ List.replicate (7 - (lg_sl ([.ref (B 0), .int x1])).length) Slot.unset).toArray = ls at hl ⊢
  exact tX5_least_0 C0 ⟨hB, hP, va_S.rf⟩ hl hf
abbrev rmX5_reading : Room := { frames := 1, cells := 0, slots := 0, locals := 25 }
set_option maxRecDepth 20000 in
theorem iX5_reading_X5 : ∀ w ∈ wsX50, w ∈ wsX5_reading := by decide +kernel
set_option maxHeartbeats 4000000 in
set_option maxRecDepth 100000 in
theorem tX5_reading_0 {p : Program} {l : Launch} {e : Env} {s : State} {m : MethodId} {args : Array Value} {below : List Frame} {meth : Method} {c : Code} {E : EE} {B : Nat → Nat} {out : Int32 × SM} (C0 : cx wsX5_reading cX5_reading 2 (some .int) RX5 E p s m args meth c) {x1 : Int32} {u : SM} {H : Heap} {locs : List Loc} {ls : Array Slot} (hW : WM E B u s H locs) (hl : lv_has ls 2 [(0, .ref (B 0)), (1, .int x1)]) (hf : fX5_reading x1 u = some out) : W p l e rmX5_reading s m args below meth c H locs 0 0 (MQ below (va_Qi (fun r (_ : Unit) => r = out.1) (fun _ t => fP E (cM E B out.2) t.heap) (aM B)) args s 0 0 (aM B)) (F0 m 0 ls []) := by
  obtain ⟨hx, hb, hr, hml, hown, hts, hlk, hK⟩ := id C0
  unfold fX5_reading at hf
  refine lv_aload_n hx hb dX5_reading_0 rfl (lv_at hl 0 rfl) ?_
  refine m_get C0 hW.2.1 iX5_reading_X5 3 (by decide) (by decide +kernel) rfl dX5_reading_1 ?_
  refine lv_if_ne (tgt := 10) hx hb dX5_reading_4 (by decide) (fun c1 => ?_) (fun c1 => ?_)
  · have hf := el hf c1
    refine lv_iload_n hx hb dX5_reading_10 rfl (lv_at hl 1 rfl) ?_
    refine lv_i2l (v := x1.toInt64) hx hb dX5_reading_11 rfl ?_
    refine lv_lconst (v := (0 : Int64)) hx hb dX5_reading_12 (by decide) ?_
    refine lv_aload_n hx hb dX5_reading_13 rfl (lv_at hl 0 rfl) ?_
    obtain ⟨q2, h3, hf⟩ := bd hf
    refine k_roI (run_V (rest := [.long (0 : Int64), .long x1.toInt64]) (n := 0) C0 (tX5_everybody E B h3) gX5_reading_X5_everybody rfl rfl (by decide +kernel) (hW.2.1 0 _ rfl) rfl rfl hW.2.1 hl.1 rfl rfl (Nat.le_of_ble_eq_true rfl) dX5_reading_14) ?_
    refine lv_i2l (v := q2.toInt64) hx hb dX5_reading_17 rfl ?_
    obtain ⟨q4, h5, hf⟩ := bd hf
    refine k_roI (run_S (rest := []) (n := 3) (PH := fun _ => True) C0 (tX5_in E h5) gX5_reading_X5_in rfl rfl (by decide +kernel) trivial hl.1 rfl rfl (Nat.le_of_ble_eq_true rfl) dX5_reading_18) ?_
    refine lv_if_ne (tgt := 27) hx hb dX5_reading_21 (by decide) (fun c6 => ?_) (fun c6 => ?_)
    · have hf := el hf c6
      refine lv_aload_n hx hb dX5_reading_27 rfl (lv_at hl 0 rfl) ?_
      refine m_get C0 hW.2.1 iX5_reading_X5 17 (by decide) (by decide +kernel) rfl dX5_reading_28 ?_
      refine lv_bipush (v := (8 : Int32)) hx hb dX5_reading_31 (by decide) ?_
      refine lv_icmp_ne (tgt := 39) hx hb dX5_reading_33 (by decide) (fun c7 => ?_) (fun c7 => ?_)
      · have hf := el hf c7
        refine lv_aload_n hx hb dX5_reading_39 rfl (lv_at hl 0 rfl) ?_
        refine m_get C0 hW.2.1 iX5_reading_X5 18 (by decide) (by decide +kernel) rfl dX5_reading_40 ?_
        refine lv_aload_n hx hb dX5_reading_43 rfl (lv_at hl 0 rfl) ?_
        refine m_get C0 hW.2.1 iX5_reading_X5 17 (by decide) (by decide +kernel) rfl dX5_reading_44 ?_
        refine lv_iload_n hx hb dX5_reading_47 rfl (lv_at hl 1 rfl) ?_
        obtain ⟨h8, hf⟩ := gd hf
        refine m_ast C0 hW 7 8 (by decide) (by decide) rfl h8 dX5_reading_48 (fun H locs hW => ?_)
        have hW : WM E B (u.1, (va_up u.2 7 (upd (u.2 7) ((u.1 17).toNatClampNeg) x1))) s H locs := hW
        refine lv_aload_n hx hb dX5_reading_49 rfl (lv_at hl 0 rfl) ?_
        refine lv_dup hx hb dX5_reading_50 rfl ?_
        refine m_get C0 hW.2.1 iX5_reading_X5 17 (by decide) (by decide +kernel) rfl dX5_reading_51 ?_
        refine lv_iconst (v := (1 : Int32)) hx hb dX5_reading_54 (by decide) ?_
        refine lv_iadd hx hb dX5_reading_55 ?_
        refine m_put C0 hW iX5_reading_X5 17 (by decide) (by decide +kernel) rfl (by decide +kernel) rfl dX5_reading_56 (fun H locs hW => ?_)
        have hW : WM E B ((upd u.1 17 ((u.1 17) + (1 : Int32))), (va_up u.2 7 (upd (u.2 7) ((u.1 17).toNatClampNeg) x1))) s H locs := hW
        refine lv_aload_n hx hb dX5_reading_59 rfl (lv_at hl 0 rfl) ?_
        refine m_get C0 hW.2.1 iX5_reading_X5 17 (by decide) (by decide +kernel) rfl dX5_reading_60 ?_
        refine lv_iconst (v := (1 : Int32)) hx hb dX5_reading_63 (by decide) ?_
        refine lv_isub hx hb dX5_reading_64 ?_
        obtain rfl := Option.some.inj hf
        exact e_muI (QH := fP E (cM E B ((upd u.1 17 ((u.1 17) + (1 : Int32))), (va_up u.2 7 (upd (u.2 7) ((u.1 17).toNatClampNeg) x1))))) C0 hW.2.2 rfl hW.2.1 dX5_reading_65
      · have hf := th hf c7
        refine lv_bipush (v := (-4 : Int32)) hx hb dX5_reading_36 (by decide) ?_
        obtain rfl := Option.some.inj hf
        exact e_muI (QH := fP E (cM E B u)) C0 hW.2.2 rfl hW.2.1 dX5_reading_38
    · have hf := th hf c6
      refine lv_bipush (v := (-2 : Int32)) hx hb dX5_reading_24 (by decide) ?_
      obtain rfl := Option.some.inj hf
      exact e_muI (QH := fP E (cM E B u)) C0 hW.2.2 rfl hW.2.1 dX5_reading_26
  · have hf := th hf c1
    refine lv_bipush (v := (-3 : Int32)) hx hb dX5_reading_7 (by decide) ?_
    obtain rfl := Option.some.inj hf
    exact e_muI (QH := fP E (cM E B u)) C0 hW.2.2 rfl hW.2.1 dX5_reading_9
set_option maxHeartbeats 4000000 in
set_option maxRecDepth 100000 in
theorem tX5_reading {l : Launch} (E : EE) (B : Nat → Nat) {u : SM} {x1 : Int32} {out : Int32 × SM} (hB : iM B) (hf : fX5_reading x1 u = some out) : muI l yX5_reading wsX5_reading rmX5_reading E [.ref (B 0), .int x1] (aM B) (fP E (cM E B u)) (fP E (cM E B out.2)) out.1 := by
  refine Met.ofW (cc := cX5_reading) (maxL := 2) (ret := (some .int)) (by decide) rfl ?_
  intro p e s m args below meth c s₁ B0 hml hv
  obtain ⟨rfl, hP, hK⟩ := hv
  have C0 : cx wsX5_reading cX5_reading 2 (some .int) RX5 E p s m _ meth c := ⟨B0.exec, B0.bytes, B0.returns, hml, findClass_of_methodNamed B0.named, atoms_spec (ws := wsX5_reading) B0.pre, B0.notSynchronized, hK⟩
  have hl := lv_entry ([.ref (B 0), .int x1]) (n := 2) (Nat.le_of_ble_eq_true rfl)
  rw [lg_entry_eq]
  generalize (lg_sl ([.ref (B 0), .int x1]) ++ List.replicate (2 - (lg_sl ([.ref (B 0), .int x1])).length) Slot.unset).toArray = ls at hl ⊢
  exact tX5_reading_0 C0 ⟨hB, hP, va_S.rf⟩ hl hf
abbrev rmX5_back : Room := { frames := 1, cells := 0, slots := 0, locals := 25 }
set_option maxRecDepth 20000 in
theorem iX5_back_X5 : ∀ w ∈ wsX50, w ∈ wsX5_back := by decide +kernel
set_option maxHeartbeats 4000000 in
set_option maxRecDepth 100000 in
theorem tX5_back_0 {p : Program} {l : Launch} {e : Env} {s : State} {m : MethodId} {args : Array Value} {below : List Frame} {meth : Method} {c : Code} {E : EE} {B : Nat → Nat} {out : Int32 × SM} (C0 : cx wsX5_back cX5_back 2 (some .int) RX5 E p s m args meth c) {x1 : Int32} {u : SM} {H : Heap} {locs : List Loc} {ls : Array Slot} (hW : WM E B u s H locs) (hl : lv_has ls 2 [(0, .ref (B 0)), (1, .int x1)]) (hf : fX5_back x1 u = some out) : W p l e rmX5_back s m args below meth c H locs 0 0 (MQ below (va_Qi (fun r (_ : Unit) => r = out.1) (fun _ t => fP E (cM E B out.2) t.heap) (aM B)) args s 0 0 (aM B)) (F0 m 0 ls []) := by
  obtain ⟨hx, hb, hr, hml, hown, hts, hlk, hK⟩ := id C0
  unfold fX5_back at hf
  refine lv_iload_n hx hb dX5_back_0 rfl (lv_at hl 1 rfl) ?_
  refine lv_i2l (v := x1.toInt64) hx hb dX5_back_1 rfl ?_
  refine lv_lconst (v := (0 : Int64)) hx hb dX5_back_2 (by decide) ?_
  refine lv_aload_n hx hb dX5_back_3 rfl (lv_at hl 0 rfl) ?_
  refine m_get C0 hW.2.1 iX5_back_X5 17 (by decide) (by decide +kernel) rfl dX5_back_4 ?_
  refine lv_i2l (v := (u.1 17).toInt64) hx hb dX5_back_7 rfl ?_
  obtain ⟨q1, h2, hf⟩ := bd hf
  refine k_roI (run_S (rest := []) (n := 3) (PH := fun _ => True) C0 (tX5_in E h2) gX5_back_X5_in rfl rfl (by decide +kernel) trivial hl.1 rfl rfl (Nat.le_of_ble_eq_true rfl) dX5_back_8) ?_
  refine lv_if_ne (tgt := 17) hx hb dX5_back_11 (by decide) (fun c3 => ?_) (fun c3 => ?_)
  · have hf := el hf c3
    refine lv_aload_n hx hb dX5_back_17 rfl (lv_at hl 0 rfl) ?_
    refine lv_dup hx hb dX5_back_18 rfl ?_
    refine m_get C0 hW.2.1 iX5_back_X5 17 (by decide) (by decide +kernel) rfl dX5_back_19 ?_
    refine lv_iload_n hx hb dX5_back_22 rfl (lv_at hl 1 rfl) ?_
    refine lv_isub hx hb dX5_back_23 ?_
    refine m_put C0 hW iX5_back_X5 17 (by decide) (by decide +kernel) rfl (by decide +kernel) rfl dX5_back_24 (fun H locs hW => ?_)
    have hW : WM E B ((upd u.1 17 ((u.1 17) - x1)), u.2) s H locs := hW
    refine lv_aload_n hx hb dX5_back_27 rfl (lv_at hl 0 rfl) ?_
    refine m_get C0 hW.2.1 iX5_back_X5 17 (by decide) (by decide +kernel) rfl dX5_back_28 ?_
    obtain rfl := Option.some.inj hf
    exact e_muI (QH := fP E (cM E B ((upd u.1 17 ((u.1 17) - x1)), u.2))) C0 hW.2.2 rfl hW.2.1 dX5_back_31
  · have hf := th hf c3
    refine lv_bipush (v := (-2 : Int32)) hx hb dX5_back_14 (by decide) ?_
    obtain rfl := Option.some.inj hf
    exact e_muI (QH := fP E (cM E B u)) C0 hW.2.2 rfl hW.2.1 dX5_back_16
set_option maxHeartbeats 4000000 in
set_option maxRecDepth 100000 in
theorem tX5_back {l : Launch} (E : EE) (B : Nat → Nat) {u : SM} {x1 : Int32} {out : Int32 × SM} (hB : iM B) (hf : fX5_back x1 u = some out) : muI l yX5_back wsX5_back rmX5_back E [.ref (B 0), .int x1] (aM B) (fP E (cM E B u)) (fP E (cM E B out.2)) out.1 := by
  refine Met.ofW (cc := cX5_back) (maxL := 2) (ret := (some .int)) (by decide) rfl ?_
  intro p e s m args below meth c s₁ B0 hml hv
  obtain ⟨rfl, hP, hK⟩ := hv
  have C0 : cx wsX5_back cX5_back 2 (some .int) RX5 E p s m _ meth c := ⟨B0.exec, B0.bytes, B0.returns, hml, findClass_of_methodNamed B0.named, atoms_spec (ws := wsX5_back) B0.pre, B0.notSynchronized, hK⟩
  have hl := lv_entry ([.ref (B 0), .int x1]) (n := 2) (Nat.le_of_ble_eq_true rfl)
  rw [lg_entry_eq]
  generalize (lg_sl ([.ref (B 0), .int x1]) ++ List.replicate (2 - (lg_sl ([.ref (B 0), .int x1])).length) Slot.unset).toArray = ls at hl ⊢
  exact tX5_back_0 C0 ⟨hB, hP, va_S.rf⟩ hl hf
abbrev rmX5_canBe : Room := { frames := 3, cells := 0, slots := 0, locals := 73 }
set_option maxRecDepth 20000 in
theorem iX5_canBe_X5 : ∀ w ∈ wsX50, w ∈ wsX5_canBe := by decide +kernel
set_option maxHeartbeats 4000000 in
set_option maxRecDepth 100000 in
theorem tX5_canBe_36 {p : Program} {l : Launch} {e : Env} {s : State} {m : MethodId} {args : Array Value} {below : List Frame} {meth : Method} {c : Code} {E : EE} {B : Nat → Nat} {u : SM} {out : Int32} {c4 : Int32 → Int32 → SM → Option (Int32)} (C0 : cx wsX5_canBe cX5_canBe 3 (some .boolean) RX5 E p s m args meth c) (hP : fP E (cM E B u) s.heap) (hc4 : ∀ (x1 : Int32) (x2 : Int32) (ls : Array Slot), lv_has ls 3 [(0, .ref (B 0)), (1, .int x1), (2, .int x2)] → c4 x1 x2 u = some out → W p l e rmX5_canBe s m args below meth c s.heap [] 0 0 (MQ below (vp_Si (fun r => r = out)) args s 0 0 (fun _ => False)) (F0 m 4 ls [])) {x2 : Int32} {xs0 : Int32} {ls : Array Slot} (hl : lv_has ls 3 [(0, .ref (B 0)), (2, .int x2)]) (hf : fX5_canBe_36 c4 x2 xs0 u = some out) : W p l e rmX5_canBe s m args below meth c s.heap [] 0 0 (MQ below (vp_Si (fun r => r = out)) args s 0 0 (fun _ => False)) (F0 m 36 ls [.int xs0]) := by
  obtain ⟨hx, hb, hr, hml, hown, hts, hlk, hK⟩ := id C0
  unfold fX5_canBe_36 at hf
  refine lv_istore_n (lv' := [(1, .int xs0), (0, .ref (B 0)), (2, .int x2)]) hx hb dX5_canBe_36 rfl hl (by decide) rfl (fun ls hl => ?_)
  refine lv_iinc (v := (x2 + (1 : Int32))) (lv' := [(2, .int (x2 + (1 : Int32))), (1, .int xs0), (0, .ref (B 0))]) hx hb dX5_canBe_37 hl (k := 2) rfl rfl (by decide) rfl (fun ls hl => ?_)
  refine lv_goto (tgt := 4) hx hb dX5_canBe_40 (by decide) ?_
  exact hc4 _ _ _ (lv_sub hl [2, 1, 0] rfl) hf
set_option maxHeartbeats 4000000 in
set_option maxRecDepth 100000 in
theorem tX5_canBe_35 {p : Program} {l : Launch} {e : Env} {s : State} {m : MethodId} {args : Array Value} {below : List Frame} {meth : Method} {c : Code} {E : EE} {B : Nat → Nat} {u : SM} {out : Int32} {c4 : Int32 → Int32 → SM → Option (Int32)} (C0 : cx wsX5_canBe cX5_canBe 3 (some .boolean) RX5 E p s m args meth c) (hP : fP E (cM E B u) s.heap) (hc4 : ∀ (x1 : Int32) (x2 : Int32) (ls : Array Slot), lv_has ls 3 [(0, .ref (B 0)), (1, .int x1), (2, .int x2)] → c4 x1 x2 u = some out → W p l e rmX5_canBe s m args below meth c s.heap [] 0 0 (MQ below (vp_Si (fun r => r = out)) args s 0 0 (fun _ => False)) (F0 m 4 ls [])) {x2 : Int32} {ls : Array Slot} (hl : lv_has ls 3 [(0, .ref (B 0)), (2, .int x2)]) (hf : fX5_canBe_35 c4 x2 u = some out) : W p l e rmX5_canBe s m args below meth c s.heap [] 0 0 (MQ below (vp_Si (fun r => r = out)) args s 0 0 (fun _ => False)) (F0 m 35 ls []) := by
  obtain ⟨hx, hb, hr, hml, hown, hts, hlk, hK⟩ := id C0
  unfold fX5_canBe_35 at hf
  refine lv_iconst (v := (0 : Int32)) hx hb dX5_canBe_35 (by decide) ?_
  exact tX5_canBe_36 C0 hP hc4 (lv_sub hl [0, 1] rfl) hf
set_option maxHeartbeats 4000000 in
set_option maxRecDepth 100000 in
theorem tX5_canBe_4 {p : Program} {l : Launch} {e : Env} {s : State} {m : MethodId} {args : Array Value} {below : List Frame} {meth : Method} {c : Code} {E : EE} {B : Nat → Nat} {u : SM} {out : Int32} (C0 : cx wsX5_canBe cX5_canBe 3 (some .boolean) RX5 E p s m args meth c) (hP : fP E (cM E B u) s.heap) : ∀ (n : Nat) (x1 : Int32) (x2 : Int32) (ls : Array Slot), lv_has ls 3 [(0, .ref (B 0)), (1, .int x1), (2, .int x2)] → fX5_canBe_4 n x1 x2 u = some out → W p l e rmX5_canBe s m args below meth c s.heap [] 0 0 (MQ below (vp_Si (fun r => r = out)) args s 0 0 (fun _ => False)) (F0 m 4 ls []) := by
  obtain ⟨hx, hb, hr, hml, hown, hts, hlk, hK⟩ := id C0
  intro n
  induction n with
  | zero =>
    intro x1 x2 ls hl hf
    cases (show none = some out from hf)
  | succ n ih =>
    intro x1 x2 ls hl hf
    rw [fX5_canBe_4] at hf
    refine lv_iload_n hx hb dX5_canBe_4 rfl (lv_at hl 2 rfl) ?_
    refine lv_aload_n hx hb dX5_canBe_5 rfl (lv_at hl 0 rfl) ?_
    refine m_get C0 hP iX5_canBe_X5 17 (by decide) (by decide +kernel) rfl dX5_canBe_6 ?_
    refine lv_icmp_ge (tgt := 43) hx hb dX5_canBe_9 (by decide) (fun c1 => ?_) (fun c1 => ?_)
    · have hf := th hf c1
      refine lv_iload_n hx hb dX5_canBe_43 rfl (lv_at hl 1 rfl) ?_
      exact e_roZ C0 hf dX5_canBe_44
    · have hf := el hf c1
      refine lv_iload_n hx hb dX5_canBe_12 rfl (lv_at hl 1 rfl) ?_
      refine lv_if_eq (tgt := 35) hx hb dX5_canBe_13 (by decide) (fun c2 => ?_) (fun c2 => ?_)
      · have hf := th hf c2
        exact tX5_canBe_35 C0 hP ih (lv_sub hl [0, 2] rfl) hf
      · have hf := el hf c2
        refine lv_aload_n hx hb dX5_canBe_16 rfl (lv_at hl 0 rfl) ?_
        refine lv_aload_n hx hb dX5_canBe_17 rfl (lv_at hl 0 rfl) ?_
        refine m_get C0 hP iX5_canBe_X5 18 (by decide) (by decide +kernel) rfl dX5_canBe_18 ?_
        refine lv_iload_n hx hb dX5_canBe_21 rfl (lv_at hl 2 rfl) ?_
        obtain ⟨h3, hf⟩ := gd hf
        refine m_ald C0 hP 7 8 rfl h3 dX5_canBe_22 ?_
        obtain ⟨q4, h5, hf⟩ := bd hf
        refine k_roL (run_V (rest := []) (n := 1) C0 (tX5_drawsOf E B h5) gX5_canBe_X5_drawsOf rfl rfl (by decide +kernel) (hP 0 _ rfl) rfl rfl hP hl.1 rfl rfl (Nat.le_of_ble_eq_true rfl) dX5_canBe_23) ?_
        refine lv_lconst (v := (0 : Int64)) hx hb dX5_canBe_26 (by decide) ?_
        refine W.lcmp hx hb dX5_canBe_27 ?_
        refine lv_if_le (tgt := 35) hx hb dX5_canBe_28 (by decide) (fun c6 => ?_) (fun c6 => ?_)
        · have hf := th hf c6
          exact tX5_canBe_35 C0 hP ih (lv_sub hl [0, 2] rfl) hf
        · have hf := el hf c6
          refine lv_iconst (v := (1 : Int32)) hx hb dX5_canBe_31 (by decide) ?_
          refine lv_goto (tgt := 36) hx hb dX5_canBe_32 (by decide) ?_
          exact tX5_canBe_36 C0 hP ih (lv_sub hl [0, 2] rfl) hf
set_option maxHeartbeats 4000000 in
set_option maxRecDepth 100000 in
theorem tX5_canBe_0 {p : Program} {l : Launch} {e : Env} {s : State} {m : MethodId} {args : Array Value} {below : List Frame} {meth : Method} {c : Code} {E : EE} {B : Nat → Nat} {u : SM} {out : Int32} (C0 : cx wsX5_canBe cX5_canBe 3 (some .boolean) RX5 E p s m args meth c) (hP : fP E (cM E B u) s.heap) {ls : Array Slot} (hl : lv_has ls 3 [(0, .ref (B 0))]) (hf : fX5_canBe u = some out) : W p l e rmX5_canBe s m args below meth c s.heap [] 0 0 (MQ below (vp_Si (fun r => r = out)) args s 0 0 (fun _ => False)) (F0 m 0 ls []) := by
  obtain ⟨hx, hb, hr, hml, hown, hts, hlk, hK⟩ := id C0
  unfold fX5_canBe at hf
  refine lv_iconst (v := (1 : Int32)) hx hb dX5_canBe_0 (by decide) ?_
  refine lv_istore_n (lv' := [(1, .int (1 : Int32)), (0, .ref (B 0))]) hx hb dX5_canBe_1 rfl hl (by decide) rfl (fun ls hl => ?_)
  refine lv_iconst (v := (0 : Int32)) hx hb dX5_canBe_2 (by decide) ?_
  refine lv_istore_n (lv' := [(2, .int (0 : Int32)), (1, .int (1 : Int32)), (0, .ref (B 0))]) hx hb dX5_canBe_3 rfl hl (by decide) rfl (fun ls hl => ?_)
  exact tX5_canBe_4 C0 hP fu _ _ _ (lv_sub hl [2, 1, 0] rfl) hf
set_option maxHeartbeats 4000000 in
set_option maxRecDepth 100000 in
theorem tX5_canBe {l : Launch} (E : EE) (B : Nat → Nat) {u : SM} {out : Int32} (hf : fX5_canBe u = some out) : roI l yX5_canBe wsX5_canBe rmX5_canBe E [.ref (B 0)] (fP E (cM E B u)) out := by
  refine Met.ofW (cc := cX5_canBe) (maxL := 3) (ret := (some .boolean)) (by decide) rfl ?_
  intro p e s m args below meth c s₁ B0 hml hv
  obtain ⟨rfl, hP, hK⟩ := hv
  have C0 : cx wsX5_canBe cX5_canBe 3 (some .boolean) RX5 E p s m _ meth c := ⟨B0.exec, B0.bytes, B0.returns, hml, findClass_of_methodNamed B0.named, atoms_spec (ws := wsX5_canBe) B0.pre, B0.notSynchronized, hK⟩
  have hl := lv_entry ([.ref (B 0)]) (n := 3) (Nat.le_of_ble_eq_true rfl)
  rw [lg_entry_eq]
  generalize (lg_sl ([.ref (B 0)]) ++ List.replicate (3 - (lg_sl ([.ref (B 0)])).length) Slot.unset).toArray = ls at hl ⊢
  exact tX5_canBe_0 C0 hP hl hf
abbrev rmX5_tickets : Room := { frames := 4, cells := 0, slots := 0, locals := 95 }
set_option maxRecDepth 20000 in
theorem iX5_tickets_X5 : ∀ w ∈ wsX50, w ∈ wsX5_tickets := by decide +kernel
set_option maxHeartbeats 4000000 in
set_option maxRecDepth 100000 in
theorem tX5_tickets_53 {p : Program} {l : Launch} {e : Env} {s : State} {m : MethodId} {args : Array Value} {below : List Frame} {meth : Method} {c : Code} {E : EE} {B : Nat → Nat} {out : Int32 × SM} {c22 : Int32 → Int32 → Int32 → Int32 → SM → Option (Int32 × SM)} (C0 : cx wsX5_tickets cX5_tickets 5 (some .int) RX5 E p s m args meth c) (hc22 : ∀ (x1 : Int32) (x2 : Int32) (x3 : Int32) (x4 : Int32) (u : SM) (H : Heap) (locs : List Loc) (ls : Array Slot) (_ : WM E B u s H locs), lv_has ls 5 [(0, .ref (B 0)), (1, .int x1), (2, .int x2), (3, .int x3), (4, .int x4)] → c22 x1 x2 x3 x4 u = some out → W p l e rmX5_tickets s m args below meth c H locs 0 0 (MQ below (va_Qi (fun r (_ : Unit) => r = out.1) (fun _ t => fP E (cM E B out.2) t.heap) (aM B)) args s 0 0 (aM B)) (F0 m 22 ls [])) {x1 : Int32} {x2 : Int32} {x4 : Int32} {xs0 : Int32} {xs1 : Int32} {u : SM} {H : Heap} {locs : List Loc} {ls : Array Slot} (hW : WM E B u s H locs) (hl : lv_has ls 5 [(0, .ref (B 0)), (1, .int x1), (2, .int x2), (4, .int x4)]) (hf : fX5_tickets_53 c22 x1 x2 x4 xs0 xs1 u = some out) : W p l e rmX5_tickets s m args below meth c H locs 0 0 (MQ below (va_Qi (fun r (_ : Unit) => r = out.1) (fun _ t => fP E (cM E B out.2) t.heap) (aM B)) args s 0 0 (aM B)) (F0 m 53 ls [.int xs1, .int xs0]) := by
  obtain ⟨hx, hb, hr, hml, hown, hts, hlk, hK⟩ := id C0
  unfold fX5_tickets_53 at hf
  refine lv_ior hx hb dX5_tickets_53 ?_
  refine lv_istore_n (lv' := [(3, .int (xs0 ||| xs1)), (0, .ref (B 0)), (1, .int x1), (2, .int x2), (4, .int x4)]) hx hb dX5_tickets_54 rfl hl (by decide) rfl (fun ls hl => ?_)
  refine lv_iinc (v := (x4 + (1 : Int32))) (lv' := [(4, .int (x4 + (1 : Int32))), (3, .int (xs0 ||| xs1)), (0, .ref (B 0)), (1, .int x1), (2, .int x2)]) hx hb dX5_tickets_55 hl (k := 4) rfl rfl (by decide) rfl (fun ls hl => ?_)
  refine lv_goto (tgt := 22) hx hb dX5_tickets_58 (by decide) ?_
  exact hc22 _ _ _ _ _ _ _ _ hW (lv_sub hl [2, 3, 4, 1, 0] rfl) hf
set_option maxHeartbeats 4000000 in
set_option maxRecDepth 100000 in
theorem tX5_tickets_22 {p : Program} {l : Launch} {e : Env} {s : State} {m : MethodId} {args : Array Value} {below : List Frame} {meth : Method} {c : Code} {E : EE} {B : Nat → Nat} {out : Int32 × SM} (C0 : cx wsX5_tickets cX5_tickets 5 (some .int) RX5 E p s m args meth c) : ∀ (n : Nat) (x1 : Int32) (x2 : Int32) (x3 : Int32) (x4 : Int32) (u : SM) (H : Heap) (locs : List Loc) (ls : Array Slot) (_ : WM E B u s H locs), lv_has ls 5 [(0, .ref (B 0)), (1, .int x1), (2, .int x2), (3, .int x3), (4, .int x4)] → fX5_tickets_22 n x1 x2 x3 x4 u = some out → W p l e rmX5_tickets s m args below meth c H locs 0 0 (MQ below (va_Qi (fun r (_ : Unit) => r = out.1) (fun _ t => fP E (cM E B out.2) t.heap) (aM B)) args s 0 0 (aM B)) (F0 m 22 ls []) := by
  obtain ⟨hx, hb, hr, hml, hown, hts, hlk, hK⟩ := id C0
  intro n
  induction n with
  | zero =>
    intro x1 x2 x3 x4 u H locs ls hW hl hf
    cases (show none = some out from hf)
  | succ n ih =>
    intro x1 x2 x3 x4 u H locs ls hW hl hf
    rw [fX5_tickets_22] at hf
    refine lv_iload hx hb dX5_tickets_22 (lv_at hl 4 rfl) ?_
    refine lv_bipush (v := (10 : Int32)) hx hb dX5_tickets_24 (by decide) ?_
    refine lv_icmp_ge (tgt := 61) hx hb dX5_tickets_26 (by decide) (fun c1 => ?_) (fun c1 => ?_)
    · have hf := th hf c1
      refine lv_aload_n hx hb dX5_tickets_61 rfl (lv_at hl 0 rfl) ?_
      refine m_get C0 hW.2.1 iX5_tickets_X5 5 (by decide) (by decide +kernel) rfl dX5_tickets_62 ?_
      refine lv_iload_n hx hb dX5_tickets_65 rfl (lv_at hl 1 rfl) ?_
      refine lv_iload_n hx hb dX5_tickets_66 rfl (lv_at hl 2 rfl) ?_
      obtain ⟨h2, hf⟩ := gd hf
      refine m_ast C0 hW 2 6 (by decide) (by decide) rfl h2 dX5_tickets_67 (fun H locs hW => ?_)
      have hW : WM E B (u.1, (va_up u.2 2 (upd (u.2 2) x1.toNatClampNeg x2))) s H locs := hW
      refine lv_iload_n hx hb dX5_tickets_68 rfl (lv_at hl 3 rfl) ?_
      obtain rfl := Option.some.inj hf
      exact e_muI (QH := fP E (cM E B (u.1, (va_up u.2 2 (upd (u.2 2) x1.toNatClampNeg x2))))) C0 hW.2.2 rfl hW.2.1 dX5_tickets_69
    · have hf := el hf c1
      refine lv_aload_n hx hb dX5_tickets_29 rfl (lv_at hl 0 rfl) ?_
      refine m_get C0 hW.2.1 iX5_tickets_X5 5 (by decide) (by decide +kernel) rfl dX5_tickets_30 ?_
      refine lv_iload_n hx hb dX5_tickets_33 rfl (lv_at hl 1 rfl) ?_
      refine lv_iload hx hb dX5_tickets_34 (lv_at hl 4 rfl) ?_
      obtain ⟨h3, hf⟩ := gd hf
      refine m_ast C0 hW 2 6 (by decide) (by decide) rfl h3 dX5_tickets_36 (fun H locs hW => ?_)
      have hW : WM E B (u.1, (va_up u.2 2 (upd (u.2 2) x1.toNatClampNeg x4))) s H locs := hW
      refine lv_iload_n hx hb dX5_tickets_37 rfl (lv_at hl 3 rfl) ?_
      refine lv_aload_n hx hb dX5_tickets_38 rfl (lv_at hl 0 rfl) ?_
      obtain ⟨q4, h5, hf⟩ := bd hf
      refine k_roI (run_V (rest := [.int x3]) (n := 0) C0 (tX5_canBe E B h5) gX5_tickets_X5_canBe rfl rfl (by decide +kernel) (hW.2.1 0 _ rfl) rfl rfl hW.2.1 hl.1 rfl rfl (Nat.le_of_ble_eq_true rfl) dX5_tickets_39) ?_
      refine lv_if_eq (tgt := 52) hx hb dX5_tickets_42 (by decide) (fun c6 => ?_) (fun c6 => ?_)
      · have hf := th hf c6
        refine lv_iconst (v := (0 : Int32)) hx hb dX5_tickets_52 (by decide) ?_
        exact tX5_tickets_53 C0 ih hW (lv_sub hl [0, 1, 2, 4] rfl) hf
      · have hf := el hf c6
        refine lv_iconst (v := (1 : Int32)) hx hb dX5_tickets_45 (by decide) ?_
        refine lv_iload hx hb dX5_tickets_46 (lv_at hl 4 rfl) ?_
        refine lv_ishl hx hb dX5_tickets_48 ?_
        refine lv_goto (tgt := 53) hx hb dX5_tickets_49 (by decide) ?_
        exact tX5_tickets_53 C0 ih hW (lv_sub hl [0, 1, 2, 4] rfl) hf
set_option maxHeartbeats 4000000 in
set_option maxRecDepth 100000 in
theorem tX5_tickets_0 {p : Program} {l : Launch} {e : Env} {s : State} {m : MethodId} {args : Array Value} {below : List Frame} {meth : Method} {c : Code} {E : EE} {B : Nat → Nat} {out : Int32 × SM} (C0 : cx wsX5_tickets cX5_tickets 5 (some .int) RX5 E p s m args meth c) {x1 : Int32} {u : SM} {H : Heap} {locs : List Loc} {ls : Array Slot} (hW : WM E B u s H locs) (hl : lv_has ls 5 [(0, .ref (B 0)), (1, .int x1)]) (hf : fX5_tickets x1 u = some out) : W p l e rmX5_tickets s m args below meth c H locs 0 0 (MQ below (va_Qi (fun r (_ : Unit) => r = out.1) (fun _ t => fP E (cM E B out.2) t.heap) (aM B)) args s 0 0 (aM B)) (F0 m 0 ls []) := by
  obtain ⟨hx, hb, hr, hml, hown, hts, hlk, hK⟩ := id C0
  unfold fX5_tickets at hf
  refine lv_aload_n hx hb dX5_tickets_0 rfl (lv_at hl 0 rfl) ?_
  refine lv_iload_n hx hb dX5_tickets_1 rfl (lv_at hl 1 rfl) ?_
  obtain ⟨q1, h2, hf⟩ := bd hf
  refine k_roI (run_V (rest := []) (n := 1) C0 (tX5_noCitizen E B h2) gX5_tickets_X5_noCitizen rfl rfl (by decide +kernel) (hW.2.1 0 _ rfl) rfl rfl hW.2.1 hl.1 rfl rfl (Nat.le_of_ble_eq_true rfl) dX5_tickets_2) ?_
  refine lv_if_eq (tgt := 10) hx hb dX5_tickets_5 (by decide) (fun c3 => ?_) (fun c3 => ?_)
  · have hf := th hf c3
    refine lv_aload_n hx hb dX5_tickets_10 rfl (lv_at hl 0 rfl) ?_
    refine m_get C0 hW.2.1 iX5_tickets_X5 5 (by decide) (by decide +kernel) rfl dX5_tickets_11 ?_
    refine lv_iload_n hx hb dX5_tickets_14 rfl (lv_at hl 1 rfl) ?_
    obtain ⟨h4, hf⟩ := gd hf
    refine m_ald C0 hW.2.1 2 6 rfl h4 dX5_tickets_15 ?_
    refine lv_istore_n (lv' := [(2, .int (u.2 2 x1.toNatClampNeg)), (0, .ref (B 0)), (1, .int x1)]) hx hb dX5_tickets_16 rfl hl (by decide) rfl (fun ls hl => ?_)
    refine lv_iconst (v := (0 : Int32)) hx hb dX5_tickets_17 (by decide) ?_
    refine lv_istore_n (lv' := [(3, .int (0 : Int32)), (2, .int (u.2 2 x1.toNatClampNeg)), (0, .ref (B 0)), (1, .int x1)]) hx hb dX5_tickets_18 rfl hl (by decide) rfl (fun ls hl => ?_)
    refine lv_iconst (v := (1 : Int32)) hx hb dX5_tickets_19 (by decide) ?_
    refine lv_istore (lv' := [(4, .int (1 : Int32)), (3, .int (0 : Int32)), (2, .int (u.2 2 x1.toNatClampNeg)), (0, .ref (B 0)), (1, .int x1)]) hx hb dX5_tickets_20 hl (by decide) rfl (fun ls hl => ?_)
    exact tX5_tickets_22 C0 fu _ _ _ _ _ _ _ _ hW (lv_sub hl [3, 4, 2, 1, 0] rfl) hf
  · have hf := el hf c3
    refine lv_iconst (v := (-1 : Int32)) hx hb dX5_tickets_8 (by decide) ?_
    obtain rfl := Option.some.inj hf
    exact e_muI (QH := fP E (cM E B u)) C0 hW.2.2 rfl hW.2.1 dX5_tickets_9
set_option maxHeartbeats 4000000 in
set_option maxRecDepth 100000 in
theorem tX5_tickets {l : Launch} (E : EE) (B : Nat → Nat) {u : SM} {x1 : Int32} {out : Int32 × SM} (hB : iM B) (hf : fX5_tickets x1 u = some out) : muI l yX5_tickets wsX5_tickets rmX5_tickets E [.ref (B 0), .int x1] (aM B) (fP E (cM E B u)) (fP E (cM E B out.2)) out.1 := by
  refine Met.ofW (cc := cX5_tickets) (maxL := 5) (ret := (some .int)) (by decide) rfl ?_
  intro p e s m args below meth c s₁ B0 hml hv
  obtain ⟨rfl, hP, hK⟩ := hv
  have C0 : cx wsX5_tickets cX5_tickets 5 (some .int) RX5 E p s m _ meth c := ⟨B0.exec, B0.bytes, B0.returns, hml, findClass_of_methodNamed B0.named, atoms_spec (ws := wsX5_tickets) B0.pre, B0.notSynchronized, hK⟩
  have hl := lv_entry ([.ref (B 0), .int x1]) (n := 5) (Nat.le_of_ble_eq_true rfl)
  rw [lg_entry_eq]
  generalize (lg_sl ([.ref (B 0), .int x1]) ++ List.replicate (5 - (lg_sl ([.ref (B 0), .int x1])).length) Slot.unset).toArray = ls at hl ⊢
  exact tX5_tickets_0 C0 ⟨hB, hP, va_S.rf⟩ hl hf
abbrev rmX5_kinds : Room := { frames := 4, cells := 0, slots := 0, locals := 95 }
set_option maxRecDepth 20000 in
theorem iX5_kinds_X5 : ∀ w ∈ wsX50, w ∈ wsX5_kinds := by decide +kernel
set_option maxHeartbeats 4000000 in
set_option maxRecDepth 100000 in
theorem tX5_kinds_52 {p : Program} {l : Launch} {e : Env} {s : State} {m : MethodId} {args : Array Value} {below : List Frame} {meth : Method} {c : Code} {E : EE} {B : Nat → Nat} {out : Int32 × SM} {c22 : Int32 → Int32 → Int32 → Int32 → SM → Option (Int32 × SM)} (C0 : cx wsX5_kinds cX5_kinds 5 (some .int) RX5 E p s m args meth c) (hc22 : ∀ (x1 : Int32) (x2 : Int32) (x3 : Int32) (x4 : Int32) (u : SM) (H : Heap) (locs : List Loc) (ls : Array Slot) (_ : WM E B u s H locs), lv_has ls 5 [(0, .ref (B 0)), (1, .int x1), (2, .int x2), (3, .int x3), (4, .int x4)] → c22 x1 x2 x3 x4 u = some out → W p l e rmX5_kinds s m args below meth c H locs 0 0 (MQ below (va_Qi (fun r (_ : Unit) => r = out.1) (fun _ t => fP E (cM E B out.2) t.heap) (aM B)) args s 0 0 (aM B)) (F0 m 22 ls [])) {x1 : Int32} {x2 : Int32} {x4 : Int32} {xs0 : Int32} {xs1 : Int32} {u : SM} {H : Heap} {locs : List Loc} {ls : Array Slot} (hW : WM E B u s H locs) (hl : lv_has ls 5 [(0, .ref (B 0)), (1, .int x1), (2, .int x2), (4, .int x4)]) (hf : fX5_kinds_52 c22 x1 x2 x4 xs0 xs1 u = some out) : W p l e rmX5_kinds s m args below meth c H locs 0 0 (MQ below (va_Qi (fun r (_ : Unit) => r = out.1) (fun _ t => fP E (cM E B out.2) t.heap) (aM B)) args s 0 0 (aM B)) (F0 m 52 ls [.int xs1, .int xs0]) := by
  obtain ⟨hx, hb, hr, hml, hown, hts, hlk, hK⟩ := id C0
  unfold fX5_kinds_52 at hf
  refine lv_ior hx hb dX5_kinds_52 ?_
  refine lv_istore_n (lv' := [(3, .int (xs0 ||| xs1)), (0, .ref (B 0)), (1, .int x1), (2, .int x2), (4, .int x4)]) hx hb dX5_kinds_53 rfl hl (by decide) rfl (fun ls hl => ?_)
  refine lv_iinc (v := (x4 + (1 : Int32))) (lv' := [(4, .int (x4 + (1 : Int32))), (3, .int (xs0 ||| xs1)), (0, .ref (B 0)), (1, .int x1), (2, .int x2)]) hx hb dX5_kinds_54 hl (k := 4) rfl rfl (by decide) rfl (fun ls hl => ?_)
  refine lv_goto (tgt := 22) hx hb dX5_kinds_57 (by decide) ?_
  exact hc22 _ _ _ _ _ _ _ _ hW (lv_sub hl [2, 3, 4, 1, 0] rfl) hf
set_option maxHeartbeats 4000000 in
set_option maxRecDepth 100000 in
theorem tX5_kinds_22 {p : Program} {l : Launch} {e : Env} {s : State} {m : MethodId} {args : Array Value} {below : List Frame} {meth : Method} {c : Code} {E : EE} {B : Nat → Nat} {out : Int32 × SM} (C0 : cx wsX5_kinds cX5_kinds 5 (some .int) RX5 E p s m args meth c) : ∀ (n : Nat) (x1 : Int32) (x2 : Int32) (x3 : Int32) (x4 : Int32) (u : SM) (H : Heap) (locs : List Loc) (ls : Array Slot) (_ : WM E B u s H locs), lv_has ls 5 [(0, .ref (B 0)), (1, .int x1), (2, .int x2), (3, .int x3), (4, .int x4)] → fX5_kinds_22 n x1 x2 x3 x4 u = some out → W p l e rmX5_kinds s m args below meth c H locs 0 0 (MQ below (va_Qi (fun r (_ : Unit) => r = out.1) (fun _ t => fP E (cM E B out.2) t.heap) (aM B)) args s 0 0 (aM B)) (F0 m 22 ls []) := by
  obtain ⟨hx, hb, hr, hml, hown, hts, hlk, hK⟩ := id C0
  intro n
  induction n with
  | zero =>
    intro x1 x2 x3 x4 u H locs ls hW hl hf
    cases (show none = some out from hf)
  | succ n ih =>
    intro x1 x2 x3 x4 u H locs ls hW hl hf
    rw [fX5_kinds_22] at hf
    refine lv_iload hx hb dX5_kinds_22 (lv_at hl 4 rfl) ?_
    refine lv_iconst (v := (3 : Int32)) hx hb dX5_kinds_24 (by decide) ?_
    refine lv_icmp_ge (tgt := 60) hx hb dX5_kinds_25 (by decide) (fun c1 => ?_) (fun c1 => ?_)
    · have hf := th hf c1
      refine lv_aload_n hx hb dX5_kinds_60 rfl (lv_at hl 0 rfl) ?_
      refine m_get C0 hW.2.1 iX5_kinds_X5 4 (by decide) (by decide +kernel) rfl dX5_kinds_61 ?_
      refine lv_iload_n hx hb dX5_kinds_64 rfl (lv_at hl 1 rfl) ?_
      refine lv_iload_n hx hb dX5_kinds_65 rfl (lv_at hl 2 rfl) ?_
      obtain ⟨h2, hf⟩ := gd hf
      refine m_ast C0 hW 1 6 (by decide) (by decide) rfl h2 dX5_kinds_66 (fun H locs hW => ?_)
      have hW : WM E B (u.1, (va_up u.2 1 (upd (u.2 1) x1.toNatClampNeg x2))) s H locs := hW
      refine lv_iload_n hx hb dX5_kinds_67 rfl (lv_at hl 3 rfl) ?_
      obtain rfl := Option.some.inj hf
      exact e_muI (QH := fP E (cM E B (u.1, (va_up u.2 1 (upd (u.2 1) x1.toNatClampNeg x2))))) C0 hW.2.2 rfl hW.2.1 dX5_kinds_68
    · have hf := el hf c1
      refine lv_aload_n hx hb dX5_kinds_28 rfl (lv_at hl 0 rfl) ?_
      refine m_get C0 hW.2.1 iX5_kinds_X5 4 (by decide) (by decide +kernel) rfl dX5_kinds_29 ?_
      refine lv_iload_n hx hb dX5_kinds_32 rfl (lv_at hl 1 rfl) ?_
      refine lv_iload hx hb dX5_kinds_33 (lv_at hl 4 rfl) ?_
      obtain ⟨h3, hf⟩ := gd hf
      refine m_ast C0 hW 1 6 (by decide) (by decide) rfl h3 dX5_kinds_35 (fun H locs hW => ?_)
      have hW : WM E B (u.1, (va_up u.2 1 (upd (u.2 1) x1.toNatClampNeg x4))) s H locs := hW
      refine lv_iload_n hx hb dX5_kinds_36 rfl (lv_at hl 3 rfl) ?_
      refine lv_aload_n hx hb dX5_kinds_37 rfl (lv_at hl 0 rfl) ?_
      obtain ⟨q4, h5, hf⟩ := bd hf
      refine k_roI (run_V (rest := [.int x3]) (n := 0) C0 (tX5_canBe E B h5) gX5_kinds_X5_canBe rfl rfl (by decide +kernel) (hW.2.1 0 _ rfl) rfl rfl hW.2.1 hl.1 rfl rfl (Nat.le_of_ble_eq_true rfl) dX5_kinds_38) ?_
      refine lv_if_eq (tgt := 51) hx hb dX5_kinds_41 (by decide) (fun c6 => ?_) (fun c6 => ?_)
      · have hf := th hf c6
        refine lv_iconst (v := (0 : Int32)) hx hb dX5_kinds_51 (by decide) ?_
        exact tX5_kinds_52 C0 ih hW (lv_sub hl [0, 1, 2, 4] rfl) hf
      · have hf := el hf c6
        refine lv_iconst (v := (1 : Int32)) hx hb dX5_kinds_44 (by decide) ?_
        refine lv_iload hx hb dX5_kinds_45 (lv_at hl 4 rfl) ?_
        refine lv_ishl hx hb dX5_kinds_47 ?_
        refine lv_goto (tgt := 52) hx hb dX5_kinds_48 (by decide) ?_
        exact tX5_kinds_52 C0 ih hW (lv_sub hl [0, 1, 2, 4] rfl) hf
set_option maxHeartbeats 4000000 in
set_option maxRecDepth 100000 in
theorem tX5_kinds_0 {p : Program} {l : Launch} {e : Env} {s : State} {m : MethodId} {args : Array Value} {below : List Frame} {meth : Method} {c : Code} {E : EE} {B : Nat → Nat} {out : Int32 × SM} (C0 : cx wsX5_kinds cX5_kinds 5 (some .int) RX5 E p s m args meth c) {x1 : Int32} {u : SM} {H : Heap} {locs : List Loc} {ls : Array Slot} (hW : WM E B u s H locs) (hl : lv_has ls 5 [(0, .ref (B 0)), (1, .int x1)]) (hf : fX5_kinds x1 u = some out) : W p l e rmX5_kinds s m args below meth c H locs 0 0 (MQ below (va_Qi (fun r (_ : Unit) => r = out.1) (fun _ t => fP E (cM E B out.2) t.heap) (aM B)) args s 0 0 (aM B)) (F0 m 0 ls []) := by
  obtain ⟨hx, hb, hr, hml, hown, hts, hlk, hK⟩ := id C0
  unfold fX5_kinds at hf
  refine lv_aload_n hx hb dX5_kinds_0 rfl (lv_at hl 0 rfl) ?_
  refine lv_iload_n hx hb dX5_kinds_1 rfl (lv_at hl 1 rfl) ?_
  obtain ⟨q1, h2, hf⟩ := bd hf
  refine k_roI (run_V (rest := []) (n := 1) C0 (tX5_noCitizen E B h2) gX5_kinds_X5_noCitizen rfl rfl (by decide +kernel) (hW.2.1 0 _ rfl) rfl rfl hW.2.1 hl.1 rfl rfl (Nat.le_of_ble_eq_true rfl) dX5_kinds_2) ?_
  refine lv_if_eq (tgt := 10) hx hb dX5_kinds_5 (by decide) (fun c3 => ?_) (fun c3 => ?_)
  · have hf := th hf c3
    refine lv_aload_n hx hb dX5_kinds_10 rfl (lv_at hl 0 rfl) ?_
    refine m_get C0 hW.2.1 iX5_kinds_X5 4 (by decide) (by decide +kernel) rfl dX5_kinds_11 ?_
    refine lv_iload_n hx hb dX5_kinds_14 rfl (lv_at hl 1 rfl) ?_
    obtain ⟨h4, hf⟩ := gd hf
    refine m_ald C0 hW.2.1 1 6 rfl h4 dX5_kinds_15 ?_
    refine lv_istore_n (lv' := [(2, .int (u.2 1 x1.toNatClampNeg)), (0, .ref (B 0)), (1, .int x1)]) hx hb dX5_kinds_16 rfl hl (by decide) rfl (fun ls hl => ?_)
    refine lv_iconst (v := (0 : Int32)) hx hb dX5_kinds_17 (by decide) ?_
    refine lv_istore_n (lv' := [(3, .int (0 : Int32)), (2, .int (u.2 1 x1.toNatClampNeg)), (0, .ref (B 0)), (1, .int x1)]) hx hb dX5_kinds_18 rfl hl (by decide) rfl (fun ls hl => ?_)
    refine lv_iconst (v := (0 : Int32)) hx hb dX5_kinds_19 (by decide) ?_
    refine lv_istore (lv' := [(4, .int (0 : Int32)), (3, .int (0 : Int32)), (2, .int (u.2 1 x1.toNatClampNeg)), (0, .ref (B 0)), (1, .int x1)]) hx hb dX5_kinds_20 hl (by decide) rfl (fun ls hl => ?_)
    exact tX5_kinds_22 C0 fu _ _ _ _ _ _ _ _ hW (lv_sub hl [3, 4, 2, 1, 0] rfl) hf
  · have hf := el hf c3
    refine lv_iconst (v := (-1 : Int32)) hx hb dX5_kinds_8 (by decide) ?_
    obtain rfl := Option.some.inj hf
    exact e_muI (QH := fP E (cM E B u)) C0 hW.2.2 rfl hW.2.1 dX5_kinds_9
set_option maxHeartbeats 4000000 in
set_option maxRecDepth 100000 in
theorem tX5_kinds {l : Launch} (E : EE) (B : Nat → Nat) {u : SM} {x1 : Int32} {out : Int32 × SM} (hB : iM B) (hf : fX5_kinds x1 u = some out) : muI l yX5_kinds wsX5_kinds rmX5_kinds E [.ref (B 0), .int x1] (aM B) (fP E (cM E B u)) (fP E (cM E B out.2)) out.1 := by
  refine Met.ofW (cc := cX5_kinds) (maxL := 5) (ret := (some .int)) (by decide) rfl ?_
  intro p e s m args below meth c s₁ B0 hml hv
  obtain ⟨rfl, hP, hK⟩ := hv
  have C0 : cx wsX5_kinds cX5_kinds 5 (some .int) RX5 E p s m _ meth c := ⟨B0.exec, B0.bytes, B0.returns, hml, findClass_of_methodNamed B0.named, atoms_spec (ws := wsX5_kinds) B0.pre, B0.notSynchronized, hK⟩
  have hl := lv_entry ([.ref (B 0), .int x1]) (n := 5) (Nat.le_of_ble_eq_true rfl)
  rw [lg_entry_eq]
  generalize (lg_sl ([.ref (B 0), .int x1]) ++ List.replicate (5 - (lg_sl ([.ref (B 0), .int x1])).length) Slot.unset).toArray = ls at hl ⊢
  exact tX5_kinds_0 C0 ⟨hB, hP, va_S.rf⟩ hl hf
abbrev rmX5_counts : Room := { frames := 4, cells := 0, slots := 0, locals := 95 }
set_option maxRecDepth 20000 in
theorem iX5_counts_X5 : ∀ w ∈ wsX50, w ∈ wsX5_counts := by decide +kernel
set_option maxHeartbeats 4000000 in
set_option maxRecDepth 100000 in
theorem tX5_counts_45 {p : Program} {l : Launch} {e : Env} {s : State} {m : MethodId} {args : Array Value} {below : List Frame} {meth : Method} {c : Code} {E : EE} {B : Nat → Nat} {out : Int32 × SM} {c19 : Int32 → Int32 → Int32 → SM → Option (Int32 × SM)} (C0 : cx wsX5_counts cX5_counts 4 (some .int) RX5 E p s m args meth c) (hc19 : ∀ (x1 : Int32) (x2 : Int32) (x3 : Int32) (u : SM) (H : Heap) (locs : List Loc) (ls : Array Slot) (_ : WM E B u s H locs), lv_has ls 4 [(0, .ref (B 0)), (1, .int x1), (2, .int x2), (3, .int x3)] → c19 x1 x2 x3 u = some out → W p l e rmX5_counts s m args below meth c H locs 0 0 (MQ below (va_Qi (fun r (_ : Unit) => r = out.1) (fun _ t => fP E (cM E B out.2) t.heap) (aM B)) args s 0 0 (aM B)) (F0 m 19 ls [])) {x1 : Int32} {x3 : Int32} {xs0 : Int32} {xs1 : Int32} {u : SM} {H : Heap} {locs : List Loc} {ls : Array Slot} (hW : WM E B u s H locs) (hl : lv_has ls 4 [(0, .ref (B 0)), (1, .int x1), (3, .int x3)]) (hf : fX5_counts_45 c19 x1 x3 xs0 xs1 u = some out) : W p l e rmX5_counts s m args below meth c H locs 0 0 (MQ below (va_Qi (fun r (_ : Unit) => r = out.1) (fun _ t => fP E (cM E B out.2) t.heap) (aM B)) args s 0 0 (aM B)) (F0 m 45 ls [.int xs1, .int xs0]) := by
  obtain ⟨hx, hb, hr, hml, hown, hts, hlk, hK⟩ := id C0
  unfold fX5_counts_45 at hf
  refine lv_ior hx hb dX5_counts_45 ?_
  refine lv_istore_n (lv' := [(2, .int (xs0 ||| xs1)), (0, .ref (B 0)), (1, .int x1), (3, .int x3)]) hx hb dX5_counts_46 rfl hl (by decide) rfl (fun ls hl => ?_)
  refine lv_iinc (v := (x3 + (1 : Int32))) (lv' := [(3, .int (x3 + (1 : Int32))), (2, .int (xs0 ||| xs1)), (0, .ref (B 0)), (1, .int x1)]) hx hb dX5_counts_47 hl (k := 3) rfl rfl (by decide) rfl (fun ls hl => ?_)
  refine lv_goto (tgt := 19) hx hb dX5_counts_50 (by decide) ?_
  exact hc19 _ _ _ _ _ _ _ hW (lv_sub hl [2, 3, 1, 0] rfl) hf
set_option maxHeartbeats 4000000 in
set_option maxRecDepth 100000 in
theorem tX5_counts_19 {p : Program} {l : Launch} {e : Env} {s : State} {m : MethodId} {args : Array Value} {below : List Frame} {meth : Method} {c : Code} {E : EE} {B : Nat → Nat} {out : Int32 × SM} (C0 : cx wsX5_counts cX5_counts 4 (some .int) RX5 E p s m args meth c) : ∀ (n : Nat) (x1 : Int32) (x2 : Int32) (x3 : Int32) (u : SM) (H : Heap) (locs : List Loc) (ls : Array Slot) (_ : WM E B u s H locs), lv_has ls 4 [(0, .ref (B 0)), (1, .int x1), (2, .int x2), (3, .int x3)] → fX5_counts_19 n x1 x2 x3 u = some out → W p l e rmX5_counts s m args below meth c H locs 0 0 (MQ below (va_Qi (fun r (_ : Unit) => r = out.1) (fun _ t => fP E (cM E B out.2) t.heap) (aM B)) args s 0 0 (aM B)) (F0 m 19 ls []) := by
  obtain ⟨hx, hb, hr, hml, hown, hts, hlk, hK⟩ := id C0
  intro n
  induction n with
  | zero =>
    intro x1 x2 x3 u H locs ls hW hl hf
    cases (show none = some out from hf)
  | succ n ih =>
    intro x1 x2 x3 u H locs ls hW hl hf
    rw [fX5_counts_19] at hf
    refine lv_iload_n hx hb dX5_counts_19 rfl (lv_at hl 3 rfl) ?_
    refine lv_bipush (v := (7 : Int32)) hx hb dX5_counts_20 (by decide) ?_
    refine lv_icmp_ge (tgt := 53) hx hb dX5_counts_22 (by decide) (fun c1 => ?_) (fun c1 => ?_)
    · have hf := th hf c1
      refine lv_aload_n hx hb dX5_counts_53 rfl (lv_at hl 0 rfl) ?_
      refine lv_iload_n hx hb dX5_counts_54 rfl (lv_at hl 1 rfl) ?_
      refine m_put C0 hW iX5_counts_X5 1 (by decide) (by decide +kernel) rfl (by decide +kernel) rfl dX5_counts_55 (fun H locs hW => ?_)
      have hW : WM E B ((upd u.1 1 x1), u.2) s H locs := hW
      refine lv_iload_n hx hb dX5_counts_58 rfl (lv_at hl 2 rfl) ?_
      obtain rfl := Option.some.inj hf
      exact e_muI (QH := fP E (cM E B ((upd u.1 1 x1), u.2))) C0 hW.2.2 rfl hW.2.1 dX5_counts_59
    · have hf := el hf c1
      refine lv_aload_n hx hb dX5_counts_25 rfl (lv_at hl 0 rfl) ?_
      refine lv_iload_n hx hb dX5_counts_26 rfl (lv_at hl 3 rfl) ?_
      refine m_put C0 hW iX5_counts_X5 1 (by decide) (by decide +kernel) rfl (by decide +kernel) rfl dX5_counts_27 (fun H locs hW => ?_)
      have hW : WM E B ((upd u.1 1 x3), u.2) s H locs := hW
      refine lv_iload_n hx hb dX5_counts_30 rfl (lv_at hl 2 rfl) ?_
      refine lv_aload_n hx hb dX5_counts_31 rfl (lv_at hl 0 rfl) ?_
      obtain ⟨q2, h3, hf⟩ := bd hf
      refine k_roI (run_V (rest := [.int x2]) (n := 0) C0 (tX5_canBe E B h3) gX5_counts_X5_canBe rfl rfl (by decide +kernel) (hW.2.1 0 _ rfl) rfl rfl hW.2.1 hl.1 rfl rfl (Nat.le_of_ble_eq_true rfl) dX5_counts_32) ?_
      refine lv_if_eq (tgt := 44) hx hb dX5_counts_35 (by decide) (fun c4 => ?_) (fun c4 => ?_)
      · have hf := th hf c4
        refine lv_iconst (v := (0 : Int32)) hx hb dX5_counts_44 (by decide) ?_
        exact tX5_counts_45 C0 ih hW (lv_sub hl [0, 1, 3] rfl) hf
      · have hf := el hf c4
        refine lv_iconst (v := (1 : Int32)) hx hb dX5_counts_38 (by decide) ?_
        refine lv_iload_n hx hb dX5_counts_39 rfl (lv_at hl 3 rfl) ?_
        refine lv_ishl hx hb dX5_counts_40 ?_
        refine lv_goto (tgt := 45) hx hb dX5_counts_41 (by decide) ?_
        exact tX5_counts_45 C0 ih hW (lv_sub hl [0, 1, 3] rfl) hf
set_option maxHeartbeats 4000000 in
set_option maxRecDepth 100000 in
theorem tX5_counts_0 {p : Program} {l : Launch} {e : Env} {s : State} {m : MethodId} {args : Array Value} {below : List Frame} {meth : Method} {c : Code} {E : EE} {B : Nat → Nat} {out : Int32 × SM} (C0 : cx wsX5_counts cX5_counts 4 (some .int) RX5 E p s m args meth c) {u : SM} {H : Heap} {locs : List Loc} {ls : Array Slot} (hW : WM E B u s H locs) (hl : lv_has ls 4 [(0, .ref (B 0))]) (hf : fX5_counts u = some out) : W p l e rmX5_counts s m args below meth c H locs 0 0 (MQ below (va_Qi (fun r (_ : Unit) => r = out.1) (fun _ t => fP E (cM E B out.2) t.heap) (aM B)) args s 0 0 (aM B)) (F0 m 0 ls []) := by
  obtain ⟨hx, hb, hr, hml, hown, hts, hlk, hK⟩ := id C0
  unfold fX5_counts at hf
  refine lv_aload_n hx hb dX5_counts_0 rfl (lv_at hl 0 rfl) ?_
  refine m_get C0 hW.2.1 iX5_counts_X5 3 (by decide) (by decide +kernel) rfl dX5_counts_1 ?_
  refine lv_if_ne (tgt := 10) hx hb dX5_counts_4 (by decide) (fun c1 => ?_) (fun c1 => ?_)
  · have hf := el hf c1
    refine lv_aload_n hx hb dX5_counts_10 rfl (lv_at hl 0 rfl) ?_
    refine m_get C0 hW.2.1 iX5_counts_X5 1 (by decide) (by decide +kernel) rfl dX5_counts_11 ?_
    refine lv_istore_n (lv' := [(1, .int (u.1 1)), (0, .ref (B 0))]) hx hb dX5_counts_14 rfl hl (by decide) rfl (fun ls hl => ?_)
    refine lv_iconst (v := (0 : Int32)) hx hb dX5_counts_15 (by decide) ?_
    refine lv_istore_n (lv' := [(2, .int (0 : Int32)), (1, .int (u.1 1)), (0, .ref (B 0))]) hx hb dX5_counts_16 rfl hl (by decide) rfl (fun ls hl => ?_)
    refine lv_iconst (v := (0 : Int32)) hx hb dX5_counts_17 (by decide) ?_
    refine lv_istore_n (lv' := [(3, .int (0 : Int32)), (2, .int (0 : Int32)), (1, .int (u.1 1)), (0, .ref (B 0))]) hx hb dX5_counts_18 rfl hl (by decide) rfl (fun ls hl => ?_)
    exact tX5_counts_19 C0 fu _ _ _ _ _ _ _ hW (lv_sub hl [3, 2, 1, 0] rfl) hf
  · have hf := th hf c1
    refine lv_bipush (v := (-3 : Int32)) hx hb dX5_counts_7 (by decide) ?_
    obtain rfl := Option.some.inj hf
    exact e_muI (QH := fP E (cM E B u)) C0 hW.2.2 rfl hW.2.1 dX5_counts_9
set_option maxHeartbeats 4000000 in
set_option maxRecDepth 100000 in
theorem tX5_counts {l : Launch} (E : EE) (B : Nat → Nat) {u : SM} {out : Int32 × SM} (hB : iM B) (hf : fX5_counts u = some out) : muI l yX5_counts wsX5_counts rmX5_counts E [.ref (B 0)] (aM B) (fP E (cM E B u)) (fP E (cM E B out.2)) out.1 := by
  refine Met.ofW (cc := cX5_counts) (maxL := 4) (ret := (some .int)) (by decide) rfl ?_
  intro p e s m args below meth c s₁ B0 hml hv
  obtain ⟨rfl, hP, hK⟩ := hv
  have C0 : cx wsX5_counts cX5_counts 4 (some .int) RX5 E p s m _ meth c := ⟨B0.exec, B0.bytes, B0.returns, hml, findClass_of_methodNamed B0.named, atoms_spec (ws := wsX5_counts) B0.pre, B0.notSynchronized, hK⟩
  have hl := lv_entry ([.ref (B 0)]) (n := 4) (Nat.le_of_ble_eq_true rfl)
  rw [lg_entry_eq]
  generalize (lg_sl ([.ref (B 0)]) ++ List.replicate (4 - (lg_sl ([.ref (B 0)])).length) Slot.unset).toArray = ls at hl ⊢
  exact tX5_counts_0 C0 ⟨hB, hP, va_S.rf⟩ hl hf
abbrev rmX5_sheet : Room := { frames := 2, cells := 0, slots := 0, locals := 45 }
set_option maxRecDepth 20000 in
theorem iX5_sheet_X5 : ∀ w ∈ wsX50, w ∈ wsX5_sheet := by decide +kernel
set_option maxHeartbeats 4000000 in
set_option maxRecDepth 100000 in
theorem tX5_sheet_31 {p : Program} {l : Launch} {e : Env} {s : State} {m : MethodId} {args : Array Value} {below : List Frame} {meth : Method} {c : Code} {E : EE} {B : Nat → Nat} {out : Int32 × SM} (C0 : cx wsX5_sheet cX5_sheet 5 (some .int) RX5 E p s m args meth c) {u : SM} {H : Heap} {locs : List Loc} {ls : Array Slot} (hW : WM E B u s H locs) (hl : lv_has ls 5 [(0, .ref (B 0))]) (hf : fX5_sheet_31 u = some out) : W p l e rmX5_sheet s m args below meth c H locs 0 0 (MQ below (va_Qi (fun r (_ : Unit) => r = out.1) (fun _ t => fP E (cM E B out.2) t.heap) (aM B)) args s 0 0 (aM B)) (F0 m 31 ls []) := by
  obtain ⟨hx, hb, hr, hml, hown, hts, hlk, hK⟩ := id C0
  unfold fX5_sheet_31 at hf
  refine lv_aload_n hx hb dX5_sheet_31 rfl (lv_at hl 0 rfl) ?_
  refine lv_bipush (v := (-2 : Int32)) hx hb dX5_sheet_32 (by decide) ?_
  obtain ⟨q1, h2, hf⟩ := bd hf
  refine k_muI (run_V (rest := []) (n := 1) C0 (tX5_refused E B hW.1 h2) gX5_sheet_X5_refused rfl rfl (by decide +kernel) (hW.2.1 0 _ rfl) rfl rfl hW.2.1 hl.1 rfl rfl (Nat.le_of_ble_eq_true rfl) dX5_sheet_34) hW.2.2 (fun _ h => h) (fun H locs hQ _ hS => ?_)
  have hW : WM E B q1.2 s H locs := ⟨hW.1, hQ, hS⟩
  obtain rfl := Option.some.inj hf
  exact e_muI (QH := fP E (cM E B q1.2)) C0 hW.2.2 rfl hW.2.1 dX5_sheet_37
set_option maxHeartbeats 4000000 in
set_option maxRecDepth 100000 in
theorem tX5_sheet_65 {p : Program} {l : Launch} {e : Env} {s : State} {m : MethodId} {args : Array Value} {below : List Frame} {meth : Method} {c : Code} {E : EE} {B : Nat → Nat} {out : Int32 × SM} (C0 : cx wsX5_sheet cX5_sheet 5 (some .int) RX5 E p s m args meth c) : ∀ (n : Nat) (x1 : Int32) (x3 : Int32) (x4 : Int32) (u : SM) (H : Heap) (locs : List Loc) (ls : Array Slot) (_ : WM E B u s H locs), lv_has ls 5 [(0, .ref (B 0)), (1, .int x1), (3, .int x3), (4, .int x4)] → fX5_sheet_65 n x1 x3 x4 u = some out → W p l e rmX5_sheet s m args below meth c H locs 0 0 (MQ below (va_Qi (fun r (_ : Unit) => r = out.1) (fun _ t => fP E (cM E B out.2) t.heap) (aM B)) args s 0 0 (aM B)) (F0 m 65 ls []) := by
  obtain ⟨hx, hb, hr, hml, hown, hts, hlk, hK⟩ := id C0
  intro n
  induction n with
  | zero =>
    intro x1 x3 x4 u H locs ls hW hl hf
    cases (show none = some out from hf)
  | succ n ih =>
    intro x1 x3 x4 u H locs ls hW hl hf
    rw [fX5_sheet_65] at hf
    refine lv_iload hx hb dX5_sheet_65 (lv_at hl 3 rfl) ?_
    refine lv_iload_n hx hb dX5_sheet_67 rfl (lv_at hl 2 rfl) ?_
    refine lv_icmp_ge (tgt := 90) hx hb dX5_sheet_68 (by decide) (fun c1 => ?_) (fun c1 => ?_)
    · have hf := th hf c1
      refine lv_aload_n hx hb dX5_sheet_90 rfl (lv_at hl 0 rfl) ?_
      refine lv_iconst (v := (1 : Int32)) hx hb dX5_sheet_91 (by decide) ?_
      obtain ⟨q2, h3, hf⟩ := bd hf
      refine k_muI (run_V (rest := []) (n := 1) C0 (tX5_refused E B hW.1 h3) gX5_sheet_X5_refused rfl rfl (by decide +kernel) (hW.2.1 0 _ rfl) rfl rfl hW.2.1 hl.1 rfl rfl (Nat.le_of_ble_eq_true rfl) dX5_sheet_92) hW.2.2 (fun _ h => h) (fun H locs hQ _ hS => ?_)
      have hW : WM E B q2.2 s H locs := ⟨hW.1, hQ, hS⟩
      obtain rfl := Option.some.inj hf
      exact e_muI (QH := fP E (cM E B q2.2)) C0 hW.2.2 rfl hW.2.1 dX5_sheet_95
    · have hf := el hf c1
      refine lv_aload_n hx hb dX5_sheet_71 rfl (lv_at hl 0 rfl) ?_
      refine m_get C0 hW.2.1 iX5_sheet_X5 21 (by decide) (by decide +kernel) rfl dX5_sheet_72 ?_
      refine lv_bipush (v := (60 : Int32)) hx hb dX5_sheet_75 (by decide) ?_
      refine lv_iload_n hx hb dX5_sheet_77 rfl (lv_at hl 1 rfl) ?_
      refine lv_imul hx hb dX5_sheet_78 ?_
      refine lv_iload hx hb dX5_sheet_79 (lv_at hl 3 rfl) ?_
      refine lv_iadd hx hb dX5_sheet_81 ?_
      refine lv_iconst (v := (0 : Int32)) hx hb dX5_sheet_82 (by decide) ?_
      obtain ⟨h4, hf⟩ := gd hf
      refine m_ast C0 hW 10 240 (by decide) (by decide) rfl h4 dX5_sheet_83 (fun H locs hW => ?_)
      have hW : WM E B (u.1, (va_up u.2 10 (upd (u.2 10) ((((60 : Int32) * x1) + x4).toNatClampNeg) (0 : Int32)))) s H locs := hW
      refine lv_iinc (v := (x4 + (1 : Int32))) (lv' := [(4, .int (x4 + (1 : Int32))), (0, .ref (B 0)), (1, .int x1), (3, .int x3)]) hx hb dX5_sheet_84 hl (k := 3) rfl rfl (by decide) rfl (fun ls hl => ?_)
      refine lv_goto (tgt := 65) hx hb dX5_sheet_87 (by decide) ?_
      exact ih _ _ _ _ _ _ _ hW (lv_sub hl [1, 2, 3, 0] rfl) hf
set_option maxHeartbeats 4000000 in
set_option maxRecDepth 100000 in
theorem tX5_sheet_0 {p : Program} {l : Launch} {e : Env} {s : State} {m : MethodId} {args : Array Value} {below : List Frame} {meth : Method} {c : Code} {E : EE} {B : Nat → Nat} {out : Int32 × SM} (C0 : cx wsX5_sheet cX5_sheet 5 (some .int) RX5 E p s m args meth c) {x1 : Int32} {x2 : Int32} {x3 : Int32} {u : SM} {H : Heap} {locs : List Loc} {ls : Array Slot} (hW : WM E B u s H locs) (hl : lv_has ls 5 [(0, .ref (B 0)), (1, .int x1), (2, .int x2), (3, .int x3)]) (hf : fX5_sheet x1 x2 x3 u = some out) : W p l e rmX5_sheet s m args below meth c H locs 0 0 (MQ below (va_Qi (fun r (_ : Unit) => r = out.1) (fun _ t => fP E (cM E B out.2) t.heap) (aM B)) args s 0 0 (aM B)) (F0 m 0 ls []) := by
  obtain ⟨hx, hb, hr, hml, hown, hts, hlk, hK⟩ := id C0
  unfold fX5_sheet at hf
  refine lv_iload_n hx hb dX5_sheet_0 rfl (lv_at hl 1 rfl) ?_
  obtain ⟨q1, h2, hf⟩ := bd hf
  refine k_roI (run_S (rest := []) (n := 1) (PH := fun _ => True) C0 (tX5_noSheet E h2) gX5_sheet_X5_noSheet rfl rfl (by decide +kernel) trivial hl.1 rfl rfl (Nat.le_of_ble_eq_true rfl) dX5_sheet_1) ?_
  refine lv_if_eq (tgt := 13) hx hb dX5_sheet_4 (by decide) (fun c3 => ?_) (fun c3 => ?_)
  · have hf := th hf c3
    refine lv_iload_n hx hb dX5_sheet_13 rfl (lv_at hl 2 rfl) ?_
    refine lv_i2l (v := x2.toInt64) hx hb dX5_sheet_14 rfl ?_
    refine lv_lconst (v := (0 : Int64)) hx hb dX5_sheet_15 (by decide) ?_
    refine lv_ldc2 hx hb hown (hts (.constantLong RX5 102 (2)) (by decide +kernel)) dX5_sheet_16 ?_
    obtain ⟨q4, h5, hf⟩ := bd hf
    refine k_roI (run_S (rest := []) (n := 3) (PH := fun _ => True) C0 (tX5_in E h5) gX5_sheet_X5_in rfl rfl (by decide +kernel) trivial hl.1 rfl rfl (Nat.le_of_ble_eq_true rfl) dX5_sheet_19) ?_
    refine lv_if_eq (tgt := 31) hx hb dX5_sheet_22 (by decide) (fun c6 => ?_) (fun c6 => ?_)
    · have hf := th hf c6
      exact tX5_sheet_31 C0 hW (lv_sub hl [0] rfl) hf
    · have hf := el hf c6
      refine lv_iload_n hx hb dX5_sheet_25 rfl (lv_at hl 3 rfl) ?_
      refine lv_bipush (v := (60 : Int32)) hx hb dX5_sheet_26 (by decide) ?_
      refine lv_icmp_le (tgt := 38) hx hb dX5_sheet_28 (by decide) (fun c7 => ?_) (fun c7 => ?_)
      · have hf := th hf c7
        refine lv_iload_n hx hb dX5_sheet_38 rfl (lv_at hl 3 rfl) ?_
        refine lv_if_ge (tgt := 48) hx hb dX5_sheet_39 (by decide) (fun c8 => ?_) (fun c8 => ?_)
        · have hf := th hf c8
          refine lv_aload_n hx hb dX5_sheet_48 rfl (lv_at hl 0 rfl) ?_
          refine m_get C0 hW.2.1 iX5_sheet_X5 19 (by decide) (by decide +kernel) rfl dX5_sheet_49 ?_
          refine lv_iload_n hx hb dX5_sheet_52 rfl (lv_at hl 1 rfl) ?_
          refine lv_iload_n hx hb dX5_sheet_53 rfl (lv_at hl 3 rfl) ?_
          obtain ⟨h9, hf⟩ := gd hf
          refine m_ast C0 hW 8 4 (by decide) (by decide) rfl h9 dX5_sheet_54 (fun H locs hW => ?_)
          have hW : WM E B (u.1, (va_up u.2 8 (upd (u.2 8) x1.toNatClampNeg x3))) s H locs := hW
          refine lv_aload_n hx hb dX5_sheet_55 rfl (lv_at hl 0 rfl) ?_
          refine m_get C0 hW.2.1 iX5_sheet_X5 20 (by decide) (by decide +kernel) rfl dX5_sheet_56 ?_
          refine lv_iload_n hx hb dX5_sheet_59 rfl (lv_at hl 1 rfl) ?_
          refine lv_iload_n hx hb dX5_sheet_60 rfl (lv_at hl 2 rfl) ?_
          obtain ⟨h10, hf⟩ := gd hf
          refine m_ast C0 hW 9 4 (by decide) (by decide) rfl h10 dX5_sheet_61 (fun H locs hW => ?_)
          have hW : WM E B (u.1, (va_up (va_up u.2 8 (upd (u.2 8) x1.toNatClampNeg x3)) 9 (upd ((va_up u.2 8 (upd (u.2 8) x1.toNatClampNeg x3)) 9) x1.toNatClampNeg x2))) s H locs := hW
          refine lv_iconst (v := (0 : Int32)) hx hb dX5_sheet_62 (by decide) ?_
          refine lv_istore (lv' := [(4, .int (0 : Int32)), (0, .ref (B 0)), (1, .int x1), (2, .int x2), (3, .int x3)]) hx hb dX5_sheet_63 hl (by decide) rfl (fun ls hl => ?_)
          exact tX5_sheet_65 C0 fu _ _ _ _ _ _ _ hW (lv_sub hl [1, 2, 4, 0] rfl) hf
        · have hf := el hf c8
          refine lv_aload_n hx hb dX5_sheet_42 rfl (lv_at hl 0 rfl) ?_
          refine lv_iconst (v := (4 : Int32)) hx hb dX5_sheet_43 (by decide) ?_
          obtain ⟨q11, h12, hf⟩ := bd hf
          refine k_muI (run_V (rest := []) (n := 1) C0 (tX5_failed E B hW.1 h12) gX5_sheet_X5_failed rfl rfl (by decide +kernel) (hW.2.1 0 _ rfl) rfl rfl hW.2.1 hl.1 rfl rfl (Nat.le_of_ble_eq_true rfl) dX5_sheet_44) hW.2.2 (fun _ h => h) (fun H locs hQ _ hS => ?_)
          have hW : WM E B q11.2 s H locs := ⟨hW.1, hQ, hS⟩
          obtain rfl := Option.some.inj hf
          exact e_muI (QH := fP E (cM E B q11.2)) C0 hW.2.2 rfl hW.2.1 dX5_sheet_47
      · have hf := el hf c7
        exact tX5_sheet_31 C0 hW (lv_sub hl [0] rfl) hf
  · have hf := el hf c3
    refine lv_aload_n hx hb dX5_sheet_7 rfl (lv_at hl 0 rfl) ?_
    refine lv_iconst (v := (-1 : Int32)) hx hb dX5_sheet_8 (by decide) ?_
    obtain ⟨q13, h14, hf⟩ := bd hf
    refine k_muI (run_V (rest := []) (n := 1) C0 (tX5_refused E B hW.1 h14) gX5_sheet_X5_refused rfl rfl (by decide +kernel) (hW.2.1 0 _ rfl) rfl rfl hW.2.1 hl.1 rfl rfl (Nat.le_of_ble_eq_true rfl) dX5_sheet_9) hW.2.2 (fun _ h => h) (fun H locs hQ _ hS => ?_)
    have hW : WM E B q13.2 s H locs := ⟨hW.1, hQ, hS⟩
    obtain rfl := Option.some.inj hf
    exact e_muI (QH := fP E (cM E B q13.2)) C0 hW.2.2 rfl hW.2.1 dX5_sheet_12
set_option maxHeartbeats 4000000 in
set_option maxRecDepth 100000 in
theorem tX5_sheet {l : Launch} (E : EE) (B : Nat → Nat) {u : SM} {x1 : Int32} {x2 : Int32} {x3 : Int32} {out : Int32 × SM} (hB : iM B) (hf : fX5_sheet x1 x2 x3 u = some out) : muI l yX5_sheet wsX5_sheet rmX5_sheet E [.ref (B 0), .int x1, .int x2, .int x3] (aM B) (fP E (cM E B u)) (fP E (cM E B out.2)) out.1 := by
  refine Met.ofW (cc := cX5_sheet) (maxL := 5) (ret := (some .int)) (by decide) rfl ?_
  intro p e s m args below meth c s₁ B0 hml hv
  obtain ⟨rfl, hP, hK⟩ := hv
  have C0 : cx wsX5_sheet cX5_sheet 5 (some .int) RX5 E p s m _ meth c := ⟨B0.exec, B0.bytes, B0.returns, hml, findClass_of_methodNamed B0.named, atoms_spec (ws := wsX5_sheet) B0.pre, B0.notSynchronized, hK⟩
  have hl := lv_entry ([.ref (B 0), .int x1, .int x2, .int x3]) (n := 5) (Nat.le_of_ble_eq_true rfl)
  rw [lg_entry_eq]
  generalize (lg_sl ([.ref (B 0), .int x1, .int x2, .int x3]) ++ List.replicate (5 - (lg_sl ([.ref (B 0), .int x1, .int x2, .int x3])).length) Slot.unset).toArray = ls at hl ⊢
  exact tX5_sheet_0 C0 ⟨hB, hP, va_S.rf⟩ hl hf
abbrev rmX5_lose : Room := { frames := 2, cells := 0, slots := 0, locals := 45 }
set_option maxRecDepth 20000 in
theorem iX5_lose_X5 : ∀ w ∈ wsX50, w ∈ wsX5_lose := by decide +kernel
set_option maxHeartbeats 4000000 in
set_option maxRecDepth 100000 in
theorem tX5_lose_23 {p : Program} {l : Launch} {e : Env} {s : State} {m : MethodId} {args : Array Value} {below : List Frame} {meth : Method} {c : Code} {E : EE} {B : Nat → Nat} {out : Int32 × SM} (C0 : cx wsX5_lose cX5_lose 3 (some .int) RX5 E p s m args meth c) {x1 : Int32} {xs0 : Int32} {u : SM} {H : Heap} {locs : List Loc} {ls : Array Slot} (hW : WM E B u s H locs) (hl : lv_has ls 3 [(0, .ref (B 0)), (1, .int x1)]) (hf : fX5_lose_23 x1 xs0 u = some out) : W p l e rmX5_lose s m args below meth c H locs 0 0 (MQ below (va_Qi (fun r (_ : Unit) => r = out.1) (fun _ t => fP E (cM E B out.2) t.heap) (aM B)) args s 0 0 (aM B)) (F0 m 23 ls [.int xs0]) := by
  obtain ⟨hx, hb, hr, hml, hown, hts, hlk, hK⟩ := id C0
  unfold fX5_lose_23 at hf
  refine lv_istore_n (lv' := [(2, .int xs0), (0, .ref (B 0)), (1, .int x1)]) hx hb dX5_lose_23 rfl hl (by decide) rfl (fun ls hl => ?_)
  refine lv_aload_n hx hb dX5_lose_24 rfl (lv_at hl 1 rfl) ?_
  refine m_get C0 hW.2.1 iX5_lose_X5 19 (by decide) (by decide +kernel) rfl dX5_lose_25 ?_
  refine lv_iload_n hx hb dX5_lose_28 rfl (lv_at hl 2 rfl) ?_
  refine lv_iconst (v := (-1 : Int32)) hx hb dX5_lose_29 (by decide) ?_
  obtain ⟨h1, hf⟩ := gd hf
  refine m_ast C0 hW 8 4 (by decide) (by decide) rfl h1 dX5_lose_30 (fun H locs hW => ?_)
  have hW : WM E B (u.1, (va_up u.2 8 (upd (u.2 8) x1.toNatClampNeg (-1 : Int32)))) s H locs := hW
  refine lv_iload_n hx hb dX5_lose_31 rfl (lv_at hl 0 rfl) ?_
  obtain rfl := Option.some.inj hf
  exact e_muI (QH := fP E (cM E B (u.1, (va_up u.2 8 (upd (u.2 8) x1.toNatClampNeg (-1 : Int32)))))) C0 hW.2.2 rfl hW.2.1 dX5_lose_32
set_option maxHeartbeats 4000000 in
set_option maxRecDepth 100000 in
theorem tX5_lose_0 {p : Program} {l : Launch} {e : Env} {s : State} {m : MethodId} {args : Array Value} {below : List Frame} {meth : Method} {c : Code} {E : EE} {B : Nat → Nat} {out : Int32 × SM} (C0 : cx wsX5_lose cX5_lose 3 (some .int) RX5 E p s m args meth c) {x1 : Int32} {u : SM} {H : Heap} {locs : List Loc} {ls : Array Slot} (hW : WM E B u s H locs) (hl : lv_has ls 3 [(0, .ref (B 0)), (1, .int x1)]) (hf : fX5_lose x1 u = some out) : W p l e rmX5_lose s m args below meth c H locs 0 0 (MQ below (va_Qi (fun r (_ : Unit) => r = out.1) (fun _ t => fP E (cM E B out.2) t.heap) (aM B)) args s 0 0 (aM B)) (F0 m 0 ls []) := by
  obtain ⟨hx, hb, hr, hml, hown, hts, hlk, hK⟩ := id C0
  unfold fX5_lose at hf
  refine lv_iload_n hx hb dX5_lose_0 rfl (lv_at hl 1 rfl) ?_
  obtain ⟨q1, h2, hf⟩ := bd hf
  refine k_roI (run_S (rest := []) (n := 1) (PH := fun _ => True) C0 (tX5_noSheet E h2) gX5_lose_X5_noSheet rfl rfl (by decide +kernel) trivial hl.1 rfl rfl (Nat.le_of_ble_eq_true rfl) dX5_lose_1) ?_
  refine lv_if_eq (tgt := 9) hx hb dX5_lose_4 (by decide) (fun c3 => ?_) (fun c3 => ?_)
  · have hf := th hf c3
    refine lv_aload_n hx hb dX5_lose_9 rfl (lv_at hl 0 rfl) ?_
    refine m_get C0 hW.2.1 iX5_lose_X5 19 (by decide) (by decide +kernel) rfl dX5_lose_10 ?_
    refine lv_iload_n hx hb dX5_lose_13 rfl (lv_at hl 1 rfl) ?_
    obtain ⟨h4, hf⟩ := gd hf
    refine m_ald C0 hW.2.1 8 4 rfl h4 dX5_lose_14 ?_
    refine lv_if_ge (tgt := 22) hx hb dX5_lose_15 (by decide) (fun c5 => ?_) (fun c5 => ?_)
    · have hf := th hf c5
      refine lv_iconst (v := (1 : Int32)) hx hb dX5_lose_22 (by decide) ?_
      exact tX5_lose_23 C0 hW (lv_sub hl [0, 1] rfl) hf
    · have hf := el hf c5
      refine lv_iconst (v := (0 : Int32)) hx hb dX5_lose_18 (by decide) ?_
      refine lv_goto (tgt := 23) hx hb dX5_lose_19 (by decide) ?_
      exact tX5_lose_23 C0 hW (lv_sub hl [0, 1] rfl) hf
  · have hf := el hf c3
    refine lv_iconst (v := (-1 : Int32)) hx hb dX5_lose_7 (by decide) ?_
    obtain rfl := Option.some.inj hf
    exact e_muI (QH := fP E (cM E B u)) C0 hW.2.2 rfl hW.2.1 dX5_lose_8
set_option maxHeartbeats 4000000 in
set_option maxRecDepth 100000 in
theorem tX5_lose {l : Launch} (E : EE) (B : Nat → Nat) {u : SM} {x1 : Int32} {out : Int32 × SM} (hB : iM B) (hf : fX5_lose x1 u = some out) : muI l yX5_lose wsX5_lose rmX5_lose E [.ref (B 0), .int x1] (aM B) (fP E (cM E B u)) (fP E (cM E B out.2)) out.1 := by
  refine Met.ofW (cc := cX5_lose) (maxL := 3) (ret := (some .int)) (by decide) rfl ?_
  intro p e s m args below meth c s₁ B0 hml hv
  obtain ⟨rfl, hP, hK⟩ := hv
  have C0 : cx wsX5_lose cX5_lose 3 (some .int) RX5 E p s m _ meth c := ⟨B0.exec, B0.bytes, B0.returns, hml, findClass_of_methodNamed B0.named, atoms_spec (ws := wsX5_lose) B0.pre, B0.notSynchronized, hK⟩
  have hl := lv_entry ([.ref (B 0), .int x1]) (n := 3) (Nat.le_of_ble_eq_true rfl)
  rw [lg_entry_eq]
  generalize (lg_sl ([.ref (B 0), .int x1]) ++ List.replicate (3 - (lg_sl ([.ref (B 0), .int x1])).length) Slot.unset).toArray = ls at hl ⊢
  exact tX5_lose_0 C0 ⟨hB, hP, va_S.rf⟩ hl hf
abbrev rmX5_noCell : Room := { frames := 1, cells := 0, slots := 0, locals := 25 }
set_option maxRecDepth 20000 in
theorem iX5_noCell_X5 : ∀ w ∈ wsX50, w ∈ wsX5_noCell := by decide +kernel
set_option maxHeartbeats 4000000 in
set_option maxRecDepth 100000 in
theorem tX5_noCell_0 {p : Program} {l : Launch} {e : Env} {s : State} {m : MethodId} {args : Array Value} {below : List Frame} {meth : Method} {c : Code} {E : EE} {B : Nat → Nat} {u : SM} {out : Int32} (C0 : cx wsX5_noCell cX5_noCell 3 (some .int) RX5 E p s m args meth c) (hP : fP E (cM E B u) s.heap) {x1 : Int32} {x2 : Int32} {ls : Array Slot} (hl : lv_has ls 3 [(0, .ref (B 0)), (1, .int x1), (2, .int x2)]) (hf : fX5_noCell x1 x2 u = some out) : W p l e rmX5_noCell s m args below meth c s.heap [] 0 0 (MQ below (vp_Si (fun r => r = out)) args s 0 0 (fun _ => False)) (F0 m 0 ls []) := by
  obtain ⟨hx, hb, hr, hml, hown, hts, hlk, hK⟩ := id C0
  unfold fX5_noCell at hf
  refine lv_aload_n hx hb dX5_noCell_0 rfl (lv_at hl 0 rfl) ?_
  refine m_get C0 hP iX5_noCell_X5 19 (by decide) (by decide +kernel) rfl dX5_noCell_1 ?_
  refine lv_iload_n hx hb dX5_noCell_4 rfl (lv_at hl 1 rfl) ?_
  obtain ⟨h1, hf⟩ := gd hf
  refine m_ald C0 hP 8 4 rfl h1 dX5_noCell_5 ?_
  refine lv_if_ge (tgt := 13) hx hb dX5_noCell_6 (by decide) (fun c2 => ?_) (fun c2 => ?_)
  · have hf := th hf c2
    refine lv_iload_n hx hb dX5_noCell_13 rfl (lv_at hl 2 rfl) ?_
    refine lv_i2l (v := x2.toInt64) hx hb dX5_noCell_14 rfl ?_
    refine lv_lconst (v := (0 : Int64)) hx hb dX5_noCell_15 (by decide) ?_
    refine lv_aload_n hx hb dX5_noCell_16 rfl (lv_at hl 0 rfl) ?_
    refine m_get C0 hP iX5_noCell_X5 19 (by decide) (by decide +kernel) rfl dX5_noCell_17 ?_
    refine lv_iload_n hx hb dX5_noCell_20 rfl (lv_at hl 1 rfl) ?_
    obtain ⟨h3, hf⟩ := gd hf
    refine m_ald C0 hP 8 4 rfl h3 dX5_noCell_21 ?_
    refine lv_i2l (v := (u.2 8 x1.toNatClampNeg).toInt64) hx hb dX5_noCell_22 rfl ?_
    refine lv_lconst (v := (1 : Int64)) hx hb dX5_noCell_23 (by decide) ?_
    refine lv_lsub hx hb dX5_noCell_24 ?_
    obtain ⟨q4, h5, hf⟩ := bd hf
    refine k_roI (run_S (rest := []) (n := 3) (PH := fun _ => True) C0 (tX5_in E h5) gX5_noCell_X5_in rfl rfl (by decide +kernel) trivial hl.1 rfl rfl (Nat.le_of_ble_eq_true rfl) dX5_noCell_25) ?_
    refine lv_if_eq (tgt := 35) hx hb dX5_noCell_28 (by decide) (fun c6 => ?_) (fun c6 => ?_)
    · have hf := th hf c6
      refine lv_iconst (v := (3 : Int32)) hx hb dX5_noCell_35 (by decide) ?_
      exact e_roI C0 hf dX5_noCell_36
    · have hf := el hf c6
      refine lv_iconst (v := (0 : Int32)) hx hb dX5_noCell_31 (by decide) ?_
      refine lv_goto (tgt := 36) hx hb dX5_noCell_32 (by decide) ?_
      exact e_roI C0 hf dX5_noCell_36
  · have hf := el hf c2
    refine lv_iconst (v := (1 : Int32)) hx hb dX5_noCell_9 (by decide) ?_
    refine lv_goto (tgt := 36) hx hb dX5_noCell_10 (by decide) ?_
    exact e_roI C0 hf dX5_noCell_36
set_option maxHeartbeats 4000000 in
set_option maxRecDepth 100000 in
theorem tX5_noCell {l : Launch} (E : EE) (B : Nat → Nat) {u : SM} {x1 : Int32} {x2 : Int32} {out : Int32} (hf : fX5_noCell x1 x2 u = some out) : roI l yX5_noCell wsX5_noCell rmX5_noCell E [.ref (B 0), .int x1, .int x2] (fP E (cM E B u)) out := by
  refine Met.ofW (cc := cX5_noCell) (maxL := 3) (ret := (some .int)) (by decide) rfl ?_
  intro p e s m args below meth c s₁ B0 hml hv
  obtain ⟨rfl, hP, hK⟩ := hv
  have C0 : cx wsX5_noCell cX5_noCell 3 (some .int) RX5 E p s m _ meth c := ⟨B0.exec, B0.bytes, B0.returns, hml, findClass_of_methodNamed B0.named, atoms_spec (ws := wsX5_noCell) B0.pre, B0.notSynchronized, hK⟩
  have hl := lv_entry ([.ref (B 0), .int x1, .int x2]) (n := 3) (Nat.le_of_ble_eq_true rfl)
  rw [lg_entry_eq]
  generalize (lg_sl ([.ref (B 0), .int x1, .int x2]) ++ List.replicate (3 - (lg_sl ([.ref (B 0), .int x1, .int x2])).length) Slot.unset).toArray = ls at hl ⊢
  exact tX5_noCell_0 C0 hP hl hf
abbrev rmX5_put : Room := { frames := 2, cells := 0, slots := 0, locals := 47 }
set_option maxRecDepth 20000 in
theorem iX5_put_X5 : ∀ w ∈ wsX50, w ∈ wsX5_put := by decide +kernel
set_option maxHeartbeats 4000000 in
set_option maxRecDepth 100000 in
theorem tX5_put_73 {p : Program} {l : Launch} {e : Env} {s : State} {m : MethodId} {args : Array Value} {below : List Frame} {meth : Method} {c : Code} {E : EE} {B : Nat → Nat} {out : Int32 × SM} (C0 : cx wsX5_put cX5_put 4 (some .int) RX5 E p s m args meth c) {xs1 : Int32} {xs2 : Int32} {u : SM} {H : Heap} {locs : List Loc} {ls : Array Slot} (hW : WM E B u s H locs) (hl : lv_has ls 4 [(0, .ref (B 0))]) (hf : fX5_put_73 xs1 xs2 u = some out) : W p l e rmX5_put s m args below meth c H locs 0 0 (MQ below (va_Qi (fun r (_ : Unit) => r = out.1) (fun _ t => fP E (cM E B out.2) t.heap) (aM B)) args s 0 0 (aM B)) (F0 m 73 ls [.int xs2, .int xs1, .ref (B 10)]) := by
  obtain ⟨hx, hb, hr, hml, hown, hts, hlk, hK⟩ := id C0
  unfold fX5_put_73 at hf
  obtain ⟨h1, hf⟩ := gd hf
  refine m_ast C0 hW 10 240 (by decide) (by decide) rfl h1 dX5_put_73 (fun H locs hW => ?_)
  have hW : WM E B (u.1, (va_up u.2 10 (upd (u.2 10) xs1.toNatClampNeg xs2))) s H locs := hW
  refine lv_aload_n hx hb dX5_put_74 rfl (lv_at hl 0 rfl) ?_
  refine lv_iconst (v := (1 : Int32)) hx hb dX5_put_75 (by decide) ?_
  obtain ⟨q2, h3, hf⟩ := bd hf
  refine k_muI (run_V (rest := []) (n := 1) C0 (tX5_refused E B hW.1 h3) gX5_put_X5_refused rfl rfl (by decide +kernel) (hW.2.1 0 _ rfl) rfl rfl hW.2.1 hl.1 rfl rfl (Nat.le_of_ble_eq_true rfl) dX5_put_76) hW.2.2 (fun _ h => h) (fun H locs hQ _ hS => ?_)
  have hW : WM E B q2.2 s H locs := ⟨hW.1, hQ, hS⟩
  obtain rfl := Option.some.inj hf
  exact e_muI (QH := fP E (cM E B q2.2)) C0 hW.2.2 rfl hW.2.1 dX5_put_79
set_option maxHeartbeats 4000000 in
set_option maxRecDepth 100000 in
theorem tX5_put_0 {p : Program} {l : Launch} {e : Env} {s : State} {m : MethodId} {args : Array Value} {below : List Frame} {meth : Method} {c : Code} {E : EE} {B : Nat → Nat} {out : Int32 × SM} (C0 : cx wsX5_put cX5_put 4 (some .int) RX5 E p s m args meth c) {x1 : Int32} {x2 : Int32} {x3 : Int32} {u : SM} {H : Heap} {locs : List Loc} {ls : Array Slot} (hW : WM E B u s H locs) (hl : lv_has ls 4 [(0, .ref (B 0)), (1, .int x1), (2, .int x2), (3, .int x3)]) (hf : fX5_put x1 x2 x3 u = some out) : W p l e rmX5_put s m args below meth c H locs 0 0 (MQ below (va_Qi (fun r (_ : Unit) => r = out.1) (fun _ t => fP E (cM E B out.2) t.heap) (aM B)) args s 0 0 (aM B)) (F0 m 0 ls []) := by
  obtain ⟨hx, hb, hr, hml, hown, hts, hlk, hK⟩ := id C0
  unfold fX5_put at hf
  refine lv_iload_n hx hb dX5_put_0 rfl (lv_at hl 1 rfl) ?_
  obtain ⟨q1, h2, hf⟩ := bd hf
  refine k_roI (run_S (rest := []) (n := 1) (PH := fun _ => True) C0 (tX5_noSheet E h2) gX5_put_X5_noSheet rfl rfl (by decide +kernel) trivial hl.1 rfl rfl (Nat.le_of_ble_eq_true rfl) dX5_put_1) ?_
  refine lv_if_eq (tgt := 13) hx hb dX5_put_4 (by decide) (fun c3 => ?_) (fun c3 => ?_)
  · have hf := th hf c3
    refine lv_aload_n hx hb dX5_put_13 rfl (lv_at hl 0 rfl) ?_
    refine lv_iload_n hx hb dX5_put_14 rfl (lv_at hl 1 rfl) ?_
    refine lv_iload_n hx hb dX5_put_15 rfl (lv_at hl 2 rfl) ?_
    obtain ⟨q4, h5, hf⟩ := bd hf
    refine k_roI (run_V (rest := []) (n := 2) C0 (tX5_noCell E B h5) gX5_put_X5_noCell rfl rfl (by decide +kernel) (hW.2.1 0 _ rfl) rfl rfl hW.2.1 hl.1 rfl rfl (Nat.le_of_ble_eq_true rfl) dX5_put_16) ?_
    refine lv_if_le (tgt := 33) hx hb dX5_put_19 (by decide) (fun c6 => ?_) (fun c6 => ?_)
    · have hf := th hf c6
      refine lv_aload_n hx hb dX5_put_33 rfl (lv_at hl 0 rfl) ?_
      refine m_get C0 hW.2.1 iX5_put_X5 21 (by decide) (by decide +kernel) rfl dX5_put_34 ?_
      refine lv_bipush (v := (60 : Int32)) hx hb dX5_put_37 (by decide) ?_
      refine lv_iload_n hx hb dX5_put_39 rfl (lv_at hl 1 rfl) ?_
      refine lv_imul hx hb dX5_put_40 ?_
      refine lv_iload_n hx hb dX5_put_41 rfl (lv_at hl 2 rfl) ?_
      refine lv_iadd hx hb dX5_put_42 ?_
      refine lv_aload_n hx hb dX5_put_43 rfl (lv_at hl 0 rfl) ?_
      refine m_get C0 hW.2.1 iX5_put_X5 20 (by decide) (by decide +kernel) rfl dX5_put_44 ?_
      refine lv_iload_n hx hb dX5_put_47 rfl (lv_at hl 1 rfl) ?_
      obtain ⟨h7, hf⟩ := gd hf
      refine m_ald C0 hW.2.1 9 4 rfl h7 dX5_put_48 ?_
      refine lv_if_ne (tgt := 57) hx hb dX5_put_49 (by decide) (fun c8 => ?_) (fun c8 => ?_)
      · have hf := el hf c8
        refine lv_aload_n hx hb dX5_put_57 rfl (lv_at hl 0 rfl) ?_
        refine m_get C0 hW.2.1 iX5_put_X5 20 (by decide) (by decide +kernel) rfl dX5_put_58 ?_
        refine lv_iload_n hx hb dX5_put_61 rfl (lv_at hl 1 rfl) ?_
        obtain ⟨h9, hf⟩ := gd hf
        refine m_ald C0 hW.2.1 9 4 rfl h9 dX5_put_62 ?_
        refine lv_iconst (v := (1 : Int32)) hx hb dX5_put_63 (by decide) ?_
        refine lv_icmp_ne (tgt := 72) hx hb dX5_put_64 (by decide) (fun c10 => ?_) (fun c10 => ?_)
        · have hf := el hf c10
          refine lv_iload_n hx hb dX5_put_72 rfl (lv_at hl 3 rfl) ?_
          exact tX5_put_73 C0 hW (lv_sub hl [0] rfl) hf
        · have hf := th hf c10
          refine lv_iload_n hx hb dX5_put_67 rfl (lv_at hl 3 rfl) ?_
          refine lv_i2s (v := x3.toInt16.toInt32) hx hb dX5_put_68 rfl ?_
          refine lv_goto (tgt := 73) hx hb dX5_put_69 (by decide) ?_
          exact tX5_put_73 C0 hW (lv_sub hl [0] rfl) hf
      · have hf := th hf c8
        refine lv_iload_n hx hb dX5_put_52 rfl (lv_at hl 3 rfl) ?_
        refine lv_i2b (v := x3.toInt8.toInt32) hx hb dX5_put_53 rfl ?_
        refine lv_goto (tgt := 73) hx hb dX5_put_54 (by decide) ?_
        exact tX5_put_73 C0 hW (lv_sub hl [0] rfl) hf
    · have hf := el hf c6
      refine lv_aload_n hx hb dX5_put_22 rfl (lv_at hl 0 rfl) ?_
      refine lv_aload_n hx hb dX5_put_23 rfl (lv_at hl 0 rfl) ?_
      refine lv_iload_n hx hb dX5_put_24 rfl (lv_at hl 1 rfl) ?_
      refine lv_iload_n hx hb dX5_put_25 rfl (lv_at hl 2 rfl) ?_
      obtain ⟨q11, h12, hf⟩ := bd hf
      refine k_roI (run_V (rest := [.ref (B 0)]) (n := 2) C0 (tX5_noCell E B h12) gX5_put_X5_noCell rfl rfl (by decide +kernel) (hW.2.1 0 _ rfl) rfl rfl hW.2.1 hl.1 rfl rfl (Nat.le_of_ble_eq_true rfl) dX5_put_26) ?_
      obtain ⟨q13, h14, hf⟩ := bd hf
      refine k_muI (run_V (rest := []) (n := 1) C0 (tX5_failed E B hW.1 h14) gX5_put_X5_failed rfl rfl (by decide +kernel) (hW.2.1 0 _ rfl) rfl rfl hW.2.1 hl.1 rfl rfl (Nat.le_of_ble_eq_true rfl) dX5_put_29) hW.2.2 (fun _ h => h) (fun H locs hQ _ hS => ?_)
      have hW : WM E B q13.2 s H locs := ⟨hW.1, hQ, hS⟩
      obtain rfl := Option.some.inj hf
      exact e_muI (QH := fP E (cM E B q13.2)) C0 hW.2.2 rfl hW.2.1 dX5_put_32
  · have hf := el hf c3
    refine lv_aload_n hx hb dX5_put_7 rfl (lv_at hl 0 rfl) ?_
    refine lv_iconst (v := (-1 : Int32)) hx hb dX5_put_8 (by decide) ?_
    obtain ⟨q15, h16, hf⟩ := bd hf
    refine k_muI (run_V (rest := []) (n := 1) C0 (tX5_refused E B hW.1 h16) gX5_put_X5_refused rfl rfl (by decide +kernel) (hW.2.1 0 _ rfl) rfl rfl hW.2.1 hl.1 rfl rfl (Nat.le_of_ble_eq_true rfl) dX5_put_9) hW.2.2 (fun _ h => h) (fun H locs hQ _ hS => ?_)
    have hW : WM E B q15.2 s H locs := ⟨hW.1, hQ, hS⟩
    obtain rfl := Option.some.inj hf
    exact e_muI (QH := fP E (cM E B q15.2)) C0 hW.2.2 rfl hW.2.1 dX5_put_12
set_option maxHeartbeats 4000000 in
set_option maxRecDepth 100000 in
theorem tX5_put {l : Launch} (E : EE) (B : Nat → Nat) {u : SM} {x1 : Int32} {x2 : Int32} {x3 : Int32} {out : Int32 × SM} (hB : iM B) (hf : fX5_put x1 x2 x3 u = some out) : muI l yX5_put wsX5_put rmX5_put E [.ref (B 0), .int x1, .int x2, .int x3] (aM B) (fP E (cM E B u)) (fP E (cM E B out.2)) out.1 := by
  refine Met.ofW (cc := cX5_put) (maxL := 4) (ret := (some .int)) (by decide) rfl ?_
  intro p e s m args below meth c s₁ B0 hml hv
  obtain ⟨rfl, hP, hK⟩ := hv
  have C0 : cx wsX5_put cX5_put 4 (some .int) RX5 E p s m _ meth c := ⟨B0.exec, B0.bytes, B0.returns, hml, findClass_of_methodNamed B0.named, atoms_spec (ws := wsX5_put) B0.pre, B0.notSynchronized, hK⟩
  have hl := lv_entry ([.ref (B 0), .int x1, .int x2, .int x3]) (n := 4) (Nat.le_of_ble_eq_true rfl)
  rw [lg_entry_eq]
  generalize (lg_sl ([.ref (B 0), .int x1, .int x2, .int x3]) ++ List.replicate (4 - (lg_sl ([.ref (B 0), .int x1, .int x2, .int x3])).length) Slot.unset).toArray = ls at hl ⊢
  exact tX5_put_0 C0 ⟨hB, hP, va_S.rf⟩ hl hf
abbrev rmX5_cell : Room := { frames := 2, cells := 0, slots := 0, locals := 47 }
set_option maxRecDepth 20000 in
theorem iX5_cell_X5 : ∀ w ∈ wsX50, w ∈ wsX5_cell := by decide +kernel
set_option maxHeartbeats 4000000 in
set_option maxRecDepth 100000 in
theorem tX5_cell_24 {p : Program} {l : Launch} {e : Env} {s : State} {m : MethodId} {args : Array Value} {below : List Frame} {meth : Method} {c : Code} {E : EE} {B : Nat → Nat} {out : Int64 × SM} (C0 : cx wsX5_cell cX5_cell 4 (some .long) RX5 E p s m args meth c) {u : SM} {H : Heap} {locs : List Loc} {ls : Array Slot} (hW : WM E B u s H locs) (hl : lv_has ls 4 []) (hf : fX5_cell_24 u = some out) : W p l e rmX5_cell s m args below meth c H locs 0 0 (MQ below (va_Ql (fun r (_ : Unit) => r = out.1) (fun _ t => fP E (cM E B out.2) t.heap) (aM B)) args s 0 0 (aM B)) (F0 m 24 ls []) := by
  obtain ⟨hx, hb, hr, hml, hown, hts, hlk, hK⟩ := id C0
  unfold fX5_cell_24 at hf
  obtain ⟨q1, h2, hf⟩ := bd hf
  refine k_roL (run_S (rest := []) (n := 0) (PH := fun _ => True) C0 (tX5_lost E h2) gX5_cell_X5_lost rfl rfl (by decide +kernel) trivial hl.1 rfl rfl (Nat.le_of_ble_eq_true rfl) dX5_cell_24) ?_
  obtain rfl := Option.some.inj hf
  exact e_muL (QH := fP E (cM E B u)) C0 hW.2.2 rfl hW.2.1 dX5_cell_27
set_option maxHeartbeats 4000000 in
set_option maxRecDepth 100000 in
theorem tX5_cell_53 {p : Program} {l : Launch} {e : Env} {s : State} {m : MethodId} {args : Array Value} {below : List Frame} {meth : Method} {c : Code} {E : EE} {B : Nat → Nat} {out : Int64 × SM} (C0 : cx wsX5_cell cX5_cell 4 (some .long) RX5 E p s m args meth c) {x1 : Int32} {x2 : Int32} {u : SM} {H : Heap} {locs : List Loc} {ls : Array Slot} (hW : WM E B u s H locs) (hl : lv_has ls 4 [(0, .ref (B 0)), (1, .int x1), (2, .int x2)]) (hf : fX5_cell_53 x1 x2 u = some out) : W p l e rmX5_cell s m args below meth c H locs 0 0 (MQ below (va_Ql (fun r (_ : Unit) => r = out.1) (fun _ t => fP E (cM E B out.2) t.heap) (aM B)) args s 0 0 (aM B)) (F0 m 53 ls []) := by
  obtain ⟨hx, hb, hr, hml, hown, hts, hlk, hK⟩ := id C0
  unfold fX5_cell_53 at hf
  refine lv_aload_n hx hb dX5_cell_53 rfl (lv_at hl 0 rfl) ?_
  refine lv_iload_n hx hb dX5_cell_54 rfl (lv_at hl 1 rfl) ?_
  refine lv_iload_n hx hb dX5_cell_55 rfl (lv_at hl 2 rfl) ?_
  obtain ⟨q1, h2, hf⟩ := bd hf
  refine k_roI (run_V (rest := []) (n := 2) C0 (tX5_noCell E B h2) gX5_cell_X5_noCell rfl rfl (by decide +kernel) (hW.2.1 0 _ rfl) rfl rfl hW.2.1 hl.1 rfl rfl (Nat.le_of_ble_eq_true rfl) dX5_cell_56) ?_
  refine lv_if_le (tgt := 75) hx hb dX5_cell_59 (by decide) (fun c3 => ?_) (fun c3 => ?_)
  · have hf := th hf c3
    refine lv_aload_n hx hb dX5_cell_75 rfl (lv_at hl 0 rfl) ?_
    refine m_get C0 hW.2.1 iX5_cell_X5 21 (by decide) (by decide +kernel) rfl dX5_cell_76 ?_
    refine lv_bipush (v := (60 : Int32)) hx hb dX5_cell_79 (by decide) ?_
    refine lv_iload_n hx hb dX5_cell_81 rfl (lv_at hl 1 rfl) ?_
    refine lv_imul hx hb dX5_cell_82 ?_
    refine lv_iload_n hx hb dX5_cell_83 rfl (lv_at hl 2 rfl) ?_
    refine lv_iadd hx hb dX5_cell_84 ?_
    obtain ⟨h4, hf⟩ := gd hf
    refine m_ald C0 hW.2.1 10 240 rfl h4 dX5_cell_85 ?_
    refine lv_i2l (v := (u.2 10 (((60 : Int32) * x1) + x2).toNatClampNeg).toInt64) hx hb dX5_cell_86 rfl ?_
    obtain rfl := Option.some.inj hf
    exact e_muL (QH := fP E (cM E B u)) C0 hW.2.2 rfl hW.2.1 dX5_cell_87
  · have hf := el hf c3
    refine lv_aload_n hx hb dX5_cell_62 rfl (lv_at hl 0 rfl) ?_
    refine lv_aload_n hx hb dX5_cell_63 rfl (lv_at hl 0 rfl) ?_
    refine lv_iload_n hx hb dX5_cell_64 rfl (lv_at hl 1 rfl) ?_
    refine lv_iload_n hx hb dX5_cell_65 rfl (lv_at hl 2 rfl) ?_
    obtain ⟨q5, h6, hf⟩ := bd hf
    refine k_roI (run_V (rest := [.ref (B 0)]) (n := 2) C0 (tX5_noCell E B h6) gX5_cell_X5_noCell rfl rfl (by decide +kernel) (hW.2.1 0 _ rfl) rfl rfl hW.2.1 hl.1 rfl rfl (Nat.le_of_ble_eq_true rfl) dX5_cell_66) ?_
    obtain ⟨q7, h8, hf⟩ := bd hf
    refine k_muL (run_V (rest := []) (n := 1) C0 (tX5_failedLong E B hW.1 h8) gX5_cell_X5_failedLong rfl rfl (by decide +kernel) (hW.2.1 0 _ rfl) rfl rfl hW.2.1 hl.1 rfl rfl (Nat.le_of_ble_eq_true rfl) dX5_cell_69) hW.2.2 (fun _ h => h) (fun H locs hQ _ hS => ?_)
    have hW : WM E B q7.2 s H locs := ⟨hW.1, hQ, hS⟩
    refine lv_goto (tgt := 87) hx hb dX5_cell_72 (by decide) ?_
    obtain rfl := Option.some.inj hf
    exact e_muL (QH := fP E (cM E B q7.2)) C0 hW.2.2 rfl hW.2.1 dX5_cell_87
set_option maxHeartbeats 4000000 in
set_option maxRecDepth 100000 in
theorem tX5_cell_0 {p : Program} {l : Launch} {e : Env} {s : State} {m : MethodId} {args : Array Value} {below : List Frame} {meth : Method} {c : Code} {E : EE} {B : Nat → Nat} {out : Int64 × SM} (C0 : cx wsX5_cell cX5_cell 4 (some .long) RX5 E p s m args meth c) {x1 : Int32} {x2 : Int32} {x3 : Int32} {u : SM} {H : Heap} {locs : List Loc} {ls : Array Slot} (hW : WM E B u s H locs) (hl : lv_has ls 4 [(0, .ref (B 0)), (1, .int x1), (2, .int x2), (3, .int x3)]) (hf : fX5_cell x1 x2 x3 u = some out) : W p l e rmX5_cell s m args below meth c H locs 0 0 (MQ below (va_Ql (fun r (_ : Unit) => r = out.1) (fun _ t => fP E (cM E B out.2) t.heap) (aM B)) args s 0 0 (aM B)) (F0 m 0 ls []) := by
  obtain ⟨hx, hb, hr, hml, hown, hts, hlk, hK⟩ := id C0
  unfold fX5_cell at hf
  refine lv_aload_n hx hb dX5_cell_0 rfl (lv_at hl 0 rfl) ?_
  refine lv_iconst (v := (0 : Int32)) hx hb dX5_cell_1 (by decide) ?_
  refine m_put C0 hW iX5_cell_X5 0 (by decide) (by decide +kernel) rfl (by decide +kernel) rfl dX5_cell_2 (fun H locs hW => ?_)
  have hW : WM E B ((upd u.1 0 (0 : Int32)), u.2) s H locs := hW
  refine lv_iload_n hx hb dX5_cell_5 rfl (lv_at hl 1 rfl) ?_
  obtain ⟨q1, h2, hf⟩ := bd hf
  refine k_roI (run_S (rest := []) (n := 1) (PH := fun _ => True) C0 (tX5_noSheet E h2) gX5_cell_X5_noSheet rfl rfl (by decide +kernel) trivial hl.1 rfl rfl (Nat.le_of_ble_eq_true rfl) dX5_cell_6) ?_
  refine lv_if_ne (tgt := 24) hx hb dX5_cell_9 (by decide) (fun c3 => ?_) (fun c3 => ?_)
  · have hf := el hf c3
    exact tX5_cell_24 C0 hW (lv_sub hl [] rfl) hf
  · have hf := th hf c3
    refine lv_iload_n hx hb dX5_cell_12 rfl (lv_at hl 3 rfl) ?_
    refine lv_i2l (v := x3.toInt64) hx hb dX5_cell_13 rfl ?_
    refine lv_lconst (v := (0 : Int64)) hx hb dX5_cell_14 (by decide) ?_
    refine lv_ldc2 hx hb hown (hts (.constantLong RX5 102 (2)) (by decide +kernel)) dX5_cell_15 ?_
    obtain ⟨q4, h5, hf⟩ := bd hf
    refine k_roI (run_S (rest := []) (n := 3) (PH := fun _ => True) C0 (tX5_in E h5) gX5_cell_X5_in rfl rfl (by decide +kernel) trivial hl.1 rfl rfl (Nat.le_of_ble_eq_true rfl) dX5_cell_18) ?_
    refine lv_if_ne (tgt := 28) hx hb dX5_cell_21 (by decide) (fun c6 => ?_) (fun c6 => ?_)
    · have hf := el hf c6
      refine lv_aload_n hx hb dX5_cell_28 rfl (lv_at hl 0 rfl) ?_
      refine m_get C0 hW.2.1 iX5_cell_X5 19 (by decide) (by decide +kernel) rfl dX5_cell_29 ?_
      refine lv_iload_n hx hb dX5_cell_32 rfl (lv_at hl 1 rfl) ?_
      obtain ⟨h7, hf⟩ := gd hf
      refine m_ald C0 hW.2.1 8 4 rfl h7 dX5_cell_33 ?_
      refine lv_if_lt (tgt := 53) hx hb dX5_cell_34 (by decide) (fun c8 => ?_) (fun c8 => ?_)
      · have hf := th hf c8
        exact tX5_cell_53 C0 hW (lv_sub hl [0, 1, 2] rfl) hf
      · have hf := el hf c8
        refine lv_aload_n hx hb dX5_cell_37 rfl (lv_at hl 0 rfl) ?_
        refine m_get C0 hW.2.1 iX5_cell_X5 20 (by decide) (by decide +kernel) rfl dX5_cell_38 ?_
        refine lv_iload_n hx hb dX5_cell_41 rfl (lv_at hl 1 rfl) ?_
        obtain ⟨h9, hf⟩ := gd hf
        refine m_ald C0 hW.2.1 9 4 rfl h9 dX5_cell_42 ?_
        refine lv_iload_n hx hb dX5_cell_43 rfl (lv_at hl 3 rfl) ?_
        refine lv_icmp_eq (tgt := 53) hx hb dX5_cell_44 (by decide) (fun c10 => ?_) (fun c10 => ?_)
        · have hf := th hf c10
          exact tX5_cell_53 C0 hW (lv_sub hl [0, 1, 2] rfl) hf
        · have hf := el hf c10
          refine lv_aload_n hx hb dX5_cell_47 rfl (lv_at hl 0 rfl) ?_
          refine lv_iconst (v := (2 : Int32)) hx hb dX5_cell_48 (by decide) ?_
          obtain ⟨q11, h12, hf⟩ := bd hf
          refine k_muL (run_V (rest := []) (n := 1) C0 (tX5_failedLong E B hW.1 h12) gX5_cell_X5_failedLong rfl rfl (by decide +kernel) (hW.2.1 0 _ rfl) rfl rfl hW.2.1 hl.1 rfl rfl (Nat.le_of_ble_eq_true rfl) dX5_cell_49) hW.2.2 (fun _ h => h) (fun H locs hQ _ hS => ?_)
          have hW : WM E B q11.2 s H locs := ⟨hW.1, hQ, hS⟩
          obtain rfl := Option.some.inj hf
          exact e_muL (QH := fP E (cM E B q11.2)) C0 hW.2.2 rfl hW.2.1 dX5_cell_52
    · have hf := th hf c6
      exact tX5_cell_24 C0 hW (lv_sub hl [] rfl) hf
set_option maxHeartbeats 4000000 in
set_option maxRecDepth 100000 in
theorem tX5_cell {l : Launch} (E : EE) (B : Nat → Nat) {u : SM} {x1 : Int32} {x2 : Int32} {x3 : Int32} {out : Int64 × SM} (hB : iM B) (hf : fX5_cell x1 x2 x3 u = some out) : muL l yX5_cell wsX5_cell rmX5_cell E [.ref (B 0), .int x1, .int x2, .int x3] (aM B) (fP E (cM E B u)) (fP E (cM E B out.2)) out.1 := by
  refine Met.ofW (cc := cX5_cell) (maxL := 4) (ret := (some .long)) (by decide) rfl ?_
  intro p e s m args below meth c s₁ B0 hml hv
  obtain ⟨rfl, hP, hK⟩ := hv
  have C0 : cx wsX5_cell cX5_cell 4 (some .long) RX5 E p s m _ meth c := ⟨B0.exec, B0.bytes, B0.returns, hml, findClass_of_methodNamed B0.named, atoms_spec (ws := wsX5_cell) B0.pre, B0.notSynchronized, hK⟩
  have hl := lv_entry ([.ref (B 0), .int x1, .int x2, .int x3]) (n := 4) (Nat.le_of_ble_eq_true rfl)
  rw [lg_entry_eq]
  generalize (lg_sl ([.ref (B 0), .int x1, .int x2, .int x3]) ++ List.replicate (4 - (lg_sl ([.ref (B 0), .int x1, .int x2, .int x3])).length) Slot.unset).toArray = ls at hl ⊢
  exact tX5_cell_0 C0 ⟨hB, hP, va_S.rf⟩ hl hf
abbrev rmX5_copy : Room := { frames := 2, cells := 0, slots := 0, locals := 45 }
set_option maxRecDepth 20000 in
theorem iX5_copy_X5 : ∀ w ∈ wsX50, w ∈ wsX5_copy := by decide +kernel
set_option maxHeartbeats 4000000 in
set_option maxRecDepth 100000 in
theorem tX5_copy_14 {p : Program} {l : Launch} {e : Env} {s : State} {m : MethodId} {args : Array Value} {below : List Frame} {meth : Method} {c : Code} {E : EE} {B : Nat → Nat} {out : Int32 × SM} (C0 : cx wsX5_copy cX5_copy 7 (some .int) RX5 E p s m args meth c) {u : SM} {H : Heap} {locs : List Loc} {ls : Array Slot} (hW : WM E B u s H locs) (hl : lv_has ls 7 [(0, .ref (B 0))]) (hf : fX5_copy_14 u = some out) : W p l e rmX5_copy s m args below meth c H locs 0 0 (MQ below (va_Qi (fun r (_ : Unit) => r = out.1) (fun _ t => fP E (cM E B out.2) t.heap) (aM B)) args s 0 0 (aM B)) (F0 m 14 ls []) := by
  obtain ⟨hx, hb, hr, hml, hown, hts, hlk, hK⟩ := id C0
  unfold fX5_copy_14 at hf
  refine lv_aload_n hx hb dX5_copy_14 rfl (lv_at hl 0 rfl) ?_
  refine lv_iconst (v := (-1 : Int32)) hx hb dX5_copy_15 (by decide) ?_
  obtain ⟨q1, h2, hf⟩ := bd hf
  refine k_muI (run_V (rest := []) (n := 1) C0 (tX5_refused E B hW.1 h2) gX5_copy_X5_refused rfl rfl (by decide +kernel) (hW.2.1 0 _ rfl) rfl rfl hW.2.1 hl.1 rfl rfl (Nat.le_of_ble_eq_true rfl) dX5_copy_16) hW.2.2 (fun _ h => h) (fun H locs hQ _ hS => ?_)
  have hW : WM E B q1.2 s H locs := ⟨hW.1, hQ, hS⟩
  obtain rfl := Option.some.inj hf
  exact e_muI (QH := fP E (cM E B q1.2)) C0 hW.2.2 rfl hW.2.1 dX5_copy_19
set_option maxHeartbeats 4000000 in
set_option maxRecDepth 100000 in
theorem tX5_copy_38 {p : Program} {l : Launch} {e : Env} {s : State} {m : MethodId} {args : Array Value} {below : List Frame} {meth : Method} {c : Code} {E : EE} {B : Nat → Nat} {out : Int32 × SM} (C0 : cx wsX5_copy cX5_copy 7 (some .int) RX5 E p s m args meth c) {u : SM} {H : Heap} {locs : List Loc} {ls : Array Slot} (hW : WM E B u s H locs) (hl : lv_has ls 7 [(0, .ref (B 0))]) (hf : fX5_copy_38 u = some out) : W p l e rmX5_copy s m args below meth c H locs 0 0 (MQ below (va_Qi (fun r (_ : Unit) => r = out.1) (fun _ t => fP E (cM E B out.2) t.heap) (aM B)) args s 0 0 (aM B)) (F0 m 38 ls []) := by
  obtain ⟨hx, hb, hr, hml, hown, hts, hlk, hK⟩ := id C0
  unfold fX5_copy_38 at hf
  refine lv_aload_n hx hb dX5_copy_38 rfl (lv_at hl 0 rfl) ?_
  refine lv_iconst (v := (1 : Int32)) hx hb dX5_copy_39 (by decide) ?_
  obtain ⟨q1, h2, hf⟩ := bd hf
  refine k_muI (run_V (rest := []) (n := 1) C0 (tX5_failed E B hW.1 h2) gX5_copy_X5_failed rfl rfl (by decide +kernel) (hW.2.1 0 _ rfl) rfl rfl hW.2.1 hl.1 rfl rfl (Nat.le_of_ble_eq_true rfl) dX5_copy_40) hW.2.2 (fun _ h => h) (fun H locs hQ _ hS => ?_)
  have hW : WM E B q1.2 s H locs := ⟨hW.1, hQ, hS⟩
  obtain rfl := Option.some.inj hf
  exact e_muI (QH := fP E (cM E B q1.2)) C0 hW.2.2 rfl hW.2.1 dX5_copy_43
set_option maxHeartbeats 4000000 in
set_option maxRecDepth 100000 in
theorem tX5_copy_98 {p : Program} {l : Launch} {e : Env} {s : State} {m : MethodId} {args : Array Value} {below : List Frame} {meth : Method} {c : Code} {E : EE} {B : Nat → Nat} {out : Int32 × SM} (C0 : cx wsX5_copy cX5_copy 7 (some .int) RX5 E p s m args meth c) {u : SM} {H : Heap} {locs : List Loc} {ls : Array Slot} (hW : WM E B u s H locs) (hl : lv_has ls 7 [(0, .ref (B 0))]) (hf : fX5_copy_98 u = some out) : W p l e rmX5_copy s m args below meth c H locs 0 0 (MQ below (va_Qi (fun r (_ : Unit) => r = out.1) (fun _ t => fP E (cM E B out.2) t.heap) (aM B)) args s 0 0 (aM B)) (F0 m 98 ls []) := by
  obtain ⟨hx, hb, hr, hml, hown, hts, hlk, hK⟩ := id C0
  unfold fX5_copy_98 at hf
  refine lv_aload_n hx hb dX5_copy_98 rfl (lv_at hl 0 rfl) ?_
  refine lv_iconst (v := (3 : Int32)) hx hb dX5_copy_99 (by decide) ?_
  obtain ⟨q1, h2, hf⟩ := bd hf
  refine k_muI (run_V (rest := []) (n := 1) C0 (tX5_failed E B hW.1 h2) gX5_copy_X5_failed rfl rfl (by decide +kernel) (hW.2.1 0 _ rfl) rfl rfl hW.2.1 hl.1 rfl rfl (Nat.le_of_ble_eq_true rfl) dX5_copy_100) hW.2.2 (fun _ h => h) (fun H locs hQ _ hS => ?_)
  have hW : WM E B q1.2 s H locs := ⟨hW.1, hQ, hS⟩
  obtain rfl := Option.some.inj hf
  exact e_muI (QH := fP E (cM E B q1.2)) C0 hW.2.2 rfl hW.2.1 dX5_copy_103
set_option maxHeartbeats 4000000 in
set_option maxRecDepth 100000 in
theorem tX5_copy_144 {p : Program} {l : Launch} {e : Env} {s : State} {m : MethodId} {args : Array Value} {below : List Frame} {meth : Method} {c : Code} {E : EE} {B : Nat → Nat} {out : Int32 × SM} (C0 : cx wsX5_copy cX5_copy 7 (some .int) RX5 E p s m args meth c) : ∀ (n : Nat) (x3 : Int32) (x4 : Int32) (x5 : Int32) (x6 : Int32) (u : SM) (H : Heap) (locs : List Loc) (ls : Array Slot) (_ : WM E B u s H locs), lv_has ls 7 [(0, .ref (B 0)), (3, .int x3), (4, .int x4), (5, .int x5), (6, .int x6)] → fX5_copy_144 n x3 x4 x5 x6 u = some out → W p l e rmX5_copy s m args below meth c H locs 0 0 (MQ below (va_Qi (fun r (_ : Unit) => r = out.1) (fun _ t => fP E (cM E B out.2) t.heap) (aM B)) args s 0 0 (aM B)) (F0 m 144 ls []) := by
  obtain ⟨hx, hb, hr, hml, hown, hts, hlk, hK⟩ := id C0
  intro n
  induction n with
  | zero =>
    intro x3 x4 x5 x6 u H locs ls hW hl hf
    cases (show none = some out from hf)
  | succ n ih =>
    intro x3 x4 x5 x6 u H locs ls hW hl hf
    rw [fX5_copy_144] at hf
    refine lv_iload hx hb dX5_copy_144 (lv_at hl 4 rfl) ?_
    refine lv_iload hx hb dX5_copy_146 (lv_at hl 3 rfl) ?_
    refine lv_icmp_ge (tgt := 179) hx hb dX5_copy_148 (by decide) (fun c1 => ?_) (fun c1 => ?_)
    · have hf := th hf c1
      refine lv_aload_n hx hb dX5_copy_179 rfl (lv_at hl 0 rfl) ?_
      refine lv_iload hx hb dX5_copy_180 (lv_at hl 3 rfl) ?_
      obtain ⟨q2, h3, hf⟩ := bd hf
      refine k_muI (run_V (rest := []) (n := 1) C0 (tX5_refused E B hW.1 h3) gX5_copy_X5_refused rfl rfl (by decide +kernel) (hW.2.1 0 _ rfl) rfl rfl hW.2.1 hl.1 rfl rfl (Nat.le_of_ble_eq_true rfl) dX5_copy_182) hW.2.2 (fun _ h => h) (fun H locs hQ _ hS => ?_)
      have hW : WM E B q2.2 s H locs := ⟨hW.1, hQ, hS⟩
      obtain rfl := Option.some.inj hf
      exact e_muI (QH := fP E (cM E B q2.2)) C0 hW.2.2 rfl hW.2.1 dX5_copy_185
    · have hf := el hf c1
      refine lv_aload_n hx hb dX5_copy_151 rfl (lv_at hl 0 rfl) ?_
      refine m_get C0 hW.2.1 iX5_copy_X5 21 (by decide) (by decide +kernel) rfl dX5_copy_152 ?_
      refine lv_bipush (v := (60 : Int32)) hx hb dX5_copy_155 (by decide) ?_
      refine lv_iload_n hx hb dX5_copy_157 rfl (lv_at hl 1 rfl) ?_
      refine lv_imul hx hb dX5_copy_158 ?_
      refine lv_iload hx hb dX5_copy_159 (lv_at hl 2 rfl) ?_
      refine lv_iadd hx hb dX5_copy_161 ?_
      refine lv_iload hx hb dX5_copy_162 (lv_at hl 4 rfl) ?_
      refine lv_iadd hx hb dX5_copy_164 ?_
      refine lv_aload_n hx hb dX5_copy_165 rfl (lv_at hl 0 rfl) ?_
      refine m_get C0 hW.2.1 iX5_copy_X5 22 (by decide) (by decide +kernel) rfl dX5_copy_166 ?_
      refine lv_iload hx hb dX5_copy_169 (lv_at hl 4 rfl) ?_
      obtain ⟨h4, hf⟩ := gd hf
      refine m_ald C0 hW.2.1 11 60 rfl h4 dX5_copy_171 ?_
      obtain ⟨h5, hf⟩ := gd hf
      refine m_ast C0 hW 10 240 (by decide) (by decide) rfl h5 dX5_copy_172 (fun H locs hW => ?_)
      have hW : WM E B (u.1, (va_up u.2 10 (upd (u.2 10) (((((60 : Int32) * x3) + x4) + x6).toNatClampNeg) (u.2 11 x6.toNatClampNeg)))) s H locs := hW
      refine lv_iinc (v := (x6 + (1 : Int32))) (lv' := [(6, .int (x6 + (1 : Int32))), (0, .ref (B 0)), (3, .int x3), (4, .int x4), (5, .int x5)]) hx hb dX5_copy_173 hl (k := 4) rfl rfl (by decide) rfl (fun ls hl => ?_)
      refine lv_goto (tgt := 144) hx hb dX5_copy_176 (by decide) ?_
      exact ih _ _ _ _ _ _ _ _ hW (lv_sub hl [1, 2, 3, 4, 0] rfl) hf
set_option maxHeartbeats 4000000 in
set_option maxRecDepth 100000 in
theorem tX5_copy_107 {p : Program} {l : Launch} {e : Env} {s : State} {m : MethodId} {args : Array Value} {below : List Frame} {meth : Method} {c : Code} {E : EE} {B : Nat → Nat} {out : Int32 × SM} (C0 : cx wsX5_copy cX5_copy 7 (some .int) RX5 E p s m args meth c) : ∀ (n : Nat) (x1 : Int32) (x2 : Int32) (x3 : Int32) (x4 : Int32) (x5 : Int32) (x6 : Int32) (u : SM) (H : Heap) (locs : List Loc) (ls : Array Slot) (_ : WM E B u s H locs), lv_has ls 7 [(0, .ref (B 0)), (1, .int x1), (2, .int x2), (3, .int x3), (4, .int x4), (5, .int x5), (6, .int x6)] → fX5_copy_107 n x1 x2 x3 x4 x5 x6 u = some out → W p l e rmX5_copy s m args below meth c H locs 0 0 (MQ below (va_Qi (fun r (_ : Unit) => r = out.1) (fun _ t => fP E (cM E B out.2) t.heap) (aM B)) args s 0 0 (aM B)) (F0 m 107 ls []) := by
  obtain ⟨hx, hb, hr, hml, hown, hts, hlk, hK⟩ := id C0
  intro n
  induction n with
  | zero =>
    intro x1 x2 x3 x4 x5 x6 u H locs ls hW hl hf
    cases (show none = some out from hf)
  | succ n ih =>
    intro x1 x2 x3 x4 x5 x6 u H locs ls hW hl hf
    rw [fX5_copy_107] at hf
    refine lv_iload hx hb dX5_copy_107 (lv_at hl 6 rfl) ?_
    refine lv_iload hx hb dX5_copy_109 (lv_at hl 5 rfl) ?_
    refine lv_icmp_ge (tgt := 141) hx hb dX5_copy_111 (by decide) (fun c1 => ?_) (fun c1 => ?_)
    · have hf := th hf c1
      refine lv_iconst (v := (0 : Int32)) hx hb dX5_copy_141 (by decide) ?_
      refine lv_istore (lv' := [(6, .int (0 : Int32)), (0, .ref (B 0)), (1, .int x1), (2, .int x2), (3, .int x3), (4, .int x4), (5, .int x5)]) hx hb dX5_copy_142 hl (by decide) rfl (fun ls hl => ?_)
      exact tX5_copy_144 C0 fu _ _ _ _ _ _ _ _ hW (lv_sub hl [1, 4, 5, 6, 0] rfl) hf
    · have hf := el hf c1
      refine lv_aload_n hx hb dX5_copy_114 rfl (lv_at hl 0 rfl) ?_
      refine m_get C0 hW.2.1 iX5_copy_X5 22 (by decide) (by decide +kernel) rfl dX5_copy_115 ?_
      refine lv_iload hx hb dX5_copy_118 (lv_at hl 6 rfl) ?_
      refine lv_aload_n hx hb dX5_copy_120 rfl (lv_at hl 0 rfl) ?_
      refine m_get C0 hW.2.1 iX5_copy_X5 21 (by decide) (by decide +kernel) rfl dX5_copy_121 ?_
      refine lv_bipush (v := (60 : Int32)) hx hb dX5_copy_124 (by decide) ?_
      refine lv_iload_n hx hb dX5_copy_126 rfl (lv_at hl 1 rfl) ?_
      refine lv_imul hx hb dX5_copy_127 ?_
      refine lv_iload_n hx hb dX5_copy_128 rfl (lv_at hl 2 rfl) ?_
      refine lv_iadd hx hb dX5_copy_129 ?_
      refine lv_iload hx hb dX5_copy_130 (lv_at hl 6 rfl) ?_
      refine lv_iadd hx hb dX5_copy_132 ?_
      obtain ⟨h2, hf⟩ := gd hf
      refine m_ald C0 hW.2.1 10 240 rfl h2 dX5_copy_133 ?_
      obtain ⟨h3, hf⟩ := gd hf
      refine m_ast C0 hW 11 60 (by decide) (by decide) rfl h3 dX5_copy_134 (fun H locs hW => ?_)
      have hW : WM E B (u.1, (va_up u.2 11 (upd (u.2 11) x6.toNatClampNeg (u.2 10 ((((60 : Int32) * x1) + x2) + x6).toNatClampNeg)))) s H locs := hW
      refine lv_iinc (v := (x6 + (1 : Int32))) (lv' := [(6, .int (x6 + (1 : Int32))), (0, .ref (B 0)), (1, .int x1), (2, .int x2), (3, .int x3), (4, .int x4), (5, .int x5)]) hx hb dX5_copy_135 hl (k := 6) rfl rfl (by decide) rfl (fun ls hl => ?_)
      refine lv_goto (tgt := 107) hx hb dX5_copy_138 (by decide) ?_
      exact ih _ _ _ _ _ _ _ _ _ _ hW (lv_sub hl [1, 2, 3, 4, 5, 6, 0] rfl) hf
set_option maxHeartbeats 4000000 in
set_option maxRecDepth 100000 in
theorem tX5_copy_0 {p : Program} {l : Launch} {e : Env} {s : State} {m : MethodId} {args : Array Value} {below : List Frame} {meth : Method} {c : Code} {E : EE} {B : Nat → Nat} {out : Int32 × SM} (C0 : cx wsX5_copy cX5_copy 7 (some .int) RX5 E p s m args meth c) {x1 : Int32} {x2 : Int32} {x3 : Int32} {x4 : Int32} {x5 : Int32} {u : SM} {H : Heap} {locs : List Loc} {ls : Array Slot} (hW : WM E B u s H locs) (hl : lv_has ls 7 [(0, .ref (B 0)), (1, .int x1), (2, .int x2), (3, .int x3), (4, .int x4), (5, .int x5)]) (hf : fX5_copy x1 x2 x3 x4 x5 u = some out) : W p l e rmX5_copy s m args below meth c H locs 0 0 (MQ below (va_Qi (fun r (_ : Unit) => r = out.1) (fun _ t => fP E (cM E B out.2) t.heap) (aM B)) args s 0 0 (aM B)) (F0 m 0 ls []) := by
  obtain ⟨hx, hb, hr, hml, hown, hts, hlk, hK⟩ := id C0
  unfold fX5_copy at hf
  refine lv_iload_n hx hb dX5_copy_0 rfl (lv_at hl 1 rfl) ?_
  obtain ⟨q1, h2, hf⟩ := bd hf
  refine k_roI (run_S (rest := []) (n := 1) (PH := fun _ => True) C0 (tX5_noSheet E h2) gX5_copy_X5_noSheet rfl rfl (by decide +kernel) trivial hl.1 rfl rfl (Nat.le_of_ble_eq_true rfl) dX5_copy_1) ?_
  refine lv_if_ne (tgt := 14) hx hb dX5_copy_4 (by decide) (fun c3 => ?_) (fun c3 => ?_)
  · have hf := el hf c3
    exact tX5_copy_14 C0 hW (lv_sub hl [0] rfl) hf
  · have hf := th hf c3
    refine lv_iload_n hx hb dX5_copy_7 rfl (lv_at hl 3 rfl) ?_
    obtain ⟨q4, h5, hf⟩ := bd hf
    refine k_roI (run_S (rest := []) (n := 1) (PH := fun _ => True) C0 (tX5_noSheet E h5) gX5_copy_X5_noSheet rfl rfl (by decide +kernel) trivial hl.1 rfl rfl (Nat.le_of_ble_eq_true rfl) dX5_copy_8) ?_
    refine lv_if_eq (tgt := 20) hx hb dX5_copy_11 (by decide) (fun c6 => ?_) (fun c6 => ?_)
    · have hf := th hf c6
      refine lv_aload_n hx hb dX5_copy_20 rfl (lv_at hl 0 rfl) ?_
      refine m_get C0 hW.2.1 iX5_copy_X5 19 (by decide) (by decide +kernel) rfl dX5_copy_21 ?_
      refine lv_iload_n hx hb dX5_copy_24 rfl (lv_at hl 1 rfl) ?_
      obtain ⟨h7, hf⟩ := gd hf
      refine m_ald C0 hW.2.1 8 4 rfl h7 dX5_copy_25 ?_
      refine lv_if_lt (tgt := 38) hx hb dX5_copy_26 (by decide) (fun c8 => ?_) (fun c8 => ?_)
      · have hf := th hf c8
        exact tX5_copy_38 C0 hW (lv_sub hl [0] rfl) hf
      · have hf := el hf c8
        refine lv_aload_n hx hb dX5_copy_29 rfl (lv_at hl 0 rfl) ?_
        refine m_get C0 hW.2.1 iX5_copy_X5 19 (by decide) (by decide +kernel) rfl dX5_copy_30 ?_
        refine lv_iload_n hx hb dX5_copy_33 rfl (lv_at hl 3 rfl) ?_
        obtain ⟨h9, hf⟩ := gd hf
        refine m_ald C0 hW.2.1 8 4 rfl h9 dX5_copy_34 ?_
        refine lv_if_ge (tgt := 44) hx hb dX5_copy_35 (by decide) (fun c10 => ?_) (fun c10 => ?_)
        · have hf := th hf c10
          refine lv_aload_n hx hb dX5_copy_44 rfl (lv_at hl 0 rfl) ?_
          refine m_get C0 hW.2.1 iX5_copy_X5 20 (by decide) (by decide +kernel) rfl dX5_copy_45 ?_
          refine lv_iload_n hx hb dX5_copy_48 rfl (lv_at hl 1 rfl) ?_
          obtain ⟨h11, hf⟩ := gd hf
          refine m_ald C0 hW.2.1 9 4 rfl h11 dX5_copy_49 ?_
          refine lv_aload_n hx hb dX5_copy_50 rfl (lv_at hl 0 rfl) ?_
          refine m_get C0 hW.2.1 iX5_copy_X5 20 (by decide) (by decide +kernel) rfl dX5_copy_51 ?_
          refine lv_iload_n hx hb dX5_copy_54 rfl (lv_at hl 3 rfl) ?_
          obtain ⟨h12, hf⟩ := gd hf
          refine m_ald C0 hW.2.1 9 4 rfl h12 dX5_copy_55 ?_
          refine lv_icmp_eq (tgt := 65) hx hb dX5_copy_56 (by decide) (fun c13 => ?_) (fun c13 => ?_)
          · have hf := th hf c13
            refine lv_iload_n hx hb dX5_copy_65 rfl (lv_at hl 2 rfl) ?_
            refine lv_iload hx hb dX5_copy_66 (lv_at hl 5 rfl) ?_
            refine lv_i2l (v := x5.toInt64) hx hb dX5_copy_68 rfl ?_
            refine lv_aload_n hx hb dX5_copy_69 rfl (lv_at hl 0 rfl) ?_
            refine m_get C0 hW.2.1 iX5_copy_X5 19 (by decide) (by decide +kernel) rfl dX5_copy_70 ?_
            refine lv_iload_n hx hb dX5_copy_73 rfl (lv_at hl 1 rfl) ?_
            obtain ⟨h14, hf⟩ := gd hf
            refine m_ald C0 hW.2.1 8 4 rfl h14 dX5_copy_74 ?_
            obtain ⟨q15, h16, hf⟩ := bd hf
            refine k_roI (run_S (rest := []) (n := 3) (PH := fun _ => True) C0 (tX5_isBeyond E h16) gX5_copy_X5_isBeyond rfl rfl (by decide +kernel) trivial hl.1 rfl rfl (Nat.le_of_ble_eq_true rfl) dX5_copy_75) ?_
            refine lv_if_ne (tgt := 98) hx hb dX5_copy_78 (by decide) (fun c17 => ?_) (fun c17 => ?_)
            · have hf := el hf c17
              exact tX5_copy_98 C0 hW (lv_sub hl [0] rfl) hf
            · have hf := th hf c17
              refine lv_iload hx hb dX5_copy_81 (lv_at hl 4 rfl) ?_
              refine lv_iload hx hb dX5_copy_83 (lv_at hl 5 rfl) ?_
              refine lv_i2l (v := x5.toInt64) hx hb dX5_copy_85 rfl ?_
              refine lv_aload_n hx hb dX5_copy_86 rfl (lv_at hl 0 rfl) ?_
              refine m_get C0 hW.2.1 iX5_copy_X5 19 (by decide) (by decide +kernel) rfl dX5_copy_87 ?_
              refine lv_iload_n hx hb dX5_copy_90 rfl (lv_at hl 3 rfl) ?_
              obtain ⟨h18, hf⟩ := gd hf
              refine m_ald C0 hW.2.1 8 4 rfl h18 dX5_copy_91 ?_
              obtain ⟨q19, h20, hf⟩ := bd hf
              refine k_roI (run_S (rest := []) (n := 3) (PH := fun _ => True) C0 (tX5_isBeyond E h20) gX5_copy_X5_isBeyond rfl rfl (by decide +kernel) trivial hl.1 rfl rfl (Nat.le_of_ble_eq_true rfl) dX5_copy_92) ?_
              refine lv_if_eq (tgt := 104) hx hb dX5_copy_95 (by decide) (fun c21 => ?_) (fun c21 => ?_)
              · have hf := th hf c21
                refine lv_iconst (v := (0 : Int32)) hx hb dX5_copy_104 (by decide) ?_
                refine lv_istore (lv' := [(6, .int (0 : Int32)), (0, .ref (B 0)), (1, .int x1), (2, .int x2), (3, .int x3), (4, .int x4), (5, .int x5)]) hx hb dX5_copy_105 hl (by decide) rfl (fun ls hl => ?_)
                exact tX5_copy_107 C0 fu _ _ _ _ _ _ _ _ _ _ hW (lv_sub hl [1, 2, 3, 4, 5, 6, 0] rfl) hf
              · have hf := el hf c21
                exact tX5_copy_98 C0 hW (lv_sub hl [0] rfl) hf
          · have hf := el hf c13
            refine lv_aload_n hx hb dX5_copy_59 rfl (lv_at hl 0 rfl) ?_
            refine lv_iconst (v := (2 : Int32)) hx hb dX5_copy_60 (by decide) ?_
            obtain ⟨q22, h23, hf⟩ := bd hf
            refine k_muI (run_V (rest := []) (n := 1) C0 (tX5_failed E B hW.1 h23) gX5_copy_X5_failed rfl rfl (by decide +kernel) (hW.2.1 0 _ rfl) rfl rfl hW.2.1 hl.1 rfl rfl (Nat.le_of_ble_eq_true rfl) dX5_copy_61) hW.2.2 (fun _ h => h) (fun H locs hQ _ hS => ?_)
            have hW : WM E B q22.2 s H locs := ⟨hW.1, hQ, hS⟩
            obtain rfl := Option.some.inj hf
            exact e_muI (QH := fP E (cM E B q22.2)) C0 hW.2.2 rfl hW.2.1 dX5_copy_64
        · have hf := el hf c10
          exact tX5_copy_38 C0 hW (lv_sub hl [0] rfl) hf
    · have hf := el hf c6
      exact tX5_copy_14 C0 hW (lv_sub hl [0] rfl) hf
set_option maxHeartbeats 4000000 in
set_option maxRecDepth 100000 in
theorem tX5_copy {l : Launch} (E : EE) (B : Nat → Nat) {u : SM} {x1 : Int32} {x2 : Int32} {x3 : Int32} {x4 : Int32} {x5 : Int32} {out : Int32 × SM} (hB : iM B) (hf : fX5_copy x1 x2 x3 x4 x5 u = some out) : muI l yX5_copy wsX5_copy rmX5_copy E [.ref (B 0), .int x1, .int x2, .int x3, .int x4, .int x5] (aM B) (fP E (cM E B u)) (fP E (cM E B out.2)) out.1 := by
  refine Met.ofW (cc := cX5_copy) (maxL := 7) (ret := (some .int)) (by decide) rfl ?_
  intro p e s m args below meth c s₁ B0 hml hv
  obtain ⟨rfl, hP, hK⟩ := hv
  have C0 : cx wsX5_copy cX5_copy 7 (some .int) RX5 E p s m _ meth c := ⟨B0.exec, B0.bytes, B0.returns, hml, findClass_of_methodNamed B0.named, atoms_spec (ws := wsX5_copy) B0.pre, B0.notSynchronized, hK⟩
  have hl := lv_entry ([.ref (B 0), .int x1, .int x2, .int x3, .int x4, .int x5]) (n := 7) (Nat.le_of_ble_eq_true rfl)
  rw [lg_entry_eq]
  generalize (lg_sl ([.ref (B 0), .int x1, .int x2, .int x3, .int x4, .int x5]) ++ List.replicate (7 - (lg_sl ([.ref (B 0), .int x1, .int x2, .int x3, .int x4, .int x5])).length) Slot.unset).toArray = ls at hl ⊢
  exact tX5_copy_0 C0 ⟨hB, hP, va_S.rf⟩ hl hf
abbrev rmX5_traced : Room := { frames := 0, cells := 0, slots := 0, locals := 0 }
set_option maxRecDepth 20000 in
theorem iX5_traced_X5 : ∀ w ∈ wsX50, w ∈ wsX5_traced := by decide +kernel
set_option maxHeartbeats 4000000 in
set_option maxRecDepth 100000 in
theorem tX5_traced_0 {p : Program} {l : Launch} {e : Env} {s : State} {m : MethodId} {args : Array Value} {below : List Frame} {meth : Method} {c : Code} {E : EE} {B : Nat → Nat} {out : SM} (C0 : cx wsX5_traced cX5_traced 2 none RX5 E p s m args meth c) {x1 : Int32} {u : SM} {H : Heap} {locs : List Loc} {ls : Array Slot} (hW : WM E B u s H locs) (hl : lv_has ls 2 [(0, .ref (B 0)), (1, .int x1)]) (hf : fX5_traced x1 u = some out) : W p l e rmX5_traced s m args below meth c H locs 0 0 (MQ below (va_Qv (fun (_ : Unit) => True) (fun _ t => fP E (cM E B out) t.heap) (aM B)) args s 0 0 (aM B)) (F0 m 0 ls []) := by
  obtain ⟨hx, hb, hr, hml, hown, hts, hlk, hK⟩ := id C0
  unfold fX5_traced at hf
  refine lv_aload_n hx hb dX5_traced_0 rfl (lv_at hl 0 rfl) ?_
  refine lv_bipush (v := (31 : Int32)) hx hb dX5_traced_1 (by decide) ?_
  refine lv_aload_n hx hb dX5_traced_3 rfl (lv_at hl 0 rfl) ?_
  refine m_get C0 hW.2.1 iX5_traced_X5 23 (by decide) (by decide +kernel) rfl dX5_traced_4 ?_
  refine lv_imul hx hb dX5_traced_7 ?_
  refine lv_iload_n hx hb dX5_traced_8 rfl (lv_at hl 1 rfl) ?_
  refine lv_iadd hx hb dX5_traced_9 ?_
  refine m_put C0 hW iX5_traced_X5 23 (by decide) (by decide +kernel) rfl (by decide +kernel) rfl dX5_traced_10 (fun H locs hW => ?_)
  have hW : WM E B ((upd u.1 23 (((31 : Int32) * (u.1 23)) + x1)), u.2) s H locs := hW
  obtain rfl := Option.some.inj hf
  exact e_muV (QH := fP E (cM E B ((upd u.1 23 (((31 : Int32) * (u.1 23)) + x1)), u.2))) C0 hW.2.2 hW.2.1 dX5_traced_13
set_option maxHeartbeats 4000000 in
set_option maxRecDepth 100000 in
theorem tX5_traced {l : Launch} (E : EE) (B : Nat → Nat) {u : SM} {x1 : Int32} {out : SM} (hB : iM B) (hf : fX5_traced x1 u = some out) : muV l yX5_traced wsX5_traced rmX5_traced E [.ref (B 0), .int x1] (aM B) (fP E (cM E B u)) (fP E (cM E B out)) := by
  refine Met.ofW (cc := cX5_traced) (maxL := 2) (ret := none) (by decide) rfl ?_
  intro p e s m args below meth c s₁ B0 hml hv
  obtain ⟨rfl, hP, hK⟩ := hv
  have C0 : cx wsX5_traced cX5_traced 2 none RX5 E p s m _ meth c := ⟨B0.exec, B0.bytes, B0.returns, hml, findClass_of_methodNamed B0.named, atoms_spec (ws := wsX5_traced) B0.pre, B0.notSynchronized, hK⟩
  have hl := lv_entry ([.ref (B 0), .int x1]) (n := 2) (Nat.le_of_ble_eq_true rfl)
  rw [lg_entry_eq]
  generalize (lg_sl ([.ref (B 0), .int x1]) ++ List.replicate (2 - (lg_sl ([.ref (B 0), .int x1])).length) Slot.unset).toArray = ls at hl ⊢
  exact tX5_traced_0 C0 ⟨hB, hP, va_S.rf⟩ hl hf
abbrev rmX5_tell : Room := { frames := 2, cells := 0, slots := 0, locals := 46 }
set_option maxRecDepth 20000 in
theorem iX5_tell_X5 : ∀ w ∈ wsX50, w ∈ wsX5_tell := by decide +kernel
set_option maxHeartbeats 4000000 in
set_option maxRecDepth 100000 in
theorem tX5_tell_51 {p : Program} {l : Launch} {e : Env} {s : State} {m : MethodId} {args : Array Value} {below : List Frame} {meth : Method} {c : Code} {E : EE} {B : Nat → Nat} {out : Int32 × SM} (C0 : cx wsX5_tell cX5_tell 4 (some .int) RX5 E p s m args meth c) {x1 : Int32} {x2 : Int32} {u : SM} {H : Heap} {locs : List Loc} {ls : Array Slot} (hW : WM E B u s H locs) (hl : lv_has ls 4 [(0, .ref (B 0)), (1, .int x1), (2, .int x2)]) (hf : fX5_tell_51 x1 x2 u = some out) : W p l e rmX5_tell s m args below meth c H locs 0 0 (MQ below (va_Qi (fun r (_ : Unit) => r = out.1) (fun _ t => fP E (cM E B out.2) t.heap) (aM B)) args s 0 0 (aM B)) (F0 m 51 ls []) := by
  obtain ⟨hx, hb, hr, hml, hown, hts, hlk, hK⟩ := id C0
  unfold fX5_tell_51 at hf
  refine lv_aload_n hx hb dX5_tell_51 rfl (lv_at hl 0 rfl) ?_
  refine m_get C0 hW.2.1 iX5_tell_X5 5 (by decide) (by decide +kernel) rfl dX5_tell_52 ?_
  refine lv_iload_n hx hb dX5_tell_55 rfl (lv_at hl 1 rfl) ?_
  obtain ⟨h1, hf⟩ := gd hf
  refine m_ald C0 hW.2.1 2 6 rfl h1 dX5_tell_56 ?_
  refine lv_istore_n (lv' := [(3, .int (u.2 2 x1.toNatClampNeg)), (0, .ref (B 0)), (1, .int x1), (2, .int x2)]) hx hb dX5_tell_57 rfl hl (by decide) rfl (fun ls hl => ?_)
  refine lv_iload_n hx hb dX5_tell_58 rfl (lv_at hl 3 rfl) ?_
  refine lv_if_ne (tgt := 66) hx hb dX5_tell_59 (by decide) (fun c2 => ?_) (fun c2 => ?_)
  · have hf := el hf c2
    refine lv_iload_n hx hb dX5_tell_66 rfl (lv_at hl 3 rfl) ?_
    refine lv_iconst (v := (1 : Int32)) hx hb dX5_tell_67 (by decide) ?_
    refine lv_icmp_ne (tgt := 78) hx hb dX5_tell_68 (by decide) (fun c3 => ?_) (fun c3 => ?_)
    · have hf := el hf c3
      refine lv_iconst (v := (2 : Int32)) hx hb dX5_tell_78 (by decide) ?_
      refine lv_iload_n hx hb dX5_tell_79 rfl (lv_at hl 0 rfl) ?_
      refine lv_imul hx hb dX5_tell_80 ?_
      refine lv_bipush (v := (100 : Int32)) hx hb dX5_tell_81 (by decide) ?_
      refine lv_iadd hx hb dX5_tell_83 ?_
      obtain rfl := Option.some.inj hf
      exact e_muI (QH := fP E (cM E B u)) C0 hW.2.2 rfl hW.2.1 dX5_tell_84
    · have hf := th hf c3
      refine lv_iload_n hx hb dX5_tell_71 rfl (lv_at hl 0 rfl) ?_
      refine lv_bipush (v := (100 : Int32)) hx hb dX5_tell_72 (by decide) ?_
      refine lv_iadd hx hb dX5_tell_74 ?_
      refine lv_goto (tgt := 84) hx hb dX5_tell_75 (by decide) ?_
      obtain rfl := Option.some.inj hf
      exact e_muI (QH := fP E (cM E B u)) C0 hW.2.2 rfl hW.2.1 dX5_tell_84
  · have hf := th hf c2
    refine lv_iload_n hx hb dX5_tell_62 rfl (lv_at hl 0 rfl) ?_
    refine lv_goto (tgt := 84) hx hb dX5_tell_63 (by decide) ?_
    obtain rfl := Option.some.inj hf
    exact e_muI (QH := fP E (cM E B u)) C0 hW.2.2 rfl hW.2.1 dX5_tell_84
set_option maxHeartbeats 4000000 in
set_option maxRecDepth 100000 in
theorem tX5_tell_36 {p : Program} {l : Launch} {e : Env} {s : State} {m : MethodId} {args : Array Value} {below : List Frame} {meth : Method} {c : Code} {E : EE} {B : Nat → Nat} {out : Int32 × SM} (C0 : cx wsX5_tell cX5_tell 4 (some .int) RX5 E p s m args meth c) {x1 : Int32} {x2 : Int32} {u : SM} {H : Heap} {locs : List Loc} {ls : Array Slot} (hW : WM E B u s H locs) (hl : lv_has ls 4 [(0, .ref (B 0)), (1, .int x1), (2, .int x2)]) (hf : fX5_tell_36 x1 x2 u = some out) : W p l e rmX5_tell s m args below meth c H locs 0 0 (MQ below (va_Qi (fun r (_ : Unit) => r = out.1) (fun _ t => fP E (cM E B out.2) t.heap) (aM B)) args s 0 0 (aM B)) (F0 m 36 ls []) := by
  obtain ⟨hx, hb, hr, hml, hown, hts, hlk, hK⟩ := id C0
  unfold fX5_tell_36 at hf
  refine lv_aload_n hx hb dX5_tell_36 rfl (lv_at hl 0 rfl) ?_
  refine lv_iconst (v := (1 : Int32)) hx hb dX5_tell_37 (by decide) ?_
  obtain ⟨q1, h2, hf⟩ := bd hf
  refine k_muV (run_V (rest := []) (n := 1) C0 (tX5_traced E B hW.1 h2) gX5_tell_X5_traced rfl rfl (by decide +kernel) (hW.2.1 0 _ rfl) rfl rfl hW.2.1 hl.1 rfl rfl (Nat.le_of_ble_eq_true rfl) dX5_tell_38) hW.2.2 (fun _ h => h) (fun H locs hQ _ hS => ?_)
  have hW : WM E B q1 s H locs := ⟨hW.1, hQ, hS⟩
  refine lv_iload_n hx hb dX5_tell_41 rfl (lv_at hl 2 rfl) ?_
  refine lv_iconst (v := (2 : Int32)) hx hb dX5_tell_42 (by decide) ?_
  refine lv_icmp_ne (tgt := 51) hx hb dX5_tell_43 (by decide) (fun c3 => ?_) (fun c3 => ?_)
  · have hf := el hf c3
    exact tX5_tell_51 C0 hW (lv_sub hl [0, 1, 2] rfl) hf
  · have hf := th hf c3
    refine lv_aload_n hx hb dX5_tell_46 rfl (lv_at hl 0 rfl) ?_
    refine lv_iconst (v := (1 : Int32)) hx hb dX5_tell_47 (by decide) ?_
    obtain ⟨q4, h5, hf⟩ := bd hf
    refine k_muV (run_V (rest := []) (n := 1) C0 (tX5_traced E B hW.1 h5) gX5_tell_X5_traced rfl rfl (by decide +kernel) (hW.2.1 0 _ rfl) rfl rfl hW.2.1 hl.1 rfl rfl (Nat.le_of_ble_eq_true rfl) dX5_tell_48) hW.2.2 (fun _ h => h) (fun H locs hQ _ hS => ?_)
    have hW : WM E B q4 s H locs := ⟨hW.1, hQ, hS⟩
    exact tX5_tell_51 C0 hW (lv_sub hl [0, 1, 2] rfl) hf
set_option maxHeartbeats 4000000 in
set_option maxRecDepth 100000 in
theorem tX5_tell_27 {p : Program} {l : Launch} {e : Env} {s : State} {m : MethodId} {args : Array Value} {below : List Frame} {meth : Method} {c : Code} {E : EE} {B : Nat → Nat} {out : Int32 × SM} (C0 : cx wsX5_tell cX5_tell 4 (some .int) RX5 E p s m args meth c) {x1 : Int32} {x2 : Int32} {u : SM} {H : Heap} {locs : List Loc} {ls : Array Slot} (hW : WM E B u s H locs) (hl : lv_has ls 4 [(0, .ref (B 0)), (1, .int x1), (2, .int x2)]) (hf : fX5_tell_27 x1 x2 u = some out) : W p l e rmX5_tell s m args below meth c H locs 0 0 (MQ below (va_Qi (fun r (_ : Unit) => r = out.1) (fun _ t => fP E (cM E B out.2) t.heap) (aM B)) args s 0 0 (aM B)) (F0 m 27 ls []) := by
  obtain ⟨hx, hb, hr, hml, hown, hts, hlk, hK⟩ := id C0
  unfold fX5_tell_27 at hf
  refine lv_iload_n hx hb dX5_tell_27 rfl (lv_at hl 2 rfl) ?_
  refine lv_if_le (tgt := 36) hx hb dX5_tell_28 (by decide) (fun c1 => ?_) (fun c1 => ?_)
  · have hf := th hf c1
    exact tX5_tell_36 C0 hW (lv_sub hl [0, 1, 2] rfl) hf
  · have hf := el hf c1
    refine lv_aload_n hx hb dX5_tell_31 rfl (lv_at hl 0 rfl) ?_
    refine lv_iconst (v := (2 : Int32)) hx hb dX5_tell_32 (by decide) ?_
    obtain ⟨q2, h3, hf⟩ := bd hf
    refine k_muV (run_V (rest := []) (n := 1) C0 (tX5_traced E B hW.1 h3) gX5_tell_X5_traced rfl rfl (by decide +kernel) (hW.2.1 0 _ rfl) rfl rfl hW.2.1 hl.1 rfl rfl (Nat.le_of_ble_eq_true rfl) dX5_tell_33) hW.2.2 (fun _ h => h) (fun H locs hQ _ hS => ?_)
    have hW : WM E B q2 s H locs := ⟨hW.1, hQ, hS⟩
    exact tX5_tell_36 C0 hW (lv_sub hl [0, 1, 2] rfl) hf
set_option maxHeartbeats 4000000 in
set_option maxRecDepth 100000 in
theorem tX5_tell_0 {p : Program} {l : Launch} {e : Env} {s : State} {m : MethodId} {args : Array Value} {below : List Frame} {meth : Method} {c : Code} {E : EE} {B : Nat → Nat} {out : Int32 × SM} (C0 : cx wsX5_tell cX5_tell 4 (some .int) RX5 E p s m args meth c) {x1 : Int32} {u : SM} {H : Heap} {locs : List Loc} {ls : Array Slot} (hW : WM E B u s H locs) (hl : lv_has ls 4 [(0, .ref (B 0)), (1, .int x1)]) (hf : fX5_tell x1 u = some out) : W p l e rmX5_tell s m args below meth c H locs 0 0 (MQ below (va_Qi (fun r (_ : Unit) => r = out.1) (fun _ t => fP E (cM E B out.2) t.heap) (aM B)) args s 0 0 (aM B)) (F0 m 0 ls []) := by
  obtain ⟨hx, hb, hr, hml, hown, hts, hlk, hK⟩ := id C0
  unfold fX5_tell at hf
  refine lv_aload_n hx hb dX5_tell_0 rfl (lv_at hl 0 rfl) ?_
  refine lv_iload_n hx hb dX5_tell_1 rfl (lv_at hl 1 rfl) ?_
  obtain ⟨q1, h2, hf⟩ := bd hf
  refine k_roI (run_V (rest := []) (n := 1) C0 (tX5_noCitizen E B h2) gX5_tell_X5_noCitizen rfl rfl (by decide +kernel) (hW.2.1 0 _ rfl) rfl rfl hW.2.1 hl.1 rfl rfl (Nat.le_of_ble_eq_true rfl) dX5_tell_2) ?_
  refine lv_if_eq (tgt := 10) hx hb dX5_tell_5 (by decide) (fun c3 => ?_) (fun c3 => ?_)
  · have hf := th hf c3
    refine lv_aload_n hx hb dX5_tell_10 rfl (lv_at hl 0 rfl) ?_
    refine m_get C0 hW.2.1 iX5_tell_X5 4 (by decide) (by decide +kernel) rfl dX5_tell_11 ?_
    refine lv_iload_n hx hb dX5_tell_14 rfl (lv_at hl 1 rfl) ?_
    obtain ⟨h4, hf⟩ := gd hf
    refine m_ald C0 hW.2.1 1 6 rfl h4 dX5_tell_15 ?_
    refine lv_istore_n (lv' := [(2, .int (u.2 1 x1.toNatClampNeg)), (0, .ref (B 0)), (1, .int x1)]) hx hb dX5_tell_16 rfl hl (by decide) rfl (fun ls hl => ?_)
    refine lv_iload_n hx hb dX5_tell_17 rfl (lv_at hl 0 rfl) ?_
    refine lv_iconst (v := (2 : Int32)) hx hb dX5_tell_18 (by decide) ?_
    refine lv_icmp_ne (tgt := 27) hx hb dX5_tell_19 (by decide) (fun c5 => ?_) (fun c5 => ?_)
    · have hf := el hf c5
      exact tX5_tell_27 C0 hW (lv_sub hl [1, 2, 0] rfl) hf
    · have hf := th hf c5
      refine lv_aload_n hx hb dX5_tell_22 rfl (lv_at hl 1 rfl) ?_
      refine lv_iconst (v := (3 : Int32)) hx hb dX5_tell_23 (by decide) ?_
      obtain ⟨q6, h7, hf⟩ := bd hf
      refine k_muV (run_V (rest := []) (n := 1) C0 (tX5_traced E B hW.1 h7) gX5_tell_X5_traced rfl rfl (by decide +kernel) (hW.2.1 0 _ rfl) rfl rfl hW.2.1 hl.1 rfl rfl (Nat.le_of_ble_eq_true rfl) dX5_tell_24) hW.2.2 (fun _ h => h) (fun H locs hQ _ hS => ?_)
      have hW : WM E B q6 s H locs := ⟨hW.1, hQ, hS⟩
      exact tX5_tell_27 C0 hW (lv_sub hl [1, 2, 0] rfl) hf
  · have hf := el hf c3
    refine lv_iconst (v := (-1 : Int32)) hx hb dX5_tell_8 (by decide) ?_
    obtain rfl := Option.some.inj hf
    exact e_muI (QH := fP E (cM E B u)) C0 hW.2.2 rfl hW.2.1 dX5_tell_9
set_option maxHeartbeats 4000000 in
set_option maxRecDepth 100000 in
theorem tX5_tell {l : Launch} (E : EE) (B : Nat → Nat) {u : SM} {x1 : Int32} {out : Int32 × SM} (hB : iM B) (hf : fX5_tell x1 u = some out) : muI l yX5_tell wsX5_tell rmX5_tell E [.ref (B 0), .int x1] (aM B) (fP E (cM E B u)) (fP E (cM E B out.2)) out.1 := by
  refine Met.ofW (cc := cX5_tell) (maxL := 4) (ret := (some .int)) (by decide) rfl ?_
  intro p e s m args below meth c s₁ B0 hml hv
  obtain ⟨rfl, hP, hK⟩ := hv
  have C0 : cx wsX5_tell cX5_tell 4 (some .int) RX5 E p s m _ meth c := ⟨B0.exec, B0.bytes, B0.returns, hml, findClass_of_methodNamed B0.named, atoms_spec (ws := wsX5_tell) B0.pre, B0.notSynchronized, hK⟩
  have hl := lv_entry ([.ref (B 0), .int x1]) (n := 4) (Nat.le_of_ble_eq_true rfl)
  rw [lg_entry_eq]
  generalize (lg_sl ([.ref (B 0), .int x1]) ++ List.replicate (4 - (lg_sl ([.ref (B 0), .int x1])).length) Slot.unset).toArray = ls at hl ⊢
  exact tX5_tell_0 C0 ⟨hB, hP, va_S.rf⟩ hl hf
abbrev rmX5_call : Room := { frames := 2, cells := 0, slots := 0, locals := 46 }
set_option maxRecDepth 20000 in
theorem iX5_call_X5 : ∀ w ∈ wsX50, w ∈ wsX5_call := by decide +kernel
set_option maxHeartbeats 4000000 in
set_option maxRecDepth 100000 in
theorem tX5_call_26 {p : Program} {l : Launch} {e : Env} {s : State} {m : MethodId} {args : Array Value} {below : List Frame} {meth : Method} {c : Code} {E : EE} {B : Nat → Nat} {out : Int32 × SM} (C0 : cx wsX5_call cX5_call 2 (some .int) RX5 E p s m args meth c) {x1 : Int32} {xs1 : Int32} {u : SM} {H : Heap} {locs : List Loc} {ls : Array Slot} (hW : WM E B u s H locs) (hl : lv_has ls 2 [(0, .ref (B 0)), (1, .int x1)]) (hf : fX5_call_26 x1 xs1 u = some out) : W p l e rmX5_call s m args below meth c H locs 0 0 (MQ below (va_Qi (fun r (_ : Unit) => r = out.1) (fun _ t => fP E (cM E B out.2) t.heap) (aM B)) args s 0 0 (aM B)) (F0 m 26 ls [.int xs1, .ref (B 0)]) := by
  obtain ⟨hx, hb, hr, hml, hown, hts, hlk, hK⟩ := id C0
  unfold fX5_call_26 at hf
  obtain ⟨q1, h2, hf⟩ := bd hf
  refine k_muV (run_V (rest := []) (n := 1) C0 (tX5_traced E B hW.1 h2) gX5_call_X5_traced rfl rfl (by decide +kernel) (hW.2.1 0 _ rfl) rfl rfl hW.2.1 hl.1 rfl rfl (Nat.le_of_ble_eq_true rfl) dX5_call_26) hW.2.2 (fun _ h => h) (fun H locs hQ _ hS => ?_)
  have hW : WM E B q1 s H locs := ⟨hW.1, hQ, hS⟩
  refine lv_aload_n hx hb dX5_call_29 rfl (lv_at hl 0 rfl) ?_
  refine m_get C0 hW.2.1 iX5_call_X5 4 (by decide) (by decide +kernel) rfl dX5_call_30 ?_
  refine lv_iload_n hx hb dX5_call_33 rfl (lv_at hl 1 rfl) ?_
  obtain ⟨h3, hf⟩ := gd hf
  refine m_ald C0 hW.2.1 1 6 rfl h3 dX5_call_34 ?_
  refine lv_iconst (v := (2 : Int32)) hx hb dX5_call_35 (by decide) ?_
  refine lv_icmp_ne (tgt := 44) hx hb dX5_call_36 (by decide) (fun c4 => ?_) (fun c4 => ?_)
  · have hf := el hf c4
    refine lv_iload_n hx hb dX5_call_44 rfl (lv_at hl 1 rfl) ?_
    obtain rfl := Option.some.inj hf
    exact e_muI (QH := fP E (cM E B q1)) C0 hW.2.2 rfl hW.2.1 dX5_call_45
  · have hf := th hf c4
    refine lv_bipush (v := (20 : Int32)) hx hb dX5_call_39 (by decide) ?_
    refine lv_goto (tgt := 45) hx hb dX5_call_41 (by decide) ?_
    obtain rfl := Option.some.inj hf
    exact e_muI (QH := fP E (cM E B q1)) C0 hW.2.2 rfl hW.2.1 dX5_call_45
set_option maxHeartbeats 4000000 in
set_option maxRecDepth 100000 in
theorem tX5_call_0 {p : Program} {l : Launch} {e : Env} {s : State} {m : MethodId} {args : Array Value} {below : List Frame} {meth : Method} {c : Code} {E : EE} {B : Nat → Nat} {out : Int32 × SM} (C0 : cx wsX5_call cX5_call 2 (some .int) RX5 E p s m args meth c) {x1 : Int32} {u : SM} {H : Heap} {locs : List Loc} {ls : Array Slot} (hW : WM E B u s H locs) (hl : lv_has ls 2 [(0, .ref (B 0)), (1, .int x1)]) (hf : fX5_call x1 u = some out) : W p l e rmX5_call s m args below meth c H locs 0 0 (MQ below (va_Qi (fun r (_ : Unit) => r = out.1) (fun _ t => fP E (cM E B out.2) t.heap) (aM B)) args s 0 0 (aM B)) (F0 m 0 ls []) := by
  obtain ⟨hx, hb, hr, hml, hown, hts, hlk, hK⟩ := id C0
  unfold fX5_call at hf
  refine lv_aload_n hx hb dX5_call_0 rfl (lv_at hl 0 rfl) ?_
  refine lv_iload_n hx hb dX5_call_1 rfl (lv_at hl 1 rfl) ?_
  obtain ⟨q1, h2, hf⟩ := bd hf
  refine k_roI (run_V (rest := []) (n := 1) C0 (tX5_noCitizen E B h2) gX5_call_X5_noCitizen rfl rfl (by decide +kernel) (hW.2.1 0 _ rfl) rfl rfl hW.2.1 hl.1 rfl rfl (Nat.le_of_ble_eq_true rfl) dX5_call_2) ?_
  refine lv_if_eq (tgt := 10) hx hb dX5_call_5 (by decide) (fun c3 => ?_) (fun c3 => ?_)
  · have hf := th hf c3
    refine lv_aload_n hx hb dX5_call_10 rfl (lv_at hl 0 rfl) ?_
    refine lv_aload_n hx hb dX5_call_11 rfl (lv_at hl 0 rfl) ?_
    refine m_get C0 hW.2.1 iX5_call_X5 4 (by decide) (by decide +kernel) rfl dX5_call_12 ?_
    refine lv_iload_n hx hb dX5_call_15 rfl (lv_at hl 1 rfl) ?_
    obtain ⟨h4, hf⟩ := gd hf
    refine m_ald C0 hW.2.1 1 6 rfl h4 dX5_call_16 ?_
    refine lv_iconst (v := (2 : Int32)) hx hb dX5_call_17 (by decide) ?_
    refine lv_icmp_ne (tgt := 25) hx hb dX5_call_18 (by decide) (fun c5 => ?_) (fun c5 => ?_)
    · have hf := el hf c5
      refine lv_iconst (v := (4 : Int32)) hx hb dX5_call_25 (by decide) ?_
      exact tX5_call_26 C0 hW (lv_sub hl [0, 1] rfl) hf
    · have hf := th hf c5
      refine lv_iconst (v := (5 : Int32)) hx hb dX5_call_21 (by decide) ?_
      refine lv_goto (tgt := 26) hx hb dX5_call_22 (by decide) ?_
      exact tX5_call_26 C0 hW (lv_sub hl [0, 1] rfl) hf
  · have hf := el hf c3
    refine lv_iconst (v := (-1 : Int32)) hx hb dX5_call_8 (by decide) ?_
    obtain rfl := Option.some.inj hf
    exact e_muI (QH := fP E (cM E B u)) C0 hW.2.2 rfl hW.2.1 dX5_call_9
set_option maxHeartbeats 4000000 in
set_option maxRecDepth 100000 in
theorem tX5_call {l : Launch} (E : EE) (B : Nat → Nat) {u : SM} {x1 : Int32} {out : Int32 × SM} (hB : iM B) (hf : fX5_call x1 u = some out) : muI l yX5_call wsX5_call rmX5_call E [.ref (B 0), .int x1] (aM B) (fP E (cM E B u)) (fP E (cM E B out.2)) out.1 := by
  refine Met.ofW (cc := cX5_call) (maxL := 2) (ret := (some .int)) (by decide) rfl ?_
  intro p e s m args below meth c s₁ B0 hml hv
  obtain ⟨rfl, hP, hK⟩ := hv
  have C0 : cx wsX5_call cX5_call 2 (some .int) RX5 E p s m _ meth c := ⟨B0.exec, B0.bytes, B0.returns, hml, findClass_of_methodNamed B0.named, atoms_spec (ws := wsX5_call) B0.pre, B0.notSynchronized, hK⟩
  have hl := lv_entry ([.ref (B 0), .int x1]) (n := 2) (Nat.le_of_ble_eq_true rfl)
  rw [lg_entry_eq]
  generalize (lg_sl ([.ref (B 0), .int x1]) ++ List.replicate (2 - (lg_sl ([.ref (B 0), .int x1])).length) Slot.unset).toArray = ls at hl ⊢
  exact tX5_call_0 C0 ⟨hB, hP, va_S.rf⟩ hl hf
abbrev rmX5_as : Room := { frames := 2, cells := 0, slots := 0, locals := 46 }
set_option maxRecDepth 20000 in
theorem iX5_as_X5 : ∀ w ∈ wsX50, w ∈ wsX5_as := by decide +kernel
set_option maxHeartbeats 4000000 in
set_option maxRecDepth 100000 in
theorem tX5_as_0 {p : Program} {l : Launch} {e : Env} {s : State} {m : MethodId} {args : Array Value} {below : List Frame} {meth : Method} {c : Code} {E : EE} {B : Nat → Nat} {out : Int32 × SM} (C0 : cx wsX5_as cX5_as 3 (some .int) RX5 E p s m args meth c) {x1 : Int32} {x2 : Int32} {u : SM} {H : Heap} {locs : List Loc} {ls : Array Slot} (hW : WM E B u s H locs) (hl : lv_has ls 3 [(0, .ref (B 0)), (1, .int x1), (2, .int x2)]) (hf : fX5_as x1 x2 u = some out) : W p l e rmX5_as s m args below meth c H locs 0 0 (MQ below (va_Qi (fun r (_ : Unit) => r = out.1) (fun _ t => fP E (cM E B out.2) t.heap) (aM B)) args s 0 0 (aM B)) (F0 m 0 ls []) := by
  obtain ⟨hx, hb, hr, hml, hown, hts, hlk, hK⟩ := id C0
  unfold fX5_as at hf
  refine lv_aload_n hx hb dX5_as_0 rfl (lv_at hl 0 rfl) ?_
  refine lv_iload_n hx hb dX5_as_1 rfl (lv_at hl 1 rfl) ?_
  obtain ⟨q1, h2, hf⟩ := bd hf
  refine k_roI (run_V (rest := []) (n := 1) C0 (tX5_noCitizen E B h2) gX5_as_X5_noCitizen rfl rfl (by decide +kernel) (hW.2.1 0 _ rfl) rfl rfl hW.2.1 hl.1 rfl rfl (Nat.le_of_ble_eq_true rfl) dX5_as_2) ?_
  refine lv_if_eq (tgt := 14) hx hb dX5_as_5 (by decide) (fun c3 => ?_) (fun c3 => ?_)
  · have hf := th hf c3
    refine lv_iload_n hx hb dX5_as_14 rfl (lv_at hl 2 rfl) ?_
    refine lv_i2l (v := x2.toInt64) hx hb dX5_as_15 rfl ?_
    refine lv_lconst (v := (0 : Int64)) hx hb dX5_as_16 (by decide) ?_
    refine lv_ldc2 hx hb hown (hts (.constantLong RX5 102 (2)) (by decide +kernel)) dX5_as_17 ?_
    obtain ⟨q4, h5, hf⟩ := bd hf
    refine k_roI (run_S (rest := []) (n := 3) (PH := fun _ => True) C0 (tX5_in E h5) gX5_as_X5_in rfl rfl (by decide +kernel) trivial hl.1 rfl rfl (Nat.le_of_ble_eq_true rfl) dX5_as_20) ?_
    refine lv_if_ne (tgt := 33) hx hb dX5_as_23 (by decide) (fun c6 => ?_) (fun c6 => ?_)
    · have hf := el hf c6
      refine lv_aload_n hx hb dX5_as_33 rfl (lv_at hl 0 rfl) ?_
      refine m_get C0 hW.2.1 iX5_as_X5 4 (by decide) (by decide +kernel) rfl dX5_as_34 ?_
      refine lv_iload_n hx hb dX5_as_37 rfl (lv_at hl 1 rfl) ?_
      obtain ⟨h7, hf⟩ := gd hf
      refine m_ald C0 hW.2.1 1 6 rfl h7 dX5_as_38 ?_
      refine lv_iload_n hx hb dX5_as_39 rfl (lv_at hl 2 rfl) ?_
      refine lv_icmp_lt (tgt := 51) hx hb dX5_as_40 (by decide) (fun c8 => ?_) (fun c8 => ?_)
      · have hf := th hf c8
        refine lv_aload_n hx hb dX5_as_51 rfl (lv_at hl 0 rfl) ?_
        refine lv_iconst (v := (2 : Int32)) hx hb dX5_as_52 (by decide) ?_
        obtain ⟨q9, h10, hf⟩ := bd hf
        refine k_muI (run_V (rest := []) (n := 1) C0 (tX5_failed E B hW.1 h10) gX5_as_X5_failed rfl rfl (by decide +kernel) (hW.2.1 0 _ rfl) rfl rfl hW.2.1 hl.1 rfl rfl (Nat.le_of_ble_eq_true rfl) dX5_as_53) hW.2.2 (fun _ h => h) (fun H locs hQ _ hS => ?_)
        have hW : WM E B q9.2 s H locs := ⟨hW.1, hQ, hS⟩
        obtain rfl := Option.some.inj hf
        exact e_muI (QH := fP E (cM E B q9.2)) C0 hW.2.2 rfl hW.2.1 dX5_as_56
      · have hf := el hf c8
        refine lv_aload_n hx hb dX5_as_43 rfl (lv_at hl 0 rfl) ?_
        refine lv_iconst (v := (1 : Int32)) hx hb dX5_as_44 (by decide) ?_
        obtain ⟨q11, h12, hf⟩ := bd hf
        refine k_muI (run_V (rest := []) (n := 1) C0 (tX5_refused E B hW.1 h12) gX5_as_X5_refused rfl rfl (by decide +kernel) (hW.2.1 0 _ rfl) rfl rfl hW.2.1 hl.1 rfl rfl (Nat.le_of_ble_eq_true rfl) dX5_as_45) hW.2.2 (fun _ h => h) (fun H locs hQ _ hS => ?_)
        have hW : WM E B q11.2 s H locs := ⟨hW.1, hQ, hS⟩
        refine lv_goto (tgt := 56) hx hb dX5_as_48 (by decide) ?_
        obtain rfl := Option.some.inj hf
        exact e_muI (QH := fP E (cM E B q11.2)) C0 hW.2.2 rfl hW.2.1 dX5_as_56
    · have hf := th hf c6
      refine lv_aload_n hx hb dX5_as_26 rfl (lv_at hl 0 rfl) ?_
      refine lv_bipush (v := (-2 : Int32)) hx hb dX5_as_27 (by decide) ?_
      obtain ⟨q13, h14, hf⟩ := bd hf
      refine k_muI (run_V (rest := []) (n := 1) C0 (tX5_refused E B hW.1 h14) gX5_as_X5_refused rfl rfl (by decide +kernel) (hW.2.1 0 _ rfl) rfl rfl hW.2.1 hl.1 rfl rfl (Nat.le_of_ble_eq_true rfl) dX5_as_29) hW.2.2 (fun _ h => h) (fun H locs hQ _ hS => ?_)
      have hW : WM E B q13.2 s H locs := ⟨hW.1, hQ, hS⟩
      obtain rfl := Option.some.inj hf
      exact e_muI (QH := fP E (cM E B q13.2)) C0 hW.2.2 rfl hW.2.1 dX5_as_32
  · have hf := el hf c3
    refine lv_aload_n hx hb dX5_as_8 rfl (lv_at hl 0 rfl) ?_
    refine lv_iconst (v := (-1 : Int32)) hx hb dX5_as_9 (by decide) ?_
    obtain ⟨q15, h16, hf⟩ := bd hf
    refine k_muI (run_V (rest := []) (n := 1) C0 (tX5_refused E B hW.1 h16) gX5_as_X5_refused rfl rfl (by decide +kernel) (hW.2.1 0 _ rfl) rfl rfl hW.2.1 hl.1 rfl rfl (Nat.le_of_ble_eq_true rfl) dX5_as_10) hW.2.2 (fun _ h => h) (fun H locs hQ _ hS => ?_)
    have hW : WM E B q15.2 s H locs := ⟨hW.1, hQ, hS⟩
    obtain rfl := Option.some.inj hf
    exact e_muI (QH := fP E (cM E B q15.2)) C0 hW.2.2 rfl hW.2.1 dX5_as_13
set_option maxHeartbeats 4000000 in
set_option maxRecDepth 100000 in
theorem tX5_as {l : Launch} (E : EE) (B : Nat → Nat) {u : SM} {x1 : Int32} {x2 : Int32} {out : Int32 × SM} (hB : iM B) (hf : fX5_as x1 x2 u = some out) : muI l yX5_as wsX5_as rmX5_as E [.ref (B 0), .int x1, .int x2] (aM B) (fP E (cM E B u)) (fP E (cM E B out.2)) out.1 := by
  refine Met.ofW (cc := cX5_as) (maxL := 3) (ret := (some .int)) (by decide) rfl ?_
  intro p e s m args below meth c s₁ B0 hml hv
  obtain ⟨rfl, hP, hK⟩ := hv
  have C0 : cx wsX5_as cX5_as 3 (some .int) RX5 E p s m _ meth c := ⟨B0.exec, B0.bytes, B0.returns, hml, findClass_of_methodNamed B0.named, atoms_spec (ws := wsX5_as) B0.pre, B0.notSynchronized, hK⟩
  have hl := lv_entry ([.ref (B 0), .int x1, .int x2]) (n := 3) (Nat.le_of_ble_eq_true rfl)
  rw [lg_entry_eq]
  generalize (lg_sl ([.ref (B 0), .int x1, .int x2]) ++ List.replicate (3 - (lg_sl ([.ref (B 0), .int x1, .int x2])).length) Slot.unset).toArray = ls at hl ⊢
  exact tX5_as_0 C0 ⟨hB, hP, va_S.rf⟩ hl hf
abbrev rmX5_trace : Room := { frames := 0, cells := 0, slots := 0, locals := 0 }
set_option maxRecDepth 20000 in
theorem iX5_trace_X5 : ∀ w ∈ wsX50, w ∈ wsX5_trace := by decide +kernel
set_option maxHeartbeats 4000000 in
set_option maxRecDepth 100000 in
theorem tX5_trace_0 {p : Program} {l : Launch} {e : Env} {s : State} {m : MethodId} {args : Array Value} {below : List Frame} {meth : Method} {c : Code} {E : EE} {B : Nat → Nat} {u : SM} {out : Int32} (C0 : cx wsX5_trace cX5_trace 1 (some .int) RX5 E p s m args meth c) (hP : fP E (cM E B u) s.heap) {ls : Array Slot} (hl : lv_has ls 1 [(0, .ref (B 0))]) (hf : fX5_trace u = some out) : W p l e rmX5_trace s m args below meth c s.heap [] 0 0 (MQ below (vp_Si (fun r => r = out)) args s 0 0 (fun _ => False)) (F0 m 0 ls []) := by
  obtain ⟨hx, hb, hr, hml, hown, hts, hlk, hK⟩ := id C0
  unfold fX5_trace at hf
  refine lv_aload_n hx hb dX5_trace_0 rfl (lv_at hl 0 rfl) ?_
  refine m_get C0 hP iX5_trace_X5 23 (by decide) (by decide +kernel) rfl dX5_trace_1 ?_
  exact e_roI C0 hf dX5_trace_4
set_option maxHeartbeats 4000000 in
set_option maxRecDepth 100000 in
theorem tX5_trace {l : Launch} (E : EE) (B : Nat → Nat) {u : SM} {out : Int32} (hf : fX5_trace u = some out) : roI l yX5_trace wsX5_trace rmX5_trace E [.ref (B 0)] (fP E (cM E B u)) out := by
  refine Met.ofW (cc := cX5_trace) (maxL := 1) (ret := (some .int)) (by decide) rfl ?_
  intro p e s m args below meth c s₁ B0 hml hv
  obtain ⟨rfl, hP, hK⟩ := hv
  have C0 : cx wsX5_trace cX5_trace 1 (some .int) RX5 E p s m _ meth c := ⟨B0.exec, B0.bytes, B0.returns, hml, findClass_of_methodNamed B0.named, atoms_spec (ws := wsX5_trace) B0.pre, B0.notSynchronized, hK⟩
  have hl := lv_entry ([.ref (B 0)]) (n := 1) (Nat.le_of_ble_eq_true rfl)
  rw [lg_entry_eq]
  generalize (lg_sl ([.ref (B 0)]) ++ List.replicate (1 - (lg_sl ([.ref (B 0)])).length) Slot.unset).toArray = ls at hl ⊢
  exact tX5_trace_0 C0 hP hl hf
abbrev rmX5_fault : Room := { frames := 0, cells := 0, slots := 0, locals := 0 }
set_option maxRecDepth 20000 in
theorem iX5_fault_X5 : ∀ w ∈ wsX50, w ∈ wsX5_fault := by decide +kernel
set_option maxHeartbeats 4000000 in
set_option maxRecDepth 100000 in
theorem tX5_fault_0 {p : Program} {l : Launch} {e : Env} {s : State} {m : MethodId} {args : Array Value} {below : List Frame} {meth : Method} {c : Code} {E : EE} {B : Nat → Nat} {u : SM} {out : Int32} (C0 : cx wsX5_fault cX5_fault 1 (some .int) RX5 E p s m args meth c) (hP : fP E (cM E B u) s.heap) {ls : Array Slot} (hl : lv_has ls 1 [(0, .ref (B 0))]) (hf : fX5_fault u = some out) : W p l e rmX5_fault s m args below meth c s.heap [] 0 0 (MQ below (vp_Si (fun r => r = out)) args s 0 0 (fun _ => False)) (F0 m 0 ls []) := by
  obtain ⟨hx, hb, hr, hml, hown, hts, hlk, hK⟩ := id C0
  unfold fX5_fault at hf
  refine lv_aload_n hx hb dX5_fault_0 rfl (lv_at hl 0 rfl) ?_
  refine m_get C0 hP iX5_fault_X5 0 (by decide) (by decide +kernel) rfl dX5_fault_1 ?_
  exact e_roI C0 hf dX5_fault_4
set_option maxHeartbeats 4000000 in
set_option maxRecDepth 100000 in
theorem tX5_fault {l : Launch} (E : EE) (B : Nat → Nat) {u : SM} {out : Int32} (hf : fX5_fault u = some out) : roI l yX5_fault wsX5_fault rmX5_fault E [.ref (B 0)] (fP E (cM E B u)) out := by
  refine Met.ofW (cc := cX5_fault) (maxL := 1) (ret := (some .int)) (by decide) rfl ?_
  intro p e s m args below meth c s₁ B0 hml hv
  obtain ⟨rfl, hP, hK⟩ := hv
  have C0 : cx wsX5_fault cX5_fault 1 (some .int) RX5 E p s m _ meth c := ⟨B0.exec, B0.bytes, B0.returns, hml, findClass_of_methodNamed B0.named, atoms_spec (ws := wsX5_fault) B0.pre, B0.notSynchronized, hK⟩
  have hl := lv_entry ([.ref (B 0)]) (n := 1) (Nat.le_of_ble_eq_true rfl)
  rw [lg_entry_eq]
  generalize (lg_sl ([.ref (B 0)]) ++ List.replicate (1 - (lg_sl ([.ref (B 0)])).length) Slot.unset).toArray = ls at hl ⊢
  exact tX5_fault_0 C0 hP hl hf
abbrev rmX5_many : Room := { frames := 2, cells := 0, slots := 0, locals := 45 }
set_option maxRecDepth 20000 in
theorem iX5_many_X5 : ∀ w ∈ wsX50, w ∈ wsX5_many := by decide +kernel
set_option maxHeartbeats 4000000 in
set_option maxRecDepth 100000 in
theorem tX5_many_0 {p : Program} {l : Launch} {e : Env} {s : State} {m : MethodId} {args : Array Value} {below : List Frame} {meth : Method} {c : Code} {E : EE} {B : Nat → Nat} {u : SM} {out : Int32} (C0 : cx wsX5_many cX5_many 2 (some .int) RX5 E p s m args meth c) (hP : fP E (cM E B u) s.heap) {x1 : Int32} {ls : Array Slot} (hl : lv_has ls 2 [(0, .ref (B 0)), (1, .int x1)]) (hf : fX5_many x1 u = some out) : W p l e rmX5_many s m args below meth c s.heap [] 0 0 (MQ below (vp_Si (fun r => r = out)) args s 0 0 (fun _ => False)) (F0 m 0 ls []) := by
  obtain ⟨hx, hb, hr, hml, hown, hts, hlk, hK⟩ := id C0
  unfold fX5_many at hf
  refine lv_iload_n hx hb dX5_many_0 rfl (lv_at hl 1 rfl) ?_
  by_cases c1 : x1 = (0 : Int32)
  · have hf := th hf c1
    rw [c1]
    refine lv_tableIn (tgt := 36) hx hb dX5_many_1 (by decide) (by decide) (by rfl) (by decide) ?_
    refine lv_aload_n hx hb dX5_many_36 rfl (lv_at hl 0 rfl) ?_
    refine m_get C0 hP iX5_many_X5 3 (by decide) (by decide +kernel) rfl dX5_many_37 ?_
    exact e_roI C0 hf dX5_many_40
  · have hf := el hf c1
    by_cases c2 : x1 = (1 : Int32)
    · have hf := th hf c2
      rw [c2]
      refine lv_tableIn (tgt := 41) hx hb dX5_many_1 (by decide) (by decide) (by rfl) (by decide) ?_
      refine lv_aload_n hx hb dX5_many_41 rfl (lv_at hl 0 rfl) ?_
      refine lv_aload_n hx hb dX5_many_42 rfl (lv_at hl 0 rfl) ?_
      obtain ⟨q3, h4, hf⟩ := bd hf
      refine k_roI (run_V (rest := [.ref (B 0)]) (n := 0) C0 (tX5_everybody E B h4) gX5_many_X5_everybody rfl rfl (by decide +kernel) (hP 0 _ rfl) rfl rfl hP hl.1 rfl rfl (Nat.le_of_ble_eq_true rfl) dX5_many_43) ?_
      obtain ⟨q5, h6, hf⟩ := bd hf
      refine k_roI (run_V (rest := []) (n := 1) C0 (tX5_slipsOfAll E B h6) gX5_many_X5_slipsOfAll rfl rfl (by decide +kernel) (hP 0 _ rfl) rfl rfl hP hl.1 rfl rfl (Nat.le_of_ble_eq_true rfl) dX5_many_46) ?_
      exact e_roI C0 hf dX5_many_49
    · have hf := el hf c2
      by_cases c7 : x1 = (2 : Int32)
      · have hf := th hf c7
        rw [c7]
        refine lv_tableIn (tgt := 50) hx hb dX5_many_1 (by decide) (by decide) (by rfl) (by decide) ?_
        refine lv_aload_n hx hb dX5_many_50 rfl (lv_at hl 0 rfl) ?_
        refine m_get C0 hP iX5_many_X5 1 (by decide) (by decide +kernel) rfl dX5_many_51 ?_
        exact e_roI C0 hf dX5_many_54
      · have hf := el hf c7
        by_cases c8 : x1 = (3 : Int32)
        · have hf := th hf c8
          rw [c8]
          refine lv_tableIn (tgt := 55) hx hb dX5_many_1 (by decide) (by decide) (by rfl) (by decide) ?_
          refine lv_aload_n hx hb dX5_many_55 rfl (lv_at hl 0 rfl) ?_
          refine m_get C0 hP iX5_many_X5 2 (by decide) (by decide +kernel) rfl dX5_many_56 ?_
          exact e_roI C0 hf dX5_many_59
        · have hf := el hf c8
          by_cases c9 : x1 = (4 : Int32)
          · have hf := th hf c9
            rw [c9]
            refine lv_tableIn (tgt := 60) hx hb dX5_many_1 (by decide) (by decide) (by rfl) (by decide) ?_
            refine lv_aload_n hx hb dX5_many_60 rfl (lv_at hl 0 rfl) ?_
            refine m_get C0 hP iX5_many_X5 17 (by decide) (by decide +kernel) rfl dX5_many_61 ?_
            exact e_roI C0 hf dX5_many_64
          · have hf := el hf c9
            refine lv_tableOut (tgt := 65) hx hb dX5_many_1 (by have q0 := lv_neT (a := 0) c1 (by decide); have q1 := lv_neT (a := 1) c2 (by decide); have q2 := lv_neT (a := 2) c7 (by decide); have q3 := lv_neT (a := 3) c8 (by decide); have q4 := lv_neT (a := 4) c9 (by decide); omega) (by decide) ?_
            refine lv_bipush (v := (-2 : Int32)) hx hb dX5_many_65 (by decide) ?_
            exact e_roI C0 hf dX5_many_67
set_option maxHeartbeats 4000000 in
set_option maxRecDepth 100000 in
theorem tX5_many {l : Launch} (E : EE) (B : Nat → Nat) {u : SM} {x1 : Int32} {out : Int32} (hf : fX5_many x1 u = some out) : roI l yX5_many wsX5_many rmX5_many E [.ref (B 0), .int x1] (fP E (cM E B u)) out := by
  refine Met.ofW (cc := cX5_many) (maxL := 2) (ret := (some .int)) (by decide) rfl ?_
  intro p e s m args below meth c s₁ B0 hml hv
  obtain ⟨rfl, hP, hK⟩ := hv
  have C0 : cx wsX5_many cX5_many 2 (some .int) RX5 E p s m _ meth c := ⟨B0.exec, B0.bytes, B0.returns, hml, findClass_of_methodNamed B0.named, atoms_spec (ws := wsX5_many) B0.pre, B0.notSynchronized, hK⟩
  have hl := lv_entry ([.ref (B 0), .int x1]) (n := 2) (Nat.le_of_ble_eq_true rfl)
  rw [lg_entry_eq]
  generalize (lg_sl ([.ref (B 0), .int x1]) ++ List.replicate (2 - (lg_sl ([.ref (B 0), .int x1])).length) Slot.unset).toArray = ls at hl ⊢
  exact tX5_many_0 C0 hP hl hf
