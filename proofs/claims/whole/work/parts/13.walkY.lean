abbrev rmX4_isSheet : Room := { frames := 0, cells := 0, slots := 0, locals := 0 }
set_option maxHeartbeats 4000000 in
set_option maxRecDepth 100000 in
theorem tX4_isSheet_13 {p : Program} {l : Launch} {e : Env} {s : State} {m : MethodId} {args : Array Value} {below : List Frame} {meth : Method} {c : Code} {E : EE} {out : Int32} (C0 : cx wsX4_isSheet cX4_isSheet 1 (some .boolean) RX4 E p s m args meth c) {ls : Array Slot} (hl : lv_has ls 1 []) (hf : fX4_isSheet_13 = some out) : W p l e rmX4_isSheet s m args below meth c s.heap [] 0 0 (MQ below (vp_Si (fun r => r = out)) args s 0 0 (fun _ => False)) (F0 m 13 ls []) := by
  obtain ⟨hx, hb, hr, hml, hown, hts, hlk, hK⟩ := id C0
  unfold fX4_isSheet_13 at hf
  refine lv_iconst (v := (0 : Int32)) hx hb dX4_isSheet_13 (by decide) ?_
  exact e_roZ C0 hf dX4_isSheet_14
set_option maxHeartbeats 4000000 in
set_option maxRecDepth 100000 in
theorem tX4_isSheet_0 {p : Program} {l : Launch} {e : Env} {s : State} {m : MethodId} {args : Array Value} {below : List Frame} {meth : Method} {c : Code} {E : EE} {out : Int32} (C0 : cx wsX4_isSheet cX4_isSheet 1 (some .boolean) RX4 E p s m args meth c) {x0 : Int32} {ls : Array Slot} (hl : lv_has ls 1 [(0, .int x0)]) (hf : fX4_isSheet x0 = some out) : W p l e rmX4_isSheet s m args below meth c s.heap [] 0 0 (MQ below (vp_Si (fun r => r = out)) args s 0 0 (fun _ => False)) (F0 m 0 ls []) := by
  obtain ⟨hx, hb, hr, hml, hown, hts, hlk, hK⟩ := id C0
  unfold fX4_isSheet at hf
  refine lv_iload_n hx hb dX4_isSheet_0 rfl (lv_at hl 0 rfl) ?_
  refine lv_if_lt (tgt := 13) hx hb dX4_isSheet_1 (by decide) (fun c1 => ?_) (fun c1 => ?_)
  · have hf := th hf c1
    exact tX4_isSheet_13 C0 (lv_sub hl [] rfl) hf
  · have hf := el hf c1
    refine lv_iload_n hx hb dX4_isSheet_4 rfl (lv_at hl 0 rfl) ?_
    refine lv_iconst (v := (4 : Int32)) hx hb dX4_isSheet_5 (by decide) ?_
    refine lv_icmp_ge (tgt := 13) hx hb dX4_isSheet_6 (by decide) (fun c2 => ?_) (fun c2 => ?_)
    · have hf := th hf c2
      exact tX4_isSheet_13 C0 (lv_sub hl [] rfl) hf
    · have hf := el hf c2
      refine lv_iconst (v := (1 : Int32)) hx hb dX4_isSheet_9 (by decide) ?_
      refine lv_goto (tgt := 14) hx hb dX4_isSheet_10 (by decide) ?_
      exact e_roZ C0 hf dX4_isSheet_14
set_option maxHeartbeats 4000000 in
set_option maxRecDepth 100000 in
theorem tX4_isSheet {l : Launch} (E : EE) {x0 : Int32} {out : Int32} (hf : fX4_isSheet x0 = some out) : roI l yX4_isSheet wsX4_isSheet rmX4_isSheet E [.int x0] ((fun _ => True)) out := by
  refine Met.ofW (cc := cX4_isSheet) (maxL := 1) (ret := (some .boolean)) (by decide) rfl ?_
  intro p e s m args below meth c s₁ B0 hml hv
  obtain ⟨rfl, -, hK⟩ := hv
  have C0 : cx wsX4_isSheet cX4_isSheet 1 (some .boolean) RX4 E p s m _ meth c := ⟨B0.exec, B0.bytes, B0.returns, hml, findClass_of_methodNamed B0.named, atoms_spec (ws := wsX4_isSheet) B0.pre, B0.notSynchronized, hK⟩
  have hl := lv_entry ([.int x0]) (n := 1) (Nat.le_of_ble_eq_true rfl)
  rw [lg_entry_eq]
  generalize (lg_sl ([.int x0]) ++ List.replicate (1 - (lg_sl ([.int x0])).length) Slot.unset).toArray = ls at hl ⊢
  exact tX4_isSheet_0 C0 hl hf
abbrev rmX4_isLane : Room := { frames := 0, cells := 0, slots := 0, locals := 0 }
set_option maxHeartbeats 4000000 in
set_option maxRecDepth 100000 in
theorem tX4_isLane_13 {p : Program} {l : Launch} {e : Env} {s : State} {m : MethodId} {args : Array Value} {below : List Frame} {meth : Method} {c : Code} {E : EE} {out : Int32} (C0 : cx wsX4_isLane cX4_isLane 1 (some .boolean) RX4 E p s m args meth c) {ls : Array Slot} (hl : lv_has ls 1 []) (hf : fX4_isLane_13 = some out) : W p l e rmX4_isLane s m args below meth c s.heap [] 0 0 (MQ below (vp_Si (fun r => r = out)) args s 0 0 (fun _ => False)) (F0 m 13 ls []) := by
  obtain ⟨hx, hb, hr, hml, hown, hts, hlk, hK⟩ := id C0
  unfold fX4_isLane_13 at hf
  refine lv_iconst (v := (0 : Int32)) hx hb dX4_isLane_13 (by decide) ?_
  exact e_roZ C0 hf dX4_isLane_14
set_option maxHeartbeats 4000000 in
set_option maxRecDepth 100000 in
theorem tX4_isLane_0 {p : Program} {l : Launch} {e : Env} {s : State} {m : MethodId} {args : Array Value} {below : List Frame} {meth : Method} {c : Code} {E : EE} {out : Int32} (C0 : cx wsX4_isLane cX4_isLane 1 (some .boolean) RX4 E p s m args meth c) {x0 : Int32} {ls : Array Slot} (hl : lv_has ls 1 [(0, .int x0)]) (hf : fX4_isLane x0 = some out) : W p l e rmX4_isLane s m args below meth c s.heap [] 0 0 (MQ below (vp_Si (fun r => r = out)) args s 0 0 (fun _ => False)) (F0 m 0 ls []) := by
  obtain ⟨hx, hb, hr, hml, hown, hts, hlk, hK⟩ := id C0
  unfold fX4_isLane at hf
  refine lv_iload_n hx hb dX4_isLane_0 rfl (lv_at hl 0 rfl) ?_
  refine lv_if_lt (tgt := 13) hx hb dX4_isLane_1 (by decide) (fun c1 => ?_) (fun c1 => ?_)
  · have hf := th hf c1
    exact tX4_isLane_13 C0 (lv_sub hl [] rfl) hf
  · have hf := el hf c1
    refine lv_iload_n hx hb dX4_isLane_4 rfl (lv_at hl 0 rfl) ?_
    refine lv_iconst (v := (3 : Int32)) hx hb dX4_isLane_5 (by decide) ?_
    refine lv_icmp_ge (tgt := 13) hx hb dX4_isLane_6 (by decide) (fun c2 => ?_) (fun c2 => ?_)
    · have hf := th hf c2
      exact tX4_isLane_13 C0 (lv_sub hl [] rfl) hf
    · have hf := el hf c2
      refine lv_iconst (v := (1 : Int32)) hx hb dX4_isLane_9 (by decide) ?_
      refine lv_goto (tgt := 14) hx hb dX4_isLane_10 (by decide) ?_
      exact e_roZ C0 hf dX4_isLane_14
set_option maxHeartbeats 4000000 in
set_option maxRecDepth 100000 in
theorem tX4_isLane {l : Launch} (E : EE) {x0 : Int32} {out : Int32} (hf : fX4_isLane x0 = some out) : roI l yX4_isLane wsX4_isLane rmX4_isLane E [.int x0] ((fun _ => True)) out := by
  refine Met.ofW (cc := cX4_isLane) (maxL := 1) (ret := (some .boolean)) (by decide) rfl ?_
  intro p e s m args below meth c s₁ B0 hml hv
  obtain ⟨rfl, -, hK⟩ := hv
  have C0 : cx wsX4_isLane cX4_isLane 1 (some .boolean) RX4 E p s m _ meth c := ⟨B0.exec, B0.bytes, B0.returns, hml, findClass_of_methodNamed B0.named, atoms_spec (ws := wsX4_isLane) B0.pre, B0.notSynchronized, hK⟩
  have hl := lv_entry ([.int x0]) (n := 1) (Nat.le_of_ble_eq_true rfl)
  rw [lg_entry_eq]
  generalize (lg_sl ([.int x0]) ++ List.replicate (1 - (lg_sl ([.int x0])).length) Slot.unset).toArray = ls at hl ⊢
  exact tX4_isLane_0 C0 hl hf
abbrev rmX4_placeOf : Room := { frames := 1, cells := 0, slots := 0, locals := 20 }
set_option maxRecDepth 20000 in
theorem iX4_placeOf_X4 : ∀ w ∈ wsX40, w ∈ wsX4_placeOf := by decide +kernel
set_option maxHeartbeats 4000000 in
set_option maxRecDepth 100000 in
theorem tX4_placeOf_25 {p : Program} {l : Launch} {e : Env} {s : State} {m : MethodId} {args : Array Value} {below : List Frame} {meth : Method} {c : Code} {E : EE} {B : Nat → Nat} {u : SX} {out : Option Nat} (C0 : cx wsX4_placeOf cX4_placeOf 2 (some (.object "LoserDraws$Row")) RX4 E p s m args meth c) (hP : fP E (cX E B u) s.heap) {ls : Array Slot} (hl : lv_has ls 2 []) (hf : fX4_placeOf_25 u = some out) : W p l e rmX4_placeOf s m args below meth c s.heap [] 0 0 (MQ below (va_Sq (fun r => r = out.map (fun k => B (14 + k)))) args s 0 0 (fun _ => False)) (F0 m 25 ls []) := by
  obtain ⟨hx, hb, hr, hml, hown, hts, hlk, hK⟩ := id C0
  unfold fX4_placeOf_25 at hf
  refine lv_null hx hb dX4_placeOf_25 ?_
  refine W.eq (g2 := F0 m 26 ls [va_rf (none)]) rfl ?_
  exact e_roQ C0 (v := none) (by obtain rfl := Option.some.inj hf; rfl) dX4_placeOf_26
set_option maxHeartbeats 4000000 in
set_option maxRecDepth 100000 in
theorem tX4_placeOf_0 {p : Program} {l : Launch} {e : Env} {s : State} {m : MethodId} {args : Array Value} {below : List Frame} {meth : Method} {c : Code} {E : EE} {B : Nat → Nat} {u : SX} {out : Option Nat} (C0 : cx wsX4_placeOf cX4_placeOf 2 (some (.object "LoserDraws$Row")) RX4 E p s m args meth c) (hP : fP E (cX E B u) s.heap) {x1 : Int32} {ls : Array Slot} (hl : lv_has ls 2 [(0, .ref (B 0)), (1, .int x1)]) (hf : fX4_placeOf x1 u = some out) : W p l e rmX4_placeOf s m args below meth c s.heap [] 0 0 (MQ below (va_Sq (fun r => r = out.map (fun k => B (14 + k)))) args s 0 0 (fun _ => False)) (F0 m 0 ls []) := by
  obtain ⟨hx, hb, hr, hml, hown, hts, hlk, hK⟩ := id C0
  unfold fX4_placeOf at hf
  refine lv_iload_n hx hb dX4_placeOf_0 rfl (lv_at hl 1 rfl) ?_
  obtain ⟨q1, h2, hf⟩ := bd hf
  refine k_roI (run_S (rest := []) (n := 1) (PH := fun _ => True) C0 (tX4_isSheet E h2) gX4_placeOf_X4_isSheet rfl rfl (by decide +kernel) trivial hl.1 rfl rfl (Nat.le_of_ble_eq_true rfl) dX4_placeOf_1) ?_
  refine lv_if_eq (tgt := 25) hx hb dX4_placeOf_4 (by decide) (fun c3 => ?_) (fun c3 => ?_)
  · have hf := th hf c3
    exact tX4_placeOf_25 C0 hP (lv_sub hl [] rfl) hf
  · have hf := el hf c3
    refine lv_iload_n hx hb dX4_placeOf_7 rfl (lv_at hl 1 rfl) ?_
    refine lv_aload_n hx hb dX4_placeOf_8 rfl (lv_at hl 0 rfl) ?_
    refine x_get C0 hP iX4_placeOf_X4 6 (by decide) (by decide +kernel) rfl dX4_placeOf_9 ?_
    refine x_len3 C0 hP dX4_placeOf_12 ?_
    refine lv_icmp_ge (tgt := 25) hx hb dX4_placeOf_13 (by decide) (fun c4 => ?_) (fun c4 => ?_)
    · have hf := th hf c4
      exact tX4_placeOf_25 C0 hP (lv_sub hl [] rfl) hf
    · have hf := el hf c4
      refine lv_aload_n hx hb dX4_placeOf_16 rfl (lv_at hl 0 rfl) ?_
      refine x_get C0 hP iX4_placeOf_X4 6 (by decide) (by decide +kernel) rfl dX4_placeOf_17 ?_
      refine lv_iload_n hx hb dX4_placeOf_20 rfl (lv_at hl 1 rfl) ?_
      obtain ⟨h5, hf⟩ := gd hf
      refine x_aldR C0 hP h5 dX4_placeOf_21 ?_
      refine lv_goto (tgt := 26) hx hb dX4_placeOf_22 (by decide) ?_
      refine W.eq (g2 := F0 m 26 ls [va_rf (some (B (14 + x1.toNatClampNeg)))]) rfl ?_
      exact e_roQ C0 (v := some (B (14 + x1.toNatClampNeg))) (by obtain rfl := Option.some.inj hf; rfl) dX4_placeOf_26
set_option maxHeartbeats 4000000 in
set_option maxRecDepth 100000 in
theorem tX4_placeOf {l : Launch} (E : EE) (B : Nat → Nat) {u : SX} {x1 : Int32} {out : Option Nat} (hf : fX4_placeOf x1 u = some out) : roQ l yX4_placeOf wsX4_placeOf rmX4_placeOf E [.ref (B 0), .int x1] (fP E (cX E B u)) (out.map (fun k => B (14 + k))) := by
  refine Met.ofW (cc := cX4_placeOf) (maxL := 2) (ret := (some (.object "LoserDraws$Row"))) (by decide) rfl ?_
  intro p e s m args below meth c s₁ B0 hml hv
  obtain ⟨rfl, hP, hK⟩ := hv
  have C0 : cx wsX4_placeOf cX4_placeOf 2 (some (.object "LoserDraws$Row")) RX4 E p s m _ meth c := ⟨B0.exec, B0.bytes, B0.returns, hml, findClass_of_methodNamed B0.named, atoms_spec (ws := wsX4_placeOf) B0.pre, B0.notSynchronized, hK⟩
  have hl := lv_entry ([.ref (B 0), .int x1]) (n := 2) (Nat.le_of_ble_eq_true rfl)
  rw [lg_entry_eq]
  generalize (lg_sl ([.ref (B 0), .int x1]) ++ List.replicate (2 - (lg_sl ([.ref (B 0), .int x1])).length) Slot.unset).toArray = ls at hl ⊢
  exact tX4_placeOf_0 C0 hP hl hf
abbrev rmX4_rowOf : Room := { frames := 2, cells := 0, slots := 0, locals := 41 }
set_option maxRecDepth 20000 in
theorem iX4_rowOf_X2 : ∀ w ∈ wsX20, w ∈ wsX4_rowOf := by decide +kernel
set_option maxHeartbeats 4000000 in
set_option maxRecDepth 100000 in
theorem tX4_rowOf_21 {p : Program} {l : Launch} {e : Env} {s : State} {m : MethodId} {args : Array Value} {below : List Frame} {meth : Method} {c : Code} {E : EE} {B : Nat → Nat} {u : SX} {out : Option Nat} (C0 : cx wsX4_rowOf cX4_rowOf 3 (some (.object "LoserDraws$Row")) RX4 E p s m args meth c) (hP : fP E (cX E B u) s.heap) {ls : Array Slot} (hl : lv_has ls 3 []) (hf : fX4_rowOf_21 u = some out) : W p l e rmX4_rowOf s m args below meth c s.heap [] 0 0 (MQ below (va_Sq (fun r => r = out.map (fun k => B (14 + k)))) args s 0 0 (fun _ => False)) (F0 m 21 ls []) := by
  obtain ⟨hx, hb, hr, hml, hown, hts, hlk, hK⟩ := id C0
  unfold fX4_rowOf_21 at hf
  refine lv_null hx hb dX4_rowOf_21 ?_
  refine W.eq (g2 := F0 m 22 ls [va_rf (none)]) rfl ?_
  exact e_roQ C0 (v := none) (by obtain rfl := Option.some.inj hf; rfl) dX4_rowOf_22
set_option maxHeartbeats 4000000 in
set_option maxRecDepth 100000 in
theorem tX4_rowOf_0 {p : Program} {l : Launch} {e : Env} {s : State} {m : MethodId} {args : Array Value} {below : List Frame} {meth : Method} {c : Code} {E : EE} {B : Nat → Nat} {u : SX} {out : Option Nat} (C0 : cx wsX4_rowOf cX4_rowOf 3 (some (.object "LoserDraws$Row")) RX4 E p s m args meth c) (hP : fP E (cX E B u) s.heap) {x1 : Int32} {ls : Array Slot} (hl : lv_has ls 3 [(0, .ref (B 0)), (1, .int x1)]) (hf : fX4_rowOf x1 u = some out) : W p l e rmX4_rowOf s m args below meth c s.heap [] 0 0 (MQ below (va_Sq (fun r => r = out.map (fun k => B (14 + k)))) args s 0 0 (fun _ => False)) (F0 m 0 ls []) := by
  obtain ⟨hx, hb, hr, hml, hown, hts, hlk, hK⟩ := id C0
  unfold fX4_rowOf at hf
  refine lv_aload_n hx hb dX4_rowOf_0 rfl (lv_at hl 0 rfl) ?_
  refine lv_iload_n hx hb dX4_rowOf_1 rfl (lv_at hl 1 rfl) ?_
  obtain ⟨q1, h2, hf⟩ := bd hf
  refine k_roQ (run_V (rest := []) (n := 1) C0 (tX4_placeOf (u := u) E B h2) gX4_rowOf_X4_placeOf rfl rfl (by decide +kernel) (hP 0 _ rfl) rfl rfl hP hl.1 rfl rfl (Nat.le_of_ble_eq_true rfl) dX4_rowOf_2) ?_
  cases q1 with
  | none =>
    rw [Option.elim_none] at hf
    refine W.eq (g2 := F0 m 5 ls [.null]) rfl ?_
    refine lv_astore_nN (lv' := [(2, .null), (0, .ref (B 0)), (1, .int x1)]) hx hb dX4_rowOf_5 rfl hl (by decide) rfl (fun ls hl => ?_)
    refine lv_aload_nN hx hb dX4_rowOf_6 rfl (lv_at hl 0 rfl) ?_
    refine lv_ifnullN (tgt := 21) hx hb dX4_rowOf_7 (by decide) ?_
    exact tX4_rowOf_21 C0 hP (lv_sub hl [] rfl) hf
  | some k3 =>
    rw [Option.elim_some] at hf
    obtain ⟨h4, hf⟩ := gd hf
    refine W.eq (g2 := F0 m 5 ls [.ref (B (14 + k3))]) rfl ?_
    refine lv_astore_n (lv' := [(2, .ref (B (14 + k3))), (0, .ref (B 0)), (1, .int x1)]) hx hb dX4_rowOf_5 rfl hl (by decide) rfl (fun ls hl => ?_)
    refine lv_aload_n hx hb dX4_rowOf_6 rfl (lv_at hl 0 rfl) ?_
    refine lv_ifnull hx hb dX4_rowOf_7 ?_
    refine lv_aload_n hx hb dX4_rowOf_10 rfl (lv_at hl 0 rfl) ?_
    refine w_getN C0 (hP.row (Decidable.of_not_not h4)) iX4_rowOf_X2 1 (by decide) (by decide +kernel) rfl dX4_rowOf_11 ?_
    refine lv_if_eq (tgt := 21) hx hb dX4_rowOf_14 (by decide) (fun c5 => ?_) (fun c5 => ?_)
    · have hf := th hf c5
      exact tX4_rowOf_21 C0 hP (lv_sub hl [] rfl) hf
    · have hf := el hf c5
      refine lv_aload_n hx hb dX4_rowOf_17 rfl (lv_at hl 0 rfl) ?_
      refine lv_goto (tgt := 22) hx hb dX4_rowOf_18 (by decide) ?_
      refine W.eq (g2 := F0 m 22 ls [va_rf (some (B (14 + k3)))]) rfl ?_
      exact e_roQ C0 (v := some (B (14 + k3))) (by obtain rfl := Option.some.inj hf; rfl) dX4_rowOf_22
set_option maxHeartbeats 4000000 in
set_option maxRecDepth 100000 in
theorem tX4_rowOf {l : Launch} (E : EE) (B : Nat → Nat) {u : SX} {x1 : Int32} {out : Option Nat} (hf : fX4_rowOf x1 u = some out) : roQ l yX4_rowOf wsX4_rowOf rmX4_rowOf E [.ref (B 0), .int x1] (fP E (cX E B u)) (out.map (fun k => B (14 + k))) := by
  refine Met.ofW (cc := cX4_rowOf) (maxL := 3) (ret := (some (.object "LoserDraws$Row"))) (by decide) rfl ?_
  intro p e s m args below meth c s₁ B0 hml hv
  obtain ⟨rfl, hP, hK⟩ := hv
  have C0 : cx wsX4_rowOf cX4_rowOf 3 (some (.object "LoserDraws$Row")) RX4 E p s m _ meth c := ⟨B0.exec, B0.bytes, B0.returns, hml, findClass_of_methodNamed B0.named, atoms_spec (ws := wsX4_rowOf) B0.pre, B0.notSynchronized, hK⟩
  have hl := lv_entry ([.ref (B 0), .int x1]) (n := 3) (Nat.le_of_ble_eq_true rfl)
  rw [lg_entry_eq]
  generalize (lg_sl ([.ref (B 0), .int x1]) ++ List.replicate (3 - (lg_sl ([.ref (B 0), .int x1])).length) Slot.unset).toArray = ls at hl ⊢
  exact tX4_rowOf_0 C0 hP hl hf
abbrev rmX4_faultOf : Room := { frames := 1, cells := 0, slots := 0, locals := 22 }
set_option maxRecDepth 20000 in
theorem iX4_faultOf_X2 : ∀ w ∈ wsX20, w ∈ wsX4_faultOf := by decide +kernel
set_option maxHeartbeats 4000000 in
set_option maxRecDepth 100000 in
theorem tX4_faultOf_0 {p : Program} {l : Launch} {e : Env} {s : State} {m : MethodId} {args : Array Value} {below : List Frame} {meth : Method} {c : Code} {E : EE} {y0 z0 : Nat} {r : SR} {out : Int32} (C0 : cx wsX4_faultOf cX4_faultOf 4 (some .int) RX4 E p s m args meth c) (hP : fP E (cR E y0 z0 r) s.heap) {x1 : Int32} {x2 : Int32} {x3 : Int32} {ls : Array Slot} (hl : lv_has ls 4 [(0, .ref (y0)), (1, .int x1), (2, .int x2), (3, .int x3)]) (hf : fX4_faultOf x1 x2 x3 r = some out) : W p l e rmX4_faultOf s m args below meth c s.heap [] 0 0 (MQ below (vp_Si (fun r => r = out)) args s 0 0 (fun _ => False)) (F0 m 0 ls []) := by
  obtain ⟨hx, hb, hr, hml, hown, hts, hlk, hK⟩ := id C0
  unfold fX4_faultOf at hf
  refine lv_aload_n hx hb dX4_faultOf_0 rfl (lv_at hl 0 rfl) ?_
  refine lv_ifnonnull (tgt := 6) hx hb dX4_faultOf_1 (by decide) ?_
  refine lv_aload_n hx hb dX4_faultOf_6 rfl (lv_at hl 0 rfl) ?_
  refine w_getN C0 hP iX4_faultOf_X2 2 (by decide) (by decide +kernel) rfl dX4_faultOf_7 ?_
  refine lv_iload_n hx hb dX4_faultOf_10 rfl (lv_at hl 1 rfl) ?_
  refine lv_icmp_eq (tgt := 16) hx hb dX4_faultOf_11 (by decide) (fun c1 => ?_) (fun c1 => ?_)
  · have hf := th hf c1
    refine lv_iload_n hx hb dX4_faultOf_16 rfl (lv_at hl 3 rfl) ?_
    refine lv_if_ge (tgt := 22) hx hb dX4_faultOf_17 (by decide) (fun c2 => ?_) (fun c2 => ?_)
    · have hf := th hf c2
      refine lv_aload_n hx hb dX4_faultOf_22 rfl (lv_at hl 0 rfl) ?_
      refine lv_iload_n hx hb dX4_faultOf_23 rfl (lv_at hl 2 rfl) ?_
      refine lv_iload_n hx hb dX4_faultOf_24 rfl (lv_at hl 3 rfl) ?_
      obtain ⟨q3, h4, hf⟩ := bd hf
      refine k_roI (run_VN (rest := []) (n := 2) C0 (tX2_holds E y0 z0 h4) gX4_faultOf_X2_holds_n179 rfl (by decide +kernel) (by decide +kernel) (by decide +kernel) (by decide +kernel) rfl (by decide +kernel) (hP 0 _ rfl) rfl rfl hP hl.1 rfl rfl (Nat.le_of_ble_eq_true rfl) dX4_faultOf_25) ?_
      refine lv_if_eq (tgt := 35) hx hb dX4_faultOf_28 (by decide) (fun c5 => ?_) (fun c5 => ?_)
      · have hf := th hf c5
        refine lv_iconst (v := (3 : Int32)) hx hb dX4_faultOf_35 (by decide) ?_
        exact e_roI C0 hf dX4_faultOf_36
      · have hf := el hf c5
        refine lv_iconst (v := (0 : Int32)) hx hb dX4_faultOf_31 (by decide) ?_
        refine lv_goto (tgt := 36) hx hb dX4_faultOf_32 (by decide) ?_
        exact e_roI C0 hf dX4_faultOf_36
    · have hf := el hf c2
      refine lv_iconst (v := (4 : Int32)) hx hb dX4_faultOf_20 (by decide) ?_
      exact e_roI C0 hf dX4_faultOf_21
  · have hf := el hf c1
    refine lv_iconst (v := (2 : Int32)) hx hb dX4_faultOf_14 (by decide) ?_
    exact e_roI C0 hf dX4_faultOf_15
set_option maxHeartbeats 4000000 in
set_option maxRecDepth 100000 in
theorem tX4_faultOf {l : Launch} (E : EE) (y0 z0 : Nat) {r : SR} {x1 : Int32} {x2 : Int32} {x3 : Int32} {out : Int32} (hf : fX4_faultOf x1 x2 x3 r = some out) : roI l yX4_faultOf wsX4_faultOf rmX4_faultOf E [.ref (y0), .int x1, .int x2, .int x3] (fP E (cR E y0 z0 r)) out := by
  refine Met.ofW (cc := cX4_faultOf) (maxL := 4) (ret := (some .int)) (by decide) rfl ?_
  intro p e s m args below meth c s₁ B0 hml hv
  obtain ⟨rfl, hP, hK⟩ := hv
  have C0 : cx wsX4_faultOf cX4_faultOf 4 (some .int) RX4 E p s m _ meth c := ⟨B0.exec, B0.bytes, B0.returns, hml, findClass_of_methodNamed B0.named, atoms_spec (ws := wsX4_faultOf) B0.pre, B0.notSynchronized, hK⟩
  have hl := lv_entry ([.ref (y0), .int x1, .int x2, .int x3]) (n := 4) (Nat.le_of_ble_eq_true rfl)
  rw [lg_entry_eq]
  generalize (lg_sl ([.ref (y0), .int x1, .int x2, .int x3]) ++ List.replicate (4 - (lg_sl ([.ref (y0), .int x1, .int x2, .int x3])).length) Slot.unset).toArray = ls at hl ⊢
  exact tX4_faultOf_0 C0 hP hl hf
abbrev rmX4_faultOfN : Room := { frames := 1, cells := 0, slots := 0, locals := 22 }
set_option maxHeartbeats 4000000 in
set_option maxRecDepth 100000 in
theorem tX4_faultOfN_0 {p : Program} {l : Launch} {e : Env} {s : State} {m : MethodId} {args : Array Value} {below : List Frame} {meth : Method} {c : Code} {E : EE} {out : Int32} (C0 : cx wsX4_faultOf cX4_faultOf 4 (some .int) RX4 E p s m args meth c) {x1 : Int32} {x2 : Int32} {x3 : Int32} {ls : Array Slot} (hl : lv_has ls 4 [(0, .null), (1, .int x1), (2, .int x2), (3, .int x3)]) (hf : fX4_faultOfN x1 x2 x3 = some out) : W p l e rmX4_faultOfN s m args below meth c s.heap [] 0 0 (MQ below (vp_Si (fun r => r = out)) args s 0 0 (fun _ => False)) (F0 m 0 ls []) := by
  obtain ⟨hx, hb, hr, hml, hown, hts, hlk, hK⟩ := id C0
  unfold fX4_faultOfN at hf
  refine lv_aload_nN hx hb dX4_faultOf_0 rfl (lv_at hl 0 rfl) ?_
  refine lv_ifnonnullN hx hb dX4_faultOf_1 ?_
  refine lv_iconst (v := (1 : Int32)) hx hb dX4_faultOf_4 (by decide) ?_
  exact e_roI C0 hf dX4_faultOf_5
set_option maxHeartbeats 4000000 in
set_option maxRecDepth 100000 in
theorem tX4_faultOfN {l : Launch} (E : EE) {x1 : Int32} {x2 : Int32} {x3 : Int32} {out : Int32} (hf : fX4_faultOfN x1 x2 x3 = some out) : roI l yX4_faultOf wsX4_faultOf rmX4_faultOfN E [.null, .int x1, .int x2, .int x3] ((fun _ => True)) out := by
  refine Met.ofW (cc := cX4_faultOf) (maxL := 4) (ret := (some .int)) (by decide) rfl ?_
  intro p e s m args below meth c s₁ B0 hml hv
  obtain ⟨rfl, -, hK⟩ := hv
  have C0 : cx wsX4_faultOf cX4_faultOf 4 (some .int) RX4 E p s m _ meth c := ⟨B0.exec, B0.bytes, B0.returns, hml, findClass_of_methodNamed B0.named, atoms_spec (ws := wsX4_faultOf) B0.pre, B0.notSynchronized, hK⟩
  have hl := lv_entry ([.null, .int x1, .int x2, .int x3]) (n := 4) (Nat.le_of_ble_eq_true rfl)
  rw [lg_entry_eq]
  generalize (lg_sl ([.null, .int x1, .int x2, .int x3]) ++ List.replicate (4 - (lg_sl ([.null, .int x1, .int x2, .int x3])).length) Slot.unset).toArray = ls at hl ⊢
  exact tX4_faultOfN_0 C0 hl hf
abbrev rmX4_faulted : Room := { frames := 0, cells := 0, slots := 0, locals := 0 }
set_option maxRecDepth 20000 in
theorem iX4_faulted_X4 : ∀ w ∈ wsX40, w ∈ wsX4_faulted := by decide +kernel
set_option maxHeartbeats 4000000 in
set_option maxRecDepth 100000 in
theorem tX4_faulted_0 {p : Program} {l : Launch} {e : Env} {s : State} {m : MethodId} {args : Array Value} {below : List Frame} {meth : Method} {c : Code} {E : EE} {B : Nat → Nat} {A : Nat → Prop} {out : Int32 × SX} (C0 : cx wsX4_faulted cX4_faulted 2 (some .int) RX4 E p s m args meth c) {x1 : Int32} {u : SX} {H : Heap} {locs : List Loc} {ls : Array Slot} (hW : WX E A B u s H locs) (hl : lv_has ls 2 [(0, .ref (B 0)), (1, .int x1)]) (hf : fX4_faulted x1 u = some out) : W p l e rmX4_faulted s m args below meth c H locs 0 0 (MQ below (va_Qi (fun r (_ : Unit) => r = out.1) (fun _ t => QX E A B out.2 t.heap) A) args s 0 0 A) (F0 m 0 ls []) := by
  obtain ⟨hx, hb, hr, hml, hown, hts, hlk, hK⟩ := id C0
  unfold fX4_faulted at hf
  refine lv_aload_n hx hb dX4_faulted_0 rfl (lv_at hl 0 rfl) ?_
  refine lv_iload_n hx hb dX4_faulted_1 rfl (lv_at hl 1 rfl) ?_
  refine x_put C0 hW iX4_faulted_X4 9 (by decide) (by decide +kernel) rfl (by decide +kernel) rfl dX4_faulted_2 (fun H locs hW => ?_)
  have hW : WX E A B ((upd u.1 9 x1), u.2.1, u.2.2.1, u.2.2.2.1, u.2.2.2.2) s H locs := hW
  refine lv_bipush (v := (-10 : Int32)) hx hb dX4_faulted_5 (by decide) ?_
  refine lv_iload_n hx hb dX4_faulted_7 rfl (lv_at hl 1 rfl) ?_
  refine lv_isub hx hb dX4_faulted_8 ?_
  obtain rfl := Option.some.inj hf
  exact e_muI (QH := QX E A B ((upd u.1 9 x1), u.2.1, u.2.2.1, u.2.2.2.1, u.2.2.2.2)) C0 hW.2.2.2 rfl ⟨hW.1, hW.2.1, hW.2.2.1⟩ dX4_faulted_9
set_option maxHeartbeats 4000000 in
set_option maxRecDepth 100000 in
theorem tX4_faulted {l : Launch} (E : EE) (A : Nat → Prop) (B : Nat → Nat) {u : SX} {x1 : Int32} {out : Int32 × SX} (hI : fI (cX E B u)) (hA : AX E B u A) (hf : fX4_faulted x1 u = some out) : muI l yX4_faulted wsX4_faulted rmX4_faulted E [.ref (B 0), .int x1] A (fP E (cX E B u)) (QX E A B out.2) out.1 := by
  refine Met.ofW (cc := cX4_faulted) (maxL := 2) (ret := (some .int)) (by decide) rfl ?_
  intro p e s m args below meth c s₁ B0 hml hv
  obtain ⟨rfl, hP, hK⟩ := hv
  have C0 : cx wsX4_faulted cX4_faulted 2 (some .int) RX4 E p s m _ meth c := ⟨B0.exec, B0.bytes, B0.returns, hml, findClass_of_methodNamed B0.named, atoms_spec (ws := wsX4_faulted) B0.pre, B0.notSynchronized, hK⟩
  have hl := lv_entry ([.ref (B 0), .int x1]) (n := 2) (Nat.le_of_ble_eq_true rfl)
  rw [lg_entry_eq]
  generalize (lg_sl ([.ref (B 0), .int x1]) ++ List.replicate (2 - (lg_sl ([.ref (B 0), .int x1])).length) Slot.unset).toArray = ls at hl ⊢
  exact tX4_faulted_0 C0 ⟨hP, hI, hA, va_S.rf⟩ hl hf
abbrev rmX4_citizen : Room := { frames := 0, cells := 0, slots := 0, locals := 0 }
set_option maxRecDepth 20000 in
theorem iX4_citizen_X4 : ∀ w ∈ wsX40, w ∈ wsX4_citizen := by decide +kernel
set_option maxHeartbeats 4000000 in
set_option maxRecDepth 100000 in
theorem tX4_citizen_30 {p : Program} {l : Launch} {e : Env} {s : State} {m : MethodId} {args : Array Value} {below : List Frame} {meth : Method} {c : Code} {E : EE} {B : Nat → Nat} {u : SX} {out : Option Nat} (C0 : cx wsX4_citizen cX4_citizen 2 (some (.object "LoserDraws$Citizen")) RX4 E p s m args meth c) (hP : fP E (cX E B u) s.heap) {ls : Array Slot} (hl : lv_has ls 2 []) (hf : fX4_citizen_30 u = some out) : W p l e rmX4_citizen s m args below meth c s.heap [] 0 0 (MQ below (va_Sq (fun r => r = out.map (fun k => B (8 + k)))) args s 0 0 (fun _ => False)) (F0 m 30 ls []) := by
  obtain ⟨hx, hb, hr, hml, hown, hts, hlk, hK⟩ := id C0
  unfold fX4_citizen_30 at hf
  refine lv_null hx hb dX4_citizen_30 ?_
  refine W.eq (g2 := F0 m 31 ls [va_rf (none)]) rfl ?_
  exact e_roQ C0 (v := none) (by obtain rfl := Option.some.inj hf; rfl) dX4_citizen_31
set_option maxHeartbeats 4000000 in
set_option maxRecDepth 100000 in
theorem tX4_citizen_0 {p : Program} {l : Launch} {e : Env} {s : State} {m : MethodId} {args : Array Value} {below : List Frame} {meth : Method} {c : Code} {E : EE} {B : Nat → Nat} {u : SX} {out : Option Nat} (C0 : cx wsX4_citizen cX4_citizen 2 (some (.object "LoserDraws$Citizen")) RX4 E p s m args meth c) (hP : fP E (cX E B u) s.heap) {x1 : Int32} {ls : Array Slot} (hl : lv_has ls 2 [(0, .ref (B 0)), (1, .int x1)]) (hf : fX4_citizen x1 u = some out) : W p l e rmX4_citizen s m args below meth c s.heap [] 0 0 (MQ below (va_Sq (fun r => r = out.map (fun k => B (8 + k)))) args s 0 0 (fun _ => False)) (F0 m 0 ls []) := by
  obtain ⟨hx, hb, hr, hml, hown, hts, hlk, hK⟩ := id C0
  unfold fX4_citizen at hf
  refine lv_iload_n hx hb dX4_citizen_0 rfl (lv_at hl 1 rfl) ?_
  refine lv_if_lt (tgt := 30) hx hb dX4_citizen_1 (by decide) (fun c1 => ?_) (fun c1 => ?_)
  · have hf := th hf c1
    exact tX4_citizen_30 C0 hP (lv_sub hl [] rfl) hf
  · have hf := el hf c1
    refine lv_iload_n hx hb dX4_citizen_4 rfl (lv_at hl 1 rfl) ?_
    refine lv_aload_n hx hb dX4_citizen_5 rfl (lv_at hl 0 rfl) ?_
    refine x_get C0 hP iX4_citizen_X4 1 (by decide) (by decide +kernel) rfl dX4_citizen_6 ?_
    refine lv_icmp_ge (tgt := 30) hx hb dX4_citizen_9 (by decide) (fun c2 => ?_) (fun c2 => ?_)
    · have hf := th hf c2
      exact tX4_citizen_30 C0 hP (lv_sub hl [] rfl) hf
    · have hf := el hf c2
      refine lv_iload_n hx hb dX4_citizen_12 rfl (lv_at hl 1 rfl) ?_
      refine lv_aload_n hx hb dX4_citizen_13 rfl (lv_at hl 0 rfl) ?_
      refine x_get C0 hP iX4_citizen_X4 0 (by decide) (by decide +kernel) rfl dX4_citizen_14 ?_
      refine x_len1 C0 hP dX4_citizen_17 ?_
      refine lv_icmp_ge (tgt := 30) hx hb dX4_citizen_18 (by decide) (fun c3 => ?_) (fun c3 => ?_)
      · have hf := th hf c3
        exact tX4_citizen_30 C0 hP (lv_sub hl [] rfl) hf
      · have hf := el hf c3
        refine lv_aload_n hx hb dX4_citizen_21 rfl (lv_at hl 0 rfl) ?_
        refine x_get C0 hP iX4_citizen_X4 0 (by decide) (by decide +kernel) rfl dX4_citizen_22 ?_
        refine lv_iload_n hx hb dX4_citizen_25 rfl (lv_at hl 1 rfl) ?_
        obtain ⟨h4, hf⟩ := gd hf
        refine x_aldC C0 hP h4 dX4_citizen_26 ?_
        refine lv_goto (tgt := 31) hx hb dX4_citizen_27 (by decide) ?_
        refine W.eq (g2 := F0 m 31 ls [va_rf (some (B (8 + x1.toNatClampNeg)))]) rfl ?_
        exact e_roQ C0 (v := some (B (8 + x1.toNatClampNeg))) (by obtain rfl := Option.some.inj hf; rfl) dX4_citizen_31
set_option maxHeartbeats 4000000 in
set_option maxRecDepth 100000 in
theorem tX4_citizen {l : Launch} (E : EE) (B : Nat → Nat) {u : SX} {x1 : Int32} {out : Option Nat} (hf : fX4_citizen x1 u = some out) : roQ l yX4_citizen wsX4_citizen rmX4_citizen E [.ref (B 0), .int x1] (fP E (cX E B u)) (out.map (fun k => B (8 + k))) := by
  refine Met.ofW (cc := cX4_citizen) (maxL := 2) (ret := (some (.object "LoserDraws$Citizen"))) (by decide) rfl ?_
  intro p e s m args below meth c s₁ B0 hml hv
  obtain ⟨rfl, hP, hK⟩ := hv
  have C0 : cx wsX4_citizen cX4_citizen 2 (some (.object "LoserDraws$Citizen")) RX4 E p s m _ meth c := ⟨B0.exec, B0.bytes, B0.returns, hml, findClass_of_methodNamed B0.named, atoms_spec (ws := wsX4_citizen) B0.pre, B0.notSynchronized, hK⟩
  have hl := lv_entry ([.ref (B 0), .int x1]) (n := 2) (Nat.le_of_ble_eq_true rfl)
  rw [lg_entry_eq]
  generalize (lg_sl ([.ref (B 0), .int x1]) ++ List.replicate (2 - (lg_sl ([.ref (B 0), .int x1])).length) Slot.unset).toArray = ls at hl ⊢
  exact tX4_citizen_0 C0 hP hl hf
abbrev rmX4_takeText : Room := { frames := 2, cells := 0, slots := 0, locals := 44 }
set_option maxRecDepth 20000 in
theorem iX4_takeText_X4 : ∀ w ∈ wsX40, w ∈ wsX4_takeText := by decide +kernel
set_option maxHeartbeats 4000000 in
set_option maxRecDepth 100000 in
theorem tX4_takeText_81 {p : Program} {l : Launch} {e : Env} {s : State} {m : MethodId} {args : Array Value} {below : List Frame} {meth : Method} {c : Code} {E : EE} {B : Nat → Nat} {A : Nat → Prop} {out : SX} {c44 : Nat → Int32 → Int32 → SX → Option (SX)} (C0 : cx wsX4_takeText cX4_takeText 6 none RX4 E p s m args meth c) (hc44 : ∀ (k1 : Nat) (x2 : Int32) (x4 : Int32) (u : SX) (H : Heap) (locs : List Loc) (ls : Array Slot) (hk1 : k1 < 4) (_ : WX E A B u s H locs), lv_has ls 6 [(0, .ref (B 0)), (1, .ref (B (14 + k1))), (2, .int x2), (4, .int x4)] → c44 k1 x2 x4 u = some out → W p l e rmX4_takeText s m args below meth c H locs 0 0 (MQ below (va_Qv (fun (_ : Unit) => True) (fun _ t => QX E A B out t.heap) A) args s 0 0 A) (F0 m 44 ls [])) {k1 : Nat} {x2 : Int32} {x4 : Int32} {u : SX} {H : Heap} {locs : List Loc} {ls : Array Slot} (hk1 : k1 < 4) (hW : WX E A B u s H locs) (hl : lv_has ls 6 [(0, .ref (B 0)), (1, .ref (B (14 + k1))), (2, .int x2), (4, .int x4)]) (hf : fX4_takeText_81 c44 k1 x2 x4 u = some out) : W p l e rmX4_takeText s m args below meth c H locs 0 0 (MQ below (va_Qv (fun (_ : Unit) => True) (fun _ t => QX E A B out t.heap) A) args s 0 0 A) (F0 m 81 ls []) := by
  obtain ⟨hx, hb, hr, hml, hown, hts, hlk, hK⟩ := id C0
  unfold fX4_takeText_81 at hf
  refine lv_iinc (v := (x4 + (1 : Int32))) (lv' := [(4, .int (x4 + (1 : Int32))), (0, .ref (B 0)), (1, .ref (B (14 + k1))), (2, .int x2)]) hx hb dX4_takeText_81 hl (k := 3) rfl rfl (by decide) rfl (fun ls hl => ?_)
  refine lv_goto (tgt := 44) hx hb dX4_takeText_84 (by decide) ?_
  exact hc44 _ _ _ _ _ _ _ hk1 hW (lv_sub hl [1, 2, 3, 0] rfl) hf
set_option maxHeartbeats 4000000 in
set_option maxRecDepth 100000 in
theorem tX4_takeText_44 {p : Program} {l : Launch} {e : Env} {s : State} {m : MethodId} {args : Array Value} {below : List Frame} {meth : Method} {c : Code} {E : EE} {B : Nat → Nat} {A : Nat → Prop} {out : SX} (C0 : cx wsX4_takeText cX4_takeText 6 none RX4 E p s m args meth c) : ∀ (n : Nat) (k1 : Nat) (x2 : Int32) (x4 : Int32) (u : SX) (H : Heap) (locs : List Loc) (ls : Array Slot) (hk1 : k1 < 4) (_ : WX E A B u s H locs), lv_has ls 6 [(0, .ref (B 0)), (1, .ref (B (14 + k1))), (2, .int x2), (4, .int x4)] → fX4_takeText_44 n k1 x2 x4 u = some out → W p l e rmX4_takeText s m args below meth c H locs 0 0 (MQ below (va_Qv (fun (_ : Unit) => True) (fun _ t => QX E A B out t.heap) A) args s 0 0 A) (F0 m 44 ls []) := by
  obtain ⟨hx, hb, hr, hml, hown, hts, hlk, hK⟩ := id C0
  intro n
  induction n with
  | zero =>
    intro k1 x2 x4 u H locs ls hk1 hW hl hf
    cases (show none = some out from hf)
  | succ n ih =>
    intro k1 x2 x4 u H locs ls hk1 hW hl hf
    rw [fX4_takeText_44] at hf
    refine lv_iload hx hb dX4_takeText_44 (lv_at hl 3 rfl) ?_
    refine lv_aload_n hx hb dX4_takeText_46 rfl (lv_at hl 0 rfl) ?_
    refine x_get C0 hW.1 iX4_takeText_X4 1 (by decide) (by decide +kernel) rfl dX4_takeText_47 ?_
    refine lv_icmp_ge (tgt := 87) hx hb dX4_takeText_50 (by decide) (fun c1 => ?_) (fun c1 => ?_)
    · have hf := th hf c1
      obtain rfl := Option.some.inj hf
      exact e_muV (QH := QX E A B u) C0 hW.2.2.2 ⟨hW.1, hW.2.1, hW.2.2.1⟩ dX4_takeText_87
    · have hf := el hf c1
      refine lv_aload_n hx hb dX4_takeText_53 rfl (lv_at hl 0 rfl) ?_
      refine lv_iload hx hb dX4_takeText_54 (lv_at hl 3 rfl) ?_
      obtain ⟨q2, h3, hf⟩ := bd hf
      refine k_roQ (run_V (rest := []) (n := 1) C0 (tX4_citizen (u := u) E B h3) gX4_takeText_X4_citizen rfl rfl (by decide +kernel) (hW.1 0 _ rfl) rfl rfl hW.1 hl.1 rfl rfl (Nat.le_of_ble_eq_true rfl) dX4_takeText_56) ?_
      cases q2 with
      | none =>
        rw [Option.elim_none] at hf
        refine W.eq (g2 := F0 m 59 ls [.null]) rfl ?_
        refine lv_astoreN (lv' := [(5, .null), (0, .ref (B 0)), (1, .ref (B (14 + k1))), (2, .int x2), (4, .int x4)]) hx hb dX4_takeText_59 hl (by decide) rfl (fun ls hl => ?_)
        refine lv_aloadN hx hb dX4_takeText_61 (lv_at hl 0 rfl) ?_
        refine lv_ifnullN (tgt := 81) hx hb dX4_takeText_63 (by decide) ?_
        exact tX4_takeText_81 C0 ih hk1 hW (lv_sub hl [1, 2, 3, 4] rfl) hf
      | some k4 =>
        rw [Option.elim_some] at hf
        obtain ⟨h5, hf⟩ := gd hf
        refine W.eq (g2 := F0 m 59 ls [.ref (B (8 + k4))]) rfl ?_
        refine lv_astore (lv' := [(5, .ref (B (8 + k4))), (0, .ref (B 0)), (1, .ref (B (14 + k1))), (2, .int x2), (4, .int x4)]) hx hb dX4_takeText_59 hl (by decide) rfl (fun ls hl => ?_)
        refine lv_aload hx hb dX4_takeText_61 (lv_at hl 0 rfl) ?_
        refine lv_ifnull hx hb dX4_takeText_63 ?_
        refine lv_aload_n hx hb dX4_takeText_66 rfl (lv_at hl 2 rfl) ?_
        refine lv_iload_n hx hb dX4_takeText_67 rfl (lv_at hl 3 rfl) ?_
        refine lv_iconst (v := (3 : Int32)) hx hb dX4_takeText_68 (by decide) ?_
        refine lv_iadd hx hb dX4_takeText_69 ?_
        refine lv_iload hx hb dX4_takeText_70 (lv_at hl 4 rfl) ?_
        refine lv_bipush (v := (6 : Int32)) hx hb dX4_takeText_72 (by decide) ?_
        refine lv_imul hx hb dX4_takeText_74 ?_
        refine lv_iadd hx hb dX4_takeText_75 ?_
        refine lv_aload hx hb dX4_takeText_76 (lv_at hl 0 rfl) ?_
        obtain ⟨q6, h7, hf⟩ := bd hf
        refine k_muV (run_SN (rest := []) (n := 3) C0 (tX3_tellCitizen (u := u) E A B hk1 (Decidable.of_not_not h5) hW.2.1 hW.2.2.1 h7) gX4_takeText_X3_tellCitizen_n225 rfl (by decide +kernel) (by decide +kernel) (by decide +kernel) rfl (by decide +kernel) hW.1 hl.1 rfl rfl (Nat.le_of_ble_eq_true rfl) dX4_takeText_78) hW.2.2.2 (fun _ h => h) (fun H locs hQ _ hS => ?_)
        have hW : WX E A B (u.1, u.2.1, q6, u.2.2.2.1, u.2.2.2.2) s H locs := ⟨hQ.1, hQ.2.1, hQ.2.2, hS⟩
        exact tX4_takeText_81 C0 ih hk1 hW (lv_sub hl [1, 2, 3, 4] rfl) hf
set_option maxHeartbeats 4000000 in
set_option maxRecDepth 100000 in
theorem tX4_takeText_0 {p : Program} {l : Launch} {e : Env} {s : State} {m : MethodId} {args : Array Value} {below : List Frame} {meth : Method} {c : Code} {E : EE} {B : Nat → Nat} {A : Nat → Prop} {out : SX} (C0 : cx wsX4_takeText cX4_takeText 6 none RX4 E p s m args meth c) {k1 : Nat} {x2 : Int32} {x3 : Int32} {u : SX} {H : Heap} {locs : List Loc} {ls : Array Slot} (hk1 : k1 < 4) (hW : WX E A B u s H locs) (hl : lv_has ls 6 [(0, .ref (B 0)), (1, .ref (B (14 + k1))), (2, .int x2), (3, .int x3)]) (hf : fX4_takeText k1 x2 x3 u = some out) : W p l e rmX4_takeText s m args below meth c H locs 0 0 (MQ below (va_Qv (fun (_ : Unit) => True) (fun _ t => QX E A B out t.heap) A) args s 0 0 A) (F0 m 0 ls []) := by
  obtain ⟨hx, hb, hr, hml, hown, hts, hlk, hK⟩ := id C0
  unfold fX4_takeText at hf
  refine lv_aload_n hx hb dX4_takeText_0 rfl (lv_at hl 0 rfl) ?_
  refine lv_iload_n hx hb dX4_takeText_1 rfl (lv_at hl 3 rfl) ?_
  obtain ⟨q1, h2, hf⟩ := bd hf
  refine k_roI (run_SN (rest := [.ref (B 0)]) (n := 1) (PH := fun _ => True) C0 (tX3_citizensIn E h2) gX4_takeText_X3_citizensIn_n219 rfl (by decide +kernel) (by decide +kernel) (by decide +kernel) rfl (by decide +kernel) trivial hl.1 rfl rfl (Nat.le_of_ble_eq_true rfl) dX4_takeText_2) ?_
  refine x_put C0 hW iX4_takeText_X4 1 (by decide) (by decide +kernel) rfl (by decide +kernel) rfl dX4_takeText_5 (fun H locs hW => ?_)
  have hW : WX E A B ((upd u.1 1 q1), u.2.1, u.2.2.1, u.2.2.2.1, u.2.2.2.2) s H locs := hW
  refine lv_aload_n hx hb dX4_takeText_8 rfl (lv_at hl 0 rfl) ?_
  refine lv_aload_n hx hb dX4_takeText_9 rfl (lv_at hl 1 rfl) ?_
  refine lv_iload_n hx hb dX4_takeText_10 rfl (lv_at hl 2 rfl) ?_
  refine lv_iconst (v := (1 : Int32)) hx hb dX4_takeText_11 (by decide) ?_
  refine lv_iadd hx hb dX4_takeText_12 ?_
  obtain ⟨q3, h4, hf⟩ := bd hf
  refine k_roI (run_VN (rest := [.ref (B 0)]) (n := 1) C0 (tX2_at E (B (14 + k1)) (B (18 + k1)) h4) gX4_takeText_X2_at_n186 rfl (by decide +kernel) (by decide +kernel) (by decide +kernel) (by decide +kernel) rfl (by decide +kernel) (hW.1.row hk1 0 _ rfl) rfl rfl (hW.1.row hk1) hl.1 rfl rfl (Nat.le_of_ble_eq_true rfl) dX4_takeText_13) ?_
  obtain ⟨q5, h6, hf⟩ := bd hf
  refine k_roI (run_SN (rest := [.ref (B 0)]) (n := 1) (PH := fun _ => True) C0 (tX3_digit E h6) gX4_takeText_X3_digit_n222 rfl (by decide +kernel) (by decide +kernel) (by decide +kernel) rfl (by decide +kernel) trivial hl.1 rfl rfl (Nat.le_of_ble_eq_true rfl) dX4_takeText_16) ?_
  refine x_put C0 hW iX4_takeText_X4 2 (by decide) (by decide +kernel) rfl (by decide +kernel) rfl dX4_takeText_19 (fun H locs hW => ?_)
  have hW : WX E A B ((upd (upd u.1 1 q1) 2 q5), u.2.1, u.2.2.1, u.2.2.2.1, u.2.2.2.2) s H locs := hW
  refine lv_aload_n hx hb dX4_takeText_22 rfl (lv_at hl 0 rfl) ?_
  refine lv_aload_n hx hb dX4_takeText_23 rfl (lv_at hl 1 rfl) ?_
  refine lv_iload_n hx hb dX4_takeText_24 rfl (lv_at hl 2 rfl) ?_
  refine lv_iconst (v := (2 : Int32)) hx hb dX4_takeText_25 (by decide) ?_
  refine lv_iadd hx hb dX4_takeText_26 ?_
  obtain ⟨q7, h8, hf⟩ := bd hf
  refine k_roI (run_VN (rest := [.ref (B 0)]) (n := 1) C0 (tX2_at E (B (14 + k1)) (B (18 + k1)) h8) gX4_takeText_X2_at_n186 rfl (by decide +kernel) (by decide +kernel) (by decide +kernel) (by decide +kernel) rfl (by decide +kernel) (hW.1.row hk1 0 _ rfl) rfl rfl (hW.1.row hk1) hl.1 rfl rfl (Nat.le_of_ble_eq_true rfl) dX4_takeText_27) ?_
  obtain ⟨q9, h10, hf⟩ := bd hf
  refine k_roI (run_SN (rest := [.ref (B 0)]) (n := 1) (PH := fun _ => True) C0 (tX3_digit E h10) gX4_takeText_X3_digit_n222 rfl (by decide +kernel) (by decide +kernel) (by decide +kernel) rfl (by decide +kernel) trivial hl.1 rfl rfl (Nat.le_of_ble_eq_true rfl) dX4_takeText_30) ?_
  refine x_put C0 hW iX4_takeText_X4 3 (by decide) (by decide +kernel) rfl (by decide +kernel) rfl dX4_takeText_33 (fun H locs hW => ?_)
  have hW : WX E A B ((upd (upd (upd u.1 1 q1) 2 q5) 3 q9), u.2.1, u.2.2.1, u.2.2.2.1, u.2.2.2.2) s H locs := hW
  refine lv_aload_n hx hb dX4_takeText_36 rfl (lv_at hl 0 rfl) ?_
  refine lv_iconst (v := (0 : Int32)) hx hb dX4_takeText_37 (by decide) ?_
  refine x_put C0 hW iX4_takeText_X4 5 (by decide) (by decide +kernel) rfl (by decide +kernel) rfl dX4_takeText_38 (fun H locs hW => ?_)
  have hW : WX E A B ((upd (upd (upd (upd u.1 1 q1) 2 q5) 3 q9) 5 (0 : Int32)), u.2.1, u.2.2.1, u.2.2.2.1, u.2.2.2.2) s H locs := hW
  refine lv_iconst (v := (0 : Int32)) hx hb dX4_takeText_41 (by decide) ?_
  refine lv_istore (lv' := [(4, .int (0 : Int32)), (0, .ref (B 0)), (1, .ref (B (14 + k1))), (2, .int x2), (3, .int x3)]) hx hb dX4_takeText_42 hl (by decide) rfl (fun ls hl => ?_)
  exact tX4_takeText_44 C0 fu _ _ _ _ _ _ _ hk1 hW (lv_sub hl [1, 2, 3, 0] rfl) hf
set_option maxHeartbeats 4000000 in
set_option maxRecDepth 100000 in
theorem tX4_takeText {l : Launch} (E : EE) (A : Nat → Prop) (B : Nat → Nat) {u : SX} {k1 : Nat} {x2 : Int32} {x3 : Int32} {out : SX} (hk1 : k1 < 4) (hI : fI (cX E B u)) (hA : AX E B u A) (hf : fX4_takeText k1 x2 x3 u = some out) : muV l yX4_takeText wsX4_takeText rmX4_takeText E [.ref (B 0), .ref (B (14 + k1)), .int x2, .int x3] A (fP E (cX E B u)) (QX E A B out) := by
  refine Met.ofW (cc := cX4_takeText) (maxL := 6) (ret := none) (by decide) rfl ?_
  intro p e s m args below meth c s₁ B0 hml hv
  obtain ⟨rfl, hP, hK⟩ := hv
  have C0 : cx wsX4_takeText cX4_takeText 6 none RX4 E p s m _ meth c := ⟨B0.exec, B0.bytes, B0.returns, hml, findClass_of_methodNamed B0.named, atoms_spec (ws := wsX4_takeText) B0.pre, B0.notSynchronized, hK⟩
  have hl := lv_entry ([.ref (B 0), .ref (B (14 + k1)), .int x2, .int x3]) (n := 6) (Nat.le_of_ble_eq_true rfl)
  rw [lg_entry_eq]
  generalize (lg_sl ([.ref (B 0), .ref (B (14 + k1)), .int x2, .int x3]) ++ List.replicate (6 - (lg_sl ([.ref (B 0), .ref (B (14 + k1)), .int x2, .int x3])).length) Slot.unset).toArray = ls at hl ⊢
  exact tX4_takeText_0 C0 hk1 ⟨hP, hI, hA, va_S.rf⟩ hl hf
abbrev rmX4_republic : Room := { frames := 4, cells := 0, slots := 0, locals := 87 }
set_option maxRecDepth 20000 in
theorem iX4_republic_X4 : ∀ w ∈ wsX40, w ∈ wsX4_republic := by decide +kernel
set_option maxHeartbeats 4000000 in
set_option maxRecDepth 100000 in
theorem tX4_republic_52 {p : Program} {l : Launch} {e : Env} {s : State} {m : MethodId} {args : Array Value} {below : List Frame} {meth : Method} {c : Code} {E : EE} {B : Nat → Nat} {A : Nat → Prop} {out : Int32 × SX} (C0 : cx wsX4_republic cX4_republic 8 (some .int) RX4 E p s m args meth c) {x6 : Int32} {u : SX} {H : Heap} {locs : List Loc} {ls : Array Slot} (hW : WX E A B u s H locs) (hl : lv_has ls 8 [(0, .ref (B 0)), (6, .int x6)]) (hf : fX4_republic_52 x6 u = some out) : W p l e rmX4_republic s m args below meth c H locs 0 0 (MQ below (va_Qi (fun r (_ : Unit) => r = out.1) (fun _ t => QX E A B out.2 t.heap) A) args s 0 0 A) (F0 m 52 ls []) := by
  obtain ⟨hx, hb, hr, hml, hown, hts, hlk, hK⟩ := id C0
  unfold fX4_republic_52 at hf
  refine lv_aload_n hx hb dX4_republic_52 rfl (lv_at hl 0 rfl) ?_
  refine lv_iload hx hb dX4_republic_53 (lv_at hl 1 rfl) ?_
  obtain ⟨q1, h2, hf⟩ := bd hf
  refine k_muI (run_V (rest := []) (n := 1) C0 (tX4_faulted (u := u) E A B hW.2.1 hW.2.2.1 h2) gX4_republic_X4_faulted rfl rfl (by decide +kernel) (hW.1 0 _ rfl) rfl rfl hW.1 hl.1 rfl rfl (Nat.le_of_ble_eq_true rfl) dX4_republic_55) hW.2.2.2 (fun _ h => h) (fun H locs hQ _ hS => ?_)
  have hW : WX E A B q1.2 s H locs := ⟨hQ.1, hQ.2.1, hQ.2.2, hS⟩
  obtain rfl := Option.some.inj hf
  exact e_muI (QH := QX E A B q1.2) C0 hW.2.2.2 rfl ⟨hW.1, hW.2.1, hW.2.2.1⟩ dX4_republic_58
set_option maxHeartbeats 4000000 in
set_option maxRecDepth 100000 in
theorem tX4_republic_0 {p : Program} {l : Launch} {e : Env} {s : State} {m : MethodId} {args : Array Value} {below : List Frame} {meth : Method} {c : Code} {E : EE} {B : Nat → Nat} {A : Nat → Prop} {out : Int32 × SX} (C0 : cx wsX4_republic cX4_republic 8 (some .int) RX4 E p s m args meth c) {x1 : Int32} {x2 : Int32} {x3 : Int32} {x4 : Int32} {u : SX} {H : Heap} {locs : List Loc} {ls : Array Slot} (hW : WX E A B u s H locs) (hl : lv_has ls 8 [(0, .ref (B 0)), (1, .int x1), (2, .int x2), (3, .int x3), (4, .int x4)]) (hf : fX4_republic x1 x2 x3 x4 u = some out) : W p l e rmX4_republic s m args below meth c H locs 0 0 (MQ below (va_Qi (fun r (_ : Unit) => r = out.1) (fun _ t => QX E A B out.2 t.heap) A) args s 0 0 A) (F0 m 0 ls []) := by
  obtain ⟨hx, hb, hr, hml, hown, hts, hlk, hK⟩ := id C0
  unfold fX4_republic at hf
  refine lv_aload_n hx hb dX4_republic_0 rfl (lv_at hl 0 rfl) ?_
  refine lv_iconst (v := (0 : Int32)) hx hb dX4_republic_1 (by decide) ?_
  refine x_put C0 hW iX4_republic_X4 9 (by decide) (by decide +kernel) rfl (by decide +kernel) rfl dX4_republic_2 (fun H locs hW => ?_)
  have hW : WX E A B ((upd u.1 9 (0 : Int32)), u.2.1, u.2.2.1, u.2.2.2.1, u.2.2.2.2) s H locs := hW
  refine lv_iload_n hx hb dX4_republic_5 rfl (lv_at hl 1 rfl) ?_
  obtain ⟨q1, h2, hf⟩ := bd hf
  refine k_roI (run_S (rest := []) (n := 1) (PH := fun _ => True) C0 (tX4_isSheet E h2) gX4_republic_X4_isSheet rfl rfl (by decide +kernel) trivial hl.1 rfl rfl (Nat.le_of_ble_eq_true rfl) dX4_republic_6) ?_
  refine lv_if_ne (tgt := 14) hx hb dX4_republic_9 (by decide) (fun c3 => ?_) (fun c3 => ?_)
  · have hf := el hf c3
    refine lv_iload_n hx hb dX4_republic_14 rfl (lv_at hl 2 rfl) ?_
    obtain ⟨q4, h5, hf⟩ := bd hf
    refine k_roI (run_S (rest := []) (n := 1) (PH := fun _ => True) C0 (tX4_isLane E h5) gX4_republic_X4_isLane rfl rfl (by decide +kernel) trivial hl.1 rfl rfl (Nat.le_of_ble_eq_true rfl) dX4_republic_15) ?_
    refine lv_if_ne (tgt := 24) hx hb dX4_republic_18 (by decide) (fun c6 => ?_) (fun c6 => ?_)
    · have hf := el hf c6
      refine lv_aload_n hx hb dX4_republic_24 rfl (lv_at hl 0 rfl) ?_
      refine lv_iload_n hx hb dX4_republic_25 rfl (lv_at hl 1 rfl) ?_
      obtain ⟨q7, h8, hf⟩ := bd hf
      refine k_roQ (run_V (rest := []) (n := 1) C0 (tX4_rowOf (u := ((upd u.1 9 (0 : Int32)), u.2.1, u.2.2.1, u.2.2.2.1, u.2.2.2.2)) E B h8) gX4_republic_X4_rowOf rfl rfl (by decide +kernel) (hW.1 0 _ rfl) rfl rfl hW.1 hl.1 rfl rfl (Nat.le_of_ble_eq_true rfl) dX4_republic_26) ?_
      cases q7 with
      | none =>
        rw [Option.elim_none] at hf
        refine W.eq (g2 := F0 m 29 ls [.null]) rfl ?_
        refine lv_astoreN (lv' := [(5, .null), (0, .ref (B 0)), (1, .int x1), (2, .int x2), (3, .int x3), (4, .int x4)]) hx hb dX4_republic_29 hl (by decide) rfl (fun ls hl => ?_)
        refine lv_aloadN hx hb dX4_republic_31 (lv_at hl 0 rfl) ?_
        refine lv_iload_n hx hb dX4_republic_33 rfl (lv_at hl 3 rfl) ?_
        refine lv_iload_n hx hb dX4_republic_34 rfl (lv_at hl 4 rfl) ?_
        refine lv_iload hx hb dX4_republic_35 (lv_at hl 5 rfl) ?_
        obtain ⟨q11, h12, hf⟩ := bd hf
        refine k_roI (run_S (rest := []) (n := 4) (PH := fun _ => True) C0 (tX4_faultOfN E h12) gX4_republic_X4_faultOf rfl rfl (by decide +kernel) trivial hl.1 rfl rfl (Nat.le_of_ble_eq_true rfl) dX4_republic_37) ?_
        refine lv_istore (lv' := [(6, .int q11), (5, .null), (0, .ref (B 0)), (1, .int x1), (2, .int x2), (3, .int x3), (4, .int x4)]) hx hb dX4_republic_40 hl (by decide) rfl (fun ls hl => ?_)
        refine lv_aloadN hx hb dX4_republic_42 (lv_at hl 1 rfl) ?_
        refine lv_ifnullN (tgt := 52) hx hb dX4_republic_44 (by decide) ?_
        exact tX4_republic_52 C0 hW (lv_sub hl [2, 0] rfl) hf
      | some k9 =>
        rw [Option.elim_some] at hf
        obtain ⟨h10, hf⟩ := gd hf
        refine W.eq (g2 := F0 m 29 ls [.ref (B (14 + k9))]) rfl ?_
        refine lv_astore (lv' := [(5, .ref (B (14 + k9))), (0, .ref (B 0)), (1, .int x1), (2, .int x2), (3, .int x3), (4, .int x4)]) hx hb dX4_republic_29 hl (by decide) rfl (fun ls hl => ?_)
        refine lv_aload hx hb dX4_republic_31 (lv_at hl 0 rfl) ?_
        refine lv_iload_n hx hb dX4_republic_33 rfl (lv_at hl 3 rfl) ?_
        refine lv_iload_n hx hb dX4_republic_34 rfl (lv_at hl 4 rfl) ?_
        refine lv_iload hx hb dX4_republic_35 (lv_at hl 5 rfl) ?_
        obtain ⟨q13, h14, hf⟩ := bd hf
        refine k_roI (run_S (rest := []) (n := 4) C0 (tX4_faultOf E (B (14 + k9)) (B (18 + k9)) h14) gX4_republic_X4_faultOf rfl rfl (by decide +kernel) (hW.1.row (Decidable.of_not_not h10)) hl.1 rfl rfl (Nat.le_of_ble_eq_true rfl) dX4_republic_37) ?_
        refine lv_istore (lv' := [(6, .int q13), (5, .ref (B (14 + k9))), (0, .ref (B 0)), (1, .int x1), (2, .int x2), (3, .int x3), (4, .int x4)]) hx hb dX4_republic_40 hl (by decide) rfl (fun ls hl => ?_)
        refine lv_aload hx hb dX4_republic_42 (lv_at hl 1 rfl) ?_
        refine lv_ifnull hx hb dX4_republic_44 ?_
        refine lv_iload hx hb dX4_republic_47 (lv_at hl 0 rfl) ?_
        refine lv_if_eq (tgt := 59) hx hb dX4_republic_49 (by decide) (fun c15 => ?_) (fun c15 => ?_)
        · have hf := th hf c15
          refine lv_aload hx hb dX4_republic_59 (lv_at hl 1 rfl) ?_
          refine lv_iload_n hx hb dX4_republic_61 rfl (lv_at hl 5 rfl) ?_
          refine lv_iload hx hb dX4_republic_62 (lv_at hl 6 rfl) ?_
          obtain ⟨q16, h17, hf⟩ := bd hf
          refine k_roI (run_SN (rest := []) (n := 3) C0 (tX3_firstFault E (B (14 + k9)) (B (18 + k9)) h17) gX4_republic_X3_firstFault_n59 rfl (by decide +kernel) (by decide +kernel) (by decide +kernel) rfl (by decide +kernel) (hW.1.row (Decidable.of_not_not h10)) hl.1 rfl rfl (Nat.le_of_ble_eq_true rfl) dX4_republic_64) ?_
          refine lv_istore (lv' := [(7, .int q16), (6, .int q13), (5, .ref (B (14 + k9))), (0, .ref (B 0)), (1, .int x1), (2, .int x2), (3, .int x3), (4, .int x4)]) hx hb dX4_republic_67 hl (by decide) rfl (fun ls hl => ?_)
          refine lv_iload hx hb dX4_republic_69 (lv_at hl 0 rfl) ?_
          refine lv_bipush (v := (-9 : Int32)) hx hb dX4_republic_71 (by decide) ?_
          refine lv_icmp_eq (tgt := 82) hx hb dX4_republic_73 (by decide) (fun c18 => ?_) (fun c18 => ?_)
          · have hf := th hf c18
            refine lv_aload_n hx hb dX4_republic_82 rfl (lv_at hl 3 rfl) ?_
            refine lv_aload hx hb dX4_republic_83 (lv_at hl 2 rfl) ?_
            refine lv_iload_n hx hb dX4_republic_85 rfl (lv_at hl 6 rfl) ?_
            refine lv_iload hx hb dX4_republic_86 (lv_at hl 7 rfl) ?_
            obtain ⟨q19, h20, hf⟩ := bd hf
            refine k_muV (run_V (rest := []) (n := 3) C0 (tX4_takeText (u := ((upd u.1 9 (0 : Int32)), u.2.1, u.2.2.1, u.2.2.2.1, u.2.2.2.2)) E A B (Decidable.of_not_not h10) hW.2.1 hW.2.2.1 h20) gX4_republic_X4_takeText rfl rfl (by decide +kernel) (hW.1 0 _ rfl) rfl rfl hW.1 hl.1 rfl rfl (Nat.le_of_ble_eq_true rfl) dX4_republic_88) hW.2.2.2 (fun _ h => h) (fun H locs hQ _ hS => ?_)
            have hW : WX E A B q19 s H locs := ⟨hQ.1, hQ.2.1, hQ.2.2, hS⟩
            refine lv_aload_n hx hb dX4_republic_91 rfl (lv_at hl 3 rfl) ?_
            refine x_get C0 hW.1 iX4_republic_X4 1 (by decide) (by decide +kernel) rfl dX4_republic_92 ?_
            obtain rfl := Option.some.inj hf
            exact e_muI (QH := QX E A B q19) C0 hW.2.2.2 rfl ⟨hW.1, hW.2.1, hW.2.2.1⟩ dX4_republic_95
          · have hf := el hf c18
            refine lv_bipush (v := (-100 : Int32)) hx hb dX4_republic_76 (by decide) ?_
            refine lv_iload hx hb dX4_republic_78 (lv_at hl 0 rfl) ?_
            refine lv_isub hx hb dX4_republic_80 ?_
            obtain rfl := Option.some.inj hf
            exact e_muI (QH := QX E A B ((upd u.1 9 (0 : Int32)), u.2.1, u.2.2.1, u.2.2.2.1, u.2.2.2.2)) C0 hW.2.2.2 rfl ⟨hW.1, hW.2.1, hW.2.2.1⟩ dX4_republic_81
        · have hf := el hf c15
          exact tX4_republic_52 C0 hW (lv_sub hl [2, 0] rfl) hf
    · have hf := th hf c6
      refine lv_bipush (v := (-2 : Int32)) hx hb dX4_republic_21 (by decide) ?_
      obtain rfl := Option.some.inj hf
      exact e_muI (QH := QX E A B ((upd u.1 9 (0 : Int32)), u.2.1, u.2.2.1, u.2.2.2.1, u.2.2.2.2)) C0 hW.2.2.2 rfl ⟨hW.1, hW.2.1, hW.2.2.1⟩ dX4_republic_23
  · have hf := th hf c3
    refine lv_iconst (v := (-1 : Int32)) hx hb dX4_republic_12 (by decide) ?_
    obtain rfl := Option.some.inj hf
    exact e_muI (QH := QX E A B ((upd u.1 9 (0 : Int32)), u.2.1, u.2.2.1, u.2.2.2.1, u.2.2.2.2)) C0 hW.2.2.2 rfl ⟨hW.1, hW.2.1, hW.2.2.1⟩ dX4_republic_13
set_option maxHeartbeats 4000000 in
set_option maxRecDepth 100000 in
theorem tX4_republic {l : Launch} (E : EE) (A : Nat → Prop) (B : Nat → Nat) {u : SX} {x1 : Int32} {x2 : Int32} {x3 : Int32} {x4 : Int32} {out : Int32 × SX} (hI : fI (cX E B u)) (hA : AX E B u A) (hf : fX4_republic x1 x2 x3 x4 u = some out) : muI l yX4_republic wsX4_republic rmX4_republic E [.ref (B 0), .int x1, .int x2, .int x3, .int x4] A (fP E (cX E B u)) (QX E A B out.2) out.1 := by
  refine Met.ofW (cc := cX4_republic) (maxL := 8) (ret := (some .int)) (by decide) rfl ?_
  intro p e s m args below meth c s₁ B0 hml hv
  obtain ⟨rfl, hP, hK⟩ := hv
  have C0 : cx wsX4_republic cX4_republic 8 (some .int) RX4 E p s m _ meth c := ⟨B0.exec, B0.bytes, B0.returns, hml, findClass_of_methodNamed B0.named, atoms_spec (ws := wsX4_republic) B0.pre, B0.notSynchronized, hK⟩
  have hl := lv_entry ([.ref (B 0), .int x1, .int x2, .int x3, .int x4]) (n := 8) (Nat.le_of_ble_eq_true rfl)
  rw [lg_entry_eq]
  generalize (lg_sl ([.ref (B 0), .int x1, .int x2, .int x3, .int x4]) ++ List.replicate (8 - (lg_sl ([.ref (B 0), .int x1, .int x2, .int x3, .int x4])).length) Slot.unset).toArray = ls at hl ⊢
  exact tX4_republic_0 C0 ⟨hP, hI, hA, va_S.rf⟩ hl hf
abbrev rmX4_slipsAhead : Room := { frames := 2, cells := 0, slots := 0, locals := 42 }
set_option maxHeartbeats 4000000 in
set_option maxRecDepth 100000 in
theorem tX4_slipsAhead_31 {p : Program} {l : Launch} {e : Env} {s : State} {m : MethodId} {args : Array Value} {below : List Frame} {meth : Method} {c : Code} {E : EE} {B : Nat → Nat} {u : SX} {out : Int32} {c4 : Int32 → Int32 → Int32 → SX → Option (Int32)} (C0 : cx wsX4_slipsAhead cX4_slipsAhead 5 (some .int) RX4 E p s m args meth c) (hP : fP E (cX E B u) s.heap) (hc4 : ∀ (x1 : Int32) (x2 : Int32) (x3 : Int32) (ls : Array Slot), lv_has ls 5 [(0, .ref (B 0)), (1, .int x1), (2, .int x2), (3, .int x3)] → c4 x1 x2 x3 u = some out → W p l e rmX4_slipsAhead s m args below meth c s.heap [] 0 0 (MQ below (vp_Si (fun r => r = out)) args s 0 0 (fun _ => False)) (F0 m 4 ls [])) {x1 : Int32} {x3 : Int32} {xs0 : Int32} {xs1 : Int32} {ls : Array Slot} (hl : lv_has ls 5 [(0, .ref (B 0)), (1, .int x1), (3, .int x3)]) (hf : fX4_slipsAhead_31 c4 x1 x3 xs0 xs1 u = some out) : W p l e rmX4_slipsAhead s m args below meth c s.heap [] 0 0 (MQ below (vp_Si (fun r => r = out)) args s 0 0 (fun _ => False)) (F0 m 31 ls [.int xs1, .int xs0]) := by
  obtain ⟨hx, hb, hr, hml, hown, hts, hlk, hK⟩ := id C0
  unfold fX4_slipsAhead_31 at hf
  refine lv_iadd hx hb dX4_slipsAhead_31 ?_
  refine lv_istore_n (lv' := [(2, .int (xs0 + xs1)), (0, .ref (B 0)), (1, .int x1), (3, .int x3)]) hx hb dX4_slipsAhead_32 rfl hl (by decide) rfl (fun ls hl => ?_)
  refine lv_iinc (v := (x3 + (1 : Int32))) (lv' := [(3, .int (x3 + (1 : Int32))), (2, .int (xs0 + xs1)), (0, .ref (B 0)), (1, .int x1)]) hx hb dX4_slipsAhead_33 hl (k := 3) rfl rfl (by decide) rfl (fun ls hl => ?_)
  refine lv_goto (tgt := 4) hx hb dX4_slipsAhead_36 (by decide) ?_
  exact hc4 _ _ _ _ (lv_sub hl [2, 3, 1, 0] rfl) hf
set_option maxHeartbeats 4000000 in
set_option maxRecDepth 100000 in
theorem tX4_slipsAhead_4 {p : Program} {l : Launch} {e : Env} {s : State} {m : MethodId} {args : Array Value} {below : List Frame} {meth : Method} {c : Code} {E : EE} {B : Nat → Nat} {u : SX} {out : Int32} (C0 : cx wsX4_slipsAhead cX4_slipsAhead 5 (some .int) RX4 E p s m args meth c) (hP : fP E (cX E B u) s.heap) : ∀ (n : Nat) (x1 : Int32) (x2 : Int32) (x3 : Int32) (ls : Array Slot), lv_has ls 5 [(0, .ref (B 0)), (1, .int x1), (2, .int x2), (3, .int x3)] → fX4_slipsAhead_4 n x1 x2 x3 u = some out → W p l e rmX4_slipsAhead s m args below meth c s.heap [] 0 0 (MQ below (vp_Si (fun r => r = out)) args s 0 0 (fun _ => False)) (F0 m 4 ls []) := by
  obtain ⟨hx, hb, hr, hml, hown, hts, hlk, hK⟩ := id C0
  intro n
  induction n with
  | zero =>
    intro x1 x2 x3 ls hl hf
    cases (show none = some out from hf)
  | succ n ih =>
    intro x1 x2 x3 ls hl hf
    rw [fX4_slipsAhead_4] at hf
    refine lv_iload_n hx hb dX4_slipsAhead_4 rfl (lv_at hl 3 rfl) ?_
    refine lv_iload_n hx hb dX4_slipsAhead_5 rfl (lv_at hl 1 rfl) ?_
    refine lv_icmp_ge (tgt := 39) hx hb dX4_slipsAhead_6 (by decide) (fun c1 => ?_) (fun c1 => ?_)
    · have hf := th hf c1
      refine lv_iload_n hx hb dX4_slipsAhead_39 rfl (lv_at hl 2 rfl) ?_
      exact e_roI C0 hf dX4_slipsAhead_40
    · have hf := el hf c1
      refine lv_aload_n hx hb dX4_slipsAhead_9 rfl (lv_at hl 0 rfl) ?_
      refine lv_iload_n hx hb dX4_slipsAhead_10 rfl (lv_at hl 3 rfl) ?_
      obtain ⟨q2, h3, hf⟩ := bd hf
      refine k_roQ (run_V (rest := []) (n := 1) C0 (tX4_citizen (u := u) E B h3) gX4_slipsAhead_X4_citizen rfl rfl (by decide +kernel) (hP 0 _ rfl) rfl rfl hP hl.1 rfl rfl (Nat.le_of_ble_eq_true rfl) dX4_slipsAhead_11) ?_
      cases q2 with
      | none =>
        rw [Option.elim_none] at hf
        refine W.eq (g2 := F0 m 14 ls [.null]) rfl ?_
        refine lv_astoreN (lv' := [(4, .null), (0, .ref (B 0)), (1, .int x1), (2, .int x2), (3, .int x3)]) hx hb dX4_slipsAhead_14 hl (by decide) rfl (fun ls hl => ?_)
        refine lv_iload_n hx hb dX4_slipsAhead_16 rfl (lv_at hl 3 rfl) ?_
        refine lv_aloadN hx hb dX4_slipsAhead_17 (lv_at hl 0 rfl) ?_
        refine lv_ifnonnullN hx hb dX4_slipsAhead_19 ?_
        refine lv_iconst (v := (0 : Int32)) hx hb dX4_slipsAhead_22 (by decide) ?_
        refine lv_goto (tgt := 31) hx hb dX4_slipsAhead_23 (by decide) ?_
        exact tX4_slipsAhead_31 C0 hP ih (lv_sub hl [1, 2, 4] rfl) hf
      | some k4 =>
        rw [Option.elim_some] at hf
        obtain ⟨h5, hf⟩ := gd hf
        refine W.eq (g2 := F0 m 14 ls [.ref (B (8 + k4))]) rfl ?_
        refine lv_astore (lv' := [(4, .ref (B (8 + k4))), (0, .ref (B 0)), (1, .int x1), (2, .int x2), (3, .int x3)]) hx hb dX4_slipsAhead_14 hl (by decide) rfl (fun ls hl => ?_)
        refine lv_iload_n hx hb dX4_slipsAhead_16 rfl (lv_at hl 3 rfl) ?_
        refine lv_aload hx hb dX4_slipsAhead_17 (lv_at hl 0 rfl) ?_
        refine lv_ifnonnull (tgt := 26) hx hb dX4_slipsAhead_19 (by decide) ?_
        refine lv_aload hx hb dX4_slipsAhead_26 (lv_at hl 0 rfl) ?_
        obtain ⟨q6, h7, hf⟩ := bd hf
        refine k_roI (run_VN (rest := [.int x2]) (n := 0) C0 (tX0_slips E (B (8 + k4)) h7) gX4_slipsAhead_X0_slips_n89 rfl (by decide +kernel) (by decide +kernel) (by decide +kernel) (by decide +kernel) rfl (by decide +kernel) (hP.cit (Decidable.of_not_not h5) 0 _ rfl) rfl rfl (hP.cit (Decidable.of_not_not h5)) hl.1 rfl rfl (Nat.le_of_ble_eq_true rfl) dX4_slipsAhead_28) ?_
        exact tX4_slipsAhead_31 C0 hP ih (lv_sub hl [1, 2, 4] rfl) hf
set_option maxHeartbeats 4000000 in
set_option maxRecDepth 100000 in
theorem tX4_slipsAhead_0 {p : Program} {l : Launch} {e : Env} {s : State} {m : MethodId} {args : Array Value} {below : List Frame} {meth : Method} {c : Code} {E : EE} {B : Nat → Nat} {u : SX} {out : Int32} (C0 : cx wsX4_slipsAhead cX4_slipsAhead 5 (some .int) RX4 E p s m args meth c) (hP : fP E (cX E B u) s.heap) {x1 : Int32} {ls : Array Slot} (hl : lv_has ls 5 [(0, .ref (B 0)), (1, .int x1)]) (hf : fX4_slipsAhead x1 u = some out) : W p l e rmX4_slipsAhead s m args below meth c s.heap [] 0 0 (MQ below (vp_Si (fun r => r = out)) args s 0 0 (fun _ => False)) (F0 m 0 ls []) := by
  obtain ⟨hx, hb, hr, hml, hown, hts, hlk, hK⟩ := id C0
  unfold fX4_slipsAhead at hf
  refine lv_iconst (v := (0 : Int32)) hx hb dX4_slipsAhead_0 (by decide) ?_
  refine lv_istore_n (lv' := [(2, .int (0 : Int32)), (0, .ref (B 0)), (1, .int x1)]) hx hb dX4_slipsAhead_1 rfl hl (by decide) rfl (fun ls hl => ?_)
  refine lv_iconst (v := (0 : Int32)) hx hb dX4_slipsAhead_2 (by decide) ?_
  refine lv_istore_n (lv' := [(3, .int (0 : Int32)), (2, .int (0 : Int32)), (0, .ref (B 0)), (1, .int x1)]) hx hb dX4_slipsAhead_3 rfl hl (by decide) rfl (fun ls hl => ?_)
  exact tX4_slipsAhead_4 C0 hP fu _ _ _ _ (lv_sub hl [2, 3, 1, 0] rfl) hf
set_option maxHeartbeats 4000000 in
set_option maxRecDepth 100000 in
theorem tX4_slipsAhead {l : Launch} (E : EE) (B : Nat → Nat) {u : SX} {x1 : Int32} {out : Int32} (hf : fX4_slipsAhead x1 u = some out) : roI l yX4_slipsAhead wsX4_slipsAhead rmX4_slipsAhead E [.ref (B 0), .int x1] (fP E (cX E B u)) out := by
  refine Met.ofW (cc := cX4_slipsAhead) (maxL := 5) (ret := (some .int)) (by decide) rfl ?_
  intro p e s m args below meth c s₁ B0 hml hv
  obtain ⟨rfl, hP, hK⟩ := hv
  have C0 : cx wsX4_slipsAhead cX4_slipsAhead 5 (some .int) RX4 E p s m _ meth c := ⟨B0.exec, B0.bytes, B0.returns, hml, findClass_of_methodNamed B0.named, atoms_spec (ws := wsX4_slipsAhead) B0.pre, B0.notSynchronized, hK⟩
  have hl := lv_entry ([.ref (B 0), .int x1]) (n := 5) (Nat.le_of_ble_eq_true rfl)
  rw [lg_entry_eq]
  generalize (lg_sl ([.ref (B 0), .int x1]) ++ List.replicate (5 - (lg_sl ([.ref (B 0), .int x1])).length) Slot.unset).toArray = ls at hl ⊢
  exact tX4_slipsAhead_0 C0 hP hl hf
abbrev rmX4_ofCitizen : Room := { frames := 3, cells := 0, slots := 0, locals := 66 }
set_option maxRecDepth 20000 in
theorem iX4_ofCitizen_X0 : ∀ w ∈ wsX00, w ∈ wsX4_ofCitizen := by decide +kernel
set_option maxHeartbeats 4000000 in
set_option maxRecDepth 100000 in
theorem tX4_ofCitizen_0 {p : Program} {l : Launch} {e : Env} {s : State} {m : MethodId} {args : Array Value} {below : List Frame} {meth : Method} {c : Code} {E : EE} {B : Nat → Nat} {u : SX} {out : Int32} (C0 : cx wsX4_ofCitizen cX4_ofCitizen 4 (some .int) RX4 E p s m args meth c) (hP : fP E (cX E B u) s.heap) {x1 : Int32} {x2 : Int32} {ls : Array Slot} (hl : lv_has ls 4 [(0, .ref (B 0)), (1, .int x1), (2, .int x2)]) (hf : fX4_ofCitizen x1 x2 u = some out) : W p l e rmX4_ofCitizen s m args below meth c s.heap [] 0 0 (MQ below (vp_Si (fun r => r = out)) args s 0 0 (fun _ => False)) (F0 m 0 ls []) := by
  obtain ⟨hx, hb, hr, hml, hown, hts, hlk, hK⟩ := id C0
  unfold fX4_ofCitizen at hf
  refine lv_aload_n hx hb dX4_ofCitizen_0 rfl (lv_at hl 0 rfl) ?_
  refine lv_iload_n hx hb dX4_ofCitizen_1 rfl (lv_at hl 1 rfl) ?_
  obtain ⟨q1, h2, hf⟩ := bd hf
  refine k_roQ (run_V (rest := []) (n := 1) C0 (tX4_citizen (u := u) E B h2) gX4_ofCitizen_X4_citizen rfl rfl (by decide +kernel) (hP 0 _ rfl) rfl rfl hP hl.1 rfl rfl (Nat.le_of_ble_eq_true rfl) dX4_ofCitizen_2) ?_
  cases q1 with
  | none =>
    rw [Option.elim_none] at hf
    refine W.eq (g2 := F0 m 5 ls [.null]) rfl ?_
    refine lv_astore_nN (lv' := [(3, .null), (0, .ref (B 0)), (1, .int x1), (2, .int x2)]) hx hb dX4_ofCitizen_5 rfl hl (by decide) rfl (fun ls hl => ?_)
    refine lv_aload_nN hx hb dX4_ofCitizen_6 rfl (lv_at hl 0 rfl) ?_
    refine lv_ifnonnullN hx hb dX4_ofCitizen_7 ?_
    refine lv_iconst (v := (-1 : Int32)) hx hb dX4_ofCitizen_10 (by decide) ?_
    exact e_roI C0 hf dX4_ofCitizen_11
  | some k3 =>
    rw [Option.elim_some] at hf
    obtain ⟨h4, hf⟩ := gd hf
    refine W.eq (g2 := F0 m 5 ls [.ref (B (8 + k3))]) rfl ?_
    refine lv_astore_n (lv' := [(3, .ref (B (8 + k3))), (0, .ref (B 0)), (1, .int x1), (2, .int x2)]) hx hb dX4_ofCitizen_5 rfl hl (by decide) rfl (fun ls hl => ?_)
    refine lv_aload_n hx hb dX4_ofCitizen_6 rfl (lv_at hl 0 rfl) ?_
    refine lv_ifnonnull (tgt := 12) hx hb dX4_ofCitizen_7 (by decide) ?_
    refine lv_iload_n hx hb dX4_ofCitizen_12 rfl (lv_at hl 3 rfl) ?_
    by_cases c5 : x2 = (0 : Int32)
    · have hf := th hf c5
      rw [c5]
      refine lv_tableIn (tgt := 52) hx hb dX4_ofCitizen_13 (by decide) (by decide) (by rfl) (by decide) ?_
      refine lv_aload_n hx hb dX4_ofCitizen_52 rfl (lv_at hl 0 rfl) ?_
      refine c_getN C0 (hP.cit (Decidable.of_not_not h4)) iX4_ofCitizen_X0 0 (by decide) (by decide +kernel) rfl dX4_ofCitizen_53 ?_
      exact e_roI C0 hf dX4_ofCitizen_56
    · have hf := el hf c5
      by_cases c6 : x2 = (1 : Int32)
      · have hf := th hf c6
        rw [c6]
        refine lv_tableIn (tgt := 57) hx hb dX4_ofCitizen_13 (by decide) (by decide) (by rfl) (by decide) ?_
        refine lv_aload_n hx hb dX4_ofCitizen_57 rfl (lv_at hl 0 rfl) ?_
        refine c_getN C0 (hP.cit (Decidable.of_not_not h4)) iX4_ofCitizen_X0 1 (by decide) (by decide +kernel) rfl dX4_ofCitizen_58 ?_
        exact e_roI C0 hf dX4_ofCitizen_61
      · have hf := el hf c6
        by_cases c7 : x2 = (2 : Int32)
        · have hf := th hf c7
          rw [c7]
          refine lv_tableIn (tgt := 62) hx hb dX4_ofCitizen_13 (by decide) (by decide) (by rfl) (by decide) ?_
          refine lv_aload_n hx hb dX4_ofCitizen_62 rfl (lv_at hl 0 rfl) ?_
          refine c_getN C0 (hP.cit (Decidable.of_not_not h4)) iX4_ofCitizen_X0 2 (by decide) (by decide +kernel) rfl dX4_ofCitizen_63 ?_
          exact e_roI C0 hf dX4_ofCitizen_66
        · have hf := el hf c7
          by_cases c8 : x2 = (3 : Int32)
          · have hf := th hf c8
            rw [c8]
            refine lv_tableIn (tgt := 67) hx hb dX4_ofCitizen_13 (by decide) (by decide) (by rfl) (by decide) ?_
            refine lv_aload_n hx hb dX4_ofCitizen_67 rfl (lv_at hl 0 rfl) ?_
            refine c_getN C0 (hP.cit (Decidable.of_not_not h4)) iX4_ofCitizen_X0 3 (by decide) (by decide +kernel) rfl dX4_ofCitizen_68 ?_
            refine lv_if_eq (tgt := 78) hx hb dX4_ofCitizen_71 (by decide) (fun c9 => ?_) (fun c9 => ?_)
            · have hf := th hf c9
              refine lv_iconst (v := (0 : Int32)) hx hb dX4_ofCitizen_78 (by decide) ?_
              exact e_roI C0 hf dX4_ofCitizen_79
            · have hf := el hf c9
              refine lv_iconst (v := (1 : Int32)) hx hb dX4_ofCitizen_74 (by decide) ?_
              refine lv_goto (tgt := 79) hx hb dX4_ofCitizen_75 (by decide) ?_
              exact e_roI C0 hf dX4_ofCitizen_79
          · have hf := el hf c8
            by_cases c10 : x2 = (4 : Int32)
            · have hf := th hf c10
              rw [c10]
              refine lv_tableIn (tgt := 80) hx hb dX4_ofCitizen_13 (by decide) (by decide) (by rfl) (by decide) ?_
              refine lv_aload_n hx hb dX4_ofCitizen_80 rfl (lv_at hl 0 rfl) ?_
              obtain ⟨q11, h12, hf⟩ := bd hf
              refine k_roI (run_VN (rest := []) (n := 0) C0 (tX0_slips E (B (8 + k3)) h12) gX4_ofCitizen_X0_slips_n89 rfl (by decide +kernel) (by decide +kernel) (by decide +kernel) (by decide +kernel) rfl (by decide +kernel) (hP.cit (Decidable.of_not_not h4) 0 _ rfl) rfl rfl (hP.cit (Decidable.of_not_not h4)) hl.1 rfl rfl (Nat.le_of_ble_eq_true rfl) dX4_ofCitizen_81) ?_
              exact e_roI C0 hf dX4_ofCitizen_84
            · have hf := el hf c10
              by_cases c13 : x2 = (5 : Int32)
              · have hf := th hf c13
                rw [c13]
                refine lv_tableIn (tgt := 85) hx hb dX4_ofCitizen_13 (by decide) (by decide) (by rfl) (by decide) ?_
                refine lv_aload_n hx hb dX4_ofCitizen_85 rfl (lv_at hl 1 rfl) ?_
                refine lv_iload_n hx hb dX4_ofCitizen_86 rfl (lv_at hl 2 rfl) ?_
                obtain ⟨q14, h15, hf⟩ := bd hf
                refine k_roI (run_V (rest := []) (n := 1) C0 (tX4_slipsAhead (u := u) E B h15) gX4_ofCitizen_X4_slipsAhead rfl rfl (by decide +kernel) (hP 0 _ rfl) rfl rfl hP hl.1 rfl rfl (Nat.le_of_ble_eq_true rfl) dX4_ofCitizen_87) ?_
                exact e_roI C0 hf dX4_ofCitizen_90
              · have hf := el hf c13
                refine lv_tableOut (tgt := 91) hx hb dX4_ofCitizen_13 (by have q0 := lv_neT (a := 0) c5 (by decide); have q1 := lv_neT (a := 1) c6 (by decide); have q2 := lv_neT (a := 2) c7 (by decide); have q3 := lv_neT (a := 3) c8 (by decide); have q4 := lv_neT (a := 4) c10 (by decide); have q5 := lv_neT (a := 5) c13 (by decide); omega) (by decide) ?_
                refine lv_bipush (v := (-2 : Int32)) hx hb dX4_ofCitizen_91 (by decide) ?_
                exact e_roI C0 hf dX4_ofCitizen_93
set_option maxHeartbeats 4000000 in
set_option maxRecDepth 100000 in
theorem tX4_ofCitizen {l : Launch} (E : EE) (B : Nat → Nat) {u : SX} {x1 : Int32} {x2 : Int32} {out : Int32} (hf : fX4_ofCitizen x1 x2 u = some out) : roI l yX4_ofCitizen wsX4_ofCitizen rmX4_ofCitizen E [.ref (B 0), .int x1, .int x2] (fP E (cX E B u)) out := by
  refine Met.ofW (cc := cX4_ofCitizen) (maxL := 4) (ret := (some .int)) (by decide) rfl ?_
  intro p e s m args below meth c s₁ B0 hml hv
  obtain ⟨rfl, hP, hK⟩ := hv
  have C0 : cx wsX4_ofCitizen cX4_ofCitizen 4 (some .int) RX4 E p s m _ meth c := ⟨B0.exec, B0.bytes, B0.returns, hml, findClass_of_methodNamed B0.named, atoms_spec (ws := wsX4_ofCitizen) B0.pre, B0.notSynchronized, hK⟩
  have hl := lv_entry ([.ref (B 0), .int x1, .int x2]) (n := 4) (Nat.le_of_ble_eq_true rfl)
  rw [lg_entry_eq]
  generalize (lg_sl ([.ref (B 0), .int x1, .int x2]) ++ List.replicate (4 - (lg_sl ([.ref (B 0), .int x1, .int x2])).length) Slot.unset).toArray = ls at hl ⊢
  exact tX4_ofCitizen_0 C0 hP hl hf
abbrev rmX4_drawn : Room := { frames := 0, cells := 0, slots := 0, locals := 0 }
set_option maxRecDepth 20000 in
theorem iX4_drawn_X4 : ∀ w ∈ wsX40, w ∈ wsX4_drawn := by decide +kernel
set_option maxHeartbeats 4000000 in
set_option maxRecDepth 100000 in
theorem tX4_drawn_10 {p : Program} {l : Launch} {e : Env} {s : State} {m : MethodId} {args : Array Value} {below : List Frame} {meth : Method} {c : Code} {E : EE} {B : Nat → Nat} {A : Nat → Prop} {out : Int32 × SX} (C0 : cx wsX4_drawn cX4_drawn 3 (some .int) RX4 E p s m args meth c) {u : SX} {H : Heap} {locs : List Loc} {ls : Array Slot} (hW : WX E A B u s H locs) (hl : lv_has ls 3 []) (hf : fX4_drawn_10 u = some out) : W p l e rmX4_drawn s m args below meth c H locs 0 0 (MQ below (va_Qi (fun r (_ : Unit) => r = out.1) (fun _ t => QX E A B out.2 t.heap) A) args s 0 0 A) (F0 m 10 ls []) := by
  obtain ⟨hx, hb, hr, hml, hown, hts, hlk, hK⟩ := id C0
  unfold fX4_drawn_10 at hf
  refine lv_bipush (v := (-2 : Int32)) hx hb dX4_drawn_10 (by decide) ?_
  obtain rfl := Option.some.inj hf
  exact e_muI (QH := QX E A B u) C0 hW.2.2.2 rfl ⟨hW.1, hW.2.1, hW.2.2.1⟩ dX4_drawn_12
set_option maxHeartbeats 4000000 in
set_option maxRecDepth 100000 in
theorem tX4_drawn_0 {p : Program} {l : Launch} {e : Env} {s : State} {m : MethodId} {args : Array Value} {below : List Frame} {meth : Method} {c : Code} {E : EE} {B : Nat → Nat} {A : Nat → Prop} {out : Int32 × SX} (C0 : cx wsX4_drawn cX4_drawn 3 (some .int) RX4 E p s m args meth c) {x1 : Int32} {u : SX} {H : Heap} {locs : List Loc} {ls : Array Slot} (hW : WX E A B u s H locs) (hl : lv_has ls 3 [(0, .ref (B 0)), (1, .int x1)]) (hf : fX4_drawn x1 u = some out) : W p l e rmX4_drawn s m args below meth c H locs 0 0 (MQ below (va_Qi (fun r (_ : Unit) => r = out.1) (fun _ t => QX E A B out.2 t.heap) A) args s 0 0 A) (F0 m 0 ls []) := by
  obtain ⟨hx, hb, hr, hml, hown, hts, hlk, hK⟩ := id C0
  unfold fX4_drawn at hf
  refine lv_iload_n hx hb dX4_drawn_0 rfl (lv_at hl 1 rfl) ?_
  refine lv_if_lt (tgt := 10) hx hb dX4_drawn_1 (by decide) (fun c1 => ?_) (fun c1 => ?_)
  · have hf := th hf c1
    exact tX4_drawn_10 C0 hW (lv_sub hl [] rfl) hf
  · have hf := el hf c1
    refine lv_iload_n hx hb dX4_drawn_4 rfl (lv_at hl 1 rfl) ?_
    refine lv_bipush (v := (6 : Int32)) hx hb dX4_drawn_5 (by decide) ?_
    refine lv_icmp_le (tgt := 13) hx hb dX4_drawn_7 (by decide) (fun c2 => ?_) (fun c2 => ?_)
    · have hf := th hf c2
      refine lv_aload_n hx hb dX4_drawn_13 rfl (lv_at hl 0 rfl) ?_
      refine x_get C0 hW.1 iX4_drawn_X4 1 (by decide) (by decide +kernel) rfl dX4_drawn_14 ?_
      refine lv_if_ne (tgt := 23) hx hb dX4_drawn_17 (by decide) (fun c3 => ?_) (fun c3 => ?_)
      · have hf := el hf c3
        refine lv_aload_n hx hb dX4_drawn_23 rfl (lv_at hl 0 rfl) ?_
        refine x_get C0 hW.1 iX4_drawn_X4 2 (by decide) (by decide +kernel) rfl dX4_drawn_24 ?_
        refine lv_istore_n (lv' := [(2, .int (u.1 2)), (0, .ref (B 0)), (1, .int x1)]) hx hb dX4_drawn_27 rfl hl (by decide) rfl (fun ls hl => ?_)
        refine lv_aload_n hx hb dX4_drawn_28 rfl (lv_at hl 1 rfl) ?_
        refine lv_iload_n hx hb dX4_drawn_29 rfl (lv_at hl 2 rfl) ?_
        refine x_put C0 hW iX4_drawn_X4 2 (by decide) (by decide +kernel) rfl (by decide +kernel) rfl dX4_drawn_30 (fun H locs hW => ?_)
        have hW : WX E A B ((upd u.1 2 x1), u.2.1, u.2.2.1, u.2.2.2.1, u.2.2.2.2) s H locs := hW
        refine lv_iload_n hx hb dX4_drawn_33 rfl (lv_at hl 0 rfl) ?_
        obtain rfl := Option.some.inj hf
        exact e_muI (QH := QX E A B ((upd u.1 2 x1), u.2.1, u.2.2.1, u.2.2.2.1, u.2.2.2.2)) C0 hW.2.2.2 rfl ⟨hW.1, hW.2.1, hW.2.2.1⟩ dX4_drawn_34
      · have hf := th hf c3
        refine lv_bipush (v := (-3 : Int32)) hx hb dX4_drawn_20 (by decide) ?_
        obtain rfl := Option.some.inj hf
        exact e_muI (QH := QX E A B u) C0 hW.2.2.2 rfl ⟨hW.1, hW.2.1, hW.2.2.1⟩ dX4_drawn_22
    · have hf := el hf c2
      exact tX4_drawn_10 C0 hW (lv_sub hl [] rfl) hf
set_option maxHeartbeats 4000000 in
set_option maxRecDepth 100000 in
theorem tX4_drawn {l : Launch} (E : EE) (A : Nat → Prop) (B : Nat → Nat) {u : SX} {x1 : Int32} {out : Int32 × SX} (hI : fI (cX E B u)) (hA : AX E B u A) (hf : fX4_drawn x1 u = some out) : muI l yX4_drawn wsX4_drawn rmX4_drawn E [.ref (B 0), .int x1] A (fP E (cX E B u)) (QX E A B out.2) out.1 := by
  refine Met.ofW (cc := cX4_drawn) (maxL := 3) (ret := (some .int)) (by decide) rfl ?_
  intro p e s m args below meth c s₁ B0 hml hv
  obtain ⟨rfl, hP, hK⟩ := hv
  have C0 : cx wsX4_drawn cX4_drawn 3 (some .int) RX4 E p s m _ meth c := ⟨B0.exec, B0.bytes, B0.returns, hml, findClass_of_methodNamed B0.named, atoms_spec (ws := wsX4_drawn) B0.pre, B0.notSynchronized, hK⟩
  have hl := lv_entry ([.ref (B 0), .int x1]) (n := 3) (Nat.le_of_ble_eq_true rfl)
  rw [lg_entry_eq]
  generalize (lg_sl ([.ref (B 0), .int x1]) ++ List.replicate (3 - (lg_sl ([.ref (B 0), .int x1])).length) Slot.unset).toArray = ls at hl ⊢
  exact tX4_drawn_0 C0 ⟨hP, hI, hA, va_S.rf⟩ hl hf
abbrev rmX4_price : Room := { frames := 0, cells := 0, slots := 0, locals := 0 }
set_option maxRecDepth 20000 in
theorem iX4_price_X4 : ∀ w ∈ wsX40, w ∈ wsX4_price := by decide +kernel
set_option maxHeartbeats 4000000 in
set_option maxRecDepth 100000 in
theorem tX4_price_11 {p : Program} {l : Launch} {e : Env} {s : State} {m : MethodId} {args : Array Value} {below : List Frame} {meth : Method} {c : Code} {E : EE} {B : Nat → Nat} {A : Nat → Prop} {out : Int32 × SX} (C0 : cx wsX4_price cX4_price 3 (some .int) RX4 E p s m args meth c) {u : SX} {H : Heap} {locs : List Loc} {ls : Array Slot} (hW : WX E A B u s H locs) (hl : lv_has ls 3 []) (hf : fX4_price_11 u = some out) : W p l e rmX4_price s m args below meth c H locs 0 0 (MQ below (va_Qi (fun r (_ : Unit) => r = out.1) (fun _ t => QX E A B out.2 t.heap) A) args s 0 0 A) (F0 m 11 ls []) := by
  obtain ⟨hx, hb, hr, hml, hown, hts, hlk, hK⟩ := id C0
  unfold fX4_price_11 at hf
  refine lv_bipush (v := (-2 : Int32)) hx hb dX4_price_11 (by decide) ?_
  obtain rfl := Option.some.inj hf
  exact e_muI (QH := QX E A B u) C0 hW.2.2.2 rfl ⟨hW.1, hW.2.1, hW.2.2.1⟩ dX4_price_13
set_option maxHeartbeats 4000000 in
set_option maxRecDepth 100000 in
theorem tX4_price_0 {p : Program} {l : Launch} {e : Env} {s : State} {m : MethodId} {args : Array Value} {below : List Frame} {meth : Method} {c : Code} {E : EE} {B : Nat → Nat} {A : Nat → Prop} {out : Int32 × SX} (C0 : cx wsX4_price cX4_price 3 (some .int) RX4 E p s m args meth c) {x1 : Int32} {u : SX} {H : Heap} {locs : List Loc} {ls : Array Slot} (hW : WX E A B u s H locs) (hl : lv_has ls 3 [(0, .ref (B 0)), (1, .int x1)]) (hf : fX4_price x1 u = some out) : W p l e rmX4_price s m args below meth c H locs 0 0 (MQ below (va_Qi (fun r (_ : Unit) => r = out.1) (fun _ t => QX E A B out.2 t.heap) A) args s 0 0 A) (F0 m 0 ls []) := by
  obtain ⟨hx, hb, hr, hml, hown, hts, hlk, hK⟩ := id C0
  unfold fX4_price at hf
  refine lv_iload_n hx hb dX4_price_0 rfl (lv_at hl 1 rfl) ?_
  refine lv_iconst (v := (1 : Int32)) hx hb dX4_price_1 (by decide) ?_
  refine lv_icmp_lt (tgt := 11) hx hb dX4_price_2 (by decide) (fun c1 => ?_) (fun c1 => ?_)
  · have hf := th hf c1
    exact tX4_price_11 C0 hW (lv_sub hl [] rfl) hf
  · have hf := el hf c1
    refine lv_iload_n hx hb dX4_price_5 rfl (lv_at hl 1 rfl) ?_
    refine lv_bipush (v := (9 : Int32)) hx hb dX4_price_6 (by decide) ?_
    refine lv_icmp_le (tgt := 14) hx hb dX4_price_8 (by decide) (fun c2 => ?_) (fun c2 => ?_)
    · have hf := th hf c2
      refine lv_aload_n hx hb dX4_price_14 rfl (lv_at hl 0 rfl) ?_
      refine x_get C0 hW.1 iX4_price_X4 1 (by decide) (by decide +kernel) rfl dX4_price_15 ?_
      refine lv_if_ne (tgt := 24) hx hb dX4_price_18 (by decide) (fun c3 => ?_) (fun c3 => ?_)
      · have hf := el hf c3
        refine lv_aload_n hx hb dX4_price_24 rfl (lv_at hl 0 rfl) ?_
        refine x_get C0 hW.1 iX4_price_X4 3 (by decide) (by decide +kernel) rfl dX4_price_25 ?_
        refine lv_istore_n (lv' := [(2, .int (u.1 3)), (0, .ref (B 0)), (1, .int x1)]) hx hb dX4_price_28 rfl hl (by decide) rfl (fun ls hl => ?_)
        refine lv_aload_n hx hb dX4_price_29 rfl (lv_at hl 1 rfl) ?_
        refine lv_iload_n hx hb dX4_price_30 rfl (lv_at hl 2 rfl) ?_
        refine x_put C0 hW iX4_price_X4 3 (by decide) (by decide +kernel) rfl (by decide +kernel) rfl dX4_price_31 (fun H locs hW => ?_)
        have hW : WX E A B ((upd u.1 3 x1), u.2.1, u.2.2.1, u.2.2.2.1, u.2.2.2.2) s H locs := hW
        refine lv_iload_n hx hb dX4_price_34 rfl (lv_at hl 0 rfl) ?_
        obtain rfl := Option.some.inj hf
        exact e_muI (QH := QX E A B ((upd u.1 3 x1), u.2.1, u.2.2.1, u.2.2.2.1, u.2.2.2.2)) C0 hW.2.2.2 rfl ⟨hW.1, hW.2.1, hW.2.2.1⟩ dX4_price_35
      · have hf := th hf c3
        refine lv_bipush (v := (-3 : Int32)) hx hb dX4_price_21 (by decide) ?_
        obtain rfl := Option.some.inj hf
        exact e_muI (QH := QX E A B u) C0 hW.2.2.2 rfl ⟨hW.1, hW.2.1, hW.2.2.1⟩ dX4_price_23
    · have hf := el hf c2
      exact tX4_price_11 C0 hW (lv_sub hl [] rfl) hf
set_option maxHeartbeats 4000000 in
set_option maxRecDepth 100000 in
theorem tX4_price {l : Launch} (E : EE) (A : Nat → Prop) (B : Nat → Nat) {u : SX} {x1 : Int32} {out : Int32 × SX} (hI : fI (cX E B u)) (hA : AX E B u A) (hf : fX4_price x1 u = some out) : muI l yX4_price wsX4_price rmX4_price E [.ref (B 0), .int x1] A (fP E (cX E B u)) (QX E A B out.2) out.1 := by
  refine Met.ofW (cc := cX4_price) (maxL := 3) (ret := (some .int)) (by decide) rfl ?_
  intro p e s m args below meth c s₁ B0 hml hv
  obtain ⟨rfl, hP, hK⟩ := hv
  have C0 : cx wsX4_price cX4_price 3 (some .int) RX4 E p s m _ meth c := ⟨B0.exec, B0.bytes, B0.returns, hml, findClass_of_methodNamed B0.named, atoms_spec (ws := wsX4_price) B0.pre, B0.notSynchronized, hK⟩
  have hl := lv_entry ([.ref (B 0), .int x1]) (n := 3) (Nat.le_of_ble_eq_true rfl)
  rw [lg_entry_eq]
  generalize (lg_sl ([.ref (B 0), .int x1]) ++ List.replicate (3 - (lg_sl ([.ref (B 0), .int x1])).length) Slot.unset).toArray = ls at hl ⊢
  exact tX4_price_0 C0 ⟨hP, hI, hA, va_S.rf⟩ hl hf
abbrev rmX4_wish : Room := { frames := 1, cells := 0, slots := 0, locals := 21 }
set_option maxRecDepth 20000 in
theorem iX4_wish_X0 : ∀ w ∈ wsX00, w ∈ wsX4_wish := by decide +kernel
set_option maxHeartbeats 4000000 in
set_option maxRecDepth 100000 in
theorem tX4_wish_0 {p : Program} {l : Launch} {e : Env} {s : State} {m : MethodId} {args : Array Value} {below : List Frame} {meth : Method} {c : Code} {E : EE} {B : Nat → Nat} {A : Nat → Prop} {out : Int32 × SX} (C0 : cx wsX4_wish cX4_wish 4 (some .int) RX4 E p s m args meth c) {x1 : Int32} {x2 : Int32} {u : SX} {H : Heap} {locs : List Loc} {ls : Array Slot} (hW : WX E A B u s H locs) (hl : lv_has ls 4 [(0, .ref (B 0)), (1, .int x1), (2, .int x2)]) (hf : fX4_wish x1 x2 u = some out) : W p l e rmX4_wish s m args below meth c H locs 0 0 (MQ below (va_Qi (fun r (_ : Unit) => r = out.1) (fun _ t => QX E A B out.2 t.heap) A) args s 0 0 A) (F0 m 0 ls []) := by
  obtain ⟨hx, hb, hr, hml, hown, hts, hlk, hK⟩ := id C0
  unfold fX4_wish at hf
  refine lv_aload_n hx hb dX4_wish_0 rfl (lv_at hl 0 rfl) ?_
  refine lv_iload_n hx hb dX4_wish_1 rfl (lv_at hl 1 rfl) ?_
  obtain ⟨q1, h2, hf⟩ := bd hf
  refine k_roQ (run_V (rest := []) (n := 1) C0 (tX4_citizen (u := u) E B h2) gX4_wish_X4_citizen rfl rfl (by decide +kernel) (hW.1 0 _ rfl) rfl rfl hW.1 hl.1 rfl rfl (Nat.le_of_ble_eq_true rfl) dX4_wish_2) ?_
  cases q1 with
  | none =>
    rw [Option.elim_none] at hf
    refine W.eq (g2 := F0 m 5 ls [.null]) rfl ?_
    refine lv_astore_nN (lv' := [(3, .null), (0, .ref (B 0)), (1, .int x1), (2, .int x2)]) hx hb dX4_wish_5 rfl hl (by decide) rfl (fun ls hl => ?_)
    refine lv_aload_nN hx hb dX4_wish_6 rfl (lv_at hl 0 rfl) ?_
    refine lv_ifnonnullN hx hb dX4_wish_7 ?_
    refine lv_iconst (v := (-1 : Int32)) hx hb dX4_wish_10 (by decide) ?_
    obtain rfl := Option.some.inj hf
    exact e_muI (QH := QX E A B u) C0 hW.2.2.2 rfl ⟨hW.1, hW.2.1, hW.2.2.1⟩ dX4_wish_11
  | some k3 =>
    rw [Option.elim_some] at hf
    obtain ⟨h4, hf⟩ := gd hf
    refine W.eq (g2 := F0 m 5 ls [.ref (B (8 + k3))]) rfl ?_
    refine lv_astore_n (lv' := [(3, .ref (B (8 + k3))), (0, .ref (B 0)), (1, .int x1), (2, .int x2)]) hx hb dX4_wish_5 rfl hl (by decide) rfl (fun ls hl => ?_)
    refine lv_aload_n hx hb dX4_wish_6 rfl (lv_at hl 0 rfl) ?_
    refine lv_ifnonnull (tgt := 12) hx hb dX4_wish_7 (by decide) ?_
    refine lv_aload_n hx hb dX4_wish_12 rfl (lv_at hl 0 rfl) ?_
    refine c_getN C0 (hW.1.cit (Decidable.of_not_not h4)) iX4_wish_X0 3 (by decide) (by decide +kernel) rfl dX4_wish_13 ?_
    refine lv_iload_n hx hb dX4_wish_16 rfl (lv_at hl 3 rfl) ?_
    refine lv_icmp_ne (tgt := 22) hx hb dX4_wish_17 (by decide) (fun c5 => ?_) (fun c5 => ?_)
    · have hf := el hf c5
      refine lv_aload_n hx hb dX4_wish_22 rfl (lv_at hl 0 rfl) ?_
      refine lv_iload_n hx hb dX4_wish_23 rfl (lv_at hl 3 rfl) ?_
      obtain ⟨h6, hf⟩ := gd hf
      refine x_putCZ C0 hW (Decidable.of_not_not h4) iX4_wish_X0 (Decidable.of_not_not h6) 3 (by decide) (by decide +kernel) (by decide +kernel) rfl (fun _ => rfl) dX4_wish_24 (fun H locs hW => ?_)
      have hW : WX E A B (u.1, u.2.1, (va_up u.2.2.1 k3 (upd (u.2.2.1 k3) 3 x2)), u.2.2.2.1, u.2.2.2.2) s H locs := hW
      refine lv_iconst (v := (1 : Int32)) hx hb dX4_wish_27 (by decide) ?_
      obtain rfl := Option.some.inj hf
      exact e_muI (QH := QX E A B (u.1, u.2.1, (va_up u.2.2.1 k3 (upd (u.2.2.1 k3) 3 x2)), u.2.2.2.1, u.2.2.2.2)) C0 hW.2.2.2 rfl ⟨hW.1, hW.2.1, hW.2.2.1⟩ dX4_wish_28
    · have hf := th hf c5
      refine lv_iconst (v := (0 : Int32)) hx hb dX4_wish_20 (by decide) ?_
      obtain rfl := Option.some.inj hf
      exact e_muI (QH := QX E A B u) C0 hW.2.2.2 rfl ⟨hW.1, hW.2.1, hW.2.2.1⟩ dX4_wish_21
set_option maxHeartbeats 4000000 in
set_option maxRecDepth 100000 in
theorem tX4_wish {l : Launch} (E : EE) (A : Nat → Prop) (B : Nat → Nat) {u : SX} {x1 : Int32} {x2 : Int32} {out : Int32 × SX} (hI : fI (cX E B u)) (hA : AX E B u A) (hf : fX4_wish x1 x2 u = some out) : muI l yX4_wish wsX4_wish rmX4_wish E [.ref (B 0), .int x1, .int x2] A (fP E (cX E B u)) (QX E A B out.2) out.1 := by
  refine Met.ofW (cc := cX4_wish) (maxL := 4) (ret := (some .int)) (by decide) rfl ?_
  intro p e s m args below meth c s₁ B0 hml hv
  obtain ⟨rfl, hP, hK⟩ := hv
  have C0 : cx wsX4_wish cX4_wish 4 (some .int) RX4 E p s m _ meth c := ⟨B0.exec, B0.bytes, B0.returns, hml, findClass_of_methodNamed B0.named, atoms_spec (ws := wsX4_wish) B0.pre, B0.notSynchronized, hK⟩
  have hl := lv_entry ([.ref (B 0), .int x1, .int x2]) (n := 4) (Nat.le_of_ble_eq_true rfl)
  rw [lg_entry_eq]
  generalize (lg_sl ([.ref (B 0), .int x1, .int x2]) ++ List.replicate (4 - (lg_sl ([.ref (B 0), .int x1, .int x2])).length) Slot.unset).toArray = ls at hl ⊢
  exact tX4_wish_0 C0 ⟨hP, hI, hA, va_S.rf⟩ hl hf
abbrev rmX4_ownerOf : Room := { frames := 2, cells := 0, slots := 0, locals := 42 }
set_option maxRecDepth 20000 in
theorem iX4_ownerOf_X4 : ∀ w ∈ wsX40, w ∈ wsX4_ownerOf := by decide +kernel
set_option maxHeartbeats 4000000 in
set_option maxRecDepth 100000 in
theorem tX4_ownerOf_39 {p : Program} {l : Launch} {e : Env} {s : State} {m : MethodId} {args : Array Value} {below : List Frame} {meth : Method} {c : Code} {E : EE} {B : Nat → Nat} {u : SX} {out : Int32} {c4 : Int32 → Int32 → Int32 → SX → Option (Int32)} (C0 : cx wsX4_ownerOf cX4_ownerOf 5 (some .int) RX4 E p s m args meth c) (hP : fP E (cX E B u) s.heap) (hc4 : ∀ (x1 : Int32) (x2 : Int32) (x3 : Int32) (ls : Array Slot), lv_has ls 5 [(0, .ref (B 0)), (1, .int x1), (2, .int x2), (3, .int x3)] → c4 x1 x2 x3 u = some out → W p l e rmX4_ownerOf s m args below meth c s.heap [] 0 0 (MQ below (vp_Si (fun r => r = out)) args s 0 0 (fun _ => False)) (F0 m 4 ls [])) {x1 : Int32} {x3 : Int32} {xs0 : Int32} {xs1 : Int32} {ls : Array Slot} (hl : lv_has ls 5 [(0, .ref (B 0)), (1, .int x1), (3, .int x3)]) (hf : fX4_ownerOf_39 c4 x1 x3 xs0 xs1 u = some out) : W p l e rmX4_ownerOf s m args below meth c s.heap [] 0 0 (MQ below (vp_Si (fun r => r = out)) args s 0 0 (fun _ => False)) (F0 m 39 ls [.int xs1, .int xs0]) := by
  obtain ⟨hx, hb, hr, hml, hown, hts, hlk, hK⟩ := id C0
  unfold fX4_ownerOf_39 at hf
  refine lv_iadd hx hb dX4_ownerOf_39 ?_
  refine lv_istore_n (lv' := [(2, .int (xs0 + xs1)), (0, .ref (B 0)), (1, .int x1), (3, .int x3)]) hx hb dX4_ownerOf_40 rfl hl (by decide) rfl (fun ls hl => ?_)
  refine lv_iload_n hx hb dX4_ownerOf_41 rfl (lv_at hl 2 rfl) ?_
  refine lv_iload_n hx hb dX4_ownerOf_42 rfl (lv_at hl 0 rfl) ?_
  refine lv_icmp_ge (tgt := 48) hx hb dX4_ownerOf_43 (by decide) (fun c1 => ?_) (fun c1 => ?_)
  · have hf := th hf c1
    refine lv_iinc (v := (x3 + (1 : Int32))) (lv' := [(3, .int (x3 + (1 : Int32))), (2, .int (xs0 + xs1)), (0, .ref (B 0)), (1, .int x1)]) hx hb dX4_ownerOf_48 hl (k := 3) rfl rfl (by decide) rfl (fun ls hl => ?_)
    refine lv_goto (tgt := 4) hx hb dX4_ownerOf_51 (by decide) ?_
    exact hc4 _ _ _ _ (lv_sub hl [2, 3, 1, 0] rfl) hf
  · have hf := el hf c1
    refine lv_iload_n hx hb dX4_ownerOf_46 rfl (lv_at hl 3 rfl) ?_
    exact e_roI C0 hf dX4_ownerOf_47
set_option maxHeartbeats 4000000 in
set_option maxRecDepth 100000 in
theorem tX4_ownerOf_54 {p : Program} {l : Launch} {e : Env} {s : State} {m : MethodId} {args : Array Value} {below : List Frame} {meth : Method} {c : Code} {E : EE} {B : Nat → Nat} {u : SX} {out : Int32} (C0 : cx wsX4_ownerOf cX4_ownerOf 5 (some .int) RX4 E p s m args meth c) (hP : fP E (cX E B u) s.heap) {ls : Array Slot} (hl : lv_has ls 5 []) (hf : fX4_ownerOf_54 u = some out) : W p l e rmX4_ownerOf s m args below meth c s.heap [] 0 0 (MQ below (vp_Si (fun r => r = out)) args s 0 0 (fun _ => False)) (F0 m 54 ls []) := by
  obtain ⟨hx, hb, hr, hml, hown, hts, hlk, hK⟩ := id C0
  unfold fX4_ownerOf_54 at hf
  refine lv_bipush (v := (-9 : Int32)) hx hb dX4_ownerOf_54 (by decide) ?_
  exact e_roI C0 hf dX4_ownerOf_56
set_option maxHeartbeats 4000000 in
set_option maxRecDepth 100000 in
theorem tX4_ownerOf_4 {p : Program} {l : Launch} {e : Env} {s : State} {m : MethodId} {args : Array Value} {below : List Frame} {meth : Method} {c : Code} {E : EE} {B : Nat → Nat} {u : SX} {out : Int32} (C0 : cx wsX4_ownerOf cX4_ownerOf 5 (some .int) RX4 E p s m args meth c) (hP : fP E (cX E B u) s.heap) : ∀ (n : Nat) (x1 : Int32) (x2 : Int32) (x3 : Int32) (ls : Array Slot), lv_has ls 5 [(0, .ref (B 0)), (1, .int x1), (2, .int x2), (3, .int x3)] → fX4_ownerOf_4 n x1 x2 x3 u = some out → W p l e rmX4_ownerOf s m args below meth c s.heap [] 0 0 (MQ below (vp_Si (fun r => r = out)) args s 0 0 (fun _ => False)) (F0 m 4 ls []) := by
  obtain ⟨hx, hb, hr, hml, hown, hts, hlk, hK⟩ := id C0
  intro n
  induction n with
  | zero =>
    intro x1 x2 x3 ls hl hf
    cases (show none = some out from hf)
  | succ n ih =>
    intro x1 x2 x3 ls hl hf
    rw [fX4_ownerOf_4] at hf
    refine lv_iload_n hx hb dX4_ownerOf_4 rfl (lv_at hl 3 rfl) ?_
    refine lv_aload_n hx hb dX4_ownerOf_5 rfl (lv_at hl 0 rfl) ?_
    refine x_get C0 hP iX4_ownerOf_X4 1 (by decide) (by decide +kernel) rfl dX4_ownerOf_6 ?_
    refine lv_icmp_ge (tgt := 54) hx hb dX4_ownerOf_9 (by decide) (fun c1 => ?_) (fun c1 => ?_)
    · have hf := th hf c1
      exact tX4_ownerOf_54 C0 hP (lv_sub hl [] rfl) hf
    · have hf := el hf c1
      refine lv_iload_n hx hb dX4_ownerOf_12 rfl (lv_at hl 1 rfl) ?_
      refine lv_iload_n hx hb dX4_ownerOf_13 rfl (lv_at hl 2 rfl) ?_
      refine lv_icmp_lt (tgt := 54) hx hb dX4_ownerOf_14 (by decide) (fun c2 => ?_) (fun c2 => ?_)
      · have hf := th hf c2
        exact tX4_ownerOf_54 C0 hP (lv_sub hl [] rfl) hf
      · have hf := el hf c2
        refine lv_aload_n hx hb dX4_ownerOf_17 rfl (lv_at hl 0 rfl) ?_
        refine lv_iload_n hx hb dX4_ownerOf_18 rfl (lv_at hl 3 rfl) ?_
        obtain ⟨q3, h4, hf⟩ := bd hf
        refine k_roQ (run_V (rest := []) (n := 1) C0 (tX4_citizen (u := u) E B h4) gX4_ownerOf_X4_citizen rfl rfl (by decide +kernel) (hP 0 _ rfl) rfl rfl hP hl.1 rfl rfl (Nat.le_of_ble_eq_true rfl) dX4_ownerOf_19) ?_
        cases q3 with
        | none =>
          rw [Option.elim_none] at hf
          refine W.eq (g2 := F0 m 22 ls [.null]) rfl ?_
          refine lv_astoreN (lv' := [(4, .null), (0, .ref (B 0)), (1, .int x1), (2, .int x2), (3, .int x3)]) hx hb dX4_ownerOf_22 hl (by decide) rfl (fun ls hl => ?_)
          refine lv_iload_n hx hb dX4_ownerOf_24 rfl (lv_at hl 3 rfl) ?_
          refine lv_aloadN hx hb dX4_ownerOf_25 (lv_at hl 0 rfl) ?_
          refine lv_ifnonnullN hx hb dX4_ownerOf_27 ?_
          refine lv_iconst (v := (0 : Int32)) hx hb dX4_ownerOf_30 (by decide) ?_
          refine lv_goto (tgt := 39) hx hb dX4_ownerOf_31 (by decide) ?_
          exact tX4_ownerOf_39 C0 hP ih (lv_sub hl [1, 2, 4] rfl) hf
        | some k5 =>
          rw [Option.elim_some] at hf
          obtain ⟨h6, hf⟩ := gd hf
          refine W.eq (g2 := F0 m 22 ls [.ref (B (8 + k5))]) rfl ?_
          refine lv_astore (lv' := [(4, .ref (B (8 + k5))), (0, .ref (B 0)), (1, .int x1), (2, .int x2), (3, .int x3)]) hx hb dX4_ownerOf_22 hl (by decide) rfl (fun ls hl => ?_)
          refine lv_iload_n hx hb dX4_ownerOf_24 rfl (lv_at hl 3 rfl) ?_
          refine lv_aload hx hb dX4_ownerOf_25 (lv_at hl 0 rfl) ?_
          refine lv_ifnonnull (tgt := 34) hx hb dX4_ownerOf_27 (by decide) ?_
          refine lv_aload hx hb dX4_ownerOf_34 (lv_at hl 0 rfl) ?_
          obtain ⟨q7, h8, hf⟩ := bd hf
          refine k_roI (run_VN (rest := [.int x2]) (n := 0) C0 (tX0_slips E (B (8 + k5)) h8) gX4_ownerOf_X0_slips_n89 rfl (by decide +kernel) (by decide +kernel) (by decide +kernel) (by decide +kernel) rfl (by decide +kernel) (hP.cit (Decidable.of_not_not h6) 0 _ rfl) rfl rfl (hP.cit (Decidable.of_not_not h6)) hl.1 rfl rfl (Nat.le_of_ble_eq_true rfl) dX4_ownerOf_36) ?_
          exact tX4_ownerOf_39 C0 hP ih (lv_sub hl [1, 2, 4] rfl) hf
set_option maxHeartbeats 4000000 in
set_option maxRecDepth 100000 in
theorem tX4_ownerOf_0 {p : Program} {l : Launch} {e : Env} {s : State} {m : MethodId} {args : Array Value} {below : List Frame} {meth : Method} {c : Code} {E : EE} {B : Nat → Nat} {u : SX} {out : Int32} (C0 : cx wsX4_ownerOf cX4_ownerOf 5 (some .int) RX4 E p s m args meth c) (hP : fP E (cX E B u) s.heap) {x1 : Int32} {ls : Array Slot} (hl : lv_has ls 5 [(0, .ref (B 0)), (1, .int x1)]) (hf : fX4_ownerOf x1 u = some out) : W p l e rmX4_ownerOf s m args below meth c s.heap [] 0 0 (MQ below (vp_Si (fun r => r = out)) args s 0 0 (fun _ => False)) (F0 m 0 ls []) := by
  obtain ⟨hx, hb, hr, hml, hown, hts, hlk, hK⟩ := id C0
  unfold fX4_ownerOf at hf
  refine lv_iconst (v := (0 : Int32)) hx hb dX4_ownerOf_0 (by decide) ?_
  refine lv_istore_n (lv' := [(2, .int (0 : Int32)), (0, .ref (B 0)), (1, .int x1)]) hx hb dX4_ownerOf_1 rfl hl (by decide) rfl (fun ls hl => ?_)
  refine lv_iconst (v := (0 : Int32)) hx hb dX4_ownerOf_2 (by decide) ?_
  refine lv_istore_n (lv' := [(3, .int (0 : Int32)), (2, .int (0 : Int32)), (0, .ref (B 0)), (1, .int x1)]) hx hb dX4_ownerOf_3 rfl hl (by decide) rfl (fun ls hl => ?_)
  exact tX4_ownerOf_4 C0 hP fu _ _ _ _ (lv_sub hl [2, 3, 1, 0] rfl) hf
set_option maxHeartbeats 4000000 in
set_option maxRecDepth 100000 in
theorem tX4_ownerOf {l : Launch} (E : EE) (B : Nat → Nat) {u : SX} {x1 : Int32} {out : Int32} (hf : fX4_ownerOf x1 u = some out) : roI l yX4_ownerOf wsX4_ownerOf rmX4_ownerOf E [.ref (B 0), .int x1] (fP E (cX E B u)) out := by
  refine Met.ofW (cc := cX4_ownerOf) (maxL := 5) (ret := (some .int)) (by decide) rfl ?_
  intro p e s m args below meth c s₁ B0 hml hv
  obtain ⟨rfl, hP, hK⟩ := hv
  have C0 : cx wsX4_ownerOf cX4_ownerOf 5 (some .int) RX4 E p s m _ meth c := ⟨B0.exec, B0.bytes, B0.returns, hml, findClass_of_methodNamed B0.named, atoms_spec (ws := wsX4_ownerOf) B0.pre, B0.notSynchronized, hK⟩
  have hl := lv_entry ([.ref (B 0), .int x1]) (n := 5) (Nat.le_of_ble_eq_true rfl)
  rw [lg_entry_eq]
  generalize (lg_sl ([.ref (B 0), .int x1]) ++ List.replicate (5 - (lg_sl ([.ref (B 0), .int x1])).length) Slot.unset).toArray = ls at hl ⊢
  exact tX4_ownerOf_0 C0 hP hl hf
abbrev rmX4_firstWrong : Room := { frames := 3, cells := 0, slots := 0, locals := 66 }
set_option maxHeartbeats 4000000 in
set_option maxRecDepth 100000 in
theorem tX4_firstWrong_42 {p : Program} {l : Launch} {e : Env} {s : State} {m : MethodId} {args : Array Value} {below : List Frame} {meth : Method} {c : Code} {E : EE} {B : Nat → Nat} {u : SX} {out : Int32} (C0 : cx wsX4_firstWrong cX4_firstWrong 6 (some .int) RX4 E p s m args meth c) (hP : fP E (cX E B u) s.heap) {x4 : Int32} {ls : Array Slot} (hl : lv_has ls 6 [(4, .int x4)]) (hf : fX4_firstWrong_42 x4 u = some out) : W p l e rmX4_firstWrong s m args below meth c s.heap [] 0 0 (MQ below (vp_Si (fun r => r = out)) args s 0 0 (fun _ => False)) (F0 m 42 ls []) := by
  obtain ⟨hx, hb, hr, hml, hown, hts, hlk, hK⟩ := id C0
  unfold fX4_firstWrong_42 at hf
  refine lv_iload hx hb dX4_firstWrong_42 (lv_at hl 0 rfl) ?_
  exact e_roI C0 hf dX4_firstWrong_44
set_option maxHeartbeats 4000000 in
set_option maxRecDepth 100000 in
theorem tX4_firstWrong_3 {p : Program} {l : Launch} {e : Env} {s : State} {m : MethodId} {args : Array Value} {below : List Frame} {meth : Method} {c : Code} {E : EE} {B : Nat → Nat} {u : SX} {out : Int32} (C0 : cx wsX4_firstWrong cX4_firstWrong 6 (some .int) RX4 E p s m args meth c) (hP : fP E (cX E B u) s.heap) : ∀ (n : Nat) (k1 : Nat) (x2 : Int32) (x3 : Int32) (x4 : Int32) (ls : Array Slot) (hk1 : k1 < 4), lv_has ls 6 [(0, .ref (B 0)), (1, .ref (B (14 + k1))), (2, .int x2), (3, .int x3), (4, .int x4)] → fX4_firstWrong_3 n k1 x2 x3 x4 u = some out → W p l e rmX4_firstWrong s m args below meth c s.heap [] 0 0 (MQ below (vp_Si (fun r => r = out)) args s 0 0 (fun _ => False)) (F0 m 3 ls []) := by
  obtain ⟨hx, hb, hr, hml, hown, hts, hlk, hK⟩ := id C0
  intro n
  induction n with
  | zero =>
    intro k1 x2 x3 x4 ls hk1 hl hf
    cases (show none = some out from hf)
  | succ n ih =>
    intro k1 x2 x3 x4 ls hk1 hl hf
    rw [fX4_firstWrong_3] at hf
    refine lv_iload hx hb dX4_firstWrong_3 (lv_at hl 4 rfl) ?_
    refine lv_iload_n hx hb dX4_firstWrong_5 rfl (lv_at hl 3 rfl) ?_
    refine lv_icmp_ge (tgt := 51) hx hb dX4_firstWrong_6 (by decide) (fun c1 => ?_) (fun c1 => ?_)
    · have hf := th hf c1
      refine lv_bipush (v := (-9 : Int32)) hx hb dX4_firstWrong_51 (by decide) ?_
      exact e_roI C0 hf dX4_firstWrong_53
    · have hf := el hf c1
      refine lv_aload_n hx hb dX4_firstWrong_9 rfl (lv_at hl 1 rfl) ?_
      refine lv_iload_n hx hb dX4_firstWrong_10 rfl (lv_at hl 2 rfl) ?_
      refine lv_iload hx hb dX4_firstWrong_11 (lv_at hl 4 rfl) ?_
      refine lv_iadd hx hb dX4_firstWrong_13 ?_
      obtain ⟨q2, h3, hf⟩ := bd hf
      refine k_roI (run_VN (rest := []) (n := 1) C0 (tX2_at E (B (14 + k1)) (B (18 + k1)) h3) gX4_firstWrong_X2_at_n186 rfl (by decide +kernel) (by decide +kernel) (by decide +kernel) (by decide +kernel) rfl (by decide +kernel) (hP.row hk1 0 _ rfl) rfl rfl (hP.row hk1) hl.1 rfl rfl (Nat.le_of_ble_eq_true rfl) dX4_firstWrong_14) ?_
      refine lv_istore (lv' := [(5, .int q2), (0, .ref (B 0)), (1, .ref (B (14 + k1))), (2, .int x2), (3, .int x3), (4, .int x4)]) hx hb dX4_firstWrong_17 hl (by decide) rfl (fun ls hl => ?_)
      refine lv_aload_n hx hb dX4_firstWrong_19 rfl (lv_at hl 1 rfl) ?_
      refine lv_iload hx hb dX4_firstWrong_20 (lv_at hl 0 rfl) ?_
      obtain ⟨q4, h5, hf⟩ := bd hf
      refine k_roI (run_V (rest := []) (n := 1) C0 (tX4_ownerOf (u := u) E B h5) gX4_firstWrong_X4_ownerOf rfl rfl (by decide +kernel) (hP 0 _ rfl) rfl rfl hP hl.1 rfl rfl (Nat.le_of_ble_eq_true rfl) dX4_firstWrong_22) ?_
      refine lv_bipush (v := (-9 : Int32)) hx hb dX4_firstWrong_25 (by decide) ?_
      refine lv_icmp_eq (tgt := 42) hx hb dX4_firstWrong_27 (by decide) (fun c6 => ?_) (fun c6 => ?_)
      · have hf := th hf c6
        exact tX4_firstWrong_42 C0 hP (lv_sub hl [5] rfl) hf
      · have hf := el hf c6
        refine lv_aload_n hx hb dX4_firstWrong_30 rfl (lv_at hl 2 rfl) ?_
        refine lv_iload hx hb dX4_firstWrong_31 (lv_at hl 0 rfl) ?_
        refine lv_iload_n hx hb dX4_firstWrong_33 rfl (lv_at hl 3 rfl) ?_
        refine lv_iload hx hb dX4_firstWrong_34 (lv_at hl 5 rfl) ?_
        obtain ⟨q7, h8, hf⟩ := bd hf
        refine k_roI (run_VN (rest := []) (n := 3) C0 (tX2_has E (B (14 + k1)) (B (18 + k1)) h8) gX4_firstWrong_X2_has_n232 rfl (by decide +kernel) (by decide +kernel) (by decide +kernel) (by decide +kernel) rfl (by decide +kernel) (hP.row hk1 0 _ rfl) rfl rfl (hP.row hk1) hl.1 rfl rfl (Nat.le_of_ble_eq_true rfl) dX4_firstWrong_36) ?_
        refine lv_if_eq (tgt := 45) hx hb dX4_firstWrong_39 (by decide) (fun c9 => ?_) (fun c9 => ?_)
        · have hf := th hf c9
          refine lv_iinc (v := (x4 + (1 : Int32))) (lv' := [(4, .int (x4 + (1 : Int32))), (5, .int q2), (0, .ref (B 0)), (1, .ref (B (14 + k1))), (2, .int x2), (3, .int x3)]) hx hb dX4_firstWrong_45 hl (k := 5) rfl rfl (by decide) rfl (fun ls hl => ?_)
          refine lv_goto (tgt := 3) hx hb dX4_firstWrong_48 (by decide) ?_
          exact ih _ _ _ _ _ hk1 (lv_sub hl [2, 3, 4, 5, 0] rfl) hf
        · have hf := el hf c9
          exact tX4_firstWrong_42 C0 hP (lv_sub hl [5] rfl) hf
set_option maxHeartbeats 4000000 in
set_option maxRecDepth 100000 in
theorem tX4_firstWrong_0 {p : Program} {l : Launch} {e : Env} {s : State} {m : MethodId} {args : Array Value} {below : List Frame} {meth : Method} {c : Code} {E : EE} {B : Nat → Nat} {u : SX} {out : Int32} (C0 : cx wsX4_firstWrong cX4_firstWrong 6 (some .int) RX4 E p s m args meth c) (hP : fP E (cX E B u) s.heap) {k1 : Nat} {x2 : Int32} {x3 : Int32} {ls : Array Slot} (hk1 : k1 < 4) (hl : lv_has ls 6 [(0, .ref (B 0)), (1, .ref (B (14 + k1))), (2, .int x2), (3, .int x3)]) (hf : fX4_firstWrong k1 x2 x3 u = some out) : W p l e rmX4_firstWrong s m args below meth c s.heap [] 0 0 (MQ below (vp_Si (fun r => r = out)) args s 0 0 (fun _ => False)) (F0 m 0 ls []) := by
  obtain ⟨hx, hb, hr, hml, hown, hts, hlk, hK⟩ := id C0
  unfold fX4_firstWrong at hf
  refine lv_iconst (v := (0 : Int32)) hx hb dX4_firstWrong_0 (by decide) ?_
  refine lv_istore (lv' := [(4, .int (0 : Int32)), (0, .ref (B 0)), (1, .ref (B (14 + k1))), (2, .int x2), (3, .int x3)]) hx hb dX4_firstWrong_1 hl (by decide) rfl (fun ls hl => ?_)
  exact tX4_firstWrong_3 C0 hP fu _ _ _ _ _ hk1 (lv_sub hl [1, 2, 3, 4, 0] rfl) hf
set_option maxHeartbeats 4000000 in
set_option maxRecDepth 100000 in
theorem tX4_firstWrong {l : Launch} (E : EE) (B : Nat → Nat) {u : SX} {k1 : Nat} {x2 : Int32} {x3 : Int32} {out : Int32} (hk1 : k1 < 4) (hf : fX4_firstWrong k1 x2 x3 u = some out) : roI l yX4_firstWrong wsX4_firstWrong rmX4_firstWrong E [.ref (B 0), .ref (B (14 + k1)), .int x2, .int x3] (fP E (cX E B u)) out := by
  refine Met.ofW (cc := cX4_firstWrong) (maxL := 6) (ret := (some .int)) (by decide) rfl ?_
  intro p e s m args below meth c s₁ B0 hml hv
  obtain ⟨rfl, hP, hK⟩ := hv
  have C0 : cx wsX4_firstWrong cX4_firstWrong 6 (some .int) RX4 E p s m _ meth c := ⟨B0.exec, B0.bytes, B0.returns, hml, findClass_of_methodNamed B0.named, atoms_spec (ws := wsX4_firstWrong) B0.pre, B0.notSynchronized, hK⟩
  have hl := lv_entry ([.ref (B 0), .ref (B (14 + k1)), .int x2, .int x3]) (n := 6) (Nat.le_of_ble_eq_true rfl)
  rw [lg_entry_eq]
  generalize (lg_sl ([.ref (B 0), .ref (B (14 + k1)), .int x2, .int x3]) ++ List.replicate (6 - (lg_sl ([.ref (B 0), .ref (B (14 + k1)), .int x2, .int x3])).length) Slot.unset).toArray = ls at hl ⊢
  exact tX4_firstWrong_0 C0 hP hk1 hl hf
abbrev rmX4_rulersBy : Room := { frames := 3, cells := 0, slots := 0, locals := 66 }
set_option maxRecDepth 20000 in
theorem iX4_rulersBy_X4 : ∀ w ∈ wsX40, w ∈ wsX4_rulersBy := by decide +kernel
set_option maxHeartbeats 4000000 in
set_option maxRecDepth 100000 in
theorem tX4_rulersBy_51 {p : Program} {l : Launch} {e : Env} {s : State} {m : MethodId} {args : Array Value} {below : List Frame} {meth : Method} {c : Code} {E : EE} {B : Nat → Nat} {u : SX} {out : Int32} {c13 : Nat → Int32 → Int32 → Int32 → Int32 → SX → Option (Int32)} (C0 : cx wsX4_rulersBy cX4_rulersBy 7 (some .int) RX4 E p s m args meth c) (hP : fP E (cX E B u) s.heap) (hc13 : ∀ (k1 : Nat) (x2 : Int32) (x3 : Int32) (x4 : Int32) (x5 : Int32) (ls : Array Slot) (hk1 : k1 < 4), lv_has ls 7 [(0, .ref (B 0)), (1, .ref (B (14 + k1))), (2, .int x2), (3, .int x3), (4, .int x4), (5, .int x5)] → c13 k1 x2 x3 x4 x5 u = some out → W p l e rmX4_rulersBy s m args below meth c s.heap [] 0 0 (MQ below (vp_Si (fun r => r = out)) args s 0 0 (fun _ => False)) (F0 m 13 ls [])) {k1 : Nat} {x2 : Int32} {x3 : Int32} {x4 : Int32} {x5 : Int32} {ls : Array Slot} (hk1 : k1 < 4) (hl : lv_has ls 7 [(0, .ref (B 0)), (1, .ref (B (14 + k1))), (2, .int x2), (3, .int x3), (4, .int x4), (5, .int x5)]) (hf : fX4_rulersBy_51 c13 k1 x2 x3 x4 x5 u = some out) : W p l e rmX4_rulersBy s m args below meth c s.heap [] 0 0 (MQ below (vp_Si (fun r => r = out)) args s 0 0 (fun _ => False)) (F0 m 51 ls []) := by
  obtain ⟨hx, hb, hr, hml, hown, hts, hlk, hK⟩ := id C0
  unfold fX4_rulersBy_51 at hf
  refine lv_iinc (v := (x5 + (1 : Int32))) (lv' := [(5, .int (x5 + (1 : Int32))), (0, .ref (B 0)), (1, .ref (B (14 + k1))), (2, .int x2), (3, .int x3), (4, .int x4)]) hx hb dX4_rulersBy_51 hl (k := 5) rfl rfl (by decide) rfl (fun ls hl => ?_)
  refine lv_goto (tgt := 13) hx hb dX4_rulersBy_54 (by decide) ?_
  exact hc13 _ _ _ _ _ _ hk1 (lv_sub hl [1, 2, 3, 4, 5, 0] rfl) hf
set_option maxHeartbeats 4000000 in
set_option maxRecDepth 100000 in
theorem tX4_rulersBy_13 {p : Program} {l : Launch} {e : Env} {s : State} {m : MethodId} {args : Array Value} {below : List Frame} {meth : Method} {c : Code} {E : EE} {B : Nat → Nat} {u : SX} {out : Int32} (C0 : cx wsX4_rulersBy cX4_rulersBy 7 (some .int) RX4 E p s m args meth c) (hP : fP E (cX E B u) s.heap) : ∀ (n : Nat) (k1 : Nat) (x2 : Int32) (x3 : Int32) (x4 : Int32) (x5 : Int32) (ls : Array Slot) (hk1 : k1 < 4), lv_has ls 7 [(0, .ref (B 0)), (1, .ref (B (14 + k1))), (2, .int x2), (3, .int x3), (4, .int x4), (5, .int x5)] → fX4_rulersBy_13 n k1 x2 x3 x4 x5 u = some out → W p l e rmX4_rulersBy s m args below meth c s.heap [] 0 0 (MQ below (vp_Si (fun r => r = out)) args s 0 0 (fun _ => False)) (F0 m 13 ls []) := by
  obtain ⟨hx, hb, hr, hml, hown, hts, hlk, hK⟩ := id C0
  intro n
  induction n with
  | zero =>
    intro k1 x2 x3 x4 x5 ls hk1 hl hf
    cases (show none = some out from hf)
  | succ n ih =>
    intro k1 x2 x3 x4 x5 ls hk1 hl hf
    rw [fX4_rulersBy_13] at hf
    refine lv_iload hx hb dX4_rulersBy_13 (lv_at hl 5 rfl) ?_
    refine lv_iload_n hx hb dX4_rulersBy_15 rfl (lv_at hl 3 rfl) ?_
    refine lv_icmp_ge (tgt := 57) hx hb dX4_rulersBy_16 (by decide) (fun c1 => ?_) (fun c1 => ?_)
    · have hf := th hf c1
      refine lv_iload hx hb dX4_rulersBy_57 (lv_at hl 4 rfl) ?_
      exact e_roI C0 hf dX4_rulersBy_59
    · have hf := el hf c1
      refine lv_aload_n hx hb dX4_rulersBy_19 rfl (lv_at hl 0 rfl) ?_
      refine lv_aload_n hx hb dX4_rulersBy_20 rfl (lv_at hl 1 rfl) ?_
      refine lv_iload_n hx hb dX4_rulersBy_21 rfl (lv_at hl 2 rfl) ?_
      refine lv_iload hx hb dX4_rulersBy_22 (lv_at hl 5 rfl) ?_
      refine lv_iadd hx hb dX4_rulersBy_24 ?_
      obtain ⟨q2, h3, hf⟩ := bd hf
      refine k_roI (run_VN (rest := [.ref (B 0)]) (n := 1) C0 (tX2_at E (B (14 + k1)) (B (18 + k1)) h3) gX4_rulersBy_X2_at_n186 rfl (by decide +kernel) (by decide +kernel) (by decide +kernel) (by decide +kernel) rfl (by decide +kernel) (hP.row hk1 0 _ rfl) rfl rfl (hP.row hk1) hl.1 rfl rfl (Nat.le_of_ble_eq_true rfl) dX4_rulersBy_25) ?_
      obtain ⟨q4, h5, hf⟩ := bd hf
      refine k_roI (run_V (rest := []) (n := 1) C0 (tX4_ownerOf (u := u) E B h5) gX4_rulersBy_X4_ownerOf rfl rfl (by decide +kernel) (hP 0 _ rfl) rfl rfl hP hl.1 rfl rfl (Nat.le_of_ble_eq_true rfl) dX4_rulersBy_28) ?_
      refine lv_istore (lv' := [(6, .int q4), (0, .ref (B 0)), (1, .ref (B (14 + k1))), (2, .int x2), (3, .int x3), (4, .int x4), (5, .int x5)]) hx hb dX4_rulersBy_31 hl (by decide) rfl (fun ls hl => ?_)
      refine lv_iload hx hb dX4_rulersBy_33 (lv_at hl 0 rfl) ?_
      refine lv_bipush (v := (-9 : Int32)) hx hb dX4_rulersBy_35 (by decide) ?_
      refine lv_icmp_eq (tgt := 51) hx hb dX4_rulersBy_37 (by decide) (fun c6 => ?_) (fun c6 => ?_)
      · have hf := th hf c6
        exact tX4_rulersBy_51 C0 hP ih hk1 (lv_sub hl [1, 2, 3, 4, 5, 6] rfl) hf
      · have hf := el hf c6
        refine lv_iload hx hb dX4_rulersBy_40 (lv_at hl 5 rfl) ?_
        refine lv_iconst (v := (1 : Int32)) hx hb dX4_rulersBy_42 (by decide) ?_
        refine lv_iload hx hb dX4_rulersBy_43 (lv_at hl 0 rfl) ?_
        refine lv_ishl hx hb dX4_rulersBy_45 ?_
        refine lv_iconst (v := (-1 : Int32)) hx hb dX4_rulersBy_46 (by decide) ?_
        refine lv_ixor hx hb dX4_rulersBy_47 ?_
        refine lv_iand hx hb dX4_rulersBy_48 ?_
        refine lv_istore (lv' := [(4, .int (x4 &&& (((1 : Int32) <<< (q4 &&& 31)) ^^^ (-1 : Int32)))), (6, .int q4), (0, .ref (B 0)), (1, .ref (B (14 + k1))), (2, .int x2), (3, .int x3), (5, .int x5)]) hx hb dX4_rulersBy_49 hl (by decide) rfl (fun ls hl => ?_)
        exact tX4_rulersBy_51 C0 hP ih hk1 (lv_sub hl [2, 3, 4, 5, 0, 6] rfl) hf
set_option maxHeartbeats 4000000 in
set_option maxRecDepth 100000 in
theorem tX4_rulersBy_0 {p : Program} {l : Launch} {e : Env} {s : State} {m : MethodId} {args : Array Value} {below : List Frame} {meth : Method} {c : Code} {E : EE} {B : Nat → Nat} {u : SX} {out : Int32} (C0 : cx wsX4_rulersBy cX4_rulersBy 7 (some .int) RX4 E p s m args meth c) (hP : fP E (cX E B u) s.heap) {k1 : Nat} {x2 : Int32} {x3 : Int32} {ls : Array Slot} (hk1 : k1 < 4) (hl : lv_has ls 7 [(0, .ref (B 0)), (1, .ref (B (14 + k1))), (2, .int x2), (3, .int x3)]) (hf : fX4_rulersBy k1 x2 x3 u = some out) : W p l e rmX4_rulersBy s m args below meth c s.heap [] 0 0 (MQ below (vp_Si (fun r => r = out)) args s 0 0 (fun _ => False)) (F0 m 0 ls []) := by
  obtain ⟨hx, hb, hr, hml, hown, hts, hlk, hK⟩ := id C0
  unfold fX4_rulersBy at hf
  refine lv_iconst (v := (1 : Int32)) hx hb dX4_rulersBy_0 (by decide) ?_
  refine lv_aload_n hx hb dX4_rulersBy_1 rfl (lv_at hl 0 rfl) ?_
  refine x_get C0 hP iX4_rulersBy_X4 1 (by decide) (by decide +kernel) rfl dX4_rulersBy_2 ?_
  refine lv_ishl hx hb dX4_rulersBy_5 ?_
  refine lv_iconst (v := (1 : Int32)) hx hb dX4_rulersBy_6 (by decide) ?_
  refine lv_isub hx hb dX4_rulersBy_7 ?_
  refine lv_istore (lv' := [(4, .int (((1 : Int32) <<< ((u.1 1) &&& 31)) - (1 : Int32))), (0, .ref (B 0)), (1, .ref (B (14 + k1))), (2, .int x2), (3, .int x3)]) hx hb dX4_rulersBy_8 hl (by decide) rfl (fun ls hl => ?_)
  refine lv_iconst (v := (0 : Int32)) hx hb dX4_rulersBy_10 (by decide) ?_
  refine lv_istore (lv' := [(5, .int (0 : Int32)), (4, .int (((1 : Int32) <<< ((u.1 1) &&& 31)) - (1 : Int32))), (0, .ref (B 0)), (1, .ref (B (14 + k1))), (2, .int x2), (3, .int x3)]) hx hb dX4_rulersBy_11 hl (by decide) rfl (fun ls hl => ?_)
  exact tX4_rulersBy_13 C0 hP fu _ _ _ _ _ _ hk1 (lv_sub hl [2, 3, 4, 5, 1, 0] rfl) hf
set_option maxHeartbeats 4000000 in
set_option maxRecDepth 100000 in
theorem tX4_rulersBy {l : Launch} (E : EE) (B : Nat → Nat) {u : SX} {k1 : Nat} {x2 : Int32} {x3 : Int32} {out : Int32} (hk1 : k1 < 4) (hf : fX4_rulersBy k1 x2 x3 u = some out) : roI l yX4_rulersBy wsX4_rulersBy rmX4_rulersBy E [.ref (B 0), .ref (B (14 + k1)), .int x2, .int x3] (fP E (cX E B u)) out := by
  refine Met.ofW (cc := cX4_rulersBy) (maxL := 7) (ret := (some .int)) (by decide) rfl ?_
  intro p e s m args below meth c s₁ B0 hml hv
  obtain ⟨rfl, hP, hK⟩ := hv
  have C0 : cx wsX4_rulersBy cX4_rulersBy 7 (some .int) RX4 E p s m _ meth c := ⟨B0.exec, B0.bytes, B0.returns, hml, findClass_of_methodNamed B0.named, atoms_spec (ws := wsX4_rulersBy) B0.pre, B0.notSynchronized, hK⟩
  have hl := lv_entry ([.ref (B 0), .ref (B (14 + k1)), .int x2, .int x3]) (n := 7) (Nat.le_of_ble_eq_true rfl)
  rw [lg_entry_eq]
  generalize (lg_sl ([.ref (B 0), .ref (B (14 + k1)), .int x2, .int x3]) ++ List.replicate (7 - (lg_sl ([.ref (B 0), .ref (B (14 + k1)), .int x2, .int x3])).length) Slot.unset).toArray = ls at hl ⊢
  exact tX4_rulersBy_0 C0 hP hk1 hl hf
abbrev rmX4_fillDrum : Room := { frames := 3, cells := 0, slots := 0, locals := 65 }
set_option maxRecDepth 20000 in
theorem iX4_fillDrum_X0 : ∀ w ∈ wsX00, w ∈ wsX4_fillDrum := by decide +kernel
set_option maxRecDepth 20000 in
theorem iX4_fillDrum_X4 : ∀ w ∈ wsX40, w ∈ wsX4_fillDrum := by decide +kernel
set_option maxHeartbeats 4000000 in
set_option maxRecDepth 100000 in
theorem tX4_fillDrum_59 {p : Program} {l : Launch} {e : Env} {s : State} {m : MethodId} {args : Array Value} {below : List Frame} {meth : Method} {c : Code} {E : EE} {B : Nat → Nat} {A : Nat → Prop} {out : SX} {c17 : Int32 → SX → Option (SX)} (C0 : cx wsX4_fillDrum cX4_fillDrum 3 none RX4 E p s m args meth c) (hc17 : ∀ (x1 : Int32) (u : SX) (H : Heap) (locs : List Loc) (ls : Array Slot) (_ : WX E A B u s H locs), lv_has ls 3 [(0, .ref (B 0)), (1, .int x1)] → c17 x1 u = some out → W p l e rmX4_fillDrum s m args below meth c H locs 0 0 (MQ below (va_Qv (fun (_ : Unit) => True) (fun _ t => QX E A B out t.heap) A) args s 0 0 A) (F0 m 17 ls [])) {x1 : Int32} {u : SX} {H : Heap} {locs : List Loc} {ls : Array Slot} (hW : WX E A B u s H locs) (hl : lv_has ls 3 [(0, .ref (B 0)), (1, .int x1)]) (hf : fX4_fillDrum_59 c17 x1 u = some out) : W p l e rmX4_fillDrum s m args below meth c H locs 0 0 (MQ below (va_Qv (fun (_ : Unit) => True) (fun _ t => QX E A B out t.heap) A) args s 0 0 A) (F0 m 59 ls []) := by
  obtain ⟨hx, hb, hr, hml, hown, hts, hlk, hK⟩ := id C0
  unfold fX4_fillDrum_59 at hf
  refine lv_iinc (v := (x1 + (1 : Int32))) (lv' := [(1, .int (x1 + (1 : Int32))), (0, .ref (B 0))]) hx hb dX4_fillDrum_59 hl (k := 1) rfl rfl (by decide) rfl (fun ls hl => ?_)
  refine lv_goto (tgt := 17) hx hb dX4_fillDrum_62 (by decide) ?_
  exact hc17 _ _ _ _ _ hW (lv_sub hl [1, 0] rfl) hf
set_option maxHeartbeats 4000000 in
set_option maxRecDepth 100000 in
theorem tX4_fillDrum_17 {p : Program} {l : Launch} {e : Env} {s : State} {m : MethodId} {args : Array Value} {below : List Frame} {meth : Method} {c : Code} {E : EE} {B : Nat → Nat} {A : Nat → Prop} {out : SX} (C0 : cx wsX4_fillDrum cX4_fillDrum 3 none RX4 E p s m args meth c) : ∀ (n : Nat) (x1 : Int32) (u : SX) (H : Heap) (locs : List Loc) (ls : Array Slot) (_ : WX E A B u s H locs), lv_has ls 3 [(0, .ref (B 0)), (1, .int x1)] → fX4_fillDrum_17 n x1 u = some out → W p l e rmX4_fillDrum s m args below meth c H locs 0 0 (MQ below (va_Qv (fun (_ : Unit) => True) (fun _ t => QX E A B out t.heap) A) args s 0 0 A) (F0 m 17 ls []) := by
  obtain ⟨hx, hb, hr, hml, hown, hts, hlk, hK⟩ := id C0
  intro n
  induction n with
  | zero =>
    intro x1 u H locs ls hW hl hf
    cases (show none = some out from hf)
  | succ n ih =>
    intro x1 u H locs ls hW hl hf
    rw [fX4_fillDrum_17] at hf
    refine lv_iload_n hx hb dX4_fillDrum_17 rfl (lv_at hl 1 rfl) ?_
    refine lv_aload_n hx hb dX4_fillDrum_18 rfl (lv_at hl 0 rfl) ?_
    refine x_get C0 hW.1 iX4_fillDrum_X4 1 (by decide) (by decide +kernel) rfl dX4_fillDrum_19 ?_
    refine lv_icmp_ge (tgt := 65) hx hb dX4_fillDrum_22 (by decide) (fun c1 => ?_) (fun c1 => ?_)
    · have hf := th hf c1
      obtain rfl := Option.some.inj hf
      exact e_muV (QH := QX E A B u) C0 hW.2.2.2 ⟨hW.1, hW.2.1, hW.2.2.1⟩ dX4_fillDrum_65
    · have hf := el hf c1
      refine lv_aload_n hx hb dX4_fillDrum_25 rfl (lv_at hl 0 rfl) ?_
      refine lv_iload_n hx hb dX4_fillDrum_26 rfl (lv_at hl 1 rfl) ?_
      obtain ⟨q2, h3, hf⟩ := bd hf
      refine k_roQ (run_V (rest := []) (n := 1) C0 (tX4_citizen (u := u) E B h3) gX4_fillDrum_X4_citizen rfl rfl (by decide +kernel) (hW.1 0 _ rfl) rfl rfl hW.1 hl.1 rfl rfl (Nat.le_of_ble_eq_true rfl) dX4_fillDrum_27) ?_
      cases q2 with
      | none =>
        rw [Option.elim_none] at hf
        refine W.eq (g2 := F0 m 30 ls [.null]) rfl ?_
        refine lv_astore_nN (lv' := [(2, .null), (0, .ref (B 0)), (1, .int x1)]) hx hb dX4_fillDrum_30 rfl hl (by decide) rfl (fun ls hl => ?_)
        refine lv_aload_nN hx hb dX4_fillDrum_31 rfl (lv_at hl 0 rfl) ?_
        refine lv_ifnullN (tgt := 59) hx hb dX4_fillDrum_32 (by decide) ?_
        exact tX4_fillDrum_59 C0 ih hW (lv_sub hl [1, 2] rfl) hf
      | some k4 =>
        rw [Option.elim_some] at hf
        obtain ⟨h5, hf⟩ := gd hf
        refine W.eq (g2 := F0 m 30 ls [.ref (B (8 + k4))]) rfl ?_
        refine lv_astore_n (lv' := [(2, .ref (B (8 + k4))), (0, .ref (B 0)), (1, .int x1)]) hx hb dX4_fillDrum_30 rfl hl (by decide) rfl (fun ls hl => ?_)
        refine lv_aload_n hx hb dX4_fillDrum_31 rfl (lv_at hl 0 rfl) ?_
        refine lv_ifnull hx hb dX4_fillDrum_32 ?_
        refine lv_aload_n hx hb dX4_fillDrum_35 rfl (lv_at hl 1 rfl) ?_
        refine x_get C0 hW.1 iX4_fillDrum_X4 7 (by decide) (by decide +kernel) rfl dX4_fillDrum_36 ?_
        refine lv_iload_n hx hb dX4_fillDrum_39 rfl (lv_at hl 2 rfl) ?_
        refine lv_aload_n hx hb dX4_fillDrum_40 rfl (lv_at hl 0 rfl) ?_
        obtain ⟨q6, h7, hf⟩ := bd hf
        refine k_roI (run_VN (rest := [.int x1, .ref (B 4)]) (n := 0) C0 (tX0_slips E (B (8 + k4)) h7) gX4_fillDrum_X0_slips_n89 rfl (by decide +kernel) (by decide +kernel) (by decide +kernel) (by decide +kernel) rfl (by decide +kernel) (hW.1.cit (Decidable.of_not_not h5) 0 _ rfl) rfl rfl (hW.1.cit (Decidable.of_not_not h5)) hl.1 rfl rfl (Nat.le_of_ble_eq_true rfl) dX4_fillDrum_41) ?_
        obtain ⟨q8, h9, hf⟩ := bd hf
        refine k_muV (run_VN (rest := []) (n := 2) C0 (tX1_setSlips E (fun i => B (4 + i)) hW.2.1.drum h9) gX4_fillDrum_X1_setSlips_n140 rfl (by decide +kernel) (by decide +kernel) (by decide +kernel) (by decide +kernel) rfl (by decide +kernel) (hW.1.drum 0 _ rfl) rfl rfl hW.1.drum hl.1 rfl rfl (Nat.le_of_ble_eq_true rfl) dX4_fillDrum_44) hW.2.2.2 hW.2.2.1.drum (fun H locs hQ hk hS => ?_)
        have hW := hW.join hQ hk hS
        have hW : WX E A B (u.1, u.2.1, u.2.2.1, u.2.2.2.1, q8) s H locs := hW
        refine lv_aload_n hx hb dX4_fillDrum_47 rfl (lv_at hl 1 rfl) ?_
        refine x_get C0 hW.1 iX4_fillDrum_X4 7 (by decide) (by decide +kernel) rfl dX4_fillDrum_48 ?_
        refine lv_iload_n hx hb dX4_fillDrum_51 rfl (lv_at hl 2 rfl) ?_
        refine lv_aload_n hx hb dX4_fillDrum_52 rfl (lv_at hl 0 rfl) ?_
        refine c_getN C0 (hW.1.cit (Decidable.of_not_not h5)) iX4_fillDrum_X0 3 (by decide) (by decide +kernel) rfl dX4_fillDrum_53 ?_
        obtain ⟨q10, h11, hf⟩ := bd hf
        refine k_muV (run_VN (rest := []) (n := 2) C0 (tX1_setWishes E (fun i => B (4 + i)) hW.2.1.drum h11) gX4_fillDrum_X1_setWishes_n156 rfl (by decide +kernel) (by decide +kernel) (by decide +kernel) (by decide +kernel) rfl (by decide +kernel) (hW.1.drum 0 _ rfl) rfl rfl hW.1.drum hl.1 rfl rfl (Nat.le_of_ble_eq_true rfl) dX4_fillDrum_56) hW.2.2.2 hW.2.2.1.drum (fun H locs hQ hk hS => ?_)
        have hW := hW.join hQ hk hS
        have hW : WX E A B (u.1, u.2.1, u.2.2.1, u.2.2.2.1, q10) s H locs := hW
        exact tX4_fillDrum_59 C0 ih hW (lv_sub hl [1, 2] rfl) hf
set_option maxHeartbeats 4000000 in
set_option maxRecDepth 100000 in
theorem tX4_fillDrum_0 {p : Program} {l : Launch} {e : Env} {s : State} {m : MethodId} {args : Array Value} {below : List Frame} {meth : Method} {c : Code} {E : EE} {B : Nat → Nat} {A : Nat → Prop} {out : SX} (C0 : cx wsX4_fillDrum cX4_fillDrum 3 none RX4 E p s m args meth c) {u : SX} {H : Heap} {locs : List Loc} {ls : Array Slot} (hW : WX E A B u s H locs) (hl : lv_has ls 3 [(0, .ref (B 0))]) (hf : fX4_fillDrum u = some out) : W p l e rmX4_fillDrum s m args below meth c H locs 0 0 (MQ below (va_Qv (fun (_ : Unit) => True) (fun _ t => QX E A B out t.heap) A) args s 0 0 A) (F0 m 0 ls []) := by
  obtain ⟨hx, hb, hr, hml, hown, hts, hlk, hK⟩ := id C0
  unfold fX4_fillDrum at hf
  refine lv_aload_n hx hb dX4_fillDrum_0 rfl (lv_at hl 0 rfl) ?_
  refine x_get C0 hW.1 iX4_fillDrum_X4 7 (by decide) (by decide +kernel) rfl dX4_fillDrum_1 ?_
  refine lv_aload_n hx hb dX4_fillDrum_4 rfl (lv_at hl 0 rfl) ?_
  refine x_get C0 hW.1 iX4_fillDrum_X4 1 (by decide) (by decide +kernel) rfl dX4_fillDrum_5 ?_
  refine lv_aload_n hx hb dX4_fillDrum_8 rfl (lv_at hl 0 rfl) ?_
  refine x_get C0 hW.1 iX4_fillDrum_X4 2 (by decide) (by decide +kernel) rfl dX4_fillDrum_9 ?_
  obtain ⟨q1, h2, hf⟩ := bd hf
  refine k_muV (run_VN (rest := []) (n := 2) C0 (tX1_empty E (fun i => B (4 + i)) hW.2.1.drum h2) gX4_fillDrum_X1_empty_n236 rfl (by decide +kernel) (by decide +kernel) (by decide +kernel) (by decide +kernel) rfl (by decide +kernel) (hW.1.drum 0 _ rfl) rfl rfl hW.1.drum hl.1 rfl rfl (Nat.le_of_ble_eq_true rfl) dX4_fillDrum_12) hW.2.2.2 hW.2.2.1.drum (fun H locs hQ hk hS => ?_)
  have hW := hW.join hQ hk hS
  have hW : WX E A B (u.1, u.2.1, u.2.2.1, u.2.2.2.1, q1) s H locs := hW
  refine lv_iconst (v := (0 : Int32)) hx hb dX4_fillDrum_15 (by decide) ?_
  refine lv_istore_n (lv' := [(1, .int (0 : Int32)), (0, .ref (B 0))]) hx hb dX4_fillDrum_16 rfl hl (by decide) rfl (fun ls hl => ?_)
  exact tX4_fillDrum_17 C0 fu _ _ _ _ _ hW (lv_sub hl [1, 0] rfl) hf
set_option maxHeartbeats 4000000 in
set_option maxRecDepth 100000 in
theorem tX4_fillDrum {l : Launch} (E : EE) (A : Nat → Prop) (B : Nat → Nat) {u : SX} {out : SX} (hI : fI (cX E B u)) (hA : AX E B u A) (hf : fX4_fillDrum u = some out) : muV l yX4_fillDrum wsX4_fillDrum rmX4_fillDrum E [.ref (B 0)] A (fP E (cX E B u)) (QX E A B out) := by
  refine Met.ofW (cc := cX4_fillDrum) (maxL := 3) (ret := none) (by decide) rfl ?_
  intro p e s m args below meth c s₁ B0 hml hv
  obtain ⟨rfl, hP, hK⟩ := hv
  have C0 : cx wsX4_fillDrum cX4_fillDrum 3 none RX4 E p s m _ meth c := ⟨B0.exec, B0.bytes, B0.returns, hml, findClass_of_methodNamed B0.named, atoms_spec (ws := wsX4_fillDrum) B0.pre, B0.notSynchronized, hK⟩
  have hl := lv_entry ([.ref (B 0)]) (n := 3) (Nat.le_of_ble_eq_true rfl)
  rw [lg_entry_eq]
  generalize (lg_sl ([.ref (B 0)]) ++ List.replicate (3 - (lg_sl ([.ref (B 0)])).length) Slot.unset).toArray = ls at hl ⊢
  exact tX4_fillDrum_0 C0 ⟨hP, hI, hA, va_S.rf⟩ hl hf
abbrev rmX4_draw : Room := { frames := 4, cells := 0, slots := 0, locals := 92 }
set_option maxRecDepth 20000 in
theorem iX4_draw_X4 : ∀ w ∈ wsX40, w ∈ wsX4_draw := by decide +kernel
set_option maxHeartbeats 4000000 in
set_option maxRecDepth 100000 in
theorem tX4_draw_44 {p : Program} {l : Launch} {e : Env} {s : State} {m : MethodId} {args : Array Value} {below : List Frame} {meth : Method} {c : Code} {E : EE} {B : Nat → Nat} {A : Nat → Prop} {out : Int32 × SX} (C0 : cx wsX4_draw cX4_draw 10 (some .int) RX4 E p s m args meth c) {u : SX} {H : Heap} {locs : List Loc} {ls : Array Slot} (hW : WX E A B u s H locs) (hl : lv_has ls 10 []) (hf : fX4_draw_44 u = some out) : W p l e rmX4_draw s m args below meth c H locs 0 0 (MQ below (va_Qi (fun r (_ : Unit) => r = out.1) (fun _ t => QX E A B out.2 t.heap) A) args s 0 0 A) (F0 m 44 ls []) := by
  obtain ⟨hx, hb, hr, hml, hown, hts, hlk, hK⟩ := id C0
  unfold fX4_draw_44 at hf
  refine lv_bipush (v := (-2 : Int32)) hx hb dX4_draw_44 (by decide) ?_
  obtain rfl := Option.some.inj hf
  exact e_muI (QH := QX E A B u) C0 hW.2.2.2 rfl ⟨hW.1, hW.2.1, hW.2.2.1⟩ dX4_draw_46
set_option maxHeartbeats 4000000 in
set_option maxRecDepth 100000 in
theorem tX4_draw_85 {p : Program} {l : Launch} {e : Env} {s : State} {m : MethodId} {args : Array Value} {below : List Frame} {meth : Method} {c : Code} {E : EE} {B : Nat → Nat} {A : Nat → Prop} {out : Int32 × SX} (C0 : cx wsX4_draw cX4_draw 10 (some .int) RX4 E p s m args meth c) {x7 : Int32} {u : SX} {H : Heap} {locs : List Loc} {ls : Array Slot} (hW : WX E A B u s H locs) (hl : lv_has ls 10 [(0, .ref (B 0)), (7, .int x7)]) (hf : fX4_draw_85 x7 u = some out) : W p l e rmX4_draw s m args below meth c H locs 0 0 (MQ below (va_Qi (fun r (_ : Unit) => r = out.1) (fun _ t => QX E A B out.2 t.heap) A) args s 0 0 A) (F0 m 85 ls []) := by
  obtain ⟨hx, hb, hr, hml, hown, hts, hlk, hK⟩ := id C0
  unfold fX4_draw_85 at hf
  refine lv_aload_n hx hb dX4_draw_85 rfl (lv_at hl 0 rfl) ?_
  refine lv_iload hx hb dX4_draw_86 (lv_at hl 1 rfl) ?_
  obtain ⟨q1, h2, hf⟩ := bd hf
  refine k_muI (run_V (rest := []) (n := 1) C0 (tX4_faulted (u := u) E A B hW.2.1 hW.2.2.1 h2) gX4_draw_X4_faulted rfl rfl (by decide +kernel) (hW.1 0 _ rfl) rfl rfl hW.1 hl.1 rfl rfl (Nat.le_of_ble_eq_true rfl) dX4_draw_88) hW.2.2.2 (fun _ h => h) (fun H locs hQ _ hS => ?_)
  have hW : WX E A B q1.2 s H locs := ⟨hQ.1, hQ.2.1, hQ.2.2, hS⟩
  obtain rfl := Option.some.inj hf
  exact e_muI (QH := QX E A B q1.2) C0 hW.2.2.2 rfl ⟨hW.1, hW.2.1, hW.2.2.1⟩ dX4_draw_91
set_option maxHeartbeats 4000000 in
set_option maxRecDepth 100000 in
theorem tX4_draw_0 {p : Program} {l : Launch} {e : Env} {s : State} {m : MethodId} {args : Array Value} {below : List Frame} {meth : Method} {c : Code} {E : EE} {B : Nat → Nat} {A : Nat → Prop} {out : Int32 × SX} (C0 : cx wsX4_draw cX4_draw 10 (some .int) RX4 E p s m args meth c) {x1 : Int32} {x2 : Int32} {x3 : Int32} {x4 : Int32} {x5 : Int32} {u : SX} {H : Heap} {locs : List Loc} {ls : Array Slot} (hW : WX E A B u s H locs) (hl : lv_has ls 10 [(0, .ref (B 0)), (1, .int x1), (2, .int x2), (3, .int x3), (4, .int x4), (5, .int x5)]) (hf : fX4_draw x1 x2 x3 x4 x5 u = some out) : W p l e rmX4_draw s m args below meth c H locs 0 0 (MQ below (va_Qi (fun r (_ : Unit) => r = out.1) (fun _ t => QX E A B out.2 t.heap) A) args s 0 0 A) (F0 m 0 ls []) := by
  obtain ⟨hx, hb, hr, hml, hown, hts, hlk, hK⟩ := id C0
  unfold fX4_draw at hf
  refine lv_aload_n hx hb dX4_draw_0 rfl (lv_at hl 0 rfl) ?_
  refine lv_iconst (v := (0 : Int32)) hx hb dX4_draw_1 (by decide) ?_
  refine x_put C0 hW iX4_draw_X4 9 (by decide) (by decide +kernel) rfl (by decide +kernel) rfl dX4_draw_2 (fun H locs hW => ?_)
  have hW : WX E A B ((upd u.1 9 (0 : Int32)), u.2.1, u.2.2.1, u.2.2.2.1, u.2.2.2.2) s H locs := hW
  refine lv_iload_n hx hb dX4_draw_5 rfl (lv_at hl 1 rfl) ?_
  obtain ⟨q1, h2, hf⟩ := bd hf
  refine k_roI (run_S (rest := []) (n := 1) (PH := fun _ => True) C0 (tX4_isSheet E h2) gX4_draw_X4_isSheet rfl rfl (by decide +kernel) trivial hl.1 rfl rfl (Nat.le_of_ble_eq_true rfl) dX4_draw_6) ?_
  refine lv_if_ne (tgt := 14) hx hb dX4_draw_9 (by decide) (fun c3 => ?_) (fun c3 => ?_)
  · have hf := el hf c3
    refine lv_iload_n hx hb dX4_draw_14 rfl (lv_at hl 2 rfl) ?_
    obtain ⟨q4, h5, hf⟩ := bd hf
    refine k_roI (run_S (rest := []) (n := 1) (PH := fun _ => True) C0 (tX4_isLane E h5) gX4_draw_X4_isLane rfl rfl (by decide +kernel) trivial hl.1 rfl rfl (Nat.le_of_ble_eq_true rfl) dX4_draw_15) ?_
    refine lv_if_eq (tgt := 44) hx hb dX4_draw_18 (by decide) (fun c6 => ?_) (fun c6 => ?_)
    · have hf := th hf c6
      exact tX4_draw_44 C0 hW (lv_sub hl [] rfl) hf
    · have hf := el hf c6
      refine lv_iload hx hb dX4_draw_21 (lv_at hl 4 rfl) ?_
      refine lv_if_lt (tgt := 44) hx hb dX4_draw_23 (by decide) (fun c7 => ?_) (fun c7 => ?_)
      · have hf := th hf c7
        exact tX4_draw_44 C0 hW (lv_sub hl [] rfl) hf
      · have hf := el hf c7
        refine lv_iload hx hb dX4_draw_26 (lv_at hl 4 rfl) ?_
        refine lv_bipush (v := (20 : Int32)) hx hb dX4_draw_28 (by decide) ?_
        refine lv_icmp_gt (tgt := 44) hx hb dX4_draw_30 (by decide) (fun c8 => ?_) (fun c8 => ?_)
        · have hf := th hf c8
          exact tX4_draw_44 C0 hW (lv_sub hl [] rfl) hf
        · have hf := el hf c8
          refine lv_iload hx hb dX4_draw_33 (lv_at hl 5 rfl) ?_
          refine lv_if_lt (tgt := 44) hx hb dX4_draw_35 (by decide) (fun c9 => ?_) (fun c9 => ?_)
          · have hf := th hf c9
            exact tX4_draw_44 C0 hW (lv_sub hl [] rfl) hf
          · have hf := el hf c9
            refine lv_iload hx hb dX4_draw_38 (lv_at hl 5 rfl) ?_
            refine lv_iconst (v := (2 : Int32)) hx hb dX4_draw_40 (by decide) ?_
            refine lv_icmp_le (tgt := 47) hx hb dX4_draw_41 (by decide) (fun c10 => ?_) (fun c10 => ?_)
            · have hf := th hf c10
              refine lv_aload_n hx hb dX4_draw_47 rfl (lv_at hl 0 rfl) ?_
              refine x_get C0 hW.1 iX4_draw_X4 1 (by decide) (by decide +kernel) rfl dX4_draw_48 ?_
              refine lv_if_ne (tgt := 57) hx hb dX4_draw_51 (by decide) (fun c11 => ?_) (fun c11 => ?_)
              · have hf := el hf c11
                refine lv_aload_n hx hb dX4_draw_57 rfl (lv_at hl 0 rfl) ?_
                refine lv_iload_n hx hb dX4_draw_58 rfl (lv_at hl 1 rfl) ?_
                obtain ⟨q12, h13, hf⟩ := bd hf
                refine k_roQ (run_V (rest := []) (n := 1) C0 (tX4_rowOf (u := ((upd u.1 9 (0 : Int32)), u.2.1, u.2.2.1, u.2.2.2.1, u.2.2.2.2)) E B h13) gX4_draw_X4_rowOf rfl rfl (by decide +kernel) (hW.1 0 _ rfl) rfl rfl hW.1 hl.1 rfl rfl (Nat.le_of_ble_eq_true rfl) dX4_draw_59) ?_
                cases q12 with
                | none =>
                  rw [Option.elim_none] at hf
                  refine W.eq (g2 := F0 m 62 ls [.null]) rfl ?_
                  refine lv_astoreN (lv' := [(6, .null), (0, .ref (B 0)), (1, .int x1), (2, .int x2), (3, .int x3), (4, .int x4), (5, .int x5)]) hx hb dX4_draw_62 hl (by decide) rfl (fun ls hl => ?_)
                  refine lv_aloadN hx hb dX4_draw_64 (lv_at hl 0 rfl) ?_
                  refine lv_iload_n hx hb dX4_draw_66 rfl (lv_at hl 3 rfl) ?_
                  refine lv_iload_n hx hb dX4_draw_67 rfl (lv_at hl 4 rfl) ?_
                  refine lv_iload hx hb dX4_draw_68 (lv_at hl 5 rfl) ?_
                  obtain ⟨q16, h17, hf⟩ := bd hf
                  refine k_roI (run_S (rest := []) (n := 4) (PH := fun _ => True) C0 (tX4_faultOfN E h17) gX4_draw_X4_faultOf rfl rfl (by decide +kernel) trivial hl.1 rfl rfl (Nat.le_of_ble_eq_true rfl) dX4_draw_70) ?_
                  refine lv_istore (lv' := [(7, .int q16), (6, .null), (0, .ref (B 0)), (1, .int x1), (2, .int x2), (3, .int x3), (4, .int x4), (5, .int x5)]) hx hb dX4_draw_73 hl (by decide) rfl (fun ls hl => ?_)
                  refine lv_aloadN hx hb dX4_draw_75 (lv_at hl 1 rfl) ?_
                  refine lv_ifnullN (tgt := 85) hx hb dX4_draw_77 (by decide) ?_
                  exact tX4_draw_85 C0 hW (lv_sub hl [2, 0] rfl) hf
                | some k14 =>
                  rw [Option.elim_some] at hf
                  obtain ⟨h15, hf⟩ := gd hf
                  refine W.eq (g2 := F0 m 62 ls [.ref (B (14 + k14))]) rfl ?_
                  refine lv_astore (lv' := [(6, .ref (B (14 + k14))), (0, .ref (B 0)), (1, .int x1), (2, .int x2), (3, .int x3), (4, .int x4), (5, .int x5)]) hx hb dX4_draw_62 hl (by decide) rfl (fun ls hl => ?_)
                  refine lv_aload hx hb dX4_draw_64 (lv_at hl 0 rfl) ?_
                  refine lv_iload_n hx hb dX4_draw_66 rfl (lv_at hl 3 rfl) ?_
                  refine lv_iload_n hx hb dX4_draw_67 rfl (lv_at hl 4 rfl) ?_
                  refine lv_iload hx hb dX4_draw_68 (lv_at hl 5 rfl) ?_
                  obtain ⟨q18, h19, hf⟩ := bd hf
                  refine k_roI (run_S (rest := []) (n := 4) C0 (tX4_faultOf E (B (14 + k14)) (B (18 + k14)) h19) gX4_draw_X4_faultOf rfl rfl (by decide +kernel) (hW.1.row (Decidable.of_not_not h15)) hl.1 rfl rfl (Nat.le_of_ble_eq_true rfl) dX4_draw_70) ?_
                  refine lv_istore (lv' := [(7, .int q18), (6, .ref (B (14 + k14))), (0, .ref (B 0)), (1, .int x1), (2, .int x2), (3, .int x3), (4, .int x4), (5, .int x5)]) hx hb dX4_draw_73 hl (by decide) rfl (fun ls hl => ?_)
                  refine lv_aload hx hb dX4_draw_75 (lv_at hl 1 rfl) ?_
                  refine lv_ifnull hx hb dX4_draw_77 ?_
                  refine lv_iload hx hb dX4_draw_80 (lv_at hl 0 rfl) ?_
                  refine lv_if_eq (tgt := 92) hx hb dX4_draw_82 (by decide) (fun c20 => ?_) (fun c20 => ?_)
                  · have hf := th hf c20
                    refine lv_aload_n hx hb dX4_draw_92 rfl (lv_at hl 2 rfl) ?_
                    refine lv_aload hx hb dX4_draw_93 (lv_at hl 1 rfl) ?_
                    refine lv_iload_n hx hb dX4_draw_95 rfl (lv_at hl 5 rfl) ?_
                    refine lv_iload hx hb dX4_draw_96 (lv_at hl 6 rfl) ?_
                    obtain ⟨q21, h22, hf⟩ := bd hf
                    refine k_roI (run_V (rest := []) (n := 3) C0 (tX4_firstWrong (u := ((upd u.1 9 (0 : Int32)), u.2.1, u.2.2.1, u.2.2.2.1, u.2.2.2.2)) E B (Decidable.of_not_not h15) h22) gX4_draw_X4_firstWrong rfl rfl (by decide +kernel) (hW.1 0 _ rfl) rfl rfl hW.1 hl.1 rfl rfl (Nat.le_of_ble_eq_true rfl) dX4_draw_98) ?_
                    refine lv_istore (lv' := [(8, .int q21), (7, .int q18), (6, .ref (B (14 + k14))), (0, .ref (B 0)), (1, .int x1), (2, .int x2), (3, .int x3), (4, .int x4), (5, .int x5)]) hx hb dX4_draw_101 hl (by decide) rfl (fun ls hl => ?_)
                    refine lv_iload hx hb dX4_draw_103 (lv_at hl 8 rfl) ?_
                    refine lv_iconst (v := (1 : Int32)) hx hb dX4_draw_105 (by decide) ?_
                    refine lv_icmp_ne (tgt := 112) hx hb dX4_draw_106 (by decide) (fun c23 => ?_) (fun c23 => ?_)
                    · have hf := el hf c23
                      refine lv_iload hx hb dX4_draw_112 (lv_at hl 0 rfl) ?_
                      refine lv_bipush (v := (-9 : Int32)) hx hb dX4_draw_114 (by decide) ?_
                      refine lv_icmp_eq (tgt := 125) hx hb dX4_draw_116 (by decide) (fun c24 => ?_) (fun c24 => ?_)
                      · have hf := th hf c24
                        refine lv_aload_n hx hb dX4_draw_125 rfl (lv_at hl 3 rfl) ?_
                        refine lv_aload hx hb dX4_draw_126 (lv_at hl 2 rfl) ?_
                        refine lv_iload_n hx hb dX4_draw_128 rfl (lv_at hl 6 rfl) ?_
                        refine lv_iload hx hb dX4_draw_129 (lv_at hl 7 rfl) ?_
                        obtain ⟨q25, h26, hf⟩ := bd hf
                        refine k_roI (run_V (rest := []) (n := 3) C0 (tX4_rulersBy (u := ((upd u.1 9 (0 : Int32)), u.2.1, u.2.2.1, u.2.2.2.1, u.2.2.2.2)) E B (Decidable.of_not_not h15) h26) gX4_draw_X4_rulersBy rfl rfl (by decide +kernel) (hW.1 0 _ rfl) rfl rfl hW.1 hl.1 rfl rfl (Nat.le_of_ble_eq_true rfl) dX4_draw_131) ?_
                        refine lv_istore (lv' := [(9, .int q25), (8, .int q21), (7, .int q18), (6, .ref (B (14 + k14))), (0, .ref (B 0)), (1, .int x1), (2, .int x2), (3, .int x3), (4, .int x4), (5, .int x5)]) hx hb dX4_draw_134 hl (by decide) rfl (fun ls hl => ?_)
                        refine lv_iload hx hb dX4_draw_136 (lv_at hl 9 rfl) ?_
                        refine lv_if_ne (tgt := 144) hx hb dX4_draw_138 (by decide) (fun c27 => ?_) (fun c27 => ?_)
                        · have hf := el hf c27
                          refine lv_aload_n hx hb dX4_draw_144 rfl (lv_at hl 4 rfl) ?_
                          obtain ⟨q28, h29, hf⟩ := bd hf
                          refine k_muV (run_V (rest := []) (n := 0) C0 (tX4_fillDrum (u := ((upd u.1 9 (0 : Int32)), u.2.1, u.2.2.1, u.2.2.2.1, u.2.2.2.2)) E A B hW.2.1 hW.2.2.1 h29) gX4_draw_X4_fillDrum rfl rfl (by decide +kernel) (hW.1 0 _ rfl) rfl rfl hW.1 hl.1 rfl rfl (Nat.le_of_ble_eq_true rfl) dX4_draw_145) hW.2.2.2 (fun _ h => h) (fun H locs hQ _ hS => ?_)
                          have hW : WX E A B q28 s H locs := ⟨hQ.1, hQ.2.1, hQ.2.2, hS⟩
                          refine lv_aload_n hx hb dX4_draw_148 rfl (lv_at hl 4 rfl) ?_
                          refine x_get C0 hW.1 iX4_draw_X4 7 (by decide) (by decide +kernel) rfl dX4_draw_149 ?_
                          refine lv_iload hx hb dX4_draw_152 (lv_at hl 0 rfl) ?_
                          obtain ⟨q30, h31, hf⟩ := bd hf
                          refine k_roI (run_VN (rest := []) (n := 1) C0 (tX1_passesUnder E (fun i => B (4 + i)) h31) gX4_draw_X1_passesUnder_n111 rfl (by decide +kernel) (by decide +kernel) (by decide +kernel) (by decide +kernel) rfl (by decide +kernel) (hW.1.drum 0 _ rfl) rfl rfl hW.1.drum hl.1 rfl rfl (Nat.le_of_ble_eq_true rfl) dX4_draw_154) ?_
                          refine lv_if_eq (tgt := 164) hx hb dX4_draw_157 (by decide) (fun c32 => ?_) (fun c32 => ?_)
                          · have hf := th hf c32
                            refine lv_iconst (v := (0 : Int32)) hx hb dX4_draw_164 (by decide) ?_
                            obtain rfl := Option.some.inj hf
                            exact e_muI (QH := QX E A B q28) C0 hW.2.2.2 rfl ⟨hW.1, hW.2.1, hW.2.2.1⟩ dX4_draw_165
                          · have hf := el hf c32
                            refine lv_iconst (v := (1 : Int32)) hx hb dX4_draw_160 (by decide) ?_
                            refine lv_goto (tgt := 165) hx hb dX4_draw_161 (by decide) ?_
                            obtain rfl := Option.some.inj hf
                            exact e_muI (QH := QX E A B q28) C0 hW.2.2.2 rfl ⟨hW.1, hW.2.1, hW.2.2.1⟩ dX4_draw_165
                        · have hf := th hf c27
                          refine lv_iload hx hb dX4_draw_141 (lv_at hl 0 rfl) ?_
                          obtain rfl := Option.some.inj hf
                          exact e_muI (QH := QX E A B ((upd u.1 9 (0 : Int32)), u.2.1, u.2.2.1, u.2.2.2.1, u.2.2.2.2)) C0 hW.2.2.2 rfl ⟨hW.1, hW.2.1, hW.2.2.1⟩ dX4_draw_143
                      · have hf := el hf c24
                        refine lv_bipush (v := (-100 : Int32)) hx hb dX4_draw_119 (by decide) ?_
                        refine lv_iload hx hb dX4_draw_121 (lv_at hl 0 rfl) ?_
                        refine lv_isub hx hb dX4_draw_123 ?_
                        obtain rfl := Option.some.inj hf
                        exact e_muI (QH := QX E A B ((upd u.1 9 (0 : Int32)), u.2.1, u.2.2.1, u.2.2.2.1, u.2.2.2.2)) C0 hW.2.2.2 rfl ⟨hW.1, hW.2.1, hW.2.2.1⟩ dX4_draw_124
                    · have hf := th hf c23
                      refine lv_iload hx hb dX4_draw_109 (lv_at hl 0 rfl) ?_
                      obtain rfl := Option.some.inj hf
                      exact e_muI (QH := QX E A B ((upd u.1 9 (0 : Int32)), u.2.1, u.2.2.1, u.2.2.2.1, u.2.2.2.2)) C0 hW.2.2.2 rfl ⟨hW.1, hW.2.1, hW.2.2.1⟩ dX4_draw_111
                  · have hf := el hf c20
                    exact tX4_draw_85 C0 hW (lv_sub hl [2, 0] rfl) hf
              · have hf := th hf c11
                refine lv_bipush (v := (-3 : Int32)) hx hb dX4_draw_54 (by decide) ?_
                obtain rfl := Option.some.inj hf
                exact e_muI (QH := QX E A B ((upd u.1 9 (0 : Int32)), u.2.1, u.2.2.1, u.2.2.2.1, u.2.2.2.2)) C0 hW.2.2.2 rfl ⟨hW.1, hW.2.1, hW.2.2.1⟩ dX4_draw_56
            · have hf := el hf c10
              exact tX4_draw_44 C0 hW (lv_sub hl [] rfl) hf
  · have hf := th hf c3
    refine lv_iconst (v := (-1 : Int32)) hx hb dX4_draw_12 (by decide) ?_
    obtain rfl := Option.some.inj hf
    exact e_muI (QH := QX E A B ((upd u.1 9 (0 : Int32)), u.2.1, u.2.2.1, u.2.2.2.1, u.2.2.2.2)) C0 hW.2.2.2 rfl ⟨hW.1, hW.2.1, hW.2.2.1⟩ dX4_draw_13
set_option maxHeartbeats 4000000 in
set_option maxRecDepth 100000 in
theorem tX4_draw {l : Launch} (E : EE) (A : Nat → Prop) (B : Nat → Nat) {u : SX} {x1 : Int32} {x2 : Int32} {x3 : Int32} {x4 : Int32} {x5 : Int32} {out : Int32 × SX} (hI : fI (cX E B u)) (hA : AX E B u A) (hf : fX4_draw x1 x2 x3 x4 x5 u = some out) : muI l yX4_draw wsX4_draw rmX4_draw E [.ref (B 0), .int x1, .int x2, .int x3, .int x4, .int x5] A (fP E (cX E B u)) (QX E A B out.2) out.1 := by
  refine Met.ofW (cc := cX4_draw) (maxL := 10) (ret := (some .int)) (by decide) rfl ?_
  intro p e s m args below meth c s₁ B0 hml hv
  obtain ⟨rfl, hP, hK⟩ := hv
  have C0 : cx wsX4_draw cX4_draw 10 (some .int) RX4 E p s m _ meth c := ⟨B0.exec, B0.bytes, B0.returns, hml, findClass_of_methodNamed B0.named, atoms_spec (ws := wsX4_draw) B0.pre, B0.notSynchronized, hK⟩
  have hl := lv_entry ([.ref (B 0), .int x1, .int x2, .int x3, .int x4, .int x5]) (n := 10) (Nat.le_of_ble_eq_true rfl)
  rw [lg_entry_eq]
  generalize (lg_sl ([.ref (B 0), .int x1, .int x2, .int x3, .int x4, .int x5]) ++ List.replicate (10 - (lg_sl ([.ref (B 0), .int x1, .int x2, .int x3, .int x4, .int x5])).length) Slot.unset).toArray = ls at hl ⊢
  exact tX4_draw_0 C0 ⟨hP, hI, hA, va_S.rf⟩ hl hf
abbrev rmX4_isWhich : Room := { frames := 0, cells := 0, slots := 0, locals := 0 }
set_option maxHeartbeats 4000000 in
set_option maxRecDepth 100000 in
theorem tX4_isWhich_9 {p : Program} {l : Launch} {e : Env} {s : State} {m : MethodId} {args : Array Value} {below : List Frame} {meth : Method} {c : Code} {E : EE} {out : Int32} (C0 : cx wsX4_isWhich cX4_isWhich 1 (some .boolean) RX4 E p s m args meth c) {ls : Array Slot} (hl : lv_has ls 1 []) (hf : fX4_isWhich_9 = some out) : W p l e rmX4_isWhich s m args below meth c s.heap [] 0 0 (MQ below (vp_Si (fun r => r = out)) args s 0 0 (fun _ => False)) (F0 m 9 ls []) := by
  obtain ⟨hx, hb, hr, hml, hown, hts, hlk, hK⟩ := id C0
  unfold fX4_isWhich_9 at hf
  refine lv_iconst (v := (1 : Int32)) hx hb dX4_isWhich_9 (by decide) ?_
  refine lv_goto (tgt := 14) hx hb dX4_isWhich_10 (by decide) ?_
  exact e_roZ C0 hf dX4_isWhich_14
set_option maxHeartbeats 4000000 in
set_option maxRecDepth 100000 in
theorem tX4_isWhich_0 {p : Program} {l : Launch} {e : Env} {s : State} {m : MethodId} {args : Array Value} {below : List Frame} {meth : Method} {c : Code} {E : EE} {out : Int32} (C0 : cx wsX4_isWhich cX4_isWhich 1 (some .boolean) RX4 E p s m args meth c) {x0 : Int32} {ls : Array Slot} (hl : lv_has ls 1 [(0, .int x0)]) (hf : fX4_isWhich x0 = some out) : W p l e rmX4_isWhich s m args below meth c s.heap [] 0 0 (MQ below (vp_Si (fun r => r = out)) args s 0 0 (fun _ => False)) (F0 m 0 ls []) := by
  obtain ⟨hx, hb, hr, hml, hown, hts, hlk, hK⟩ := id C0
  unfold fX4_isWhich at hf
  refine lv_iload_n hx hb dX4_isWhich_0 rfl (lv_at hl 0 rfl) ?_
  refine lv_if_eq (tgt := 9) hx hb dX4_isWhich_1 (by decide) (fun c1 => ?_) (fun c1 => ?_)
  · have hf := th hf c1
    exact tX4_isWhich_9 C0 (lv_sub hl [] rfl) hf
  · have hf := el hf c1
    refine lv_iload_n hx hb dX4_isWhich_4 rfl (lv_at hl 0 rfl) ?_
    refine lv_iconst (v := (1 : Int32)) hx hb dX4_isWhich_5 (by decide) ?_
    refine lv_icmp_ne (tgt := 13) hx hb dX4_isWhich_6 (by decide) (fun c2 => ?_) (fun c2 => ?_)
    · have hf := el hf c2
      refine lv_iconst (v := (0 : Int32)) hx hb dX4_isWhich_13 (by decide) ?_
      exact e_roZ C0 hf dX4_isWhich_14
    · have hf := th hf c2
      exact tX4_isWhich_9 C0 (lv_sub hl [] rfl) hf
set_option maxHeartbeats 4000000 in
set_option maxRecDepth 100000 in
theorem tX4_isWhich {l : Launch} (E : EE) {x0 : Int32} {out : Int32} (hf : fX4_isWhich x0 = some out) : roI l yX4_isWhich wsX4_isWhich rmX4_isWhich E [.int x0] ((fun _ => True)) out := by
  refine Met.ofW (cc := cX4_isWhich) (maxL := 1) (ret := (some .boolean)) (by decide) rfl ?_
  intro p e s m args below meth c s₁ B0 hml hv
  obtain ⟨rfl, -, hK⟩ := hv
  have C0 : cx wsX4_isWhich cX4_isWhich 1 (some .boolean) RX4 E p s m _ meth c := ⟨B0.exec, B0.bytes, B0.returns, hml, findClass_of_methodNamed B0.named, atoms_spec (ws := wsX4_isWhich) B0.pre, B0.notSynchronized, hK⟩
  have hl := lv_entry ([.int x0]) (n := 1) (Nat.le_of_ble_eq_true rfl)
  rw [lg_entry_eq]
  generalize (lg_sl ([.int x0]) ++ List.replicate (1 - (lg_sl ([.int x0])).length) Slot.unset).toArray = ls at hl ⊢
  exact tX4_isWhich_0 C0 hl hf
abbrev rmX4_partOf : Room := { frames := 0, cells := 0, slots := 0, locals := 0 }
set_option maxHeartbeats 4000000 in
set_option maxRecDepth 100000 in
theorem tX4_partOf_54 {p : Program} {l : Launch} {e : Env} {s : State} {m : MethodId} {args : Array Value} {below : List Frame} {meth : Method} {c : Code} {E : EE} {out : Int64} (C0 : cx wsX4_partOf cX4_partOf 12 (some .long) RX4 E p s m args meth c) {x5 : Int64} {xs0 : Int64} {ls : Array Slot} (hl : lv_has ls 12 [(5, .long x5)]) (hf : fX4_partOf_54 x5 xs0 = some out) : W p l e rmX4_partOf s m args below meth c s.heap [] 0 0 (MQ below (vp_Sl (fun r => r = out)) args s 0 0 (fun _ => False)) (F0 m 54 ls [.long xs0]) := by
  obtain ⟨hx, hb, hr, hml, hown, hts, hlk, hK⟩ := id C0
  unfold fX4_partOf_54 at hf
  refine lv_lstore (lv' := [(9, .long xs0), (5, .long x5)]) hx hb dX4_partOf_54 hl (by decide) rfl (fun ls hl => ?_)
  refine lv_lload hx hb dX4_partOf_56 (lv_at hl 1 rfl) ?_
  refine lv_lconst (v := (0 : Int64)) hx hb dX4_partOf_58 (by decide) ?_
  refine W.lcmp hx hb dX4_partOf_59 ?_
  refine lv_if_ne (tgt := 68) hx hb dX4_partOf_60 (by decide) (fun c1 => ?_) (fun c1 => ?_)
  · have hf := el hf c1
    refine lv_lload hx hb dX4_partOf_68 (lv_at hl 0 rfl) ?_
    refine lv_lload hx hb dX4_partOf_70 (lv_at hl 1 rfl) ?_
    obtain ⟨h2, hf⟩ := gd hf
    refine lv_ldiv hx hb dX4_partOf_72 h2 ?_
    exact e_roL C0 hf dX4_partOf_73
  · have hf := th hf c1
    refine lv_lload hx hb dX4_partOf_63 (lv_at hl 0 rfl) ?_
    refine lv_goto (tgt := 73) hx hb dX4_partOf_65 (by decide) ?_
    exact e_roL C0 hf dX4_partOf_73
set_option maxHeartbeats 4000000 in
set_option maxRecDepth 100000 in
theorem tX4_partOf_44 {p : Program} {l : Launch} {e : Env} {s : State} {m : MethodId} {args : Array Value} {below : List Frame} {meth : Method} {c : Code} {E : EE} {out : Int64} (C0 : cx wsX4_partOf cX4_partOf 12 (some .long) RX4 E p s m args meth c) {x0 : Int64} {x2 : Int64} {x4 : Int32} {x5 : Int64} {ls : Array Slot} (hl : lv_has ls 12 [(0, .long x0), (2, .long x2), (4, .int x4), (5, .long x5)]) (hf : fX4_partOf_44 x0 x2 x4 x5 = some out) : W p l e rmX4_partOf s m args below meth c s.heap [] 0 0 (MQ below (vp_Sl (fun r => r = out)) args s 0 0 (fun _ => False)) (F0 m 44 ls []) := by
  obtain ⟨hx, hb, hr, hml, hown, hts, hlk, hK⟩ := id C0
  unfold fX4_partOf_44 at hf
  refine lv_iload hx hb dX4_partOf_44 (lv_at hl 2 rfl) ?_
  refine lv_if_ne (tgt := 53) hx hb dX4_partOf_46 (by decide) (fun c1 => ?_) (fun c1 => ?_)
  · have hf := el hf c1
    refine lv_lload_n hx hb dX4_partOf_53 rfl (lv_at hl 1 rfl) ?_
    exact tX4_partOf_54 C0 (lv_sub hl [3] rfl) hf
  · have hf := th hf c1
    refine lv_lload_n hx hb dX4_partOf_49 rfl (lv_at hl 0 rfl) ?_
    refine lv_goto (tgt := 54) hx hb dX4_partOf_50 (by decide) ?_
    exact tX4_partOf_54 C0 (lv_sub hl [3] rfl) hf
set_option maxHeartbeats 4000000 in
set_option maxRecDepth 100000 in
theorem tX4_partOf_9 {p : Program} {l : Launch} {e : Env} {s : State} {m : MethodId} {args : Array Value} {below : List Frame} {meth : Method} {c : Code} {E : EE} {out : Int64} (C0 : cx wsX4_partOf cX4_partOf 12 (some .long) RX4 E p s m args meth c) : ∀ (n : Nat) (x0 : Int64) (x2 : Int64) (x4 : Int32) (x5 : Int64) (x7 : Int64) (x9 : Int32) (ls : Array Slot), lv_has ls 12 [(0, .long x0), (2, .long x2), (4, .int x4), (5, .long x5), (7, .long x7), (9, .int x9)] → fX4_partOf_9 n x0 x2 x4 x5 x7 x9 = some out → W p l e rmX4_partOf s m args below meth c s.heap [] 0 0 (MQ below (vp_Sl (fun r => r = out)) args s 0 0 (fun _ => False)) (F0 m 9 ls []) := by
  obtain ⟨hx, hb, hr, hml, hown, hts, hlk, hK⟩ := id C0
  intro n
  induction n with
  | zero =>
    intro x0 x2 x4 x5 x7 x9 ls hl hf
    cases (show none = some out from hf)
  | succ n ih =>
    intro x0 x2 x4 x5 x7 x9 ls hl hf
    rw [fX4_partOf_9] at hf
    refine lv_iload hx hb dX4_partOf_9 (lv_at hl 5 rfl) ?_
    refine lv_bipush (v := (100 : Int32)) hx hb dX4_partOf_11 (by decide) ?_
    refine lv_icmp_ge (tgt := 44) hx hb dX4_partOf_13 (by decide) (fun c1 => ?_) (fun c1 => ?_)
    · have hf := th hf c1
      exact tX4_partOf_44 C0 (lv_sub hl [0, 1, 2, 3] rfl) hf
    · have hf := el hf c1
      refine lv_lload hx hb dX4_partOf_16 (lv_at hl 4 rfl) ?_
      refine lv_lconst (v := (0 : Int64)) hx hb dX4_partOf_18 (by decide) ?_
      refine W.lcmp hx hb dX4_partOf_19 ?_
      refine lv_if_eq (tgt := 44) hx hb dX4_partOf_20 (by decide) (fun c2 => ?_) (fun c2 => ?_)
      · have hf := th hf c2
        exact tX4_partOf_44 C0 (lv_sub hl [0, 1, 2, 3] rfl) hf
      · have hf := el hf c2
        refine lv_lload hx hb dX4_partOf_23 (lv_at hl 3 rfl) ?_
        refine lv_lload hx hb dX4_partOf_25 (lv_at hl 4 rfl) ?_
        obtain ⟨h3, hf⟩ := gd hf
        refine lv_lrem hx hb dX4_partOf_27 h3 ?_
        refine lv_lstore (lv' := [(10, .long (x5 - x5 / x7 * x7)), (0, .long x0), (2, .long x2), (4, .int x4), (5, .long x5), (7, .long x7), (9, .int x9)]) hx hb dX4_partOf_28 hl (by decide) rfl (fun ls hl => ?_)
        refine lv_lload hx hb dX4_partOf_30 (lv_at hl 5 rfl) ?_
        refine lv_lstore (lv' := [(5, .long x7), (10, .long (x5 - x5 / x7 * x7)), (0, .long x0), (2, .long x2), (4, .int x4), (7, .long x7), (9, .int x9)]) hx hb dX4_partOf_32 hl (by decide) rfl (fun ls hl => ?_)
        refine lv_lload hx hb dX4_partOf_34 (lv_at hl 1 rfl) ?_
        refine lv_lstore (lv' := [(7, .long (x5 - x5 / x7 * x7)), (5, .long x7), (10, .long (x5 - x5 / x7 * x7)), (0, .long x0), (2, .long x2), (4, .int x4), (9, .int x9)]) hx hb dX4_partOf_36 hl (by decide) rfl (fun ls hl => ?_)
        refine lv_iinc (v := (x9 + (1 : Int32))) (lv' := [(9, .int (x9 + (1 : Int32))), (7, .long (x5 - x5 / x7 * x7)), (5, .long x7), (10, .long (x5 - x5 / x7 * x7)), (0, .long x0), (2, .long x2), (4, .int x4)]) hx hb dX4_partOf_38 hl (k := 6) rfl rfl (by decide) rfl (fun ls hl => ?_)
        refine lv_goto (tgt := 9) hx hb dX4_partOf_41 (by decide) ?_
        exact ih _ _ _ _ _ _ _ (lv_sub hl [4, 5, 6, 2, 1, 0] rfl) hf
set_option maxHeartbeats 4000000 in
set_option maxRecDepth 100000 in
theorem tX4_partOf_0 {p : Program} {l : Launch} {e : Env} {s : State} {m : MethodId} {args : Array Value} {below : List Frame} {meth : Method} {c : Code} {E : EE} {out : Int64} (C0 : cx wsX4_partOf cX4_partOf 12 (some .long) RX4 E p s m args meth c) {x0 : Int64} {x2 : Int64} {x4 : Int32} {ls : Array Slot} (hl : lv_has ls 12 [(0, .long x0), (2, .long x2), (4, .int x4)]) (hf : fX4_partOf x0 x2 x4 = some out) : W p l e rmX4_partOf s m args below meth c s.heap [] 0 0 (MQ below (vp_Sl (fun r => r = out)) args s 0 0 (fun _ => False)) (F0 m 0 ls []) := by
  obtain ⟨hx, hb, hr, hml, hown, hts, hlk, hK⟩ := id C0
  unfold fX4_partOf at hf
  refine lv_lload_n hx hb dX4_partOf_0 rfl (lv_at hl 0 rfl) ?_
  refine lv_lstore (lv' := [(5, .long x0), (0, .long x0), (2, .long x2), (4, .int x4)]) hx hb dX4_partOf_1 hl (by decide) rfl (fun ls hl => ?_)
  refine lv_lload_n hx hb dX4_partOf_3 rfl (lv_at hl 2 rfl) ?_
  refine lv_lstore (lv' := [(7, .long x2), (5, .long x0), (0, .long x0), (2, .long x2), (4, .int x4)]) hx hb dX4_partOf_4 hl (by decide) rfl (fun ls hl => ?_)
  refine lv_iconst (v := (0 : Int32)) hx hb dX4_partOf_6 (by decide) ?_
  refine lv_istore (lv' := [(9, .int (0 : Int32)), (7, .long x2), (5, .long x0), (0, .long x0), (2, .long x2), (4, .int x4)]) hx hb dX4_partOf_7 hl (by decide) rfl (fun ls hl => ?_)
  exact tX4_partOf_9 C0 fu _ _ _ _ _ _ _ (lv_sub hl [3, 4, 5, 2, 1, 0] rfl) hf
set_option maxHeartbeats 4000000 in
set_option maxRecDepth 100000 in
theorem tX4_partOf {l : Launch} (E : EE) {x0 : Int64} {x2 : Int64} {x4 : Int32} {out : Int64} (hf : fX4_partOf x0 x2 x4 = some out) : roL l yX4_partOf wsX4_partOf rmX4_partOf E [.long x0, .long x2, .int x4] ((fun _ => True)) out := by
  refine Met.ofW (cc := cX4_partOf) (maxL := 12) (ret := (some .long)) (by decide) rfl ?_
  intro p e s m args below meth c s₁ B0 hml hv
  obtain ⟨rfl, -, hK⟩ := hv
  have C0 : cx wsX4_partOf cX4_partOf 12 (some .long) RX4 E p s m _ meth c := ⟨B0.exec, B0.bytes, B0.returns, hml, findClass_of_methodNamed B0.named, atoms_spec (ws := wsX4_partOf) B0.pre, B0.notSynchronized, hK⟩
  have hl := lv_entry ([.long x0, .long x2, .int x4]) (n := 12) (Nat.le_of_ble_eq_true rfl)
  rw [lg_entry_eq]
  generalize (lg_sl ([.long x0, .long x2, .int x4]) ++ List.replicate (12 - (lg_sl ([.long x0, .long x2, .int x4])).length) Slot.unset).toArray = ls at hl ⊢
  exact tX4_partOf_0 C0 hl hf
abbrev rmX4_rules : Room := { frames := 4, cells := 0, slots := 0, locals := 87 }
set_option maxRecDepth 20000 in
theorem iX4_rules_X4 : ∀ w ∈ wsX40, w ∈ wsX4_rules := by decide +kernel
set_option maxHeartbeats 4000000 in
set_option maxRecDepth 100000 in
theorem tX4_rules_15 {p : Program} {l : Launch} {e : Env} {s : State} {m : MethodId} {args : Array Value} {below : List Frame} {meth : Method} {c : Code} {E : EE} {B : Nat → Nat} {A : Nat → Prop} {out : Int64 × SX} (C0 : cx wsX4_rules cX4_rules 3 (some .long) RX4 E p s m args meth c) {u : SX} {H : Heap} {locs : List Loc} {ls : Array Slot} (hW : WX E A B u s H locs) (hl : lv_has ls 3 []) (hf : fX4_rules_15 u = some out) : W p l e rmX4_rules s m args below meth c H locs 0 0 (MQ below (va_Ql (fun r (_ : Unit) => r = out.1) (fun _ t => QX E A B out.2 t.heap) A) args s 0 0 A) (F0 m 15 ls []) := by
  obtain ⟨hx, hb, hr, hml, hown, hts, hlk, hK⟩ := id C0
  unfold fX4_rules_15 at hf
  refine lv_ldc2 hx hb hown (hts (.constantLong RX4 117 (-9223372036854775808)) (by decide +kernel)) dX4_rules_15 ?_
  obtain rfl := Option.some.inj hf
  exact e_muL (QH := QX E A B u) C0 hW.2.2.2 rfl ⟨hW.1, hW.2.1, hW.2.2.1⟩ dX4_rules_18
set_option maxHeartbeats 4000000 in
set_option maxRecDepth 100000 in
theorem tX4_rules_0 {p : Program} {l : Launch} {e : Env} {s : State} {m : MethodId} {args : Array Value} {below : List Frame} {meth : Method} {c : Code} {E : EE} {B : Nat → Nat} {A : Nat → Prop} {out : Int64 × SX} (C0 : cx wsX4_rules cX4_rules 3 (some .long) RX4 E p s m args meth c) {x1 : Int32} {x2 : Int32} {u : SX} {H : Heap} {locs : List Loc} {ls : Array Slot} (hW : WX E A B u s H locs) (hl : lv_has ls 3 [(0, .ref (B 0)), (1, .int x1), (2, .int x2)]) (hf : fX4_rules x1 x2 u = some out) : W p l e rmX4_rules s m args below meth c H locs 0 0 (MQ below (va_Ql (fun r (_ : Unit) => r = out.1) (fun _ t => QX E A B out.2 t.heap) A) args s 0 0 A) (F0 m 0 ls []) := by
  obtain ⟨hx, hb, hr, hml, hown, hts, hlk, hK⟩ := id C0
  unfold fX4_rules at hf
  refine lv_aload_n hx hb dX4_rules_0 rfl (lv_at hl 0 rfl) ?_
  refine lv_iload_n hx hb dX4_rules_1 rfl (lv_at hl 1 rfl) ?_
  obtain ⟨q1, h2, hf⟩ := bd hf
  refine k_roQ (run_V (rest := []) (n := 1) C0 (tX4_citizen (u := u) E B h2) gX4_rules_X4_citizen rfl rfl (by decide +kernel) (hW.1 0 _ rfl) rfl rfl hW.1 hl.1 rfl rfl (Nat.le_of_ble_eq_true rfl) dX4_rules_2) ?_
  cases q1 with
  | none =>
    rw [Option.elim_none] at hf
    refine W.eq (g2 := F0 m 5 ls [.null]) rfl ?_
    refine lv_ifnullN (tgt := 15) hx hb dX4_rules_5 (by decide) ?_
    exact tX4_rules_15 C0 hW (lv_sub hl [] rfl) hf
  | some k3 =>
    rw [Option.elim_some] at hf
    obtain ⟨h4, hf⟩ := gd hf
    refine W.eq (g2 := F0 m 5 ls [.ref (B (8 + k3))]) rfl ?_
    refine lv_ifnull hx hb dX4_rules_5 ?_
    refine lv_iload_n hx hb dX4_rules_8 rfl (lv_at hl 2 rfl) ?_
    obtain ⟨q5, h6, hf⟩ := bd hf
    refine k_roI (run_S (rest := []) (n := 1) (PH := fun _ => True) C0 (tX4_isWhich E h6) gX4_rules_X4_isWhich rfl rfl (by decide +kernel) trivial hl.1 rfl rfl (Nat.le_of_ble_eq_true rfl) dX4_rules_9) ?_
    refine lv_if_ne (tgt := 19) hx hb dX4_rules_12 (by decide) (fun c7 => ?_) (fun c7 => ?_)
    · have hf := el hf c7
      refine lv_aload_n hx hb dX4_rules_19 rfl (lv_at hl 0 rfl) ?_
      obtain ⟨q8, h9, hf⟩ := bd hf
      refine k_muV (run_V (rest := []) (n := 0) C0 (tX4_fillDrum (u := u) E A B hW.2.1 hW.2.2.1 h9) gX4_rules_X4_fillDrum rfl rfl (by decide +kernel) (hW.1 0 _ rfl) rfl rfl hW.1 hl.1 rfl rfl (Nat.le_of_ble_eq_true rfl) dX4_rules_20) hW.2.2.2 (fun _ h => h) (fun H locs hQ _ hS => ?_)
      have hW : WX E A B q8 s H locs := ⟨hQ.1, hQ.2.1, hQ.2.2, hS⟩
      refine lv_aload_n hx hb dX4_rules_23 rfl (lv_at hl 0 rfl) ?_
      refine x_get C0 hW.1 iX4_rules_X4 7 (by decide) (by decide +kernel) rfl dX4_rules_24 ?_
      refine lv_iload_n hx hb dX4_rules_27 rfl (lv_at hl 1 rfl) ?_
      obtain ⟨q10, h11, hf⟩ := bd hf
      refine k_roL (run_VN (rest := []) (n := 1) C0 (tX1_drawsSparing E (fun i => B (4 + i)) h11) gX4_rules_X1_drawsSparing_n119 rfl (by decide +kernel) (by decide +kernel) (by decide +kernel) (by decide +kernel) rfl (by decide +kernel) (hW.1.drum 0 _ rfl) rfl rfl hW.1.drum hl.1 rfl rfl (Nat.le_of_ble_eq_true rfl) dX4_rules_28) ?_
      refine lv_aload_n hx hb dX4_rules_31 rfl (lv_at hl 0 rfl) ?_
      refine x_get C0 hW.1 iX4_rules_X4 7 (by decide) (by decide +kernel) rfl dX4_rules_32 ?_
      obtain ⟨q12, h13, hf⟩ := bd hf
      refine k_roL (run_VN (rest := [.long q10]) (n := 0) C0 (tX1_draws E (fun i => B (4 + i)) h13) gX4_rules_X1_draws_n123 rfl (by decide +kernel) (by decide +kernel) (by decide +kernel) (by decide +kernel) rfl (by decide +kernel) (hW.1.drum 0 _ rfl) rfl rfl hW.1.drum hl.1 rfl rfl (Nat.le_of_ble_eq_true rfl) dX4_rules_35) ?_
      refine lv_iload_n hx hb dX4_rules_38 rfl (lv_at hl 2 rfl) ?_
      obtain ⟨q14, h15, hf⟩ := bd hf
      refine k_roL (run_S (rest := []) (n := 3) (PH := fun _ => True) C0 (tX4_partOf E h15) gX4_rules_X4_partOf rfl rfl (by decide +kernel) trivial hl.1 rfl rfl (Nat.le_of_ble_eq_true rfl) dX4_rules_39) ?_
      obtain rfl := Option.some.inj hf
      exact e_muL (QH := QX E A B q8) C0 hW.2.2.2 rfl ⟨hW.1, hW.2.1, hW.2.2.1⟩ dX4_rules_42
    · have hf := th hf c7
      exact tX4_rules_15 C0 hW (lv_sub hl [] rfl) hf
set_option maxHeartbeats 4000000 in
set_option maxRecDepth 100000 in
theorem tX4_rules {l : Launch} (E : EE) (A : Nat → Prop) (B : Nat → Nat) {u : SX} {x1 : Int32} {x2 : Int32} {out : Int64 × SX} (hI : fI (cX E B u)) (hA : AX E B u A) (hf : fX4_rules x1 x2 u = some out) : muL l yX4_rules wsX4_rules rmX4_rules E [.ref (B 0), .int x1, .int x2] A (fP E (cX E B u)) (QX E A B out.2) out.1 := by
  refine Met.ofW (cc := cX4_rules) (maxL := 3) (ret := (some .long)) (by decide) rfl ?_
  intro p e s m args below meth c s₁ B0 hml hv
  obtain ⟨rfl, hP, hK⟩ := hv
  have C0 : cx wsX4_rules cX4_rules 3 (some .long) RX4 E p s m _ meth c := ⟨B0.exec, B0.bytes, B0.returns, hml, findClass_of_methodNamed B0.named, atoms_spec (ws := wsX4_rules) B0.pre, B0.notSynchronized, hK⟩
  have hl := lv_entry ([.ref (B 0), .int x1, .int x2]) (n := 3) (Nat.le_of_ble_eq_true rfl)
  rw [lg_entry_eq]
  generalize (lg_sl ([.ref (B 0), .int x1, .int x2]) ++ List.replicate (3 - (lg_sl ([.ref (B 0), .int x1, .int x2])).length) Slot.unset).toArray = ls at hl ⊢
  exact tX4_rules_0 C0 ⟨hP, hI, hA, va_S.rf⟩ hl hf
abbrev rmX4_isSet : Room := { frames := 0, cells := 0, slots := 0, locals := 0 }
set_option maxRecDepth 20000 in
theorem iX4_isSet_X4 : ∀ w ∈ wsX40, w ∈ wsX4_isSet := by decide +kernel
set_option maxHeartbeats 4000000 in
set_option maxRecDepth 100000 in
theorem tX4_isSet_18 {p : Program} {l : Launch} {e : Env} {s : State} {m : MethodId} {args : Array Value} {below : List Frame} {meth : Method} {c : Code} {E : EE} {B : Nat → Nat} {u : SX} {out : Int32} (C0 : cx wsX4_isSet cX4_isSet 2 (some .boolean) RX4 E p s m args meth c) (hP : fP E (cX E B u) s.heap) {ls : Array Slot} (hl : lv_has ls 2 []) (hf : fX4_isSet_18 u = some out) : W p l e rmX4_isSet s m args below meth c s.heap [] 0 0 (MQ below (vp_Si (fun r => r = out)) args s 0 0 (fun _ => False)) (F0 m 18 ls []) := by
  obtain ⟨hx, hb, hr, hml, hown, hts, hlk, hK⟩ := id C0
  unfold fX4_isSet_18 at hf
  refine lv_iconst (v := (0 : Int32)) hx hb dX4_isSet_18 (by decide) ?_
  exact e_roZ C0 hf dX4_isSet_19
set_option maxHeartbeats 4000000 in
set_option maxRecDepth 100000 in
theorem tX4_isSet_0 {p : Program} {l : Launch} {e : Env} {s : State} {m : MethodId} {args : Array Value} {below : List Frame} {meth : Method} {c : Code} {E : EE} {B : Nat → Nat} {u : SX} {out : Int32} (C0 : cx wsX4_isSet cX4_isSet 2 (some .boolean) RX4 E p s m args meth c) (hP : fP E (cX E B u) s.heap) {x1 : Int32} {ls : Array Slot} (hl : lv_has ls 2 [(0, .ref (B 0)), (1, .int x1)]) (hf : fX4_isSet x1 u = some out) : W p l e rmX4_isSet s m args below meth c s.heap [] 0 0 (MQ below (vp_Si (fun r => r = out)) args s 0 0 (fun _ => False)) (F0 m 0 ls []) := by
  obtain ⟨hx, hb, hr, hml, hown, hts, hlk, hK⟩ := id C0
  unfold fX4_isSet at hf
  refine lv_iload_n hx hb dX4_isSet_0 rfl (lv_at hl 1 rfl) ?_
  refine lv_if_lt (tgt := 18) hx hb dX4_isSet_1 (by decide) (fun c1 => ?_) (fun c1 => ?_)
  · have hf := th hf c1
    exact tX4_isSet_18 C0 hP (lv_sub hl [] rfl) hf
  · have hf := el hf c1
    refine lv_iload_n hx hb dX4_isSet_4 rfl (lv_at hl 1 rfl) ?_
    refine lv_iconst (v := (1 : Int32)) hx hb dX4_isSet_5 (by decide) ?_
    refine lv_aload_n hx hb dX4_isSet_6 rfl (lv_at hl 0 rfl) ?_
    refine x_get C0 hP iX4_isSet_X4 1 (by decide) (by decide +kernel) rfl dX4_isSet_7 ?_
    refine lv_ishl hx hb dX4_isSet_10 ?_
    refine lv_icmp_ge (tgt := 18) hx hb dX4_isSet_11 (by decide) (fun c2 => ?_) (fun c2 => ?_)
    · have hf := th hf c2
      exact tX4_isSet_18 C0 hP (lv_sub hl [] rfl) hf
    · have hf := el hf c2
      refine lv_iconst (v := (1 : Int32)) hx hb dX4_isSet_14 (by decide) ?_
      refine lv_goto (tgt := 19) hx hb dX4_isSet_15 (by decide) ?_
      exact e_roZ C0 hf dX4_isSet_19
set_option maxHeartbeats 4000000 in
set_option maxRecDepth 100000 in
theorem tX4_isSet {l : Launch} (E : EE) (B : Nat → Nat) {u : SX} {x1 : Int32} {out : Int32} (hf : fX4_isSet x1 u = some out) : roI l yX4_isSet wsX4_isSet rmX4_isSet E [.ref (B 0), .int x1] (fP E (cX E B u)) out := by
  refine Met.ofW (cc := cX4_isSet) (maxL := 2) (ret := (some .boolean)) (by decide) rfl ?_
  intro p e s m args below meth c s₁ B0 hml hv
  obtain ⟨rfl, hP, hK⟩ := hv
  have C0 : cx wsX4_isSet cX4_isSet 2 (some .boolean) RX4 E p s m _ meth c := ⟨B0.exec, B0.bytes, B0.returns, hml, findClass_of_methodNamed B0.named, atoms_spec (ws := wsX4_isSet) B0.pre, B0.notSynchronized, hK⟩
  have hl := lv_entry ([.ref (B 0), .int x1]) (n := 2) (Nat.le_of_ble_eq_true rfl)
  rw [lg_entry_eq]
  generalize (lg_sl ([.ref (B 0), .int x1]) ++ List.replicate (2 - (lg_sl ([.ref (B 0), .int x1])).length) Slot.unset).toArray = ls at hl ⊢
  exact tX4_isSet_0 C0 hP hl hf
abbrev rmX4_just : Room := { frames := 5, cells := 0, slots := 0, locals := 118 }
set_option maxRecDepth 20000 in
theorem iX4_just_X4 : ∀ w ∈ wsX40, w ∈ wsX4_just := by decide +kernel
set_option maxHeartbeats 4000000 in
set_option maxRecDepth 100000 in
theorem tX4_just_22 {p : Program} {l : Launch} {e : Env} {s : State} {m : MethodId} {args : Array Value} {below : List Frame} {meth : Method} {c : Code} {E : EE} {B : Nat → Nat} {A : Nat → Prop} {out : Int64 × SX} (C0 : cx wsX4_just cX4_just 3 (some .long) RX4 E p s m args meth c) {u : SX} {H : Heap} {locs : List Loc} {ls : Array Slot} (hW : WX E A B u s H locs) (hl : lv_has ls 3 []) (hf : fX4_just_22 u = some out) : W p l e rmX4_just s m args below meth c H locs 0 0 (MQ below (va_Ql (fun r (_ : Unit) => r = out.1) (fun _ t => QX E A B out.2 t.heap) A) args s 0 0 A) (F0 m 22 ls []) := by
  obtain ⟨hx, hb, hr, hml, hown, hts, hlk, hK⟩ := id C0
  unfold fX4_just_22 at hf
  refine lv_ldc2 hx hb hown (hts (.constantLong RX4 117 (-9223372036854775808)) (by decide +kernel)) dX4_just_22 ?_
  obtain rfl := Option.some.inj hf
  exact e_muL (QH := QX E A B u) C0 hW.2.2.2 rfl ⟨hW.1, hW.2.1, hW.2.2.1⟩ dX4_just_25
set_option maxHeartbeats 4000000 in
set_option maxRecDepth 100000 in
theorem tX4_just_0 {p : Program} {l : Launch} {e : Env} {s : State} {m : MethodId} {args : Array Value} {below : List Frame} {meth : Method} {c : Code} {E : EE} {B : Nat → Nat} {A : Nat → Prop} {out : Int64 × SX} (C0 : cx wsX4_just cX4_just 3 (some .long) RX4 E p s m args meth c) {x1 : Int32} {x2 : Int32} {u : SX} {H : Heap} {locs : List Loc} {ls : Array Slot} (hW : WX E A B u s H locs) (hl : lv_has ls 3 [(0, .ref (B 0)), (1, .int x1), (2, .int x2)]) (hf : fX4_just x1 x2 u = some out) : W p l e rmX4_just s m args below meth c H locs 0 0 (MQ below (va_Ql (fun r (_ : Unit) => r = out.1) (fun _ t => QX E A B out.2 t.heap) A) args s 0 0 A) (F0 m 0 ls []) := by
  obtain ⟨hx, hb, hr, hml, hown, hts, hlk, hK⟩ := id C0
  unfold fX4_just at hf
  refine lv_aload_n hx hb dX4_just_0 rfl (lv_at hl 0 rfl) ?_
  refine x_get C0 hW.1 iX4_just_X4 1 (by decide) (by decide +kernel) rfl dX4_just_1 ?_
  refine lv_if_eq (tgt := 22) hx hb dX4_just_4 (by decide) (fun c1 => ?_) (fun c1 => ?_)
  · have hf := th hf c1
    exact tX4_just_22 C0 hW (lv_sub hl [] rfl) hf
  · have hf := el hf c1
    refine lv_aload_n hx hb dX4_just_7 rfl (lv_at hl 0 rfl) ?_
    refine lv_iload_n hx hb dX4_just_8 rfl (lv_at hl 1 rfl) ?_
    obtain ⟨q2, h3, hf⟩ := bd hf
    refine k_roI (run_V (rest := []) (n := 1) C0 (tX4_isSet (u := u) E B h3) gX4_just_X4_isSet rfl rfl (by decide +kernel) (hW.1 0 _ rfl) rfl rfl hW.1 hl.1 rfl rfl (Nat.le_of_ble_eq_true rfl) dX4_just_9) ?_
    refine lv_if_eq (tgt := 22) hx hb dX4_just_12 (by decide) (fun c4 => ?_) (fun c4 => ?_)
    · have hf := th hf c4
      exact tX4_just_22 C0 hW (lv_sub hl [] rfl) hf
    · have hf := el hf c4
      refine lv_iload_n hx hb dX4_just_15 rfl (lv_at hl 2 rfl) ?_
      obtain ⟨q5, h6, hf⟩ := bd hf
      refine k_roI (run_S (rest := []) (n := 1) (PH := fun _ => True) C0 (tX4_isWhich E h6) gX4_just_X4_isWhich rfl rfl (by decide +kernel) trivial hl.1 rfl rfl (Nat.le_of_ble_eq_true rfl) dX4_just_16) ?_
      refine lv_if_ne (tgt := 26) hx hb dX4_just_19 (by decide) (fun c7 => ?_) (fun c7 => ?_)
      · have hf := el hf c7
        refine lv_aload_n hx hb dX4_just_26 rfl (lv_at hl 0 rfl) ?_
        obtain ⟨q8, h9, hf⟩ := bd hf
        refine k_muV (run_V (rest := []) (n := 0) C0 (tX4_fillDrum (u := u) E A B hW.2.1 hW.2.2.1 h9) gX4_just_X4_fillDrum rfl rfl (by decide +kernel) (hW.1 0 _ rfl) rfl rfl hW.1 hl.1 rfl rfl (Nat.le_of_ble_eq_true rfl) dX4_just_27) hW.2.2.2 (fun _ h => h) (fun H locs hQ _ hS => ?_)
        have hW : WX E A B q8 s H locs := ⟨hQ.1, hQ.2.1, hQ.2.2, hS⟩
        refine lv_aload_n hx hb dX4_just_30 rfl (lv_at hl 0 rfl) ?_
        refine x_get C0 hW.1 iX4_just_X4 7 (by decide) (by decide +kernel) rfl dX4_just_31 ?_
        refine lv_iload_n hx hb dX4_just_34 rfl (lv_at hl 1 rfl) ?_
        obtain ⟨q10, h11, hf⟩ := bd hf
        refine k_muL (run_VN (rest := []) (n := 1) C0 (tX1_drawsLeavingJust E (fun i => B (4 + i)) hW.2.1.drum h11) gX4_just_X1_drawsLeavingJust_n134 rfl (by decide +kernel) (by decide +kernel) (by decide +kernel) (by decide +kernel) rfl (by decide +kernel) (hW.1.drum 0 _ rfl) rfl rfl hW.1.drum hl.1 rfl rfl (Nat.le_of_ble_eq_true rfl) dX4_just_35) hW.2.2.2 hW.2.2.1.drum (fun H locs hQ hk hS => ?_)
        have hW := hW.join hQ hk hS
        have hW : WX E A B (q8.1, q8.2.1, q8.2.2.1, q8.2.2.2.1, q10.2) s H locs := hW
        refine lv_aload_n hx hb dX4_just_38 rfl (lv_at hl 0 rfl) ?_
        refine x_get C0 hW.1 iX4_just_X4 7 (by decide) (by decide +kernel) rfl dX4_just_39 ?_
        obtain ⟨q12, h13, hf⟩ := bd hf
        refine k_roL (run_VN (rest := [.long q10.1]) (n := 0) C0 (tX1_draws E (fun i => B (4 + i)) h13) gX4_just_X1_draws_n123 rfl (by decide +kernel) (by decide +kernel) (by decide +kernel) (by decide +kernel) rfl (by decide +kernel) (hW.1.drum 0 _ rfl) rfl rfl hW.1.drum hl.1 rfl rfl (Nat.le_of_ble_eq_true rfl) dX4_just_42) ?_
        refine lv_iload_n hx hb dX4_just_45 rfl (lv_at hl 2 rfl) ?_
        obtain ⟨q14, h15, hf⟩ := bd hf
        refine k_roL (run_S (rest := []) (n := 3) (PH := fun _ => True) C0 (tX4_partOf E h15) gX4_just_X4_partOf rfl rfl (by decide +kernel) trivial hl.1 rfl rfl (Nat.le_of_ble_eq_true rfl) dX4_just_46) ?_
        obtain rfl := Option.some.inj hf
        exact e_muL (QH := QX E A B (q8.1, q8.2.1, q8.2.2.1, q8.2.2.2.1, q10.2)) C0 hW.2.2.2 rfl ⟨hW.1, hW.2.1, hW.2.2.1⟩ dX4_just_49
      · have hf := th hf c7
        exact tX4_just_22 C0 hW (lv_sub hl [] rfl) hf
set_option maxHeartbeats 4000000 in
set_option maxRecDepth 100000 in
theorem tX4_just {l : Launch} (E : EE) (A : Nat → Prop) (B : Nat → Nat) {u : SX} {x1 : Int32} {x2 : Int32} {out : Int64 × SX} (hI : fI (cX E B u)) (hA : AX E B u A) (hf : fX4_just x1 x2 u = some out) : muL l yX4_just wsX4_just rmX4_just E [.ref (B 0), .int x1, .int x2] A (fP E (cX E B u)) (QX E A B out.2) out.1 := by
  refine Met.ofW (cc := cX4_just) (maxL := 3) (ret := (some .long)) (by decide) rfl ?_
  intro p e s m args below meth c s₁ B0 hml hv
  obtain ⟨rfl, hP, hK⟩ := hv
  have C0 : cx wsX4_just cX4_just 3 (some .long) RX4 E p s m _ meth c := ⟨B0.exec, B0.bytes, B0.returns, hml, findClass_of_methodNamed B0.named, atoms_spec (ws := wsX4_just) B0.pre, B0.notSynchronized, hK⟩
  have hl := lv_entry ([.ref (B 0), .int x1, .int x2]) (n := 3) (Nat.le_of_ble_eq_true rfl)
  rw [lg_entry_eq]
  generalize (lg_sl ([.ref (B 0), .int x1, .int x2]) ++ List.replicate (3 - (lg_sl ([.ref (B 0), .int x1, .int x2])).length) Slot.unset).toArray = ls at hl ⊢
  exact tX4_just_0 C0 ⟨hP, hI, hA, va_S.rf⟩ hl hf
abbrev rmX4_mean : Room := { frames := 4, cells := 0, slots := 0, locals := 87 }
set_option maxRecDepth 20000 in
theorem iX4_mean_X4 : ∀ w ∈ wsX40, w ∈ wsX4_mean := by decide +kernel
set_option maxHeartbeats 4000000 in
set_option maxRecDepth 100000 in
theorem tX4_mean_14 {p : Program} {l : Launch} {e : Env} {s : State} {m : MethodId} {args : Array Value} {below : List Frame} {meth : Method} {c : Code} {E : EE} {B : Nat → Nat} {A : Nat → Prop} {out : Int64 × SX} (C0 : cx wsX4_mean cX4_mean 5 (some .long) RX4 E p s m args meth c) {u : SX} {H : Heap} {locs : List Loc} {ls : Array Slot} (hW : WX E A B u s H locs) (hl : lv_has ls 5 []) (hf : fX4_mean_14 u = some out) : W p l e rmX4_mean s m args below meth c H locs 0 0 (MQ below (va_Ql (fun r (_ : Unit) => r = out.1) (fun _ t => QX E A B out.2 t.heap) A) args s 0 0 A) (F0 m 14 ls []) := by
  obtain ⟨hx, hb, hr, hml, hown, hts, hlk, hK⟩ := id C0
  unfold fX4_mean_14 at hf
  refine lv_ldc2 hx hb hown (hts (.constantLong RX4 117 (-9223372036854775808)) (by decide +kernel)) dX4_mean_14 ?_
  obtain rfl := Option.some.inj hf
  exact e_muL (QH := QX E A B u) C0 hW.2.2.2 rfl ⟨hW.1, hW.2.1, hW.2.2.1⟩ dX4_mean_17
set_option maxHeartbeats 4000000 in
set_option maxRecDepth 100000 in
theorem tX4_mean_27 {p : Program} {l : Launch} {e : Env} {s : State} {m : MethodId} {args : Array Value} {below : List Frame} {meth : Method} {c : Code} {E : EE} {B : Nat → Nat} {A : Nat → Prop} {out : Int64 × SX} (C0 : cx wsX4_mean cX4_mean 5 (some .long) RX4 E p s m args meth c) : ∀ (n : Nat) (x1 : Int32) (x2 : Int64) (x4 : Int32) (u : SX) (H : Heap) (locs : List Loc) (ls : Array Slot) (_ : WX E A B u s H locs), lv_has ls 5 [(0, .ref (B 0)), (1, .int x1), (2, .long x2), (4, .int x4)] → fX4_mean_27 n x1 x2 x4 u = some out → W p l e rmX4_mean s m args below meth c H locs 0 0 (MQ below (va_Ql (fun r (_ : Unit) => r = out.1) (fun _ t => QX E A B out.2 t.heap) A) args s 0 0 A) (F0 m 27 ls []) := by
  obtain ⟨hx, hb, hr, hml, hown, hts, hlk, hK⟩ := id C0
  intro n
  induction n with
  | zero =>
    intro x1 x2 x4 u H locs ls hW hl hf
    cases (show none = some out from hf)
  | succ n ih =>
    intro x1 x2 x4 u H locs ls hW hl hf
    rw [fX4_mean_27] at hf
    refine lv_iload hx hb dX4_mean_27 (lv_at hl 3 rfl) ?_
    refine lv_aload_n hx hb dX4_mean_29 rfl (lv_at hl 0 rfl) ?_
    refine x_get C0 hW.1 iX4_mean_X4 1 (by decide) (by decide +kernel) rfl dX4_mean_30 ?_
    refine lv_icmp_ge (tgt := 54) hx hb dX4_mean_33 (by decide) (fun c1 => ?_) (fun c1 => ?_)
    · have hf := th hf c1
      refine lv_lload_n hx hb dX4_mean_54 rfl (lv_at hl 2 rfl) ?_
      refine lv_aload_n hx hb dX4_mean_55 rfl (lv_at hl 0 rfl) ?_
      refine x_get C0 hW.1 iX4_mean_X4 7 (by decide) (by decide +kernel) rfl dX4_mean_56 ?_
      obtain ⟨q2, h3, hf⟩ := bd hf
      refine k_roL (run_VN (rest := [.long x2]) (n := 0) C0 (tX1_draws E (fun i => B (4 + i)) h3) gX4_mean_X1_draws_n123 rfl (by decide +kernel) (by decide +kernel) (by decide +kernel) (by decide +kernel) rfl (by decide +kernel) (hW.1.drum 0 _ rfl) rfl rfl hW.1.drum hl.1 rfl rfl (Nat.le_of_ble_eq_true rfl) dX4_mean_59) ?_
      refine lv_iload_n hx hb dX4_mean_62 rfl (lv_at hl 1 rfl) ?_
      obtain ⟨q4, h5, hf⟩ := bd hf
      refine k_roL (run_S (rest := []) (n := 3) (PH := fun _ => True) C0 (tX4_partOf E h5) gX4_mean_X4_partOf rfl rfl (by decide +kernel) trivial hl.1 rfl rfl (Nat.le_of_ble_eq_true rfl) dX4_mean_63) ?_
      obtain rfl := Option.some.inj hf
      exact e_muL (QH := QX E A B u) C0 hW.2.2.2 rfl ⟨hW.1, hW.2.1, hW.2.2.1⟩ dX4_mean_66
    · have hf := el hf c1
      refine lv_lload_n hx hb dX4_mean_36 rfl (lv_at hl 2 rfl) ?_
      refine lv_aload_n hx hb dX4_mean_37 rfl (lv_at hl 0 rfl) ?_
      refine x_get C0 hW.1 iX4_mean_X4 7 (by decide) (by decide +kernel) rfl dX4_mean_38 ?_
      refine lv_iload hx hb dX4_mean_41 (lv_at hl 3 rfl) ?_
      obtain ⟨q6, h7, hf⟩ := bd hf
      refine k_roL (run_VN (rest := [.long x2]) (n := 1) C0 (tX1_drawsSparing E (fun i => B (4 + i)) h7) gX4_mean_X1_drawsSparing_n119 rfl (by decide +kernel) (by decide +kernel) (by decide +kernel) (by decide +kernel) rfl (by decide +kernel) (hW.1.drum 0 _ rfl) rfl rfl hW.1.drum hl.1 rfl rfl (Nat.le_of_ble_eq_true rfl) dX4_mean_43) ?_
      refine lv_ladd hx hb dX4_mean_46 ?_
      refine lv_lstore_n (lv' := [(2, .long (x2 + q6)), (0, .ref (B 0)), (1, .int x1), (4, .int x4)]) hx hb dX4_mean_47 rfl hl (by decide) rfl (fun ls hl => ?_)
      refine lv_iinc (v := (x4 + (1 : Int32))) (lv' := [(4, .int (x4 + (1 : Int32))), (2, .long (x2 + q6)), (0, .ref (B 0)), (1, .int x1)]) hx hb dX4_mean_48 hl (k := 3) rfl rfl (by decide) rfl (fun ls hl => ?_)
      refine lv_goto (tgt := 27) hx hb dX4_mean_51 (by decide) ?_
      exact ih _ _ _ _ _ _ _ hW (lv_sub hl [2, 3, 1, 0] rfl) hf
set_option maxHeartbeats 4000000 in
set_option maxRecDepth 100000 in
theorem tX4_mean_0 {p : Program} {l : Launch} {e : Env} {s : State} {m : MethodId} {args : Array Value} {below : List Frame} {meth : Method} {c : Code} {E : EE} {B : Nat → Nat} {A : Nat → Prop} {out : Int64 × SX} (C0 : cx wsX4_mean cX4_mean 5 (some .long) RX4 E p s m args meth c) {x1 : Int32} {u : SX} {H : Heap} {locs : List Loc} {ls : Array Slot} (hW : WX E A B u s H locs) (hl : lv_has ls 5 [(0, .ref (B 0)), (1, .int x1)]) (hf : fX4_mean x1 u = some out) : W p l e rmX4_mean s m args below meth c H locs 0 0 (MQ below (va_Ql (fun r (_ : Unit) => r = out.1) (fun _ t => QX E A B out.2 t.heap) A) args s 0 0 A) (F0 m 0 ls []) := by
  obtain ⟨hx, hb, hr, hml, hown, hts, hlk, hK⟩ := id C0
  unfold fX4_mean at hf
  refine lv_aload_n hx hb dX4_mean_0 rfl (lv_at hl 0 rfl) ?_
  refine x_get C0 hW.1 iX4_mean_X4 1 (by decide) (by decide +kernel) rfl dX4_mean_1 ?_
  refine lv_if_eq (tgt := 14) hx hb dX4_mean_4 (by decide) (fun c1 => ?_) (fun c1 => ?_)
  · have hf := th hf c1
    exact tX4_mean_14 C0 hW (lv_sub hl [] rfl) hf
  · have hf := el hf c1
    refine lv_iload_n hx hb dX4_mean_7 rfl (lv_at hl 1 rfl) ?_
    obtain ⟨q2, h3, hf⟩ := bd hf
    refine k_roI (run_S (rest := []) (n := 1) (PH := fun _ => True) C0 (tX4_isWhich E h3) gX4_mean_X4_isWhich rfl rfl (by decide +kernel) trivial hl.1 rfl rfl (Nat.le_of_ble_eq_true rfl) dX4_mean_8) ?_
    refine lv_if_ne (tgt := 18) hx hb dX4_mean_11 (by decide) (fun c4 => ?_) (fun c4 => ?_)
    · have hf := el hf c4
      refine lv_aload_n hx hb dX4_mean_18 rfl (lv_at hl 0 rfl) ?_
      obtain ⟨q5, h6, hf⟩ := bd hf
      refine k_muV (run_V (rest := []) (n := 0) C0 (tX4_fillDrum (u := u) E A B hW.2.1 hW.2.2.1 h6) gX4_mean_X4_fillDrum rfl rfl (by decide +kernel) (hW.1 0 _ rfl) rfl rfl hW.1 hl.1 rfl rfl (Nat.le_of_ble_eq_true rfl) dX4_mean_19) hW.2.2.2 (fun _ h => h) (fun H locs hQ _ hS => ?_)
      have hW : WX E A B q5 s H locs := ⟨hQ.1, hQ.2.1, hQ.2.2, hS⟩
      refine lv_lconst (v := (0 : Int64)) hx hb dX4_mean_22 (by decide) ?_
      refine lv_lstore_n (lv' := [(2, .long (0 : Int64)), (0, .ref (B 0)), (1, .int x1)]) hx hb dX4_mean_23 rfl hl (by decide) rfl (fun ls hl => ?_)
      refine lv_iconst (v := (0 : Int32)) hx hb dX4_mean_24 (by decide) ?_
      refine lv_istore (lv' := [(4, .int (0 : Int32)), (2, .long (0 : Int64)), (0, .ref (B 0)), (1, .int x1)]) hx hb dX4_mean_25 hl (by decide) rfl (fun ls hl => ?_)
      exact tX4_mean_27 C0 fu _ _ _ _ _ _ _ hW (lv_sub hl [2, 3, 1, 0] rfl) hf
    · have hf := th hf c4
      exact tX4_mean_14 C0 hW (lv_sub hl [] rfl) hf
set_option maxHeartbeats 4000000 in
set_option maxRecDepth 100000 in
theorem tX4_mean {l : Launch} (E : EE) (A : Nat → Prop) (B : Nat → Nat) {u : SX} {x1 : Int32} {out : Int64 × SX} (hI : fI (cX E B u)) (hA : AX E B u A) (hf : fX4_mean x1 u = some out) : muL l yX4_mean wsX4_mean rmX4_mean E [.ref (B 0), .int x1] A (fP E (cX E B u)) (QX E A B out.2) out.1 := by
  refine Met.ofW (cc := cX4_mean) (maxL := 5) (ret := (some .long)) (by decide) rfl ?_
  intro p e s m args below meth c s₁ B0 hml hv
  obtain ⟨rfl, hP, hK⟩ := hv
  have C0 : cx wsX4_mean cX4_mean 5 (some .long) RX4 E p s m _ meth c := ⟨B0.exec, B0.bytes, B0.returns, hml, findClass_of_methodNamed B0.named, atoms_spec (ws := wsX4_mean) B0.pre, B0.notSynchronized, hK⟩
  have hl := lv_entry ([.ref (B 0), .int x1]) (n := 5) (Nat.le_of_ble_eq_true rfl)
  rw [lg_entry_eq]
  generalize (lg_sl ([.ref (B 0), .int x1]) ++ List.replicate (5 - (lg_sl ([.ref (B 0), .int x1])).length) Slot.unset).toArray = ls at hl ⊢
  exact tX4_mean_0 C0 ⟨hP, hI, hA, va_S.rf⟩ hl hf
abbrev rmX4_passes : Room := { frames := 5, cells := 0, slots := 0, locals := 121 }
set_option maxRecDepth 20000 in
theorem iX4_passes_X4 : ∀ w ∈ wsX40, w ∈ wsX4_passes := by decide +kernel
set_option maxHeartbeats 4000000 in
set_option maxRecDepth 100000 in
theorem tX4_passes_14 {p : Program} {l : Launch} {e : Env} {s : State} {m : MethodId} {args : Array Value} {below : List Frame} {meth : Method} {c : Code} {E : EE} {B : Nat → Nat} {A : Nat → Prop} {out : Int64 × SX} (C0 : cx wsX4_passes cX4_passes 2 (some .long) RX4 E p s m args meth c) {u : SX} {H : Heap} {locs : List Loc} {ls : Array Slot} (hW : WX E A B u s H locs) (hl : lv_has ls 2 []) (hf : fX4_passes_14 u = some out) : W p l e rmX4_passes s m args below meth c H locs 0 0 (MQ below (va_Ql (fun r (_ : Unit) => r = out.1) (fun _ t => QX E A B out.2 t.heap) A) args s 0 0 A) (F0 m 14 ls []) := by
  obtain ⟨hx, hb, hr, hml, hown, hts, hlk, hK⟩ := id C0
  unfold fX4_passes_14 at hf
  refine lv_ldc2 hx hb hown (hts (.constantLong RX4 117 (-9223372036854775808)) (by decide +kernel)) dX4_passes_14 ?_
  obtain rfl := Option.some.inj hf
  exact e_muL (QH := QX E A B u) C0 hW.2.2.2 rfl ⟨hW.1, hW.2.1, hW.2.2.1⟩ dX4_passes_17
set_option maxHeartbeats 4000000 in
set_option maxRecDepth 100000 in
theorem tX4_passes_0 {p : Program} {l : Launch} {e : Env} {s : State} {m : MethodId} {args : Array Value} {below : List Frame} {meth : Method} {c : Code} {E : EE} {B : Nat → Nat} {A : Nat → Prop} {out : Int64 × SX} (C0 : cx wsX4_passes cX4_passes 2 (some .long) RX4 E p s m args meth c) {x1 : Int32} {u : SX} {H : Heap} {locs : List Loc} {ls : Array Slot} (hW : WX E A B u s H locs) (hl : lv_has ls 2 [(0, .ref (B 0)), (1, .int x1)]) (hf : fX4_passes x1 u = some out) : W p l e rmX4_passes s m args below meth c H locs 0 0 (MQ below (va_Ql (fun r (_ : Unit) => r = out.1) (fun _ t => QX E A B out.2 t.heap) A) args s 0 0 A) (F0 m 0 ls []) := by
  obtain ⟨hx, hb, hr, hml, hown, hts, hlk, hK⟩ := id C0
  unfold fX4_passes at hf
  refine lv_aload_n hx hb dX4_passes_0 rfl (lv_at hl 0 rfl) ?_
  refine x_get C0 hW.1 iX4_passes_X4 1 (by decide) (by decide +kernel) rfl dX4_passes_1 ?_
  refine lv_if_eq (tgt := 14) hx hb dX4_passes_4 (by decide) (fun c1 => ?_) (fun c1 => ?_)
  · have hf := th hf c1
    exact tX4_passes_14 C0 hW (lv_sub hl [] rfl) hf
  · have hf := el hf c1
    refine lv_iload_n hx hb dX4_passes_7 rfl (lv_at hl 1 rfl) ?_
    obtain ⟨q2, h3, hf⟩ := bd hf
    refine k_roI (run_S (rest := []) (n := 1) (PH := fun _ => True) C0 (tX4_isWhich E h3) gX4_passes_X4_isWhich rfl rfl (by decide +kernel) trivial hl.1 rfl rfl (Nat.le_of_ble_eq_true rfl) dX4_passes_8) ?_
    refine lv_if_ne (tgt := 18) hx hb dX4_passes_11 (by decide) (fun c4 => ?_) (fun c4 => ?_)
    · have hf := el hf c4
      refine lv_aload_n hx hb dX4_passes_18 rfl (lv_at hl 0 rfl) ?_
      obtain ⟨q5, h6, hf⟩ := bd hf
      refine k_muV (run_V (rest := []) (n := 0) C0 (tX4_fillDrum (u := u) E A B hW.2.1 hW.2.2.1 h6) gX4_passes_X4_fillDrum rfl rfl (by decide +kernel) (hW.1 0 _ rfl) rfl rfl hW.1 hl.1 rfl rfl (Nat.le_of_ble_eq_true rfl) dX4_passes_19) hW.2.2.2 (fun _ h => h) (fun H locs hQ _ hS => ?_)
      have hW : WX E A B q5 s H locs := ⟨hQ.1, hQ.2.1, hQ.2.2, hS⟩
      refine lv_aload_n hx hb dX4_passes_22 rfl (lv_at hl 0 rfl) ?_
      refine x_get C0 hW.1 iX4_passes_X4 7 (by decide) (by decide +kernel) rfl dX4_passes_23 ?_
      obtain ⟨q7, h8, hf⟩ := bd hf
      refine k_muL (run_VN (rest := []) (n := 0) C0 (tX1_drawsPassing E (fun i => B (4 + i)) hW.2.1.drum h8) gX4_passes_X1_drawsPassing_n137 rfl (by decide +kernel) (by decide +kernel) (by decide +kernel) (by decide +kernel) rfl (by decide +kernel) (hW.1.drum 0 _ rfl) rfl rfl hW.1.drum hl.1 rfl rfl (Nat.le_of_ble_eq_true rfl) dX4_passes_26) hW.2.2.2 hW.2.2.1.drum (fun H locs hQ hk hS => ?_)
      have hW := hW.join hQ hk hS
      have hW : WX E A B (q5.1, q5.2.1, q5.2.2.1, q5.2.2.2.1, q7.2) s H locs := hW
      refine lv_aload_n hx hb dX4_passes_29 rfl (lv_at hl 0 rfl) ?_
      refine x_get C0 hW.1 iX4_passes_X4 7 (by decide) (by decide +kernel) rfl dX4_passes_30 ?_
      obtain ⟨q9, h10, hf⟩ := bd hf
      refine k_roL (run_VN (rest := [.long q7.1]) (n := 0) C0 (tX1_draws E (fun i => B (4 + i)) h10) gX4_passes_X1_draws_n123 rfl (by decide +kernel) (by decide +kernel) (by decide +kernel) (by decide +kernel) rfl (by decide +kernel) (hW.1.drum 0 _ rfl) rfl rfl hW.1.drum hl.1 rfl rfl (Nat.le_of_ble_eq_true rfl) dX4_passes_33) ?_
      refine lv_iload_n hx hb dX4_passes_36 rfl (lv_at hl 1 rfl) ?_
      obtain ⟨q11, h12, hf⟩ := bd hf
      refine k_roL (run_S (rest := []) (n := 3) (PH := fun _ => True) C0 (tX4_partOf E h12) gX4_passes_X4_partOf rfl rfl (by decide +kernel) trivial hl.1 rfl rfl (Nat.le_of_ble_eq_true rfl) dX4_passes_37) ?_
      obtain rfl := Option.some.inj hf
      exact e_muL (QH := QX E A B (q5.1, q5.2.1, q5.2.2.1, q5.2.2.2.1, q7.2)) C0 hW.2.2.2 rfl ⟨hW.1, hW.2.1, hW.2.2.1⟩ dX4_passes_40
    · have hf := th hf c4
      exact tX4_passes_14 C0 hW (lv_sub hl [] rfl) hf
set_option maxHeartbeats 4000000 in
set_option maxRecDepth 100000 in
theorem tX4_passes {l : Launch} (E : EE) (A : Nat → Prop) (B : Nat → Nat) {u : SX} {x1 : Int32} {out : Int64 × SX} (hI : fI (cX E B u)) (hA : AX E B u A) (hf : fX4_passes x1 u = some out) : muL l yX4_passes wsX4_passes rmX4_passes E [.ref (B 0), .int x1] A (fP E (cX E B u)) (QX E A B out.2) out.1 := by
  refine Met.ofW (cc := cX4_passes) (maxL := 2) (ret := (some .long)) (by decide) rfl ?_
  intro p e s m args below meth c s₁ B0 hml hv
  obtain ⟨rfl, hP, hK⟩ := hv
  have C0 : cx wsX4_passes cX4_passes 2 (some .long) RX4 E p s m _ meth c := ⟨B0.exec, B0.bytes, B0.returns, hml, findClass_of_methodNamed B0.named, atoms_spec (ws := wsX4_passes) B0.pre, B0.notSynchronized, hK⟩
  have hl := lv_entry ([.ref (B 0), .int x1]) (n := 2) (Nat.le_of_ble_eq_true rfl)
  rw [lg_entry_eq]
  generalize (lg_sl ([.ref (B 0), .int x1]) ++ List.replicate (2 - (lg_sl ([.ref (B 0), .int x1])).length) Slot.unset).toArray = ls at hl ⊢
  exact tX4_passes_0 C0 ⟨hP, hI, hA, va_S.rf⟩ hl hf
abbrev rmX4_buy : Room := { frames := 4, cells := 0, slots := 0, locals := 87 }
set_option maxRecDepth 20000 in
theorem iX4_buy_X0 : ∀ w ∈ wsX00, w ∈ wsX4_buy := by decide +kernel
set_option maxRecDepth 20000 in
theorem iX4_buy_X4 : ∀ w ∈ wsX40, w ∈ wsX4_buy := by decide +kernel
set_option maxHeartbeats 4000000 in
set_option maxRecDepth 100000 in
theorem tX4_buy_37 {p : Program} {l : Launch} {e : Env} {s : State} {m : MethodId} {args : Array Value} {below : List Frame} {meth : Method} {c : Code} {E : EE} {B : Nat → Nat} {A : Nat → Prop} {out : Int32 × SX} (C0 : cx wsX4_buy cX4_buy 8 (some .int) RX4 E p s m args meth c) {u : SX} {H : Heap} {locs : List Loc} {ls : Array Slot} (hW : WX E A B u s H locs) (hl : lv_has ls 8 []) (hf : fX4_buy_37 u = some out) : W p l e rmX4_buy s m args below meth c H locs 0 0 (MQ below (va_Qi (fun r (_ : Unit) => r = out.1) (fun _ t => QX E A B out.2 t.heap) A) args s 0 0 A) (F0 m 37 ls []) := by
  obtain ⟨hx, hb, hr, hml, hown, hts, hlk, hK⟩ := id C0
  unfold fX4_buy_37 at hf
  refine lv_bipush (v := (-2 : Int32)) hx hb dX4_buy_37 (by decide) ?_
  obtain rfl := Option.some.inj hf
  exact e_muI (QH := QX E A B u) C0 hW.2.2.2 rfl ⟨hW.1, hW.2.1, hW.2.2.1⟩ dX4_buy_39
set_option maxHeartbeats 4000000 in
set_option maxRecDepth 100000 in
theorem tX4_buy_131 {p : Program} {l : Launch} {e : Env} {s : State} {m : MethodId} {args : Array Value} {below : List Frame} {meth : Method} {c : Code} {E : EE} {B : Nat → Nat} {A : Nat → Prop} {out : Int32 × SX} (C0 : cx wsX4_buy cX4_buy 8 (some .int) RX4 E p s m args meth c) {u : SX} {H : Heap} {locs : List Loc} {ls : Array Slot} (hW : WX E A B u s H locs) (hl : lv_has ls 8 []) (hf : fX4_buy_131 u = some out) : W p l e rmX4_buy s m args below meth c H locs 0 0 (MQ below (va_Qi (fun r (_ : Unit) => r = out.1) (fun _ t => QX E A B out.2 t.heap) A) args s 0 0 A) (F0 m 131 ls []) := by
  obtain ⟨hx, hb, hr, hml, hown, hts, hlk, hK⟩ := id C0
  unfold fX4_buy_131 at hf
  refine lv_bipush (v := (-9 : Int32)) hx hb dX4_buy_131 (by decide) ?_
  obtain rfl := Option.some.inj hf
  exact e_muI (QH := QX E A B u) C0 hW.2.2.2 rfl ⟨hW.1, hW.2.1, hW.2.2.1⟩ dX4_buy_133
set_option maxHeartbeats 4000000 in
set_option maxRecDepth 100000 in
theorem tX4_buy_47 {p : Program} {l : Launch} {e : Env} {s : State} {m : MethodId} {args : Array Value} {below : List Frame} {meth : Method} {c : Code} {E : EE} {B : Nat → Nat} {A : Nat → Prop} {out : Int32 × SX} (C0 : cx wsX4_buy cX4_buy 8 (some .int) RX4 E p s m args meth c) : ∀ (n : Nat) (x1 : Int32) (x2 : Int32) (x3 : Int32) (k4 : Nat) (x5 : Int32) (u : SX) (H : Heap) (locs : List Loc) (ls : Array Slot) (hk4 : k4 < 6) (_ : WX E A B u s H locs), lv_has ls 8 [(0, .ref (B 0)), (1, .int x1), (2, .int x2), (3, .int x3), (4, .ref (B (8 + k4))), (5, .int x5)] → fX4_buy_47 n x1 x2 x3 k4 x5 u = some out → W p l e rmX4_buy s m args below meth c H locs 0 0 (MQ below (va_Qi (fun r (_ : Unit) => r = out.1) (fun _ t => QX E A B out.2 t.heap) A) args s 0 0 A) (F0 m 47 ls []) := by
  obtain ⟨hx, hb, hr, hml, hown, hts, hlk, hK⟩ := id C0
  intro n
  induction n with
  | zero =>
    intro x1 x2 x3 k4 x5 u H locs ls hk4 hW hl hf
    cases (show none = some out from hf)
  | succ n ih =>
    intro x1 x2 x3 k4 x5 u H locs ls hk4 hW hl hf
    rw [fX4_buy_47] at hf
    refine lv_iload hx hb dX4_buy_47 (lv_at hl 5 rfl) ?_
    refine lv_bipush (v := (20 : Int32)) hx hb dX4_buy_49 (by decide) ?_
    refine lv_icmp_gt (tgt := 131) hx hb dX4_buy_51 (by decide) (fun c1 => ?_) (fun c1 => ?_)
    · have hf := th hf c1
      exact tX4_buy_131 C0 hW (lv_sub hl [] rfl) hf
    · have hf := el hf c1
      refine lv_iload hx hb dX4_buy_54 (lv_at hl 5 rfl) ?_
      refine lv_aload_n hx hb dX4_buy_56 rfl (lv_at hl 0 rfl) ?_
      refine x_get C0 hW.1 iX4_buy_X4 3 (by decide) (by decide +kernel) rfl dX4_buy_57 ?_
      refine lv_imul hx hb dX4_buy_60 ?_
      refine lv_aload hx hb dX4_buy_61 (lv_at hl 4 rfl) ?_
      refine c_getN C0 (hW.1.cit hk4) iX4_buy_X0 2 (by decide) (by decide +kernel) rfl dX4_buy_63 ?_
      refine lv_icmp_gt (tgt := 131) hx hb dX4_buy_66 (by decide) (fun c2 => ?_) (fun c2 => ?_)
      · have hf := th hf c2
        exact tX4_buy_131 C0 hW (lv_sub hl [] rfl) hf
      · have hf := el hf c2
        refine lv_aload_n hx hb dX4_buy_69 rfl (lv_at hl 0 rfl) ?_
        refine x_get C0 hW.1 iX4_buy_X4 7 (by decide) (by decide +kernel) rfl dX4_buy_70 ?_
        refine lv_iload_n hx hb dX4_buy_73 rfl (lv_at hl 1 rfl) ?_
        refine lv_aload hx hb dX4_buy_74 (lv_at hl 4 rfl) ?_
        obtain ⟨q3, h4, hf⟩ := bd hf
        refine k_roI (run_VN (rest := [.int x1, .ref (B 4)]) (n := 0) C0 (tX0_slips E (B (8 + k4)) h4) gX4_buy_X0_slips_n89 rfl (by decide +kernel) (by decide +kernel) (by decide +kernel) (by decide +kernel) rfl (by decide +kernel) (hW.1.cit hk4 0 _ rfl) rfl rfl (hW.1.cit hk4) hl.1 rfl rfl (Nat.le_of_ble_eq_true rfl) dX4_buy_76) ?_
        refine lv_iload hx hb dX4_buy_79 (lv_at hl 5 rfl) ?_
        refine lv_iadd hx hb dX4_buy_81 ?_
        obtain ⟨q5, h6, hf⟩ := bd hf
        refine k_muV (run_VN (rest := []) (n := 2) C0 (tX1_setSlips E (fun i => B (4 + i)) hW.2.1.drum h6) gX4_buy_X1_setSlips_n140 rfl (by decide +kernel) (by decide +kernel) (by decide +kernel) (by decide +kernel) rfl (by decide +kernel) (hW.1.drum 0 _ rfl) rfl rfl hW.1.drum hl.1 rfl rfl (Nat.le_of_ble_eq_true rfl) dX4_buy_82) hW.2.2.2 hW.2.2.1.drum (fun H locs hQ hk hS => ?_)
        have hW := hW.join hQ hk hS
        have hW : WX E A B (u.1, u.2.1, u.2.2.1, u.2.2.2.1, q5) s H locs := hW
        refine lv_aload_n hx hb dX4_buy_85 rfl (lv_at hl 0 rfl) ?_
        refine x_get C0 hW.1 iX4_buy_X4 7 (by decide) (by decide +kernel) rfl dX4_buy_86 ?_
        obtain ⟨q7, h8, hf⟩ := bd hf
        refine k_roL (run_VN (rest := []) (n := 0) C0 (tX1_draws E (fun i => B (4 + i)) h8) gX4_buy_X1_draws_n123 rfl (by decide +kernel) (by decide +kernel) (by decide +kernel) (by decide +kernel) rfl (by decide +kernel) (hW.1.drum 0 _ rfl) rfl rfl hW.1.drum hl.1 rfl rfl (Nat.le_of_ble_eq_true rfl) dX4_buy_89) ?_
        refine lv_aload_n hx hb dX4_buy_92 rfl (lv_at hl 0 rfl) ?_
        refine x_get C0 hW.1 iX4_buy_X4 7 (by decide) (by decide +kernel) rfl dX4_buy_93 ?_
        refine lv_iload_n hx hb dX4_buy_96 rfl (lv_at hl 1 rfl) ?_
        obtain ⟨q9, h10, hf⟩ := bd hf
        refine k_roL (run_VN (rest := [.long q7]) (n := 1) C0 (tX1_drawsSparing E (fun i => B (4 + i)) h10) gX4_buy_X1_drawsSparing_n119 rfl (by decide +kernel) (by decide +kernel) (by decide +kernel) (by decide +kernel) rfl (by decide +kernel) (hW.1.drum 0 _ rfl) rfl rfl hW.1.drum hl.1 rfl rfl (Nat.le_of_ble_eq_true rfl) dX4_buy_97) ?_
        refine lv_lsub hx hb dX4_buy_100 ?_
        refine lv_lstore (lv' := [(6, .long (q7 - q9)), (0, .ref (B 0)), (1, .int x1), (2, .int x2), (3, .int x3), (4, .ref (B (8 + k4))), (5, .int x5)]) hx hb dX4_buy_101 hl (by decide) rfl (fun ls hl => ?_)
        refine lv_lload hx hb dX4_buy_103 (lv_at hl 0 rfl) ?_
        refine lv_iload_n hx hb dX4_buy_105 rfl (lv_at hl 4 rfl) ?_
        refine lv_i2l (v := x3.toInt64) hx hb dX4_buy_106 rfl ?_
        refine lv_lmul hx hb dX4_buy_107 ?_
        refine lv_iload_n hx hb dX4_buy_108 rfl (lv_at hl 3 rfl) ?_
        refine lv_i2l (v := x2.toInt64) hx hb dX4_buy_109 rfl ?_
        refine lv_aload_n hx hb dX4_buy_110 rfl (lv_at hl 1 rfl) ?_
        refine x_get C0 hW.1 iX4_buy_X4 7 (by decide) (by decide +kernel) rfl dX4_buy_111 ?_
        obtain ⟨q11, h12, hf⟩ := bd hf
        refine k_roL (run_VN (rest := [.long x2.toInt64, .long ((q7 - q9) * x3.toInt64)]) (n := 0) C0 (tX1_draws E (fun i => B (4 + i)) h12) gX4_buy_X1_draws_n123 rfl (by decide +kernel) (by decide +kernel) (by decide +kernel) (by decide +kernel) rfl (by decide +kernel) (hW.1.drum 0 _ rfl) rfl rfl hW.1.drum hl.1 rfl rfl (Nat.le_of_ble_eq_true rfl) dX4_buy_114) ?_
        refine lv_lmul hx hb dX4_buy_117 ?_
        refine W.lcmp hx hb dX4_buy_118 ?_
        refine lv_if_lt (tgt := 125) hx hb dX4_buy_119 (by decide) (fun c13 => ?_) (fun c13 => ?_)
        · have hf := th hf c13
          refine lv_iinc (v := (x5 + (1 : Int32))) (lv' := [(5, .int (x5 + (1 : Int32))), (6, .long (q7 - q9)), (0, .ref (B 0)), (1, .int x1), (2, .int x2), (3, .int x3), (4, .ref (B (8 + k4)))]) hx hb dX4_buy_125 hl (k := 6) rfl rfl (by decide) rfl (fun ls hl => ?_)
          refine lv_goto (tgt := 47) hx hb dX4_buy_128 (by decide) ?_
          exact ih _ _ _ _ _ _ _ _ _ hk4 hW (lv_sub hl [2, 3, 4, 5, 6, 0] rfl) hf
        · have hf := el hf c13
          refine lv_iload hx hb dX4_buy_122 (lv_at hl 6 rfl) ?_
          obtain rfl := Option.some.inj hf
          exact e_muI (QH := QX E A B (u.1, u.2.1, u.2.2.1, u.2.2.2.1, q5)) C0 hW.2.2.2 rfl ⟨hW.1, hW.2.1, hW.2.2.1⟩ dX4_buy_124
set_option maxHeartbeats 4000000 in
set_option maxRecDepth 100000 in
theorem tX4_buy_0 {p : Program} {l : Launch} {e : Env} {s : State} {m : MethodId} {args : Array Value} {below : List Frame} {meth : Method} {c : Code} {E : EE} {B : Nat → Nat} {A : Nat → Prop} {out : Int32 × SX} (C0 : cx wsX4_buy cX4_buy 8 (some .int) RX4 E p s m args meth c) {x1 : Int32} {x2 : Int32} {x3 : Int32} {u : SX} {H : Heap} {locs : List Loc} {ls : Array Slot} (hW : WX E A B u s H locs) (hl : lv_has ls 8 [(0, .ref (B 0)), (1, .int x1), (2, .int x2), (3, .int x3)]) (hf : fX4_buy x1 x2 x3 u = some out) : W p l e rmX4_buy s m args below meth c H locs 0 0 (MQ below (va_Qi (fun r (_ : Unit) => r = out.1) (fun _ t => QX E A B out.2 t.heap) A) args s 0 0 A) (F0 m 0 ls []) := by
  obtain ⟨hx, hb, hr, hml, hown, hts, hlk, hK⟩ := id C0
  unfold fX4_buy at hf
  refine lv_aload_n hx hb dX4_buy_0 rfl (lv_at hl 0 rfl) ?_
  refine lv_iload_n hx hb dX4_buy_1 rfl (lv_at hl 1 rfl) ?_
  obtain ⟨q1, h2, hf⟩ := bd hf
  refine k_roQ (run_V (rest := []) (n := 1) C0 (tX4_citizen (u := u) E B h2) gX4_buy_X4_citizen rfl rfl (by decide +kernel) (hW.1 0 _ rfl) rfl rfl hW.1 hl.1 rfl rfl (Nat.le_of_ble_eq_true rfl) dX4_buy_2) ?_
  cases q1 with
  | none =>
    rw [Option.elim_none] at hf
    refine W.eq (g2 := F0 m 5 ls [.null]) rfl ?_
    refine lv_astoreN (lv' := [(4, .null), (0, .ref (B 0)), (1, .int x1), (2, .int x2), (3, .int x3)]) hx hb dX4_buy_5 hl (by decide) rfl (fun ls hl => ?_)
    refine lv_aloadN hx hb dX4_buy_7 (lv_at hl 0 rfl) ?_
    refine lv_ifnonnullN hx hb dX4_buy_9 ?_
    refine lv_iconst (v := (-1 : Int32)) hx hb dX4_buy_12 (by decide) ?_
    obtain rfl := Option.some.inj hf
    exact e_muI (QH := QX E A B u) C0 hW.2.2.2 rfl ⟨hW.1, hW.2.1, hW.2.2.1⟩ dX4_buy_13
  | some k3 =>
    rw [Option.elim_some] at hf
    obtain ⟨h4, hf⟩ := gd hf
    refine W.eq (g2 := F0 m 5 ls [.ref (B (8 + k3))]) rfl ?_
    refine lv_astore (lv' := [(4, .ref (B (8 + k3))), (0, .ref (B 0)), (1, .int x1), (2, .int x2), (3, .int x3)]) hx hb dX4_buy_5 hl (by decide) rfl (fun ls hl => ?_)
    refine lv_aload hx hb dX4_buy_7 (lv_at hl 0 rfl) ?_
    refine lv_ifnonnull (tgt := 14) hx hb dX4_buy_9 (by decide) ?_
    refine lv_iload_n hx hb dX4_buy_14 rfl (lv_at hl 3 rfl) ?_
    refine lv_if_lt (tgt := 37) hx hb dX4_buy_15 (by decide) (fun c5 => ?_) (fun c5 => ?_)
    · have hf := th hf c5
      exact tX4_buy_37 C0 hW (lv_sub hl [] rfl) hf
    · have hf := el hf c5
      refine lv_iload_n hx hb dX4_buy_18 rfl (lv_at hl 3 rfl) ?_
      refine lv_sipush (v := (999 : Int32)) hx hb dX4_buy_19 (by decide) ?_
      refine lv_icmp_gt (tgt := 37) hx hb dX4_buy_22 (by decide) (fun c6 => ?_) (fun c6 => ?_)
      · have hf := th hf c6
        exact tX4_buy_37 C0 hW (lv_sub hl [] rfl) hf
      · have hf := el hf c6
        refine lv_iload_n hx hb dX4_buy_25 rfl (lv_at hl 4 rfl) ?_
        refine lv_iconst (v := (1 : Int32)) hx hb dX4_buy_26 (by decide) ?_
        refine lv_icmp_lt (tgt := 37) hx hb dX4_buy_27 (by decide) (fun c7 => ?_) (fun c7 => ?_)
        · have hf := th hf c7
          exact tX4_buy_37 C0 hW (lv_sub hl [] rfl) hf
        · have hf := el hf c7
          refine lv_iload_n hx hb dX4_buy_30 rfl (lv_at hl 4 rfl) ?_
          refine lv_sipush (v := (999 : Int32)) hx hb dX4_buy_31 (by decide) ?_
          refine lv_icmp_le (tgt := 40) hx hb dX4_buy_34 (by decide) (fun c8 => ?_) (fun c8 => ?_)
          · have hf := th hf c8
            refine lv_aload_n hx hb dX4_buy_40 rfl (lv_at hl 1 rfl) ?_
            obtain ⟨q9, h10, hf⟩ := bd hf
            refine k_muV (run_V (rest := []) (n := 0) C0 (tX4_fillDrum (u := u) E A B hW.2.1 hW.2.2.1 h10) gX4_buy_X4_fillDrum rfl rfl (by decide +kernel) (hW.1 0 _ rfl) rfl rfl hW.1 hl.1 rfl rfl (Nat.le_of_ble_eq_true rfl) dX4_buy_41) hW.2.2.2 (fun _ h => h) (fun H locs hQ _ hS => ?_)
            have hW : WX E A B q9 s H locs := ⟨hQ.1, hQ.2.1, hQ.2.2, hS⟩
            refine lv_iconst (v := (0 : Int32)) hx hb dX4_buy_44 (by decide) ?_
            refine lv_istore (lv' := [(5, .int (0 : Int32)), (4, .ref (B (8 + k3))), (0, .ref (B 0)), (1, .int x1), (2, .int x2), (3, .int x3)]) hx hb dX4_buy_45 hl (by decide) rfl (fun ls hl => ?_)
            exact tX4_buy_47 C0 fu _ _ _ _ _ _ _ _ _ (Decidable.of_not_not h4) hW (lv_sub hl [2, 3, 4, 5, 1, 0] rfl) hf
          · have hf := el hf c8
            exact tX4_buy_37 C0 hW (lv_sub hl [] rfl) hf
set_option maxHeartbeats 4000000 in
set_option maxRecDepth 100000 in
theorem tX4_buy {l : Launch} (E : EE) (A : Nat → Prop) (B : Nat → Nat) {u : SX} {x1 : Int32} {x2 : Int32} {x3 : Int32} {out : Int32 × SX} (hI : fI (cX E B u)) (hA : AX E B u A) (hf : fX4_buy x1 x2 x3 u = some out) : muI l yX4_buy wsX4_buy rmX4_buy E [.ref (B 0), .int x1, .int x2, .int x3] A (fP E (cX E B u)) (QX E A B out.2) out.1 := by
  refine Met.ofW (cc := cX4_buy) (maxL := 8) (ret := (some .int)) (by decide) rfl ?_
  intro p e s m args below meth c s₁ B0 hml hv
  obtain ⟨rfl, hP, hK⟩ := hv
  have C0 : cx wsX4_buy cX4_buy 8 (some .int) RX4 E p s m _ meth c := ⟨B0.exec, B0.bytes, B0.returns, hml, findClass_of_methodNamed B0.named, atoms_spec (ws := wsX4_buy) B0.pre, B0.notSynchronized, hK⟩
  have hl := lv_entry ([.ref (B 0), .int x1, .int x2, .int x3]) (n := 8) (Nat.le_of_ble_eq_true rfl)
  rw [lg_entry_eq]
  generalize (lg_sl ([.ref (B 0), .int x1, .int x2, .int x3]) ++ List.replicate (8 - (lg_sl ([.ref (B 0), .int x1, .int x2, .int x3])).length) Slot.unset).toArray = ls at hl ⊢
  exact tX4_buy_0 C0 ⟨hP, hI, hA, va_S.rf⟩ hl hf
abbrev rmX4_isMore : Room := { frames := 0, cells := 0, slots := 0, locals := 0 }
set_option maxHeartbeats 4000000 in
set_option maxRecDepth 100000 in
theorem tX4_isMore_0 {p : Program} {l : Launch} {e : Env} {s : State} {m : MethodId} {args : Array Value} {below : List Frame} {meth : Method} {c : Code} {E : EE} {out : Int32} (C0 : cx wsX4_isMore cX4_isMore 8 (some .boolean) RX4 E p s m args meth c) {x0 : Int64} {x2 : Int64} {x4 : Int64} {x6 : Int64} {ls : Array Slot} (hl : lv_has ls 8 [(0, .long x0), (2, .long x2), (4, .long x4), (6, .long x6)]) (hf : fX4_isMore x0 x2 x4 x6 = some out) : W p l e rmX4_isMore s m args below meth c s.heap [] 0 0 (MQ below (vp_Si (fun r => r = out)) args s 0 0 (fun _ => False)) (F0 m 0 ls []) := by
  obtain ⟨hx, hb, hr, hml, hown, hts, hlk, hK⟩ := id C0
  unfold fX4_isMore at hf
  refine lv_lload_n hx hb dX4_isMore_0 rfl (lv_at hl 0 rfl) ?_
  refine lv_lload hx hb dX4_isMore_1 (lv_at hl 3 rfl) ?_
  refine lv_lmul hx hb dX4_isMore_3 ?_
  refine lv_ldc2 hx hb hown (hts (.constantLong RX4 117 (-9223372036854775808)) (by decide +kernel)) dX4_isMore_4 ?_
  refine lv_lxor hx hb dX4_isMore_7 ?_
  refine lv_lload hx hb dX4_isMore_8 (lv_at hl 2 rfl) ?_
  refine lv_lload_n hx hb dX4_isMore_10 rfl (lv_at hl 1 rfl) ?_
  refine lv_lmul hx hb dX4_isMore_11 ?_
  refine lv_ldc2 hx hb hown (hts (.constantLong RX4 117 (-9223372036854775808)) (by decide +kernel)) dX4_isMore_12 ?_
  refine lv_lxor hx hb dX4_isMore_15 ?_
  refine W.lcmp hx hb dX4_isMore_16 ?_
  refine lv_if_le (tgt := 24) hx hb dX4_isMore_17 (by decide) (fun c1 => ?_) (fun c1 => ?_)
  · have hf := th hf c1
    refine lv_iconst (v := (0 : Int32)) hx hb dX4_isMore_24 (by decide) ?_
    exact e_roZ C0 hf dX4_isMore_25
  · have hf := el hf c1
    refine lv_iconst (v := (1 : Int32)) hx hb dX4_isMore_20 (by decide) ?_
    refine lv_goto (tgt := 25) hx hb dX4_isMore_21 (by decide) ?_
    exact e_roZ C0 hf dX4_isMore_25
set_option maxHeartbeats 4000000 in
set_option maxRecDepth 100000 in
theorem tX4_isMore {l : Launch} (E : EE) {x0 : Int64} {x2 : Int64} {x4 : Int64} {x6 : Int64} {out : Int32} (hf : fX4_isMore x0 x2 x4 x6 = some out) : roI l yX4_isMore wsX4_isMore rmX4_isMore E [.long x0, .long x2, .long x4, .long x6] ((fun _ => True)) out := by
  refine Met.ofW (cc := cX4_isMore) (maxL := 8) (ret := (some .boolean)) (by decide) rfl ?_
  intro p e s m args below meth c s₁ B0 hml hv
  obtain ⟨rfl, -, hK⟩ := hv
  have C0 : cx wsX4_isMore cX4_isMore 8 (some .boolean) RX4 E p s m _ meth c := ⟨B0.exec, B0.bytes, B0.returns, hml, findClass_of_methodNamed B0.named, atoms_spec (ws := wsX4_isMore) B0.pre, B0.notSynchronized, hK⟩
  have hl := lv_entry ([.long x0, .long x2, .long x4, .long x6]) (n := 8) (Nat.le_of_ble_eq_true rfl)
  rw [lg_entry_eq]
  generalize (lg_sl ([.long x0, .long x2, .long x4, .long x6]) ++ List.replicate (8 - (lg_sl ([.long x0, .long x2, .long x4, .long x6])).length) Slot.unset).toArray = ls at hl ⊢
  exact tX4_isMore_0 C0 hl hf
abbrev rmX4_lend : Room := { frames := 5, cells := 0, slots := 0, locals := 121 }
set_option maxRecDepth 20000 in
theorem iX4_lend_X0 : ∀ w ∈ wsX00, w ∈ wsX4_lend := by decide +kernel
set_option maxRecDepth 20000 in
theorem iX4_lend_X4 : ∀ w ∈ wsX40, w ∈ wsX4_lend := by decide +kernel
set_option maxHeartbeats 4000000 in
set_option maxRecDepth 100000 in
theorem tX4_lend_183 {p : Program} {l : Launch} {e : Env} {s : State} {m : MethodId} {args : Array Value} {below : List Frame} {meth : Method} {c : Code} {E : EE} {B : Nat → Nat} {A : Nat → Prop} {out : Int32 × SX} {c72 : Int32 → Int64 → Int64 → Int32 → Int32 → SX → Option (Int32 × SX)} (C0 : cx wsX4_lend cX4_lend 14 (some .int) RX4 E p s m args meth c) (hc72 : ∀ (x1 : Int32) (x3 : Int64) (x5 : Int64) (x7 : Int32) (x8 : Int32) (u : SX) (H : Heap) (locs : List Loc) (ls : Array Slot) (_ : WX E A B u s H locs), lv_has ls 14 [(0, .ref (B 0)), (1, .int x1), (3, .long x3), (5, .long x5), (7, .int x7), (8, .int x8)] → c72 x1 x3 x5 x7 x8 u = some out → W p l e rmX4_lend s m args below meth c H locs 0 0 (MQ below (va_Qi (fun r (_ : Unit) => r = out.1) (fun _ t => QX E A B out.2 t.heap) A) args s 0 0 A) (F0 m 72 ls [])) {x1 : Int32} {x3 : Int64} {x5 : Int64} {x7 : Int32} {x8 : Int32} {u : SX} {H : Heap} {locs : List Loc} {ls : Array Slot} (hW : WX E A B u s H locs) (hl : lv_has ls 14 [(0, .ref (B 0)), (1, .int x1), (3, .long x3), (5, .long x5), (7, .int x7), (8, .int x8)]) (hf : fX4_lend_183 c72 x1 x3 x5 x7 x8 u = some out) : W p l e rmX4_lend s m args below meth c H locs 0 0 (MQ below (va_Qi (fun r (_ : Unit) => r = out.1) (fun _ t => QX E A B out.2 t.heap) A) args s 0 0 A) (F0 m 183 ls []) := by
  obtain ⟨hx, hb, hr, hml, hown, hts, hlk, hK⟩ := id C0
  unfold fX4_lend_183 at hf
  refine lv_iinc (v := (x8 + (1 : Int32))) (lv' := [(8, .int (x8 + (1 : Int32))), (0, .ref (B 0)), (1, .int x1), (3, .long x3), (5, .long x5), (7, .int x7)]) hx hb dX4_lend_183 hl (k := 5) rfl rfl (by decide) rfl (fun ls hl => ?_)
  refine lv_goto (tgt := 72) hx hb dX4_lend_186 (by decide) ?_
  exact hc72 _ _ _ _ _ _ _ _ _ hW (lv_sub hl [1, 2, 3, 4, 5, 0] rfl) hf
set_option maxHeartbeats 4000000 in
set_option maxRecDepth 100000 in
theorem tX4_lend_169 {p : Program} {l : Launch} {e : Env} {s : State} {m : MethodId} {args : Array Value} {below : List Frame} {meth : Method} {c : Code} {E : EE} {B : Nat → Nat} {A : Nat → Prop} {out : Int32 × SX} {c72 : Int32 → Int64 → Int64 → Int32 → Int32 → SX → Option (Int32 × SX)} (C0 : cx wsX4_lend cX4_lend 14 (some .int) RX4 E p s m args meth c) (hc72 : ∀ (x1 : Int32) (x3 : Int64) (x5 : Int64) (x7 : Int32) (x8 : Int32) (u : SX) (H : Heap) (locs : List Loc) (ls : Array Slot) (_ : WX E A B u s H locs), lv_has ls 14 [(0, .ref (B 0)), (1, .int x1), (3, .long x3), (5, .long x5), (7, .int x7), (8, .int x8)] → c72 x1 x3 x5 x7 x8 u = some out → W p l e rmX4_lend s m args below meth c H locs 0 0 (MQ below (va_Qi (fun r (_ : Unit) => r = out.1) (fun _ t => QX E A B out.2 t.heap) A) args s 0 0 A) (F0 m 72 ls [])) {x1 : Int32} {x3 : Int64} {x5 : Int64} {x7 : Int32} {x8 : Int32} {k9 : Nat} {u : SX} {H : Heap} {locs : List Loc} {ls : Array Slot} (hk9 : k9 < 6) (hW : WX E A B u s H locs) (hl : lv_has ls 14 [(0, .ref (B 0)), (1, .int x1), (3, .long x3), (5, .long x5), (7, .int x7), (8, .int x8), (9, .ref (B (8 + k9)))]) (hf : fX4_lend_169 c72 x1 x3 x5 x7 x8 k9 u = some out) : W p l e rmX4_lend s m args below meth c H locs 0 0 (MQ below (va_Qi (fun r (_ : Unit) => r = out.1) (fun _ t => QX E A B out.2 t.heap) A) args s 0 0 A) (F0 m 169 ls []) := by
  obtain ⟨hx, hb, hr, hml, hown, hts, hlk, hK⟩ := id C0
  unfold fX4_lend_169 at hf
  refine lv_aload_n hx hb dX4_lend_169 rfl (lv_at hl 0 rfl) ?_
  refine x_get C0 hW.1 iX4_lend_X4 7 (by decide) (by decide +kernel) rfl dX4_lend_170 ?_
  refine lv_iload hx hb dX4_lend_173 (lv_at hl 5 rfl) ?_
  refine lv_aload hx hb dX4_lend_175 (lv_at hl 6 rfl) ?_
  obtain ⟨q1, h2, hf⟩ := bd hf
  refine k_roI (run_VN (rest := [.int x8, .ref (B 4)]) (n := 0) C0 (tX0_slips E (B (8 + k9)) h2) gX4_lend_X0_slips_n89 rfl (by decide +kernel) (by decide +kernel) (by decide +kernel) (by decide +kernel) rfl (by decide +kernel) (hW.1.cit hk9 0 _ rfl) rfl rfl (hW.1.cit hk9) hl.1 rfl rfl (Nat.le_of_ble_eq_true rfl) dX4_lend_177) ?_
  obtain ⟨q3, h4, hf⟩ := bd hf
  refine k_muV (run_VN (rest := []) (n := 2) C0 (tX1_setSlips E (fun i => B (4 + i)) hW.2.1.drum h4) gX4_lend_X1_setSlips_n140 rfl (by decide +kernel) (by decide +kernel) (by decide +kernel) (by decide +kernel) rfl (by decide +kernel) (hW.1.drum 0 _ rfl) rfl rfl hW.1.drum hl.1 rfl rfl (Nat.le_of_ble_eq_true rfl) dX4_lend_180) hW.2.2.2 hW.2.2.1.drum (fun H locs hQ hk hS => ?_)
  have hW := hW.join hQ hk hS
  have hW : WX E A B (u.1, u.2.1, u.2.2.1, u.2.2.2.1, q3) s H locs := hW
  exact tX4_lend_183 C0 hc72 hW (lv_sub hl [0, 1, 2, 3, 4, 5] rfl) hf
set_option maxHeartbeats 4000000 in
set_option maxRecDepth 100000 in
theorem tX4_lend_72 {p : Program} {l : Launch} {e : Env} {s : State} {m : MethodId} {args : Array Value} {below : List Frame} {meth : Method} {c : Code} {E : EE} {B : Nat → Nat} {A : Nat → Prop} {out : Int32 × SX} (C0 : cx wsX4_lend cX4_lend 14 (some .int) RX4 E p s m args meth c) : ∀ (n : Nat) (x1 : Int32) (x3 : Int64) (x5 : Int64) (x7 : Int32) (x8 : Int32) (u : SX) (H : Heap) (locs : List Loc) (ls : Array Slot) (_ : WX E A B u s H locs), lv_has ls 14 [(0, .ref (B 0)), (1, .int x1), (3, .long x3), (5, .long x5), (7, .int x7), (8, .int x8)] → fX4_lend_72 n x1 x3 x5 x7 x8 u = some out → W p l e rmX4_lend s m args below meth c H locs 0 0 (MQ below (va_Qi (fun r (_ : Unit) => r = out.1) (fun _ t => QX E A B out.2 t.heap) A) args s 0 0 A) (F0 m 72 ls []) := by
  obtain ⟨hx, hb, hr, hml, hown, hts, hlk, hK⟩ := id C0
  intro n
  induction n with
  | zero =>
    intro x1 x3 x5 x7 x8 u H locs ls hW hl hf
    cases (show none = some out from hf)
  | succ n ih =>
    intro x1 x3 x5 x7 x8 u H locs ls hW hl hf
    rw [fX4_lend_72] at hf
    refine lv_iload hx hb dX4_lend_72 (lv_at hl 5 rfl) ?_
    refine lv_aload_n hx hb dX4_lend_74 rfl (lv_at hl 0 rfl) ?_
    refine x_get C0 hW.1 iX4_lend_X4 1 (by decide) (by decide +kernel) rfl dX4_lend_75 ?_
    refine lv_icmp_ge (tgt := 189) hx hb dX4_lend_78 (by decide) (fun c1 => ?_) (fun c1 => ?_)
    · have hf := th hf c1
      refine lv_iload hx hb dX4_lend_189 (lv_at hl 4 rfl) ?_
      obtain rfl := Option.some.inj hf
      exact e_muI (QH := QX E A B u) C0 hW.2.2.2 rfl ⟨hW.1, hW.2.1, hW.2.2.1⟩ dX4_lend_191
    · have hf := el hf c1
      refine lv_aload_n hx hb dX4_lend_81 rfl (lv_at hl 0 rfl) ?_
      refine lv_iload hx hb dX4_lend_82 (lv_at hl 5 rfl) ?_
      obtain ⟨q2, h3, hf⟩ := bd hf
      refine k_roQ (run_V (rest := []) (n := 1) C0 (tX4_citizen (u := u) E B h3) gX4_lend_X4_citizen rfl rfl (by decide +kernel) (hW.1 0 _ rfl) rfl rfl hW.1 hl.1 rfl rfl (Nat.le_of_ble_eq_true rfl) dX4_lend_84) ?_
      cases q2 with
      | none =>
        rw [Option.elim_none] at hf
        refine W.eq (g2 := F0 m 87 ls [.null]) rfl ?_
        refine lv_astoreN (lv' := [(9, .null), (0, .ref (B 0)), (1, .int x1), (3, .long x3), (5, .long x5), (7, .int x7), (8, .int x8)]) hx hb dX4_lend_87 hl (by decide) rfl (fun ls hl => ?_)
        refine lv_iload hx hb dX4_lend_89 (lv_at hl 6 rfl) ?_
        refine lv_iload_n hx hb dX4_lend_91 rfl (lv_at hl 2 rfl) ?_
        refine lv_icmp_eq (tgt := 183) hx hb dX4_lend_92 (by decide) (fun c6 => ?_) (fun c6 => ?_)
        · have hf := th hf c6
          exact tX4_lend_183 C0 ih hW (lv_sub hl [1, 2, 3, 4, 5, 6] rfl) hf
        · have hf := el hf c6
          refine lv_aloadN hx hb dX4_lend_95 (lv_at hl 0 rfl) ?_
          refine lv_ifnonnullN hx hb dX4_lend_97 ?_
          refine lv_goto (tgt := 183) hx hb dX4_lend_100 (by decide) ?_
          exact tX4_lend_183 C0 ih hW (lv_sub hl [1, 2, 3, 4, 5, 6] rfl) hf
      | some k4 =>
        rw [Option.elim_some] at hf
        obtain ⟨h5, hf⟩ := gd hf
        refine W.eq (g2 := F0 m 87 ls [.ref (B (8 + k4))]) rfl ?_
        refine lv_astore (lv' := [(9, .ref (B (8 + k4))), (0, .ref (B 0)), (1, .int x1), (3, .long x3), (5, .long x5), (7, .int x7), (8, .int x8)]) hx hb dX4_lend_87 hl (by decide) rfl (fun ls hl => ?_)
        refine lv_iload hx hb dX4_lend_89 (lv_at hl 6 rfl) ?_
        refine lv_iload_n hx hb dX4_lend_91 rfl (lv_at hl 2 rfl) ?_
        refine lv_icmp_eq (tgt := 183) hx hb dX4_lend_92 (by decide) (fun c7 => ?_) (fun c7 => ?_)
        · have hf := th hf c7
          exact tX4_lend_183 C0 ih hW (lv_sub hl [1, 2, 3, 4, 5, 6] rfl) hf
        · have hf := el hf c7
          refine lv_aload hx hb dX4_lend_95 (lv_at hl 0 rfl) ?_
          refine lv_ifnonnull (tgt := 103) hx hb dX4_lend_97 (by decide) ?_
          refine lv_aload_n hx hb dX4_lend_103 rfl (lv_at hl 1 rfl) ?_
          refine x_get C0 hW.1 iX4_lend_X4 7 (by decide) (by decide +kernel) rfl dX4_lend_104 ?_
          refine lv_iload hx hb dX4_lend_107 (lv_at hl 6 rfl) ?_
          refine lv_aload hx hb dX4_lend_109 (lv_at hl 0 rfl) ?_
          refine c_getN C0 (hW.1.cit (Decidable.of_not_not h5)) iX4_lend_X0 0 (by decide) (by decide +kernel) rfl dX4_lend_111 ?_
          refine lv_aload hx hb dX4_lend_114 (lv_at hl 0 rfl) ?_
          refine c_getN C0 (hW.1.cit (Decidable.of_not_not h5)) iX4_lend_X0 1 (by decide) (by decide +kernel) rfl dX4_lend_116 ?_
          refine lv_iconst (v := (1 : Int32)) hx hb dX4_lend_119 (by decide) ?_
          refine lv_iadd hx hb dX4_lend_120 ?_
          obtain ⟨q8, h9, hf⟩ := bd hf
          refine k_roI (run_S (rest := [.int x8, .ref (B 4)]) (n := 2) (PH := fun _ => True) C0 (tX4_slipsOf E h9) gX4_lend_X4_slipsOf rfl rfl (by decide +kernel) trivial hl.1 rfl rfl (Nat.le_of_ble_eq_true rfl) dX4_lend_121) ?_
          obtain ⟨q10, h11, hf⟩ := bd hf
          refine k_muV (run_VN (rest := []) (n := 2) C0 (tX1_setSlips E (fun i => B (4 + i)) hW.2.1.drum h11) gX4_lend_X1_setSlips_n140 rfl (by decide +kernel) (by decide +kernel) (by decide +kernel) (by decide +kernel) rfl (by decide +kernel) (hW.1.drum 0 _ rfl) rfl rfl hW.1.drum hl.1 rfl rfl (Nat.le_of_ble_eq_true rfl) dX4_lend_124) hW.2.2.2 hW.2.2.1.drum (fun H locs hQ hk hS => ?_)
          have hW := hW.join hQ hk hS
          have hW : WX E A B (u.1, u.2.1, u.2.2.1, u.2.2.2.1, q10) s H locs := hW
          refine lv_aload_n hx hb dX4_lend_127 rfl (lv_at hl 1 rfl) ?_
          refine x_get C0 hW.1 iX4_lend_X4 7 (by decide) (by decide +kernel) rfl dX4_lend_128 ?_
          obtain ⟨q12, h13, hf⟩ := bd hf
          refine k_muL (run_VN (rest := []) (n := 0) C0 (tX1_drawsPassing E (fun i => B (4 + i)) hW.2.1.drum h13) gX4_lend_X1_drawsPassing_n137 rfl (by decide +kernel) (by decide +kernel) (by decide +kernel) (by decide +kernel) rfl (by decide +kernel) (hW.1.drum 0 _ rfl) rfl rfl hW.1.drum hl.1 rfl rfl (Nat.le_of_ble_eq_true rfl) dX4_lend_131) hW.2.2.2 hW.2.2.1.drum (fun H locs hQ hk hS => ?_)
          have hW := hW.join hQ hk hS
          have hW : WX E A B (u.1, u.2.1, u.2.2.1, u.2.2.2.1, q12.2) s H locs := hW
          refine lv_lstore (lv' := [(10, .long q12.1), (9, .ref (B (8 + k4))), (0, .ref (B 0)), (1, .int x1), (3, .long x3), (5, .long x5), (7, .int x7), (8, .int x8)]) hx hb dX4_lend_134 hl (by decide) rfl (fun ls hl => ?_)
          refine lv_aload_n hx hb dX4_lend_136 rfl (lv_at hl 2 rfl) ?_
          refine x_get C0 hW.1 iX4_lend_X4 7 (by decide) (by decide +kernel) rfl dX4_lend_137 ?_
          obtain ⟨q14, h15, hf⟩ := bd hf
          refine k_roL (run_VN (rest := []) (n := 0) C0 (tX1_draws E (fun i => B (4 + i)) h15) gX4_lend_X1_draws_n123 rfl (by decide +kernel) (by decide +kernel) (by decide +kernel) (by decide +kernel) rfl (by decide +kernel) (hW.1.drum 0 _ rfl) rfl rfl hW.1.drum hl.1 rfl rfl (Nat.le_of_ble_eq_true rfl) dX4_lend_140) ?_
          refine lv_lstore (lv' := [(12, .long q14), (10, .long q12.1), (9, .ref (B (8 + k4))), (0, .ref (B 0)), (1, .int x1), (3, .long x3), (5, .long x5), (7, .int x7), (8, .int x8)]) hx hb dX4_lend_143 hl (by decide) rfl (fun ls hl => ?_)
          refine lv_lload hx hb dX4_lend_145 (lv_at hl 1 rfl) ?_
          refine lv_lload hx hb dX4_lend_147 (lv_at hl 0 rfl) ?_
          refine lv_lload_n hx hb dX4_lend_149 rfl (lv_at hl 5 rfl) ?_
          refine lv_lload hx hb dX4_lend_150 (lv_at hl 6 rfl) ?_
          obtain ⟨q16, h17, hf⟩ := bd hf
          refine k_roI (run_S (rest := []) (n := 4) (PH := fun _ => True) C0 (tX4_isMore E h17) gX4_lend_X4_isMore rfl rfl (by decide +kernel) trivial hl.1 rfl rfl (Nat.le_of_ble_eq_true rfl) dX4_lend_152) ?_
          refine lv_if_eq (tgt := 169) hx hb dX4_lend_155 (by decide) (fun c18 => ?_) (fun c18 => ?_)
          · have hf := th hf c18
            exact tX4_lend_169 C0 ih (Decidable.of_not_not h5) hW (lv_sub hl [3, 4, 5, 6, 7, 8, 2] rfl) hf
          · have hf := el hf c18
            refine lv_lload hx hb dX4_lend_158 (lv_at hl 1 rfl) ?_
            refine lv_lstore_n (lv' := [(3, .long q12.1), (12, .long q14), (10, .long q12.1), (9, .ref (B (8 + k4))), (0, .ref (B 0)), (1, .int x1), (5, .long x5), (7, .int x7), (8, .int x8)]) hx hb dX4_lend_160 rfl hl (by decide) rfl (fun ls hl => ?_)
            refine lv_lload hx hb dX4_lend_161 (lv_at hl 1 rfl) ?_
            refine lv_lstore (lv' := [(5, .long q14), (3, .long q12.1), (12, .long q14), (10, .long q12.1), (9, .ref (B (8 + k4))), (0, .ref (B 0)), (1, .int x1), (7, .int x7), (8, .int x8)]) hx hb dX4_lend_163 hl (by decide) rfl (fun ls hl => ?_)
            refine lv_iload hx hb dX4_lend_165 (lv_at hl 8 rfl) ?_
            refine lv_istore (lv' := [(7, .int x8), (5, .long q14), (3, .long q12.1), (12, .long q14), (10, .long q12.1), (9, .ref (B (8 + k4))), (0, .ref (B 0)), (1, .int x1), (8, .int x8)]) hx hb dX4_lend_167 hl (by decide) rfl (fun ls hl => ?_)
            exact tX4_lend_169 C0 ih (Decidable.of_not_not h5) hW (lv_sub hl [6, 7, 2, 1, 0, 8, 5] rfl) hf
set_option maxHeartbeats 4000000 in
set_option maxRecDepth 100000 in
theorem tX4_lend_0 {p : Program} {l : Launch} {e : Env} {s : State} {m : MethodId} {args : Array Value} {below : List Frame} {meth : Method} {c : Code} {E : EE} {B : Nat → Nat} {A : Nat → Prop} {out : Int32 × SX} (C0 : cx wsX4_lend cX4_lend 14 (some .int) RX4 E p s m args meth c) {x1 : Int32} {u : SX} {H : Heap} {locs : List Loc} {ls : Array Slot} (hW : WX E A B u s H locs) (hl : lv_has ls 14 [(0, .ref (B 0)), (1, .int x1)]) (hf : fX4_lend x1 u = some out) : W p l e rmX4_lend s m args below meth c H locs 0 0 (MQ below (va_Qi (fun r (_ : Unit) => r = out.1) (fun _ t => QX E A B out.2 t.heap) A) args s 0 0 A) (F0 m 0 ls []) := by
  obtain ⟨hx, hb, hr, hml, hown, hts, hlk, hK⟩ := id C0
  unfold fX4_lend at hf
  refine lv_aload_n hx hb dX4_lend_0 rfl (lv_at hl 0 rfl) ?_
  refine lv_iload_n hx hb dX4_lend_1 rfl (lv_at hl 1 rfl) ?_
  obtain ⟨q1, h2, hf⟩ := bd hf
  refine k_roQ (run_V (rest := []) (n := 1) C0 (tX4_citizen (u := u) E B h2) gX4_lend_X4_citizen rfl rfl (by decide +kernel) (hW.1 0 _ rfl) rfl rfl hW.1 hl.1 rfl rfl (Nat.le_of_ble_eq_true rfl) dX4_lend_2) ?_
  cases q1 with
  | none =>
    rw [Option.elim_none] at hf
    refine W.eq (g2 := F0 m 5 ls [.null]) rfl ?_
    refine lv_astore_nN (lv' := [(2, .null), (0, .ref (B 0)), (1, .int x1)]) hx hb dX4_lend_5 rfl hl (by decide) rfl (fun ls hl => ?_)
    refine lv_aload_nN hx hb dX4_lend_6 rfl (lv_at hl 0 rfl) ?_
    refine lv_ifnonnullN hx hb dX4_lend_7 ?_
    refine lv_iconst (v := (-1 : Int32)) hx hb dX4_lend_10 (by decide) ?_
    obtain rfl := Option.some.inj hf
    exact e_muI (QH := QX E A B u) C0 hW.2.2.2 rfl ⟨hW.1, hW.2.1, hW.2.2.1⟩ dX4_lend_11
  | some k3 =>
    rw [Option.elim_some] at hf
    obtain ⟨h4, hf⟩ := gd hf
    refine W.eq (g2 := F0 m 5 ls [.ref (B (8 + k3))]) rfl ?_
    refine lv_astore_n (lv' := [(2, .ref (B (8 + k3))), (0, .ref (B 0)), (1, .int x1)]) hx hb dX4_lend_5 rfl hl (by decide) rfl (fun ls hl => ?_)
    refine lv_aload_n hx hb dX4_lend_6 rfl (lv_at hl 0 rfl) ?_
    refine lv_ifnonnull (tgt := 12) hx hb dX4_lend_7 (by decide) ?_
    refine lv_aload_n hx hb dX4_lend_12 rfl (lv_at hl 0 rfl) ?_
    refine c_getN C0 (hW.1.cit (Decidable.of_not_not h4)) iX4_lend_X0 1 (by decide) (by decide +kernel) rfl dX4_lend_13 ?_
    refine lv_iconst (v := (2 : Int32)) hx hb dX4_lend_16 (by decide) ?_
    refine lv_icmp_ge (tgt := 23) hx hb dX4_lend_17 (by decide) (fun c5 => ?_) (fun c5 => ?_)
    · have hf := th hf c5
      refine lv_aload_n hx hb dX4_lend_23 rfl (lv_at hl 1 rfl) ?_
      obtain ⟨q6, h7, hf⟩ := bd hf
      refine k_muV (run_V (rest := []) (n := 0) C0 (tX4_fillDrum (u := u) E A B hW.2.1 hW.2.2.1 h7) gX4_lend_X4_fillDrum rfl rfl (by decide +kernel) (hW.1 0 _ rfl) rfl rfl hW.1 hl.1 rfl rfl (Nat.le_of_ble_eq_true rfl) dX4_lend_24) hW.2.2.2 (fun _ h => h) (fun H locs hQ _ hS => ?_)
      have hW : WX E A B q6 s H locs := ⟨hQ.1, hQ.2.1, hQ.2.2, hS⟩
      refine lv_aload_n hx hb dX4_lend_27 rfl (lv_at hl 1 rfl) ?_
      refine x_get C0 hW.1 iX4_lend_X4 7 (by decide) (by decide +kernel) rfl dX4_lend_28 ?_
      obtain ⟨q8, h9, hf⟩ := bd hf
      refine k_muL (run_VN (rest := []) (n := 0) C0 (tX1_drawsPassing E (fun i => B (4 + i)) hW.2.1.drum h9) gX4_lend_X1_drawsPassing_n137 rfl (by decide +kernel) (by decide +kernel) (by decide +kernel) (by decide +kernel) rfl (by decide +kernel) (hW.1.drum 0 _ rfl) rfl rfl hW.1.drum hl.1 rfl rfl (Nat.le_of_ble_eq_true rfl) dX4_lend_31) hW.2.2.2 hW.2.2.1.drum (fun H locs hQ hk hS => ?_)
      have hW := hW.join hQ hk hS
      have hW : WX E A B (q6.1, q6.2.1, q6.2.2.1, q6.2.2.2.1, q8.2) s H locs := hW
      refine lv_lstore_n (lv' := [(3, .long q8.1), (2, .ref (B (8 + k3))), (0, .ref (B 0)), (1, .int x1)]) hx hb dX4_lend_34 rfl hl (by decide) rfl (fun ls hl => ?_)
      refine lv_aload_n hx hb dX4_lend_35 rfl (lv_at hl 2 rfl) ?_
      refine x_get C0 hW.1 iX4_lend_X4 7 (by decide) (by decide +kernel) rfl dX4_lend_36 ?_
      obtain ⟨q10, h11, hf⟩ := bd hf
      refine k_roL (run_VN (rest := []) (n := 0) C0 (tX1_draws E (fun i => B (4 + i)) h11) gX4_lend_X1_draws_n123 rfl (by decide +kernel) (by decide +kernel) (by decide +kernel) (by decide +kernel) rfl (by decide +kernel) (hW.1.drum 0 _ rfl) rfl rfl hW.1.drum hl.1 rfl rfl (Nat.le_of_ble_eq_true rfl) dX4_lend_39) ?_
      refine lv_lstore (lv' := [(5, .long q10), (3, .long q8.1), (2, .ref (B (8 + k3))), (0, .ref (B 0)), (1, .int x1)]) hx hb dX4_lend_42 hl (by decide) rfl (fun ls hl => ?_)
      refine lv_bipush (v := (-9 : Int32)) hx hb dX4_lend_44 (by decide) ?_
      refine lv_istore (lv' := [(7, .int (-9 : Int32)), (5, .long q10), (3, .long q8.1), (2, .ref (B (8 + k3))), (0, .ref (B 0)), (1, .int x1)]) hx hb dX4_lend_46 hl (by decide) rfl (fun ls hl => ?_)
      refine lv_aload_n hx hb dX4_lend_48 rfl (lv_at hl 4 rfl) ?_
      refine x_get C0 hW.1 iX4_lend_X4 7 (by decide) (by decide +kernel) rfl dX4_lend_49 ?_
      refine lv_iload_n hx hb dX4_lend_52 rfl (lv_at hl 5 rfl) ?_
      refine lv_aload_n hx hb dX4_lend_53 rfl (lv_at hl 3 rfl) ?_
      refine c_getN C0 (hW.1.cit (Decidable.of_not_not h4)) iX4_lend_X0 0 (by decide) (by decide +kernel) rfl dX4_lend_54 ?_
      refine lv_aload_n hx hb dX4_lend_57 rfl (lv_at hl 3 rfl) ?_
      refine c_getN C0 (hW.1.cit (Decidable.of_not_not h4)) iX4_lend_X0 1 (by decide) (by decide +kernel) rfl dX4_lend_58 ?_
      refine lv_iconst (v := (1 : Int32)) hx hb dX4_lend_61 (by decide) ?_
      refine lv_isub hx hb dX4_lend_62 ?_
      obtain ⟨q12, h13, hf⟩ := bd hf
      refine k_roI (run_S (rest := [.int x1, .ref (B 4)]) (n := 2) (PH := fun _ => True) C0 (tX4_slipsOf E h13) gX4_lend_X4_slipsOf rfl rfl (by decide +kernel) trivial hl.1 rfl rfl (Nat.le_of_ble_eq_true rfl) dX4_lend_63) ?_
      obtain ⟨q14, h15, hf⟩ := bd hf
      refine k_muV (run_VN (rest := []) (n := 2) C0 (tX1_setSlips E (fun i => B (4 + i)) hW.2.1.drum h15) gX4_lend_X1_setSlips_n140 rfl (by decide +kernel) (by decide +kernel) (by decide +kernel) (by decide +kernel) rfl (by decide +kernel) (hW.1.drum 0 _ rfl) rfl rfl hW.1.drum hl.1 rfl rfl (Nat.le_of_ble_eq_true rfl) dX4_lend_66) hW.2.2.2 hW.2.2.1.drum (fun H locs hQ hk hS => ?_)
      have hW := hW.join hQ hk hS
      have hW : WX E A B (q6.1, q6.2.1, q6.2.2.1, q6.2.2.2.1, q14) s H locs := hW
      refine lv_iconst (v := (0 : Int32)) hx hb dX4_lend_69 (by decide) ?_
      refine lv_istore (lv' := [(8, .int (0 : Int32)), (7, .int (-9 : Int32)), (5, .long q10), (3, .long q8.1), (2, .ref (B (8 + k3))), (0, .ref (B 0)), (1, .int x1)]) hx hb dX4_lend_70 hl (by decide) rfl (fun ls hl => ?_)
      exact tX4_lend_72 C0 fu _ _ _ _ _ _ _ _ _ hW (lv_sub hl [5, 6, 3, 2, 1, 0] rfl) hf
    · have hf := el hf c5
      refine lv_bipush (v := (-3 : Int32)) hx hb dX4_lend_20 (by decide) ?_
      obtain rfl := Option.some.inj hf
      exact e_muI (QH := QX E A B u) C0 hW.2.2.2 rfl ⟨hW.1, hW.2.1, hW.2.2.1⟩ dX4_lend_22
set_option maxHeartbeats 4000000 in
set_option maxRecDepth 100000 in
theorem tX4_lend {l : Launch} (E : EE) (A : Nat → Prop) (B : Nat → Nat) {u : SX} {x1 : Int32} {out : Int32 × SX} (hI : fI (cX E B u)) (hA : AX E B u A) (hf : fX4_lend x1 u = some out) : muI l yX4_lend wsX4_lend rmX4_lend E [.ref (B 0), .int x1] A (fP E (cX E B u)) (QX E A B out.2) out.1 := by
  refine Met.ofW (cc := cX4_lend) (maxL := 14) (ret := (some .int)) (by decide) rfl ?_
  intro p e s m args below meth c s₁ B0 hml hv
  obtain ⟨rfl, hP, hK⟩ := hv
  have C0 : cx wsX4_lend cX4_lend 14 (some .int) RX4 E p s m _ meth c := ⟨B0.exec, B0.bytes, B0.returns, hml, findClass_of_methodNamed B0.named, atoms_spec (ws := wsX4_lend) B0.pre, B0.notSynchronized, hK⟩
  have hl := lv_entry ([.ref (B 0), .int x1]) (n := 14) (Nat.le_of_ble_eq_true rfl)
  rw [lg_entry_eq]
  generalize (lg_sl ([.ref (B 0), .int x1]) ++ List.replicate (14 - (lg_sl ([.ref (B 0), .int x1])).length) Slot.unset).toArray = ls at hl ⊢
  exact tX4_lend_0 C0 ⟨hP, hI, hA, va_S.rf⟩ hl hf
abbrev rmX4_least : Room := { frames := 6, cells := 0, slots := 0, locals := 141 }
set_option maxRecDepth 20000 in
theorem iX4_least_X0 : ∀ w ∈ wsX00, w ∈ wsX4_least := by decide +kernel
set_option maxRecDepth 20000 in
theorem iX4_least_X4 : ∀ w ∈ wsX40, w ∈ wsX4_least := by decide +kernel
set_option maxHeartbeats 4000000 in
set_option maxRecDepth 100000 in
theorem tX4_least_9 {p : Program} {l : Launch} {e : Env} {s : State} {m : MethodId} {args : Array Value} {below : List Frame} {meth : Method} {c : Code} {E : EE} {B : Nat → Nat} {A : Nat → Prop} {out : Int32 × SX} (C0 : cx wsX4_least cX4_least 7 (some .int) RX4 E p s m args meth c) {u : SX} {H : Heap} {locs : List Loc} {ls : Array Slot} (hW : WX E A B u s H locs) (hl : lv_has ls 7 []) (hf : fX4_least_9 u = some out) : W p l e rmX4_least s m args below meth c H locs 0 0 (MQ below (va_Qi (fun r (_ : Unit) => r = out.1) (fun _ t => QX E A B out.2 t.heap) A) args s 0 0 A) (F0 m 9 ls []) := by
  obtain ⟨hx, hb, hr, hml, hown, hts, hlk, hK⟩ := id C0
  unfold fX4_least_9 at hf
  refine lv_bipush (v := (-2 : Int32)) hx hb dX4_least_9 (by decide) ?_
  obtain rfl := Option.some.inj hf
  exact e_muI (QH := QX E A B u) C0 hW.2.2.2 rfl ⟨hW.1, hW.2.1, hW.2.2.1⟩ dX4_least_11
set_option maxHeartbeats 4000000 in
set_option maxRecDepth 100000 in
theorem tX4_least_155 {p : Program} {l : Launch} {e : Env} {s : State} {m : MethodId} {args : Array Value} {below : List Frame} {meth : Method} {c : Code} {E : EE} {B : Nat → Nat} {A : Nat → Prop} {out : Int32 × SX} {c56 : Int32 → Int32 → Int32 → Int32 → SX → Option (Int32 × SX)} (C0 : cx wsX4_least cX4_least 7 (some .int) RX4 E p s m args meth c) (hc56 : ∀ (x1 : Int32) (x2 : Int32) (x3 : Int32) (x4 : Int32) (u : SX) (H : Heap) (locs : List Loc) (ls : Array Slot) (_ : WX E A B u s H locs), lv_has ls 7 [(0, .ref (B 0)), (1, .int x1), (2, .int x2), (3, .int x3), (4, .int x4)] → c56 x1 x2 x3 x4 u = some out → W p l e rmX4_least s m args below meth c H locs 0 0 (MQ below (va_Qi (fun r (_ : Unit) => r = out.1) (fun _ t => QX E A B out.2 t.heap) A) args s 0 0 A) (F0 m 56 ls [])) {x1 : Int32} {x2 : Int32} {x3 : Int32} {x4 : Int32} {u : SX} {H : Heap} {locs : List Loc} {ls : Array Slot} (hW : WX E A B u s H locs) (hl : lv_has ls 7 [(0, .ref (B 0)), (1, .int x1), (2, .int x2), (3, .int x3), (4, .int x4)]) (hf : fX4_least_155 c56 x1 x2 x3 x4 u = some out) : W p l e rmX4_least s m args below meth c H locs 0 0 (MQ below (va_Qi (fun r (_ : Unit) => r = out.1) (fun _ t => QX E A B out.2 t.heap) A) args s 0 0 A) (F0 m 155 ls []) := by
  obtain ⟨hx, hb, hr, hml, hown, hts, hlk, hK⟩ := id C0
  unfold fX4_least_155 at hf
  refine lv_iinc (v := (x4 + (1 : Int32))) (lv' := [(4, .int (x4 + (1 : Int32))), (0, .ref (B 0)), (1, .int x1), (2, .int x2), (3, .int x3)]) hx hb dX4_least_155 hl (k := 4) rfl rfl (by decide) rfl (fun ls hl => ?_)
  refine lv_goto (tgt := 56) hx hb dX4_least_158 (by decide) ?_
  exact hc56 _ _ _ _ _ _ _ _ hW (lv_sub hl [1, 2, 3, 4, 0] rfl) hf
set_option maxHeartbeats 4000000 in
set_option maxRecDepth 100000 in
theorem tX4_least_145 {p : Program} {l : Launch} {e : Env} {s : State} {m : MethodId} {args : Array Value} {below : List Frame} {meth : Method} {c : Code} {E : EE} {B : Nat → Nat} {A : Nat → Prop} {out : Int32 × SX} {c56 : Int32 → Int32 → Int32 → Int32 → SX → Option (Int32 × SX)} (C0 : cx wsX4_least cX4_least 7 (some .int) RX4 E p s m args meth c) (hc56 : ∀ (x1 : Int32) (x2 : Int32) (x3 : Int32) (x4 : Int32) (u : SX) (H : Heap) (locs : List Loc) (ls : Array Slot) (_ : WX E A B u s H locs), lv_has ls 7 [(0, .ref (B 0)), (1, .int x1), (2, .int x2), (3, .int x3), (4, .int x4)] → c56 x1 x2 x3 x4 u = some out → W p l e rmX4_least s m args below meth c H locs 0 0 (MQ below (va_Qi (fun r (_ : Unit) => r = out.1) (fun _ t => QX E A B out.2 t.heap) A) args s 0 0 A) (F0 m 56 ls [])) {x1 : Int32} {x2 : Int32} {x3 : Int32} {x4 : Int32} {u : SX} {H : Heap} {locs : List Loc} {ls : Array Slot} (hW : WX E A B u s H locs) (hl : lv_has ls 7 [(0, .ref (B 0)), (1, .int x1), (2, .int x2), (3, .int x3), (4, .int x4)]) (hf : fX4_least_145 c56 x1 x2 x3 x4 u = some out) : W p l e rmX4_least s m args below meth c H locs 0 0 (MQ below (va_Qi (fun r (_ : Unit) => r = out.1) (fun _ t => QX E A B out.2 t.heap) A) args s 0 0 A) (F0 m 145 ls []) := by
  obtain ⟨hx, hb, hr, hml, hown, hts, hlk, hK⟩ := id C0
  unfold fX4_least_145 at hf
  refine lv_aload_n hx hb dX4_least_145 rfl (lv_at hl 0 rfl) ?_
  refine x_get C0 hW.1 iX4_least_X4 7 (by decide) (by decide +kernel) rfl dX4_least_146 ?_
  refine lv_iload hx hb dX4_least_149 (lv_at hl 4 rfl) ?_
  refine lv_iconst (v := (0 : Int32)) hx hb dX4_least_151 (by decide) ?_
  obtain ⟨q1, h2, hf⟩ := bd hf
  refine k_muV (run_VN (rest := []) (n := 2) C0 (tX1_setWishes E (fun i => B (4 + i)) hW.2.1.drum h2) gX4_least_X1_setWishes_n156 rfl (by decide +kernel) (by decide +kernel) (by decide +kernel) (by decide +kernel) rfl (by decide +kernel) (hW.1.drum 0 _ rfl) rfl rfl hW.1.drum hl.1 rfl rfl (Nat.le_of_ble_eq_true rfl) dX4_least_152) hW.2.2.2 hW.2.2.1.drum (fun H locs hQ hk hS => ?_)
  have hW := hW.join hQ hk hS
  have hW : WX E A B (u.1, u.2.1, u.2.2.1, u.2.2.2.1, q1) s H locs := hW
  exact tX4_least_155 C0 hc56 hW (lv_sub hl [0, 1, 2, 3, 4] rfl) hf
set_option maxHeartbeats 4000000 in
set_option maxRecDepth 100000 in
theorem tX4_least_139 {p : Program} {l : Launch} {e : Env} {s : State} {m : MethodId} {args : Array Value} {below : List Frame} {meth : Method} {c : Code} {E : EE} {B : Nat → Nat} {A : Nat → Prop} {out : Int32 × SX} {c56 : Int32 → Int32 → Int32 → Int32 → SX → Option (Int32 × SX)} (C0 : cx wsX4_least cX4_least 7 (some .int) RX4 E p s m args meth c) (hc56 : ∀ (x1 : Int32) (x2 : Int32) (x3 : Int32) (x4 : Int32) (u : SX) (H : Heap) (locs : List Loc) (ls : Array Slot) (_ : WX E A B u s H locs), lv_has ls 7 [(0, .ref (B 0)), (1, .int x1), (2, .int x2), (3, .int x3), (4, .int x4)] → c56 x1 x2 x3 x4 u = some out → W p l e rmX4_least s m args below meth c H locs 0 0 (MQ below (va_Qi (fun r (_ : Unit) => r = out.1) (fun _ t => QX E A B out.2 t.heap) A) args s 0 0 A) (F0 m 56 ls [])) {x1 : Int32} {x4 : Int32} {x6 : Int32} {u : SX} {H : Heap} {locs : List Loc} {ls : Array Slot} (hW : WX E A B u s H locs) (hl : lv_has ls 7 [(0, .ref (B 0)), (1, .int x1), (4, .int x4), (6, .int x6)]) (hf : fX4_least_139 c56 x1 x4 x6 u = some out) : W p l e rmX4_least s m args below meth c H locs 0 0 (MQ below (va_Qi (fun r (_ : Unit) => r = out.1) (fun _ t => QX E A B out.2 t.heap) A) args s 0 0 A) (F0 m 139 ls []) := by
  obtain ⟨hx, hb, hr, hml, hown, hts, hlk, hK⟩ := id C0
  unfold fX4_least_139 at hf
  refine lv_iload hx hb dX4_least_139 (lv_at hl 3 rfl) ?_
  refine lv_istore_n (lv' := [(2, .int x6), (0, .ref (B 0)), (1, .int x1), (4, .int x4), (6, .int x6)]) hx hb dX4_least_141 rfl hl (by decide) rfl (fun ls hl => ?_)
  refine lv_iload hx hb dX4_least_142 (lv_at hl 3 rfl) ?_
  refine lv_istore_n (lv' := [(3, .int x4), (2, .int x6), (0, .ref (B 0)), (1, .int x1), (4, .int x4), (6, .int x6)]) hx hb dX4_least_144 rfl hl (by decide) rfl (fun ls hl => ?_)
  exact tX4_least_145 C0 hc56 hW (lv_sub hl [2, 3, 1, 0, 4] rfl) hf
set_option maxHeartbeats 4000000 in
set_option maxRecDepth 100000 in
theorem tX4_least_56 {p : Program} {l : Launch} {e : Env} {s : State} {m : MethodId} {args : Array Value} {below : List Frame} {meth : Method} {c : Code} {E : EE} {B : Nat → Nat} {A : Nat → Prop} {out : Int32 × SX} (C0 : cx wsX4_least cX4_least 7 (some .int) RX4 E p s m args meth c) : ∀ (n : Nat) (x1 : Int32) (x2 : Int32) (x3 : Int32) (x4 : Int32) (u : SX) (H : Heap) (locs : List Loc) (ls : Array Slot) (_ : WX E A B u s H locs), lv_has ls 7 [(0, .ref (B 0)), (1, .int x1), (2, .int x2), (3, .int x3), (4, .int x4)] → fX4_least_56 n x1 x2 x3 x4 u = some out → W p l e rmX4_least s m args below meth c H locs 0 0 (MQ below (va_Qi (fun r (_ : Unit) => r = out.1) (fun _ t => QX E A B out.2 t.heap) A) args s 0 0 A) (F0 m 56 ls []) := by
  obtain ⟨hx, hb, hr, hml, hown, hts, hlk, hK⟩ := id C0
  intro n
  induction n with
  | zero =>
    intro x1 x2 x3 x4 u H locs ls hW hl hf
    cases (show none = some out from hf)
  | succ n ih =>
    intro x1 x2 x3 x4 u H locs ls hW hl hf
    rw [fX4_least_56] at hf
    refine lv_iload hx hb dX4_least_56 (lv_at hl 4 rfl) ?_
    refine lv_aload_n hx hb dX4_least_58 rfl (lv_at hl 0 rfl) ?_
    refine x_get C0 hW.1 iX4_least_X4 1 (by decide) (by decide +kernel) rfl dX4_least_59 ?_
    refine lv_icmp_ge (tgt := 161) hx hb dX4_least_62 (by decide) (fun c1 => ?_) (fun c1 => ?_)
    · have hf := th hf c1
      refine lv_iload_n hx hb dX4_least_161 rfl (lv_at hl 1 rfl) ?_
      refine lv_if_ne (tgt := 169) hx hb dX4_least_162 (by decide) (fun c2 => ?_) (fun c2 => ?_)
      · have hf := el hf c2
        refine lv_iload_n hx hb dX4_least_169 rfl (lv_at hl 3 rfl) ?_
        obtain rfl := Option.some.inj hf
        exact e_muI (QH := QX E A B u) C0 hW.2.2.2 rfl ⟨hW.1, hW.2.1, hW.2.2.1⟩ dX4_least_170
      · have hf := th hf c2
        refine lv_iload_n hx hb dX4_least_165 rfl (lv_at hl 2 rfl) ?_
        refine lv_goto (tgt := 170) hx hb dX4_least_166 (by decide) ?_
        obtain rfl := Option.some.inj hf
        exact e_muI (QH := QX E A B u) C0 hW.2.2.2 rfl ⟨hW.1, hW.2.1, hW.2.2.1⟩ dX4_least_170
    · have hf := el hf c1
      refine lv_aload_n hx hb dX4_least_65 rfl (lv_at hl 0 rfl) ?_
      refine lv_iload hx hb dX4_least_66 (lv_at hl 4 rfl) ?_
      obtain ⟨q3, h4, hf⟩ := bd hf
      refine k_roQ (run_V (rest := []) (n := 1) C0 (tX4_citizen (u := u) E B h4) gX4_least_X4_citizen rfl rfl (by decide +kernel) (hW.1 0 _ rfl) rfl rfl hW.1 hl.1 rfl rfl (Nat.le_of_ble_eq_true rfl) dX4_least_68) ?_
      cases q3 with
      | none =>
        rw [Option.elim_none] at hf
        refine W.eq (g2 := F0 m 71 ls [.null]) rfl ?_
        refine lv_astoreN (lv' := [(5, .null), (0, .ref (B 0)), (1, .int x1), (2, .int x2), (3, .int x3), (4, .int x4)]) hx hb dX4_least_71 hl (by decide) rfl (fun ls hl => ?_)
        refine lv_aloadN hx hb dX4_least_73 (lv_at hl 0 rfl) ?_
        refine lv_ifnullN (tgt := 155) hx hb dX4_least_75 (by decide) ?_
        exact tX4_least_155 C0 ih hW (lv_sub hl [1, 2, 3, 4, 5] rfl) hf
      | some k5 =>
        rw [Option.elim_some] at hf
        obtain ⟨h6, hf⟩ := gd hf
        refine W.eq (g2 := F0 m 71 ls [.ref (B (8 + k5))]) rfl ?_
        refine lv_astore (lv' := [(5, .ref (B (8 + k5))), (0, .ref (B 0)), (1, .int x1), (2, .int x2), (3, .int x3), (4, .int x4)]) hx hb dX4_least_71 hl (by decide) rfl (fun ls hl => ?_)
        refine lv_aload hx hb dX4_least_73 (lv_at hl 0 rfl) ?_
        refine lv_ifnull hx hb dX4_least_75 ?_
        refine lv_aload hx hb dX4_least_78 (lv_at hl 0 rfl) ?_
        refine c_getN C0 (hW.1.cit (Decidable.of_not_not h6)) iX4_least_X0 3 (by decide) (by decide +kernel) rfl dX4_least_80 ?_
        refine lv_if_eq (tgt := 89) hx hb dX4_least_83 (by decide) (fun c7 => ?_) (fun c7 => ?_)
        · have hf := th hf c7
          refine lv_aload hx hb dX4_least_89 (lv_at hl 0 rfl) ?_
          refine c_getN C0 (hW.1.cit (Decidable.of_not_not h6)) iX4_least_X0 2 (by decide) (by decide +kernel) rfl dX4_least_91 ?_
          refine lv_aload_n hx hb dX4_least_94 rfl (lv_at hl 1 rfl) ?_
          refine x_get C0 hW.1 iX4_least_X4 3 (by decide) (by decide +kernel) rfl dX4_least_95 ?_
          refine lv_aload hx hb dX4_least_98 (lv_at hl 0 rfl) ?_
          refine c_getN C0 (hW.1.cit (Decidable.of_not_not h6)) iX4_least_X0 1 (by decide) (by decide +kernel) rfl dX4_least_100 ?_
          refine lv_imul hx hb dX4_least_103 ?_
          refine lv_iadd hx hb dX4_least_104 ?_
          refine lv_istore (lv' := [(6, .int ((u.2.2.1 k5 2) + ((u.1 3) * (u.2.2.1 k5 1)))), (5, .ref (B (8 + k5))), (0, .ref (B 0)), (1, .int x1), (2, .int x2), (3, .int x3), (4, .int x4)]) hx hb dX4_least_105 hl (by decide) rfl (fun ls hl => ?_)
          refine lv_aload_n hx hb dX4_least_107 rfl (lv_at hl 2 rfl) ?_
          refine x_get C0 hW.1 iX4_least_X4 7 (by decide) (by decide +kernel) rfl dX4_least_108 ?_
          refine lv_iload hx hb dX4_least_111 (lv_at hl 6 rfl) ?_
          refine lv_iconst (v := (1 : Int32)) hx hb dX4_least_113 (by decide) ?_
          obtain ⟨q8, h9, hf⟩ := bd hf
          refine k_muV (run_VN (rest := []) (n := 2) C0 (tX1_setWishes E (fun i => B (4 + i)) hW.2.1.drum h9) gX4_least_X1_setWishes_n156 rfl (by decide +kernel) (by decide +kernel) (by decide +kernel) (by decide +kernel) rfl (by decide +kernel) (hW.1.drum 0 _ rfl) rfl rfl hW.1.drum hl.1 rfl rfl (Nat.le_of_ble_eq_true rfl) dX4_least_114) hW.2.2.2 hW.2.2.1.drum (fun H locs hQ hk hS => ?_)
          have hW := hW.join hQ hk hS
          have hW : WX E A B (u.1, u.2.1, u.2.2.1, u.2.2.2.1, q8) s H locs := hW
          refine lv_aload_n hx hb dX4_least_117 rfl (lv_at hl 2 rfl) ?_
          refine x_get C0 hW.1 iX4_least_X4 7 (by decide) (by decide +kernel) rfl dX4_least_118 ?_
          obtain ⟨q10, h11, hf⟩ := bd hf
          refine k_muI (run_VN (rest := []) (n := 0) C0 (tX1_passesByHalf E (fun i => B (4 + i)) hW.2.1.drum h11) gX4_least_X1_passesByHalf_n152 rfl (by decide +kernel) (by decide +kernel) (by decide +kernel) (by decide +kernel) rfl (by decide +kernel) (hW.1.drum 0 _ rfl) rfl rfl hW.1.drum hl.1 rfl rfl (Nat.le_of_ble_eq_true rfl) dX4_least_121) hW.2.2.2 hW.2.2.1.drum (fun H locs hQ hk hS => ?_)
          have hW := hW.join hQ hk hS
          have hW : WX E A B (u.1, u.2.1, u.2.2.1, u.2.2.2.1, q10.2) s H locs := hW
          refine lv_if_eq (tgt := 145) hx hb dX4_least_124 (by decide) (fun c12 => ?_) (fun c12 => ?_)
          · have hf := th hf c12
            exact tX4_least_145 C0 ih hW (lv_sub hl [2, 3, 4, 5, 6] rfl) hf
          · have hf := el hf c12
            refine lv_iload_n hx hb dX4_least_127 rfl (lv_at hl 5 rfl) ?_
            refine lv_bipush (v := (-9 : Int32)) hx hb dX4_least_128 (by decide) ?_
            refine lv_icmp_eq (tgt := 139) hx hb dX4_least_130 (by decide) (fun c13 => ?_) (fun c13 => ?_)
            · have hf := th hf c13
              exact tX4_least_139 C0 ih hW (lv_sub hl [2, 3, 6, 0] rfl) hf
            · have hf := el hf c13
              refine lv_iload hx hb dX4_least_133 (lv_at hl 0 rfl) ?_
              refine lv_iload_n hx hb dX4_least_135 rfl (lv_at hl 4 rfl) ?_
              refine lv_icmp_ge (tgt := 145) hx hb dX4_least_136 (by decide) (fun c14 => ?_) (fun c14 => ?_)
              · have hf := th hf c14
                exact tX4_least_145 C0 ih hW (lv_sub hl [2, 3, 4, 5, 6] rfl) hf
              · have hf := el hf c14
                exact tX4_least_139 C0 ih hW (lv_sub hl [2, 3, 6, 0] rfl) hf
        · have hf := el hf c7
          refine lv_goto (tgt := 155) hx hb dX4_least_86 (by decide) ?_
          exact tX4_least_155 C0 ih hW (lv_sub hl [1, 2, 3, 4, 5] rfl) hf
set_option maxHeartbeats 4000000 in
set_option maxRecDepth 100000 in
theorem tX4_least_0 {p : Program} {l : Launch} {e : Env} {s : State} {m : MethodId} {args : Array Value} {below : List Frame} {meth : Method} {c : Code} {E : EE} {B : Nat → Nat} {A : Nat → Prop} {out : Int32 × SX} (C0 : cx wsX4_least cX4_least 7 (some .int) RX4 E p s m args meth c) {x1 : Int32} {u : SX} {H : Heap} {locs : List Loc} {ls : Array Slot} (hW : WX E A B u s H locs) (hl : lv_has ls 7 [(0, .ref (B 0)), (1, .int x1)]) (hf : fX4_least x1 u = some out) : W p l e rmX4_least s m args below meth c H locs 0 0 (MQ below (va_Qi (fun r (_ : Unit) => r = out.1) (fun _ t => QX E A B out.2 t.heap) A) args s 0 0 A) (F0 m 0 ls []) := by
  obtain ⟨hx, hb, hr, hml, hown, hts, hlk, hK⟩ := id C0
  unfold fX4_least at hf
  refine lv_iload_n hx hb dX4_least_0 rfl (lv_at hl 1 rfl) ?_
  refine lv_if_lt (tgt := 9) hx hb dX4_least_1 (by decide) (fun c1 => ?_) (fun c1 => ?_)
  · have hf := th hf c1
    exact tX4_least_9 C0 hW (lv_sub hl [] rfl) hf
  · have hf := el hf c1
    refine lv_iload_n hx hb dX4_least_4 rfl (lv_at hl 1 rfl) ?_
    refine lv_iconst (v := (1 : Int32)) hx hb dX4_least_5 (by decide) ?_
    refine lv_icmp_le (tgt := 12) hx hb dX4_least_6 (by decide) (fun c2 => ?_) (fun c2 => ?_)
    · have hf := th hf c2
      refine lv_aload_n hx hb dX4_least_12 rfl (lv_at hl 0 rfl) ?_
      refine x_get C0 hW.1 iX4_least_X4 1 (by decide) (by decide +kernel) rfl dX4_least_13 ?_
      refine lv_if_ne (tgt := 22) hx hb dX4_least_16 (by decide) (fun c3 => ?_) (fun c3 => ?_)
      · have hf := el hf c3
        refine lv_aload_n hx hb dX4_least_22 rfl (lv_at hl 0 rfl) ?_
        obtain ⟨q4, h5, hf⟩ := bd hf
        refine k_muV (run_V (rest := []) (n := 0) C0 (tX4_fillDrum (u := u) E A B hW.2.1 hW.2.2.1 h5) gX4_least_X4_fillDrum rfl rfl (by decide +kernel) (hW.1 0 _ rfl) rfl rfl hW.1 hl.1 rfl rfl (Nat.le_of_ble_eq_true rfl) dX4_least_23) hW.2.2.2 (fun _ h => h) (fun H locs hQ _ hS => ?_)
        have hW : WX E A B q4 s H locs := ⟨hQ.1, hQ.2.1, hQ.2.2, hS⟩
        refine lv_aload_n hx hb dX4_least_26 rfl (lv_at hl 0 rfl) ?_
        refine x_get C0 hW.1 iX4_least_X4 7 (by decide) (by decide +kernel) rfl dX4_least_27 ?_
        obtain ⟨q6, h7, hf⟩ := bd hf
        refine k_muI (run_VN (rest := []) (n := 0) C0 (tX1_passesByHalf E (fun i => B (4 + i)) hW.2.1.drum h7) gX4_least_X1_passesByHalf_n152 rfl (by decide +kernel) (by decide +kernel) (by decide +kernel) (by decide +kernel) rfl (by decide +kernel) (hW.1.drum 0 _ rfl) rfl rfl hW.1.drum hl.1 rfl rfl (Nat.le_of_ble_eq_true rfl) dX4_least_30) hW.2.2.2 hW.2.2.1.drum (fun H locs hQ hk hS => ?_)
        have hW := hW.join hQ hk hS
        have hW : WX E A B (q4.1, q4.2.1, q4.2.2.1, q4.2.2.2.1, q6.2) s H locs := hW
        refine lv_if_eq (tgt := 47) hx hb dX4_least_33 (by decide) (fun c8 => ?_) (fun c8 => ?_)
        · have hf := th hf c8
          refine lv_bipush (v := (-9 : Int32)) hx hb dX4_least_47 (by decide) ?_
          refine lv_istore_n (lv' := [(2, .int (-9 : Int32)), (0, .ref (B 0)), (1, .int x1)]) hx hb dX4_least_49 rfl hl (by decide) rfl (fun ls hl => ?_)
          refine lv_bipush (v := (-9 : Int32)) hx hb dX4_least_50 (by decide) ?_
          refine lv_istore_n (lv' := [(3, .int (-9 : Int32)), (2, .int (-9 : Int32)), (0, .ref (B 0)), (1, .int x1)]) hx hb dX4_least_52 rfl hl (by decide) rfl (fun ls hl => ?_)
          refine lv_iconst (v := (0 : Int32)) hx hb dX4_least_53 (by decide) ?_
          refine lv_istore (lv' := [(4, .int (0 : Int32)), (3, .int (-9 : Int32)), (2, .int (-9 : Int32)), (0, .ref (B 0)), (1, .int x1)]) hx hb dX4_least_54 hl (by decide) rfl (fun ls hl => ?_)
          exact tX4_least_56 C0 fu _ _ _ _ _ _ _ _ hW (lv_sub hl [3, 4, 2, 1, 0] rfl) hf
        · have hf := el hf c8
          refine lv_iload_n hx hb dX4_least_36 rfl (lv_at hl 1 rfl) ?_
          refine lv_if_ne (tgt := 44) hx hb dX4_least_37 (by decide) (fun c9 => ?_) (fun c9 => ?_)
          · have hf := el hf c9
            refine lv_bipush (v := (-9 : Int32)) hx hb dX4_least_44 (by decide) ?_
            obtain rfl := Option.some.inj hf
            exact e_muI (QH := QX E A B (q4.1, q4.2.1, q4.2.2.1, q4.2.2.2.1, q6.2)) C0 hW.2.2.2 rfl ⟨hW.1, hW.2.1, hW.2.2.1⟩ dX4_least_46
          · have hf := th hf c9
            refine lv_iconst (v := (0 : Int32)) hx hb dX4_least_40 (by decide) ?_
            refine lv_goto (tgt := 46) hx hb dX4_least_41 (by decide) ?_
            obtain rfl := Option.some.inj hf
            exact e_muI (QH := QX E A B (q4.1, q4.2.1, q4.2.2.1, q4.2.2.2.1, q6.2)) C0 hW.2.2.2 rfl ⟨hW.1, hW.2.1, hW.2.2.1⟩ dX4_least_46
      · have hf := th hf c3
        refine lv_bipush (v := (-3 : Int32)) hx hb dX4_least_19 (by decide) ?_
        obtain rfl := Option.some.inj hf
        exact e_muI (QH := QX E A B u) C0 hW.2.2.2 rfl ⟨hW.1, hW.2.1, hW.2.2.1⟩ dX4_least_21
    · have hf := el hf c2
      exact tX4_least_9 C0 hW (lv_sub hl [] rfl) hf
set_option maxHeartbeats 4000000 in
set_option maxRecDepth 100000 in
theorem tX4_least {l : Launch} (E : EE) (A : Nat → Prop) (B : Nat → Nat) {u : SX} {x1 : Int32} {out : Int32 × SX} (hI : fI (cX E B u)) (hA : AX E B u A) (hf : fX4_least x1 u = some out) : muI l yX4_least wsX4_least rmX4_least E [.ref (B 0), .int x1] A (fP E (cX E B u)) (QX E A B out.2) out.1 := by
  refine Met.ofW (cc := cX4_least) (maxL := 7) (ret := (some .int)) (by decide) rfl ?_
  intro p e s m args below meth c s₁ B0 hml hv
  obtain ⟨rfl, hP, hK⟩ := hv
  have C0 : cx wsX4_least cX4_least 7 (some .int) RX4 E p s m _ meth c := ⟨B0.exec, B0.bytes, B0.returns, hml, findClass_of_methodNamed B0.named, atoms_spec (ws := wsX4_least) B0.pre, B0.notSynchronized, hK⟩
  have hl := lv_entry ([.ref (B 0), .int x1]) (n := 7) (Nat.le_of_ble_eq_true rfl)
  rw [lg_entry_eq]
  generalize (lg_sl ([.ref (B 0), .int x1]) ++ List.replicate (7 - (lg_sl ([.ref (B 0), .int x1])).length) Slot.unset).toArray = ls at hl ⊢
  exact tX4_least_0 C0 ⟨hP, hI, hA, va_S.rf⟩ hl hf
abbrev rmX4_reading : Room := { frames := 1, cells := 0, slots := 0, locals := 21 }
set_option maxRecDepth 20000 in
theorem iX4_reading_X4 : ∀ w ∈ wsX40, w ∈ wsX4_reading := by decide +kernel
set_option maxHeartbeats 4000000 in
set_option maxRecDepth 100000 in
theorem tX4_reading_40 {p : Program} {l : Launch} {e : Env} {s : State} {m : MethodId} {args : Array Value} {below : List Frame} {meth : Method} {c : Code} {E : EE} {B : Nat → Nat} {A : Nat → Prop} {out : Int32 × SX} (C0 : cx wsX4_reading cX4_reading 2 (some .int) RX4 E p s m args meth c) {u : SX} {H : Heap} {locs : List Loc} {ls : Array Slot} (hW : WX E A B u s H locs) (hl : lv_has ls 2 []) (hf : fX4_reading_40 u = some out) : W p l e rmX4_reading s m args below meth c H locs 0 0 (MQ below (va_Qi (fun r (_ : Unit) => r = out.1) (fun _ t => QX E A B out.2 t.heap) A) args s 0 0 A) (F0 m 40 ls []) := by
  obtain ⟨hx, hb, hr, hml, hown, hts, hlk, hK⟩ := id C0
  unfold fX4_reading_40 at hf
  refine lv_bipush (v := (-4 : Int32)) hx hb dX4_reading_40 (by decide) ?_
  obtain rfl := Option.some.inj hf
  exact e_muI (QH := QX E A B u) C0 hW.2.2.2 rfl ⟨hW.1, hW.2.1, hW.2.2.1⟩ dX4_reading_42
set_option maxHeartbeats 4000000 in
set_option maxRecDepth 100000 in
theorem tX4_reading_0 {p : Program} {l : Launch} {e : Env} {s : State} {m : MethodId} {args : Array Value} {below : List Frame} {meth : Method} {c : Code} {E : EE} {B : Nat → Nat} {A : Nat → Prop} {out : Int32 × SX} (C0 : cx wsX4_reading cX4_reading 2 (some .int) RX4 E p s m args meth c) {x1 : Int32} {u : SX} {H : Heap} {locs : List Loc} {ls : Array Slot} (hW : WX E A B u s H locs) (hl : lv_has ls 2 [(0, .ref (B 0)), (1, .int x1)]) (hf : fX4_reading x1 u = some out) : W p l e rmX4_reading s m args below meth c H locs 0 0 (MQ below (va_Qi (fun r (_ : Unit) => r = out.1) (fun _ t => QX E A B out.2 t.heap) A) args s 0 0 A) (F0 m 0 ls []) := by
  obtain ⟨hx, hb, hr, hml, hown, hts, hlk, hK⟩ := id C0
  unfold fX4_reading at hf
  refine lv_aload_n hx hb dX4_reading_0 rfl (lv_at hl 0 rfl) ?_
  refine x_get C0 hW.1 iX4_reading_X4 1 (by decide) (by decide +kernel) rfl dX4_reading_1 ?_
  refine lv_if_ne (tgt := 10) hx hb dX4_reading_4 (by decide) (fun c1 => ?_) (fun c1 => ?_)
  · have hf := el hf c1
    refine lv_aload_n hx hb dX4_reading_10 rfl (lv_at hl 0 rfl) ?_
    refine lv_iload_n hx hb dX4_reading_11 rfl (lv_at hl 1 rfl) ?_
    obtain ⟨q2, h3, hf⟩ := bd hf
    refine k_roI (run_V (rest := []) (n := 1) C0 (tX4_isSet (u := u) E B h3) gX4_reading_X4_isSet rfl rfl (by decide +kernel) (hW.1 0 _ rfl) rfl rfl hW.1 hl.1 rfl rfl (Nat.le_of_ble_eq_true rfl) dX4_reading_12) ?_
    refine lv_if_ne (tgt := 21) hx hb dX4_reading_15 (by decide) (fun c4 => ?_) (fun c4 => ?_)
    · have hf := el hf c4
      refine lv_aload_n hx hb dX4_reading_21 rfl (lv_at hl 0 rfl) ?_
      refine x_get C0 hW.1 iX4_reading_X4 5 (by decide) (by decide +kernel) rfl dX4_reading_22 ?_
      refine lv_if_lt (tgt := 40) hx hb dX4_reading_25 (by decide) (fun c5 => ?_) (fun c5 => ?_)
      · have hf := th hf c5
        exact tX4_reading_40 C0 hW (lv_sub hl [] rfl) hf
      · have hf := el hf c5
        refine lv_aload_n hx hb dX4_reading_28 rfl (lv_at hl 0 rfl) ?_
        refine x_get C0 hW.1 iX4_reading_X4 5 (by decide) (by decide +kernel) rfl dX4_reading_29 ?_
        refine lv_aload_n hx hb dX4_reading_32 rfl (lv_at hl 0 rfl) ?_
        refine x_get C0 hW.1 iX4_reading_X4 4 (by decide) (by decide +kernel) rfl dX4_reading_33 ?_
        refine x_len2 C0 hW.1 dX4_reading_36 ?_
        refine lv_icmp_lt (tgt := 43) hx hb dX4_reading_37 (by decide) (fun c6 => ?_) (fun c6 => ?_)
        · have hf := th hf c6
          refine lv_aload_n hx hb dX4_reading_43 rfl (lv_at hl 0 rfl) ?_
          refine x_get C0 hW.1 iX4_reading_X4 4 (by decide) (by decide +kernel) rfl dX4_reading_44 ?_
          refine lv_aload_n hx hb dX4_reading_47 rfl (lv_at hl 0 rfl) ?_
          refine x_get C0 hW.1 iX4_reading_X4 5 (by decide) (by decide +kernel) rfl dX4_reading_48 ?_
          refine lv_iload_n hx hb dX4_reading_51 rfl (lv_at hl 1 rfl) ?_
          obtain ⟨h7, hf⟩ := gd hf
          refine x_ast C0 hW h7 dX4_reading_52 (fun H locs hW => ?_)
          have hW : WX E A B (u.1, (upd u.2.1 ((u.1 5).toNatClampNeg) x1), u.2.2.1, u.2.2.2.1, u.2.2.2.2) s H locs := hW
          refine lv_aload_n hx hb dX4_reading_53 rfl (lv_at hl 0 rfl) ?_
          refine lv_dup hx hb dX4_reading_54 rfl ?_
          refine x_get C0 hW.1 iX4_reading_X4 5 (by decide) (by decide +kernel) rfl dX4_reading_55 ?_
          refine lv_iconst (v := (1 : Int32)) hx hb dX4_reading_58 (by decide) ?_
          refine lv_iadd hx hb dX4_reading_59 ?_
          refine x_put C0 hW iX4_reading_X4 5 (by decide) (by decide +kernel) rfl (by decide +kernel) rfl dX4_reading_60 (fun H locs hW => ?_)
          have hW : WX E A B ((upd u.1 5 ((u.1 5) + (1 : Int32))), (upd u.2.1 ((u.1 5).toNatClampNeg) x1), u.2.2.1, u.2.2.2.1, u.2.2.2.2) s H locs := hW
          refine lv_aload_n hx hb dX4_reading_63 rfl (lv_at hl 0 rfl) ?_
          refine x_get C0 hW.1 iX4_reading_X4 5 (by decide) (by decide +kernel) rfl dX4_reading_64 ?_
          refine lv_iconst (v := (1 : Int32)) hx hb dX4_reading_67 (by decide) ?_
          refine lv_isub hx hb dX4_reading_68 ?_
          obtain rfl := Option.some.inj hf
          exact e_muI (QH := QX E A B ((upd u.1 5 ((u.1 5) + (1 : Int32))), (upd u.2.1 ((u.1 5).toNatClampNeg) x1), u.2.2.1, u.2.2.2.1, u.2.2.2.2)) C0 hW.2.2.2 rfl ⟨hW.1, hW.2.1, hW.2.2.1⟩ dX4_reading_69
        · have hf := el hf c6
          exact tX4_reading_40 C0 hW (lv_sub hl [] rfl) hf
    · have hf := th hf c4
      refine lv_bipush (v := (-2 : Int32)) hx hb dX4_reading_18 (by decide) ?_
      obtain rfl := Option.some.inj hf
      exact e_muI (QH := QX E A B u) C0 hW.2.2.2 rfl ⟨hW.1, hW.2.1, hW.2.2.1⟩ dX4_reading_20
  · have hf := th hf c1
    refine lv_bipush (v := (-3 : Int32)) hx hb dX4_reading_7 (by decide) ?_
    obtain rfl := Option.some.inj hf
    exact e_muI (QH := QX E A B u) C0 hW.2.2.2 rfl ⟨hW.1, hW.2.1, hW.2.2.1⟩ dX4_reading_9
set_option maxHeartbeats 4000000 in
set_option maxRecDepth 100000 in
theorem tX4_reading {l : Launch} (E : EE) (A : Nat → Prop) (B : Nat → Nat) {u : SX} {x1 : Int32} {out : Int32 × SX} (hI : fI (cX E B u)) (hA : AX E B u A) (hf : fX4_reading x1 u = some out) : muI l yX4_reading wsX4_reading rmX4_reading E [.ref (B 0), .int x1] A (fP E (cX E B u)) (QX E A B out.2) out.1 := by
  refine Met.ofW (cc := cX4_reading) (maxL := 2) (ret := (some .int)) (by decide) rfl ?_
  intro p e s m args below meth c s₁ B0 hml hv
  obtain ⟨rfl, hP, hK⟩ := hv
  have C0 : cx wsX4_reading cX4_reading 2 (some .int) RX4 E p s m _ meth c := ⟨B0.exec, B0.bytes, B0.returns, hml, findClass_of_methodNamed B0.named, atoms_spec (ws := wsX4_reading) B0.pre, B0.notSynchronized, hK⟩
  have hl := lv_entry ([.ref (B 0), .int x1]) (n := 2) (Nat.le_of_ble_eq_true rfl)
  rw [lg_entry_eq]
  generalize (lg_sl ([.ref (B 0), .int x1]) ++ List.replicate (2 - (lg_sl ([.ref (B 0), .int x1])).length) Slot.unset).toArray = ls at hl ⊢
  exact tX4_reading_0 C0 ⟨hP, hI, hA, va_S.rf⟩ hl hf
abbrev rmX4_back : Room := { frames := 0, cells := 0, slots := 0, locals := 0 }
set_option maxRecDepth 20000 in
theorem iX4_back_X4 : ∀ w ∈ wsX40, w ∈ wsX4_back := by decide +kernel
set_option maxHeartbeats 4000000 in
set_option maxRecDepth 100000 in
theorem tX4_back_12 {p : Program} {l : Launch} {e : Env} {s : State} {m : MethodId} {args : Array Value} {below : List Frame} {meth : Method} {c : Code} {E : EE} {B : Nat → Nat} {A : Nat → Prop} {out : Int32 × SX} (C0 : cx wsX4_back cX4_back 2 (some .int) RX4 E p s m args meth c) {u : SX} {H : Heap} {locs : List Loc} {ls : Array Slot} (hW : WX E A B u s H locs) (hl : lv_has ls 2 []) (hf : fX4_back_12 u = some out) : W p l e rmX4_back s m args below meth c H locs 0 0 (MQ below (va_Qi (fun r (_ : Unit) => r = out.1) (fun _ t => QX E A B out.2 t.heap) A) args s 0 0 A) (F0 m 12 ls []) := by
  obtain ⟨hx, hb, hr, hml, hown, hts, hlk, hK⟩ := id C0
  unfold fX4_back_12 at hf
  refine lv_bipush (v := (-2 : Int32)) hx hb dX4_back_12 (by decide) ?_
  obtain rfl := Option.some.inj hf
  exact e_muI (QH := QX E A B u) C0 hW.2.2.2 rfl ⟨hW.1, hW.2.1, hW.2.2.1⟩ dX4_back_14
set_option maxHeartbeats 4000000 in
set_option maxRecDepth 100000 in
theorem tX4_back_0 {p : Program} {l : Launch} {e : Env} {s : State} {m : MethodId} {args : Array Value} {below : List Frame} {meth : Method} {c : Code} {E : EE} {B : Nat → Nat} {A : Nat → Prop} {out : Int32 × SX} (C0 : cx wsX4_back cX4_back 2 (some .int) RX4 E p s m args meth c) {x1 : Int32} {u : SX} {H : Heap} {locs : List Loc} {ls : Array Slot} (hW : WX E A B u s H locs) (hl : lv_has ls 2 [(0, .ref (B 0)), (1, .int x1)]) (hf : fX4_back x1 u = some out) : W p l e rmX4_back s m args below meth c H locs 0 0 (MQ below (va_Qi (fun r (_ : Unit) => r = out.1) (fun _ t => QX E A B out.2 t.heap) A) args s 0 0 A) (F0 m 0 ls []) := by
  obtain ⟨hx, hb, hr, hml, hown, hts, hlk, hK⟩ := id C0
  unfold fX4_back at hf
  refine lv_iload_n hx hb dX4_back_0 rfl (lv_at hl 1 rfl) ?_
  refine lv_if_lt (tgt := 12) hx hb dX4_back_1 (by decide) (fun c1 => ?_) (fun c1 => ?_)
  · have hf := th hf c1
    exact tX4_back_12 C0 hW (lv_sub hl [] rfl) hf
  · have hf := el hf c1
    refine lv_iload_n hx hb dX4_back_4 rfl (lv_at hl 1 rfl) ?_
    refine lv_aload_n hx hb dX4_back_5 rfl (lv_at hl 0 rfl) ?_
    refine x_get C0 hW.1 iX4_back_X4 5 (by decide) (by decide +kernel) rfl dX4_back_6 ?_
    refine lv_icmp_le (tgt := 15) hx hb dX4_back_9 (by decide) (fun c2 => ?_) (fun c2 => ?_)
    · have hf := th hf c2
      refine lv_aload_n hx hb dX4_back_15 rfl (lv_at hl 0 rfl) ?_
      refine lv_dup hx hb dX4_back_16 rfl ?_
      refine x_get C0 hW.1 iX4_back_X4 5 (by decide) (by decide +kernel) rfl dX4_back_17 ?_
      refine lv_iload_n hx hb dX4_back_20 rfl (lv_at hl 1 rfl) ?_
      refine lv_isub hx hb dX4_back_21 ?_
      refine x_put C0 hW iX4_back_X4 5 (by decide) (by decide +kernel) rfl (by decide +kernel) rfl dX4_back_22 (fun H locs hW => ?_)
      have hW : WX E A B ((upd u.1 5 ((u.1 5) - x1)), u.2.1, u.2.2.1, u.2.2.2.1, u.2.2.2.2) s H locs := hW
      refine lv_aload_n hx hb dX4_back_25 rfl (lv_at hl 0 rfl) ?_
      refine x_get C0 hW.1 iX4_back_X4 5 (by decide) (by decide +kernel) rfl dX4_back_26 ?_
      obtain rfl := Option.some.inj hf
      exact e_muI (QH := QX E A B ((upd u.1 5 ((u.1 5) - x1)), u.2.1, u.2.2.1, u.2.2.2.1, u.2.2.2.2)) C0 hW.2.2.2 rfl ⟨hW.1, hW.2.1, hW.2.2.1⟩ dX4_back_29
    · have hf := el hf c2
      exact tX4_back_12 C0 hW (lv_sub hl [] rfl) hf
set_option maxHeartbeats 4000000 in
set_option maxRecDepth 100000 in
theorem tX4_back {l : Launch} (E : EE) (A : Nat → Prop) (B : Nat → Nat) {u : SX} {x1 : Int32} {out : Int32 × SX} (hI : fI (cX E B u)) (hA : AX E B u A) (hf : fX4_back x1 u = some out) : muI l yX4_back wsX4_back rmX4_back E [.ref (B 0), .int x1] A (fP E (cX E B u)) (QX E A B out.2) out.1 := by
  refine Met.ofW (cc := cX4_back) (maxL := 2) (ret := (some .int)) (by decide) rfl ?_
  intro p e s m args below meth c s₁ B0 hml hv
  obtain ⟨rfl, hP, hK⟩ := hv
  have C0 : cx wsX4_back cX4_back 2 (some .int) RX4 E p s m _ meth c := ⟨B0.exec, B0.bytes, B0.returns, hml, findClass_of_methodNamed B0.named, atoms_spec (ws := wsX4_back) B0.pre, B0.notSynchronized, hK⟩
  have hl := lv_entry ([.ref (B 0), .int x1]) (n := 2) (Nat.le_of_ble_eq_true rfl)
  rw [lg_entry_eq]
  generalize (lg_sl ([.ref (B 0), .int x1]) ++ List.replicate (2 - (lg_sl ([.ref (B 0), .int x1])).length) Slot.unset).toArray = ls at hl ⊢
  exact tX4_back_0 C0 ⟨hP, hI, hA, va_S.rf⟩ hl hf
abbrev rmX4_allReadingsCanBe : Room := { frames := 3, cells := 0, slots := 0, locals := 65 }
set_option maxRecDepth 20000 in
theorem iX4_allReadingsCanBe_X4 : ∀ w ∈ wsX40, w ∈ wsX4_allReadingsCanBe := by decide +kernel
set_option maxHeartbeats 4000000 in
set_option maxRecDepth 100000 in
theorem tX4_allReadingsCanBe_43 {p : Program} {l : Launch} {e : Env} {s : State} {m : MethodId} {args : Array Value} {below : List Frame} {meth : Method} {c : Code} {E : EE} {B : Nat → Nat} {u : SX} {out : Int32} (C0 : cx wsX4_allReadingsCanBe cX4_allReadingsCanBe 2 (some .boolean) RX4 E p s m args meth c) (hP : fP E (cX E B u) s.heap) {ls : Array Slot} (hl : lv_has ls 2 []) (hf : fX4_allReadingsCanBe_43 u = some out) : W p l e rmX4_allReadingsCanBe s m args below meth c s.heap [] 0 0 (MQ below (vp_Si (fun r => r = out)) args s 0 0 (fun _ => False)) (F0 m 43 ls []) := by
  obtain ⟨hx, hb, hr, hml, hown, hts, hlk, hK⟩ := id C0
  unfold fX4_allReadingsCanBe_43 at hf
  refine lv_iconst (v := (1 : Int32)) hx hb dX4_allReadingsCanBe_43 (by decide) ?_
  exact e_roZ C0 hf dX4_allReadingsCanBe_44
set_option maxHeartbeats 4000000 in
set_option maxRecDepth 100000 in
theorem tX4_allReadingsCanBe_2 {p : Program} {l : Launch} {e : Env} {s : State} {m : MethodId} {args : Array Value} {below : List Frame} {meth : Method} {c : Code} {E : EE} {B : Nat → Nat} {u : SX} {out : Int32} (C0 : cx wsX4_allReadingsCanBe cX4_allReadingsCanBe 2 (some .boolean) RX4 E p s m args meth c) (hP : fP E (cX E B u) s.heap) : ∀ (n : Nat) (x1 : Int32) (ls : Array Slot), lv_has ls 2 [(0, .ref (B 0)), (1, .int x1)] → fX4_allReadingsCanBe_2 n x1 u = some out → W p l e rmX4_allReadingsCanBe s m args below meth c s.heap [] 0 0 (MQ below (vp_Si (fun r => r = out)) args s 0 0 (fun _ => False)) (F0 m 2 ls []) := by
  obtain ⟨hx, hb, hr, hml, hown, hts, hlk, hK⟩ := id C0
  intro n
  induction n with
  | zero =>
    intro x1 ls hl hf
    cases (show none = some out from hf)
  | succ n ih =>
    intro x1 ls hl hf
    rw [fX4_allReadingsCanBe_2] at hf
    refine lv_iload_n hx hb dX4_allReadingsCanBe_2 rfl (lv_at hl 1 rfl) ?_
    refine lv_aload_n hx hb dX4_allReadingsCanBe_3 rfl (lv_at hl 0 rfl) ?_
    refine x_get C0 hP iX4_allReadingsCanBe_X4 5 (by decide) (by decide +kernel) rfl dX4_allReadingsCanBe_4 ?_
    refine lv_icmp_ge (tgt := 43) hx hb dX4_allReadingsCanBe_7 (by decide) (fun c1 => ?_) (fun c1 => ?_)
    · have hf := th hf c1
      exact tX4_allReadingsCanBe_43 C0 hP (lv_sub hl [] rfl) hf
    · have hf := el hf c1
      refine lv_iload_n hx hb dX4_allReadingsCanBe_10 rfl (lv_at hl 1 rfl) ?_
      refine lv_aload_n hx hb dX4_allReadingsCanBe_11 rfl (lv_at hl 0 rfl) ?_
      refine x_get C0 hP iX4_allReadingsCanBe_X4 4 (by decide) (by decide +kernel) rfl dX4_allReadingsCanBe_12 ?_
      refine x_len2 C0 hP dX4_allReadingsCanBe_15 ?_
      refine lv_icmp_ge (tgt := 43) hx hb dX4_allReadingsCanBe_16 (by decide) (fun c2 => ?_) (fun c2 => ?_)
      · have hf := th hf c2
        exact tX4_allReadingsCanBe_43 C0 hP (lv_sub hl [] rfl) hf
      · have hf := el hf c2
        refine lv_aload_n hx hb dX4_allReadingsCanBe_19 rfl (lv_at hl 0 rfl) ?_
        refine x_get C0 hP iX4_allReadingsCanBe_X4 7 (by decide) (by decide +kernel) rfl dX4_allReadingsCanBe_20 ?_
        refine lv_aload_n hx hb dX4_allReadingsCanBe_23 rfl (lv_at hl 0 rfl) ?_
        refine x_get C0 hP iX4_allReadingsCanBe_X4 4 (by decide) (by decide +kernel) rfl dX4_allReadingsCanBe_24 ?_
        refine lv_iload_n hx hb dX4_allReadingsCanBe_27 rfl (lv_at hl 1 rfl) ?_
        obtain ⟨h3, hf⟩ := gd hf
        refine x_ald C0 hP h3 dX4_allReadingsCanBe_28 ?_
        obtain ⟨q4, h5, hf⟩ := bd hf
        refine k_roI (run_VN (rest := []) (n := 1) C0 (tX1_canLeaveJust E (fun i => B (4 + i)) h5) gX4_allReadingsCanBe_X1_canLeaveJust_n239 rfl (by decide +kernel) (by decide +kernel) (by decide +kernel) (by decide +kernel) rfl (by decide +kernel) (hP.drum 0 _ rfl) rfl rfl hP.drum hl.1 rfl rfl (Nat.le_of_ble_eq_true rfl) dX4_allReadingsCanBe_29) ?_
        refine lv_if_ne (tgt := 37) hx hb dX4_allReadingsCanBe_32 (by decide) (fun c6 => ?_) (fun c6 => ?_)
        · have hf := el hf c6
          refine lv_iinc (v := (x1 + (1 : Int32))) (lv' := [(1, .int (x1 + (1 : Int32))), (0, .ref (B 0))]) hx hb dX4_allReadingsCanBe_37 hl (k := 1) rfl rfl (by decide) rfl (fun ls hl => ?_)
          refine lv_goto (tgt := 2) hx hb dX4_allReadingsCanBe_40 (by decide) ?_
          exact ih _ _ (lv_sub hl [1, 0] rfl) hf
        · have hf := th hf c6
          refine lv_iconst (v := (0 : Int32)) hx hb dX4_allReadingsCanBe_35 (by decide) ?_
          exact e_roZ C0 hf dX4_allReadingsCanBe_36
set_option maxHeartbeats 4000000 in
set_option maxRecDepth 100000 in
theorem tX4_allReadingsCanBe_0 {p : Program} {l : Launch} {e : Env} {s : State} {m : MethodId} {args : Array Value} {below : List Frame} {meth : Method} {c : Code} {E : EE} {B : Nat → Nat} {u : SX} {out : Int32} (C0 : cx wsX4_allReadingsCanBe cX4_allReadingsCanBe 2 (some .boolean) RX4 E p s m args meth c) (hP : fP E (cX E B u) s.heap) {ls : Array Slot} (hl : lv_has ls 2 [(0, .ref (B 0))]) (hf : fX4_allReadingsCanBe u = some out) : W p l e rmX4_allReadingsCanBe s m args below meth c s.heap [] 0 0 (MQ below (vp_Si (fun r => r = out)) args s 0 0 (fun _ => False)) (F0 m 0 ls []) := by
  obtain ⟨hx, hb, hr, hml, hown, hts, hlk, hK⟩ := id C0
  unfold fX4_allReadingsCanBe at hf
  refine lv_iconst (v := (0 : Int32)) hx hb dX4_allReadingsCanBe_0 (by decide) ?_
  refine lv_istore_n (lv' := [(1, .int (0 : Int32)), (0, .ref (B 0))]) hx hb dX4_allReadingsCanBe_1 rfl hl (by decide) rfl (fun ls hl => ?_)
  exact tX4_allReadingsCanBe_2 C0 hP fu _ _ (lv_sub hl [1, 0] rfl) hf
set_option maxHeartbeats 4000000 in
set_option maxRecDepth 100000 in
theorem tX4_allReadingsCanBe {l : Launch} (E : EE) (B : Nat → Nat) {u : SX} {out : Int32} (hf : fX4_allReadingsCanBe u = some out) : roI l yX4_allReadingsCanBe wsX4_allReadingsCanBe rmX4_allReadingsCanBe E [.ref (B 0)] (fP E (cX E B u)) out := by
  refine Met.ofW (cc := cX4_allReadingsCanBe) (maxL := 2) (ret := (some .boolean)) (by decide) rfl ?_
  intro p e s m args below meth c s₁ B0 hml hv
  obtain ⟨rfl, hP, hK⟩ := hv
  have C0 : cx wsX4_allReadingsCanBe cX4_allReadingsCanBe 2 (some .boolean) RX4 E p s m _ meth c := ⟨B0.exec, B0.bytes, B0.returns, hml, findClass_of_methodNamed B0.named, atoms_spec (ws := wsX4_allReadingsCanBe) B0.pre, B0.notSynchronized, hK⟩
  have hl := lv_entry ([.ref (B 0)]) (n := 2) (Nat.le_of_ble_eq_true rfl)
  rw [lg_entry_eq]
  generalize (lg_sl ([.ref (B 0)]) ++ List.replicate (2 - (lg_sl ([.ref (B 0)])).length) Slot.unset).toArray = ls at hl ⊢
  exact tX4_allReadingsCanBe_0 C0 hP hl hf
abbrev rmX4_tickets : Room := { frames := 4, cells := 0, slots := 0, locals := 87 }
set_option maxRecDepth 20000 in
theorem iX4_tickets_X0 : ∀ w ∈ wsX00, w ∈ wsX4_tickets := by decide +kernel
set_option maxRecDepth 20000 in
theorem iX4_tickets_X4 : ∀ w ∈ wsX40, w ∈ wsX4_tickets := by decide +kernel
set_option maxHeartbeats 4000000 in
set_option maxRecDepth 100000 in
theorem tX4_tickets_59 {p : Program} {l : Launch} {e : Env} {s : State} {m : MethodId} {args : Array Value} {below : List Frame} {meth : Method} {c : Code} {E : EE} {B : Nat → Nat} {A : Nat → Prop} {out : Int32 × SX} {c21 : Int32 → Nat → Int32 → Int32 → SX → Option (Int32 × SX)} (C0 : cx wsX4_tickets cX4_tickets 5 (some .int) RX4 E p s m args meth c) (hc21 : ∀ (x1 : Int32) (k2 : Nat) (x3 : Int32) (x4 : Int32) (u : SX) (H : Heap) (locs : List Loc) (ls : Array Slot) (hk2 : k2 < 6) (_ : WX E A B u s H locs), lv_has ls 5 [(0, .ref (B 0)), (1, .int x1), (2, .ref (B (8 + k2))), (3, .int x3), (4, .int x4)] → c21 x1 k2 x3 x4 u = some out → W p l e rmX4_tickets s m args below meth c H locs 0 0 (MQ below (va_Qi (fun r (_ : Unit) => r = out.1) (fun _ t => QX E A B out.2 t.heap) A) args s 0 0 A) (F0 m 21 ls [])) {x1 : Int32} {k2 : Nat} {x3 : Int32} {x4 : Int32} {u : SX} {H : Heap} {locs : List Loc} {ls : Array Slot} (hk2 : k2 < 6) (hW : WX E A B u s H locs) (hl : lv_has ls 5 [(0, .ref (B 0)), (1, .int x1), (2, .ref (B (8 + k2))), (3, .int x3), (4, .int x4)]) (hf : fX4_tickets_59 c21 x1 k2 x3 x4 u = some out) : W p l e rmX4_tickets s m args below meth c H locs 0 0 (MQ below (va_Qi (fun r (_ : Unit) => r = out.1) (fun _ t => QX E A B out.2 t.heap) A) args s 0 0 A) (F0 m 59 ls []) := by
  obtain ⟨hx, hb, hr, hml, hown, hts, hlk, hK⟩ := id C0
  unfold fX4_tickets_59 at hf
  refine lv_iinc (v := (x4 + (1 : Int32))) (lv' := [(4, .int (x4 + (1 : Int32))), (0, .ref (B 0)), (1, .int x1), (2, .ref (B (8 + k2))), (3, .int x3)]) hx hb dX4_tickets_59 hl (k := 4) rfl rfl (by decide) rfl (fun ls hl => ?_)
  refine lv_goto (tgt := 21) hx hb dX4_tickets_62 (by decide) ?_
  exact hc21 _ _ _ _ _ _ _ _ hk2 hW (lv_sub hl [1, 2, 3, 4, 0] rfl) hf
set_option maxHeartbeats 4000000 in
set_option maxRecDepth 100000 in
theorem tX4_tickets_21 {p : Program} {l : Launch} {e : Env} {s : State} {m : MethodId} {args : Array Value} {below : List Frame} {meth : Method} {c : Code} {E : EE} {B : Nat → Nat} {A : Nat → Prop} {out : Int32 × SX} (C0 : cx wsX4_tickets cX4_tickets 5 (some .int) RX4 E p s m args meth c) : ∀ (n : Nat) (x1 : Int32) (k2 : Nat) (x3 : Int32) (x4 : Int32) (u : SX) (H : Heap) (locs : List Loc) (ls : Array Slot) (hk2 : k2 < 6) (_ : WX E A B u s H locs), lv_has ls 5 [(0, .ref (B 0)), (1, .int x1), (2, .ref (B (8 + k2))), (3, .int x3), (4, .int x4)] → fX4_tickets_21 n x1 k2 x3 x4 u = some out → W p l e rmX4_tickets s m args below meth c H locs 0 0 (MQ below (va_Qi (fun r (_ : Unit) => r = out.1) (fun _ t => QX E A B out.2 t.heap) A) args s 0 0 A) (F0 m 21 ls []) := by
  obtain ⟨hx, hb, hr, hml, hown, hts, hlk, hK⟩ := id C0
  intro n
  induction n with
  | zero =>
    intro x1 k2 x3 x4 u H locs ls hk2 hW hl hf
    cases (show none = some out from hf)
  | succ n ih =>
    intro x1 k2 x3 x4 u H locs ls hk2 hW hl hf
    rw [fX4_tickets_21] at hf
    refine lv_iload hx hb dX4_tickets_21 (lv_at hl 4 rfl) ?_
    refine lv_bipush (v := (9 : Int32)) hx hb dX4_tickets_23 (by decide) ?_
    refine lv_icmp_gt (tgt := 65) hx hb dX4_tickets_25 (by decide) (fun c1 => ?_) (fun c1 => ?_)
    · have hf := th hf c1
      refine lv_iload_n hx hb dX4_tickets_65 rfl (lv_at hl 3 rfl) ?_
      obtain rfl := Option.some.inj hf
      exact e_muI (QH := QX E A B u) C0 hW.2.2.2 rfl ⟨hW.1, hW.2.1, hW.2.2.1⟩ dX4_tickets_66
    · have hf := el hf c1
      refine lv_aload_n hx hb dX4_tickets_28 rfl (lv_at hl 0 rfl) ?_
      refine x_get C0 hW.1 iX4_tickets_X4 7 (by decide) (by decide +kernel) rfl dX4_tickets_29 ?_
      refine lv_iload_n hx hb dX4_tickets_32 rfl (lv_at hl 1 rfl) ?_
      refine lv_aload_n hx hb dX4_tickets_33 rfl (lv_at hl 2 rfl) ?_
      refine c_getN C0 (hW.1.cit hk2) iX4_tickets_X0 0 (by decide) (by decide +kernel) rfl dX4_tickets_34 ?_
      refine lv_iload hx hb dX4_tickets_37 (lv_at hl 4 rfl) ?_
      obtain ⟨q2, h3, hf⟩ := bd hf
      refine k_roI (run_S (rest := [.int x1, .ref (B 4)]) (n := 2) (PH := fun _ => True) C0 (tX4_slipsOf E h3) gX4_tickets_X4_slipsOf rfl rfl (by decide +kernel) trivial hl.1 rfl rfl (Nat.le_of_ble_eq_true rfl) dX4_tickets_39) ?_
      obtain ⟨q4, h5, hf⟩ := bd hf
      refine k_muV (run_VN (rest := []) (n := 2) C0 (tX1_setSlips E (fun i => B (4 + i)) hW.2.1.drum h5) gX4_tickets_X1_setSlips_n140 rfl (by decide +kernel) (by decide +kernel) (by decide +kernel) (by decide +kernel) rfl (by decide +kernel) (hW.1.drum 0 _ rfl) rfl rfl hW.1.drum hl.1 rfl rfl (Nat.le_of_ble_eq_true rfl) dX4_tickets_42) hW.2.2.2 hW.2.2.1.drum (fun H locs hQ hk hS => ?_)
      have hW := hW.join hQ hk hS
      have hW : WX E A B (u.1, u.2.1, u.2.2.1, u.2.2.2.1, q4) s H locs := hW
      refine lv_aload_n hx hb dX4_tickets_45 rfl (lv_at hl 0 rfl) ?_
      obtain ⟨q6, h7, hf⟩ := bd hf
      refine k_roI (run_V (rest := []) (n := 0) C0 (tX4_allReadingsCanBe (u := (u.1, u.2.1, u.2.2.1, u.2.2.2.1, q4)) E B h7) gX4_tickets_X4_allReadingsCanBe rfl rfl (by decide +kernel) (hW.1 0 _ rfl) rfl rfl hW.1 hl.1 rfl rfl (Nat.le_of_ble_eq_true rfl) dX4_tickets_46) ?_
      refine lv_if_eq (tgt := 59) hx hb dX4_tickets_49 (by decide) (fun c8 => ?_) (fun c8 => ?_)
      · have hf := th hf c8
        exact tX4_tickets_59 C0 ih hk2 hW (lv_sub hl [0, 1, 2, 3, 4] rfl) hf
      · have hf := el hf c8
        refine lv_iload_n hx hb dX4_tickets_52 rfl (lv_at hl 3 rfl) ?_
        refine lv_iconst (v := (1 : Int32)) hx hb dX4_tickets_53 (by decide) ?_
        refine lv_iload hx hb dX4_tickets_54 (lv_at hl 4 rfl) ?_
        refine lv_ishl hx hb dX4_tickets_56 ?_
        refine lv_ior hx hb dX4_tickets_57 ?_
        refine lv_istore_n (lv' := [(3, .int (x3 ||| ((1 : Int32) <<< (x4 &&& 31)))), (0, .ref (B 0)), (1, .int x1), (2, .ref (B (8 + k2))), (4, .int x4)]) hx hb dX4_tickets_58 rfl hl (by decide) rfl (fun ls hl => ?_)
        exact tX4_tickets_59 C0 ih hk2 hW (lv_sub hl [1, 2, 3, 0, 4] rfl) hf
set_option maxHeartbeats 4000000 in
set_option maxRecDepth 100000 in
theorem tX4_tickets_0 {p : Program} {l : Launch} {e : Env} {s : State} {m : MethodId} {args : Array Value} {below : List Frame} {meth : Method} {c : Code} {E : EE} {B : Nat → Nat} {A : Nat → Prop} {out : Int32 × SX} (C0 : cx wsX4_tickets cX4_tickets 5 (some .int) RX4 E p s m args meth c) {x1 : Int32} {u : SX} {H : Heap} {locs : List Loc} {ls : Array Slot} (hW : WX E A B u s H locs) (hl : lv_has ls 5 [(0, .ref (B 0)), (1, .int x1)]) (hf : fX4_tickets x1 u = some out) : W p l e rmX4_tickets s m args below meth c H locs 0 0 (MQ below (va_Qi (fun r (_ : Unit) => r = out.1) (fun _ t => QX E A B out.2 t.heap) A) args s 0 0 A) (F0 m 0 ls []) := by
  obtain ⟨hx, hb, hr, hml, hown, hts, hlk, hK⟩ := id C0
  unfold fX4_tickets at hf
  refine lv_aload_n hx hb dX4_tickets_0 rfl (lv_at hl 0 rfl) ?_
  refine lv_iload_n hx hb dX4_tickets_1 rfl (lv_at hl 1 rfl) ?_
  obtain ⟨q1, h2, hf⟩ := bd hf
  refine k_roQ (run_V (rest := []) (n := 1) C0 (tX4_citizen (u := u) E B h2) gX4_tickets_X4_citizen rfl rfl (by decide +kernel) (hW.1 0 _ rfl) rfl rfl hW.1 hl.1 rfl rfl (Nat.le_of_ble_eq_true rfl) dX4_tickets_2) ?_
  cases q1 with
  | none =>
    rw [Option.elim_none] at hf
    refine W.eq (g2 := F0 m 5 ls [.null]) rfl ?_
    refine lv_astore_nN (lv' := [(2, .null), (0, .ref (B 0)), (1, .int x1)]) hx hb dX4_tickets_5 rfl hl (by decide) rfl (fun ls hl => ?_)
    refine lv_aload_nN hx hb dX4_tickets_6 rfl (lv_at hl 0 rfl) ?_
    refine lv_ifnonnullN hx hb dX4_tickets_7 ?_
    refine lv_iconst (v := (-1 : Int32)) hx hb dX4_tickets_10 (by decide) ?_
    obtain rfl := Option.some.inj hf
    exact e_muI (QH := QX E A B u) C0 hW.2.2.2 rfl ⟨hW.1, hW.2.1, hW.2.2.1⟩ dX4_tickets_11
  | some k3 =>
    rw [Option.elim_some] at hf
    obtain ⟨h4, hf⟩ := gd hf
    refine W.eq (g2 := F0 m 5 ls [.ref (B (8 + k3))]) rfl ?_
    refine lv_astore_n (lv' := [(2, .ref (B (8 + k3))), (0, .ref (B 0)), (1, .int x1)]) hx hb dX4_tickets_5 rfl hl (by decide) rfl (fun ls hl => ?_)
    refine lv_aload_n hx hb dX4_tickets_6 rfl (lv_at hl 0 rfl) ?_
    refine lv_ifnonnull (tgt := 12) hx hb dX4_tickets_7 (by decide) ?_
    refine lv_aload_n hx hb dX4_tickets_12 rfl (lv_at hl 1 rfl) ?_
    obtain ⟨q5, h6, hf⟩ := bd hf
    refine k_muV (run_V (rest := []) (n := 0) C0 (tX4_fillDrum (u := u) E A B hW.2.1 hW.2.2.1 h6) gX4_tickets_X4_fillDrum rfl rfl (by decide +kernel) (hW.1 0 _ rfl) rfl rfl hW.1 hl.1 rfl rfl (Nat.le_of_ble_eq_true rfl) dX4_tickets_13) hW.2.2.2 (fun _ h => h) (fun H locs hQ _ hS => ?_)
    have hW : WX E A B q5 s H locs := ⟨hQ.1, hQ.2.1, hQ.2.2, hS⟩
    refine lv_iconst (v := (0 : Int32)) hx hb dX4_tickets_16 (by decide) ?_
    refine lv_istore_n (lv' := [(3, .int (0 : Int32)), (2, .ref (B (8 + k3))), (0, .ref (B 0)), (1, .int x1)]) hx hb dX4_tickets_17 rfl hl (by decide) rfl (fun ls hl => ?_)
    refine lv_iconst (v := (1 : Int32)) hx hb dX4_tickets_18 (by decide) ?_
    refine lv_istore (lv' := [(4, .int (1 : Int32)), (3, .int (0 : Int32)), (2, .ref (B (8 + k3))), (0, .ref (B 0)), (1, .int x1)]) hx hb dX4_tickets_19 hl (by decide) rfl (fun ls hl => ?_)
    exact tX4_tickets_21 C0 fu _ _ _ _ _ _ _ _ (Decidable.of_not_not h4) hW (lv_sub hl [3, 4, 2, 1, 0] rfl) hf
set_option maxHeartbeats 4000000 in
set_option maxRecDepth 100000 in
theorem tX4_tickets {l : Launch} (E : EE) (A : Nat → Prop) (B : Nat → Nat) {u : SX} {x1 : Int32} {out : Int32 × SX} (hI : fI (cX E B u)) (hA : AX E B u A) (hf : fX4_tickets x1 u = some out) : muI l yX4_tickets wsX4_tickets rmX4_tickets E [.ref (B 0), .int x1] A (fP E (cX E B u)) (QX E A B out.2) out.1 := by
  refine Met.ofW (cc := cX4_tickets) (maxL := 5) (ret := (some .int)) (by decide) rfl ?_
  intro p e s m args below meth c s₁ B0 hml hv
  obtain ⟨rfl, hP, hK⟩ := hv
  have C0 : cx wsX4_tickets cX4_tickets 5 (some .int) RX4 E p s m _ meth c := ⟨B0.exec, B0.bytes, B0.returns, hml, findClass_of_methodNamed B0.named, atoms_spec (ws := wsX4_tickets) B0.pre, B0.notSynchronized, hK⟩
  have hl := lv_entry ([.ref (B 0), .int x1]) (n := 5) (Nat.le_of_ble_eq_true rfl)
  rw [lg_entry_eq]
  generalize (lg_sl ([.ref (B 0), .int x1]) ++ List.replicate (5 - (lg_sl ([.ref (B 0), .int x1])).length) Slot.unset).toArray = ls at hl ⊢
  exact tX4_tickets_0 C0 ⟨hP, hI, hA, va_S.rf⟩ hl hf
abbrev rmX4_kinds : Room := { frames := 4, cells := 0, slots := 0, locals := 87 }
set_option maxRecDepth 20000 in
theorem iX4_kinds_X0 : ∀ w ∈ wsX00, w ∈ wsX4_kinds := by decide +kernel
set_option maxRecDepth 20000 in
theorem iX4_kinds_X4 : ∀ w ∈ wsX40, w ∈ wsX4_kinds := by decide +kernel
set_option maxHeartbeats 4000000 in
set_option maxRecDepth 100000 in
theorem tX4_kinds_58 {p : Program} {l : Launch} {e : Env} {s : State} {m : MethodId} {args : Array Value} {below : List Frame} {meth : Method} {c : Code} {E : EE} {B : Nat → Nat} {A : Nat → Prop} {out : Int32 × SX} {c21 : Int32 → Nat → Int32 → Int32 → SX → Option (Int32 × SX)} (C0 : cx wsX4_kinds cX4_kinds 5 (some .int) RX4 E p s m args meth c) (hc21 : ∀ (x1 : Int32) (k2 : Nat) (x3 : Int32) (x4 : Int32) (u : SX) (H : Heap) (locs : List Loc) (ls : Array Slot) (hk2 : k2 < 6) (_ : WX E A B u s H locs), lv_has ls 5 [(0, .ref (B 0)), (1, .int x1), (2, .ref (B (8 + k2))), (3, .int x3), (4, .int x4)] → c21 x1 k2 x3 x4 u = some out → W p l e rmX4_kinds s m args below meth c H locs 0 0 (MQ below (va_Qi (fun r (_ : Unit) => r = out.1) (fun _ t => QX E A B out.2 t.heap) A) args s 0 0 A) (F0 m 21 ls [])) {x1 : Int32} {k2 : Nat} {x3 : Int32} {x4 : Int32} {u : SX} {H : Heap} {locs : List Loc} {ls : Array Slot} (hk2 : k2 < 6) (hW : WX E A B u s H locs) (hl : lv_has ls 5 [(0, .ref (B 0)), (1, .int x1), (2, .ref (B (8 + k2))), (3, .int x3), (4, .int x4)]) (hf : fX4_kinds_58 c21 x1 k2 x3 x4 u = some out) : W p l e rmX4_kinds s m args below meth c H locs 0 0 (MQ below (va_Qi (fun r (_ : Unit) => r = out.1) (fun _ t => QX E A B out.2 t.heap) A) args s 0 0 A) (F0 m 58 ls []) := by
  obtain ⟨hx, hb, hr, hml, hown, hts, hlk, hK⟩ := id C0
  unfold fX4_kinds_58 at hf
  refine lv_iinc (v := (x4 + (1 : Int32))) (lv' := [(4, .int (x4 + (1 : Int32))), (0, .ref (B 0)), (1, .int x1), (2, .ref (B (8 + k2))), (3, .int x3)]) hx hb dX4_kinds_58 hl (k := 4) rfl rfl (by decide) rfl (fun ls hl => ?_)
  refine lv_goto (tgt := 21) hx hb dX4_kinds_61 (by decide) ?_
  exact hc21 _ _ _ _ _ _ _ _ hk2 hW (lv_sub hl [1, 2, 3, 4, 0] rfl) hf
set_option maxHeartbeats 4000000 in
set_option maxRecDepth 100000 in
theorem tX4_kinds_21 {p : Program} {l : Launch} {e : Env} {s : State} {m : MethodId} {args : Array Value} {below : List Frame} {meth : Method} {c : Code} {E : EE} {B : Nat → Nat} {A : Nat → Prop} {out : Int32 × SX} (C0 : cx wsX4_kinds cX4_kinds 5 (some .int) RX4 E p s m args meth c) : ∀ (n : Nat) (x1 : Int32) (k2 : Nat) (x3 : Int32) (x4 : Int32) (u : SX) (H : Heap) (locs : List Loc) (ls : Array Slot) (hk2 : k2 < 6) (_ : WX E A B u s H locs), lv_has ls 5 [(0, .ref (B 0)), (1, .int x1), (2, .ref (B (8 + k2))), (3, .int x3), (4, .int x4)] → fX4_kinds_21 n x1 k2 x3 x4 u = some out → W p l e rmX4_kinds s m args below meth c H locs 0 0 (MQ below (va_Qi (fun r (_ : Unit) => r = out.1) (fun _ t => QX E A B out.2 t.heap) A) args s 0 0 A) (F0 m 21 ls []) := by
  obtain ⟨hx, hb, hr, hml, hown, hts, hlk, hK⟩ := id C0
  intro n
  induction n with
  | zero =>
    intro x1 k2 x3 x4 u H locs ls hk2 hW hl hf
    cases (show none = some out from hf)
  | succ n ih =>
    intro x1 k2 x3 x4 u H locs ls hk2 hW hl hf
    rw [fX4_kinds_21] at hf
    refine lv_iload hx hb dX4_kinds_21 (lv_at hl 4 rfl) ?_
    refine lv_iconst (v := (2 : Int32)) hx hb dX4_kinds_23 (by decide) ?_
    refine lv_icmp_gt (tgt := 64) hx hb dX4_kinds_24 (by decide) (fun c1 => ?_) (fun c1 => ?_)
    · have hf := th hf c1
      refine lv_iload_n hx hb dX4_kinds_64 rfl (lv_at hl 3 rfl) ?_
      obtain rfl := Option.some.inj hf
      exact e_muI (QH := QX E A B u) C0 hW.2.2.2 rfl ⟨hW.1, hW.2.1, hW.2.2.1⟩ dX4_kinds_65
    · have hf := el hf c1
      refine lv_aload_n hx hb dX4_kinds_27 rfl (lv_at hl 0 rfl) ?_
      refine x_get C0 hW.1 iX4_kinds_X4 7 (by decide) (by decide +kernel) rfl dX4_kinds_28 ?_
      refine lv_iload_n hx hb dX4_kinds_31 rfl (lv_at hl 1 rfl) ?_
      refine lv_iload hx hb dX4_kinds_32 (lv_at hl 4 rfl) ?_
      refine lv_aload_n hx hb dX4_kinds_34 rfl (lv_at hl 2 rfl) ?_
      refine c_getN C0 (hW.1.cit hk2) iX4_kinds_X0 1 (by decide) (by decide +kernel) rfl dX4_kinds_35 ?_
      obtain ⟨q2, h3, hf⟩ := bd hf
      refine k_roI (run_S (rest := [.int x1, .ref (B 4)]) (n := 2) (PH := fun _ => True) C0 (tX4_slipsOf E h3) gX4_kinds_X4_slipsOf rfl rfl (by decide +kernel) trivial hl.1 rfl rfl (Nat.le_of_ble_eq_true rfl) dX4_kinds_38) ?_
      obtain ⟨q4, h5, hf⟩ := bd hf
      refine k_muV (run_VN (rest := []) (n := 2) C0 (tX1_setSlips E (fun i => B (4 + i)) hW.2.1.drum h5) gX4_kinds_X1_setSlips_n140 rfl (by decide +kernel) (by decide +kernel) (by decide +kernel) (by decide +kernel) rfl (by decide +kernel) (hW.1.drum 0 _ rfl) rfl rfl hW.1.drum hl.1 rfl rfl (Nat.le_of_ble_eq_true rfl) dX4_kinds_41) hW.2.2.2 hW.2.2.1.drum (fun H locs hQ hk hS => ?_)
      have hW := hW.join hQ hk hS
      have hW : WX E A B (u.1, u.2.1, u.2.2.1, u.2.2.2.1, q4) s H locs := hW
      refine lv_aload_n hx hb dX4_kinds_44 rfl (lv_at hl 0 rfl) ?_
      obtain ⟨q6, h7, hf⟩ := bd hf
      refine k_roI (run_V (rest := []) (n := 0) C0 (tX4_allReadingsCanBe (u := (u.1, u.2.1, u.2.2.1, u.2.2.2.1, q4)) E B h7) gX4_kinds_X4_allReadingsCanBe rfl rfl (by decide +kernel) (hW.1 0 _ rfl) rfl rfl hW.1 hl.1 rfl rfl (Nat.le_of_ble_eq_true rfl) dX4_kinds_45) ?_
      refine lv_if_eq (tgt := 58) hx hb dX4_kinds_48 (by decide) (fun c8 => ?_) (fun c8 => ?_)
      · have hf := th hf c8
        exact tX4_kinds_58 C0 ih hk2 hW (lv_sub hl [0, 1, 2, 3, 4] rfl) hf
      · have hf := el hf c8
        refine lv_iload_n hx hb dX4_kinds_51 rfl (lv_at hl 3 rfl) ?_
        refine lv_iconst (v := (1 : Int32)) hx hb dX4_kinds_52 (by decide) ?_
        refine lv_iload hx hb dX4_kinds_53 (lv_at hl 4 rfl) ?_
        refine lv_ishl hx hb dX4_kinds_55 ?_
        refine lv_ior hx hb dX4_kinds_56 ?_
        refine lv_istore_n (lv' := [(3, .int (x3 ||| ((1 : Int32) <<< (x4 &&& 31)))), (0, .ref (B 0)), (1, .int x1), (2, .ref (B (8 + k2))), (4, .int x4)]) hx hb dX4_kinds_57 rfl hl (by decide) rfl (fun ls hl => ?_)
        exact tX4_kinds_58 C0 ih hk2 hW (lv_sub hl [1, 2, 3, 0, 4] rfl) hf
set_option maxHeartbeats 4000000 in
set_option maxRecDepth 100000 in
theorem tX4_kinds_0 {p : Program} {l : Launch} {e : Env} {s : State} {m : MethodId} {args : Array Value} {below : List Frame} {meth : Method} {c : Code} {E : EE} {B : Nat → Nat} {A : Nat → Prop} {out : Int32 × SX} (C0 : cx wsX4_kinds cX4_kinds 5 (some .int) RX4 E p s m args meth c) {x1 : Int32} {u : SX} {H : Heap} {locs : List Loc} {ls : Array Slot} (hW : WX E A B u s H locs) (hl : lv_has ls 5 [(0, .ref (B 0)), (1, .int x1)]) (hf : fX4_kinds x1 u = some out) : W p l e rmX4_kinds s m args below meth c H locs 0 0 (MQ below (va_Qi (fun r (_ : Unit) => r = out.1) (fun _ t => QX E A B out.2 t.heap) A) args s 0 0 A) (F0 m 0 ls []) := by
  obtain ⟨hx, hb, hr, hml, hown, hts, hlk, hK⟩ := id C0
  unfold fX4_kinds at hf
  refine lv_aload_n hx hb dX4_kinds_0 rfl (lv_at hl 0 rfl) ?_
  refine lv_iload_n hx hb dX4_kinds_1 rfl (lv_at hl 1 rfl) ?_
  obtain ⟨q1, h2, hf⟩ := bd hf
  refine k_roQ (run_V (rest := []) (n := 1) C0 (tX4_citizen (u := u) E B h2) gX4_kinds_X4_citizen rfl rfl (by decide +kernel) (hW.1 0 _ rfl) rfl rfl hW.1 hl.1 rfl rfl (Nat.le_of_ble_eq_true rfl) dX4_kinds_2) ?_
  cases q1 with
  | none =>
    rw [Option.elim_none] at hf
    refine W.eq (g2 := F0 m 5 ls [.null]) rfl ?_
    refine lv_astore_nN (lv' := [(2, .null), (0, .ref (B 0)), (1, .int x1)]) hx hb dX4_kinds_5 rfl hl (by decide) rfl (fun ls hl => ?_)
    refine lv_aload_nN hx hb dX4_kinds_6 rfl (lv_at hl 0 rfl) ?_
    refine lv_ifnonnullN hx hb dX4_kinds_7 ?_
    refine lv_iconst (v := (-1 : Int32)) hx hb dX4_kinds_10 (by decide) ?_
    obtain rfl := Option.some.inj hf
    exact e_muI (QH := QX E A B u) C0 hW.2.2.2 rfl ⟨hW.1, hW.2.1, hW.2.2.1⟩ dX4_kinds_11
  | some k3 =>
    rw [Option.elim_some] at hf
    obtain ⟨h4, hf⟩ := gd hf
    refine W.eq (g2 := F0 m 5 ls [.ref (B (8 + k3))]) rfl ?_
    refine lv_astore_n (lv' := [(2, .ref (B (8 + k3))), (0, .ref (B 0)), (1, .int x1)]) hx hb dX4_kinds_5 rfl hl (by decide) rfl (fun ls hl => ?_)
    refine lv_aload_n hx hb dX4_kinds_6 rfl (lv_at hl 0 rfl) ?_
    refine lv_ifnonnull (tgt := 12) hx hb dX4_kinds_7 (by decide) ?_
    refine lv_aload_n hx hb dX4_kinds_12 rfl (lv_at hl 1 rfl) ?_
    obtain ⟨q5, h6, hf⟩ := bd hf
    refine k_muV (run_V (rest := []) (n := 0) C0 (tX4_fillDrum (u := u) E A B hW.2.1 hW.2.2.1 h6) gX4_kinds_X4_fillDrum rfl rfl (by decide +kernel) (hW.1 0 _ rfl) rfl rfl hW.1 hl.1 rfl rfl (Nat.le_of_ble_eq_true rfl) dX4_kinds_13) hW.2.2.2 (fun _ h => h) (fun H locs hQ _ hS => ?_)
    have hW : WX E A B q5 s H locs := ⟨hQ.1, hQ.2.1, hQ.2.2, hS⟩
    refine lv_iconst (v := (0 : Int32)) hx hb dX4_kinds_16 (by decide) ?_
    refine lv_istore_n (lv' := [(3, .int (0 : Int32)), (2, .ref (B (8 + k3))), (0, .ref (B 0)), (1, .int x1)]) hx hb dX4_kinds_17 rfl hl (by decide) rfl (fun ls hl => ?_)
    refine lv_iconst (v := (0 : Int32)) hx hb dX4_kinds_18 (by decide) ?_
    refine lv_istore (lv' := [(4, .int (0 : Int32)), (3, .int (0 : Int32)), (2, .ref (B (8 + k3))), (0, .ref (B 0)), (1, .int x1)]) hx hb dX4_kinds_19 hl (by decide) rfl (fun ls hl => ?_)
    exact tX4_kinds_21 C0 fu _ _ _ _ _ _ _ _ (Decidable.of_not_not h4) hW (lv_sub hl [3, 4, 2, 1, 0] rfl) hf
set_option maxHeartbeats 4000000 in
set_option maxRecDepth 100000 in
theorem tX4_kinds {l : Launch} (E : EE) (A : Nat → Prop) (B : Nat → Nat) {u : SX} {x1 : Int32} {out : Int32 × SX} (hI : fI (cX E B u)) (hA : AX E B u A) (hf : fX4_kinds x1 u = some out) : muI l yX4_kinds wsX4_kinds rmX4_kinds E [.ref (B 0), .int x1] A (fP E (cX E B u)) (QX E A B out.2) out.1 := by
  refine Met.ofW (cc := cX4_kinds) (maxL := 5) (ret := (some .int)) (by decide) rfl ?_
  intro p e s m args below meth c s₁ B0 hml hv
  obtain ⟨rfl, hP, hK⟩ := hv
  have C0 : cx wsX4_kinds cX4_kinds 5 (some .int) RX4 E p s m _ meth c := ⟨B0.exec, B0.bytes, B0.returns, hml, findClass_of_methodNamed B0.named, atoms_spec (ws := wsX4_kinds) B0.pre, B0.notSynchronized, hK⟩
  have hl := lv_entry ([.ref (B 0), .int x1]) (n := 5) (Nat.le_of_ble_eq_true rfl)
  rw [lg_entry_eq]
  generalize (lg_sl ([.ref (B 0), .int x1]) ++ List.replicate (5 - (lg_sl ([.ref (B 0), .int x1])).length) Slot.unset).toArray = ls at hl ⊢
  exact tX4_kinds_0 C0 ⟨hP, hI, hA, va_S.rf⟩ hl hf
abbrev rmX4_counts : Room := { frames := 4, cells := 0, slots := 0, locals := 87 }
set_option maxRecDepth 20000 in
theorem iX4_counts_X4 : ∀ w ∈ wsX40, w ∈ wsX4_counts := by decide +kernel
set_option maxHeartbeats 4000000 in
set_option maxRecDepth 100000 in
theorem tX4_counts_45 {p : Program} {l : Launch} {e : Env} {s : State} {m : MethodId} {args : Array Value} {below : List Frame} {meth : Method} {c : Code} {E : EE} {B : Nat → Nat} {A : Nat → Prop} {out : Int32 × SX} {c18 : Int32 → Int32 → SX → Option (Int32 × SX)} (C0 : cx wsX4_counts cX4_counts 3 (some .int) RX4 E p s m args meth c) (hc18 : ∀ (x1 : Int32) (x2 : Int32) (u : SX) (H : Heap) (locs : List Loc) (ls : Array Slot) (_ : WX E A B u s H locs), lv_has ls 3 [(0, .ref (B 0)), (1, .int x1), (2, .int x2)] → c18 x1 x2 u = some out → W p l e rmX4_counts s m args below meth c H locs 0 0 (MQ below (va_Qi (fun r (_ : Unit) => r = out.1) (fun _ t => QX E A B out.2 t.heap) A) args s 0 0 A) (F0 m 18 ls [])) {x1 : Int32} {x2 : Int32} {u : SX} {H : Heap} {locs : List Loc} {ls : Array Slot} (hW : WX E A B u s H locs) (hl : lv_has ls 3 [(0, .ref (B 0)), (1, .int x1), (2, .int x2)]) (hf : fX4_counts_45 c18 x1 x2 u = some out) : W p l e rmX4_counts s m args below meth c H locs 0 0 (MQ below (va_Qi (fun r (_ : Unit) => r = out.1) (fun _ t => QX E A B out.2 t.heap) A) args s 0 0 A) (F0 m 45 ls []) := by
  obtain ⟨hx, hb, hr, hml, hown, hts, hlk, hK⟩ := id C0
  unfold fX4_counts_45 at hf
  refine lv_iinc (v := (x2 + (1 : Int32))) (lv' := [(2, .int (x2 + (1 : Int32))), (0, .ref (B 0)), (1, .int x1)]) hx hb dX4_counts_45 hl (k := 2) rfl rfl (by decide) rfl (fun ls hl => ?_)
  refine lv_goto (tgt := 18) hx hb dX4_counts_48 (by decide) ?_
  exact hc18 _ _ _ _ _ _ hW (lv_sub hl [1, 2, 0] rfl) hf
set_option maxHeartbeats 4000000 in
set_option maxRecDepth 100000 in
theorem tX4_counts_18 {p : Program} {l : Launch} {e : Env} {s : State} {m : MethodId} {args : Array Value} {below : List Frame} {meth : Method} {c : Code} {E : EE} {B : Nat → Nat} {A : Nat → Prop} {out : Int32 × SX} (C0 : cx wsX4_counts cX4_counts 3 (some .int) RX4 E p s m args meth c) : ∀ (n : Nat) (x1 : Int32) (x2 : Int32) (u : SX) (H : Heap) (locs : List Loc) (ls : Array Slot) (_ : WX E A B u s H locs), lv_has ls 3 [(0, .ref (B 0)), (1, .int x1), (2, .int x2)] → fX4_counts_18 n x1 x2 u = some out → W p l e rmX4_counts s m args below meth c H locs 0 0 (MQ below (va_Qi (fun r (_ : Unit) => r = out.1) (fun _ t => QX E A B out.2 t.heap) A) args s 0 0 A) (F0 m 18 ls []) := by
  obtain ⟨hx, hb, hr, hml, hown, hts, hlk, hK⟩ := id C0
  intro n
  induction n with
  | zero =>
    intro x1 x2 u H locs ls hW hl hf
    cases (show none = some out from hf)
  | succ n ih =>
    intro x1 x2 u H locs ls hW hl hf
    rw [fX4_counts_18] at hf
    refine lv_iload_n hx hb dX4_counts_18 rfl (lv_at hl 2 rfl) ?_
    refine lv_bipush (v := (6 : Int32)) hx hb dX4_counts_19 (by decide) ?_
    refine lv_icmp_gt (tgt := 51) hx hb dX4_counts_21 (by decide) (fun c1 => ?_) (fun c1 => ?_)
    · have hf := th hf c1
      refine lv_iload_n hx hb dX4_counts_51 rfl (lv_at hl 1 rfl) ?_
      obtain rfl := Option.some.inj hf
      exact e_muI (QH := QX E A B u) C0 hW.2.2.2 rfl ⟨hW.1, hW.2.1, hW.2.2.1⟩ dX4_counts_52
    · have hf := el hf c1
      refine lv_aload_n hx hb dX4_counts_24 rfl (lv_at hl 0 rfl) ?_
      refine x_get C0 hW.1 iX4_counts_X4 7 (by decide) (by decide +kernel) rfl dX4_counts_25 ?_
      refine lv_iload_n hx hb dX4_counts_28 rfl (lv_at hl 2 rfl) ?_
      obtain ⟨q2, h3, hf⟩ := bd hf
      refine k_muV (run_VN (rest := []) (n := 1) C0 (tX1_setDrawn E (fun i => B (4 + i)) hW.2.1.drum h3) gX4_counts_X1_setDrawn_n166 rfl (by decide +kernel) (by decide +kernel) (by decide +kernel) (by decide +kernel) rfl (by decide +kernel) (hW.1.drum 0 _ rfl) rfl rfl hW.1.drum hl.1 rfl rfl (Nat.le_of_ble_eq_true rfl) dX4_counts_29) hW.2.2.2 hW.2.2.1.drum (fun H locs hQ hk hS => ?_)
      have hW := hW.join hQ hk hS
      have hW : WX E A B (u.1, u.2.1, u.2.2.1, u.2.2.2.1, q2) s H locs := hW
      refine lv_aload_n hx hb dX4_counts_32 rfl (lv_at hl 0 rfl) ?_
      obtain ⟨q4, h5, hf⟩ := bd hf
      refine k_roI (run_V (rest := []) (n := 0) C0 (tX4_allReadingsCanBe (u := (u.1, u.2.1, u.2.2.1, u.2.2.2.1, q2)) E B h5) gX4_counts_X4_allReadingsCanBe rfl rfl (by decide +kernel) (hW.1 0 _ rfl) rfl rfl hW.1 hl.1 rfl rfl (Nat.le_of_ble_eq_true rfl) dX4_counts_33) ?_
      refine lv_if_eq (tgt := 45) hx hb dX4_counts_36 (by decide) (fun c6 => ?_) (fun c6 => ?_)
      · have hf := th hf c6
        exact tX4_counts_45 C0 ih hW (lv_sub hl [0, 1, 2] rfl) hf
      · have hf := el hf c6
        refine lv_iload_n hx hb dX4_counts_39 rfl (lv_at hl 1 rfl) ?_
        refine lv_iconst (v := (1 : Int32)) hx hb dX4_counts_40 (by decide) ?_
        refine lv_iload_n hx hb dX4_counts_41 rfl (lv_at hl 2 rfl) ?_
        refine lv_ishl hx hb dX4_counts_42 ?_
        refine lv_ior hx hb dX4_counts_43 ?_
        refine lv_istore_n (lv' := [(1, .int (x1 ||| ((1 : Int32) <<< (x2 &&& 31)))), (0, .ref (B 0)), (2, .int x2)]) hx hb dX4_counts_44 rfl hl (by decide) rfl (fun ls hl => ?_)
        exact tX4_counts_45 C0 ih hW (lv_sub hl [1, 0, 2] rfl) hf
set_option maxHeartbeats 4000000 in
set_option maxRecDepth 100000 in
theorem tX4_counts_0 {p : Program} {l : Launch} {e : Env} {s : State} {m : MethodId} {args : Array Value} {below : List Frame} {meth : Method} {c : Code} {E : EE} {B : Nat → Nat} {A : Nat → Prop} {out : Int32 × SX} (C0 : cx wsX4_counts cX4_counts 3 (some .int) RX4 E p s m args meth c) {u : SX} {H : Heap} {locs : List Loc} {ls : Array Slot} (hW : WX E A B u s H locs) (hl : lv_has ls 3 [(0, .ref (B 0))]) (hf : fX4_counts u = some out) : W p l e rmX4_counts s m args below meth c H locs 0 0 (MQ below (va_Qi (fun r (_ : Unit) => r = out.1) (fun _ t => QX E A B out.2 t.heap) A) args s 0 0 A) (F0 m 0 ls []) := by
  obtain ⟨hx, hb, hr, hml, hown, hts, hlk, hK⟩ := id C0
  unfold fX4_counts at hf
  refine lv_aload_n hx hb dX4_counts_0 rfl (lv_at hl 0 rfl) ?_
  refine x_get C0 hW.1 iX4_counts_X4 1 (by decide) (by decide +kernel) rfl dX4_counts_1 ?_
  refine lv_if_ne (tgt := 10) hx hb dX4_counts_4 (by decide) (fun c1 => ?_) (fun c1 => ?_)
  · have hf := el hf c1
    refine lv_aload_n hx hb dX4_counts_10 rfl (lv_at hl 0 rfl) ?_
    obtain ⟨q2, h3, hf⟩ := bd hf
    refine k_muV (run_V (rest := []) (n := 0) C0 (tX4_fillDrum (u := u) E A B hW.2.1 hW.2.2.1 h3) gX4_counts_X4_fillDrum rfl rfl (by decide +kernel) (hW.1 0 _ rfl) rfl rfl hW.1 hl.1 rfl rfl (Nat.le_of_ble_eq_true rfl) dX4_counts_11) hW.2.2.2 (fun _ h => h) (fun H locs hQ _ hS => ?_)
    have hW : WX E A B q2 s H locs := ⟨hQ.1, hQ.2.1, hQ.2.2, hS⟩
    refine lv_iconst (v := (0 : Int32)) hx hb dX4_counts_14 (by decide) ?_
    refine lv_istore_n (lv' := [(1, .int (0 : Int32)), (0, .ref (B 0))]) hx hb dX4_counts_15 rfl hl (by decide) rfl (fun ls hl => ?_)
    refine lv_iconst (v := (0 : Int32)) hx hb dX4_counts_16 (by decide) ?_
    refine lv_istore_n (lv' := [(2, .int (0 : Int32)), (1, .int (0 : Int32)), (0, .ref (B 0))]) hx hb dX4_counts_17 rfl hl (by decide) rfl (fun ls hl => ?_)
    exact tX4_counts_18 C0 fu _ _ _ _ _ _ hW (lv_sub hl [2, 1, 0] rfl) hf
  · have hf := th hf c1
    refine lv_bipush (v := (-3 : Int32)) hx hb dX4_counts_7 (by decide) ?_
    obtain rfl := Option.some.inj hf
    exact e_muI (QH := QX E A B u) C0 hW.2.2.2 rfl ⟨hW.1, hW.2.1, hW.2.2.1⟩ dX4_counts_9
set_option maxHeartbeats 4000000 in
set_option maxRecDepth 100000 in
theorem tX4_counts {l : Launch} (E : EE) (A : Nat → Prop) (B : Nat → Nat) {u : SX} {out : Int32 × SX} (hI : fI (cX E B u)) (hA : AX E B u A) (hf : fX4_counts u = some out) : muI l yX4_counts wsX4_counts rmX4_counts E [.ref (B 0)] A (fP E (cX E B u)) (QX E A B out.2) out.1 := by
  refine Met.ofW (cc := cX4_counts) (maxL := 3) (ret := (some .int)) (by decide) rfl ?_
  intro p e s m args below meth c s₁ B0 hml hv
  obtain ⟨rfl, hP, hK⟩ := hv
  have C0 : cx wsX4_counts cX4_counts 3 (some .int) RX4 E p s m _ meth c := ⟨B0.exec, B0.bytes, B0.returns, hml, findClass_of_methodNamed B0.named, atoms_spec (ws := wsX4_counts) B0.pre, B0.notSynchronized, hK⟩
  have hl := lv_entry ([.ref (B 0)]) (n := 3) (Nat.le_of_ble_eq_true rfl)
  rw [lg_entry_eq]
  generalize (lg_sl ([.ref (B 0)]) ++ List.replicate (3 - (lg_sl ([.ref (B 0)])).length) Slot.unset).toArray = ls at hl ⊢
  exact tX4_counts_0 C0 ⟨hP, hI, hA, va_S.rf⟩ hl hf
abbrev rmX4_sheet : Room := { frames := 2, cells := 0, slots := 0, locals := 44 }
set_option maxRecDepth 20000 in
theorem iX4_sheet_X4 : ∀ w ∈ wsX40, w ∈ wsX4_sheet := by decide +kernel
set_option maxHeartbeats 4000000 in
set_option maxRecDepth 100000 in
theorem tX4_sheet_32 {p : Program} {l : Launch} {e : Env} {s : State} {m : MethodId} {args : Array Value} {below : List Frame} {meth : Method} {c : Code} {E : EE} {B : Nat → Nat} {A : Nat → Prop} {out : Int32 × SX} (C0 : cx wsX4_sheet cX4_sheet 5 (some .int) RX4 E p s m args meth c) {u : SX} {H : Heap} {locs : List Loc} {ls : Array Slot} (hW : WX E A B u s H locs) (hl : lv_has ls 5 []) (hf : fX4_sheet_32 u = some out) : W p l e rmX4_sheet s m args below meth c H locs 0 0 (MQ below (va_Qi (fun r (_ : Unit) => r = out.1) (fun _ t => QX E A B out.2 t.heap) A) args s 0 0 A) (F0 m 32 ls []) := by
  obtain ⟨hx, hb, hr, hml, hown, hts, hlk, hK⟩ := id C0
  unfold fX4_sheet_32 at hf
  refine lv_bipush (v := (-2 : Int32)) hx hb dX4_sheet_32 (by decide) ?_
  obtain rfl := Option.some.inj hf
  exact e_muI (QH := QX E A B u) C0 hW.2.2.2 rfl ⟨hW.1, hW.2.1, hW.2.2.1⟩ dX4_sheet_34
set_option maxHeartbeats 4000000 in
set_option maxRecDepth 100000 in
theorem tX4_sheet_0 {p : Program} {l : Launch} {e : Env} {s : State} {m : MethodId} {args : Array Value} {below : List Frame} {meth : Method} {c : Code} {E : EE} {B : Nat → Nat} {A : Nat → Prop} {out : Int32 × SX} (C0 : cx wsX4_sheet cX4_sheet 5 (some .int) RX4 E p s m args meth c) {x1 : Int32} {x2 : Int32} {x3 : Int32} {u : SX} {H : Heap} {locs : List Loc} {ls : Array Slot} (hW : WX E A B u s H locs) (hl : lv_has ls 5 [(0, .ref (B 0)), (1, .int x1), (2, .int x2), (3, .int x3)]) (hf : fX4_sheet x1 x2 x3 u = some out) : W p l e rmX4_sheet s m args below meth c H locs 0 0 (MQ below (va_Qi (fun r (_ : Unit) => r = out.1) (fun _ t => QX E A B out.2 t.heap) A) args s 0 0 A) (F0 m 0 ls []) := by
  obtain ⟨hx, hb, hr, hml, hown, hts, hlk, hK⟩ := id C0
  unfold fX4_sheet at hf
  refine lv_aload_n hx hb dX4_sheet_0 rfl (lv_at hl 0 rfl) ?_
  refine lv_iconst (v := (0 : Int32)) hx hb dX4_sheet_1 (by decide) ?_
  refine x_put C0 hW iX4_sheet_X4 9 (by decide) (by decide +kernel) rfl (by decide +kernel) rfl dX4_sheet_2 (fun H locs hW => ?_)
  have hW : WX E A B ((upd u.1 9 (0 : Int32)), u.2.1, u.2.2.1, u.2.2.2.1, u.2.2.2.2) s H locs := hW
  refine lv_aload_n hx hb dX4_sheet_5 rfl (lv_at hl 0 rfl) ?_
  refine lv_iload_n hx hb dX4_sheet_6 rfl (lv_at hl 1 rfl) ?_
  obtain ⟨q1, h2, hf⟩ := bd hf
  refine k_roQ (run_V (rest := []) (n := 1) C0 (tX4_placeOf (u := ((upd u.1 9 (0 : Int32)), u.2.1, u.2.2.1, u.2.2.2.1, u.2.2.2.2)) E B h2) gX4_sheet_X4_placeOf rfl rfl (by decide +kernel) (hW.1 0 _ rfl) rfl rfl hW.1 hl.1 rfl rfl (Nat.le_of_ble_eq_true rfl) dX4_sheet_7) ?_
  cases q1 with
  | none =>
    rw [Option.elim_none] at hf
    refine W.eq (g2 := F0 m 10 ls [.null]) rfl ?_
    refine lv_astoreN (lv' := [(4, .null), (0, .ref (B 0)), (1, .int x1), (2, .int x2), (3, .int x3)]) hx hb dX4_sheet_10 hl (by decide) rfl (fun ls hl => ?_)
    refine lv_aloadN hx hb dX4_sheet_12 (lv_at hl 0 rfl) ?_
    refine lv_ifnonnullN hx hb dX4_sheet_14 ?_
    refine lv_iconst (v := (-1 : Int32)) hx hb dX4_sheet_17 (by decide) ?_
    obtain rfl := Option.some.inj hf
    exact e_muI (QH := QX E A B ((upd u.1 9 (0 : Int32)), u.2.1, u.2.2.1, u.2.2.2.1, u.2.2.2.2)) C0 hW.2.2.2 rfl ⟨hW.1, hW.2.1, hW.2.2.1⟩ dX4_sheet_18
  | some k3 =>
    rw [Option.elim_some] at hf
    obtain ⟨h4, hf⟩ := gd hf
    refine W.eq (g2 := F0 m 10 ls [.ref (B (14 + k3))]) rfl ?_
    refine lv_astore (lv' := [(4, .ref (B (14 + k3))), (0, .ref (B 0)), (1, .int x1), (2, .int x2), (3, .int x3)]) hx hb dX4_sheet_10 hl (by decide) rfl (fun ls hl => ?_)
    refine lv_aload hx hb dX4_sheet_12 (lv_at hl 0 rfl) ?_
    refine lv_ifnonnull (tgt := 19) hx hb dX4_sheet_14 (by decide) ?_
    refine lv_iload_n hx hb dX4_sheet_19 rfl (lv_at hl 3 rfl) ?_
    obtain ⟨q5, h6, hf⟩ := bd hf
    refine k_roI (run_S (rest := []) (n := 1) (PH := fun _ => True) C0 (tX4_isLane E h6) gX4_sheet_X4_isLane rfl rfl (by decide +kernel) trivial hl.1 rfl rfl (Nat.le_of_ble_eq_true rfl) dX4_sheet_20) ?_
    refine lv_if_eq (tgt := 32) hx hb dX4_sheet_23 (by decide) (fun c7 => ?_) (fun c7 => ?_)
    · have hf := th hf c7
      exact tX4_sheet_32 C0 hW (lv_sub hl [] rfl) hf
    · have hf := el hf c7
      refine lv_iload_n hx hb dX4_sheet_26 rfl (lv_at hl 4 rfl) ?_
      refine lv_bipush (v := (60 : Int32)) hx hb dX4_sheet_27 (by decide) ?_
      refine lv_icmp_le (tgt := 35) hx hb dX4_sheet_29 (by decide) (fun c8 => ?_) (fun c8 => ?_)
      · have hf := th hf c8
        refine lv_iload_n hx hb dX4_sheet_35 rfl (lv_at hl 4 rfl) ?_
        refine lv_if_ge (tgt := 45) hx hb dX4_sheet_36 (by decide) (fun c9 => ?_) (fun c9 => ?_)
        · have hf := th hf c9
          refine lv_aload hx hb dX4_sheet_45 (lv_at hl 0 rfl) ?_
          refine lv_iload_n hx hb dX4_sheet_47 rfl (lv_at hl 3 rfl) ?_
          refine lv_iload_n hx hb dX4_sheet_48 rfl (lv_at hl 4 rfl) ?_
          obtain ⟨q10, h11, hf⟩ := bd hf
          refine k_muV (run_VN (rest := []) (n := 2) C0 (tX2_begin (u := ((upd u.1 9 (0 : Int32)), u.2.1, u.2.2.1, u.2.2.2.1, u.2.2.2.2)) E A B (Decidable.of_not_not h4) hW.2.1 hW.2.2.1 h11) gX4_sheet_X2_begin_n173 rfl (by decide +kernel) (by decide +kernel) (by decide +kernel) (by decide +kernel) rfl (by decide +kernel) (hW.1.row (Decidable.of_not_not h4) 0 _ rfl) rfl rfl hW.1 hl.1 rfl rfl (Nat.le_of_ble_eq_true rfl) dX4_sheet_49) hW.2.2.2 (fun _ h => h) (fun H locs hQ _ hS => ?_)
          have hW : WX E A B ((upd u.1 9 (0 : Int32)), u.2.1, u.2.2.1, q10, u.2.2.2.2) s H locs := ⟨hQ.1, hQ.2.1, hQ.2.2, hS⟩
          refine lv_iconst (v := (1 : Int32)) hx hb dX4_sheet_52 (by decide) ?_
          obtain rfl := Option.some.inj hf
          exact e_muI (QH := QX E A B ((upd u.1 9 (0 : Int32)), u.2.1, u.2.2.1, q10, u.2.2.2.2)) C0 hW.2.2.2 rfl ⟨hW.1, hW.2.1, hW.2.2.1⟩ dX4_sheet_53
        · have hf := el hf c9
          refine lv_aload_n hx hb dX4_sheet_39 rfl (lv_at hl 1 rfl) ?_
          refine lv_iconst (v := (4 : Int32)) hx hb dX4_sheet_40 (by decide) ?_
          obtain ⟨q12, h13, hf⟩ := bd hf
          refine k_muI (run_V (rest := []) (n := 1) C0 (tX4_faulted (u := ((upd u.1 9 (0 : Int32)), u.2.1, u.2.2.1, u.2.2.2.1, u.2.2.2.2)) E A B hW.2.1 hW.2.2.1 h13) gX4_sheet_X4_faulted rfl rfl (by decide +kernel) (hW.1 0 _ rfl) rfl rfl hW.1 hl.1 rfl rfl (Nat.le_of_ble_eq_true rfl) dX4_sheet_41) hW.2.2.2 (fun _ h => h) (fun H locs hQ _ hS => ?_)
          have hW : WX E A B q12.2 s H locs := ⟨hQ.1, hQ.2.1, hQ.2.2, hS⟩
          obtain rfl := Option.some.inj hf
          exact e_muI (QH := QX E A B q12.2) C0 hW.2.2.2 rfl ⟨hW.1, hW.2.1, hW.2.2.1⟩ dX4_sheet_44
      · have hf := el hf c8
        exact tX4_sheet_32 C0 hW (lv_sub hl [] rfl) hf
set_option maxHeartbeats 4000000 in
set_option maxRecDepth 100000 in
theorem tX4_sheet {l : Launch} (E : EE) (A : Nat → Prop) (B : Nat → Nat) {u : SX} {x1 : Int32} {x2 : Int32} {x3 : Int32} {out : Int32 × SX} (hI : fI (cX E B u)) (hA : AX E B u A) (hf : fX4_sheet x1 x2 x3 u = some out) : muI l yX4_sheet wsX4_sheet rmX4_sheet E [.ref (B 0), .int x1, .int x2, .int x3] A (fP E (cX E B u)) (QX E A B out.2) out.1 := by
  refine Met.ofW (cc := cX4_sheet) (maxL := 5) (ret := (some .int)) (by decide) rfl ?_
  intro p e s m args below meth c s₁ B0 hml hv
  obtain ⟨rfl, hP, hK⟩ := hv
  have C0 : cx wsX4_sheet cX4_sheet 5 (some .int) RX4 E p s m _ meth c := ⟨B0.exec, B0.bytes, B0.returns, hml, findClass_of_methodNamed B0.named, atoms_spec (ws := wsX4_sheet) B0.pre, B0.notSynchronized, hK⟩
  have hl := lv_entry ([.ref (B 0), .int x1, .int x2, .int x3]) (n := 5) (Nat.le_of_ble_eq_true rfl)
  rw [lg_entry_eq]
  generalize (lg_sl ([.ref (B 0), .int x1, .int x2, .int x3]) ++ List.replicate (5 - (lg_sl ([.ref (B 0), .int x1, .int x2, .int x3])).length) Slot.unset).toArray = ls at hl ⊢
  exact tX4_sheet_0 C0 ⟨hP, hI, hA, va_S.rf⟩ hl hf
abbrev rmX4_lose : Room := { frames := 3, cells := 0, slots := 0, locals := 63 }
set_option maxHeartbeats 4000000 in
set_option maxRecDepth 100000 in
theorem tX4_lose_0 {p : Program} {l : Launch} {e : Env} {s : State} {m : MethodId} {args : Array Value} {below : List Frame} {meth : Method} {c : Code} {E : EE} {B : Nat → Nat} {A : Nat → Prop} {out : Int32 × SX} (C0 : cx wsX4_lose cX4_lose 3 (some .int) RX4 E p s m args meth c) {x1 : Int32} {u : SX} {H : Heap} {locs : List Loc} {ls : Array Slot} (hW : WX E A B u s H locs) (hl : lv_has ls 3 [(0, .ref (B 0)), (1, .int x1)]) (hf : fX4_lose x1 u = some out) : W p l e rmX4_lose s m args below meth c H locs 0 0 (MQ below (va_Qi (fun r (_ : Unit) => r = out.1) (fun _ t => QX E A B out.2 t.heap) A) args s 0 0 A) (F0 m 0 ls []) := by
  obtain ⟨hx, hb, hr, hml, hown, hts, hlk, hK⟩ := id C0
  unfold fX4_lose at hf
  refine lv_iload_n hx hb dX4_lose_0 rfl (lv_at hl 1 rfl) ?_
  obtain ⟨q1, h2, hf⟩ := bd hf
  refine k_roI (run_S (rest := []) (n := 1) (PH := fun _ => True) C0 (tX4_isSheet E h2) gX4_lose_X4_isSheet rfl rfl (by decide +kernel) trivial hl.1 rfl rfl (Nat.le_of_ble_eq_true rfl) dX4_lose_1) ?_
  refine lv_if_ne (tgt := 9) hx hb dX4_lose_4 (by decide) (fun c3 => ?_) (fun c3 => ?_)
  · have hf := el hf c3
    refine lv_aload_n hx hb dX4_lose_9 rfl (lv_at hl 0 rfl) ?_
    refine lv_iload_n hx hb dX4_lose_10 rfl (lv_at hl 1 rfl) ?_
    obtain ⟨q4, h5, hf⟩ := bd hf
    refine k_roQ (run_V (rest := []) (n := 1) C0 (tX4_rowOf (u := u) E B h5) gX4_lose_X4_rowOf rfl rfl (by decide +kernel) (hW.1 0 _ rfl) rfl rfl hW.1 hl.1 rfl rfl (Nat.le_of_ble_eq_true rfl) dX4_lose_11) ?_
    cases q4 with
    | none =>
      rw [Option.elim_none] at hf
      refine W.eq (g2 := F0 m 14 ls [.null]) rfl ?_
      refine lv_astore_nN (lv' := [(2, .null), (0, .ref (B 0)), (1, .int x1)]) hx hb dX4_lose_14 rfl hl (by decide) rfl (fun ls hl => ?_)
      refine lv_aload_nN hx hb dX4_lose_15 rfl (lv_at hl 0 rfl) ?_
      refine lv_ifnonnullN hx hb dX4_lose_16 ?_
      refine lv_iconst (v := (0 : Int32)) hx hb dX4_lose_19 (by decide) ?_
      obtain rfl := Option.some.inj hf
      exact e_muI (QH := QX E A B u) C0 hW.2.2.2 rfl ⟨hW.1, hW.2.1, hW.2.2.1⟩ dX4_lose_20
    | some k6 =>
      rw [Option.elim_some] at hf
      obtain ⟨h7, hf⟩ := gd hf
      refine W.eq (g2 := F0 m 14 ls [.ref (B (14 + k6))]) rfl ?_
      refine lv_astore_n (lv' := [(2, .ref (B (14 + k6))), (0, .ref (B 0)), (1, .int x1)]) hx hb dX4_lose_14 rfl hl (by decide) rfl (fun ls hl => ?_)
      refine lv_aload_n hx hb dX4_lose_15 rfl (lv_at hl 0 rfl) ?_
      refine lv_ifnonnull (tgt := 21) hx hb dX4_lose_16 (by decide) ?_
      refine lv_aload_n hx hb dX4_lose_21 rfl (lv_at hl 0 rfl) ?_
      obtain ⟨q8, h9, hf⟩ := bd hf
      refine k_muV (run_VN (rest := []) (n := 0) C0 (tX2_end (u := u) E A B (Decidable.of_not_not h7) hW.2.1 hW.2.2.1 h9) gX4_lose_X2_end_n176 rfl (by decide +kernel) (by decide +kernel) (by decide +kernel) (by decide +kernel) rfl (by decide +kernel) (hW.1.row (Decidable.of_not_not h7) 0 _ rfl) rfl rfl hW.1 hl.1 rfl rfl (Nat.le_of_ble_eq_true rfl) dX4_lose_22) hW.2.2.2 (fun _ h => h) (fun H locs hQ _ hS => ?_)
      have hW : WX E A B (u.1, u.2.1, u.2.2.1, q8, u.2.2.2.2) s H locs := ⟨hQ.1, hQ.2.1, hQ.2.2, hS⟩
      refine lv_iconst (v := (1 : Int32)) hx hb dX4_lose_25 (by decide) ?_
      obtain rfl := Option.some.inj hf
      exact e_muI (QH := QX E A B (u.1, u.2.1, u.2.2.1, q8, u.2.2.2.2)) C0 hW.2.2.2 rfl ⟨hW.1, hW.2.1, hW.2.2.1⟩ dX4_lose_26
  · have hf := th hf c3
    refine lv_iconst (v := (-1 : Int32)) hx hb dX4_lose_7 (by decide) ?_
    obtain rfl := Option.some.inj hf
    exact e_muI (QH := QX E A B u) C0 hW.2.2.2 rfl ⟨hW.1, hW.2.1, hW.2.2.1⟩ dX4_lose_8
set_option maxHeartbeats 4000000 in
set_option maxRecDepth 100000 in
theorem tX4_lose {l : Launch} (E : EE) (A : Nat → Prop) (B : Nat → Nat) {u : SX} {x1 : Int32} {out : Int32 × SX} (hI : fI (cX E B u)) (hA : AX E B u A) (hf : fX4_lose x1 u = some out) : muI l yX4_lose wsX4_lose rmX4_lose E [.ref (B 0), .int x1] A (fP E (cX E B u)) (QX E A B out.2) out.1 := by
  refine Met.ofW (cc := cX4_lose) (maxL := 3) (ret := (some .int)) (by decide) rfl ?_
  intro p e s m args below meth c s₁ B0 hml hv
  obtain ⟨rfl, hP, hK⟩ := hv
  have C0 : cx wsX4_lose cX4_lose 3 (some .int) RX4 E p s m _ meth c := ⟨B0.exec, B0.bytes, B0.returns, hml, findClass_of_methodNamed B0.named, atoms_spec (ws := wsX4_lose) B0.pre, B0.notSynchronized, hK⟩
  have hl := lv_entry ([.ref (B 0), .int x1]) (n := 3) (Nat.le_of_ble_eq_true rfl)
  rw [lg_entry_eq]
  generalize (lg_sl ([.ref (B 0), .int x1]) ++ List.replicate (3 - (lg_sl ([.ref (B 0), .int x1])).length) Slot.unset).toArray = ls at hl ⊢
  exact tX4_lose_0 C0 ⟨hP, hI, hA, va_S.rf⟩ hl hf
abbrev rmX4_put : Room := { frames := 3, cells := 0, slots := 0, locals := 63 }
set_option maxRecDepth 20000 in
theorem iX4_put_X4 : ∀ w ∈ wsX40, w ∈ wsX4_put := by decide +kernel
set_option maxHeartbeats 4000000 in
set_option maxRecDepth 100000 in
theorem tX4_put_0 {p : Program} {l : Launch} {e : Env} {s : State} {m : MethodId} {args : Array Value} {below : List Frame} {meth : Method} {c : Code} {E : EE} {B : Nat → Nat} {A : Nat → Prop} {out : Int32 × SX} (C0 : cx wsX4_put cX4_put 5 (some .int) RX4 E p s m args meth c) {x1 : Int32} {x2 : Int32} {x3 : Int32} {u : SX} {H : Heap} {locs : List Loc} {ls : Array Slot} (hW : WX E A B u s H locs) (hl : lv_has ls 5 [(0, .ref (B 0)), (1, .int x1), (2, .int x2), (3, .int x3)]) (hf : fX4_put x1 x2 x3 u = some out) : W p l e rmX4_put s m args below meth c H locs 0 0 (MQ below (va_Qi (fun r (_ : Unit) => r = out.1) (fun _ t => QX E A B out.2 t.heap) A) args s 0 0 A) (F0 m 0 ls []) := by
  obtain ⟨hx, hb, hr, hml, hown, hts, hlk, hK⟩ := id C0
  unfold fX4_put at hf
  refine lv_aload_n hx hb dX4_put_0 rfl (lv_at hl 0 rfl) ?_
  refine lv_iconst (v := (0 : Int32)) hx hb dX4_put_1 (by decide) ?_
  refine x_put C0 hW iX4_put_X4 9 (by decide) (by decide +kernel) rfl (by decide +kernel) rfl dX4_put_2 (fun H locs hW => ?_)
  have hW : WX E A B ((upd u.1 9 (0 : Int32)), u.2.1, u.2.2.1, u.2.2.2.1, u.2.2.2.2) s H locs := hW
  refine lv_iload_n hx hb dX4_put_5 rfl (lv_at hl 1 rfl) ?_
  obtain ⟨q1, h2, hf⟩ := bd hf
  refine k_roI (run_S (rest := []) (n := 1) (PH := fun _ => True) C0 (tX4_isSheet E h2) gX4_put_X4_isSheet rfl rfl (by decide +kernel) trivial hl.1 rfl rfl (Nat.le_of_ble_eq_true rfl) dX4_put_6) ?_
  refine lv_if_ne (tgt := 14) hx hb dX4_put_9 (by decide) (fun c3 => ?_) (fun c3 => ?_)
  · have hf := el hf c3
    refine lv_aload_n hx hb dX4_put_14 rfl (lv_at hl 0 rfl) ?_
    refine lv_iload_n hx hb dX4_put_15 rfl (lv_at hl 1 rfl) ?_
    obtain ⟨q4, h5, hf⟩ := bd hf
    refine k_roQ (run_V (rest := []) (n := 1) C0 (tX4_rowOf (u := ((upd u.1 9 (0 : Int32)), u.2.1, u.2.2.1, u.2.2.2.1, u.2.2.2.2)) E B h5) gX4_put_X4_rowOf rfl rfl (by decide +kernel) (hW.1 0 _ rfl) rfl rfl hW.1 hl.1 rfl rfl (Nat.le_of_ble_eq_true rfl) dX4_put_16) ?_
    cases q4 with
    | none =>
      rw [Option.elim_none] at hf
      refine W.eq (g2 := F0 m 19 ls [.null]) rfl ?_
      refine lv_astoreN (lv' := [(4, .null), (0, .ref (B 0)), (1, .int x1), (2, .int x2), (3, .int x3)]) hx hb dX4_put_19 hl (by decide) rfl (fun ls hl => ?_)
      refine lv_aloadN hx hb dX4_put_21 (lv_at hl 0 rfl) ?_
      refine lv_ifnonnullN hx hb dX4_put_23 ?_
      refine lv_aload_n hx hb dX4_put_26 rfl (lv_at hl 1 rfl) ?_
      refine lv_iconst (v := (1 : Int32)) hx hb dX4_put_27 (by decide) ?_
      obtain ⟨q8, h9, hf⟩ := bd hf
      refine k_muI (run_V (rest := []) (n := 1) C0 (tX4_faulted (u := ((upd u.1 9 (0 : Int32)), u.2.1, u.2.2.1, u.2.2.2.1, u.2.2.2.2)) E A B hW.2.1 hW.2.2.1 h9) gX4_put_X4_faulted rfl rfl (by decide +kernel) (hW.1 0 _ rfl) rfl rfl hW.1 hl.1 rfl rfl (Nat.le_of_ble_eq_true rfl) dX4_put_28) hW.2.2.2 (fun _ h => h) (fun H locs hQ _ hS => ?_)
      have hW : WX E A B q8.2 s H locs := ⟨hQ.1, hQ.2.1, hQ.2.2, hS⟩
      obtain rfl := Option.some.inj hf
      exact e_muI (QH := QX E A B q8.2) C0 hW.2.2.2 rfl ⟨hW.1, hW.2.1, hW.2.2.1⟩ dX4_put_31
    | some k6 =>
      rw [Option.elim_some] at hf
      obtain ⟨h7, hf⟩ := gd hf
      refine W.eq (g2 := F0 m 19 ls [.ref (B (14 + k6))]) rfl ?_
      refine lv_astore (lv' := [(4, .ref (B (14 + k6))), (0, .ref (B 0)), (1, .int x1), (2, .int x2), (3, .int x3)]) hx hb dX4_put_19 hl (by decide) rfl (fun ls hl => ?_)
      refine lv_aload hx hb dX4_put_21 (lv_at hl 0 rfl) ?_
      refine lv_ifnonnull (tgt := 32) hx hb dX4_put_23 (by decide) ?_
      refine lv_aload hx hb dX4_put_32 (lv_at hl 0 rfl) ?_
      refine lv_iload_n hx hb dX4_put_34 rfl (lv_at hl 3 rfl) ?_
      refine lv_iconst (v := (1 : Int32)) hx hb dX4_put_35 (by decide) ?_
      obtain ⟨q10, h11, hf⟩ := bd hf
      refine k_roI (run_VN (rest := []) (n := 2) C0 (tX2_holds E (B (14 + k6)) (B (18 + k6)) h11) gX4_put_X2_holds_n179 rfl (by decide +kernel) (by decide +kernel) (by decide +kernel) (by decide +kernel) rfl (by decide +kernel) (hW.1.row (Decidable.of_not_not h7) 0 _ rfl) rfl rfl (hW.1.row (Decidable.of_not_not h7)) hl.1 rfl rfl (Nat.le_of_ble_eq_true rfl) dX4_put_36) ?_
      refine lv_if_ne (tgt := 48) hx hb dX4_put_39 (by decide) (fun c12 => ?_) (fun c12 => ?_)
      · have hf := el hf c12
        refine lv_aload hx hb dX4_put_48 (lv_at hl 0 rfl) ?_
        refine lv_iload_n hx hb dX4_put_50 rfl (lv_at hl 3 rfl) ?_
        refine lv_iload_n hx hb dX4_put_51 rfl (lv_at hl 4 rfl) ?_
        obtain ⟨q13, h14, hf⟩ := bd hf
        refine k_muV (run_VN (rest := []) (n := 2) C0 (tX2_set (u := ((upd u.1 9 (0 : Int32)), u.2.1, u.2.2.1, u.2.2.2.1, u.2.2.2.2)) E A B (Decidable.of_not_not h7) hW.2.1 hW.2.2.1 h14) gX4_put_X2_set_n183 rfl (by decide +kernel) (by decide +kernel) (by decide +kernel) (by decide +kernel) rfl (by decide +kernel) (hW.1.row (Decidable.of_not_not h7) 0 _ rfl) rfl rfl hW.1 hl.1 rfl rfl (Nat.le_of_ble_eq_true rfl) dX4_put_52) hW.2.2.2 (fun _ h => h) (fun H locs hQ _ hS => ?_)
        have hW : WX E A B ((upd u.1 9 (0 : Int32)), u.2.1, u.2.2.1, q13, u.2.2.2.2) s H locs := ⟨hQ.1, hQ.2.1, hQ.2.2, hS⟩
        refine lv_iconst (v := (1 : Int32)) hx hb dX4_put_55 (by decide) ?_
        obtain rfl := Option.some.inj hf
        exact e_muI (QH := QX E A B ((upd u.1 9 (0 : Int32)), u.2.1, u.2.2.1, q13, u.2.2.2.2)) C0 hW.2.2.2 rfl ⟨hW.1, hW.2.1, hW.2.2.1⟩ dX4_put_56
      · have hf := th hf c12
        refine lv_aload_n hx hb dX4_put_42 rfl (lv_at hl 1 rfl) ?_
        refine lv_iconst (v := (3 : Int32)) hx hb dX4_put_43 (by decide) ?_
        obtain ⟨q15, h16, hf⟩ := bd hf
        refine k_muI (run_V (rest := []) (n := 1) C0 (tX4_faulted (u := ((upd u.1 9 (0 : Int32)), u.2.1, u.2.2.1, u.2.2.2.1, u.2.2.2.2)) E A B hW.2.1 hW.2.2.1 h16) gX4_put_X4_faulted rfl rfl (by decide +kernel) (hW.1 0 _ rfl) rfl rfl hW.1 hl.1 rfl rfl (Nat.le_of_ble_eq_true rfl) dX4_put_44) hW.2.2.2 (fun _ h => h) (fun H locs hQ _ hS => ?_)
        have hW : WX E A B q15.2 s H locs := ⟨hQ.1, hQ.2.1, hQ.2.2, hS⟩
        obtain rfl := Option.some.inj hf
        exact e_muI (QH := QX E A B q15.2) C0 hW.2.2.2 rfl ⟨hW.1, hW.2.1, hW.2.2.1⟩ dX4_put_47
  · have hf := th hf c3
    refine lv_iconst (v := (-1 : Int32)) hx hb dX4_put_12 (by decide) ?_
    obtain rfl := Option.some.inj hf
    exact e_muI (QH := QX E A B ((upd u.1 9 (0 : Int32)), u.2.1, u.2.2.1, u.2.2.2.1, u.2.2.2.2)) C0 hW.2.2.2 rfl ⟨hW.1, hW.2.1, hW.2.2.1⟩ dX4_put_13
set_option maxHeartbeats 4000000 in
set_option maxRecDepth 100000 in
theorem tX4_put {l : Launch} (E : EE) (A : Nat → Prop) (B : Nat → Nat) {u : SX} {x1 : Int32} {x2 : Int32} {x3 : Int32} {out : Int32 × SX} (hI : fI (cX E B u)) (hA : AX E B u A) (hf : fX4_put x1 x2 x3 u = some out) : muI l yX4_put wsX4_put rmX4_put E [.ref (B 0), .int x1, .int x2, .int x3] A (fP E (cX E B u)) (QX E A B out.2) out.1 := by
  refine Met.ofW (cc := cX4_put) (maxL := 5) (ret := (some .int)) (by decide) rfl ?_
  intro p e s m args below meth c s₁ B0 hml hv
  obtain ⟨rfl, hP, hK⟩ := hv
  have C0 : cx wsX4_put cX4_put 5 (some .int) RX4 E p s m _ meth c := ⟨B0.exec, B0.bytes, B0.returns, hml, findClass_of_methodNamed B0.named, atoms_spec (ws := wsX4_put) B0.pre, B0.notSynchronized, hK⟩
  have hl := lv_entry ([.ref (B 0), .int x1, .int x2, .int x3]) (n := 5) (Nat.le_of_ble_eq_true rfl)
  rw [lg_entry_eq]
  generalize (lg_sl ([.ref (B 0), .int x1, .int x2, .int x3]) ++ List.replicate (5 - (lg_sl ([.ref (B 0), .int x1, .int x2, .int x3])).length) Slot.unset).toArray = ls at hl ⊢
  exact tX4_put_0 C0 ⟨hP, hI, hA, va_S.rf⟩ hl hf
abbrev rmX4_cell : Room := { frames := 3, cells := 0, slots := 0, locals := 63 }
set_option maxRecDepth 20000 in
theorem iX4_cell_X4 : ∀ w ∈ wsX40, w ∈ wsX4_cell := by decide +kernel
set_option maxHeartbeats 4000000 in
set_option maxRecDepth 100000 in
theorem tX4_cell_19 {p : Program} {l : Launch} {e : Env} {s : State} {m : MethodId} {args : Array Value} {below : List Frame} {meth : Method} {c : Code} {E : EE} {B : Nat → Nat} {A : Nat → Prop} {out : Int64 × SX} (C0 : cx wsX4_cell cX4_cell 6 (some .long) RX4 E p s m args meth c) {u : SX} {H : Heap} {locs : List Loc} {ls : Array Slot} (hW : WX E A B u s H locs) (hl : lv_has ls 6 []) (hf : fX4_cell_19 u = some out) : W p l e rmX4_cell s m args below meth c H locs 0 0 (MQ below (va_Ql (fun r (_ : Unit) => r = out.1) (fun _ t => QX E A B out.2 t.heap) A) args s 0 0 A) (F0 m 19 ls []) := by
  obtain ⟨hx, hb, hr, hml, hown, hts, hlk, hK⟩ := id C0
  unfold fX4_cell_19 at hf
  refine lv_ldc2 hx hb hown (hts (.constantLong RX4 117 (-9223372036854775808)) (by decide +kernel)) dX4_cell_19 ?_
  obtain rfl := Option.some.inj hf
  exact e_muL (QH := QX E A B u) C0 hW.2.2.2 rfl ⟨hW.1, hW.2.1, hW.2.2.1⟩ dX4_cell_22
set_option maxHeartbeats 4000000 in
set_option maxRecDepth 100000 in
theorem tX4_cell_50 {p : Program} {l : Launch} {e : Env} {s : State} {m : MethodId} {args : Array Value} {below : List Frame} {meth : Method} {c : Code} {E : EE} {B : Nat → Nat} {A : Nat → Prop} {out : Int64 × SX} (C0 : cx wsX4_cell cX4_cell 6 (some .long) RX4 E p s m args meth c) {x5 : Int32} {u : SX} {H : Heap} {locs : List Loc} {ls : Array Slot} (hW : WX E A B u s H locs) (hl : lv_has ls 6 [(0, .ref (B 0)), (5, .int x5)]) (hf : fX4_cell_50 x5 u = some out) : W p l e rmX4_cell s m args below meth c H locs 0 0 (MQ below (va_Ql (fun r (_ : Unit) => r = out.1) (fun _ t => QX E A B out.2 t.heap) A) args s 0 0 A) (F0 m 50 ls []) := by
  obtain ⟨hx, hb, hr, hml, hown, hts, hlk, hK⟩ := id C0
  unfold fX4_cell_50 at hf
  refine lv_aload_n hx hb dX4_cell_50 rfl (lv_at hl 0 rfl) ?_
  refine lv_iload hx hb dX4_cell_51 (lv_at hl 1 rfl) ?_
  refine x_put C0 hW iX4_cell_X4 9 (by decide) (by decide +kernel) rfl (by decide +kernel) rfl dX4_cell_53 (fun H locs hW => ?_)
  have hW : WX E A B ((upd u.1 9 x5), u.2.1, u.2.2.1, u.2.2.2.1, u.2.2.2.2) s H locs := hW
  refine lv_ldc2 hx hb hown (hts (.constantLong RX4 117 (-9223372036854775808)) (by decide +kernel)) dX4_cell_56 ?_
  obtain rfl := Option.some.inj hf
  exact e_muL (QH := QX E A B ((upd u.1 9 x5), u.2.1, u.2.2.1, u.2.2.2.1, u.2.2.2.2)) C0 hW.2.2.2 rfl ⟨hW.1, hW.2.1, hW.2.2.1⟩ dX4_cell_59
set_option maxHeartbeats 4000000 in
set_option maxRecDepth 100000 in
theorem tX4_cell_0 {p : Program} {l : Launch} {e : Env} {s : State} {m : MethodId} {args : Array Value} {below : List Frame} {meth : Method} {c : Code} {E : EE} {B : Nat → Nat} {A : Nat → Prop} {out : Int64 × SX} (C0 : cx wsX4_cell cX4_cell 6 (some .long) RX4 E p s m args meth c) {x1 : Int32} {x2 : Int32} {x3 : Int32} {u : SX} {H : Heap} {locs : List Loc} {ls : Array Slot} (hW : WX E A B u s H locs) (hl : lv_has ls 6 [(0, .ref (B 0)), (1, .int x1), (2, .int x2), (3, .int x3)]) (hf : fX4_cell x1 x2 x3 u = some out) : W p l e rmX4_cell s m args below meth c H locs 0 0 (MQ below (va_Ql (fun r (_ : Unit) => r = out.1) (fun _ t => QX E A B out.2 t.heap) A) args s 0 0 A) (F0 m 0 ls []) := by
  obtain ⟨hx, hb, hr, hml, hown, hts, hlk, hK⟩ := id C0
  unfold fX4_cell at hf
  refine lv_aload_n hx hb dX4_cell_0 rfl (lv_at hl 0 rfl) ?_
  refine lv_iconst (v := (0 : Int32)) hx hb dX4_cell_1 (by decide) ?_
  refine x_put C0 hW iX4_cell_X4 9 (by decide) (by decide +kernel) rfl (by decide +kernel) rfl dX4_cell_2 (fun H locs hW => ?_)
  have hW : WX E A B ((upd u.1 9 (0 : Int32)), u.2.1, u.2.2.1, u.2.2.2.1, u.2.2.2.2) s H locs := hW
  refine lv_iload_n hx hb dX4_cell_5 rfl (lv_at hl 1 rfl) ?_
  obtain ⟨q1, h2, hf⟩ := bd hf
  refine k_roI (run_S (rest := []) (n := 1) (PH := fun _ => True) C0 (tX4_isSheet E h2) gX4_cell_X4_isSheet rfl rfl (by decide +kernel) trivial hl.1 rfl rfl (Nat.le_of_ble_eq_true rfl) dX4_cell_6) ?_
  refine lv_if_eq (tgt := 19) hx hb dX4_cell_9 (by decide) (fun c3 => ?_) (fun c3 => ?_)
  · have hf := th hf c3
    exact tX4_cell_19 C0 hW (lv_sub hl [] rfl) hf
  · have hf := el hf c3
    refine lv_iload_n hx hb dX4_cell_12 rfl (lv_at hl 3 rfl) ?_
    obtain ⟨q4, h5, hf⟩ := bd hf
    refine k_roI (run_S (rest := []) (n := 1) (PH := fun _ => True) C0 (tX4_isLane E h5) gX4_cell_X4_isLane rfl rfl (by decide +kernel) trivial hl.1 rfl rfl (Nat.le_of_ble_eq_true rfl) dX4_cell_13) ?_
    refine lv_if_ne (tgt := 23) hx hb dX4_cell_16 (by decide) (fun c6 => ?_) (fun c6 => ?_)
    · have hf := el hf c6
      refine lv_aload_n hx hb dX4_cell_23 rfl (lv_at hl 0 rfl) ?_
      refine lv_iload_n hx hb dX4_cell_24 rfl (lv_at hl 1 rfl) ?_
      obtain ⟨q7, h8, hf⟩ := bd hf
      refine k_roQ (run_V (rest := []) (n := 1) C0 (tX4_rowOf (u := ((upd u.1 9 (0 : Int32)), u.2.1, u.2.2.1, u.2.2.2.1, u.2.2.2.2)) E B h8) gX4_cell_X4_rowOf rfl rfl (by decide +kernel) (hW.1 0 _ rfl) rfl rfl hW.1 hl.1 rfl rfl (Nat.le_of_ble_eq_true rfl) dX4_cell_25) ?_
      cases q7 with
      | none =>
        rw [Option.elim_none] at hf
        refine W.eq (g2 := F0 m 28 ls [.null]) rfl ?_
        refine lv_astoreN (lv' := [(4, .null), (0, .ref (B 0)), (1, .int x1), (2, .int x2), (3, .int x3)]) hx hb dX4_cell_28 hl (by decide) rfl (fun ls hl => ?_)
        refine lv_aloadN hx hb dX4_cell_30 (lv_at hl 0 rfl) ?_
        refine lv_iload_n hx hb dX4_cell_32 rfl (lv_at hl 4 rfl) ?_
        refine lv_iload_n hx hb dX4_cell_33 rfl (lv_at hl 3 rfl) ?_
        refine lv_iconst (v := (1 : Int32)) hx hb dX4_cell_34 (by decide) ?_
        obtain ⟨q11, h12, hf⟩ := bd hf
        refine k_roI (run_S (rest := []) (n := 4) (PH := fun _ => True) C0 (tX4_faultOfN E h12) gX4_cell_X4_faultOf rfl rfl (by decide +kernel) trivial hl.1 rfl rfl (Nat.le_of_ble_eq_true rfl) dX4_cell_35) ?_
        refine lv_istore (lv' := [(5, .int q11), (4, .null), (0, .ref (B 0)), (1, .int x1), (2, .int x2), (3, .int x3)]) hx hb dX4_cell_38 hl (by decide) rfl (fun ls hl => ?_)
        refine lv_aloadN hx hb dX4_cell_40 (lv_at hl 1 rfl) ?_
        refine lv_ifnullN (tgt := 50) hx hb dX4_cell_42 (by decide) ?_
        exact tX4_cell_50 C0 hW (lv_sub hl [2, 0] rfl) hf
      | some k9 =>
        rw [Option.elim_some] at hf
        obtain ⟨h10, hf⟩ := gd hf
        refine W.eq (g2 := F0 m 28 ls [.ref (B (14 + k9))]) rfl ?_
        refine lv_astore (lv' := [(4, .ref (B (14 + k9))), (0, .ref (B 0)), (1, .int x1), (2, .int x2), (3, .int x3)]) hx hb dX4_cell_28 hl (by decide) rfl (fun ls hl => ?_)
        refine lv_aload hx hb dX4_cell_30 (lv_at hl 0 rfl) ?_
        refine lv_iload_n hx hb dX4_cell_32 rfl (lv_at hl 4 rfl) ?_
        refine lv_iload_n hx hb dX4_cell_33 rfl (lv_at hl 3 rfl) ?_
        refine lv_iconst (v := (1 : Int32)) hx hb dX4_cell_34 (by decide) ?_
        obtain ⟨q13, h14, hf⟩ := bd hf
        refine k_roI (run_S (rest := []) (n := 4) C0 (tX4_faultOf E (B (14 + k9)) (B (18 + k9)) h14) gX4_cell_X4_faultOf rfl rfl (by decide +kernel) (hW.1.row (Decidable.of_not_not h10)) hl.1 rfl rfl (Nat.le_of_ble_eq_true rfl) dX4_cell_35) ?_
        refine lv_istore (lv' := [(5, .int q13), (4, .ref (B (14 + k9))), (0, .ref (B 0)), (1, .int x1), (2, .int x2), (3, .int x3)]) hx hb dX4_cell_38 hl (by decide) rfl (fun ls hl => ?_)
        refine lv_aload hx hb dX4_cell_40 (lv_at hl 1 rfl) ?_
        refine lv_ifnull hx hb dX4_cell_42 ?_
        refine lv_iload hx hb dX4_cell_45 (lv_at hl 0 rfl) ?_
        refine lv_if_eq (tgt := 60) hx hb dX4_cell_47 (by decide) (fun c15 => ?_) (fun c15 => ?_)
        · have hf := th hf c15
          refine lv_aload hx hb dX4_cell_60 (lv_at hl 1 rfl) ?_
          refine lv_iload_n hx hb dX4_cell_62 rfl (lv_at hl 4 rfl) ?_
          obtain ⟨q16, h17, hf⟩ := bd hf
          refine k_roI (run_VN (rest := []) (n := 1) C0 (tX2_at E (B (14 + k9)) (B (18 + k9)) h17) gX4_cell_X2_at_n186 rfl (by decide +kernel) (by decide +kernel) (by decide +kernel) (by decide +kernel) rfl (by decide +kernel) (hW.1.row (Decidable.of_not_not h10) 0 _ rfl) rfl rfl (hW.1.row (Decidable.of_not_not h10)) hl.1 rfl rfl (Nat.le_of_ble_eq_true rfl) dX4_cell_63) ?_
          refine lv_i2l (v := q16.toInt64) hx hb dX4_cell_66 rfl ?_
          obtain rfl := Option.some.inj hf
          exact e_muL (QH := QX E A B ((upd u.1 9 (0 : Int32)), u.2.1, u.2.2.1, u.2.2.2.1, u.2.2.2.2)) C0 hW.2.2.2 rfl ⟨hW.1, hW.2.1, hW.2.2.1⟩ dX4_cell_67
        · have hf := el hf c15
          exact tX4_cell_50 C0 hW (lv_sub hl [2, 0] rfl) hf
    · have hf := th hf c6
      exact tX4_cell_19 C0 hW (lv_sub hl [] rfl) hf
set_option maxHeartbeats 4000000 in
set_option maxRecDepth 100000 in
theorem tX4_cell {l : Launch} (E : EE) (A : Nat → Prop) (B : Nat → Nat) {u : SX} {x1 : Int32} {x2 : Int32} {x3 : Int32} {out : Int64 × SX} (hI : fI (cX E B u)) (hA : AX E B u A) (hf : fX4_cell x1 x2 x3 u = some out) : muL l yX4_cell wsX4_cell rmX4_cell E [.ref (B 0), .int x1, .int x2, .int x3] A (fP E (cX E B u)) (QX E A B out.2) out.1 := by
  refine Met.ofW (cc := cX4_cell) (maxL := 6) (ret := (some .long)) (by decide) rfl ?_
  intro p e s m args below meth c s₁ B0 hml hv
  obtain ⟨rfl, hP, hK⟩ := hv
  have C0 : cx wsX4_cell cX4_cell 6 (some .long) RX4 E p s m _ meth c := ⟨B0.exec, B0.bytes, B0.returns, hml, findClass_of_methodNamed B0.named, atoms_spec (ws := wsX4_cell) B0.pre, B0.notSynchronized, hK⟩
  have hl := lv_entry ([.ref (B 0), .int x1, .int x2, .int x3]) (n := 6) (Nat.le_of_ble_eq_true rfl)
  rw [lg_entry_eq]
  generalize (lg_sl ([.ref (B 0), .int x1, .int x2, .int x3]) ++ List.replicate (6 - (lg_sl ([.ref (B 0), .int x1, .int x2, .int x3])).length) Slot.unset).toArray = ls at hl ⊢
  exact tX4_cell_0 C0 ⟨hP, hI, hA, va_S.rf⟩ hl hf
abbrev rmX4_leaveInTrace : Room := { frames := 0, cells := 0, slots := 0, locals := 0 }
set_option maxRecDepth 20000 in
theorem iX4_leaveInTrace_X4 : ∀ w ∈ wsX40, w ∈ wsX4_leaveInTrace := by decide +kernel
set_option maxHeartbeats 4000000 in
set_option maxRecDepth 100000 in
theorem tX4_leaveInTrace_0 {p : Program} {l : Launch} {e : Env} {s : State} {m : MethodId} {args : Array Value} {below : List Frame} {meth : Method} {c : Code} {E : EE} {B : Nat → Nat} {A : Nat → Prop} {out : SX} (C0 : cx wsX4_leaveInTrace cX4_leaveInTrace 2 none RX4 E p s m args meth c) {x1 : Int32} {u : SX} {H : Heap} {locs : List Loc} {ls : Array Slot} (hW : WX E A B u s H locs) (hl : lv_has ls 2 [(0, .ref (B 0)), (1, .int x1)]) (hf : fX4_leaveInTrace x1 u = some out) : W p l e rmX4_leaveInTrace s m args below meth c H locs 0 0 (MQ below (va_Qv (fun (_ : Unit) => True) (fun _ t => QX E A B out t.heap) A) args s 0 0 A) (F0 m 0 ls []) := by
  obtain ⟨hx, hb, hr, hml, hown, hts, hlk, hK⟩ := id C0
  unfold fX4_leaveInTrace at hf
  refine lv_aload_n hx hb dX4_leaveInTrace_0 rfl (lv_at hl 0 rfl) ?_
  refine lv_bipush (v := (31 : Int32)) hx hb dX4_leaveInTrace_1 (by decide) ?_
  refine lv_aload_n hx hb dX4_leaveInTrace_3 rfl (lv_at hl 0 rfl) ?_
  refine x_get C0 hW.1 iX4_leaveInTrace_X4 8 (by decide) (by decide +kernel) rfl dX4_leaveInTrace_4 ?_
  refine lv_imul hx hb dX4_leaveInTrace_7 ?_
  refine lv_iload_n hx hb dX4_leaveInTrace_8 rfl (lv_at hl 1 rfl) ?_
  refine lv_iadd hx hb dX4_leaveInTrace_9 ?_
  refine x_put C0 hW iX4_leaveInTrace_X4 8 (by decide) (by decide +kernel) rfl (by decide +kernel) rfl dX4_leaveInTrace_10 (fun H locs hW => ?_)
  have hW : WX E A B ((upd u.1 8 (((31 : Int32) * (u.1 8)) + x1)), u.2.1, u.2.2.1, u.2.2.2.1, u.2.2.2.2) s H locs := hW
  obtain rfl := Option.some.inj hf
  exact e_muV (QH := QX E A B ((upd u.1 8 (((31 : Int32) * (u.1 8)) + x1)), u.2.1, u.2.2.1, u.2.2.2.1, u.2.2.2.2)) C0 hW.2.2.2 ⟨hW.1, hW.2.1, hW.2.2.1⟩ dX4_leaveInTrace_13
set_option maxHeartbeats 4000000 in
set_option maxRecDepth 100000 in
theorem tX4_leaveInTrace {l : Launch} (E : EE) (A : Nat → Prop) (B : Nat → Nat) {u : SX} {x1 : Int32} {out : SX} (hI : fI (cX E B u)) (hA : AX E B u A) (hf : fX4_leaveInTrace x1 u = some out) : muV l yX4_leaveInTrace wsX4_leaveInTrace rmX4_leaveInTrace E [.ref (B 0), .int x1] A (fP E (cX E B u)) (QX E A B out) := by
  refine Met.ofW (cc := cX4_leaveInTrace) (maxL := 2) (ret := none) (by decide) rfl ?_
  intro p e s m args below meth c s₁ B0 hml hv
  obtain ⟨rfl, hP, hK⟩ := hv
  have C0 : cx wsX4_leaveInTrace cX4_leaveInTrace 2 none RX4 E p s m _ meth c := ⟨B0.exec, B0.bytes, B0.returns, hml, findClass_of_methodNamed B0.named, atoms_spec (ws := wsX4_leaveInTrace) B0.pre, B0.notSynchronized, hK⟩
  have hl := lv_entry ([.ref (B 0), .int x1]) (n := 2) (Nat.le_of_ble_eq_true rfl)
  rw [lg_entry_eq]
  generalize (lg_sl ([.ref (B 0), .int x1]) ++ List.replicate (2 - (lg_sl ([.ref (B 0), .int x1])).length) Slot.unset).toArray = ls at hl ⊢
  exact tX4_leaveInTrace_0 C0 ⟨hP, hI, hA, va_S.rf⟩ hl hf
abbrev rmX4_citizenTells : Room := { frames := 1, cells := 0, slots := 0, locals := 21 }
set_option maxHeartbeats 4000000 in
set_option maxRecDepth 100000 in
theorem tX4_citizenTells_0 {p : Program} {l : Launch} {e : Env} {s : State} {m : MethodId} {args : Array Value} {below : List Frame} {meth : Method} {c : Code} {E : EE} {B : Nat → Nat} {A : Nat → Prop} {out : Int32 × SX} (C0 : cx wsX4_citizenTells cX4_citizenTells 2 (some .int) RX4 E p s m args meth c) {x1 : Int32} {u : SX} {H : Heap} {locs : List Loc} {ls : Array Slot} (hW : WX E A B u s H locs) (hl : lv_has ls 2 [(0, .ref (B 0)), (1, .int x1)]) (hf : fX4_citizenTells x1 u = some out) : W p l e rmX4_citizenTells s m args below meth c H locs 0 0 (MQ below (va_Qi (fun r (_ : Unit) => r = out.1) (fun _ t => QX E A B out.2 t.heap) A) args s 0 0 A) (F0 m 0 ls []) := by
  obtain ⟨hx, hb, hr, hml, hown, hts, hlk, hK⟩ := id C0
  unfold fX4_citizenTells at hf
  refine lv_aload_n hx hb dX4_citizenTells_0 rfl (lv_at hl 0 rfl) ?_
  refine lv_iconst (v := (1 : Int32)) hx hb dX4_citizenTells_1 (by decide) ?_
  obtain ⟨q1, h2, hf⟩ := bd hf
  refine k_muV (run_V (rest := []) (n := 1) C0 (tX4_leaveInTrace (u := u) E A B hW.2.1 hW.2.2.1 h2) gX4_citizenTells_X4_leaveInTrace rfl rfl (by decide +kernel) (hW.1 0 _ rfl) rfl rfl hW.1 hl.1 rfl rfl (Nat.le_of_ble_eq_true rfl) dX4_citizenTells_2) hW.2.2.2 (fun _ h => h) (fun H locs hQ _ hS => ?_)
  have hW : WX E A B q1 s H locs := ⟨hQ.1, hQ.2.1, hQ.2.2, hS⟩
  refine lv_iload_n hx hb dX4_citizenTells_5 rfl (lv_at hl 1 rfl) ?_
  obtain rfl := Option.some.inj hf
  exact e_muI (QH := QX E A B q1) C0 hW.2.2.2 rfl ⟨hW.1, hW.2.1, hW.2.2.1⟩ dX4_citizenTells_6
set_option maxHeartbeats 4000000 in
set_option maxRecDepth 100000 in
theorem tX4_citizenTells {l : Launch} (E : EE) (A : Nat → Prop) (B : Nat → Nat) {u : SX} {x1 : Int32} {out : Int32 × SX} (hI : fI (cX E B u)) (hA : AX E B u A) (hf : fX4_citizenTells x1 u = some out) : muI l yX4_citizenTells wsX4_citizenTells rmX4_citizenTells E [.ref (B 0), .int x1] A (fP E (cX E B u)) (QX E A B out.2) out.1 := by
  refine Met.ofW (cc := cX4_citizenTells) (maxL := 2) (ret := (some .int)) (by decide) rfl ?_
  intro p e s m args below meth c s₁ B0 hml hv
  obtain ⟨rfl, hP, hK⟩ := hv
  have C0 : cx wsX4_citizenTells cX4_citizenTells 2 (some .int) RX4 E p s m _ meth c := ⟨B0.exec, B0.bytes, B0.returns, hml, findClass_of_methodNamed B0.named, atoms_spec (ws := wsX4_citizenTells) B0.pre, B0.notSynchronized, hK⟩
  have hl := lv_entry ([.ref (B 0), .int x1]) (n := 2) (Nat.le_of_ble_eq_true rfl)
  rw [lg_entry_eq]
  generalize (lg_sl ([.ref (B 0), .int x1]) ++ List.replicate (2 - (lg_sl ([.ref (B 0), .int x1])).length) Slot.unset).toArray = ls at hl ⊢
  exact tX4_citizenTells_0 C0 ⟨hP, hI, hA, va_S.rf⟩ hl hf
abbrev rmX4_richTells : Room := { frames := 2, cells := 0, slots := 0, locals := 42 }
set_option maxHeartbeats 4000000 in
set_option maxRecDepth 100000 in
theorem tX4_richTells_0 {p : Program} {l : Launch} {e : Env} {s : State} {m : MethodId} {args : Array Value} {below : List Frame} {meth : Method} {c : Code} {E : EE} {B : Nat → Nat} {A : Nat → Prop} {out : Int32 × SX} (C0 : cx wsX4_richTells cX4_richTells 2 (some .int) RX4 E p s m args meth c) {x1 : Int32} {u : SX} {H : Heap} {locs : List Loc} {ls : Array Slot} (hW : WX E A B u s H locs) (hl : lv_has ls 2 [(0, .ref (B 0)), (1, .int x1)]) (hf : fX4_richTells x1 u = some out) : W p l e rmX4_richTells s m args below meth c H locs 0 0 (MQ below (va_Qi (fun r (_ : Unit) => r = out.1) (fun _ t => QX E A B out.2 t.heap) A) args s 0 0 A) (F0 m 0 ls []) := by
  obtain ⟨hx, hb, hr, hml, hown, hts, hlk, hK⟩ := id C0
  unfold fX4_richTells at hf
  refine lv_aload_n hx hb dX4_richTells_0 rfl (lv_at hl 0 rfl) ?_
  refine lv_iconst (v := (2 : Int32)) hx hb dX4_richTells_1 (by decide) ?_
  obtain ⟨q1, h2, hf⟩ := bd hf
  refine k_muV (run_V (rest := []) (n := 1) C0 (tX4_leaveInTrace (u := u) E A B hW.2.1 hW.2.2.1 h2) gX4_richTells_X4_leaveInTrace rfl rfl (by decide +kernel) (hW.1 0 _ rfl) rfl rfl hW.1 hl.1 rfl rfl (Nat.le_of_ble_eq_true rfl) dX4_richTells_2) hW.2.2.2 (fun _ h => h) (fun H locs hQ _ hS => ?_)
  have hW : WX E A B q1 s H locs := ⟨hQ.1, hQ.2.1, hQ.2.2, hS⟩
  refine lv_aload_n hx hb dX4_richTells_5 rfl (lv_at hl 0 rfl) ?_
  refine lv_iload_n hx hb dX4_richTells_6 rfl (lv_at hl 1 rfl) ?_
  obtain ⟨q3, h4, hf⟩ := bd hf
  refine k_muI (run_V (rest := []) (n := 1) C0 (tX4_citizenTells (u := q1) E A B hW.2.1 hW.2.2.1 h4) gX4_richTells_X4_citizenTells rfl rfl (by decide +kernel) (hW.1 0 _ rfl) rfl rfl hW.1 hl.1 rfl rfl (Nat.le_of_ble_eq_true rfl) dX4_richTells_7) hW.2.2.2 (fun _ h => h) (fun H locs hQ _ hS => ?_)
  have hW : WX E A B q3.2 s H locs := ⟨hQ.1, hQ.2.1, hQ.2.2, hS⟩
  refine lv_bipush (v := (100 : Int32)) hx hb dX4_richTells_10 (by decide) ?_
  refine lv_iadd hx hb dX4_richTells_12 ?_
  obtain rfl := Option.some.inj hf
  exact e_muI (QH := QX E A B q3.2) C0 hW.2.2.2 rfl ⟨hW.1, hW.2.1, hW.2.2.1⟩ dX4_richTells_13
set_option maxHeartbeats 4000000 in
set_option maxRecDepth 100000 in
theorem tX4_richTells {l : Launch} (E : EE) (A : Nat → Prop) (B : Nat → Nat) {u : SX} {x1 : Int32} {out : Int32 × SX} (hI : fI (cX E B u)) (hA : AX E B u A) (hf : fX4_richTells x1 u = some out) : muI l yX4_richTells wsX4_richTells rmX4_richTells E [.ref (B 0), .int x1] A (fP E (cX E B u)) (QX E A B out.2) out.1 := by
  refine Met.ofW (cc := cX4_richTells) (maxL := 2) (ret := (some .int)) (by decide) rfl ?_
  intro p e s m args below meth c s₁ B0 hml hv
  obtain ⟨rfl, hP, hK⟩ := hv
  have C0 : cx wsX4_richTells cX4_richTells 2 (some .int) RX4 E p s m _ meth c := ⟨B0.exec, B0.bytes, B0.returns, hml, findClass_of_methodNamed B0.named, atoms_spec (ws := wsX4_richTells) B0.pre, B0.notSynchronized, hK⟩
  have hl := lv_entry ([.ref (B 0), .int x1]) (n := 2) (Nat.le_of_ble_eq_true rfl)
  rw [lg_entry_eq]
  generalize (lg_sl ([.ref (B 0), .int x1]) ++ List.replicate (2 - (lg_sl ([.ref (B 0), .int x1])).length) Slot.unset).toArray = ls at hl ⊢
  exact tX4_richTells_0 C0 ⟨hP, hI, hA, va_S.rf⟩ hl hf
abbrev rmX4_miserTells : Room := { frames := 3, cells := 0, slots := 0, locals := 63 }
set_option maxHeartbeats 4000000 in
set_option maxRecDepth 100000 in
theorem tX4_miserTells_0 {p : Program} {l : Launch} {e : Env} {s : State} {m : MethodId} {args : Array Value} {below : List Frame} {meth : Method} {c : Code} {E : EE} {B : Nat → Nat} {A : Nat → Prop} {out : Int32 × SX} (C0 : cx wsX4_miserTells cX4_miserTells 3 (some .int) RX4 E p s m args meth c) {x1 : Int32} {u : SX} {H : Heap} {locs : List Loc} {ls : Array Slot} (hW : WX E A B u s H locs) (hl : lv_has ls 3 [(0, .ref (B 0)), (1, .int x1)]) (hf : fX4_miserTells x1 u = some out) : W p l e rmX4_miserTells s m args below meth c H locs 0 0 (MQ below (va_Qi (fun r (_ : Unit) => r = out.1) (fun _ t => QX E A B out.2 t.heap) A) args s 0 0 A) (F0 m 0 ls []) := by
  obtain ⟨hx, hb, hr, hml, hown, hts, hlk, hK⟩ := id C0
  unfold fX4_miserTells at hf
  refine lv_aload_n hx hb dX4_miserTells_0 rfl (lv_at hl 0 rfl) ?_
  refine lv_iconst (v := (3 : Int32)) hx hb dX4_miserTells_1 (by decide) ?_
  obtain ⟨q1, h2, hf⟩ := bd hf
  refine k_muV (run_V (rest := []) (n := 1) C0 (tX4_leaveInTrace (u := u) E A B hW.2.1 hW.2.2.1 h2) gX4_miserTells_X4_leaveInTrace rfl rfl (by decide +kernel) (hW.1 0 _ rfl) rfl rfl hW.1 hl.1 rfl rfl (Nat.le_of_ble_eq_true rfl) dX4_miserTells_2) hW.2.2.2 (fun _ h => h) (fun H locs hQ _ hS => ?_)
  have hW : WX E A B q1 s H locs := ⟨hQ.1, hQ.2.1, hQ.2.2, hS⟩
  refine lv_aload_n hx hb dX4_miserTells_5 rfl (lv_at hl 0 rfl) ?_
  refine lv_iload_n hx hb dX4_miserTells_6 rfl (lv_at hl 1 rfl) ?_
  obtain ⟨q3, h4, hf⟩ := bd hf
  refine k_muI (run_V (rest := []) (n := 1) C0 (tX4_richTells (u := q1) E A B hW.2.1 hW.2.2.1 h4) gX4_miserTells_X4_richTells rfl rfl (by decide +kernel) (hW.1 0 _ rfl) rfl rfl hW.1 hl.1 rfl rfl (Nat.le_of_ble_eq_true rfl) dX4_miserTells_7) hW.2.2.2 (fun _ h => h) (fun H locs hQ _ hS => ?_)
  have hW : WX E A B q3.2 s H locs := ⟨hQ.1, hQ.2.1, hQ.2.2, hS⟩
  refine lv_istore_n (lv' := [(2, .int q3.1), (0, .ref (B 0)), (1, .int x1)]) hx hb dX4_miserTells_10 rfl hl (by decide) rfl (fun ls hl => ?_)
  refine lv_iload_n hx hb dX4_miserTells_11 rfl (lv_at hl 0 rfl) ?_
  refine lv_aload_n hx hb dX4_miserTells_12 rfl (lv_at hl 1 rfl) ?_
  refine lv_iload_n hx hb dX4_miserTells_13 rfl (lv_at hl 2 rfl) ?_
  obtain ⟨q5, h6, hf⟩ := bd hf
  refine k_muI (run_V (rest := [.int q3.1]) (n := 1) C0 (tX4_citizenTells (u := q3.2) E A B hW.2.1 hW.2.2.1 h6) gX4_miserTells_X4_citizenTells rfl rfl (by decide +kernel) (hW.1 0 _ rfl) rfl rfl hW.1 hl.1 rfl rfl (Nat.le_of_ble_eq_true rfl) dX4_miserTells_14) hW.2.2.2 (fun _ h => h) (fun H locs hQ _ hS => ?_)
  have hW : WX E A B q5.2 s H locs := ⟨hQ.1, hQ.2.1, hQ.2.2, hS⟩
  refine lv_iadd hx hb dX4_miserTells_17 ?_
  obtain rfl := Option.some.inj hf
  exact e_muI (QH := QX E A B q5.2) C0 hW.2.2.2 rfl ⟨hW.1, hW.2.1, hW.2.2.1⟩ dX4_miserTells_18
set_option maxHeartbeats 4000000 in
set_option maxRecDepth 100000 in
theorem tX4_miserTells {l : Launch} (E : EE) (A : Nat → Prop) (B : Nat → Nat) {u : SX} {x1 : Int32} {out : Int32 × SX} (hI : fI (cX E B u)) (hA : AX E B u A) (hf : fX4_miserTells x1 u = some out) : muI l yX4_miserTells wsX4_miserTells rmX4_miserTells E [.ref (B 0), .int x1] A (fP E (cX E B u)) (QX E A B out.2) out.1 := by
  refine Met.ofW (cc := cX4_miserTells) (maxL := 3) (ret := (some .int)) (by decide) rfl ?_
  intro p e s m args below meth c s₁ B0 hml hv
  obtain ⟨rfl, hP, hK⟩ := hv
  have C0 : cx wsX4_miserTells cX4_miserTells 3 (some .int) RX4 E p s m _ meth c := ⟨B0.exec, B0.bytes, B0.returns, hml, findClass_of_methodNamed B0.named, atoms_spec (ws := wsX4_miserTells) B0.pre, B0.notSynchronized, hK⟩
  have hl := lv_entry ([.ref (B 0), .int x1]) (n := 3) (Nat.le_of_ble_eq_true rfl)
  rw [lg_entry_eq]
  generalize (lg_sl ([.ref (B 0), .int x1]) ++ List.replicate (3 - (lg_sl ([.ref (B 0), .int x1])).length) Slot.unset).toArray = ls at hl ⊢
  exact tX4_miserTells_0 C0 ⟨hP, hI, hA, va_S.rf⟩ hl hf
abbrev rmX4_tell : Room := { frames := 4, cells := 0, slots := 0, locals := 85 }
set_option maxRecDepth 20000 in
theorem iX4_tell_X0 : ∀ w ∈ wsX00, w ∈ wsX4_tell := by decide +kernel
set_option maxHeartbeats 4000000 in
set_option maxRecDepth 100000 in
theorem tX4_tell_0 {p : Program} {l : Launch} {e : Env} {s : State} {m : MethodId} {args : Array Value} {below : List Frame} {meth : Method} {c : Code} {E : EE} {B : Nat → Nat} {A : Nat → Prop} {out : Int32 × SX} (C0 : cx wsX4_tell cX4_tell 3 (some .int) RX4 E p s m args meth c) {x1 : Int32} {u : SX} {H : Heap} {locs : List Loc} {ls : Array Slot} (hW : WX E A B u s H locs) (hl : lv_has ls 3 [(0, .ref (B 0)), (1, .int x1)]) (hf : fX4_tell x1 u = some out) : W p l e rmX4_tell s m args below meth c H locs 0 0 (MQ below (va_Qi (fun r (_ : Unit) => r = out.1) (fun _ t => QX E A B out.2 t.heap) A) args s 0 0 A) (F0 m 0 ls []) := by
  obtain ⟨hx, hb, hr, hml, hown, hts, hlk, hK⟩ := id C0
  unfold fX4_tell at hf
  refine lv_aload_n hx hb dX4_tell_0 rfl (lv_at hl 0 rfl) ?_
  refine lv_iload_n hx hb dX4_tell_1 rfl (lv_at hl 1 rfl) ?_
  obtain ⟨q1, h2, hf⟩ := bd hf
  refine k_roQ (run_V (rest := []) (n := 1) C0 (tX4_citizen (u := u) E B h2) gX4_tell_X4_citizen rfl rfl (by decide +kernel) (hW.1 0 _ rfl) rfl rfl hW.1 hl.1 rfl rfl (Nat.le_of_ble_eq_true rfl) dX4_tell_2) ?_
  cases q1 with
  | none =>
    rw [Option.elim_none] at hf
    refine W.eq (g2 := F0 m 5 ls [.null]) rfl ?_
    refine lv_astore_nN (lv' := [(2, .null), (0, .ref (B 0)), (1, .int x1)]) hx hb dX4_tell_5 rfl hl (by decide) rfl (fun ls hl => ?_)
    refine lv_aload_nN hx hb dX4_tell_6 rfl (lv_at hl 0 rfl) ?_
    refine lv_ifnonnullN hx hb dX4_tell_7 ?_
    refine lv_iconst (v := (-1 : Int32)) hx hb dX4_tell_10 (by decide) ?_
    obtain rfl := Option.some.inj hf
    exact e_muI (QH := QX E A B u) C0 hW.2.2.2 rfl ⟨hW.1, hW.2.1, hW.2.2.1⟩ dX4_tell_11
  | some k3 =>
    rw [Option.elim_some] at hf
    obtain ⟨h4, hf⟩ := gd hf
    refine W.eq (g2 := F0 m 5 ls [.ref (B (8 + k3))]) rfl ?_
    refine lv_astore_n (lv' := [(2, .ref (B (8 + k3))), (0, .ref (B 0)), (1, .int x1)]) hx hb dX4_tell_5 rfl hl (by decide) rfl (fun ls hl => ?_)
    refine lv_aload_n hx hb dX4_tell_6 rfl (lv_at hl 0 rfl) ?_
    refine lv_ifnonnull (tgt := 12) hx hb dX4_tell_7 (by decide) ?_
    refine lv_aload_n hx hb dX4_tell_12 rfl (lv_at hl 0 rfl) ?_
    refine c_getN C0 (hW.1.cit (Decidable.of_not_not h4)) iX4_tell_X0 0 (by decide) (by decide +kernel) rfl dX4_tell_13 ?_
    by_cases c5 : (u.2.2.1 k3 0) = (1 : Int32)
    · have hf := th hf c5
      rw [c5]
      refine lv_lookup (off := 37) (tgt := 53) hx hb dX4_tell_16 (by decide) (by decide) (by decide) ?_
      refine lv_aload_n hx hb dX4_tell_53 rfl (lv_at hl 1 rfl) ?_
      refine lv_aload_n hx hb dX4_tell_54 rfl (lv_at hl 0 rfl) ?_
      refine c_getN C0 (hW.1.cit (Decidable.of_not_not h4)) iX4_tell_X0 1 (by decide) (by decide +kernel) rfl dX4_tell_55 ?_
      obtain ⟨q6, h7, hf⟩ := bd hf
      refine k_muI (run_V (rest := []) (n := 1) C0 (tX4_richTells (u := u) E A B hW.2.1 hW.2.2.1 h7) gX4_tell_X4_richTells rfl rfl (by decide +kernel) (hW.1 0 _ rfl) rfl rfl hW.1 hl.1 rfl rfl (Nat.le_of_ble_eq_true rfl) dX4_tell_58) hW.2.2.2 (fun _ h => h) (fun H locs hQ _ hS => ?_)
      have hW : WX E A B q6.2 s H locs := ⟨hQ.1, hQ.2.1, hQ.2.2, hS⟩
      obtain rfl := Option.some.inj hf
      exact e_muI (QH := QX E A B q6.2) C0 hW.2.2.2 rfl ⟨hW.1, hW.2.1, hW.2.2.1⟩ dX4_tell_61
    · have hf := el hf c5
      by_cases c8 : (u.2.2.1 k3 0) = (2 : Int32)
      · have hf := th hf c8
        rw [c8]
        refine lv_lookup (off := 28) (tgt := 44) hx hb dX4_tell_16 (by decide) (by decide) (by decide) ?_
        refine lv_aload_n hx hb dX4_tell_44 rfl (lv_at hl 1 rfl) ?_
        refine lv_aload_n hx hb dX4_tell_45 rfl (lv_at hl 0 rfl) ?_
        refine c_getN C0 (hW.1.cit (Decidable.of_not_not h4)) iX4_tell_X0 1 (by decide) (by decide +kernel) rfl dX4_tell_46 ?_
        obtain ⟨q9, h10, hf⟩ := bd hf
        refine k_muI (run_V (rest := []) (n := 1) C0 (tX4_miserTells (u := u) E A B hW.2.1 hW.2.2.1 h10) gX4_tell_X4_miserTells rfl rfl (by decide +kernel) (hW.1 0 _ rfl) rfl rfl hW.1 hl.1 rfl rfl (Nat.le_of_ble_eq_true rfl) dX4_tell_49) hW.2.2.2 (fun _ h => h) (fun H locs hQ _ hS => ?_)
        have hW : WX E A B q9.2 s H locs := ⟨hQ.1, hQ.2.1, hQ.2.2, hS⟩
        obtain rfl := Option.some.inj hf
        exact e_muI (QH := QX E A B q9.2) C0 hW.2.2.2 rfl ⟨hW.1, hW.2.1, hW.2.2.1⟩ dX4_tell_52
      · have hf := el hf c8
        refine lv_lookup (off := 46) (tgt := 62) hx hb dX4_tell_16 (by decide) (by rw [lv_osw c5 (by decide)]; rw [lv_osw c8 (by decide)]; rfl) (by decide) ?_
        refine lv_aload_n hx hb dX4_tell_62 rfl (lv_at hl 1 rfl) ?_
        refine lv_aload_n hx hb dX4_tell_63 rfl (lv_at hl 0 rfl) ?_
        refine c_getN C0 (hW.1.cit (Decidable.of_not_not h4)) iX4_tell_X0 1 (by decide) (by decide +kernel) rfl dX4_tell_64 ?_
        obtain ⟨q11, h12, hf⟩ := bd hf
        refine k_muI (run_V (rest := []) (n := 1) C0 (tX4_citizenTells (u := u) E A B hW.2.1 hW.2.2.1 h12) gX4_tell_X4_citizenTells rfl rfl (by decide +kernel) (hW.1 0 _ rfl) rfl rfl hW.1 hl.1 rfl rfl (Nat.le_of_ble_eq_true rfl) dX4_tell_67) hW.2.2.2 (fun _ h => h) (fun H locs hQ _ hS => ?_)
        have hW : WX E A B q11.2 s H locs := ⟨hQ.1, hQ.2.1, hQ.2.2, hS⟩
        obtain rfl := Option.some.inj hf
        exact e_muI (QH := QX E A B q11.2) C0 hW.2.2.2 rfl ⟨hW.1, hW.2.1, hW.2.2.1⟩ dX4_tell_70
set_option maxHeartbeats 4000000 in
set_option maxRecDepth 100000 in
theorem tX4_tell {l : Launch} (E : EE) (A : Nat → Prop) (B : Nat → Nat) {u : SX} {x1 : Int32} {out : Int32 × SX} (hI : fI (cX E B u)) (hA : AX E B u A) (hf : fX4_tell x1 u = some out) : muI l yX4_tell wsX4_tell rmX4_tell E [.ref (B 0), .int x1] A (fP E (cX E B u)) (QX E A B out.2) out.1 := by
  refine Met.ofW (cc := cX4_tell) (maxL := 3) (ret := (some .int)) (by decide) rfl ?_
  intro p e s m args below meth c s₁ B0 hml hv
  obtain ⟨rfl, hP, hK⟩ := hv
  have C0 : cx wsX4_tell cX4_tell 3 (some .int) RX4 E p s m _ meth c := ⟨B0.exec, B0.bytes, B0.returns, hml, findClass_of_methodNamed B0.named, atoms_spec (ws := wsX4_tell) B0.pre, B0.notSynchronized, hK⟩
  have hl := lv_entry ([.ref (B 0), .int x1]) (n := 3) (Nat.le_of_ble_eq_true rfl)
  rw [lg_entry_eq]
  generalize (lg_sl ([.ref (B 0), .int x1]) ++ List.replicate (3 - (lg_sl ([.ref (B 0), .int x1])).length) Slot.unset).toArray = ls at hl ⊢
  exact tX4_tell_0 C0 ⟨hP, hI, hA, va_S.rf⟩ hl hf
abbrev rmX4_call : Room := { frames := 1, cells := 0, slots := 0, locals := 21 }
set_option maxRecDepth 20000 in
theorem iX4_call_X0 : ∀ w ∈ wsX00, w ∈ wsX4_call := by decide +kernel
set_option maxHeartbeats 4000000 in
set_option maxRecDepth 100000 in
theorem tX4_call_0 {p : Program} {l : Launch} {e : Env} {s : State} {m : MethodId} {args : Array Value} {below : List Frame} {meth : Method} {c : Code} {E : EE} {B : Nat → Nat} {A : Nat → Prop} {out : Int32 × SX} (C0 : cx wsX4_call cX4_call 3 (some .int) RX4 E p s m args meth c) {x1 : Int32} {u : SX} {H : Heap} {locs : List Loc} {ls : Array Slot} (hW : WX E A B u s H locs) (hl : lv_has ls 3 [(0, .ref (B 0)), (1, .int x1)]) (hf : fX4_call x1 u = some out) : W p l e rmX4_call s m args below meth c H locs 0 0 (MQ below (va_Qi (fun r (_ : Unit) => r = out.1) (fun _ t => QX E A B out.2 t.heap) A) args s 0 0 A) (F0 m 0 ls []) := by
  obtain ⟨hx, hb, hr, hml, hown, hts, hlk, hK⟩ := id C0
  unfold fX4_call at hf
  refine lv_aload_n hx hb dX4_call_0 rfl (lv_at hl 0 rfl) ?_
  refine lv_iload_n hx hb dX4_call_1 rfl (lv_at hl 1 rfl) ?_
  obtain ⟨q1, h2, hf⟩ := bd hf
  refine k_roQ (run_V (rest := []) (n := 1) C0 (tX4_citizen (u := u) E B h2) gX4_call_X4_citizen rfl rfl (by decide +kernel) (hW.1 0 _ rfl) rfl rfl hW.1 hl.1 rfl rfl (Nat.le_of_ble_eq_true rfl) dX4_call_2) ?_
  cases q1 with
  | none =>
    rw [Option.elim_none] at hf
    refine W.eq (g2 := F0 m 5 ls [.null]) rfl ?_
    refine lv_astore_nN (lv' := [(2, .null), (0, .ref (B 0)), (1, .int x1)]) hx hb dX4_call_5 rfl hl (by decide) rfl (fun ls hl => ?_)
    refine lv_aload_nN hx hb dX4_call_6 rfl (lv_at hl 0 rfl) ?_
    refine lv_ifnonnullN hx hb dX4_call_7 ?_
    refine lv_iconst (v := (-1 : Int32)) hx hb dX4_call_10 (by decide) ?_
    obtain rfl := Option.some.inj hf
    exact e_muI (QH := QX E A B u) C0 hW.2.2.2 rfl ⟨hW.1, hW.2.1, hW.2.2.1⟩ dX4_call_11
  | some k3 =>
    rw [Option.elim_some] at hf
    obtain ⟨h4, hf⟩ := gd hf
    refine W.eq (g2 := F0 m 5 ls [.ref (B (8 + k3))]) rfl ?_
    refine lv_astore_n (lv' := [(2, .ref (B (8 + k3))), (0, .ref (B 0)), (1, .int x1)]) hx hb dX4_call_5 rfl hl (by decide) rfl (fun ls hl => ?_)
    refine lv_aload_n hx hb dX4_call_6 rfl (lv_at hl 0 rfl) ?_
    refine lv_ifnonnull (tgt := 12) hx hb dX4_call_7 (by decide) ?_
    refine lv_aload_n hx hb dX4_call_12 rfl (lv_at hl 0 rfl) ?_
    refine c_getN C0 (hW.1.cit (Decidable.of_not_not h4)) iX4_call_X0 0 (by decide) (by decide +kernel) rfl dX4_call_13 ?_
    refine lv_iconst (v := (2 : Int32)) hx hb dX4_call_16 (by decide) ?_
    refine lv_icmp_ne (tgt := 28) hx hb dX4_call_17 (by decide) (fun c5 => ?_) (fun c5 => ?_)
    · have hf := el hf c5
      refine lv_aload_n hx hb dX4_call_28 rfl (lv_at hl 1 rfl) ?_
      refine lv_iconst (v := (4 : Int32)) hx hb dX4_call_29 (by decide) ?_
      obtain ⟨q6, h7, hf⟩ := bd hf
      refine k_muV (run_V (rest := []) (n := 1) C0 (tX4_leaveInTrace (u := u) E A B hW.2.1 hW.2.2.1 h7) gX4_call_X4_leaveInTrace rfl rfl (by decide +kernel) (hW.1 0 _ rfl) rfl rfl hW.1 hl.1 rfl rfl (Nat.le_of_ble_eq_true rfl) dX4_call_30) hW.2.2.2 (fun _ h => h) (fun H locs hQ _ hS => ?_)
      have hW : WX E A B q6 s H locs := ⟨hQ.1, hQ.2.1, hQ.2.2, hS⟩
      refine lv_iload_n hx hb dX4_call_33 rfl (lv_at hl 2 rfl) ?_
      obtain rfl := Option.some.inj hf
      exact e_muI (QH := QX E A B q6) C0 hW.2.2.2 rfl ⟨hW.1, hW.2.1, hW.2.2.1⟩ dX4_call_34
    · have hf := th hf c5
      refine lv_aload_n hx hb dX4_call_20 rfl (lv_at hl 1 rfl) ?_
      refine lv_iconst (v := (5 : Int32)) hx hb dX4_call_21 (by decide) ?_
      obtain ⟨q8, h9, hf⟩ := bd hf
      refine k_muV (run_V (rest := []) (n := 1) C0 (tX4_leaveInTrace (u := u) E A B hW.2.1 hW.2.2.1 h9) gX4_call_X4_leaveInTrace rfl rfl (by decide +kernel) (hW.1 0 _ rfl) rfl rfl hW.1 hl.1 rfl rfl (Nat.le_of_ble_eq_true rfl) dX4_call_22) hW.2.2.2 (fun _ h => h) (fun H locs hQ _ hS => ?_)
      have hW : WX E A B q8 s H locs := ⟨hQ.1, hQ.2.1, hQ.2.2, hS⟩
      refine lv_bipush (v := (20 : Int32)) hx hb dX4_call_25 (by decide) ?_
      obtain rfl := Option.some.inj hf
      exact e_muI (QH := QX E A B q8) C0 hW.2.2.2 rfl ⟨hW.1, hW.2.1, hW.2.2.1⟩ dX4_call_27
set_option maxHeartbeats 4000000 in
set_option maxRecDepth 100000 in
theorem tX4_call {l : Launch} (E : EE) (A : Nat → Prop) (B : Nat → Nat) {u : SX} {x1 : Int32} {out : Int32 × SX} (hI : fI (cX E B u)) (hA : AX E B u A) (hf : fX4_call x1 u = some out) : muI l yX4_call wsX4_call rmX4_call E [.ref (B 0), .int x1] A (fP E (cX E B u)) (QX E A B out.2) out.1 := by
  refine Met.ofW (cc := cX4_call) (maxL := 3) (ret := (some .int)) (by decide) rfl ?_
  intro p e s m args below meth c s₁ B0 hml hv
  obtain ⟨rfl, hP, hK⟩ := hv
  have C0 : cx wsX4_call cX4_call 3 (some .int) RX4 E p s m _ meth c := ⟨B0.exec, B0.bytes, B0.returns, hml, findClass_of_methodNamed B0.named, atoms_spec (ws := wsX4_call) B0.pre, B0.notSynchronized, hK⟩
  have hl := lv_entry ([.ref (B 0), .int x1]) (n := 3) (Nat.le_of_ble_eq_true rfl)
  rw [lg_entry_eq]
  generalize (lg_sl ([.ref (B 0), .int x1]) ++ List.replicate (3 - (lg_sl ([.ref (B 0), .int x1])).length) Slot.unset).toArray = ls at hl ⊢
  exact tX4_call_0 C0 ⟨hP, hI, hA, va_S.rf⟩ hl hf
abbrev rmX4_as : Room := { frames := 1, cells := 0, slots := 0, locals := 21 }
set_option maxRecDepth 20000 in
theorem iX4_as_X0 : ∀ w ∈ wsX00, w ∈ wsX4_as := by decide +kernel
set_option maxRecDepth 20000 in
theorem iX4_as_X4 : ∀ w ∈ wsX40, w ∈ wsX4_as := by decide +kernel
set_option maxHeartbeats 4000000 in
set_option maxRecDepth 100000 in
theorem tX4_as_26 {p : Program} {l : Launch} {e : Env} {s : State} {m : MethodId} {args : Array Value} {below : List Frame} {meth : Method} {c : Code} {E : EE} {B : Nat → Nat} {A : Nat → Prop} {out : Int32 × SX} (C0 : cx wsX4_as cX4_as 4 (some .int) RX4 E p s m args meth c) {u : SX} {H : Heap} {locs : List Loc} {ls : Array Slot} (hW : WX E A B u s H locs) (hl : lv_has ls 4 []) (hf : fX4_as_26 u = some out) : W p l e rmX4_as s m args below meth c H locs 0 0 (MQ below (va_Qi (fun r (_ : Unit) => r = out.1) (fun _ t => QX E A B out.2 t.heap) A) args s 0 0 A) (F0 m 26 ls []) := by
  obtain ⟨hx, hb, hr, hml, hown, hts, hlk, hK⟩ := id C0
  unfold fX4_as_26 at hf
  refine lv_bipush (v := (-2 : Int32)) hx hb dX4_as_26 (by decide) ?_
  obtain rfl := Option.some.inj hf
  exact e_muI (QH := QX E A B u) C0 hW.2.2.2 rfl ⟨hW.1, hW.2.1, hW.2.2.1⟩ dX4_as_28
set_option maxHeartbeats 4000000 in
set_option maxRecDepth 100000 in
theorem tX4_as_0 {p : Program} {l : Launch} {e : Env} {s : State} {m : MethodId} {args : Array Value} {below : List Frame} {meth : Method} {c : Code} {E : EE} {B : Nat → Nat} {A : Nat → Prop} {out : Int32 × SX} (C0 : cx wsX4_as cX4_as 4 (some .int) RX4 E p s m args meth c) {x1 : Int32} {x2 : Int32} {u : SX} {H : Heap} {locs : List Loc} {ls : Array Slot} (hW : WX E A B u s H locs) (hl : lv_has ls 4 [(0, .ref (B 0)), (1, .int x1), (2, .int x2)]) (hf : fX4_as x1 x2 u = some out) : W p l e rmX4_as s m args below meth c H locs 0 0 (MQ below (va_Qi (fun r (_ : Unit) => r = out.1) (fun _ t => QX E A B out.2 t.heap) A) args s 0 0 A) (F0 m 0 ls []) := by
  obtain ⟨hx, hb, hr, hml, hown, hts, hlk, hK⟩ := id C0
  unfold fX4_as at hf
  refine lv_aload_n hx hb dX4_as_0 rfl (lv_at hl 0 rfl) ?_
  refine lv_iconst (v := (0 : Int32)) hx hb dX4_as_1 (by decide) ?_
  refine x_put C0 hW iX4_as_X4 9 (by decide) (by decide +kernel) rfl (by decide +kernel) rfl dX4_as_2 (fun H locs hW => ?_)
  have hW : WX E A B ((upd u.1 9 (0 : Int32)), u.2.1, u.2.2.1, u.2.2.2.1, u.2.2.2.2) s H locs := hW
  refine lv_aload_n hx hb dX4_as_5 rfl (lv_at hl 0 rfl) ?_
  refine lv_iload_n hx hb dX4_as_6 rfl (lv_at hl 1 rfl) ?_
  obtain ⟨q1, h2, hf⟩ := bd hf
  refine k_roQ (run_V (rest := []) (n := 1) C0 (tX4_citizen (u := ((upd u.1 9 (0 : Int32)), u.2.1, u.2.2.1, u.2.2.2.1, u.2.2.2.2)) E B h2) gX4_as_X4_citizen rfl rfl (by decide +kernel) (hW.1 0 _ rfl) rfl rfl hW.1 hl.1 rfl rfl (Nat.le_of_ble_eq_true rfl) dX4_as_7) ?_
  cases q1 with
  | none =>
    rw [Option.elim_none] at hf
    refine W.eq (g2 := F0 m 10 ls [.null]) rfl ?_
    refine lv_astore_nN (lv' := [(3, .null), (0, .ref (B 0)), (1, .int x1), (2, .int x2)]) hx hb dX4_as_10 rfl hl (by decide) rfl (fun ls hl => ?_)
    refine lv_aload_nN hx hb dX4_as_11 rfl (lv_at hl 0 rfl) ?_
    refine lv_ifnonnullN hx hb dX4_as_12 ?_
    refine lv_iconst (v := (-1 : Int32)) hx hb dX4_as_15 (by decide) ?_
    obtain rfl := Option.some.inj hf
    exact e_muI (QH := QX E A B ((upd u.1 9 (0 : Int32)), u.2.1, u.2.2.1, u.2.2.2.1, u.2.2.2.2)) C0 hW.2.2.2 rfl ⟨hW.1, hW.2.1, hW.2.2.1⟩ dX4_as_16
  | some k3 =>
    rw [Option.elim_some] at hf
    obtain ⟨h4, hf⟩ := gd hf
    refine W.eq (g2 := F0 m 10 ls [.ref (B (8 + k3))]) rfl ?_
    refine lv_astore_n (lv' := [(3, .ref (B (8 + k3))), (0, .ref (B 0)), (1, .int x1), (2, .int x2)]) hx hb dX4_as_10 rfl hl (by decide) rfl (fun ls hl => ?_)
    refine lv_aload_n hx hb dX4_as_11 rfl (lv_at hl 0 rfl) ?_
    refine lv_ifnonnull (tgt := 17) hx hb dX4_as_12 (by decide) ?_
    refine lv_iload_n hx hb dX4_as_17 rfl (lv_at hl 3 rfl) ?_
    refine lv_if_lt (tgt := 26) hx hb dX4_as_18 (by decide) (fun c5 => ?_) (fun c5 => ?_)
    · have hf := th hf c5
      exact tX4_as_26 C0 hW (lv_sub hl [] rfl) hf
    · have hf := el hf c5
      refine lv_iload_n hx hb dX4_as_21 rfl (lv_at hl 3 rfl) ?_
      refine lv_iconst (v := (2 : Int32)) hx hb dX4_as_22 (by decide) ?_
      refine lv_icmp_le (tgt := 29) hx hb dX4_as_23 (by decide) (fun c6 => ?_) (fun c6 => ?_)
      · have hf := th hf c6
        refine lv_aload_n hx hb dX4_as_29 rfl (lv_at hl 0 rfl) ?_
        refine c_getN C0 (hW.1.cit (Decidable.of_not_not h4)) iX4_as_X0 0 (by decide) (by decide +kernel) rfl dX4_as_30 ?_
        refine lv_iload_n hx hb dX4_as_33 rfl (lv_at hl 3 rfl) ?_
        refine lv_icmp_ge (tgt := 45) hx hb dX4_as_34 (by decide) (fun c7 => ?_) (fun c7 => ?_)
        · have hf := th hf c7
          refine lv_iconst (v := (1 : Int32)) hx hb dX4_as_45 (by decide) ?_
          obtain rfl := Option.some.inj hf
          exact e_muI (QH := QX E A B ((upd u.1 9 (0 : Int32)), u.2.1, u.2.2.1, u.2.2.2.1, u.2.2.2.2)) C0 hW.2.2.2 rfl ⟨hW.1, hW.2.1, hW.2.2.1⟩ dX4_as_46
        · have hf := el hf c7
          refine lv_aload_n hx hb dX4_as_37 rfl (lv_at hl 1 rfl) ?_
          refine lv_iconst (v := (2 : Int32)) hx hb dX4_as_38 (by decide) ?_
          obtain ⟨q8, h9, hf⟩ := bd hf
          refine k_muI (run_V (rest := []) (n := 1) C0 (tX4_faulted (u := ((upd u.1 9 (0 : Int32)), u.2.1, u.2.2.1, u.2.2.2.1, u.2.2.2.2)) E A B hW.2.1 hW.2.2.1 h9) gX4_as_X4_faulted rfl rfl (by decide +kernel) (hW.1 0 _ rfl) rfl rfl hW.1 hl.1 rfl rfl (Nat.le_of_ble_eq_true rfl) dX4_as_39) hW.2.2.2 (fun _ h => h) (fun H locs hQ _ hS => ?_)
          have hW : WX E A B q8.2 s H locs := ⟨hQ.1, hQ.2.1, hQ.2.2, hS⟩
          refine lv_goto (tgt := 46) hx hb dX4_as_42 (by decide) ?_
          obtain rfl := Option.some.inj hf
          exact e_muI (QH := QX E A B q8.2) C0 hW.2.2.2 rfl ⟨hW.1, hW.2.1, hW.2.2.1⟩ dX4_as_46
      · have hf := el hf c6
        exact tX4_as_26 C0 hW (lv_sub hl [] rfl) hf
set_option maxHeartbeats 4000000 in
set_option maxRecDepth 100000 in
theorem tX4_as {l : Launch} (E : EE) (A : Nat → Prop) (B : Nat → Nat) {u : SX} {x1 : Int32} {x2 : Int32} {out : Int32 × SX} (hI : fI (cX E B u)) (hA : AX E B u A) (hf : fX4_as x1 x2 u = some out) : muI l yX4_as wsX4_as rmX4_as E [.ref (B 0), .int x1, .int x2] A (fP E (cX E B u)) (QX E A B out.2) out.1 := by
  refine Met.ofW (cc := cX4_as) (maxL := 4) (ret := (some .int)) (by decide) rfl ?_
  intro p e s m args below meth c s₁ B0 hml hv
  obtain ⟨rfl, hP, hK⟩ := hv
  have C0 : cx wsX4_as cX4_as 4 (some .int) RX4 E p s m _ meth c := ⟨B0.exec, B0.bytes, B0.returns, hml, findClass_of_methodNamed B0.named, atoms_spec (ws := wsX4_as) B0.pre, B0.notSynchronized, hK⟩
  have hl := lv_entry ([.ref (B 0), .int x1, .int x2]) (n := 4) (Nat.le_of_ble_eq_true rfl)
  rw [lg_entry_eq]
  generalize (lg_sl ([.ref (B 0), .int x1, .int x2]) ++ List.replicate (4 - (lg_sl ([.ref (B 0), .int x1, .int x2])).length) Slot.unset).toArray = ls at hl ⊢
  exact tX4_as_0 C0 ⟨hP, hI, hA, va_S.rf⟩ hl hf
abbrev rmX4_trace : Room := { frames := 0, cells := 0, slots := 0, locals := 0 }
set_option maxRecDepth 20000 in
theorem iX4_trace_X4 : ∀ w ∈ wsX40, w ∈ wsX4_trace := by decide +kernel
set_option maxHeartbeats 4000000 in
set_option maxRecDepth 100000 in
theorem tX4_trace_0 {p : Program} {l : Launch} {e : Env} {s : State} {m : MethodId} {args : Array Value} {below : List Frame} {meth : Method} {c : Code} {E : EE} {B : Nat → Nat} {u : SX} {out : Int32} (C0 : cx wsX4_trace cX4_trace 1 (some .int) RX4 E p s m args meth c) (hP : fP E (cX E B u) s.heap) {ls : Array Slot} (hl : lv_has ls 1 [(0, .ref (B 0))]) (hf : fX4_trace u = some out) : W p l e rmX4_trace s m args below meth c s.heap [] 0 0 (MQ below (vp_Si (fun r => r = out)) args s 0 0 (fun _ => False)) (F0 m 0 ls []) := by
  obtain ⟨hx, hb, hr, hml, hown, hts, hlk, hK⟩ := id C0
  unfold fX4_trace at hf
  refine lv_aload_n hx hb dX4_trace_0 rfl (lv_at hl 0 rfl) ?_
  refine x_get C0 hP iX4_trace_X4 8 (by decide) (by decide +kernel) rfl dX4_trace_1 ?_
  exact e_roI C0 hf dX4_trace_4
set_option maxHeartbeats 4000000 in
set_option maxRecDepth 100000 in
theorem tX4_trace {l : Launch} (E : EE) (B : Nat → Nat) {u : SX} {out : Int32} (hf : fX4_trace u = some out) : roI l yX4_trace wsX4_trace rmX4_trace E [.ref (B 0)] (fP E (cX E B u)) out := by
  refine Met.ofW (cc := cX4_trace) (maxL := 1) (ret := (some .int)) (by decide) rfl ?_
  intro p e s m args below meth c s₁ B0 hml hv
  obtain ⟨rfl, hP, hK⟩ := hv
  have C0 : cx wsX4_trace cX4_trace 1 (some .int) RX4 E p s m _ meth c := ⟨B0.exec, B0.bytes, B0.returns, hml, findClass_of_methodNamed B0.named, atoms_spec (ws := wsX4_trace) B0.pre, B0.notSynchronized, hK⟩
  have hl := lv_entry ([.ref (B 0)]) (n := 1) (Nat.le_of_ble_eq_true rfl)
  rw [lg_entry_eq]
  generalize (lg_sl ([.ref (B 0)]) ++ List.replicate (1 - (lg_sl ([.ref (B 0)])).length) Slot.unset).toArray = ls at hl ⊢
  exact tX4_trace_0 C0 hP hl hf
abbrev rmX4_fault : Room := { frames := 0, cells := 0, slots := 0, locals := 0 }
set_option maxRecDepth 20000 in
theorem iX4_fault_X4 : ∀ w ∈ wsX40, w ∈ wsX4_fault := by decide +kernel
set_option maxHeartbeats 4000000 in
set_option maxRecDepth 100000 in
theorem tX4_fault_0 {p : Program} {l : Launch} {e : Env} {s : State} {m : MethodId} {args : Array Value} {below : List Frame} {meth : Method} {c : Code} {E : EE} {B : Nat → Nat} {u : SX} {out : Int32} (C0 : cx wsX4_fault cX4_fault 1 (some .int) RX4 E p s m args meth c) (hP : fP E (cX E B u) s.heap) {ls : Array Slot} (hl : lv_has ls 1 [(0, .ref (B 0))]) (hf : fX4_fault u = some out) : W p l e rmX4_fault s m args below meth c s.heap [] 0 0 (MQ below (vp_Si (fun r => r = out)) args s 0 0 (fun _ => False)) (F0 m 0 ls []) := by
  obtain ⟨hx, hb, hr, hml, hown, hts, hlk, hK⟩ := id C0
  unfold fX4_fault at hf
  refine lv_aload_n hx hb dX4_fault_0 rfl (lv_at hl 0 rfl) ?_
  refine x_get C0 hP iX4_fault_X4 9 (by decide) (by decide +kernel) rfl dX4_fault_1 ?_
  exact e_roI C0 hf dX4_fault_4
set_option maxHeartbeats 4000000 in
set_option maxRecDepth 100000 in
theorem tX4_fault {l : Launch} (E : EE) (B : Nat → Nat) {u : SX} {out : Int32} (hf : fX4_fault u = some out) : roI l yX4_fault wsX4_fault rmX4_fault E [.ref (B 0)] (fP E (cX E B u)) out := by
  refine Met.ofW (cc := cX4_fault) (maxL := 1) (ret := (some .int)) (by decide) rfl ?_
  intro p e s m args below meth c s₁ B0 hml hv
  obtain ⟨rfl, hP, hK⟩ := hv
  have C0 : cx wsX4_fault cX4_fault 1 (some .int) RX4 E p s m _ meth c := ⟨B0.exec, B0.bytes, B0.returns, hml, findClass_of_methodNamed B0.named, atoms_spec (ws := wsX4_fault) B0.pre, B0.notSynchronized, hK⟩
  have hl := lv_entry ([.ref (B 0)]) (n := 1) (Nat.le_of_ble_eq_true rfl)
  rw [lg_entry_eq]
  generalize (lg_sl ([.ref (B 0)]) ++ List.replicate (1 - (lg_sl ([.ref (B 0)])).length) Slot.unset).toArray = ls at hl ⊢
  exact tX4_fault_0 C0 hP hl hf
abbrev rmX4_many : Room := { frames := 3, cells := 0, slots := 0, locals := 66 }
set_option maxRecDepth 20000 in
theorem iX4_many_X4 : ∀ w ∈ wsX40, w ∈ wsX4_many := by decide +kernel
set_option maxHeartbeats 4000000 in
set_option maxRecDepth 100000 in
theorem tX4_many_0 {p : Program} {l : Launch} {e : Env} {s : State} {m : MethodId} {args : Array Value} {below : List Frame} {meth : Method} {c : Code} {E : EE} {B : Nat → Nat} {u : SX} {out : Int32} (C0 : cx wsX4_many cX4_many 2 (some .int) RX4 E p s m args meth c) (hP : fP E (cX E B u) s.heap) {x1 : Int32} {ls : Array Slot} (hl : lv_has ls 2 [(0, .ref (B 0)), (1, .int x1)]) (hf : fX4_many x1 u = some out) : W p l e rmX4_many s m args below meth c s.heap [] 0 0 (MQ below (vp_Si (fun r => r = out)) args s 0 0 (fun _ => False)) (F0 m 0 ls []) := by
  obtain ⟨hx, hb, hr, hml, hown, hts, hlk, hK⟩ := id C0
  unfold fX4_many at hf
  refine lv_iload_n hx hb dX4_many_0 rfl (lv_at hl 1 rfl) ?_
  by_cases c1 : x1 = (0 : Int32)
  · have hf := th hf c1
    rw [c1]
    refine lv_tableIn (tgt := 36) hx hb dX4_many_1 (by decide) (by decide) (by rfl) (by decide) ?_
    refine lv_aload_n hx hb dX4_many_36 rfl (lv_at hl 0 rfl) ?_
    refine x_get C0 hP iX4_many_X4 1 (by decide) (by decide +kernel) rfl dX4_many_37 ?_
    exact e_roI C0 hf dX4_many_40
  · have hf := el hf c1
    by_cases c2 : x1 = (1 : Int32)
    · have hf := th hf c2
      rw [c2]
      refine lv_tableIn (tgt := 41) hx hb dX4_many_1 (by decide) (by decide) (by rfl) (by decide) ?_
      refine lv_aload_n hx hb dX4_many_41 rfl (lv_at hl 0 rfl) ?_
      refine lv_aload_n hx hb dX4_many_42 rfl (lv_at hl 0 rfl) ?_
      refine x_get C0 hP iX4_many_X4 1 (by decide) (by decide +kernel) rfl dX4_many_43 ?_
      obtain ⟨q3, h4, hf⟩ := bd hf
      refine k_roI (run_V (rest := []) (n := 1) C0 (tX4_slipsAhead (u := u) E B h4) gX4_many_X4_slipsAhead rfl rfl (by decide +kernel) (hP 0 _ rfl) rfl rfl hP hl.1 rfl rfl (Nat.le_of_ble_eq_true rfl) dX4_many_46) ?_
      exact e_roI C0 hf dX4_many_49
    · have hf := el hf c2
      by_cases c5 : x1 = (2 : Int32)
      · have hf := th hf c5
        rw [c5]
        refine lv_tableIn (tgt := 50) hx hb dX4_many_1 (by decide) (by decide) (by rfl) (by decide) ?_
        refine lv_aload_n hx hb dX4_many_50 rfl (lv_at hl 0 rfl) ?_
        refine x_get C0 hP iX4_many_X4 2 (by decide) (by decide +kernel) rfl dX4_many_51 ?_
        exact e_roI C0 hf dX4_many_54
      · have hf := el hf c5
        by_cases c6 : x1 = (3 : Int32)
        · have hf := th hf c6
          rw [c6]
          refine lv_tableIn (tgt := 55) hx hb dX4_many_1 (by decide) (by decide) (by rfl) (by decide) ?_
          refine lv_aload_n hx hb dX4_many_55 rfl (lv_at hl 0 rfl) ?_
          refine x_get C0 hP iX4_many_X4 3 (by decide) (by decide +kernel) rfl dX4_many_56 ?_
          exact e_roI C0 hf dX4_many_59
        · have hf := el hf c6
          by_cases c7 : x1 = (4 : Int32)
          · have hf := th hf c7
            rw [c7]
            refine lv_tableIn (tgt := 60) hx hb dX4_many_1 (by decide) (by decide) (by rfl) (by decide) ?_
            refine lv_aload_n hx hb dX4_many_60 rfl (lv_at hl 0 rfl) ?_
            refine x_get C0 hP iX4_many_X4 5 (by decide) (by decide +kernel) rfl dX4_many_61 ?_
            exact e_roI C0 hf dX4_many_64
          · have hf := el hf c7
            refine lv_tableOut (tgt := 65) hx hb dX4_many_1 (by have q0 := lv_neT (a := 0) c1 (by decide); have q1 := lv_neT (a := 1) c2 (by decide); have q2 := lv_neT (a := 2) c5 (by decide); have q3 := lv_neT (a := 3) c6 (by decide); have q4 := lv_neT (a := 4) c7 (by decide); omega) (by decide) ?_
            refine lv_bipush (v := (-2 : Int32)) hx hb dX4_many_65 (by decide) ?_
            exact e_roI C0 hf dX4_many_67
set_option maxHeartbeats 4000000 in
set_option maxRecDepth 100000 in
theorem tX4_many {l : Launch} (E : EE) (B : Nat → Nat) {u : SX} {x1 : Int32} {out : Int32} (hf : fX4_many x1 u = some out) : roI l yX4_many wsX4_many rmX4_many E [.ref (B 0), .int x1] (fP E (cX E B u)) out := by
  refine Met.ofW (cc := cX4_many) (maxL := 2) (ret := (some .int)) (by decide) rfl ?_
  intro p e s m args below meth c s₁ B0 hml hv
  obtain ⟨rfl, hP, hK⟩ := hv
  have C0 : cx wsX4_many cX4_many 2 (some .int) RX4 E p s m _ meth c := ⟨B0.exec, B0.bytes, B0.returns, hml, findClass_of_methodNamed B0.named, atoms_spec (ws := wsX4_many) B0.pre, B0.notSynchronized, hK⟩
  have hl := lv_entry ([.ref (B 0), .int x1]) (n := 2) (Nat.le_of_ble_eq_true rfl)
  rw [lg_entry_eq]
  generalize (lg_sl ([.ref (B 0), .int x1]) ++ List.replicate (2 - (lg_sl ([.ref (B 0), .int x1])).length) Slot.unset).toArray = ls at hl ⊢
  exact tX4_many_0 C0 hP hl hf
