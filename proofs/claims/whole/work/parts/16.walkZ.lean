abbrev rmX4_lose : Room := { frames := 1, cells := 0, slots := 0, locals := 20 }
set_option maxRecDepth 20000 in
theorem iX4_lose_X4 : ∀ w ∈ wsX40, w ∈ wsX4_lose := by decide +kernel
set_option maxHeartbeats 4000000 in
set_option maxRecDepth 100000 in
theorem tX4_lose_0 {p : Program} {l : Launch} {e : Env} {s : State} {m : MethodId} {args : Array Value} {below : List Frame} {meth : Method} {c : Code} {E : EE} {B : Nat → Nat} {A : Nat → Prop} {out : Int32 × SX} (C0 : cx wsX4_lose cX4_lose 2 (some .int) RX4 E p s m args meth c) {x1 : Int32} {u : SX} {H : Heap} {locs : List Loc} {ls : Array Slot} (hW : WX E A B u s H locs) (hl : lv_has ls 2 [(0, .ref (B 0)), (1, .int x1)]) (hf : fX4_lose x1 u = some out) : W p l e rmX4_lose s m args below meth c H locs 0 0 (MQ below (va_Qi (fun r (_ : Unit) => r = out.1) (fun _ t => QX E A B out.2 t.heap) A) args s 0 0 A) (F0 m 0 ls []) := by
  obtain ⟨hx, hb, hr, hml, hown, hts, hlk, hK⟩ := id C0
  unfold fX4_lose at hf
  refine lv_iload_n hx hb dX4_lose_0 rfl (lv_at hl 1 rfl) ?_
  obtain ⟨q1, h2, hf⟩ := bd hf
  refine k_roI (run_S (rest := []) (n := 1) (PH := fun _ => True) C0 (tX4_isSheet E h2) gX4_lose_X4_isSheet rfl rfl (by decide +kernel) trivial hl.1 rfl rfl (Nat.le_of_ble_eq_true rfl) dX4_lose_1) ?_
  refine lv_if_ne (tgt := 9) hx hb dX4_lose_4 (by decide) (fun c3 => ?_) (fun c3 => ?_)
  · have hf := el hf c3
    refine lv_aload_n hx hb dX4_lose_9 rfl (lv_at hl 0 rfl) ?_
    refine x_get C0 hW.1 iX4_lose_X4 6 (by decide) (by decide +kernel) rfl dX4_lose_10 ?_
    refine lv_iload_n hx hb dX4_lose_13 rfl (lv_at hl 1 rfl) ?_
    obtain ⟨h4, hf⟩ := gd hf
    refine x_aldR C0 hW.1 h4 dX4_lose_14 (fun e6 => ?_) (fun r5 e6 => ?_)
    · have e6 : u.2.2.2.1 x1.toNatClampNeg = none := e6
      rw [e6, Option.elim_none] at hf
      refine lv_ifnonnullN hx hb dX4_lose_15 ?_
      refine lv_iconst (v := (0 : Int32)) hx hb dX4_lose_18 (by decide) ?_
      obtain rfl := Option.some.inj hf
      exact e_muI (QH := QX E A B u) C0 hW.2.2.2 rfl ⟨hW.1, hW.2.1, hW.2.2.1⟩ dX4_lose_19
    · have e6 : u.2.2.2.1 x1.toNatClampNeg = some r5 := e6
      rw [e6, Option.elim_some] at hf
      refine lv_ifnonnull (tgt := 20) hx hb dX4_lose_15 (by decide) ?_
      refine lv_aload_n hx hb dX4_lose_20 rfl (lv_at hl 0 rfl) ?_
      refine x_get C0 hW.1 iX4_lose_X4 6 (by decide) (by decide +kernel) rfl dX4_lose_21 ?_
      refine lv_iload_n hx hb dX4_lose_24 rfl (lv_at hl 1 rfl) ?_
      refine lv_null hx hb dX4_lose_25 ?_
      obtain ⟨h7, hf⟩ := gd hf
      refine x_astN C0 hW h7 dX4_lose_26 (fun H locs hW => ?_)
      have hW : WX E A B (u.1, u.2.1, u.2.2.1, (va_up u.2.2.2.1 x1.toNatClampNeg none), u.2.2.2.2) s H locs := hW
      refine lv_iconst (v := (1 : Int32)) hx hb dX4_lose_27 (by decide) ?_
      obtain rfl := Option.some.inj hf
      exact e_muI (QH := QX E A B (u.1, u.2.1, u.2.2.1, (va_up u.2.2.2.1 x1.toNatClampNeg none), u.2.2.2.2)) C0 hW.2.2.2 rfl ⟨hW.1, hW.2.1, hW.2.2.1⟩ dX4_lose_28
  · have hf := th hf c3
    refine lv_iconst (v := (-1 : Int32)) hx hb dX4_lose_7 (by decide) ?_
    obtain rfl := Option.some.inj hf
    exact e_muI (QH := QX E A B u) C0 hW.2.2.2 rfl ⟨hW.1, hW.2.1, hW.2.2.1⟩ dX4_lose_8
set_option maxHeartbeats 4000000 in
set_option maxRecDepth 100000 in
theorem tX4_lose {l : Launch} (E : EE) (A : Nat → Prop) (B : Nat → Nat) {u : SX} {x1 : Int32} {out : Int32 × SX} (hI : fI (cX E B u)) (hA : AX E B u A) (hf : fX4_lose x1 u = some out) : muI l yX4_lose wsX4_lose rmX4_lose E [.ref (B 0), .int x1] A (fP E (cX E B u)) (QX E A B out.2) out.1 := by
  refine Met.ofW (cc := cX4_lose) (maxL := 2) (ret := (some .int)) (by decide) rfl ?_
  intro p e s m args below meth c s₁ B0 hml hv
  obtain ⟨rfl, hP, hK⟩ := hv
  have C0 : cx wsX4_lose cX4_lose 2 (some .int) RX4 E p s m _ meth c := ⟨B0.exec, B0.bytes, B0.returns, hml, findClass_of_methodNamed B0.named, atoms_spec (ws := wsX4_lose) B0.pre, B0.notSynchronized, hK⟩
  have hl := lv_entry ([.ref (B 0), .int x1]) (n := 2) (Nat.le_of_ble_eq_true rfl)
  rw [lg_entry_eq]
  generalize (lg_sl ([.ref (B 0), .int x1]) ++ List.replicate (2 - (lg_sl ([.ref (B 0), .int x1])).length) Slot.unset).toArray = ls at hl ⊢
  exact tX4_lose_0 C0 ⟨hP, hI, hA, va_S.rf⟩ hl hf
abbrev rmX4_copy : Room := { frames := 1, cells := 0, slots := 0, locals := 80 }
set_option maxRecDepth 20000 in
theorem iX4_copy_X2 : ∀ w ∈ wsX20, w ∈ wsX4_copy := by decide +kernel
set_option maxRecDepth 20000 in
theorem iX4_copy_X4 : ∀ w ∈ wsX40, w ∈ wsX4_copy := by decide +kernel
set_option maxHeartbeats 4000000 in
set_option maxRecDepth 100000 in
theorem tX4_copy_19 {p : Program} {l : Launch} {e : Env} {s : State} {m : MethodId} {args : Array Value} {below : List Frame} {meth : Method} {c : Code} {E : EE} {B : Nat → Nat} {A : Nat → Prop} {out : Int32 × SX} (C0 : cx wsX4_copy cX4_copy 8 (some .int) RX4 E p s m args meth c) {u : SX} {H : Heap} {locs : List Loc} {ls : Array Slot} (hW : WX E A B u s H locs) (hl : lv_has ls 8 []) (hf : fX4_copy_19 u = some out) : W p l e rmX4_copy s m args below meth c H locs 0 0 (MQ below (va_Qi (fun r (_ : Unit) => r = out.1) (fun _ t => QX E A B out.2 t.heap) A) args s 0 0 A) (F0 m 19 ls []) := by
  obtain ⟨hx, hb, hr, hml, hown, hts, hlk, hK⟩ := id C0
  unfold fX4_copy_19 at hf
  refine lv_iconst (v := (-1 : Int32)) hx hb dX4_copy_19 (by decide) ?_
  obtain rfl := Option.some.inj hf
  exact e_muI (QH := QX E A B u) C0 hW.2.2.2 rfl ⟨hW.1, hW.2.1, hW.2.2.1⟩ dX4_copy_20
set_option maxHeartbeats 4000000 in
set_option maxRecDepth 100000 in
theorem tX4_copy_47 {p : Program} {l : Launch} {e : Env} {s : State} {m : MethodId} {args : Array Value} {below : List Frame} {meth : Method} {c : Code} {E : EE} {B : Nat → Nat} {A : Nat → Prop} {out : Int32 × SX} (C0 : cx wsX4_copy cX4_copy 8 (some .int) RX4 E p s m args meth c) {u : SX} {H : Heap} {locs : List Loc} {ls : Array Slot} (hW : WX E A B u s H locs) (hl : lv_has ls 8 [(0, .ref (B 0))]) (hf : fX4_copy_47 u = some out) : W p l e rmX4_copy s m args below meth c H locs 0 0 (MQ below (va_Qi (fun r (_ : Unit) => r = out.1) (fun _ t => QX E A B out.2 t.heap) A) args s 0 0 A) (F0 m 47 ls []) := by
  obtain ⟨hx, hb, hr, hml, hown, hts, hlk, hK⟩ := id C0
  unfold fX4_copy_47 at hf
  refine lv_aload_n hx hb dX4_copy_47 rfl (lv_at hl 0 rfl) ?_
  refine lv_iconst (v := (1 : Int32)) hx hb dX4_copy_48 (by decide) ?_
  obtain ⟨q1, h2, hf⟩ := bd hf
  refine k_muI (run_V (rest := []) (n := 1) C0 (tX4_faulted (u := u) E A B hW.2.1 hW.2.2.1 h2) gX4_copy_X4_faulted rfl rfl (by decide +kernel) (hW.1 0 _ rfl) rfl rfl hW.1 hl.1 rfl rfl (Nat.le_of_ble_eq_true rfl) dX4_copy_49) hW.2.2.2 (fun _ h => h) (fun H locs hQ _ hS => ?_)
  have hW : WX E A B q1.2 s H locs := ⟨hQ.1, hQ.2.1, hQ.2.2, hS⟩
  obtain rfl := Option.some.inj hf
  exact e_muI (QH := QX E A B q1.2) C0 hW.2.2.2 rfl ⟨hW.1, hW.2.1, hW.2.2.1⟩ dX4_copy_52
set_option maxHeartbeats 4000000 in
set_option maxRecDepth 100000 in
theorem tX4_copy_95 {p : Program} {l : Launch} {e : Env} {s : State} {m : MethodId} {args : Array Value} {below : List Frame} {meth : Method} {c : Code} {E : EE} {B : Nat → Nat} {A : Nat → Prop} {out : Int32 × SX} (C0 : cx wsX4_copy cX4_copy 8 (some .int) RX4 E p s m args meth c) {u : SX} {H : Heap} {locs : List Loc} {ls : Array Slot} (hW : WX E A B u s H locs) (hl : lv_has ls 8 [(0, .ref (B 0))]) (hf : fX4_copy_95 u = some out) : W p l e rmX4_copy s m args below meth c H locs 0 0 (MQ below (va_Qi (fun r (_ : Unit) => r = out.1) (fun _ t => QX E A B out.2 t.heap) A) args s 0 0 A) (F0 m 95 ls []) := by
  obtain ⟨hx, hb, hr, hml, hown, hts, hlk, hK⟩ := id C0
  unfold fX4_copy_95 at hf
  refine lv_aload_n hx hb dX4_copy_95 rfl (lv_at hl 0 rfl) ?_
  refine lv_iconst (v := (3 : Int32)) hx hb dX4_copy_96 (by decide) ?_
  obtain ⟨q1, h2, hf⟩ := bd hf
  refine k_muI (run_V (rest := []) (n := 1) C0 (tX4_faulted (u := u) E A B hW.2.1 hW.2.2.1 h2) gX4_copy_X4_faulted rfl rfl (by decide +kernel) (hW.1 0 _ rfl) rfl rfl hW.1 hl.1 rfl rfl (Nat.le_of_ble_eq_true rfl) dX4_copy_97) hW.2.2.2 (fun _ h => h) (fun H locs hQ _ hS => ?_)
  have hW : WX E A B q1.2 s H locs := ⟨hQ.1, hQ.2.1, hQ.2.2, hS⟩
  obtain rfl := Option.some.inj hf
  exact e_muI (QH := QX E A B q1.2) C0 hW.2.2.2 rfl ⟨hW.1, hW.2.1, hW.2.2.1⟩ dX4_copy_100
set_option maxHeartbeats 4000000 in
set_option maxRecDepth 100000 in
theorem tX4_copy_0 {p : Program} {l : Launch} {e : Env} {s : State} {m : MethodId} {args : Array Value} {below : List Frame} {meth : Method} {c : Code} {E : EE} {B : Nat → Nat} {A : Nat → Prop} {out : Int32 × SX} (C0 : cx wsX4_copy cX4_copy 8 (some .int) RX4 E p s m args meth c) {x1 : Int32} {x2 : Int32} {x3 : Int32} {x4 : Int32} {x5 : Int32} {u : SX} {H : Heap} {locs : List Loc} {ls : Array Slot} (hW : WX E A B u s H locs) (hl : lv_has ls 8 [(0, .ref (B 0)), (1, .int x1), (2, .int x2), (3, .int x3), (4, .int x4), (5, .int x5)]) (hf : fX4_copy x1 x2 x3 x4 x5 u = some out) : W p l e rmX4_copy s m args below meth c H locs 0 0 (MQ below (va_Qi (fun r (_ : Unit) => r = out.1) (fun _ t => QX E A B out.2 t.heap) A) args s 0 0 A) (F0 m 0 ls []) := by
  obtain ⟨hx, hb, hr, hml, hown, hts, hlk, hK⟩ := id C0
  unfold fX4_copy at hf
  refine lv_aload_n hx hb dX4_copy_0 rfl (lv_at hl 0 rfl) ?_
  refine lv_iconst (v := (0 : Int32)) hx hb dX4_copy_1 (by decide) ?_
  refine x_put C0 hW iX4_copy_X4 9 (by decide) (by decide +kernel) rfl (by decide +kernel) rfl dX4_copy_2 (fun H locs hW => ?_)
  have hW : WX E A B ((upd u.1 9 (0 : Int32)), u.2.1, u.2.2.1, u.2.2.2.1, u.2.2.2.2) s H locs := hW
  refine lv_iload_n hx hb dX4_copy_5 rfl (lv_at hl 1 rfl) ?_
  obtain ⟨q1, h2, hf⟩ := bd hf
  refine k_roI (run_S (rest := []) (n := 1) (PH := fun _ => True) C0 (tX4_isSheet E h2) gX4_copy_X4_isSheet rfl rfl (by decide +kernel) trivial hl.1 rfl rfl (Nat.le_of_ble_eq_true rfl) dX4_copy_6) ?_
  refine lv_if_eq (tgt := 19) hx hb dX4_copy_9 (by decide) (fun c3 => ?_) (fun c3 => ?_)
  · have hf := th hf c3
    exact tX4_copy_19 C0 hW (lv_sub hl [] rfl) hf
  · have hf := el hf c3
    refine lv_iload_n hx hb dX4_copy_12 rfl (lv_at hl 3 rfl) ?_
    obtain ⟨q4, h5, hf⟩ := bd hf
    refine k_roI (run_S (rest := []) (n := 1) (PH := fun _ => True) C0 (tX4_isSheet E h5) gX4_copy_X4_isSheet rfl rfl (by decide +kernel) trivial hl.1 rfl rfl (Nat.le_of_ble_eq_true rfl) dX4_copy_13) ?_
    refine lv_if_ne (tgt := 21) hx hb dX4_copy_16 (by decide) (fun c6 => ?_) (fun c6 => ?_)
    · have hf := el hf c6
      refine lv_aload_n hx hb dX4_copy_21 rfl (lv_at hl 0 rfl) ?_
      refine x_get C0 hW.1 iX4_copy_X4 6 (by decide) (by decide +kernel) rfl dX4_copy_22 ?_
      refine lv_iload_n hx hb dX4_copy_25 rfl (lv_at hl 1 rfl) ?_
      obtain ⟨h7, hf⟩ := gd hf
      refine x_aldR C0 hW.1 h7 dX4_copy_26 (fun e9 => ?_) (fun r8 e9 => ?_)
      · have e9 : u.2.2.2.1 x1.toNatClampNeg = none := e9
        rw [e9, Option.elim_none] at hf
        refine lv_astoreN (lv' := [(6, .null), (0, .ref (B 0)), (1, .int x1), (2, .int x2), (3, .int x3), (4, .int x4), (5, .int x5)]) hx hb dX4_copy_27 hl (by decide) rfl (fun ls hl => ?_)
        refine lv_aload_n hx hb dX4_copy_29 rfl (lv_at hl 1 rfl) ?_
        refine x_get C0 hW.1 iX4_copy_X4 6 (by decide) (by decide +kernel) rfl dX4_copy_30 ?_
        refine lv_iload_n hx hb dX4_copy_33 rfl (lv_at hl 4 rfl) ?_
        obtain ⟨h10, hf⟩ := gd hf
        refine x_aldR C0 hW.1 h10 dX4_copy_34 (fun e12 => ?_) (fun r11 e12 => ?_)
        · have e12 : u.2.2.2.1 x3.toNatClampNeg = none := e12
          rw [e12, Option.elim_none] at hf
          refine lv_astoreN (lv' := [(7, .null), (6, .null), (0, .ref (B 0)), (1, .int x1), (2, .int x2), (3, .int x3), (4, .int x4), (5, .int x5)]) hx hb dX4_copy_35 hl (by decide) rfl (fun ls hl => ?_)
          refine lv_aloadN hx hb dX4_copy_37 (lv_at hl 1 rfl) ?_
          refine lv_ifnullN (tgt := 47) hx hb dX4_copy_39 (by decide) ?_
          exact tX4_copy_47 C0 hW (lv_sub hl [2] rfl) hf
        · have e12 : u.2.2.2.1 x3.toNatClampNeg = some r11 := e12
          rw [e12, Option.elim_some] at hf
          refine lv_astore (lv' := [(7, .ref (B (14 + x3.toNatClampNeg))), (6, .null), (0, .ref (B 0)), (1, .int x1), (2, .int x2), (3, .int x3), (4, .int x4), (5, .int x5)]) hx hb dX4_copy_35 hl (by decide) rfl (fun ls hl => ?_)
          refine lv_aloadN hx hb dX4_copy_37 (lv_at hl 1 rfl) ?_
          refine lv_ifnullN (tgt := 47) hx hb dX4_copy_39 (by decide) ?_
          exact tX4_copy_47 C0 hW (lv_sub hl [2] rfl) hf
      · have e9 : u.2.2.2.1 x1.toNatClampNeg = some r8 := e9
        rw [e9, Option.elim_some] at hf
        refine lv_astore (lv' := [(6, .ref (B (14 + x1.toNatClampNeg))), (0, .ref (B 0)), (1, .int x1), (2, .int x2), (3, .int x3), (4, .int x4), (5, .int x5)]) hx hb dX4_copy_27 hl (by decide) rfl (fun ls hl => ?_)
        refine lv_aload_n hx hb dX4_copy_29 rfl (lv_at hl 1 rfl) ?_
        refine x_get C0 hW.1 iX4_copy_X4 6 (by decide) (by decide +kernel) rfl dX4_copy_30 ?_
        refine lv_iload_n hx hb dX4_copy_33 rfl (lv_at hl 4 rfl) ?_
        obtain ⟨h13, hf⟩ := gd hf
        refine x_aldR C0 hW.1 h13 dX4_copy_34 (fun e15 => ?_) (fun r14 e15 => ?_)
        · have e15 : u.2.2.2.1 x3.toNatClampNeg = none := e15
          rw [e15, Option.elim_none] at hf
          refine lv_astoreN (lv' := [(7, .null), (6, .ref (B (14 + x1.toNatClampNeg))), (0, .ref (B 0)), (1, .int x1), (2, .int x2), (3, .int x3), (4, .int x4), (5, .int x5)]) hx hb dX4_copy_35 hl (by decide) rfl (fun ls hl => ?_)
          refine lv_aload hx hb dX4_copy_37 (lv_at hl 1 rfl) ?_
          refine lv_ifnull hx hb dX4_copy_39 ?_
          refine lv_aloadN hx hb dX4_copy_42 (lv_at hl 0 rfl) ?_
          refine lv_ifnonnullN hx hb dX4_copy_44 ?_
          exact tX4_copy_47 C0 hW (lv_sub hl [2] rfl) hf
        · have e15 : u.2.2.2.1 x3.toNatClampNeg = some r14 := e15
          rw [e15, Option.elim_some] at hf
          refine lv_astore (lv' := [(7, .ref (B (14 + x3.toNatClampNeg))), (6, .ref (B (14 + x1.toNatClampNeg))), (0, .ref (B 0)), (1, .int x1), (2, .int x2), (3, .int x3), (4, .int x4), (5, .int x5)]) hx hb dX4_copy_35 hl (by decide) rfl (fun ls hl => ?_)
          refine lv_aload hx hb dX4_copy_37 (lv_at hl 1 rfl) ?_
          refine lv_ifnull hx hb dX4_copy_39 ?_
          refine lv_aload hx hb dX4_copy_42 (lv_at hl 0 rfl) ?_
          refine lv_ifnonnull (tgt := 53) hx hb dX4_copy_44 (by decide) ?_
          refine lv_aload hx hb dX4_copy_53 (lv_at hl 1 rfl) ?_
          refine w_getN C0 (hW.1.row (lt_in h7) e9) iX4_copy_X2 0 (by decide) (by decide +kernel) rfl dX4_copy_55 ?_
          refine lv_aload hx hb dX4_copy_58 (lv_at hl 0 rfl) ?_
          refine w_getN C0 (hW.1.row (lt_in h13) e15) iX4_copy_X2 0 (by decide) (by decide +kernel) rfl dX4_copy_60 ?_
          refine lv_icmp_eq (tgt := 72) hx hb dX4_copy_63 (by decide) (fun c16 => ?_) (fun c16 => ?_)
          · have hf := th hf c16
            refine lv_aload hx hb dX4_copy_72 (lv_at hl 1 rfl) ?_
            refine lv_iload_n hx hb dX4_copy_74 rfl (lv_at hl 4 rfl) ?_
            refine lv_iload hx hb dX4_copy_75 (lv_at hl 7 rfl) ?_
            obtain ⟨q17, h18, hf⟩ := bd hf
            refine k_roI (run_VN (rest := []) (n := 2) C0 (tX2_holds E (B (14 + x1.toNatClampNeg)) (B (18 + x1.toNatClampNeg)) h18) gX4_copy_X2_holds_n167 rfl (by decide +kernel) (by decide +kernel) (by decide +kernel) (by decide +kernel) rfl (by decide +kernel) (hW.1.row (lt_in h7) e9 0 _ rfl) rfl rfl (hW.1.row (lt_in h7) e9) hl.1 rfl rfl (Nat.le_of_ble_eq_true rfl) dX4_copy_77) ?_
            refine lv_if_eq (tgt := 95) hx hb dX4_copy_80 (by decide) (fun c19 => ?_) (fun c19 => ?_)
            · have hf := th hf c19
              exact tX4_copy_95 C0 hW (lv_sub hl [2] rfl) hf
            · have hf := el hf c19
              refine lv_aload hx hb dX4_copy_83 (lv_at hl 0 rfl) ?_
              refine lv_iload hx hb dX4_copy_85 (lv_at hl 6 rfl) ?_
              refine lv_iload hx hb dX4_copy_87 (lv_at hl 7 rfl) ?_
              obtain ⟨q20, h21, hf⟩ := bd hf
              refine k_roI (run_VN (rest := []) (n := 2) C0 (tX2_holds E (B (14 + x3.toNatClampNeg)) (B (18 + x3.toNatClampNeg)) h21) gX4_copy_X2_holds_n167 rfl (by decide +kernel) (by decide +kernel) (by decide +kernel) (by decide +kernel) rfl (by decide +kernel) (hW.1.row (lt_in h13) e15 0 _ rfl) rfl rfl (hW.1.row (lt_in h13) e15) hl.1 rfl rfl (Nat.le_of_ble_eq_true rfl) dX4_copy_89) ?_
              refine lv_if_ne (tgt := 101) hx hb dX4_copy_92 (by decide) (fun c22 => ?_) (fun c22 => ?_)
              · have hf := el hf c22
                refine lv_aload hx hb dX4_copy_101 (lv_at hl 1 rfl) ?_
                refine w_getN C0 (hW.1.row (lt_in h7) e9) iX4_copy_X2 1 (by decide) (by decide +kernel) rfl dX4_copy_103 ?_
                refine lv_iload_n hx hb dX4_copy_106 rfl (lv_at hl 4 rfl) ?_
                refine lv_aload hx hb dX4_copy_107 (lv_at hl 0 rfl) ?_
                refine w_getN C0 (hW.1.row (lt_in h13) e15) iX4_copy_X2 1 (by decide) (by decide +kernel) rfl dX4_copy_109 ?_
                refine lv_iload hx hb dX4_copy_112 (lv_at hl 6 rfl) ?_
                refine lv_iload hx hb dX4_copy_114 (lv_at hl 7 rfl) ?_
                obtain ⟨h23, hf⟩ := gd hf
                refine x_copy C0 hW hl.1 (lt_in h7) e9 (lt_in h13) e15 (by decide +kernel) (by decide +kernel) (by decide +kernel) (by decide +kernel) h23 (Nat.le_of_ble_eq_true rfl) (Nat.le_of_ble_eq_true rfl) dX4_copy_116 (fun H locs hW => ?_)
                have hW : WX E A B ((upd u.1 9 (0 : Int32)), u.2.1, u.2.2.1, (va_up u.2.2.2.1 x3.toNatClampNeg (some (r14.1, r14.2.1, va_cpy r8.2.2 r14.2.2 x2.toNatClampNeg x4.toNatClampNeg x5.toNatClampNeg))), u.2.2.2.2) s H locs := hW
                refine lv_iload hx hb dX4_copy_119 (lv_at hl 7 rfl) ?_
                obtain rfl := Option.some.inj hf
                exact e_muI (QH := QX E A B ((upd u.1 9 (0 : Int32)), u.2.1, u.2.2.1, (va_up u.2.2.2.1 x3.toNatClampNeg (some (r14.1, r14.2.1, va_cpy r8.2.2 r14.2.2 x2.toNatClampNeg x4.toNatClampNeg x5.toNatClampNeg))), u.2.2.2.2)) C0 hW.2.2.2 rfl ⟨hW.1, hW.2.1, hW.2.2.1⟩ dX4_copy_121
              · have hf := th hf c22
                exact tX4_copy_95 C0 hW (lv_sub hl [2] rfl) hf
          · have hf := el hf c16
            refine lv_aload_n hx hb dX4_copy_66 rfl (lv_at hl 2 rfl) ?_
            refine lv_iconst (v := (2 : Int32)) hx hb dX4_copy_67 (by decide) ?_
            obtain ⟨q24, h25, hf⟩ := bd hf
            refine k_muI (run_V (rest := []) (n := 1) C0 (tX4_faulted (u := ((upd u.1 9 (0 : Int32)), u.2.1, u.2.2.1, u.2.2.2.1, u.2.2.2.2)) E A B hW.2.1 hW.2.2.1 h25) gX4_copy_X4_faulted rfl rfl (by decide +kernel) (hW.1 0 _ rfl) rfl rfl hW.1 hl.1 rfl rfl (Nat.le_of_ble_eq_true rfl) dX4_copy_68) hW.2.2.2 (fun _ h => h) (fun H locs hQ _ hS => ?_)
            have hW : WX E A B q24.2 s H locs := ⟨hQ.1, hQ.2.1, hQ.2.2, hS⟩
            obtain rfl := Option.some.inj hf
            exact e_muI (QH := QX E A B q24.2) C0 hW.2.2.2 rfl ⟨hW.1, hW.2.1, hW.2.2.1⟩ dX4_copy_71
    · have hf := th hf c6
      exact tX4_copy_19 C0 hW (lv_sub hl [] rfl) hf
set_option maxHeartbeats 4000000 in
set_option maxRecDepth 100000 in
theorem tX4_copy {l : Launch} (E : EE) (A : Nat → Prop) (B : Nat → Nat) {u : SX} {x1 : Int32} {x2 : Int32} {x3 : Int32} {x4 : Int32} {x5 : Int32} {out : Int32 × SX} (hI : fI (cX E B u)) (hA : AX E B u A) (hf : fX4_copy x1 x2 x3 x4 x5 u = some out) : muI l yX4_copy wsX4_copy rmX4_copy E [.ref (B 0), .int x1, .int x2, .int x3, .int x4, .int x5] A (fP E (cX E B u)) (QX E A B out.2) out.1 := by
  refine Met.ofW (cc := cX4_copy) (maxL := 8) (ret := (some .int)) (by decide) rfl ?_
  intro p e s m args below meth c s₁ B0 hml hv
  obtain ⟨rfl, hP, hK⟩ := hv
  have C0 : cx wsX4_copy cX4_copy 8 (some .int) RX4 E p s m _ meth c := ⟨B0.exec, B0.bytes, B0.returns, hml, findClass_of_methodNamed B0.named, atoms_spec (ws := wsX4_copy) B0.pre, B0.notSynchronized, hK⟩
  have hl := lv_entry ([.ref (B 0), .int x1, .int x2, .int x3, .int x4, .int x5]) (n := 8) (Nat.le_of_ble_eq_true rfl)
  rw [lg_entry_eq]
  generalize (lg_sl ([.ref (B 0), .int x1, .int x2, .int x3, .int x4, .int x5]) ++ List.replicate (8 - (lg_sl ([.ref (B 0), .int x1, .int x2, .int x3, .int x4, .int x5])).length) Slot.unset).toArray = ls at hl ⊢
  exact tX4_copy_0 C0 ⟨hP, hI, hA, va_S.rf⟩ hl hf
