abbrev rmX4_copy : Room := { frames := 3, cells := 0, slots := 0, locals := 80 }
set_option maxRecDepth 20000 in
theorem iX4_copy_X2 : ∀ w ∈ wsX20, w ∈ wsX4_copy := by decide +kernel
set_option maxRecDepth 20000 in
theorem iX4_copy_X4 : ∀ w ∈ wsX40, w ∈ wsX4_copy := by decide +kernel
set_option maxHeartbeats 4000000 in
set_option maxRecDepth 100000 in
theorem tX4_copy_19 {p : Program} {l : Launch} {e : Env} {s : State} {m : MethodId} {args : Array Value} {below : List Frame} {meth : Method} {c : Code} {E : EE} {B : Nat → Nat} {A : Nat → Prop} {out : Int32 × SX} (C0 : cx wsX4_copy cX4_copy 8 (some .int) RX4 E p s m args meth c) {u : SX} {H : Heap} {locs : List Loc} {ls : Array Slot} (hW : WX E A B u s H locs) (hl : lv_has ls 8 []) (hf : fX4_copy_19 u = some out) : W p l e rmX4_copy s m args below meth c H locs 0 0 (MQ below (va_Qi (fun r (_ : Unit) => r = out.1) (fun _ t => QX E A B out.2 t.heap) A) args s 0 0 A) (F0 m 19 ls []) := by
  obtain ⟨hx, hb, hr, hml, hown, hts, hlk, hK⟩ := id C0
  unfold fX4_copy_19 at hf
  refine lv_iconst (v := (-1 : Int32)) hx hb dX4_copy_19 (by decide) ?_
  obtain rfl := Option.some.inj hf
  exact e_muI (QH := QX E A B u) C0 hW.2.2.2 rfl ⟨hW.1, hW.2.1, hW.2.2.1⟩ dX4_copy_20
set_option maxHeartbeats 4000000 in
set_option maxRecDepth 100000 in
theorem tX4_copy_45 {p : Program} {l : Launch} {e : Env} {s : State} {m : MethodId} {args : Array Value} {below : List Frame} {meth : Method} {c : Code} {E : EE} {B : Nat → Nat} {A : Nat → Prop} {out : Int32 × SX} (C0 : cx wsX4_copy cX4_copy 8 (some .int) RX4 E p s m args meth c) {u : SX} {H : Heap} {locs : List Loc} {ls : Array Slot} (hW : WX E A B u s H locs) (hl : lv_has ls 8 [(0, .ref (B 0))]) (hf : fX4_copy_45 u = some out) : W p l e rmX4_copy s m args below meth c H locs 0 0 (MQ below (va_Qi (fun r (_ : Unit) => r = out.1) (fun _ t => QX E A B out.2 t.heap) A) args s 0 0 A) (F0 m 45 ls []) := by
  obtain ⟨hx, hb, hr, hml, hown, hts, hlk, hK⟩ := id C0
  unfold fX4_copy_45 at hf
  refine lv_aload_n hx hb dX4_copy_45 rfl (lv_at hl 0 rfl) ?_
  refine lv_iconst (v := (1 : Int32)) hx hb dX4_copy_46 (by decide) ?_
  obtain ⟨q1, h2, hf⟩ := bd hf
  refine k_muI (run_V (rest := []) (n := 1) C0 (tX4_faulted (u := u) E A B hW.2.1 hW.2.2.1 h2) gX4_copy_X4_faulted rfl rfl (by decide +kernel) (hW.1 0 _ rfl) rfl rfl hW.1 hl.1 rfl rfl (Nat.le_of_ble_eq_true rfl) dX4_copy_47) hW.2.2.2 (fun _ h => h) (fun H locs hQ _ hS => ?_)
  have hW : WX E A B q1.2 s H locs := ⟨hQ.1, hQ.2.1, hQ.2.2, hS⟩
  obtain rfl := Option.some.inj hf
  exact e_muI (QH := QX E A B q1.2) C0 hW.2.2.2 rfl ⟨hW.1, hW.2.1, hW.2.2.1⟩ dX4_copy_50
set_option maxHeartbeats 4000000 in
set_option maxRecDepth 100000 in
theorem tX4_copy_93 {p : Program} {l : Launch} {e : Env} {s : State} {m : MethodId} {args : Array Value} {below : List Frame} {meth : Method} {c : Code} {E : EE} {B : Nat → Nat} {A : Nat → Prop} {out : Int32 × SX} (C0 : cx wsX4_copy cX4_copy 8 (some .int) RX4 E p s m args meth c) {u : SX} {H : Heap} {locs : List Loc} {ls : Array Slot} (hW : WX E A B u s H locs) (hl : lv_has ls 8 [(0, .ref (B 0))]) (hf : fX4_copy_93 u = some out) : W p l e rmX4_copy s m args below meth c H locs 0 0 (MQ below (va_Qi (fun r (_ : Unit) => r = out.1) (fun _ t => QX E A B out.2 t.heap) A) args s 0 0 A) (F0 m 93 ls []) := by
  obtain ⟨hx, hb, hr, hml, hown, hts, hlk, hK⟩ := id C0
  unfold fX4_copy_93 at hf
  refine lv_aload_n hx hb dX4_copy_93 rfl (lv_at hl 0 rfl) ?_
  refine lv_iconst (v := (3 : Int32)) hx hb dX4_copy_94 (by decide) ?_
  obtain ⟨q1, h2, hf⟩ := bd hf
  refine k_muI (run_V (rest := []) (n := 1) C0 (tX4_faulted (u := u) E A B hW.2.1 hW.2.2.1 h2) gX4_copy_X4_faulted rfl rfl (by decide +kernel) (hW.1 0 _ rfl) rfl rfl hW.1 hl.1 rfl rfl (Nat.le_of_ble_eq_true rfl) dX4_copy_95) hW.2.2.2 (fun _ h => h) (fun H locs hQ _ hS => ?_)
  have hW : WX E A B q1.2 s H locs := ⟨hQ.1, hQ.2.1, hQ.2.2, hS⟩
  obtain rfl := Option.some.inj hf
  exact e_muI (QH := QX E A B q1.2) C0 hW.2.2.2 rfl ⟨hW.1, hW.2.1, hW.2.2.1⟩ dX4_copy_98
set_option maxHeartbeats 4000000 in
set_option maxRecDepth 100000 in
theorem tX4_copy_0 {p : Program} {l : Launch} {e : Env} {s : State} {m : MethodId} {args : Array Value} {below : List Frame} {meth : Method} {c : Code} {E : EE} {B : Nat → Nat} {A : Nat → Prop} {out : Int32 × SX} (C0 : cx wsX4_copy cX4_copy 8 (some .int) RX4 E p s m args meth c) {x1 : Int32} {x2 : Int32} {x3 : Int32} {x4 : Int32} {x5 : Int32} {u : SX} {H : Heap} {locs : List Loc} {ls : Array Slot} (hW : WX E A B u s H locs) (hl : lv_has ls 8 [(0, .ref (B 0)), (1, .int x1), (2, .int x2), (3, .int x3), (4, .int x4), (5, .int x5)]) (hf : fX4_copy x1 x2 x3 x4 x5 u = some out) : W p l e rmX4_copy s m args below meth c H locs 0 0 (MQ below (va_Qi (fun r (_ : Unit) => r = out.1) (fun _ t => QX E A B out.2 t.heap) A) args s 0 0 A) (F0 m 0 ls []) := by
  obtain ⟨hx, hb, hr, hml, hown, hts, hlk, hK⟩ := id C0
  unfold fX4_copy at hf
  refine lv_aload_n hx hb dX4_copy_0 rfl (lv_at hl 0 rfl) ?_
  refine lv_iconst (v := (0 : Int32)) hx hb dX4_copy_1 (by decide) ?_
  refine x_put C0 hW iX4_copy_X4 9 (by decide) (by decide +kernel) rfl (by decide +kernel) rfl dX4_copy_2 (fun H locs hW => ?_)
  have hW : WX E A B ((upd u.1 9 (0 : Int32)), u.2.1, u.2.2.1, u.2.2.2.1, u.2.2.2.2) s H locs := hW
  refine lv_iload_n hx hb dX4_copy_5 rfl (lv_at hl 1 rfl) ?_
  obtain ⟨q1, h2, hf⟩ := bd hf
  refine k_roI (run_S (rest := []) (n := 1) (PH := fun _ => True) C0 (tX4_isSheet E h2) gX4_copy_X4_isSheet rfl rfl (by decide +kernel) trivial hl.1 rfl rfl (Nat.le_of_ble_eq_true rfl) dX4_copy_6) ?_
  refine lv_if_eq (tgt := 19) hx hb dX4_copy_9 (by decide) (fun c3 => ?_) (fun c3 => ?_)
  · have hf := th hf c3
    exact tX4_copy_19 C0 hW (lv_sub hl [] rfl) hf
  · have hf := el hf c3
    refine lv_iload_n hx hb dX4_copy_12 rfl (lv_at hl 3 rfl) ?_
    obtain ⟨q4, h5, hf⟩ := bd hf
    refine k_roI (run_S (rest := []) (n := 1) (PH := fun _ => True) C0 (tX4_isSheet E h5) gX4_copy_X4_isSheet rfl rfl (by decide +kernel) trivial hl.1 rfl rfl (Nat.le_of_ble_eq_true rfl) dX4_copy_13) ?_
    refine lv_if_ne (tgt := 21) hx hb dX4_copy_16 (by decide) (fun c6 => ?_) (fun c6 => ?_)
    · have hf := el hf c6
      refine lv_aload_n hx hb dX4_copy_21 rfl (lv_at hl 0 rfl) ?_
      refine lv_iload_n hx hb dX4_copy_22 rfl (lv_at hl 1 rfl) ?_
      obtain ⟨q7, h8, hf⟩ := bd hf
      refine k_roQ (run_V (rest := []) (n := 1) C0 (tX4_rowOf (u := ((upd u.1 9 (0 : Int32)), u.2.1, u.2.2.1, u.2.2.2.1, u.2.2.2.2)) E B h8) gX4_copy_X4_rowOf rfl rfl (by decide +kernel) (hW.1 0 _ rfl) rfl rfl hW.1 hl.1 rfl rfl (Nat.le_of_ble_eq_true rfl) dX4_copy_23) ?_
      cases q7 with
      | none =>
        rw [Option.elim_none] at hf
        refine W.eq (g2 := F0 m 26 ls [.null]) rfl ?_
        refine lv_astoreN (lv' := [(6, .null), (0, .ref (B 0)), (1, .int x1), (2, .int x2), (3, .int x3), (4, .int x4), (5, .int x5)]) hx hb dX4_copy_26 hl (by decide) rfl (fun ls hl => ?_)
        refine lv_aload_n hx hb dX4_copy_28 rfl (lv_at hl 1 rfl) ?_
        refine lv_iload_n hx hb dX4_copy_29 rfl (lv_at hl 4 rfl) ?_
        obtain ⟨q11, h12, hf⟩ := bd hf
        refine k_roQ (run_V (rest := []) (n := 1) C0 (tX4_rowOf (u := ((upd u.1 9 (0 : Int32)), u.2.1, u.2.2.1, u.2.2.2.1, u.2.2.2.2)) E B h12) gX4_copy_X4_rowOf rfl rfl (by decide +kernel) (hW.1 0 _ rfl) rfl rfl hW.1 hl.1 rfl rfl (Nat.le_of_ble_eq_true rfl) dX4_copy_30) ?_
        cases q11 with
        | none =>
          rw [Option.elim_none] at hf
          refine W.eq (g2 := F0 m 33 ls [.null]) rfl ?_
          refine lv_astoreN (lv' := [(7, .null), (6, .null), (0, .ref (B 0)), (1, .int x1), (2, .int x2), (3, .int x3), (4, .int x4), (5, .int x5)]) hx hb dX4_copy_33 hl (by decide) rfl (fun ls hl => ?_)
          refine lv_aloadN hx hb dX4_copy_35 (lv_at hl 1 rfl) ?_
          refine lv_ifnullN (tgt := 45) hx hb dX4_copy_37 (by decide) ?_
          exact tX4_copy_45 C0 hW (lv_sub hl [2] rfl) hf
        | some k13 =>
          rw [Option.elim_some] at hf
          obtain ⟨h14, hf⟩ := gd hf
          refine W.eq (g2 := F0 m 33 ls [.ref (B (14 + k13))]) rfl ?_
          refine lv_astore (lv' := [(7, .ref (B (14 + k13))), (6, .null), (0, .ref (B 0)), (1, .int x1), (2, .int x2), (3, .int x3), (4, .int x4), (5, .int x5)]) hx hb dX4_copy_33 hl (by decide) rfl (fun ls hl => ?_)
          refine lv_aloadN hx hb dX4_copy_35 (lv_at hl 1 rfl) ?_
          refine lv_ifnullN (tgt := 45) hx hb dX4_copy_37 (by decide) ?_
          exact tX4_copy_45 C0 hW (lv_sub hl [2] rfl) hf
      | some k9 =>
        rw [Option.elim_some] at hf
        obtain ⟨h10, hf⟩ := gd hf
        refine W.eq (g2 := F0 m 26 ls [.ref (B (14 + k9))]) rfl ?_
        refine lv_astore (lv' := [(6, .ref (B (14 + k9))), (0, .ref (B 0)), (1, .int x1), (2, .int x2), (3, .int x3), (4, .int x4), (5, .int x5)]) hx hb dX4_copy_26 hl (by decide) rfl (fun ls hl => ?_)
        refine lv_aload_n hx hb dX4_copy_28 rfl (lv_at hl 1 rfl) ?_
        refine lv_iload_n hx hb dX4_copy_29 rfl (lv_at hl 4 rfl) ?_
        obtain ⟨q15, h16, hf⟩ := bd hf
        refine k_roQ (run_V (rest := []) (n := 1) C0 (tX4_rowOf (u := ((upd u.1 9 (0 : Int32)), u.2.1, u.2.2.1, u.2.2.2.1, u.2.2.2.2)) E B h16) gX4_copy_X4_rowOf rfl rfl (by decide +kernel) (hW.1 0 _ rfl) rfl rfl hW.1 hl.1 rfl rfl (Nat.le_of_ble_eq_true rfl) dX4_copy_30) ?_
        cases q15 with
        | none =>
          rw [Option.elim_none] at hf
          refine W.eq (g2 := F0 m 33 ls [.null]) rfl ?_
          refine lv_astoreN (lv' := [(7, .null), (6, .ref (B (14 + k9))), (0, .ref (B 0)), (1, .int x1), (2, .int x2), (3, .int x3), (4, .int x4), (5, .int x5)]) hx hb dX4_copy_33 hl (by decide) rfl (fun ls hl => ?_)
          refine lv_aload hx hb dX4_copy_35 (lv_at hl 1 rfl) ?_
          refine lv_ifnull hx hb dX4_copy_37 ?_
          refine lv_aloadN hx hb dX4_copy_40 (lv_at hl 0 rfl) ?_
          refine lv_ifnonnullN hx hb dX4_copy_42 ?_
          exact tX4_copy_45 C0 hW (lv_sub hl [2] rfl) hf
        | some k17 =>
          rw [Option.elim_some] at hf
          obtain ⟨h18, hf⟩ := gd hf
          refine W.eq (g2 := F0 m 33 ls [.ref (B (14 + k17))]) rfl ?_
          refine lv_astore (lv' := [(7, .ref (B (14 + k17))), (6, .ref (B (14 + k9))), (0, .ref (B 0)), (1, .int x1), (2, .int x2), (3, .int x3), (4, .int x4), (5, .int x5)]) hx hb dX4_copy_33 hl (by decide) rfl (fun ls hl => ?_)
          refine lv_aload hx hb dX4_copy_35 (lv_at hl 1 rfl) ?_
          refine lv_ifnull hx hb dX4_copy_37 ?_
          refine lv_aload hx hb dX4_copy_40 (lv_at hl 0 rfl) ?_
          refine lv_ifnonnull (tgt := 51) hx hb dX4_copy_42 (by decide) ?_
          refine lv_aload hx hb dX4_copy_51 (lv_at hl 1 rfl) ?_
          refine w_getN C0 (hW.1.row (Decidable.of_not_not h10)) iX4_copy_X2 2 (by decide) (by decide +kernel) rfl dX4_copy_53 ?_
          refine lv_aload hx hb dX4_copy_56 (lv_at hl 0 rfl) ?_
          refine w_getN C0 (hW.1.row (Decidable.of_not_not h18)) iX4_copy_X2 2 (by decide) (by decide +kernel) rfl dX4_copy_58 ?_
          refine lv_icmp_eq (tgt := 70) hx hb dX4_copy_61 (by decide) (fun c19 => ?_) (fun c19 => ?_)
          · have hf := th hf c19
            refine lv_aload hx hb dX4_copy_70 (lv_at hl 1 rfl) ?_
            refine lv_iload_n hx hb dX4_copy_72 rfl (lv_at hl 4 rfl) ?_
            refine lv_iload hx hb dX4_copy_73 (lv_at hl 7 rfl) ?_
            obtain ⟨q20, h21, hf⟩ := bd hf
            refine k_roI (run_VN (rest := []) (n := 2) C0 (tX2_holds E (B (14 + k9)) (B (18 + k9)) h21) gX4_copy_X2_holds_n179 rfl (by decide +kernel) (by decide +kernel) (by decide +kernel) (by decide +kernel) rfl (by decide +kernel) (hW.1.row (Decidable.of_not_not h10) 0 _ rfl) rfl rfl (hW.1.row (Decidable.of_not_not h10)) hl.1 rfl rfl (Nat.le_of_ble_eq_true rfl) dX4_copy_75) ?_
            refine lv_if_eq (tgt := 93) hx hb dX4_copy_78 (by decide) (fun c22 => ?_) (fun c22 => ?_)
            · have hf := th hf c22
              exact tX4_copy_93 C0 hW (lv_sub hl [2] rfl) hf
            · have hf := el hf c22
              refine lv_aload hx hb dX4_copy_81 (lv_at hl 0 rfl) ?_
              refine lv_iload hx hb dX4_copy_83 (lv_at hl 6 rfl) ?_
              refine lv_iload hx hb dX4_copy_85 (lv_at hl 7 rfl) ?_
              obtain ⟨q23, h24, hf⟩ := bd hf
              refine k_roI (run_VN (rest := []) (n := 2) C0 (tX2_holds E (B (14 + k17)) (B (18 + k17)) h24) gX4_copy_X2_holds_n179 rfl (by decide +kernel) (by decide +kernel) (by decide +kernel) (by decide +kernel) rfl (by decide +kernel) (hW.1.row (Decidable.of_not_not h18) 0 _ rfl) rfl rfl (hW.1.row (Decidable.of_not_not h18)) hl.1 rfl rfl (Nat.le_of_ble_eq_true rfl) dX4_copy_87) ?_
              refine lv_if_ne (tgt := 99) hx hb dX4_copy_90 (by decide) (fun c25 => ?_) (fun c25 => ?_)
              · have hf := el hf c25
                refine lv_aload hx hb dX4_copy_99 (lv_at hl 1 rfl) ?_
                refine w_getN C0 (hW.1.row (Decidable.of_not_not h10)) iX4_copy_X2 0 (by decide) (by decide +kernel) rfl dX4_copy_101 ?_
                refine lv_iload_n hx hb dX4_copy_104 rfl (lv_at hl 4 rfl) ?_
                refine lv_aload hx hb dX4_copy_105 (lv_at hl 0 rfl) ?_
                refine w_getN C0 (hW.1.row (Decidable.of_not_not h18)) iX4_copy_X2 0 (by decide) (by decide +kernel) rfl dX4_copy_107 ?_
                refine lv_iload hx hb dX4_copy_110 (lv_at hl 6 rfl) ?_
                refine lv_iload hx hb dX4_copy_112 (lv_at hl 7 rfl) ?_
                obtain ⟨h26, hf⟩ := gd hf
                refine x_copy C0 hW hl.1 (Decidable.of_not_not h10) (Decidable.of_not_not h18) (by decide +kernel) (by decide +kernel) (by decide +kernel) (by decide +kernel) h26 (Nat.le_of_ble_eq_true rfl) (Nat.le_of_ble_eq_true rfl) dX4_copy_114 (fun H locs hW => ?_)
                have hW : WX E A B ((upd u.1 9 (0 : Int32)), u.2.1, u.2.2.1, (va_up u.2.2.2.1 k17 ((u.2.2.2.1 k17).1, va_cpy (u.2.2.2.1 k9).2 (u.2.2.2.1 k17).2 x2.toNatClampNeg x4.toNatClampNeg x5.toNatClampNeg)), u.2.2.2.2) s H locs := hW
                refine lv_iload hx hb dX4_copy_117 (lv_at hl 7 rfl) ?_
                obtain rfl := Option.some.inj hf
                exact e_muI (QH := QX E A B ((upd u.1 9 (0 : Int32)), u.2.1, u.2.2.1, (va_up u.2.2.2.1 k17 ((u.2.2.2.1 k17).1, va_cpy (u.2.2.2.1 k9).2 (u.2.2.2.1 k17).2 x2.toNatClampNeg x4.toNatClampNeg x5.toNatClampNeg)), u.2.2.2.2)) C0 hW.2.2.2 rfl ⟨hW.1, hW.2.1, hW.2.2.1⟩ dX4_copy_119
              · have hf := th hf c25
                exact tX4_copy_93 C0 hW (lv_sub hl [2] rfl) hf
          · have hf := el hf c19
            refine lv_aload_n hx hb dX4_copy_64 rfl (lv_at hl 2 rfl) ?_
            refine lv_iconst (v := (2 : Int32)) hx hb dX4_copy_65 (by decide) ?_
            obtain ⟨q27, h28, hf⟩ := bd hf
            refine k_muI (run_V (rest := []) (n := 1) C0 (tX4_faulted (u := ((upd u.1 9 (0 : Int32)), u.2.1, u.2.2.1, u.2.2.2.1, u.2.2.2.2)) E A B hW.2.1 hW.2.2.1 h28) gX4_copy_X4_faulted rfl rfl (by decide +kernel) (hW.1 0 _ rfl) rfl rfl hW.1 hl.1 rfl rfl (Nat.le_of_ble_eq_true rfl) dX4_copy_66) hW.2.2.2 (fun _ h => h) (fun H locs hQ _ hS => ?_)
            have hW : WX E A B q27.2 s H locs := ⟨hQ.1, hQ.2.1, hQ.2.2, hS⟩
            obtain rfl := Option.some.inj hf
            exact e_muI (QH := QX E A B q27.2) C0 hW.2.2.2 rfl ⟨hW.1, hW.2.1, hW.2.2.1⟩ dX4_copy_69
    · have hf := th hf c6
      exact tX4_copy_19 C0 hW (lv_sub hl [] rfl) hf
set_option maxHeartbeats 4000000 in
set_option maxRecDepth 100000 in
theorem tX4_copy {l : Launch} (E : EE) (A : Nat → Prop) (B : Nat → Nat) {u : SX} {x1 : Int32} {x2 : Int32} {x3 : Int32} {x4 : Int32} {x5 : Int32} {out : Int32 × SX} (hI : fI (cX E B u)) (hA : AX E B u A) (hf : fX4_copy x1 x2 x3 x4 x5 u = some out) : muI l yX4_copy wsX4_copy rmX4_copy E [.ref (B 0), .int x1, .int x2, .int x3, .int x4, .int x5] A (fP E (cX E B u)) (QX E A B out.2) out.1 := by
  refine Met.ofW (cc := cX4_copy) (maxL := 8) (ret := (some .int)) (by decide) rfl ?_
  intro p e s m args below meth c s₁ B0 hml hv
  obtain ⟨rfl, hP, hK⟩ := hv
  have C0 : cx wsX4_copy cX4_copy 8 (some .int) RX4 E p s m _ meth c := ⟨B0.exec, B0.bytes, B0.returns, hml, findClass_of_methodNamed B0.named, atoms_spec (ws := wsX4_copy) B0.pre, B0.notSynchronized, hK⟩
  have hl := lv_entry ([.ref (B 0), .int x1, .int x2, .int x3, .int x4, .int x5]) (n := 8) (Nat.le_of_ble_eq_true rfl)
  rw [lg_entry_eq]
  generalize (lg_sl ([.ref (B 0), .int x1, .int x2, .int x3, .int x4, .int x5]) ++ List.replicate (8 - (lg_sl ([.ref (B 0), .int x1, .int x2, .int x3, .int x4, .int x5])).length) Slot.unset).toArray = ls at hl ⊢
  exact tX4_copy_0 C0 ⟨hP, hI, hA, va_S.rf⟩ hl hf
