/-! the law's loop -/
theorem and31 (x : Int32) : ∃ k, k < 32 ∧ x &&& (31 : Int32) = nI k := by
  refine ⟨(x &&& (31 : Int32)).toBitVec.toNat, ?_, ?_⟩
  · show (x.toBitVec &&& 31#32).toNat < 32
    rw [BitVec.toNat_and]
    exact Nat.lt_of_le_of_lt Nat.and_le_right (by decide)
  · refine Int32.toBitVec_inj.1 (BitVec.eq_of_toNat_eq ?_)
    show _ = (BitVec.ofNat 32 _).toNat
    rw [BitVec.toNat_ofNat, Nat.mod_eq_of_lt (BitVec.isLt _)]
theorem end6 {L i : Nat} (hL : L ≤ 384) (hi : i ≤ 400) : nI L - (6 : Int32) < nI i ↔ L < i + 6 := by
  rw [fa_lt, show (6 : Int32) = nI 6 from rfl, pk_sub_toInt (by omega) (by omega), nI_toInt (by omega)]
  omega
set_option maxHeartbeats 4000000 in
set_option maxRecDepth 100000 in
theorem law_loop {p : Program} {l : Launch} {e : Env} {s : State} {m : MethodId} {below : List Frame} {meth : Method} {c : Code} {b L : Nat} {xs : Nat → Int32} {E : EE} {Bm : Nat → Nat} (hL : L ≤ 384) (C0 : cx wsL_law cL_law 4 ret RL E p s m #[Value.ref b] meth c) (hX : va_X b L xs s s.heap) (hbl : b < s.heap.size) : ∀ (f n : Nat) (Bx : Nat → Nat) (u : SX) (τ : SM) (H : Heap) (locs : List Loc) (cells slots : Nat) (ls : Array Slot), 6 * n ≤ L + 5 → L + 6 ≤ 6 * n + 6 * f → Rel u τ → LW E Bx Bm u τ s H locs → cells ≤ 60 + 2 * n → slots ≤ 1200 + 62 * n → lv_has ls 4 [(0, .ref b), (1, .ref (Bx 0)), (2, .ref (Bm 0)), (3, .int (nI (6 * n)))] → W p l e room_1 s m #[Value.ref b] below meth c H locs cells slots (lw_Z below #[Value.ref b] s) (F0 m 18 ls []) := by
  intro f
  induction f with
  | zero => intro n Bx u τ H locs cells slots ls g1 g2; omega
  | succ f ih =>
    intro n Bx u τ H locs cells slots ls g1 g2 hR hW hc hs hl
    obtain ⟨hx, hb, hr, hml, hown, hts, hlk, hK⟩ := id C0
    have hS := hW.2.2.2.2.2.2
    have hbA : ¬ AL s b := Nat.not_le.mpr hbl
    refine lv_iload_n hx hb dL_law_18 rfl (lv_at hl 3 rfl) ?_
    refine lv_aload_n hx hb dL_law_19 rfl (lv_at hl 0 rfl) ?_
    refine va_slen hx hb hX hbl hbA hS dL_law_20 ?_
    refine lv_bipush (v := 6) hx hb dL_law_21 (by decide) ?_
    refine lv_isub hx hb dL_law_23 ?_
    refine lv_icmp_gt (tgt := 1068) hx hb dL_law_24 (by decide) (fun h => ?_) (fun h => ?_)
    · refine lv_iconst (v := 1) hx hb dL_law_1068 (by decide) ?_
      refine va_forget hS.2.2 ?_
      refine W.widen (k := 600000) (n := 7302250) (by omega) (by omega) ?_
      exact lw_ret hx hb hr hlk dL_law_1069
    · have hi : 6 * n + 5 < L := by
        have h' : ¬ L < 6 * n + 6 := fun z => h ((end6 hL (by omega)).mpr z)
        omega
      have kk : ∀ (Bx' : Nat → Nat) (u' : SX) (τ' : SM) (H1 : Heap) (locs1 : List Loc) (cells1 slots1 : Nat), Bx' 0 = Bx 0 → Rel u' τ' → LW E Bx' Bm u' τ' s H1 locs1 → cells1 ≤ cells + 2 → slots1 ≤ slots + 62 → W p l e room_1 s m #[Value.ref b] below meth c H1 locs1 cells1 slots1 (lw_Z below #[Value.ref b] s) (F0 m 1062 ls []) := by
        intro Bx' u' τ' H1 locs1 cells1 slots1 e0 hR' hW' k1 k2
        refine lv_iinc (v := nI (6 * (n + 1))) (lv' := [(3, .int (nI (6 * (n + 1)))), (0, .ref b), (1, .ref (Bx 0)), (2, .ref (Bm 0))]) hx hb dL_law_1062 hl (k := 3) rfl (show nI (6 * n) + nI 6 = nI (6 * (n + 1)) from nI_add _ _) (by decide) rfl (fun ls hl => ?_)
        refine lv_goto (tgt := 18) hx hb dL_law_1065 (by decide) ?_
        exact ih (n + 1) Bx' u' τ' H1 locs1 cells1 slots1 ls (by omega) (by omega) hR' hW' (by omega) (by omega) (by rw [e0]; exact lv_sub hl [1, 2, 3, 0] rfl)
      refine lv_aload_n hx hb dL_law_27 rfl (lv_at hl 0 rfl) ?_
      refine lv_iload_n hx hb dL_law_28 rfl (lv_at hl 3 rfl) ?_
      refine va_sld hx hb hX hbl hbA hS (vp_in_nI (show 6 * n < L by omega) (by omega)) dL_law_29 ?_
      refine lv_bipush (v := 31) hx hb dL_law_30 (by decide) ?_
      refine lv_iand hx hb dL_law_32 ?_
      obtain ⟨k, hk, ek⟩ := and31 (xs (nI (6 * n)).toNatClampNeg)
      rw [ek]
      have c1 : cells ≤ 298 := by omega
      have c2 : slots ≤ 5938 := by omega
      rcases (show k = 0 ∨ k = 1 ∨ k = 2 ∨ k = 3 ∨ k = 4 ∨ k = 5 ∨ k = 6 ∨ k = 7 ∨ k = 8 ∨ k = 9 ∨ k = 10 ∨ k = 11 ∨ k = 12 ∨ k = 13 ∨ k = 14 ∨ k = 15 ∨ k = 16 ∨ k = 17 ∨ k = 18 ∨ k = 19 ∨ k = 20 ∨ k = 21 ∨ k = 22 ∨ k = 23 ∨ k = 24 ∨ k = 25 ∨ k = 26 ∨ k = 27 ∨ k = 28 ∨ k = 29 ∨ k = 30 ∨ k = 31 by omega) with rfl | rfl | rfl | rfl | rfl | rfl | rfl | rfl | rfl | rfl | rfl | rfl | rfl | rfl | rfl | rfl | rfl | rfl | rfl | rfl | rfl | rfl | rfl | rfl | rfl | rfl | rfl | rfl | rfl | rfl | rfl | rfl
      · exact lv_tableIn (tgt := 164) hx hb dL_law_33 (by decide) (by decide) rfl (by decide) (lc_0 C0 hX hbl hl hi hL hR hW c1 c2 kk)
      · exact lv_tableIn (tgt := 217) hx hb dL_law_33 (by decide) (by decide) rfl (by decide) (lc_1 C0 hX hbl hl hi hL hR hW c1 c2 kk)
      · exact lv_tableIn (tgt := 250) hx hb dL_law_33 (by decide) (by decide) rfl (by decide) (lc_2 C0 hX hbl hl hi hL hR hW c1 c2 kk)
      · exact lv_tableIn (tgt := 273) hx hb dL_law_33 (by decide) (by decide) rfl (by decide) (lc_3 C0 hX hbl hl hi hL hR hW c1 c2 kk)
      · exact lv_tableIn (tgt := 296) hx hb dL_law_33 (by decide) (by decide) rfl (by decide) (lc_4 C0 hX hbl hl hi hL hR hW c1 c2 kk)
      · exact lv_tableIn (tgt := 345) hx hb dL_law_33 (by decide) (by decide) rfl (by decide) (lc_5 C0 hX hbl hl hi hL hR hW c1 c2 kk)
      · exact lv_tableIn (tgt := 408) hx hb dL_law_33 (by decide) (by decide) rfl (by decide) (lc_6 C0 hX hbl hl hi hL hR hW c1 c2 kk)
      · exact lv_tableIn (tgt := 442) hx hb dL_law_33 (by decide) (by decide) rfl (by decide) (lc_7 C0 hX hbl hl hi hL hR hW c1 c2 kk)
      · exact lv_tableIn (tgt := 476) hx hb dL_law_33 (by decide) (by decide) rfl (by decide) (lc_8 C0 hX hbl hl hi hL hR hW c1 c2 kk)
      · exact lv_tableIn (tgt := 500) hx hb dL_law_33 (by decide) (by decide) rfl (by decide) (lc_9 C0 hX hbl hl hi hL hR hW c1 c2 kk)
      · exact lv_tableIn (tgt := 524) hx hb dL_law_33 (by decide) (by decide) rfl (by decide) (lc_10 C0 hX hbl hl hi hL hR hW c1 c2 kk)
      · exact lv_tableIn (tgt := 567) hx hb dL_law_33 (by decide) (by decide) rfl (by decide) (lc_11 C0 hX hbl hl hi hL hR hW c1 c2 kk)
      · exact lv_tableIn (tgt := 590) hx hb dL_law_33 (by decide) (by decide) rfl (by decide) (lc_12 C0 hX hbl hl hi hL hR hW c1 c2 kk)
      · exact lv_tableIn (tgt := 613) hx hb dL_law_33 (by decide) (by decide) rfl (by decide) (lc_13 C0 hX hbl hl hi hL hR hW c1 c2 kk)
      · exact lv_tableIn (tgt := 636) hx hb dL_law_33 (by decide) (by decide) rfl (by decide) (lc_14 C0 hX hbl hl hi hL hR hW c1 c2 kk)
      · exact lv_tableIn (tgt := 659) hx hb dL_law_33 (by decide) (by decide) rfl (by decide) (lc_15 C0 hX hbl hl hi hL hR hW c1 c2 kk)
      · exact lv_tableIn (tgt := 682) hx hb dL_law_33 (by decide) (by decide) rfl (by decide) (lc_16 C0 hX hbl hl hi hL hR hW c1 c2 kk)
      · exact lv_tableIn (tgt := 705) hx hb dL_law_33 (by decide) (by decide) rfl (by decide) (lc_17 C0 hX hbl hl hi hL hR hW c1 c2 kk)
      · exact lv_tableIn (tgt := 718) hx hb dL_law_33 (by decide) (by decide) rfl (by decide) (lc_18 C0 hX hbl hl hi hL hR hW c1 c2 kk)
      · exact lv_tableIn (tgt := 761) hx hb dL_law_33 (by decide) (by decide) rfl (by decide) (lc_19 C0 hX hbl hl hi hL hR hW c1 c2 kk)
      · exact lv_tableIn (tgt := 784) hx hb dL_law_33 (by decide) (by decide) rfl (by decide) (lc_20 C0 hX hbl hl hi hL hR hW c1 c2 kk)
      · exact lv_tableIn (tgt := 827) hx hb dL_law_33 (by decide) (by decide) rfl (by decide) (lc_21 C0 hX hbl hl hi hL hR hW c1 c2 kk)
      · exact lv_tableIn (tgt := 871) hx hb dL_law_33 (by decide) (by decide) rfl (by decide) (lc_22 C0 hX hbl hl hi hL hR hW c1 c2 kk)
      · exact lv_tableIn (tgt := 934) hx hb dL_law_33 (by decide) (by decide) rfl (by decide) (lc_23 C0 hX hbl hl hi hL hR hW c1 c2 kk)
      · exact lv_tableIn (tgt := 957) hx hb dL_law_33 (by decide) (by decide) rfl (by decide) (lc_24 C0 hX hbl hl hi hL hR hW c1 c2 kk)
      · exact lv_tableIn (tgt := 980) hx hb dL_law_33 (by decide) (by decide) rfl (by decide) (lc_25 C0 hX hbl hl hi hL hR hW c1 c2 kk)
      · exact lv_tableIn (tgt := 1013) hx hb dL_law_33 (by decide) (by decide) rfl (by decide) (lc_26 C0 hX hbl hl hi hL hR hW c1 c2 kk)
      · exact lv_tableIn (tgt := 1026) hx hb dL_law_33 (by decide) (by decide) rfl (by decide) (lc_27 C0 hX hbl hl hi hL hR hW c1 c2 kk)
      · exact lv_tableIn (tgt := 1039) hx hb dL_law_33 (by decide) (by decide) rfl (by decide) (lc_28 C0 hX hbl hl hi hL hR hW c1 c2 kk)
      · exact lv_tableOut (tgt := 1062) hx hb dL_law_33 (by decide) (by decide) (kk Bx u τ H locs cells slots rfl hR hW (by omega) (by omega))
      · exact lv_tableOut (tgt := 1062) hx hb dL_law_33 (by decide) (by decide) (kk Bx u τ H locs cells slots rfl hR hW (by omega) (by omega))
      · exact lv_tableOut (tgt := 1062) hx hb dL_law_33 (by decide) (by decide) (kk Bx u τ H locs cells slots rfl hR hW (by omega) (by omega))
