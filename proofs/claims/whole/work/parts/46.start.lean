/-! the law, from its entry -/
theorem blindX {E : EE} {sz h0 : Nat} {fs : List Value} : FrameBlind (va_Pc [.ref h0] (fun U => (U.heap.size = sz ∧ va_at E.1 vwCl (h0, .inr (3, fs)) U.heap ∧ va_AO "LoserDraws$Citizen" U ∧ va_AO "LoserDraws$Row" U) ∧ KE E U)) := fun a U g mk q => ⟨q.1, ⟨q.2.1.1, q.2.1.2.1, va_AO.moved (u := U) (U := U.calling g mk a) (Vm.Alike.refl U.vm) q.2.1.2.2.1, va_AO.moved (u := U) (U := U.calling g mk a) (Vm.Alike.refl U.vm) q.2.1.2.2.2⟩, q.2.2.calling⟩
set_option maxHeartbeats 4000000 in
set_option maxRecDepth 100000 in
theorem whole_start {p : Program} {e : Env} {s : State} {m : MethodId} {below : List Frame} {meth : Method} {c : Code} (l : Launch) {b L : Nat} {xs : Nat → Int32} (hL : L ≤ 384) (C0 : lw_At p s m meth c b L xs) : W p l e room_1 s m #[Value.ref b] below meth c s.heap [] 0 0 (lw_Z below #[Value.ref b] s) (entryFrame m ([Value.ref b] : List Value).toArray 4) := by
  obtain ⟨hx, hb, hr, hml, hown, htb, hX, hbl, hlocks, hgv⟩ := id C0
  obtain ⟨E, hK, o2, o3⟩ := law_E htb
  have hts : ∀ w ∈ wsL_law, w.before #[Value.ref b] s = true := fun w hw => htb w (wsL_law_in w hw)
  have C1 : cx wsL_law cL_law 4 ret RL E p s m #[Value.ref b] meth c := ⟨hx, hb, hr, hml, hown, hts, hlocks, hK⟩
  have hl := lv_entry ([.ref b]) (n := 4) (Nat.le_of_ble_eq_true rfl)
  rw [lg_entry_eq]
  generalize (lg_sl ([.ref b]) ++ List.replicate (4 - (lg_sl ([.ref b])).length) Slot.unset).toArray = ls at hl ⊢
  have hl : lv_has ls 4 [(0, .ref b)] := hl
  -- the class
  refine f_new (ci := 3) (C := RX4) (T := TX4) (N := 10) (fs := [.null, .int 0, .int 0, .int 0, .null, .int 0, .null, .null, .int 0, .int 0]) C1 inlX4 tyX4 tyX4_ok (by decide +kernel) (by decide +kernel) (by decide +kernel) rfl (fun j hj => by rcases (show j = 0 ∨ j = 1 ∨ j = 2 ∨ j = 3 ∨ j = 4 ∨ j = 5 ∨ j = 6 ∨ j = 7 ∨ j = 8 ∨ j = 9 by omega) with rfl | rfl | rfl | rfl | rfl | rfl | rfl | rfl | rfl | rfl <;> rfl) (Nat.le_of_ble_eq_true rfl) (Nat.le_of_ble_eq_true rfl) dL_law_0 (fun H hv hz ho => ?_)
  have hS : va_S (AL s) s.heap H [] := ⟨by omega, fun q h1 _ => ho q h1, fun _ h => by cases h⟩
  refine lv_dup hx hb dL_law_3 rfl ?_
  refine va_callv (va_runI (As := []) (rest := [.ref s.heap.size]) ⟨hx, hb, hml, hown, hts⟩ (tX4_init E s.heap.size H.size (AL s) (Nat.le_refl _) (fun q h => Nat.le_trans hS.1 h)) (cwI 0 hts gL_law_X4_init rfl rfl rfl (hts (.initialized RX4) (by decide +kernel)) (hts (.methodLink RL 9 yX4_init) (by decide +kernel)) (hts (.instanceMethod yX4_init) (by decide +kernel)) rfl (by decide +kernel) ⟨Nat.le_of_ble_eq_true rfl, Nat.le_of_ble_eq_true rfl⟩) ⟨blindX, fun U hU hWu => ⟨rfl, ⟨by rw [hU], by rw [hU]; exact hv, va_AO.moved hWu.alike o2, va_AO.moved hWu.alike o3⟩, hK.warm hWu⟩⟩ rfl rfl hl.1 rfl (lv_room (Nat.le_of_ble_eq_true rfl)) dL_law_4 ⟨Nat.le_of_ble_eq_true rfl, Nat.le_of_ble_eq_true rfl⟩) hS (fun q _ h => h) (fun q h => h) (fun Bx t Hx locs ht hvm hB0 hB hz1 hk1 hS => ?_)
  rw [ht] at hB
  obtain ⟨hPx, hIx, hAx⟩ := hB
  refine W.widen (k := 22) (n := 811) (by omega) (by omega) ?_
  refine lv_astore_n (lv' := [(1, .ref s.heap.size), (0, .ref b)]) hx hb dL_law_7 rfl hl (by decide) rfl (fun ls hl => ?_)
  -- the reference
  refine f_new (ci := 4) (C := RX5) (T := TX5) (N := 24) (fs := [.int 0, .int 0, .int 0, .int 0, .null, .null, .null, .int 0, .int 0, .int 0, .int 0, .int 0, .int 0, .null, .null, .null, .int 0, .int 0, .null, .null, .null, .null, .null, .int 0]) C1 inlX5 tyX5 tyX5_ok (by decide +kernel) (by decide +kernel) (by decide +kernel) rfl (fun j hj => by rcases (show j = 0 ∨ j = 1 ∨ j = 2 ∨ j = 3 ∨ j = 4 ∨ j = 5 ∨ j = 6 ∨ j = 7 ∨ j = 8 ∨ j = 9 ∨ j = 10 ∨ j = 11 ∨ j = 12 ∨ j = 13 ∨ j = 14 ∨ j = 15 ∨ j = 16 ∨ j = 17 ∨ j = 18 ∨ j = 19 ∨ j = 20 ∨ j = 21 ∨ j = 22 ∨ j = 23 by omega) with rfl | rfl | rfl | rfl | rfl | rfl | rfl | rfl | rfl | rfl | rfl | rfl | rfl | rfl | rfl | rfl | rfl | rfl | rfl | rfl | rfl | rfl | rfl | rfl <;> rfl) (Nat.le_of_ble_eq_true rfl) (Nat.le_of_ble_eq_true rfl) dL_law_8 (fun H2 hv2 hz2 ho2 => ?_)
  have hS2 : va_S (AL s) s.heap H2 locs := ⟨by have := hS.1; omega, fun q h1 h2 => (ho2 q (Nat.lt_of_lt_of_le h1 hS.1)).trans (hS.2.1 q h1 h2), hS.2.2⟩
  refine lv_dup hx hb dL_law_11 rfl ?_
  refine va_callv (va_runI (As := []) (rest := [.ref Hx.size]) ⟨hx, hb, hml, hown, hts⟩ (tX5_init E Hx.size H2.size (fun q => Hx.size ≤ q) (Nat.le_refl _) (fun q h => by show Hx.size ≤ q; omega)) (cwI 0 hts gL_law_X5_init rfl rfl rfl (hts (.initialized RX5) (by decide +kernel)) (hts (.methodLink RL 12 yX5_init) (by decide +kernel)) (hts (.instanceMethod yX5_init) (by decide +kernel)) rfl (by decide +kernel) ⟨Nat.le_of_ble_eq_true rfl, Nat.le_of_ble_eq_true rfl⟩) ⟨blind (PH := fun Z => Z.size = H2.size ∧ va_at E.1 vwCl (Hx.size, .inr (4, [.int 0, .int 0, .int 0, .int 0, .null, .null, .null, .int 0, .int 0, .int 0, .int 0, .int 0, .int 0, .null, .null, .null, .int 0, .int 0, .null, .null, .null, .null, .null, .int 0])) Z), pay (PH := fun Z => Z.size = H2.size ∧ va_at E.1 vwCl (Hx.size, .inr (4, [.int 0, .int 0, .int 0, .int 0, .null, .null, .null, .int 0, .int 0, .int 0, .int 0, .int 0, .int 0, .null, .null, .null, .int 0, .int 0, .null, .null, .null, .null, .null, .int 0])) Z) hK ⟨rfl, hv2⟩⟩ rfl rfl hl.1 rfl (lv_room (Nat.le_of_ble_eq_true rfl)) dL_law_12 ⟨Nat.le_of_ble_eq_true rfl, Nat.le_of_ble_eq_true rfl⟩) hS2 (fun q _ h => Nat.le_trans hS.1 h) (fun q h => Nat.le_trans hS.1 h) (fun Bm t2 Hm locs2 ht2 hvm2 hBm0 hBm hz3 hk3 hS3 => ?_)
  rw [ht2] at hBm
  obtain ⟨hPm, hIm, hAm⟩ := hBm
  refine W.widen (k := 60) (n := 1200) (by omega) (by omega) ?_
  refine lv_astore_n (lv' := [(2, .ref Hx.size), (1, .ref s.heap.size), (0, .ref b)]) hx hb dL_law_15 rfl hl (by decide) rfl (fun ls hl => ?_)
  refine lv_iconst (v := 0) hx hb dL_law_16 (by decide) ?_
  refine lv_istore_n (lv' := [(3, .int 0), (2, .ref Hx.size), (1, .ref s.heap.size), (0, .ref b)]) hx hb dL_law_17 rfl hl (by decide) rfl (fun ls hl => ?_)
  refine law_loop (E := E) (Bm := Bm) hL C1 hX hbl (L + 1) 0 Bx x0 m0 Hm locs2 60 1200 ls (by omega) (by omega) q_init ⟨?_, hIx, ?_, hPm, hIm, fun j hj => Nat.le_trans hS.1 (hAm j hj), hS3⟩ (by omega) (by omega) (by rw [hB0, hBm0]; exact lv_sub hl [3, 2, 1, 0] rfl)
  · intro j q hj
    have h := hPx j q hj
    have hlt := h.lt
    exact h.kept ((hk3 _ (by omega) (Nat.not_le.mpr hlt)).trans (ho2 _ hlt))
  · intro j q hj
    refine ⟨hAx j q hj, fun z => ?_⟩
    obtain ⟨i, hi, e⟩ := z
    have h1 := hAm i hi
    have h2 := (hPx j q hj).lt
    rw [e] at h2
    exact absurd h2 (Nat.not_lt.mpr h1)
