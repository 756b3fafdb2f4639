/-! the law: its context, its steps -/
theorem q_init : Rel x0 m0 := by
  refine ⟨0, 0, 0, 0, 0, fun _ => 0, fun _ => 0, fun _ => 0, fun _ => 0, ⟨⟨by decide, by decide, by decide, by decide, by decide⟩, rfl, rfl, rfl, rfl, rfl, rfl, rfl, rfl, rfl, rfl, rfl⟩, fun k hk => by omega, fun c hc => by omega, fun c hc => by omega, fun k hk => Or.inl ⟨rfl, ?_⟩, ?_⟩
  · rcases (show k = 0 ∨ k = 1 ∨ k = 2 ∨ k = 3 by omega) with rfl | rfl | rfl | rfl <;> rfl
  · refine ⟨rfl, fun k h1 h2 => ?_, fun S h1 h2 n h3 h4 => ?_⟩
    · show (if k = 0 then (1 : Int64) else 0) = _
      rw [if_neg (by omega)]
      rfl
    · show (if 7 * S + n = 0 then (1 : Int64) else 0) = _
      rw [if_neg (by omega)]
      rfl
set_option maxRecDepth 20000 in
theorem nest_in : ∀ w ∈ nestW, w ∈ lw_tbl := by decide +kernel
theorem ao_K {C : String} {s : State} (h : va_AO C s) : ∃ cA : ClassId, ArrOfT s cA (.object C) ∧ va_RA s cA (.object C) := by
  obtain ⟨comp, cA, k, h1, h2, h3, h4, h5⟩ := Cond.arrayOver_spec h
  exact ⟨cA, fun N z => ⟨(fun k h => by cases h), k, h3, comp, h4⟩, k, comp, h3, h4, h1, h5⟩
theorem law_E {s : State} {args : Array Value} (hts : ∀ w ∈ lw_tbl, w.before args s = true) : ∃ E : EE, KE E s ∧ va_AO "LoserDraws$Citizen" s ∧ va_AO "LoserDraws$Row" s := by
  obtain ⟨c0, i0, k0⟩ := u_known (C := RX0) (T := TX0) (N := 4) (n := 4) hts inX0 (hts (.instantiable RX0 4) (by decide +kernel))
  obtain ⟨c1, i1, k1⟩ := u_known (C := RX1) (T := TX1) (N := 7) (n := 7) hts inX1 (hts (.instantiable RX1 7) (by decide +kernel))
  obtain ⟨c2, i2, k2⟩ := u_known (C := RX2) (T := TX2) (N := 4) (n := 4) hts inX2 (hts (.instantiable RX2 4) (by decide +kernel))
  obtain ⟨c4, i4, k4⟩ := u_known (C := RX4) (T := TX4) (N := 10) (n := 10) hts inX4 (hts (.instantiable RX4 10) (by decide +kernel))
  obtain ⟨c5, i5, k5⟩ := u_known (C := RX5) (T := TX5) (N := 24) (n := 24) hts inX5 (hts (.instantiable RX5 24) (by decide +kernel))
  obtain ⟨a0, kA0, comp0, f0, g0, h0⟩ := Cond.arrayClass_spec (hts (.arrayClass .int) (by decide +kernel))
  obtain ⟨a1, kA1, comp1, f1, g1, h1⟩ := Cond.arrayClass_spec (hts (.arrayClass .long) (by decide +kernel))
  have o2 : va_AO "LoserDraws$Citizen" s := va_AO.of (hts (.arrayOver (.object "LoserDraws$Citizen")) (by decide +kernel))
  have o3 : va_AO "LoserDraws$Row" s := va_AO.of (hts (.arrayOver (.object "LoserDraws$Row")) (by decide +kernel))
  obtain ⟨a2, r2, s2⟩ := ao_K o2
  obtain ⟨a3, r3, s3⟩ := ao_K o3
  refine ⟨((fun k => if k = 0 then c0 else if k = 1 then c1 else if k = 2 then c2 else if k = 3 then c4 else c5, fun k => if k = 0 then i0 else if k = 1 then i1 else if k = 2 then i2 else if k = 3 then i4 else i5), fun k => if k = 0 then a0 else if k = 1 then a1 else if k = 2 then a2 else a3), ⟨⟨?_, ?_⟩, fun w hw => va_Nw.of (nestW_on w hw) (hts w (nest_in w hw))⟩, o2, o3⟩
  · intro k q hq
    match k, hq with
    | 0, hq => cases hq; exact k0
    | 1, hq => cases hq; exact k1
    | 2, hq => cases hq; exact k2
    | 3, hq => cases hq; exact k4
    | 4, hq => cases hq; exact k5
    | k + 5, hq => simp [vwCl] at hq
  · intro k q hq
    match k, hq with
    | 0, hq => cases hq; exact ⟨fun n z => ⟨(fun k h => by cases h), kA0, g0, comp0, h0⟩, f0⟩
    | 1, hq => cases hq; exact ⟨fun n z => ⟨(fun k h => by cases h), kA1, g1, comp1, h1⟩, f1⟩
    | 2, hq => cases hq; exact ⟨r2, s2⟩
    | 3, hq => cases hq; exact ⟨r3, s3⟩
    | k + 4, hq => simp [tyE] at hq
def AL (s : State) : Nat → Prop := fun q => s.heap.size ≤ q
def AXL (s : State) (Bm : Nat → Nat) : Nat → Prop := fun q => s.heap.size ≤ q ∧ ¬ aM Bm q
/-- the law's two objects, beside each other -/
def LW (E : EE) (Bx Bm : Nat → Nat) (u : SX) (τ : SM) (s : State) (H : Heap) (locs : List Loc) : Prop := fP E (cX E Bx u) H ∧ fI (cX E Bx u) ∧ AX E Bx u (AXL s Bm) ∧ fP E (cM E Bm τ) H ∧ iM Bm ∧ (∀ j, j < 12 → s.heap.size ≤ Bm j) ∧ va_S (AL s) s.heap H locs
section LAWC
variable {p : Program} {l : Launch} {e : Env} {s : State} {m : MethodId} {args : Array Value} {below : List Frame} {meth : Method} {c : Code} {H : Heap} {locs : List Loc} {cells slots : Nat} {Q : State → Prop}
variable {pc : Nat} {ls : Array Slot} {rest st0 : List Value} {E : EE} {Bx Bm : Nat → Nat} {u u' : SX} {τ τ' : SM}
variable {y : MethodName} {ws ws' : List Cond} {bytes : ByteArray} {maxL index n mc ms : Nat} {ret' : Option FieldType} {rm : Room} {As : List Value}
theorem fitsL (h : fits_in rm mc ms maxL room_1 300 6000 = true) (h1 : cells ≤ 300) (h2 : slots ≤ 6000) : fits_in rm mc ms maxL room_1 cells slots = true := by
  obtain ⟨a, b, ⟨c1, c2⟩, d1, d2⟩ := fits_in_ok h
  simp only [fits_in, Bool.and_eq_true, decide_eq_true_eq]
  exact ⟨⟨⟨⟨⟨a, b⟩, c1⟩, c2⟩, by omega⟩, by omega⟩
theorem LW.mm (hW : LW E Bx Bm u τ s H locs) {H1 : Heap} (hk : ∀ q : Nat, q < H.size → ¬ AXL s Bm q → H1[q]? = H[q]?) : fP E (cM E Bm τ) H1 := by
  intro j q hj
  have h := hW.2.2.2.1 j q hj
  exact h.kept (hk _ h.lt (fun z => z.2 ⟨j, (cM_at hj).1, (cM_at hj).2⟩))
theorem LW.xx (hW : LW E Bx Bm u τ s H locs) {H1 : Heap} (hk : ∀ q : Nat, q < H.size → ¬ aM Bm q → H1[q]? = H[q]?) : fP E (cX E Bx u) H1 := by
  intro j q hj
  have h := hW.1 j q hj
  exact h.kept (hk _ h.lt (hW.2.2.1 j q hj).2)
theorem xI {r : Int32} (C0 : cx wsL_law cL_law 4 ret RL E p s m args meth c) (hW : LW E Bx Bm u τ s H locs) (hM : muI l y ws rm E (.ref (Bx 0) :: As) (AXL s Bm) (fP E (cX E Bx u)) (QX E (AXL s Bm) Bx u') r) (hg : GoodIn wsL_law (wsV RL index y.cls y ws)) (hw : ws = Cond.code y bytes maxL ret' :: ws') (hrm : fits_in rm 0 0 maxL room_1 300 6000 = true) (hd : y.cls ≠ "java/lang/invoke/MethodHandle" ∧ y.cls ≠ "java/lang/invoke/VarHandle" ∧ (parseMethodDescriptor y.desc).map (fun d => d.parameters.length) = some n) (hC : y.cls = RX4) (hls : ls.size = 4) (hn : As.length = n) (hst : st0 = As.reverse ++ .ref (Bx 0) :: rest) (hroom : (rest.map fun v => v.category).sum ≤ 8) (h1 : cells ≤ 300) (h2 : slots ≤ 6000) (hdg : decode cL_law pc = .ok (.invokevirtual index, 3))
    (kk : ∀ (H1 : Heap) (locs1 : List Loc), LW E Bx Bm u' τ s H1 locs1 → W p l e room_1 s m args below meth c H1 locs1 cells slots Q (F0 m (pc + 3) ls (.int r :: rest))) : W p l e room_1 s m args below meth c H locs cells slots Q (F0 m pc ls st0) := by
  obtain ⟨hP, hI, hA, hPm, hBm, hz, hS⟩ := id hW
  exact k_muI (run_V C0 hM hg hw (fitsL hrm h1 h2) hd (hP 0 _ rfl) rfl hC hP hls hn hst hroom hdg) hS (fun q h => h.1) (fun H1 locs1 hQ hk hS1 => kk H1 locs1 ⟨hQ.1, hQ.2.1, hQ.2.2, hW.mm hk, hBm, hz, hS1⟩)
theorem xL {r : Int64} (C0 : cx wsL_law cL_law 4 ret RL E p s m args meth c) (hW : LW E Bx Bm u τ s H locs) (hM : muL l y ws rm E (.ref (Bx 0) :: As) (AXL s Bm) (fP E (cX E Bx u)) (QX E (AXL s Bm) Bx u') r) (hg : GoodIn wsL_law (wsV RL index y.cls y ws)) (hw : ws = Cond.code y bytes maxL ret' :: ws') (hrm : fits_in rm 0 0 maxL room_1 300 6000 = true) (hd : y.cls ≠ "java/lang/invoke/MethodHandle" ∧ y.cls ≠ "java/lang/invoke/VarHandle" ∧ (parseMethodDescriptor y.desc).map (fun d => d.parameters.length) = some n) (hC : y.cls = RX4) (hls : ls.size = 4) (hn : As.length = n) (hst : st0 = As.reverse ++ .ref (Bx 0) :: rest) (hroom : (rest.map fun v => v.category).sum ≤ 8) (h1 : cells ≤ 300) (h2 : slots ≤ 6000) (hdg : decode cL_law pc = .ok (.invokevirtual index, 3))
    (kk : ∀ (H1 : Heap) (locs1 : List Loc), LW E Bx Bm u' τ s H1 locs1 → W p l e room_1 s m args below meth c H1 locs1 cells slots Q (F0 m (pc + 3) ls (.long r :: rest))) : W p l e room_1 s m args below meth c H locs cells slots Q (F0 m pc ls st0) := by
  obtain ⟨hP, hI, hA, hPm, hBm, hz, hS⟩ := id hW
  exact k_muL (run_V C0 hM hg hw (fitsL hrm h1 h2) hd (hP 0 _ rfl) rfl hC hP hls hn hst hroom hdg) hS (fun q h => h.1) (fun H1 locs1 hQ hk hS1 => kk H1 locs1 ⟨hQ.1, hQ.2.1, hQ.2.2, hW.mm hk, hBm, hz, hS1⟩)
theorem xrI {r : Int32} (C0 : cx wsL_law cL_law 4 ret RL E p s m args meth c) (hW : LW E Bx Bm u τ s H locs) (hM : roI l y ws rm E (.ref (Bx 0) :: As) (fP E (cX E Bx u)) r) (hg : GoodIn wsL_law (wsV RL index y.cls y ws)) (hw : ws = Cond.code y bytes maxL ret' :: ws') (hrm : fits_in rm 0 0 maxL room_1 300 6000 = true) (hd : y.cls ≠ "java/lang/invoke/MethodHandle" ∧ y.cls ≠ "java/lang/invoke/VarHandle" ∧ (parseMethodDescriptor y.desc).map (fun d => d.parameters.length) = some n) (hC : y.cls = RX4) (hls : ls.size = 4) (hn : As.length = n) (hst : st0 = As.reverse ++ .ref (Bx 0) :: rest) (hroom : (rest.map fun v => v.category).sum ≤ 8) (h1 : cells ≤ 300) (h2 : slots ≤ 6000) (hdg : decode cL_law pc = .ok (.invokevirtual index, 3))
    (kk : W p l e room_1 s m args below meth c H locs cells slots Q (F0 m (pc + 3) ls (.int r :: rest))) : W p l e room_1 s m args below meth c H locs cells slots Q (F0 m pc ls st0) :=
  k_roI (run_V C0 hM hg hw (fitsL hrm h1 h2) hd (hW.1 0 _ rfl) rfl hC hW.1 hls hn hst hroom hdg) kk
theorem mI {r : Int32} (C0 : cx wsL_law cL_law 4 ret RL E p s m args meth c) (hW : LW E Bx Bm u τ s H locs) (hM : muI l y ws rm E (.ref (Bm 0) :: As) (aM Bm) (fP E (cM E Bm τ)) (fP E (cM E Bm τ')) r) (hg : GoodIn wsL_law (wsV RL index y.cls y ws)) (hw : ws = Cond.code y bytes maxL ret' :: ws') (hrm : fits_in rm 0 0 maxL room_1 300 6000 = true) (hd : y.cls ≠ "java/lang/invoke/MethodHandle" ∧ y.cls ≠ "java/lang/invoke/VarHandle" ∧ (parseMethodDescriptor y.desc).map (fun d => d.parameters.length) = some n) (hC : y.cls = RX5) (hls : ls.size = 4) (hn : As.length = n) (hst : st0 = As.reverse ++ .ref (Bm 0) :: rest) (hroom : (rest.map fun v => v.category).sum ≤ 8) (h1 : cells ≤ 300) (h2 : slots ≤ 6000) (hdg : decode cL_law pc = .ok (.invokevirtual index, 3))
    (kk : ∀ (H1 : Heap) (locs1 : List Loc), LW E Bx Bm u τ' s H1 locs1 → W p l e room_1 s m args below meth c H1 locs1 cells slots Q (F0 m (pc + 3) ls (.int r :: rest))) : W p l e room_1 s m args below meth c H locs cells slots Q (F0 m pc ls st0) := by
  obtain ⟨hP, hI, hA, hPm, hBm, hz, hS⟩ := id hW
  exact k_muI (run_V C0 hM hg hw (fitsL hrm h1 h2) hd (hPm 0 _ rfl) rfl hC hPm hls hn hst hroom hdg) hS (fun q h => by obtain ⟨j, hj, rfl⟩ := h; exact hz j hj) (fun H1 locs1 hQ hk hS1 => kk H1 locs1 ⟨hW.xx hk, hI, hA, hQ, hBm, hz, hS1⟩)
theorem mL {r : Int64} (C0 : cx wsL_law cL_law 4 ret RL E p s m args meth c) (hW : LW E Bx Bm u τ s H locs) (hM : muL l y ws rm E (.ref (Bm 0) :: As) (aM Bm) (fP E (cM E Bm τ)) (fP E (cM E Bm τ')) r) (hg : GoodIn wsL_law (wsV RL index y.cls y ws)) (hw : ws = Cond.code y bytes maxL ret' :: ws') (hrm : fits_in rm 0 0 maxL room_1 300 6000 = true) (hd : y.cls ≠ "java/lang/invoke/MethodHandle" ∧ y.cls ≠ "java/lang/invoke/VarHandle" ∧ (parseMethodDescriptor y.desc).map (fun d => d.parameters.length) = some n) (hC : y.cls = RX5) (hls : ls.size = 4) (hn : As.length = n) (hst : st0 = As.reverse ++ .ref (Bm 0) :: rest) (hroom : (rest.map fun v => v.category).sum ≤ 8) (h1 : cells ≤ 300) (h2 : slots ≤ 6000) (hdg : decode cL_law pc = .ok (.invokevirtual index, 3))
    (kk : ∀ (H1 : Heap) (locs1 : List Loc), LW E Bx Bm u τ' s H1 locs1 → W p l e room_1 s m args below meth c H1 locs1 cells slots Q (F0 m (pc + 3) ls (.long r :: rest))) : W p l e room_1 s m args below meth c H locs cells slots Q (F0 m pc ls st0) := by
  obtain ⟨hP, hI, hA, hPm, hBm, hz, hS⟩ := id hW
  exact k_muL (run_V C0 hM hg hw (fitsL hrm h1 h2) hd (hPm 0 _ rfl) rfl hC hPm hls hn hst hroom hdg) hS (fun q h => by obtain ⟨j, hj, rfl⟩ := h; exact hz j hj) (fun H1 locs1 hQ hk hS1 => kk H1 locs1 ⟨hW.xx hk, hI, hA, hQ, hBm, hz, hS1⟩)
theorem mrI {r : Int32} (C0 : cx wsL_law cL_law 4 ret RL E p s m args meth c) (hW : LW E Bx Bm u τ s H locs) (hM : roI l y ws rm E (.ref (Bm 0) :: As) (fP E (cM E Bm τ)) r) (hg : GoodIn wsL_law (wsV RL index y.cls y ws)) (hw : ws = Cond.code y bytes maxL ret' :: ws') (hrm : fits_in rm 0 0 maxL room_1 300 6000 = true) (hd : y.cls ≠ "java/lang/invoke/MethodHandle" ∧ y.cls ≠ "java/lang/invoke/VarHandle" ∧ (parseMethodDescriptor y.desc).map (fun d => d.parameters.length) = some n) (hC : y.cls = RX5) (hls : ls.size = 4) (hn : As.length = n) (hst : st0 = As.reverse ++ .ref (Bm 0) :: rest) (hroom : (rest.map fun v => v.category).sum ≤ 8) (h1 : cells ≤ 300) (h2 : slots ≤ 6000) (hdg : decode cL_law pc = .ok (.invokevirtual index, 3))
    (kk : W p l e room_1 s m args below meth c H locs cells slots Q (F0 m (pc + 3) ls (.int r :: rest))) : W p l e room_1 s m args below meth c H locs cells slots Q (F0 m pc ls st0) :=
  k_roI (run_V C0 hM hg hw (fitsL hrm h1 h2) hd (hW.2.2.2.1 0 _ rfl) rfl hC hW.2.2.2.1 hls hn hst hroom hdg) kk
theorem mrL {r : Int64} (C0 : cx wsL_law cL_law 4 ret RL E p s m args meth c) (hW : LW E Bx Bm u τ s H locs) (hM : roL l y ws rm E (.ref (Bm 0) :: As) (fP E (cM E Bm τ)) r) (hg : GoodIn wsL_law (wsV RL index y.cls y ws)) (hw : ws = Cond.code y bytes maxL ret' :: ws') (hrm : fits_in rm 0 0 maxL room_1 300 6000 = true) (hd : y.cls ≠ "java/lang/invoke/MethodHandle" ∧ y.cls ≠ "java/lang/invoke/VarHandle" ∧ (parseMethodDescriptor y.desc).map (fun d => d.parameters.length) = some n) (hC : y.cls = RX5) (hls : ls.size = 4) (hn : As.length = n) (hst : st0 = As.reverse ++ .ref (Bm 0) :: rest) (hroom : (rest.map fun v => v.category).sum ≤ 8) (h1 : cells ≤ 300) (h2 : slots ≤ 6000) (hdg : decode cL_law pc = .ok (.invokevirtual index, 3))
    (kk : W p l e room_1 s m args below meth c H locs cells slots Q (F0 m (pc + 3) ls (.long r :: rest))) : W p l e room_1 s m args below meth c H locs cells slots Q (F0 m pc ls st0) :=
  k_roL (run_V C0 hM hg hw (fitsL hrm h1 h2) hd (hW.2.2.2.1 0 _ rfl) rfl hC hW.2.2.2.1 hls hn hst hroom hdg) kk
/-- script[i + k] -/
theorem ld5 {b L i k : Nat} {xs : Nat → Int32} {pc' : Nat} {n : Int} (C0 : cx wsL_law cL_law 4 ret RL E p s m args meth c) (hX : va_X b L xs s s.heap) (hbl : b < s.heap.size) (hS : va_S (AL s) s.heap H locs) {a1 a2 : Nat} (hl : lv_has ls 4 [(0, .ref b), (1, .ref a1), (2, .ref a2), (3, .int (nI i))]) (hL : L ≤ 384) (hik : i + k < L) (hk : Int32.ofInt n = nI k) (d0 : decode cL_law pc = .ok (.aload_n 0, 1)) (d1 : decode cL_law (pc + 1) = .ok (.iload_n 3, 1)) (d2 : decode cL_law (pc + 1 + 1) = .ok (.iconst n, 1)) (d3 : decode cL_law (pc + 1 + 1 + 1) = .ok (.iadd, 1)) (d4 : decode cL_law (pc + 1 + 1 + 1 + 1) = .ok (.iaload, 1)) (hpc : pc + 1 + 1 + 1 + 1 + 1 = pc')
    (kk : W p l e room_1 s m args below meth c H locs cells slots Q (F0 m pc' ls (.int (xs (i + k)) :: rest))) : W p l e room_1 s m args below meth c H locs cells slots Q (F0 m pc ls rest) := by
  obtain ⟨hx, hb, -⟩ := C0
  subst hpc
  refine lv_aload_n hx hb d0 rfl (lv_at hl 0 rfl) ?_
  refine lv_iload_n hx hb d1 rfl (lv_at hl 3 rfl) ?_
  refine lv_iconst (v := nI k) hx hb d2 hk ?_
  refine lv_iadd hx hb d3 ?_
  rw [nI_add]
  refine va_sld hx hb hX hbl (A := AL s) (Nat.not_le.mpr hbl) hS (vp_in_nI hik (by omega)) d4 ?_
  rw [nI_clamp (by omega)]
  exact kk
end LAWC
