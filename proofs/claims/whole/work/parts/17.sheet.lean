section SHEET
variable {p : Program} {l : Launch} {e : Env} {R : Room} {s : State} {m : MethodId} {args : Array Value} {below : List Frame} {meth : Method} {c : Code} {H : Heap} {locs : List Loc} {cells slots : Nat} {Q : State → Prop}
variable {cc : ByteArray} {pc nL : Nat} {ls : Array Slot} {rest : List Value} {E : EE} {A : Nat → Prop} {Ts : List Cond} {ret : Option FieldType} {own : String} {B : Nat → Nat}
theorem f_new (C0 : cx Ts cc nL ret own E p s m args meth c) {C : String} {T : u_T} {N ci index : Nat} (hin : ∀ w ∈ u_ws C T N, w ∈ Ts) (ty : Nat → FieldType) (hty : ∀ k, k < N → parseFieldDescriptor (T k).2.2.1 = some (ty k)) (hcl : Cond.classLink own index C ∈ Ts) (hinst : Cond.instantiable C N ∈ Ts) (hini : Cond.initialized C ∈ Ts) (hc : vwCl[ci]? = some (C, T, N)) {fs : List Value} (hfs : ∀ j, j < N → defaultValue (ty j) = vp_V fs j) (hcells : cells + 1 ≤ R.cells) (hslots : slots + N ≤ R.slots) (hdg : decode cc pc = .ok (.new index, 3))
    (kk : ∀ (H1 : Heap), va_at E.1 vwCl (H.size, .inr (ci, fs)) H1 → H1.size = H.size + 1 → (∀ q, q < H.size → H1[q]? = H[q]?) → W p l e R s m args below meth c H1 locs (cells + 1) (slots + N) Q (F0 m (pc + 3) ls (.ref H.size :: rest))) : W p l e R s m args below meth c H locs cells slots Q (F0 m pc ls rest) := by
  obtain ⟨hx, hb, hr, hml, hown, hts, hlk, hK⟩ := C0
  have hKn := hK.1.1 ci _ hc
  refine W.newcK hx hb hown (hts _ hcl) (hts _ hinst) (hts _ hini) rfl hdg hcells hslots hKn.2.1 rfl fun H1 kC hkC e1 z1 o1 => ?_
  exact kk H1 ⟨_, hc, (u_born ty hts hin hKn hkC e1 hty).to hfs⟩ z1 o1
theorem f_astR (C0 : cx Ts cc nL ret own E p s m args meth c) {w w' : fw} {a v : Nat} {vs : List Value} {f : Nat → Option Nat} (hP : fP E w H) (hI : fI w) (hS : va_S A s.heap H locs) (j j2 : Nat) (he : w j = some (a, .inl (E.2 3, 4, .inr (.inr (.inr (.inr f)))))) (hv : w j2 = some (v, .inr (2, vs))) (hAa : A a) {i : Int32} (hin : ¬ (i < 0 ∨ 4 ≤ i.toNatClampNeg)) (hw : ∀ i, i ≠ j → w' i = w i) (hw2 : w' j = some (a, .inl (E.2 3, 4, .inr (.inr (.inr (.inr (va_up f i.toNatClampNeg (some v)))))))) (hdg : decode cc pc = .ok (.aastore, 1))
    (kk : ∀ (H1 : Heap) (locs1 : List Loc), fP E w' H1 → va_S A s.heap H1 locs1 → W p l e R s m args below meth c H1 locs1 cells slots Q (F0 m (pc + 1) ls rest)) : W p l e R s m args below meth c H locs cells slots Q (F0 m pc ls (.ref v :: .int i :: .ref a :: rest)) := by
  obtain ⟨hx, hb, hr, hml, hown, hts, hlk, hK⟩ := C0
  have hlt : i.toNatClampNeg < 4 := Nat.not_le.mp fun q => hin (Or.inr q)
  have h0 : ¬ i < 0 := fun q => hin (Or.inl q)
  obtain ⟨r', hr', cellV, g1, g2, g3, -⟩ := hP j2 _ hv
  have hcls := (hK.1.1 2 _ rfl).2
  obtain ⟨kA, comp, k1, k2, k3, -⟩ := (hK.1.2 3 _ rfl).2
  have hcomp : comp = E.1.1 2 := Option.some.inj (k3.symm.trans hcls.1)
  subst hcomp
  obtain ⟨kC, hkC, -⟩ := hcls.2
  refine W.aast hx hb (hP j _ he) (fun q h => by cases h) (fun h => by cases h) k1 k2 rfl hkC ⟨h0, by show _ < (arrV _ _ _).slots.size; rw [arrV_size]; exact hlt⟩ g1 (fun q h => by rw [g3] at h; cases h) (by rw [g2]; exact hkC) (by rw [g2]; exact va_assign hcls) rfl rfl hdg fun H1 e1 z oq => ?_
  refine kk H1 _ (fP.set hP hI he ?_ oq hw hw2) (hS.put z oq hAa)
  show H1[a]? = some (vp_cell _ _)
  rw [e1, vp_cell_q, vp_cell_q, arrV_store]
  congr 2
  funext q
  by_cases hq : q = i.toNatClampNeg
  · subst hq
    simp [updV, va_up, va_rf]
  · simp [updV, va_up, hq]
theorem e_shI {out : Int32 × SX} {v : Int32} {u : SX} {B' : Nat → Nat} {b0 : Nat} (C0 : cx Ts cc nL (some .int) own E p s m args meth c) (hS : va_S A s.heap H locs) (hq : QX E A B' u H) (hb0 : B' 0 = b0) (hf : some (v, u) = some out) (h1 : cells ≤ 2) (h2 : slots ≤ 62) (hdg : decode cc pc = .ok (.ireturn, 1)) : W p l e R s m args below meth c H locs cells slots (MQ below (va_Qi (fun r (B' : Nat → Nat) => r = out.1 ∧ B' 0 = b0) (fun B' t => QX E A B' out.2 t.heap) A) args s 2 62 A) (F0 m pc ls [.int v]) := by
  obtain ⟨hx, hb, hr, hml, hown, hts, hlk, hK⟩ := C0
  obtain rfl := Option.some.inj hf
  refine W.widen (k := 2) (n := 62) h1 h2 ?_
  exact W.iret hx hb hr (fun t ht hW => ⟨⟨v, B', rfl, ⟨rfl, hb0⟩, by show QX E A B' u t.heap; rw [ht]; exact hq⟩, hS.F ht⟩) hS.2.2 hdg
end SHEET
/-- new addresses of sheet k's row -/
def bsh (B : Nat → Nat) (k a q : Nat) : Nat → Nat := fun i => if i = 14 + k then a else if i = 18 + k then q else B i
/-- the class's places, and two new cells beside them -/
def wsh (E : EE) (B : Nat → Nat) (u : SX) (a q : Nat) (lane : Int32) (n : Nat) : fw := fun j => if j = 22 then some (a, .inr (2, [.int lane, .ref q])) else if j = 23 then some (q, .inl (E.2 0, n, .inl (fun _ => 0))) else cX E B u j
def wsh2 (E : EE) (B : Nat → Nat) (u : SX) (a q : Nat) (lane : Int32) (n k : Nat) : fw := fun j => if j = 3 then some (B 3, .inl (E.2 3, 4, .inr (.inr (.inr (.inr (va_up (shf B u.2.2.2.1) k (some a))))))) else wsh E B u a q lane n j
theorem cX_22 {E : EE} {B : Nat → Nat} {u : SX} {j : Nat} (h : ¬ j < 22) : cX E B u j = none := by
  unfold cX
  simp [show ¬ j = 0 by omega, show ¬ j = 1 by omega, show ¬ j = 2 by omega, show ¬ j = 3 by omega, show ¬ j < 8 by omega, show ¬ j < 14 by omega, show ¬ j < 18 by omega, h]
/-- where the new places come from -/
def jsh (k j : Nat) : Nat := if j = 14 + k then 22 else if j = 18 + k then 23 else j
theorem cX_sheet {E : EE} {B : Nat → Nat} {u : SX} {a q k n : Nat} {lane : Int32} (hk : k < 4) {j : Nat} {x : Nat × va_E} (hx : cX E (bsh B k a q) (xsh u (va_up u.2.2.2.1 k (some (lane, n, fun _ => 0)))) j = some x) : ∃ y, wsh2 E B u a q lane n k (jsh k j) = some y ∧ y.1 = x.1 ∧ ∀ H, va_at E.1 vwCl y H → va_at E.1 vwCl x H := by
  have h22 : j < 22 := Nat.not_le.mp fun z => absurd hx (by rw [cX_22 (by omega)]; exact fun z => by cases z)
  have hb : ∀ i, i < 14 → bsh B k a q i = B i := fun i hi => by simp [bsh, show ¬ i = 14 + k by omega, show ¬ i = 18 + k by omega]
  by_cases h1 : j = 14 + k
  · subst h1
    rw [cX_row (r := (lane, n, fun _ => 0)) hk (by simp [xsh, va_up])] at hx
    cases hx
    refine ⟨(a, .inr (2, [.int lane, .ref q])), by simp [wsh2, wsh, jsh], by simp [bsh], fun H h => ?_⟩
    have e1 : bsh B k a q (14 + k) = a := by simp [bsh]
    have e2 : bsh B k a q (18 + k) = q := by simp [bsh]
    rw [e1, e2]
    exact h
  by_cases h2 : j = 18 + k
  · subst h2
    rw [cX_dat (r := (lane, n, fun _ => 0)) hk (by simp [xsh, va_up])] at hx
    cases hx
    have e2 : bsh B k a q (18 + k) = q := by simp [bsh]
    refine ⟨(q, .inl (E.2 0, n, .inl (fun _ => 0))), by simp [wsh2, wsh, jsh, h1], e2.symm, fun H h => ?_⟩
    rw [e2]
    exact h
  have hj : jsh k j = j := by simp [jsh, h1, h2]
  rw [hj]
  by_cases h3 : j = 3
  · subst h3
    have hx' := Option.some.inj hx
    subst hx'
    refine ⟨(B 3, .inl (E.2 3, 4, .inr (.inr (.inr (.inr (va_up (shf B u.2.2.2.1) k (some a))))))), by simp [wsh2], (hb 3 (by omega)).symm, fun H h => ?_⟩
    have h' : H[B 3]? = some (vp_cell _ _) := h
    show H[bsh B k a q 3]? = some (vp_cell _ _)
    rw [hb 3 (by omega), h', vp_cell_q, vp_cell_q]
    refine congrArg some (arrV_same (fun i hi => ?_))
    by_cases hik : i = k
    · subst hik; simp [shf, xsh, va_up, bsh]
    · have e1 : bsh B k a q (14 + i) = B (14 + i) := by simp [bsh, hik, show ¬ 14 + i = 18 + k by omega]
      simp [shf, xsh, va_up, hik, e1]
  by_cases hj1 : j = 1
  · subst hj1
    have hx' := Option.some.inj hx
    subst hx'
    refine ⟨(B 1, .inl (E.2 2, 6, .inr (.inr (.inr (.inr (fun k => some (B (8 + k)))))))), by simp [wsh2, wsh, cX], (hb 1 (by omega)).symm, fun H h => ?_⟩
    have h' : H[B 1]? = some (vp_cell _ _) := h
    show H[bsh B k a q 1]? = some (vp_cell _ _)
    rw [hb 1 (by omega), h', vp_cell_q, vp_cell_q]
    refine congrArg some (arrV_same (fun i hi => ?_))
    rw [hb (8 + i) (by omega)]
  have key : cX E (bsh B k a q) (xsh u (va_up u.2.2.2.1 k (some (lane, n, fun _ => 0)))) j = cX E B u j := by
    unfold cX xsh
    dsimp only
    by_cases h14 : j < 14
    · by_cases h8 : j < 8
      · have f1 : fsX (bsh B k a q) u.1 = fsX B u.1 := by simp only [fsX, hb 1 (by omega), hb 2 (by omega), hb 3 (by omega), hb 4 (by omega)]
        have f2 : cD E (fun i => bsh B k a q (4 + i)) u.2.2.2.2 (j - 4) = cD E (fun i => B (4 + i)) u.2.2.2.2 (j - 4) := by
          simp only [cD, fsD, Nat.reduceAdd, hb 4 (by omega), hb 5 (by omega), hb 6 (by omega), hb 7 (by omega)]
        simp only [h8, h3, hj1, if_true, if_false, f1, f2, hb 0 (by omega), hb 2 (by omega)]
      · simp only [h8, h14, h3, hj1, if_true, if_false, hb j h14, show ¬ j = 0 by omega, show ¬ j = 2 by omega]
    · have ej : bsh B k a q j = B j := by simp [bsh, h1, h2]
      by_cases h18 : j < 18
      · have hjk : ¬ j - 14 = k := by omega
        have ej4 : bsh B k a q (j + 4) = B (j + 4) := by simp [bsh, show ¬ j + 4 = 14 + k by omega, show ¬ j + 4 = 18 + k by omega]
        simp only [show ¬ j = 0 by omega, hj1, show ¬ j = 2 by omega, h3, show ¬ j < 8 by omega, h14, h18, if_true, if_false, va_up, hjk, ej, ej4]
      · have hjk : ¬ j - 18 = k := by omega
        simp only [show ¬ j = 0 by omega, hj1, show ¬ j = 2 by omega, h3, show ¬ j < 8 by omega, h14, h18, h22, if_true, if_false, va_up, hjk, ej]
  rw [key] at hx
  exact ⟨x, by simp [wsh2, wsh, h3, show ¬ j = 22 by omega, show ¬ j = 23 by omega, hx], rfl, fun _ h => h⟩
theorem jsh_inj {k i j : Nat} (hi : i < 22) (hj : j < 22) (h : jsh k i = jsh k j) : i = j := by
  unfold jsh at h
  repeat' split at h
  all_goals omega
def fX4_sheet (x1 : Int32) (x2 : Int32) (x3 : Int32) (u : SX) : Option (Int32 × SX) :=
    (fX4_isSheet x1).bind (fun q1 =>
    if q1 = 0 then
    (some ((-1 : Int32), ((upd u.1 9 (0 : Int32)), u.2.1, u.2.2.1, u.2.2.2.1, u.2.2.2.2)))
    else ((fX4_isLane x2).bind (fun q4 =>
    if q4 = 0 then
    (some ((-2 : Int32), ((upd u.1 9 (0 : Int32)), u.2.1, u.2.2.1, u.2.2.2.1, u.2.2.2.2)))
    else (if x3 ≤ (60 : Int32) then
    (if 0 ≤ x3 then
    (if x1 < 0 ∨ 4 ≤ x1.toNatClampNeg then none else
    (some ((1 : Int32), ((upd u.1 9 (0 : Int32)), u.2.1, u.2.2.1, va_up u.2.2.2.1 x1.toNatClampNeg (some (x2, x3.toNatClampNeg, fun _ => 0)), u.2.2.2.2))))
    else ((fX4_faulted (4 : Int32) ((upd u.1 9 (0 : Int32)), u.2.1, u.2.2.1, u.2.2.2.1, u.2.2.2.2)).bind (fun q7 =>
    some (q7.1, q7.2))))
    else (some ((-2 : Int32), ((upd u.1 9 (0 : Int32)), u.2.1, u.2.2.1, u.2.2.2.1, u.2.2.2.2)))))))
abbrev rmX4_sheet : Room := { frames := 2, cells := 2, slots := 62, locals := 60 }
theorem iX4_sheet_X4 : ∀ w ∈ wsX40, w ∈ wsX4_sheet := by decide +kernel
theorem iX4_sheet_X2 : ∀ w ∈ wsX20, w ∈ wsX4_sheet := by decide +kernel
set_option maxHeartbeats 8000000 in
set_option maxRecDepth 100000 in
theorem tX4_sheet {l : Launch} (E : EE) (A : Nat → Prop) (B : Nat → Nat) {u : SX} (sz : Nat) {x1 x2 x3 : Int32} {out : Int32 × SX} (hI : fI (cX E B u)) (hA : AX E B u A) (hAz : ∀ q, sz ≤ q → A q) (hf : fX4_sheet x1 x2 x3 u = some out) : Met l yX4_sheet wsX4_sheet rmX4_sheet (va_Pc [.ref (B 0), .int x1, .int x2, .int x3] (fun U => (U.heap.size = sz ∧ fP E (cX E B u) U.heap) ∧ KE E U)) (va_Qi (fun r (B' : Nat → Nat) => r = out.1 ∧ B' 0 = B 0) (fun B' t => QX E A B' out.2 t.heap) A) 2 62 A := by
  refine Met.ofW (cc := cX4_sheet) (maxL := 4) (ret := (some .int)) (by decide) rfl ?_
  intro p e s m args below meth c s₁ B0 hml hv
  obtain ⟨rfl, ⟨hsz, hP⟩, hK⟩ := hv
  have C0 : cx wsX4_sheet cX4_sheet 4 (some .int) RX4 E p s m _ meth c := ⟨B0.exec, B0.bytes, B0.returns, hml, findClass_of_methodNamed B0.named, atoms_spec (ws := wsX4_sheet) B0.pre, B0.notSynchronized, hK⟩
  obtain ⟨hx, hb, hr, -, hown, hts, hlk, -⟩ := id C0
  have hl := lv_entry ([.ref (B 0), .int x1, .int x2, .int x3]) (n := 4) (Nat.le_of_ble_eq_true rfl)
  rw [lg_entry_eq]
  generalize (lg_sl ([.ref (B 0), .int x1, .int x2, .int x3]) ++ List.replicate (4 - (lg_sl ([.ref (B 0), .int x1, .int x2, .int x3])).length) Slot.unset).toArray = ls at hl ⊢
  subst hsz
  have hW : WX E A B u s s.heap [] := ⟨hP, hI, hA, va_S.rf⟩
  unfold fX4_sheet at hf
  refine lv_aload_n hx hb dX4_sheet_0 rfl (lv_at hl 0 rfl) ?_
  refine lv_iconst (v := (0 : Int32)) hx hb dX4_sheet_1 (by decide) ?_
  refine x_put C0 hW iX4_sheet_X4 9 (by decide) (by decide +kernel) rfl (by decide +kernel) rfl dX4_sheet_2 (fun H locs hW => ?_)
  have hW : WX E A B ((upd u.1 9 (0 : Int32)), u.2.1, u.2.2.1, u.2.2.2.1, u.2.2.2.2) s H locs := hW
  refine lv_iload_n hx hb dX4_sheet_5 rfl (lv_at hl 1 rfl) ?_
  obtain ⟨q1, h2, hf⟩ := bd hf
  refine k_roI (run_S (rest := []) (n := 1) (PH := fun _ => True) C0 (tX4_isSheet E h2) gX4_sheet_X4_isSheet rfl rfl (by decide +kernel) trivial hl.1 rfl rfl (Nat.le_of_ble_eq_true rfl) dX4_sheet_6) ?_
  refine lv_if_ne (tgt := 14) hx hb dX4_sheet_9 (by decide) (fun c3 => ?_) (fun c3 => ?_)
  · have hf := el hf c3
    refine lv_iload_n hx hb dX4_sheet_14 rfl (lv_at hl 2 rfl) ?_
    obtain ⟨q4, h5, hf⟩ := bd hf
    refine k_roI (run_S (rest := []) (n := 1) (PH := fun _ => True) C0 (tX4_isLane E h5) gX4_sheet_X4_isLane rfl rfl (by decide +kernel) trivial hl.1 rfl rfl (Nat.le_of_ble_eq_true rfl) dX4_sheet_15) ?_
    refine lv_if_eq (tgt := 27) hx hb dX4_sheet_18 (by decide) (fun c6 => ?_) (fun c6 => ?_)
    · have hf := th hf c6
      refine lv_bipush (v := (-2 : Int32)) hx hb dX4_sheet_27 (by decide) ?_
      exact e_shI C0 hW.2.2.2 ⟨hW.1, hW.2.1, hW.2.2.1⟩ rfl hf (by omega) (by omega) dX4_sheet_29
    · have hf := el hf c6
      refine lv_iload_n hx hb dX4_sheet_21 rfl (lv_at hl 3 rfl) ?_
      refine lv_bipush (v := (60 : Int32)) hx hb dX4_sheet_22 (by decide) ?_
      refine lv_icmp_le (tgt := 30) hx hb dX4_sheet_24 (by decide) (fun c7 => ?_) (fun c7 => ?_)
      · have hf := th hf c7
        refine lv_iload_n hx hb dX4_sheet_30 rfl (lv_at hl 3 rfl) ?_
        refine lv_if_ge (tgt := 40) hx hb dX4_sheet_31 (by decide) (fun c8 => ?_) (fun c8 => ?_)
        · have hf := th hf c8
          obtain ⟨h9, hf⟩ := gd hf
          refine lv_aload_n hx hb dX4_sheet_40 rfl (lv_at hl 0 rfl) ?_
          refine x_get C0 hW.1 iX4_sheet_X4 6 (by decide) (by decide +kernel) rfl dX4_sheet_41 ?_
          refine lv_iload_n hx hb dX4_sheet_44 rfl (lv_at hl 1 rfl) ?_
          refine f_new (ci := 2) (C := RX2) (T := TX2) (N := 2) (fs := [.int 0, .null]) C0 iX4_sheet_X2 tyX2 tyX2_ok (by decide +kernel) (by decide +kernel) (by decide +kernel) rfl (fun j hj => by rcases (show j = 0 ∨ j = 1 by omega) with rfl | rfl <;> rfl) (Nat.le_of_ble_eq_true rfl) (Nat.le_of_ble_eq_true rfl) dX4_sheet_45 (fun H1 hv1 hz1 ho1 => ?_)
          generalize ha : H.size = a at hv1 hz1 ho1 ⊢
          refine lv_dup hx hb dX4_sheet_48 rfl ?_
          refine lv_iload_n hx hb dX4_sheet_49 rfl (lv_at hl 2 rfl) ?_
          refine lv_iload_n hx hb dX4_sheet_50 rfl (lv_at hl 3 rfl) ?_
          have hS1 : va_S A s.heap H1 locs := ⟨by rw [hz1]; exact Nat.le_succ_of_le (ha ▸ hW.2.2.2.1), fun q g1 g2 => (ho1 q (ha ▸ Nat.lt_of_lt_of_le g1 hW.2.2.2.1)).trans (hW.2.2.2.2.1 q g1 g2), hW.2.2.2.2.2⟩
          have hA3 : A (B 3) := hW.2.2.1 3 _ rfl
          have hA0 : ∀ q, a ≤ q → A q := fun q g => hAz q (Nat.le_trans (ha ▸ hW.2.2.2.1) g)
          have hn0 : ¬ x3 < 0 := Int32.not_lt.mpr c8
          have hn60 : x3.toNatClampNeg ≤ 60 := by
            have := Int32.le_iff_toInt_le.mp c7
            show x3.toInt.toNat ≤ 60
            have e60 : (60 : Int32).toInt = 60 := by decide
            omega
          have hF1 : ∀ q, va_A [(a, .inr (2, [.int 0, .null]))] H1.size q → A q := by
            rintro q (⟨k, e1, h⟩ | h)
            · rcases k with _ | k
              · cases h; exact hA0 _ (Nat.le_refl _)
              · simp at h
            · exact hA0 q (by omega)
          refine va_callv (va_runIN (host := "LoserDraws") (As := [.int x2, .int x3]) (rest := [.ref a, .int x1, .ref (B 3)]) ⟨hx, hb, hml, hown, hts⟩ (tX2_init E a H1.size (va_A [(a, .inr (2, [.int 0, .null]))] H1.size) (Or.inl ⟨0, _, rfl⟩) (fun q h => Or.inr h) x2 x3 hn0 hn60) ⟨va_cnB 2 hts gX4_sheet_X2_init_n165 rfl rfl rfl (hK.2 _ (by decide +kernel)) (hts (.initialized RX2) (by decide +kernel)) (by decide +kernel) ⟨Nat.le_of_ble_eq_true rfl, Nat.le_of_ble_eq_true rfl⟩, rfl, hts (.instanceMethod yX2_init) (by decide +kernel)⟩ ⟨blind (PH := fun Z => Z.size = H1.size ∧ va_at E.1 vwCl (a, .inr (2, [.int 0, .null])) Z), pay (PH := fun Z => Z.size = H1.size ∧ va_at E.1 vwCl (a, .inr (2, [.int 0, .null])) Z) hK ⟨rfl, hv1⟩⟩ rfl rfl hl.1 rfl (lv_room (Nat.le_of_ble_eq_true rfl)) dX4_sheet_51 ⟨Nat.le_of_ble_eq_true rfl, Nat.le_of_ble_eq_true rfl⟩) hS1 (fun q _ h => hF1 q h) hF1 (fun q t H2 locs2 ht hvm hw hB hz2 hk2 hS2 => ?_)
          obtain ⟨hP2, hD2⟩ := hB
          rw [ht] at hP2
          have hqa : a ≠ q := fun z => by
            have := hD2.1 0 1 _ _ rfl rfl z
            omega
          have hqz : H1.size ≤ q := by
            rcases hD2.2 1 _ rfl with ⟨k, e1, h⟩ | h
            · rcases k with _ | k
              · cases h; exact absurd rfl hqa
              · simp at h
            · exact h
          have hP3 : fP E (wsh E B ((upd u.1 9 (0 : Int32)), u.2.1, u.2.2.1, u.2.2.2.1, u.2.2.2.2) a q x2 x3.toNatClampNeg) H2 := by
            intro j x hj
            unfold wsh at hj
            split at hj
            · cases hj; exact hP2 0 _ rfl
            · split at hj
              · cases hj; exact hP2 1 _ rfl
              · have h0 := hW.1 j x hj
                have hlt := h0.lt
                refine h0.kept ?_
                rw [hk2 x.1 (by omega) ?_, ho1 x.1 (by omega)]
                rintro (⟨k, e1, h⟩ | h)
                · rcases k with _ | k
                  · cases h; omega
                  · simp at h
                · omega
          have hI3 : fI (wsh E B ((upd u.1 9 (0 : Int32)), u.2.1, u.2.2.1, u.2.2.2.1, u.2.2.2.2) a q x2 x3.toNatClampNeg) := by
            have ad : ∀ j x, wsh E B ((upd u.1 9 (0 : Int32)), u.2.1, u.2.2.1, u.2.2.2.1, u.2.2.2.2) a q x2 x3.toNatClampNeg j = some x → (j = 22 ∧ x.1 = a) ∨ (j = 23 ∧ x.1 = q) ∨ (cX E B ((upd u.1 9 (0 : Int32)), u.2.1, u.2.2.1, u.2.2.2.1, u.2.2.2.2) j = some x ∧ x.1 < a) := by
              intro j x hj
              unfold wsh at hj
              split at hj
              · rename_i h; cases hj; exact Or.inl ⟨h, rfl⟩
              · split at hj
                · rename_i h; cases hj; exact Or.inr (Or.inl ⟨h, rfl⟩)
                · exact Or.inr (Or.inr ⟨hj, ha ▸ (hW.1 j x hj).lt⟩)
            intro i j x y hi hj hxy
            rcases ad i x hi with ⟨h1, h2⟩ | ⟨h1, h2⟩ | ⟨h1, h2⟩ <;> rcases ad j y hj with ⟨h3, h4⟩ | ⟨h3, h4⟩ | ⟨h3, h4⟩ <;> first | omega | exact hW.2.1 i j x y h1 h3 hxy
          refine f_astR (w' := wsh2 E B ((upd u.1 9 (0 : Int32)), u.2.1, u.2.2.1, u.2.2.2.1, u.2.2.2.2) a q x2 x3.toNatClampNeg x1.toNatClampNeg) C0 hP3 hI3 hS2 3 22 (f := shf B u.2.2.2.1) rfl rfl (hW.2.2.1 3 _ rfl) h9 (fun i hi => by simp [wsh2, hi]) rfl dX4_sheet_54 (fun H3 locs3 hP4 hS3 => ?_)
          refine lv_iconst (v := (1 : Int32)) hx hb dX4_sheet_55 (by decide) ?_
          have hI4 : fI (wsh2 E B ((upd u.1 9 (0 : Int32)), u.2.1, u.2.2.1, u.2.2.2.1, u.2.2.2.2) a q x2 x3.toNatClampNeg x1.toNatClampNeg) := fI.set hI3 (k := 3) rfl (fun i hi => by simp [wsh2, hi]) rfl
          refine e_shI (B' := bsh B x1.toNatClampNeg a q) C0 hS3 ⟨?_, ?_, ?_⟩ (by simp [bsh, show ¬ 0 = 14 + x1.toNatClampNeg by omega, show ¬ 0 = 18 + x1.toNatClampNeg by omega]) hf (by omega) (by omega) dX4_sheet_56
          · intro j x hj
            obtain ⟨y, g1, g2, g3⟩ := cX_sheet (u := ((upd u.1 9 (0 : Int32)), u.2.1, u.2.2.1, u.2.2.2.1, u.2.2.2.2)) (lt_in h9) hj
            exact g3 H3 (hP4 _ y g1)
          · intro i j x y hi hj hxy
            have bi : i < 22 := Nat.not_le.mp fun z => absurd hi (by rw [cX_22 (by omega)]; exact fun z => by cases z)
            have bj : j < 22 := Nat.not_le.mp fun z => absurd hj (by rw [cX_22 (by omega)]; exact fun z => by cases z)
            obtain ⟨x', g1, g2, -⟩ := cX_sheet (u := ((upd u.1 9 (0 : Int32)), u.2.1, u.2.2.1, u.2.2.2.1, u.2.2.2.2)) (lt_in h9) hi
            obtain ⟨y', g3, g4, -⟩ := cX_sheet (u := ((upd u.1 9 (0 : Int32)), u.2.1, u.2.2.1, u.2.2.2.1, u.2.2.2.2)) (lt_in h9) hj
            exact jsh_inj bi bj (hI4 _ _ x' y' g1 g3 (by rw [g2, g4]; exact hxy))
          · intro j x hj
            obtain ⟨y, g1, g2, -⟩ := cX_sheet (u := ((upd u.1 9 (0 : Int32)), u.2.1, u.2.2.1, u.2.2.2.1, u.2.2.2.2)) (lt_in h9) hj
            rw [← g2]
            unfold wsh2 wsh at g1
            split at g1
            · cases g1; exact hA3
            · split at g1
              · cases g1; exact hA0 _ (Nat.le_refl _)
              · split at g1
                · cases g1; exact hA0 _ (by omega)
                · exact hW.2.2.1 _ _ g1
        · have hf := el hf c8
          refine lv_aload_n hx hb dX4_sheet_34 rfl (lv_at hl 0 rfl) ?_
          refine lv_iconst (v := (4 : Int32)) hx hb dX4_sheet_35 (by decide) ?_
          obtain ⟨q7, h8, hf⟩ := bd hf
          refine k_muI (run_V (rest := []) (n := 1) C0 (tX4_faulted (u := ((upd u.1 9 (0 : Int32)), u.2.1, u.2.2.1, u.2.2.2.1, u.2.2.2.2)) E A B hW.2.1 hW.2.2.1 h8) gX4_sheet_X4_faulted rfl rfl (by decide +kernel) (hW.1 0 _ rfl) rfl rfl hW.1 hl.1 rfl rfl (Nat.le_of_ble_eq_true rfl) dX4_sheet_36) hW.2.2.2 (fun _ h => h) (fun H locs hQ _ hS => ?_)
          exact e_shI C0 hS hQ rfl hf (by omega) (by omega) dX4_sheet_39
      · have hf := el hf c7
        refine lv_bipush (v := (-2 : Int32)) hx hb dX4_sheet_27 (by decide) ?_
        exact e_shI C0 hW.2.2.2 ⟨hW.1, hW.2.1, hW.2.2.1⟩ rfl hf (by omega) (by omega) dX4_sheet_29
  · have hf := th hf c3
    refine lv_iconst (v := (-1 : Int32)) hx hb dX4_sheet_12 (by decide) ?_
    exact e_shI C0 hW.2.2.2 ⟨hW.1, hW.2.1, hW.2.2.1⟩ rfl hf (by omega) (by omega) dX4_sheet_13
