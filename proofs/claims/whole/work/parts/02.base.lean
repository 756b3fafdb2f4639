/-! worlds by a function from places to cells; one context for each method's walk -/
abbrev EE : Type := va_G × (Nat → ClassId)
def nestW : List Cond := [.fieldLinkNest "LoserDraws" 76 "LoserDraws$Citizen" "kind" "I" "LoserDraws", .fieldLinkNest "LoserDraws$Text" 34 "LoserDraws$Citizen" "kind" "I" "LoserDraws", .fieldLinkNest "LoserDraws" 79 "LoserDraws$Citizen" "tickets" "I" "LoserDraws", .fieldLinkNest "LoserDraws$Text" 43 "LoserDraws$Citizen" "tickets" "I" "LoserDraws", .fieldLinkNest "LoserDraws" 82 "LoserDraws$Citizen" "geese" "I" "LoserDraws", .fieldLinkNest "LoserDraws$Text" 46 "LoserDraws$Citizen" "geese" "I" "LoserDraws", .fieldLinkNest "LoserDraws" 85 "LoserDraws$Citizen" "wishes" "Z" "LoserDraws", .fieldLinkNest "LoserDraws$Text" 49 "LoserDraws$Citizen" "wishes" "Z" "LoserDraws", .fieldLinkNest "LoserDraws" 192 "LoserDraws$Row" "cells" "[I" "LoserDraws", .fieldLinkNest "LoserDraws" 216 "LoserDraws$Row" "isThere" "Z" "LoserDraws", .fieldLinkNest "LoserDraws" 189 "LoserDraws$Row" "lane" "I" "LoserDraws", .methodLinkNest "LoserDraws" 29 ⟨"LoserDraws$Drum", "<init>", "()V"⟩ "LoserDraws", .methodLinkNest "LoserDraws" 34 ⟨"LoserDraws$Citizen", "<init>", "()V"⟩ "LoserDraws", .methodLinkNest "LoserDraws" 35 ⟨"LoserDraws$Row", "<init>", "()V"⟩ "LoserDraws", .methodLinkNest "LoserDraws" 179 ⟨"LoserDraws$Row", "holds", "(II)Z"⟩ "LoserDraws", .methodLinkNest "LoserDraws" 59 ⟨"LoserDraws$Text", "firstFault", "(LLoserDraws$Row;II)I"⟩ "LoserDraws", .methodLinkNest "LoserDraws$Text" 9 ⟨"LoserDraws$Row", "at", "(I)I"⟩ "LoserDraws", .methodLinkNest "LoserDraws" 219 ⟨"LoserDraws$Text", "citizensIn", "(I)I"⟩ "LoserDraws", .methodLinkNest "LoserDraws" 186 ⟨"LoserDraws$Row", "at", "(I)I"⟩ "LoserDraws", .methodLinkNest "LoserDraws" 222 ⟨"LoserDraws$Text", "digit", "(I)I"⟩ "LoserDraws", .methodLinkNest "LoserDraws" 225 ⟨"LoserDraws$Text", "tellCitizen", "(LLoserDraws$Row;ILLoserDraws$Citizen;)V"⟩ "LoserDraws", .methodLinkNest "LoserDraws" 89 ⟨"LoserDraws$Citizen", "slips", "()I"⟩ "LoserDraws", .methodLinkNest "LoserDraws$Citizen" 16 ⟨"LoserDraws", "slipsOf", "(II)I"⟩ "LoserDraws", .methodLinkNest "LoserDraws" 232 ⟨"LoserDraws$Row", "has", "(III)Z"⟩ "LoserDraws", .methodLinkNest "LoserDraws" 236 ⟨"LoserDraws$Drum", "empty", "(II)V"⟩ "LoserDraws", .methodLinkNest "LoserDraws" 140 ⟨"LoserDraws$Drum", "setSlips", "(II)V"⟩ "LoserDraws", .methodLinkNest "LoserDraws" 156 ⟨"LoserDraws$Drum", "setWishes", "(IZ)V"⟩ "LoserDraws", .methodLinkNest "LoserDraws" 111 ⟨"LoserDraws$Drum", "passesUnder", "(I)Z"⟩ "LoserDraws", .methodLinkNest "LoserDraws" 119 ⟨"LoserDraws$Drum", "drawsSparing", "(I)J"⟩ "LoserDraws", .methodLinkNest "LoserDraws" 123 ⟨"LoserDraws$Drum", "draws", "()J"⟩ "LoserDraws", .methodLinkNest "LoserDraws" 134 ⟨"LoserDraws$Drum", "drawsLeavingJust", "(I)J"⟩ "LoserDraws", .methodLinkNest "LoserDraws" 137 ⟨"LoserDraws$Drum", "drawsPassing", "()J"⟩ "LoserDraws", .methodLinkNest "LoserDraws" 152 ⟨"LoserDraws$Drum", "passesByHalf", "()Z"⟩ "LoserDraws", .methodLinkNest "LoserDraws" 239 ⟨"LoserDraws$Drum", "canLeaveJust", "(I)Z"⟩ "LoserDraws", .methodLinkNest "LoserDraws" 166 ⟨"LoserDraws$Drum", "setDrawn", "(I)V"⟩ "LoserDraws", .methodLinkNest "LoserDraws" 173 ⟨"LoserDraws$Row", "begin", "(II)V"⟩ "LoserDraws", .methodLinkNest "LoserDraws" 176 ⟨"LoserDraws$Row", "end", "()V"⟩ "LoserDraws", .methodLinkNest "LoserDraws" 183 ⟨"LoserDraws$Row", "set", "(II)V"⟩ "LoserDraws"]
def NE (U : State) : Prop := ∀ w ∈ nestW, va_Nw w U
theorem nestW_on : ∀ w ∈ nestW, w.onTables = true := by decide +kernel
theorem NE.warm {s U : State} (hW : s.WarmedH U.vm) (h : NE s) : NE U := by
  intro w hw
  have h1 := h w hw
  simp only [nestW, List.mem_cons, List.not_mem_nil, or_false] at hw
  repeat' (first | (rcases hw with rfl | hw) | subst hw)
  all_goals first | exact va_Nw.warmF hW h1 | exact va_Nw.warmM hW h1
theorem NE.same {u U : State} (hv : u.vm = U.vm) (h : NE u) : NE U := fun w hw => va_Nw.same (nestW_on w hw) hv (h w hw)
def tyE (E : EE) : List (ClassId × FieldType) := [(E.2 0, .int), (E.2 1, .long), (E.2 2, .object "LoserDraws$Citizen"), (E.2 3, .object "LoserDraws$Row")]
def KE (E : EE) (U : State) : Prop := va_K E.1 vwCl (tyE E) U ∧ NE U
theorem KE.warm {E : EE} {s U : State} (hW : s.WarmedH U.vm) (h : KE E s) : KE E U := ⟨va_K.moved hW.alike h.1, NE.warm hW h.2⟩
theorem KE.calling {E : EE} {a : Array Value} {U : State} {g : JFrame} {mk : MethodId} (h : KE E U) : KE E (U.calling g mk a) := ⟨va_K.moved (u := U) (U := U.calling g mk a) (Vm.Alike.refl U.vm) h.1, NE.same (u := U) (U := U.calling g mk a) rfl h.2⟩
/-- what a method's walk has in hand throughout -/
def cx (Ts : List Cond) (cc : ByteArray) (nL : Nat) (ret : Option FieldType) (own : String) (E : EE) (p : Program) (s : State) (m : MethodId) (args : Array Value) (meth : Method) (c : Code) : Prop :=
  p.tables.exec = Jvm.exec ∧ c.code = cc ∧ meth.sig.returnType = ret ∧ c.maxLocals = nL ∧ s.vm.findClass own = some m.cls ∧ (∀ w ∈ Ts, w.before args s = true) ∧ meth.locks = false ∧ KE E s
abbrev fw : Type := Nat → Option (Nat × va_E)
def fP (E : EE) (w : fw) (H : Heap) : Prop := ∀ (k : Nat) (q : Nat × va_E), w k = some q → va_at E.1 vwCl q H
/-- the places' addresses are apart -/
def fI (w : fw) : Prop := ∀ (i j : Nat) (p q : Nat × va_E), w i = some p → w j = some q → p.1 = q.1 → i = j
def fA (w : fw) : Nat → Prop := fun q => ∃ (k : Nat) (e : va_E), w k = some (q, e)
theorem P1 {D : va_G} {q : Nat × va_E} {H : Heap} (h : va_at D vwCl q H) : va_P D vwCl [q] H := by
  intro k x hk
  cases k with
  | zero => cases hk; exact h
  | succ k => simp at hk
theorem fP.set {E : EE} {w w' : fw} {k a : Nat} {e0 e : va_E} {H H1 : Heap} (h : fP E w H) (hI : fI w) (hk : w k = some (a, e0)) (he : va_at E.1 vwCl (a, e) H1) (oq : ∀ q : Nat, q ≠ a → H1[q]? = H[q]?) (hw : ∀ j, j ≠ k → w' j = w j) (hk2 : w' k = some (a, e)) : fP E w' H1 := by
  intro j q hj
  by_cases hjk : j = k
  · subst hjk
    rw [hk2] at hj
    cases hj
    exact he
  · rw [hw j hjk] at hj
    exact (h j q hj).kept (oq q.1 (fun z => hjk (hI j k q (a, e0) hj hk z)))
theorem fI.set {w w' : fw} {k a : Nat} {e0 e : va_E} (hI : fI w) (hk : w k = some (a, e0)) (hw : ∀ j, j ≠ k → w' j = w j) (hk2 : w' k = some (a, e)) : fI w' := by
  have key : ∀ (j : Nat) (q : Nat × va_E), w' j = some q → ∃ q0, w j = some q0 ∧ q0.1 = q.1 := by
    intro j q hj
    by_cases hjk : j = k
    · subst hjk
      rw [hk2] at hj
      cases hj
      exact ⟨_, hk, rfl⟩
    · rw [hw j hjk] at hj
      exact ⟨q, hj, rfl⟩
  intro i j x y hi hj hxy
  obtain ⟨x0, h1, h2⟩ := key i x hi
  obtain ⟨y0, h3, h4⟩ := key j y hj
  exact hI i j x0 y0 h1 h3 (h2.trans (hxy.trans h4.symm))
/-- contracts: a method that changes nothing, and one that may change the cells in A -/
def roI (l : Launch) (y : MethodName) (ws : List Cond) (rm : Room) (E : EE) (av : List Value) (PH : Heap → Prop) (out : Int32) : Prop := Met l y ws rm (va_Pc av (fun U => PH U.heap ∧ KE E U)) (vp_Si (fun r => r = out)) 0 0 (fun _ => False)
def roL (l : Launch) (y : MethodName) (ws : List Cond) (rm : Room) (E : EE) (av : List Value) (PH : Heap → Prop) (out : Int64) : Prop := Met l y ws rm (va_Pc av (fun U => PH U.heap ∧ KE E U)) (vp_Sl (fun r => r = out)) 0 0 (fun _ => False)
def roQ (l : Launch) (y : MethodName) (ws : List Cond) (rm : Room) (E : EE) (av : List Value) (PH : Heap → Prop) (out : Option Nat) : Prop := Met l y ws rm (va_Pc av (fun U => PH U.heap ∧ KE E U)) (va_Sq (fun r => r = out)) 0 0 (fun _ => False)
def muI (l : Launch) (y : MethodName) (ws : List Cond) (rm : Room) (E : EE) (av : List Value) (A : Nat → Prop) (PH QH : Heap → Prop) (out : Int32) : Prop := Met l y ws rm (va_Pc av (fun U => PH U.heap ∧ KE E U)) (va_Qi (fun r (_ : Unit) => r = out) (fun _ t => QH t.heap) A) 0 0 A
def muL (l : Launch) (y : MethodName) (ws : List Cond) (rm : Room) (E : EE) (av : List Value) (A : Nat → Prop) (PH QH : Heap → Prop) (out : Int64) : Prop := Met l y ws rm (va_Pc av (fun U => PH U.heap ∧ KE E U)) (va_Ql (fun r (_ : Unit) => r = out) (fun _ t => QH t.heap) A) 0 0 A
def muV (l : Launch) (y : MethodName) (ws : List Cond) (rm : Room) (E : EE) (av : List Value) (A : Nat → Prop) (PH QH : Heap → Prop) : Prop := Met l y ws rm (va_Pc av (fun U => PH U.heap ∧ KE E U)) (va_Qv (fun (_ : Unit) => True) (fun _ t => QH t.heap) A) 0 0 A
theorem blind {E : EE} {av : List Value} {PH : Heap → Prop} : FrameBlind (va_Pc av (fun U => PH U.heap ∧ KE E U)) := fun _ _ _ _ q => ⟨q.1, q.2.1, q.2.2.calling⟩
theorem gd {α : Type} {c : Prop} [Decidable c] {k : Option α} {o : α} (h : (if c then none else k) = some o) : ¬ c ∧ k = some o := by
  by_cases hc : c
  · rw [if_pos hc] at h; cases h
  · rw [if_neg hc] at h; exact ⟨hc, h⟩
theorem bd {α β : Type} {x : Option α} {k : α → Option β} {o : β} (h : x.bind k = some o) : ∃ a, x = some a ∧ k a = some o := Option.bind_eq_some_iff.mp h
section RO
variable {p : Program} {l : Launch} {e : Env} {R : Room} {s : State} {m : MethodId} {args : Array Value} {below : List Frame} {meth : Method} {c : Code} {H : Heap} {locs : List Loc} {cells slots : Nat} {Q : State → Prop}
variable {cc : ByteArray} {pc nL : Nat} {ls : Array Slot} {rest : List Value} {E : EE} {A : Nat → Prop} {Ts : List Cond} {ret : Option FieldType} {own : String}
theorem r_get (C0 : cx Ts cc nL ret own E p s m args meth c) {C : String} {T : u_T} {N ci a : Nat} {fs : List Value} (he : va_at E.1 vwCl (a, .inr (ci, fs)) H) (hin : ∀ w ∈ u_ws C T N, w ∈ Ts) (hc : vwCl[ci]? = some (C, T, N)) (k : Nat) (hk : k < N) {index : Nat} (hlink : Cond.fieldLink own index (T k).1 (T k).2.1 (T k).2.2.1 ∈ Ts) {v : Value} (hv : fs[k]? = some v) (hdg : decode cc pc = .ok (.getfield index, 3))
    (kk : W p l e R s m args below meth c H locs cells slots Q (F0 m (pc + 3) ls (v :: rest))) : W p l e R s m args below meth c H locs cells slots Q (F0 m pc ls (.ref a :: rest)) := by
  obtain ⟨hx, hb, hr, hml, hown, hts, hlk, hK⟩ := C0
  exact va_get hx hb hts hin hown hK.1 (P1 he) 0 rfl hc k hk (hts _ hlink) (fun _ h => h) hv hdg kk
theorem r_getN (C0 : cx Ts cc nL ret own E p s m args meth c) {C : String} {T : u_T} {N ci a : Nat} {fs : List Value} (he : va_at E.1 vwCl (a, .inr (ci, fs)) H) (hin : ∀ w ∈ u_ws C T N, w ∈ Ts) (hc : vwCl[ci]? = some (C, T, N)) (k : Nat) (hk : k < N) {index : Nat} (hlink : Cond.fieldLinkNest own index (T k).1 (T k).2.1 (T k).2.2.1 "LoserDraws" ∈ nestW) {v : Value} (hv : fs[k]? = some v) (hdg : decode cc pc = .ok (.getfield index, 3))
    (kk : W p l e R s m args below meth c H locs cells slots Q (F0 m (pc + 3) ls (v :: rest))) : W p l e R s m args below meth c H locs cells slots Q (F0 m pc ls (.ref a :: rest)) := by
  obtain ⟨hx, hb, hr, hml, hown, hts, hlk, hK⟩ := C0
  exact va_getN hx hb hts hin hown hK.1 (P1 he) 0 rfl hc k hk (va_Nw.use (nestW_on _ hlink) (hK.2 _ hlink)) (fun _ h => h) hv hdg kk
theorem r_iald (C0 : cx Ts cc nL ret own E p s m args meth c) {a n : Nat} {f : Nat → Int32} (he : va_at E.1 vwCl (a, .inl (E.2 0, n, .inl f)) H) {i : Int32} (hin : ¬ (i < 0 ∨ n ≤ i.toNatClampNeg)) (hdg : decode cc pc = .ok (.iaload, 1))
    (kk : W p l e R s m args below meth c H locs cells slots Q (F0 m (pc + 1) ls (.int (f i.toNatClampNeg) :: rest))) : W p l e R s m args below meth c H locs cells slots Q (F0 m pc ls (.int i :: .ref a :: rest)) := by
  obtain ⟨hx, hb, hr, hml, hown, hts, hlk, hK⟩ := C0
  exact va_iald hx hb hK.1 (P1 he) 0 0 rfl rfl hin hdg kk
theorem r_lald (C0 : cx Ts cc nL ret own E p s m args meth c) {a n : Nat} {f : Nat → Int64} (he : va_at E.1 vwCl (a, .inl (E.2 1, n, .inr (.inl f))) H) {i : Int32} (hin : ¬ (i < 0 ∨ n ≤ i.toNatClampNeg)) (hdg : decode cc pc = .ok (.laload, 1))
    (kk : W p l e R s m args below meth c H locs cells slots Q (F0 m (pc + 1) ls (.long (f i.toNatClampNeg) :: rest))) : W p l e R s m args below meth c H locs cells slots Q (F0 m pc ls (.int i :: .ref a :: rest)) := by
  obtain ⟨hx, hb, hr, hml, hown, hts, hlk, hK⟩ := C0
  exact va_lald hx hb hK.1 (P1 he) 0 1 rfl rfl hin hdg kk
theorem r_aldC (C0 : cx Ts cc nL ret own E p s m args meth c) {a n : Nat} {f : Nat → Option Nat} (he : va_at E.1 vwCl (a, .inl (E.2 2, n, .inr (.inr (.inr (.inr f))))) H) {i : Int32} (hin : ¬ (i < 0 ∨ n ≤ i.toNatClampNeg)) (hdg : decode cc pc = .ok (.aaload, 1))
    (kk : W p l e R s m args below meth c H locs cells slots Q (F0 m (pc + 1) ls (va_rf (f i.toNatClampNeg) :: rest))) : W p l e R s m args below meth c H locs cells slots Q (F0 m pc ls (.int i :: .ref a :: rest)) := by
  obtain ⟨hx, hb, hr, hml, hown, hts, hlk, hK⟩ := C0
  exact va_aldq hx hb hK.1 (P1 he) 0 2 rfl rfl hin hdg kk
theorem r_aldR (C0 : cx Ts cc nL ret own E p s m args meth c) {a n : Nat} {f : Nat → Option Nat} (he : va_at E.1 vwCl (a, .inl (E.2 3, n, .inr (.inr (.inr (.inr f))))) H) {i : Int32} (hin : ¬ (i < 0 ∨ n ≤ i.toNatClampNeg)) (hdg : decode cc pc = .ok (.aaload, 1))
    (kk : W p l e R s m args below meth c H locs cells slots Q (F0 m (pc + 1) ls (va_rf (f i.toNatClampNeg) :: rest))) : W p l e R s m args below meth c H locs cells slots Q (F0 m pc ls (.int i :: .ref a :: rest)) := by
  obtain ⟨hx, hb, hr, hml, hown, hts, hlk, hK⟩ := C0
  exact va_aldq hx hb hK.1 (P1 he) 0 3 rfl rfl hin hdg kk
theorem r_alen (C0 : cx Ts cc nL ret own E p s m args meth c) {a t0 : Nat} {cA : ClassId} {ty : FieldType} {x : vp_A} (he : va_at E.1 vwCl (a, .inl (cA, x)) H) (ht : (tyE E)[t0]? = some (cA, ty)) (hdg : decode cc pc = .ok (.arraylength, 1))
    (kk : W p l e R s m args below meth c H locs cells slots Q (F0 m (pc + 1) ls (.int (Int32.ofNat x.1) :: rest))) : W p l e R s m args below meth c H locs cells slots Q (F0 m pc ls (.ref a :: rest)) := by
  obtain ⟨hx, hb, hr, hml, hown, hts, hlk, hK⟩ := C0
  exact va_alen hx hb hK.1 (P1 he) 0 t0 rfl ht rfl hdg kk
theorem f_put (C0 : cx Ts cc nL ret own E p s m args meth c) {C : String} {T : u_T} {N ci a : Nat} {fs : List Value} {w w' : fw} (hP : fP E w H) (hI : fI w) (hS : va_S A s.heap H locs) (j : Nat) (he : w j = some (a, .inr (ci, fs))) (hAa : A a) (hin : ∀ w ∈ u_ws C T N, w ∈ Ts) (hc : vwCl[ci]? = some (C, T, N)) (ty0 : Nat → FieldType) (hty : ∀ k, k < N → parseFieldDescriptor (T k).2.2.1 = some (ty0 k)) (hnm : ∀ a, a < N → ∀ b, b < N → a ≠ b → (T a).2.1 ≠ (T b).2.1) (k : Nat) (hk : k < N) {index : Nat} (hlink : Cond.fieldLink own index (T k).1 (T k).2.1 (T k).2.2.1 ∈ Ts) (hfin : (T k).2.2.2 = false) {ty : FieldType} {v : Value} (hd : parseFieldDescriptor (T k).2.2.1 = some ty) (hn : narrow ty v = v) (hfit : fits ty v = true) (hl : k < fs.length) (hw : ∀ i, i ≠ j → w' i = w i) (hw2 : w' j = some (a, .inr (ci, fs.set k v)))
    (hdg : decode cc pc = .ok (.putfield index, 3)) (kk : ∀ (H1 : Heap) (locs1 : List Loc), fP E w' H1 → va_S A s.heap H1 locs1 → W p l e R s m args below meth c H1 locs1 cells slots Q (F0 m (pc + 3) ls rest)) : W p l e R s m args below meth c H locs cells slots Q (F0 m pc ls (v :: .ref a :: rest)) := by
  obtain ⟨hx, hb, hr, hml, hown, hts, hlk, hK⟩ := C0
  have hap := va_apart (own := own) hts hin ty0 hty hnm hK.1 hc
  obtain ⟨r, h1, cell, q1, q2, q3, q4⟩ := hP j _ he
  have hr : r = (C, T, N) := Option.some.inj (h1.symm.trans hc)
  subst hr
  obtain ⟨hS1, hfc, kC, hkC, hkind⟩ := hK.1.1 ci _ hc
  obtain ⟨cf, kf, fi, f, hi, hsl⟩ := hS1 k hk
  have hlay := hts _ (hin _ (u_in_lay hk))
  unfold u_lay at hlay
  rw [if_neg (by rw [hfin]; decide)] at hlay
  have hst := (u_facts hfc hkC (u_lays hts hin hk) hi).1
  have h6 := u_store hfc hkC hkind hlay hi hd hn hfit
  refine W.putK hx hb (f := f) ⟨hown, hts _ hlink, ⟨_, _, _, hi⟩, hst⟩ (by rw [q2]; exact h6) q1 q3 (by rw [hsl]; exact k2_hasslot (q4 k hk)) rfl rfl hdg fun H' e1 e2 e3 => ?_
  rw [hsl] at e1 ⊢
  exact kk H' _ (fP.set (e := .inr (ci, fs.set k v)) hP hI he ⟨_, hc, t_OB.to (V := updV (vp_V fs) k v) ⟨_, e1, q2, q3, t_set q4 hap hk v⟩ (fun j _ => vp_updV_set hl v j)⟩ e3 hw hw2) (hS.put e2 e3 hAa)
theorem f_iast (C0 : cx Ts cc nL ret own E p s m args meth c) {a n : Nat} {f : Nat → Int32} {w w' : fw} (hP : fP E w H) (hI : fI w) (hS : va_S A s.heap H locs) (j : Nat) (he : w j = some (a, .inl (E.2 0, n, .inl f))) (hAa : A a) {i x : Int32} (hin : ¬ (i < 0 ∨ n ≤ i.toNatClampNeg)) (hw : ∀ i, i ≠ j → w' i = w i) (hw2 : w' j = some (a, .inl (E.2 0, n, .inl (upd f i.toNatClampNeg x)))) (hdg : decode cc pc = .ok (.iastore, 1))
    (kk : ∀ (H1 : Heap) (locs1 : List Loc), fP E w' H1 → va_S A s.heap H1 locs1 → W p l e R s m args below meth c H1 locs1 cells slots Q (F0 m (pc + 1) ls rest)) : W p l e R s m args below meth c H locs cells slots Q (F0 m pc ls (.int x :: .int i :: .ref a :: rest)) := by
  obtain ⟨hx, hb, hr, hml, hown, hts, hlk, hK⟩ := C0
  refine W.iast hx hb (hP j _ he) ((hK.1.2 0 _ rfl).1 n (fun j => .int (f j))) (fun q => by cases q) (by show ¬ (i < 0 ∨ (arrV _ _ _).slots.size ≤ _); rw [arrV_size]; exact hin) rfl rfl hdg fun H1 e1 z oq => ?_
  refine kk H1 _ (hP.set hI he ?_ oq hw hw2) (hS.put z oq hAa)
  show H1[a]? = some (vp_cell _ _)
  rw [e1, vp_cell_i, vp_cell_i, arrV_store]
  congr 2
  funext q
  by_cases hq : q = i.toNatClampNeg
  · subst hq
    simp [updV, upd]
  · simp [updV, upd, hq]
theorem f_last (C0 : cx Ts cc nL ret own E p s m args meth c) {a n : Nat} {f : Nat → Int64} {w w' : fw} (hP : fP E w H) (hI : fI w) (hS : va_S A s.heap H locs) (j : Nat) (he : w j = some (a, .inl (E.2 1, n, .inr (.inl f)))) (hAa : A a) {i : Int32} {x : Int64} (hin : ¬ (i < 0 ∨ n ≤ i.toNatClampNeg)) (hw : ∀ i, i ≠ j → w' i = w i) (hw2 : w' j = some (a, .inl (E.2 1, n, .inr (.inl (vp_updL f i.toNatClampNeg x))))) (hdg : decode cc pc = .ok (.lastore, 1))
    (kk : ∀ (H1 : Heap) (locs1 : List Loc), fP E w' H1 → va_S A s.heap H1 locs1 → W p l e R s m args below meth c H1 locs1 cells slots Q (F0 m (pc + 1) ls rest)) : W p l e R s m args below meth c H locs cells slots Q (F0 m pc ls (.long x :: .int i :: .ref a :: rest)) := by
  obtain ⟨hx, hb, hr, hml, hown, hts, hlk, hK⟩ := C0
  refine W.last hx hb (hP j _ he) ((hK.1.2 1 _ rfl).1 n (fun j => .long (f j))) (fun q => by cases q) (by show ¬ (i < 0 ∨ (arrV _ _ _).slots.size ≤ _); rw [arrV_size]; exact hin) rfl rfl hdg fun H1 e1 z oq => ?_
  refine kk H1 _ (hP.set hI he ?_ oq hw hw2) (hS.put z oq hAa)
  show H1[a]? = some (vp_cell _ _)
  rw [e1, vp_cell_l, vp_cell_l, arrV_store]
  congr 2
  funext q
  by_cases hq : q = i.toNatClampNeg
  · subst hq
    simp [updV, vp_updL]
  · simp [updV, vp_updL, hq]
end RO
section CALLS
variable {p : Program} {l : Launch} {e : Env} {R : Room} {s : State} {m : MethodId} {args : Array Value} {below : List Frame} {meth : Method} {c : Code} {H : Heap} {locs : List Loc} {cells slots : Nat} {Q : State → Prop}
variable {cc : ByteArray} {pc nL : Nat} {ls : Array Slot} {rest st0 : List Value} {E : EE} {Ts : List Cond} {ret : Option FieldType} {own : String}
variable {y : MethodName} {ws ws' : List Cond} {bytes : ByteArray} {maxL index n mc ms : Nat} {ret' : Option FieldType} {rm : Room} {PH : Heap → Prop} {Qc : Array Value → State → Outcome → State → Prop} {free : Addr → Prop} {b : Nat} {As : List Value}
def fits_in (rm : Room) (mc ms maxL : Nat) (R : Room) (cells slots : Nat) : Bool := decide (rm.cells = mc) && decide (rm.slots = ms) && decide (rm.frames + 1 ≤ R.frames) && decide (8 + (maxL + 11) + rm.locals ≤ R.locals) && decide (cells + mc ≤ R.cells) && decide (slots + ms ≤ R.slots)
theorem fits_in_ok (h : fits_in rm mc ms maxL R cells slots = true) : rm.cells = mc ∧ rm.slots = ms ∧ (rm.frames + 1 ≤ R.frames ∧ 8 + (maxL + 11) + rm.locals ≤ R.locals) ∧ (cells + mc ≤ R.cells ∧ slots + ms ≤ R.slots) := by
  simp only [fits_in, Bool.and_eq_true, decide_eq_true_eq] at h
  obtain ⟨⟨⟨⟨⟨h1, h2⟩, h3⟩, h4⟩, h5⟩, h6⟩ := h
  exact ⟨h1, h2, ⟨h3, h4⟩, h5, h6⟩
theorem recv9 {C : String} {T : u_T} {N ci : Nat} {fs : List Value} (hK : KE E s) (he : va_at E.1 vwCl (b, .inr (ci, fs)) H) (hc : vwCl[ci]? = some (C, T, N)) : ∃ cell : Cell, H[b]? = some cell ∧ cell.vm.isStatics = false ∧ s.vm.findClass C = some cell.cls := va_recv hK.1 (P1 he) (ci := ci) (q0 := 0) hc rfl
theorem pay (hC : KE E s) (hPH : PH H) {av : List Value} : ∀ U : State, U.heap = H → s.WarmedH U.vm → va_Pc av (fun U => PH U.heap ∧ KE E U) av.toArray U := fun U hU hW => ⟨rfl, by rw [hU]; exact hPH, hC.warm hW⟩
theorem run_V (C0 : cx Ts cc nL ret own E p s m args meth c) (hM : Met l y ws rm (va_Pc (.ref b :: As) (fun U => PH U.heap ∧ KE E U)) Qc mc ms free) (hg : GoodIn Ts (wsV own index y.cls y ws)) (hw : ws = Cond.code y bytes maxL ret' :: ws') (hrm : fits_in rm mc ms maxL R cells slots = true) (hd : y.cls ≠ "java/lang/invoke/MethodHandle" ∧ y.cls ≠ "java/lang/invoke/VarHandle" ∧ (parseMethodDescriptor y.desc).map (fun d => d.parameters.length) = some n) {C : String} {T : u_T} {N ci : Nat} {fs : List Value} (he : va_at E.1 vwCl (b, .inr (ci, fs)) H) (hc : vwCl[ci]? = some (C, T, N)) (hC : y.cls = C) (hPH : PH H) (hls : ls.size = nL) (hn : As.length = n) (hst : st0 = As.reverse ++ .ref b :: rest) (hroom : (rest.map fun v => v.category).sum ≤ 8) (hdg : decode cc pc = .ok (.invokevirtual index, 3)) :
    va_Run p l e R s m args below meth c H locs cells slots mc ms (F0 m pc ls st0) rest (Qc (Value.ref b :: As).toArray) free := by
  obtain ⟨hx, hb, hr, hml, hown, hts, hlk, hK⟩ := C0
  obtain ⟨h1, h2, h3, h4⟩ := fits_in_ok hrm
  exact va_runV ⟨hx, hb, hml, hown, hts⟩ hM (cwV n hts hg hw h1 h2 ⟨rfl, hd⟩ h3) ⟨blind, by rw [hC]; exact recv9 hK he hc, pay hK hPH⟩ rfl hn hls hst (lv_room hroom) hdg h4
theorem run_S (C0 : cx Ts cc nL ret own E p s m args meth c) (hM : Met l y ws rm (va_Pc As (fun U => PH U.heap ∧ KE E U)) Qc mc ms free) (hg : GoodIn Ts (va_wsS own index y ws)) (hw : ws = Cond.code y bytes maxL ret' :: ws') (hrm : fits_in rm mc ms maxL R cells slots = true) (hd : y.cls ≠ "java/lang/invoke/MethodHandle" ∧ y.cls ≠ "java/lang/invoke/VarHandle" ∧ (parseMethodDescriptor y.desc).map (fun d => d.parameters.length) = some n) (hPH : PH H) (hls : ls.size = nL) (hn : As.length = n) (hst : st0 = As.reverse ++ rest) (hroom : (rest.map fun v => v.category).sum ≤ 8) (hdg : decode cc pc = .ok (.invokestatic index, 3)) :
    va_Run p l e R s m args below meth c H locs cells slots mc ms (F0 m pc ls st0) rest (Qc As.toArray) free := by
  obtain ⟨hx, hb, hr, hml, hown, hts, hlk, hK⟩ := C0
  obtain ⟨h1, h2, h3, h4⟩ := fits_in_ok hrm
  exact va_runS ⟨hx, hb, hml, hown, hts⟩ hM (va_cwS n hts hg hw h1 h2 hd h3) ⟨blind, pay hK hPH⟩ rfl hn hls hst (lv_room hroom) hdg h4
theorem run_VN (C0 : cx Ts cc nL ret own E p s m args meth c) (hM : Met l y ws rm (va_Pc (.ref b :: As) (fun U => PH U.heap ∧ KE E U)) Qc mc ms free) (hg : GoodIn Ts ws) (hw : ws = Cond.code y bytes maxL ret' :: ws') (hnest : Cond.methodLinkNest own index y "LoserDraws" ∈ nestW) (hini : Cond.initialized y.cls ∈ Ts) (hins : Cond.instanceMethod y ∈ Ts) (hsel : Cond.selects y.cls y y ∈ Ts) (hrm : fits_in rm mc ms maxL R cells slots = true) (hd : y.cls ≠ "java/lang/invoke/MethodHandle" ∧ y.cls ≠ "java/lang/invoke/VarHandle" ∧ (parseMethodDescriptor y.desc).map (fun d => d.parameters.length) = some n) {C : String} {T : u_T} {N ci : Nat} {fs : List Value} (he : va_at E.1 vwCl (b, .inr (ci, fs)) H) (hc : vwCl[ci]? = some (C, T, N)) (hC : y.cls = C) (hPH : PH H) (hls : ls.size = nL) (hn : As.length = n) (hst : st0 = As.reverse ++ .ref b :: rest) (hroom : (rest.map fun v => v.category).sum ≤ 8) (hdg : decode cc pc = .ok (.invokevirtual index, 3)) :
    va_Run p l e R s m args below meth c H locs cells slots mc ms (F0 m pc ls st0) rest (Qc (Value.ref b :: As).toArray) free := by
  obtain ⟨hx, hb, hr, hml, hown, hts, hlk, hK⟩ := C0
  obtain ⟨h1, h2, h3, h4⟩ := fits_in_ok hrm
  exact va_runVN (C := y.cls) ⟨hx, hb, hml, hown, hts⟩ hM ⟨va_cnB n hts hg hw h1 h2 (hK.2 _ hnest) (hts _ hini) hd h3, hts _ hins, hts _ hsel⟩ ⟨blind, by rw [hC]; exact recv9 hK he hc, pay hK hPH⟩ rfl hn hls hst (lv_room hroom) hdg h4
theorem run_SN (C0 : cx Ts cc nL ret own E p s m args meth c) (hM : Met l y ws rm (va_Pc As (fun U => PH U.heap ∧ KE E U)) Qc mc ms free) (hg : GoodIn Ts ws) (hw : ws = Cond.code y bytes maxL ret' :: ws') (hnest : Cond.methodLinkNest own index y "LoserDraws" ∈ nestW) (hini : Cond.initialized y.cls ∈ Ts) (hsta : Cond.static y ∈ Ts) (hrm : fits_in rm mc ms maxL R cells slots = true) (hd : y.cls ≠ "java/lang/invoke/MethodHandle" ∧ y.cls ≠ "java/lang/invoke/VarHandle" ∧ (parseMethodDescriptor y.desc).map (fun d => d.parameters.length) = some n) (hPH : PH H) (hls : ls.size = nL) (hn : As.length = n) (hst : st0 = As.reverse ++ rest) (hroom : (rest.map fun v => v.category).sum ≤ 8) (hdg : decode cc pc = .ok (.invokestatic index, 3)) :
    va_Run p l e R s m args below meth c H locs cells slots mc ms (F0 m pc ls st0) rest (Qc As.toArray) free := by
  obtain ⟨hx, hb, hr, hml, hown, hts, hlk, hK⟩ := C0
  obtain ⟨h1, h2, h3, h4⟩ := fits_in_ok hrm
  exact va_runSN ⟨hx, hb, hml, hown, hts⟩ hM ⟨va_cnB n hts hg hw h1 h2 (hK.2 _ hnest) (hts _ hini) hd h3, hts _ hsta, trivial⟩ ⟨blind, pay hK hPH⟩ rfl hn hls hst (lv_room hroom) hdg h4
theorem k_roI {out : Int32} {a : Array Value} (hr : va_Run p l e R s m args below meth c H locs cells slots 0 0 (F0 m pc ls st0) rest (vp_Si (fun r => r = out) a) (fun _ => False)) (kk : W p l e R s m args below meth c H locs cells slots Q (F0 m (pc + 3) ls (.int out :: rest))) : W p l e R s m args below meth c H locs cells slots Q (F0 m pc ls st0) := vp_callSi hr.run (fun r h => by rw [h]; exact kk)
theorem k_roL {out : Int64} {a : Array Value} (hr : va_Run p l e R s m args below meth c H locs cells slots 0 0 (F0 m pc ls st0) rest (vp_Sl (fun r => r = out) a) (fun _ => False)) (kk : W p l e R s m args below meth c H locs cells slots Q (F0 m (pc + 3) ls (.long out :: rest))) : W p l e R s m args below meth c H locs cells slots Q (F0 m pc ls st0) := vp_callSl hr.run (fun r h => by rw [h]; exact kk)
theorem k_roQ {out : Option Nat} {a : Array Value} (hr : va_Run p l e R s m args below meth c H locs cells slots 0 0 (F0 m pc ls st0) rest (va_Sq (fun r => r = out) a) (fun _ => False)) (kk : W p l e R s m args below meth c H locs cells slots Q (F0 m (pc + 3) ls (va_rf out :: rest))) : W p l e R s m args below meth c H locs cells slots Q (F0 m pc ls st0) := va_csq hr.run (fun r h => by rw [h]; exact kk)
variable {A0 A1 : Nat → Prop} {QH : Heap → Prop}
theorem k_muI {out : Int32} {a : Array Value} (hr : va_Run p l e R s m args below meth c H locs cells slots 0 0 (F0 m pc ls st0) rest (va_Qi (fun r (_ : Unit) => r = out) (fun _ t => QH t.heap) A1 a) A1) (hS : va_S A0 s.heap H locs) (hA : ∀ q, A1 q → A0 q) (kk : ∀ (H1 : Heap) (locs1 : List Loc), QH H1 → (∀ q : Nat, q < H.size → ¬ A1 q → H1[q]? = H[q]?) → va_S A0 s.heap H1 locs1 → W p l e R s m args below meth c H1 locs1 cells slots Q (F0 m (pc + 3) ls (.int out :: rest))) : W p l e R s m args below meth c H locs cells slots Q (F0 m pc ls st0) :=
  va_calli hr hS (fun q _ h => hA q h) hA (fun r u t H1 locs1 ht hvm h1 h2 hz hk hS1 => by rw [h1]; exact kk H1 locs1 (by rw [ht] at h2; exact h2) hk hS1)
theorem k_muL {out : Int64} {a : Array Value} (hr : va_Run p l e R s m args below meth c H locs cells slots 0 0 (F0 m pc ls st0) rest (va_Ql (fun r (_ : Unit) => r = out) (fun _ t => QH t.heap) A1 a) A1) (hS : va_S A0 s.heap H locs) (hA : ∀ q, A1 q → A0 q) (kk : ∀ (H1 : Heap) (locs1 : List Loc), QH H1 → (∀ q : Nat, q < H.size → ¬ A1 q → H1[q]? = H[q]?) → va_S A0 s.heap H1 locs1 → W p l e R s m args below meth c H1 locs1 cells slots Q (F0 m (pc + 3) ls (.long out :: rest))) : W p l e R s m args below meth c H locs cells slots Q (F0 m pc ls st0) :=
  va_calll hr hS (fun q _ h => hA q h) hA (fun r u t H1 locs1 ht hvm h1 h2 hz hk hS1 => by rw [h1]; exact kk H1 locs1 (by rw [ht] at h2; exact h2) hk hS1)
theorem k_muV {a : Array Value} (hr : va_Run p l e R s m args below meth c H locs cells slots 0 0 (F0 m pc ls st0) rest (va_Qv (fun (_ : Unit) => True) (fun _ t => QH t.heap) A1 a) A1) (hS : va_S A0 s.heap H locs) (hA : ∀ q, A1 q → A0 q) (kk : ∀ (H1 : Heap) (locs1 : List Loc), QH H1 → (∀ q : Nat, q < H.size → ¬ A1 q → H1[q]? = H[q]?) → va_S A0 s.heap H1 locs1 → W p l e R s m args below meth c H1 locs1 cells slots Q (F0 m (pc + 3) ls rest)) : W p l e R s m args below meth c H locs cells slots Q (F0 m pc ls st0) :=
  va_callv hr hS (fun q _ h => hA q h) hA (fun u t H1 locs1 ht hvm h1 h2 hz hk hS1 => kk H1 locs1 (by rw [ht] at h2; exact h2) hk hS1)
theorem k_max (C0 : cx Ts cc nL ret own E p s m args meth c) (hls : ls.size = nL) (h1 : Cond.methodLink own index Lib.Math.max.name ∈ Ts) (h2 : Cond.static Lib.Math.max.name ∈ Ts) (h3 : Cond.initialized "java/lang/Math" ∈ Ts) (h4 : Cond.code Lib.Math.max.name Lib.Math.max.code 2 (some .int) ∈ Ts) (hf : 1 ≤ R.frames) (hlo : (rest.map fun v => v.category).sum + 13 ≤ R.locals) (hc : cells ≤ R.cells) (hs : slots ≤ R.slots) {x z : Int32} (hdg : decode cc pc = .ok (.invokestatic index, 3)) (kk : W p l e R s m args below meth c H locs cells slots Q (F0 m (pc + 3) ls (.int (if x < z then z else x) :: rest))) : W p l e R s m args below meth c H locs cells slots Q (F0 m pc ls (.int z :: .int x :: rest)) := by
  obtain ⟨hx, hb, hr, hml, hown, hts, hlk, hK⟩ := C0
  exact va_mmax hx hb (hml.trans hls.symm) hown (hts _ h1) (hts _ h2) (hts _ h3) (hts _ h4) hf hlo hc hs hdg kk
theorem k_min (C0 : cx Ts cc nL ret own E p s m args meth c) (hls : ls.size = nL) (h1 : Cond.methodLink own index Lib.Math.min.name ∈ Ts) (h2 : Cond.static Lib.Math.min.name ∈ Ts) (h3 : Cond.initialized "java/lang/Math" ∈ Ts) (h4 : Cond.code Lib.Math.min.name Lib.Math.min.code 2 (some .int) ∈ Ts) (hf : 1 ≤ R.frames) (hlo : (rest.map fun v => v.category).sum + 13 ≤ R.locals) (hc : cells ≤ R.cells) (hs : slots ≤ R.slots) {x z : Int32} (hdg : decode cc pc = .ok (.invokestatic index, 3)) (kk : W p l e R s m args below meth c H locs cells slots Q (F0 m (pc + 3) ls (.int (if z < x then z else x) :: rest))) : W p l e R s m args below meth c H locs cells slots Q (F0 m pc ls (.int z :: .int x :: rest)) := by
  obtain ⟨hx, hb, hr, hml, hown, hts, hlk, hK⟩ := C0
  exact va_mmin hx hb (hml.trans hls.symm) hown (hts _ h1) (hts _ h2) (hts _ h3) (hts _ h4) hf hlo hc hs hdg kk
theorem z_nar {v : Int32} (h : v &&& 1 = v) : narrow .boolean (.int v) = .int v := congrArg Value.int h
theorem e_roI (C0 : cx Ts cc nL (some .int) own E p s m args meth c) {v out : Int32} (hf : some v = some out) (hdg : decode cc pc = .ok (.ireturn, 1)) : W p l e R s m args below meth c s.heap [] 0 0 (MQ below (vp_Si (fun r => r = out)) args s 0 0 (fun _ => False)) (F0 m pc ls [.int v]) := by
  obtain ⟨hx, hb, hr, hml, hown, hts, hlk, hK⟩ := C0
  exact W.iret hx hb hr (fun t ht hW => ⟨v, rfl, Option.some.inj hf, ht⟩) (fun _ h => by cases h) hdg
theorem e_roZ (C0 : cx Ts cc nL (some .boolean) own E p s m args meth c) {v out : Int32} (hf : (if ¬ (v &&& 1 = v) then none else some v) = some out) (hdg : decode cc pc = .ok (.ireturn, 1)) : W p l e R s m args below meth c s.heap [] 0 0 (MQ below (vp_Si (fun r => r = out)) args s 0 0 (fun _ => False)) (F0 m pc ls [.int v]) := by
  obtain ⟨hx, hb, hr, hml, hown, hts, hlk, hK⟩ := C0
  obtain ⟨h1, h2⟩ := gd hf
  exact W.zret hx hb hr (z_nar (Decidable.of_not_not h1)) (fun t ht hW => ⟨v, rfl, Option.some.inj h2, ht⟩) (fun _ h => by cases h) hdg
theorem e_roL (C0 : cx Ts cc nL (some .long) own E p s m args meth c) {v out : Int64} (hf : some v = some out) (hdg : decode cc pc = .ok (.lreturn, 1)) : W p l e R s m args below meth c s.heap [] 0 0 (MQ below (vp_Sl (fun r => r = out)) args s 0 0 (fun _ => False)) (F0 m pc ls [.long v]) := by
  obtain ⟨hx, hb, hr, hml, hown, hts, hlk, hK⟩ := C0
  exact W.lret hx hb hr (fun t ht hW => ⟨v, rfl, Option.some.inj hf, ht⟩) (fun _ h => by cases h) hdg
theorem e_muI (C0 : cx Ts cc nL (some .int) own E p s m args meth c) {v out : Int32} (hS : va_S A0 s.heap H locs) (hv : v = out) (hq : QH H) (hdg : decode cc pc = .ok (.ireturn, 1)) : W p l e R s m args below meth c H locs 0 0 (MQ below (va_Qi (fun r (_ : Unit) => r = out) (fun _ t => QH t.heap) A0) args s 0 0 A0) (F0 m pc ls [.int v]) := by
  obtain ⟨hx, hb, hr, hml, hown, hts, hlk, hK⟩ := C0
  exact W.iret hx hb hr (fun t ht hW => ⟨⟨v, (), rfl, hv, by show QH t.heap; rw [ht]; exact hq⟩, hS.F ht⟩) hS.2.2 hdg
theorem e_muZ (C0 : cx Ts cc nL (some .boolean) own E p s m args meth c) {v out : Int32} (hS : va_S A0 s.heap H locs) (hn : v &&& 1 = v) (hv : v = out) (hq : QH H) (hdg : decode cc pc = .ok (.ireturn, 1)) : W p l e R s m args below meth c H locs 0 0 (MQ below (va_Qi (fun r (_ : Unit) => r = out) (fun _ t => QH t.heap) A0) args s 0 0 A0) (F0 m pc ls [.int v]) := by
  obtain ⟨hx, hb, hr, hml, hown, hts, hlk, hK⟩ := C0
  exact W.zret hx hb hr (z_nar hn) (fun t ht hW => ⟨⟨v, (), rfl, hv, by show QH t.heap; rw [ht]; exact hq⟩, hS.F ht⟩) hS.2.2 hdg
theorem e_muL (C0 : cx Ts cc nL (some .long) own E p s m args meth c) {v out : Int64} (hS : va_S A0 s.heap H locs) (hv : v = out) (hq : QH H) (hdg : decode cc pc = .ok (.lreturn, 1)) : W p l e R s m args below meth c H locs 0 0 (MQ below (va_Ql (fun r (_ : Unit) => r = out) (fun _ t => QH t.heap) A0) args s 0 0 A0) (F0 m pc ls [.long v]) := by
  obtain ⟨hx, hb, hr, hml, hown, hts, hlk, hK⟩ := C0
  exact W.lret hx hb hr (fun t ht hW => ⟨⟨v, (), rfl, hv, by show QH t.heap; rw [ht]; exact hq⟩, hS.F ht⟩) hS.2.2 hdg
theorem e_muV (C0 : cx Ts cc nL none own E p s m args meth c) (hS : va_S A0 s.heap H locs) (hq : QH H) (hdg : decode cc pc = .ok (.return_, 1)) : W p l e R s m args below meth c H locs 0 0 (MQ below (va_Qv (fun (_ : Unit) => True) (fun _ t => QH t.heap) A0) args s 0 0 A0) (F0 m pc ls []) := by
  obtain ⟨hx, hb, hr, hml, hown, hts, hlk, hK⟩ := C0
  exact W.vret hx hb hr (fun t ht hW => ⟨⟨(), rfl, trivial, by show QH t.heap; rw [ht]; exact hq⟩, hS.F ht⟩) hS.2.2 hdg
theorem e_roQ {C : String} (C0 : cx Ts cc nL (some (.object C)) own E p s m args meth c) {v out : Option Nat} (hf : v = out) (hdg : decode cc pc = .ok (.areturn, 1)) : W p l e R s m args below meth c s.heap [] 0 0 (MQ below (va_Sq (fun r => r = out)) args s 0 0 (fun _ => False)) (F0 m pc ls [va_rf v]) := by
  obtain ⟨hx, hb, hr, hml, hown, hts, hlk, hK⟩ := C0
  exact W.aret hx hb hr (Or.inl ⟨_, rfl⟩) (va_rf_or v) (fun t ht hW => ⟨v, rfl, hf, ht⟩) (fun _ h => by cases h) hdg
end CALLS
