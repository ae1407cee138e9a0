/-! a method's frame, its ends, its calls: over the memory -/
theorem allw_gi {b : List Cond} (h : ∀ w ∈ b, w ∈ ALLW) : GoodIn ALLW b := fun w hw => ⟨h w hw, good_of_word (allw_good (h w hw))⟩
abbrev WS (y : MethodName) (cc : ByteArray) (nL : Nat) (rt : Option FieldType) : List Cond := Cond.code y cc nL rt :: ALLW
/-- what holds in a method's body -/
def BE (Y : LY) (p : Program) (s : State) (m : MethodId) (args : Array Value) (meth : Method) (c : Code) (cc : ByteArray) (nL : Nat) (rt : Option FieldType) (own : String) : Prop :=
  p.tables.exec = Jvm.exec ∧ c.code = cc ∧ meth.sig.returnType = rt ∧ c.maxLocals = nL ∧ s.vm.findClass own = some m.cls ∧ (∀ w ∈ ALLW, w.before args s = true) ∧ meth.locks = false ∧ KK Y s ∧ YZ Y ≤ s.heap.size
/-- a start over the memory -/
def PcP (Y : LY) (P : Heap → Prop) (av : List Value) : Array Value → State → Prop := va_Pc av (fun U => KK Y U ∧ YZ Y ≤ U.heap.size ∧ P U.heap)
abbrev PcM (Y : LY) (M : Mem) (av : List Value) : Array Value → State → Prop := PcP Y (HS Y M) av
abbrev Pc0 (Y : LY) (M : Mem) (av : List Value) : Array Value → State → Prop := PcP Y (HS0 Y M) av
theorem PcP.blind {Y : LY} {P : Heap → Prop} {av : List Value} : FrameBlind (PcP Y P av) := fun a U g mk h => ⟨h.1, h.2.1.call, h.2.2⟩
theorem PcP.of {Y : LY} {P : Heap → Prop} {av : List Value} {s U : State} {H : Heap} {locs : List Loc} (hK : KK Y s) (hZ : YZ Y ≤ s.heap.size) (hS : va_S (AZ Y) s.heap H locs) (hH : P H) (hU : U.heap = H) (hW : s.WarmedH U.vm) : PcP Y P av av.toArray U := ⟨rfl, hK.go hW hS hU, by rw [hU]; exact Nat.le_trans hZ hS.1, by rw [hU]; exact hH⟩
abbrev QiP (Y : LY) (r : Int32) (P : Heap → Prop) : Array Value → State → Outcome → State → Prop := va_Qi (fun (x : Int32) (_ : Unit) => x = r) (fun _ t => P t.heap) (AZ Y)
abbrev Qi (Y : LY) (r : Int32) (M : Mem) : Array Value → State → Outcome → State → Prop := QiP Y r (HS Y M)
abbrev QdP (Y : LY) (r : UInt64) (P : Heap → Prop) : Array Value → State → Outcome → State → Prop := va_Qd (fun (x : UInt64) (_ : Unit) => x = r) (fun _ t => P t.heap) (AZ Y)
abbrev Qd (Y : LY) (r : UInt64) (M : Mem) : Array Value → State → Outcome → State → Prop := QdP Y r (HS Y M)
abbrev QfP (Y : LY) (r : UInt32) (P : Heap → Prop) : Array Value → State → Outcome → State → Prop := va_Qf (fun (x : UInt32) (_ : Unit) => x = r) (fun _ t => P t.heap) (AZ Y)
abbrev Qf (Y : LY) (r : UInt32) (M : Mem) : Array Value → State → Outcome → State → Prop := QfP Y r (HS Y M)
abbrev nn64 (r : UInt64) : Prop := r &&& 0x7fffffffffffffff ≤ 0x7ff0000000000000
abbrev nn32 (r : UInt32) : Prop := r &&& 0x7fffffff ≤ 0x7f800000
abbrev Qi0 (Y : LY) (r : Int32) (M : Mem) : Array Value → State → Outcome → State → Prop := QiP Y r (HS0 Y M)
abbrev QvP (Y : LY) (P : Heap → Prop) : Array Value → State → Outcome → State → Prop := va_Qv (fun _ : Unit => True) (fun _ t => P t.heap) (AZ Y)
abbrev Qv (Y : LY) (M : Mem) : Array Value → State → Outcome → State → Prop := QvP Y (HS Y M)
abbrev Qv0 (Y : LY) (M : Mem) : Array Value → State → Outcome → State → Prop := QvP Y (HS0 Y M)
abbrev QrP (Y : LY) (a q : Nat) (P : Heap → Prop) : Array Value → State → Outcome → State → Prop := va_Qq (fun (x : Option Nat) (_ : Unit) => x = some (YA Y a q)) (fun _ t => P t.heap) (AZ Y)
abbrev Qr (Y : LY) (a q : Nat) (M : Mem) : Array Value → State → Outcome → State → Prop := QrP Y a q (HS Y M)
abbrev Qr0 (Y : LY) (a q : Nat) (M : Mem) : Array Value → State → Outcome → State → Prop := QrP Y a q (HS0 Y M)
abbrev QqP (Y : LY) (a : Nat) (o : Option Nat) (P : Heap → Prop) : Array Value → State → Outcome → State → Prop := va_Qq (fun (x : Option Nat) (_ : Unit) => x = o.map (YA Y a)) (fun _ t => P t.heap) (AZ Y)
abbrev Qq (Y : LY) (a : Nat) (o : Option Nat) (M : Mem) : Array Value → State → Outcome → State → Prop := QqP Y a o (HS Y M)
abbrev Qq0 (Y : LY) (a : Nat) (o : Option Nat) (M : Mem) : Array Value → State → Outcome → State → Prop := QqP Y a o (HS0 Y M)
/-- a method by the walk of its body -/
theorem met_mk {Y : LY} {l : Launch} {y : MethodName} {cc : ByteArray} {nL : Nat} {rt : Option FieldType} {rm : Room} {P : Heap → Prop} {Qc : Array Value → State → Outcome → State → Prop} {mc ms : Nat} {own : String} {lv : List (Nat × Value)} (av : List Value) (hy : plainName y.cls = true) (hown : y.cls = own) (hlv : lv_args 0 av = lv) (hsl : (lg_sl av).length ≤ nL)
    (k : ∀ (p : Program) (e : Env) (s : State) (m : MethodId) (below : List Frame) (meth : Method) (c : Code), BE Y p s m av.toArray meth c cc nL rt own → P s.heap → ∀ ls : Array Slot, lv_has ls nL lv → W p l e rm s m av.toArray below meth c s.heap [] 0 0 (MQ below Qc av.toArray s mc ms (AZ Y)) (F0 m 0 ls [])) :
    Met l y (WS y cc nL rt) rm (PcP Y P av) Qc mc ms (AZ Y) := by
  refine Met.ofW (cc := cc) (maxL := nL) (ret := rt) hy rfl ?_
  intro p e s m args below meth c s₁ B hml hv
  obtain ⟨rfl, hK, hZ, hH⟩ := hv
  have hl := lv_entry av hsl
  rw [lg_entry_eq]
  rw [hlv] at hl
  subst hown
  exact k p e s m below meth c ⟨B.exec, B.bytes, B.returns, hml, findClass_of_methodNamed B.named, fun w hw => atoms_spec B.pre w (List.mem_cons_of_mem _ hw), B.notSynchronized, hK, hZ⟩ hH _ hl
def FU : Nat := 5000
theorem vin_dec (x : Int32) (n : Nat) : vp_in x n = ¬ (x < 0 ∨ n ≤ x.toNatClampNeg) := rfl
abbrev vin (x : Int32) (n : Nat) : Prop := ¬ (x < 0 ∨ n ≤ x.toNatClampNeg)
theorem vin_lt {x : Int32} {n : Nat} (h : vin x n) : ix x < n := Nat.not_le.mp fun q => h (Or.inr q)
def bd2 {α β : Type} (x : Option (α × Mem)) (k : α → Mem → Option β) : Option β := match x with
  | none => none
  | some (a, M) => k a M
theorem bd2_o {α β : Type} {x : Option (α × Mem)} {k : α → Mem → Option β} {r : β} (h : bd2 x k = some r) : ∃ a M, x = some (a, M) ∧ k a M = some r := by
  match x, h with
  | some (a, M), h => exact ⟨a, M, rfl, h⟩
def on {β : Type} (o : Option Nat) (a : Option β) (k : Nat → Option β) : Option β := match o with
  | none => a
  | some q => k q
theorem on_n {β : Type} {a : Option β} {k : Nat → Option β} {r : β} (h : on none a k = some r) : a = some r := h
theorem on_s {β : Type} {q : Nat} {a : Option β} {k : Nat → Option β} {r : β} (h : on (some q) a k = some r) : k q = some r := h
section RW
variable {p : Program} {l : Launch} {e : Env} {R : Room} {s : State} {m : MethodId} {args : Array Value} {below : List Frame} {meth : Method} {c : Code} {H : Heap} {locs : List Loc} {cells slots : Nat} {Q : State → Prop}
variable {cc : ByteArray} {nL : Nat} {rt : Option FieldType} {own : String} {pc : Nat} {ls : Array Slot} {rest : List Value} {Y : LY} {P : Heap → Prop}
/-- ends -/
theorem hs_dret (C0 : BE Y p s m args meth c cc nL (some .double) own) (hH : P H) (hS : va_S (AZ Y) s.heap H locs) {mc ms : Nat} (h1 : cells ≤ mc) (h2 : slots ≤ ms) {v : UInt64} (hdg : decode cc pc = .ok (.dreturn, 1)) : W p l e R s m args below meth c H locs cells slots (MQ below (QdP Y v P) args s mc ms (AZ Y)) (F0 m pc ls [.double v]) := by
  obtain ⟨hx, hb, hr, hml, hown, hA, hlocks, hK, hZ⟩ := C0
  exact W.widen h1 h2 (W.dret hx hb hr (fun t ht hW => ⟨⟨v, (), rfl, rfl, by subst ht; exact hH⟩, hS.F ht⟩) hS.2.2 hdg)
theorem hs_fret (C0 : BE Y p s m args meth c cc nL (some .float) own) (hH : P H) (hS : va_S (AZ Y) s.heap H locs) {mc ms : Nat} (h1 : cells ≤ mc) (h2 : slots ≤ ms) {v : UInt32} (hdg : decode cc pc = .ok (.freturn, 1)) : W p l e R s m args below meth c H locs cells slots (MQ below (QfP Y v P) args s mc ms (AZ Y)) (F0 m pc ls [.float v]) := by
  obtain ⟨hx, hb, hr, hml, hown, hA, hlocks, hK, hZ⟩ := C0
  exact W.widen h1 h2 (W.fret hx hb hr (fun t ht hW => ⟨⟨v, (), rfl, rfl, by subst ht; exact hH⟩, hS.F ht⟩) hS.2.2 hdg)
theorem hs_iret (C0 : BE Y p s m args meth c cc nL (some .int) own) (hH : P H) (hS : va_S (AZ Y) s.heap H locs) {mc ms : Nat} (h1 : cells ≤ mc) (h2 : slots ≤ ms) {v : Int32} (hdg : decode cc pc = .ok (.ireturn, 1)) : W p l e R s m args below meth c H locs cells slots (MQ below (QiP Y v P) args s mc ms (AZ Y)) (F0 m pc ls [.int v]) := by
  obtain ⟨hx, hb, hr, hml, hown, hA, hlocks, hK, hZ⟩ := C0
  exact W.widen h1 h2 (W.iret hx hb hr (fun t ht hW => ⟨⟨v, (), rfl, rfl, by subst ht; exact hH⟩, hS.F ht⟩) hS.2.2 hdg)
theorem hs_zret (C0 : BE Y p s m args meth c cc nL (some .boolean) own) (hH : P H) (hS : va_S (AZ Y) s.heap H locs) {mc ms : Nat} (h1 : cells ≤ mc) (h2 : slots ≤ ms) {v : Int32} (hv : isB v) (hdg : decode cc pc = .ok (.ireturn, 1)) : W p l e R s m args below meth c H locs cells slots (MQ below (QiP Y v P) args s mc ms (AZ Y)) (F0 m pc ls [.int v]) := by
  obtain ⟨hx, hb, hr, hml, hown, hA, hlocks, hK, hZ⟩ := C0
  exact W.widen h1 h2 (W.zret hx hb hr (congrArg Value.int (isB_n hv)) (fun t ht hW => ⟨⟨v, (), rfl, rfl, by subst ht; exact hH⟩, hS.F ht⟩) hS.2.2 hdg)
theorem hs_cret (C0 : BE Y p s m args meth c cc nL (some .char) own) (hH : P H) (hS : va_S (AZ Y) s.heap H locs) {mc ms : Nat} (h1 : cells ≤ mc) (h2 : slots ≤ ms) {v : Int32} (hv : isC v) (hdg : decode cc pc = .ok (.ireturn, 1)) : W p l e R s m args below meth c H locs cells slots (MQ below (QiP Y v P) args s mc ms (AZ Y)) (F0 m pc ls [.int v]) := by
  obtain ⟨hx, hb, hr, hml, hown, hA, hlocks, hK, hZ⟩ := C0
  exact W.widen h1 h2 (W.zret hx hb hr (congrArg Value.int (isC_n hv)) (fun t ht hW => ⟨⟨v, (), rfl, rfl, by subst ht; exact hH⟩, hS.F ht⟩) hS.2.2 hdg)
theorem hs_vret (C0 : BE Y p s m args meth c cc nL none own) (hH : P H) (hS : va_S (AZ Y) s.heap H locs) {mc ms : Nat} (h1 : cells ≤ mc) (h2 : slots ≤ ms) (hdg : decode cc pc = .ok (.return_, 1)) : W p l e R s m args below meth c H locs cells slots (MQ below (QvP Y P) args s mc ms (AZ Y)) (F0 m pc ls []) := by
  obtain ⟨hx, hb, hr, hml, hown, hA, hlocks, hK, hZ⟩ := C0
  exact W.widen h1 h2 (W.vret hx hb hr (fun t ht hW => ⟨⟨(), rfl, trivial, by subst ht; exact hH⟩, hS.F ht⟩) hS.2.2 hdg)
theorem hs_rret {C : String} (C0 : BE Y p s m args meth c cc nL (some (.object C)) own) (hH : P H) (hS : va_S (AZ Y) s.heap H locs) {mc ms : Nat} (h1 : cells ≤ mc) (h2 : slots ≤ ms) (a q : Nat) (hdg : decode cc pc = .ok (.areturn, 1)) : W p l e R s m args below meth c H locs cells slots (MQ below (QrP Y a q P) args s mc ms (AZ Y)) (F0 m pc ls [.ref (YA Y a q)]) := by
  obtain ⟨hx, hb, hr, hml, hown, hA, hlocks, hK, hZ⟩ := C0
  exact W.widen h1 h2 (W.aret hx hb hr (Or.inl ⟨_, rfl⟩) (Or.inr ⟨_, rfl⟩) (fun t ht hW => ⟨⟨some (YA Y a q), (), rfl, rfl, by subst ht; exact hH⟩, hS.F ht⟩) hS.2.2 hdg)
theorem hs_qret {C : String} (C0 : BE Y p s m args meth c cc nL (some (.object C)) own) (hH : P H) (hS : va_S (AZ Y) s.heap H locs) {mc ms : Nat} (h1 : cells ≤ mc) (h2 : slots ≤ ms) (a q : Nat) (hdg : decode cc pc = .ok (.areturn, 1)) : W p l e R s m args below meth c H locs cells slots (MQ below (QqP Y a (some q) P) args s mc ms (AZ Y)) (F0 m pc ls [.ref (YA Y a q)]) := by
  obtain ⟨hx, hb, hr, hml, hown, hA, hlocks, hK, hZ⟩ := C0
  exact W.widen h1 h2 (W.aret hx hb hr (Or.inl ⟨_, rfl⟩) (Or.inr ⟨_, rfl⟩) (fun t ht hW => ⟨⟨some (YA Y a q), (), rfl, rfl, by subst ht; exact hH⟩, hS.F ht⟩) hS.2.2 hdg)
theorem hs_nret {C : String} (C0 : BE Y p s m args meth c cc nL (some (.object C)) own) (hH : P H) (hS : va_S (AZ Y) s.heap H locs) {mc ms : Nat} (h1 : cells ≤ mc) (h2 : slots ≤ ms) (a : Nat) (hdg : decode cc pc = .ok (.areturn, 1)) : W p l e R s m args below meth c H locs cells slots (MQ below (QqP Y a none P) args s mc ms (AZ Y)) (F0 m pc ls [.null]) := by
  obtain ⟨hx, hb, hr, hml, hown, hA, hlocks, hK, hZ⟩ := C0
  exact W.widen h1 h2 (W.aret hx hb hr (Or.inl ⟨_, rfl⟩) (Or.inl rfl) (fun t ht hW => ⟨⟨none, (), rfl, rfl, by subst ht; exact hH⟩, hS.F ht⟩) hS.2.2 hdg)
variable {y : MethodName} {bytes : ByteArray} {maxL mc ms index n : Nat} {ret : Option FieldType} {rm : Room} {Qc : Array Value → State → Outcome → State → Prop} {As st0 : List Value} {b : Nat} {C : String}
/-- a virtual call, what it asks of the tables -/
abbrev NV (own : String) (index : Nat) (y : MethodName) (bytes : ByteArray) (maxL : Nat) (ret : Option FieldType) (n : Nat) (C : String) : Prop :=
  (Cond.methodLink own index y ∈ ALLW ∧ Cond.instanceMethod y ∈ ALLW ∧ Cond.selects C y y ∈ ALLW ∧ Cond.initialized C ∈ ALLW ∧ Cond.code y bytes maxL ret ∈ ALLW) ∧ y.cls = C ∧ y.cls ≠ "java/lang/invoke/MethodHandle" ∧ y.cls ≠ "java/lang/invoke/VarHandle" ∧ (parseMethodDescriptor y.desc).map (fun d => d.parameters.length) = some n
theorem nv_gi (h : NV own index y bytes maxL ret n C) : GoodIn ALLW (wsV own index C y (WS y bytes maxL ret)) := allw_gi fun w hw => by
  obtain ⟨⟨h1, h2, h3, h4, h5⟩, -⟩ := h
  simp only [wsV, WS, List.mem_append, List.mem_cons, List.not_mem_nil, or_false] at hw
  rcases hw with (rfl | rfl | rfl | rfl) | rfl | hw
  · exact h1
  · exact h2
  · exact h3
  · exact h4
  · exact h5
  · exact hw
theorem hs_runV (C0 : BE Y p s m args meth c cc nL rt own) (hH : P H) (hS : va_S (AZ Y) s.heap H locs) (hM : Met l y (WS y bytes maxL ret) rm (PcP Y P (.ref b :: As)) Qc mc ms (AZ Y)) (hn : NV own index y bytes maxL ret n C) (hrm : rm.cells = mc ∧ rm.slots = ms ∧ rm.frames + 1 ≤ R.frames ∧ 8 + (maxL + 11) + rm.locals ≤ R.locals)
    (hrecv : ∃ cell : Cell, H[b]? = some cell ∧ cell.vm.isStatics = false ∧ s.vm.findClass C = some cell.cls) (hl : As.length = n) (hst : st0 = As.reverse ++ .ref b :: rest) (hsz : ls.size = nL) (hroom : (rest.map fun v => v.category).sum ≤ 8) (hf : cells + mc ≤ R.cells ∧ slots + ms ≤ R.slots) (hdg : decode cc pc = .ok (.invokevirtual index, 3)) :
    va_Run p l e R s m args below meth c H locs cells slots mc ms (F0 m pc ls st0) rest (Qc (Value.ref b :: As).toArray) (AZ Y) := by
  obtain ⟨hx, hb, hr, hml, hown, hA, hlocks, hK, hZ⟩ := C0
  subst hst
  exact va_runV (As := As) (rest := rest) ⟨hx, hb, hml, hown, hA⟩ hM (cwV n hA (nv_gi hn) rfl hrm.1 hrm.2.1 hn.2 hrm.2.2) ⟨PcP.blind, hrecv, fun U hU hW => PcP.of hK hZ hS hH hU hW⟩ rfl hl hsz rfl (lv_room hroom) hdg hf
/-- a static call -/
abbrev NS (own : String) (index : Nat) (y : MethodName) (bytes : ByteArray) (maxL : Nat) (ret : Option FieldType) (n : Nat) : Prop :=
  (Cond.methodLink own index y ∈ ALLW ∧ Cond.static y ∈ ALLW ∧ Cond.initialized y.cls ∈ ALLW ∧ Cond.code y bytes maxL ret ∈ ALLW) ∧ y.cls ≠ "java/lang/invoke/MethodHandle" ∧ y.cls ≠ "java/lang/invoke/VarHandle" ∧ (parseMethodDescriptor y.desc).map (fun d => d.parameters.length) = some n
theorem hs_runS (C0 : BE Y p s m args meth c cc nL rt own) (hH : P H) (hS : va_S (AZ Y) s.heap H locs) (hM : Met l y (WS y bytes maxL ret) rm (PcP Y P As) Qc mc ms (AZ Y)) (hn : NS own index y bytes maxL ret n) (hrm : rm.cells = mc ∧ rm.slots = ms ∧ rm.frames + 1 ≤ R.frames ∧ 8 + (maxL + 11) + rm.locals ≤ R.locals)
    (hl : As.length = n) (hst : st0 = As.reverse ++ rest) (hsz : ls.size = nL) (hroom : (rest.map fun v => v.category).sum ≤ 8) (hf : cells + mc ≤ R.cells ∧ slots + ms ≤ R.slots) (hdg : decode cc pc = .ok (.invokestatic index, 3)) :
    va_Run p l e R s m args below meth c H locs cells slots mc ms (F0 m pc ls st0) rest (Qc As.toArray) (AZ Y) := by
  obtain ⟨hx, hb, hr, hml, hown, hA, hlocks, hK, hZ⟩ := C0
  obtain ⟨⟨h1, h2, h3, h4⟩, hd⟩ := hn
  subst hst
  refine va_runS (As := As) (rest := rest) ⟨hx, hb, hml, hown, hA⟩ hM ⟨callB_of n hA (allw_gi fun w hw => ?_) rfl hrm.1 hrm.2.1 (hA _ h3) (hA _ h1) hd hrm.2.2, hA _ h2⟩ ⟨PcP.blind, fun U hU hW => PcP.of hK hZ hS hH hU hW⟩ rfl hl hsz rfl (lv_room hroom) hdg hf
  rcases List.mem_cons.mp hw with rfl | hw
  · exact h4
  · exact hw
variable {P1 : Heap → Prop} {a : Array Value}
theorem hs_cd {v : UInt64} (hr : va_Run p l e R s m args below meth c H locs cells slots mc ms (F0 m pc ls st0) rest (QdP Y v P1 a) (AZ Y)) (hS : va_S (AZ Y) s.heap H locs) (kk : ∀ (H1 : Heap) (locs1 : List Loc), P1 H1 → va_S (AZ Y) s.heap H1 locs1 → W p l e R s m args below meth c H1 locs1 (cells + mc) (slots + ms) Q (F0 m (pc + 3) ls (.double v :: rest))) : W p l e R s m args below meth c H locs cells slots Q (F0 m pc ls st0) :=
  va_calld hr hS (fun _ _ h => h) (fun _ h => h) (fun r u t H1 locs1 ht hvm hw hB _ _ hS1 => by subst hw; exact kk H1 locs1 (ht ▸ hB) hS1)
theorem hs_cf {v : UInt32} (hr : va_Run p l e R s m args below meth c H locs cells slots mc ms (F0 m pc ls st0) rest (QfP Y v P1 a) (AZ Y)) (hS : va_S (AZ Y) s.heap H locs) (kk : ∀ (H1 : Heap) (locs1 : List Loc), P1 H1 → va_S (AZ Y) s.heap H1 locs1 → W p l e R s m args below meth c H1 locs1 (cells + mc) (slots + ms) Q (F0 m (pc + 3) ls (.float v :: rest))) : W p l e R s m args below meth c H locs cells slots Q (F0 m pc ls st0) :=
  va_callf hr hS (fun _ _ h => h) (fun _ h => h) (fun r u t H1 locs1 ht hvm hw hB _ _ hS1 => by subst hw; exact kk H1 locs1 (ht ▸ hB) hS1)
theorem hs_ci {v : Int32} (hr : va_Run p l e R s m args below meth c H locs cells slots mc ms (F0 m pc ls st0) rest (QiP Y v P1 a) (AZ Y)) (hS : va_S (AZ Y) s.heap H locs) (kk : ∀ (H1 : Heap) (locs1 : List Loc), P1 H1 → va_S (AZ Y) s.heap H1 locs1 → W p l e R s m args below meth c H1 locs1 (cells + mc) (slots + ms) Q (F0 m (pc + 3) ls (.int v :: rest))) : W p l e R s m args below meth c H locs cells slots Q (F0 m pc ls st0) :=
  va_calli hr hS (fun _ _ h => h) (fun _ h => h) (fun r u t H1 locs1 ht hvm hw hB _ _ hS1 => by subst hw; exact kk H1 locs1 (ht ▸ hB) hS1)
theorem hs_cv (hr : va_Run p l e R s m args below meth c H locs cells slots mc ms (F0 m pc ls st0) rest (QvP Y P1 a) (AZ Y)) (hS : va_S (AZ Y) s.heap H locs) (kk : ∀ (H1 : Heap) (locs1 : List Loc), P1 H1 → va_S (AZ Y) s.heap H1 locs1 → W p l e R s m args below meth c H1 locs1 (cells + mc) (slots + ms) Q (F0 m (pc + 3) ls rest)) : W p l e R s m args below meth c H locs cells slots Q (F0 m pc ls st0) :=
  va_callv hr hS (fun _ _ h => h) (fun _ h => h) (fun u t H1 locs1 ht hvm hw hB _ _ hS1 => kk H1 locs1 (ht ▸ hB) hS1)
theorem hs_cr {f q : Nat} (hr : va_Run p l e R s m args below meth c H locs cells slots mc ms (F0 m pc ls st0) rest (QrP Y f q P1 a) (AZ Y)) (hS : va_S (AZ Y) s.heap H locs) (kk : ∀ (H1 : Heap) (locs1 : List Loc), P1 H1 → va_S (AZ Y) s.heap H1 locs1 → W p l e R s m args below meth c H1 locs1 (cells + mc) (slots + ms) Q (F0 m (pc + 3) ls (.ref (YA Y f q) :: rest))) : W p l e R s m args below meth c H locs cells slots Q (F0 m pc ls st0) :=
  va_callq hr hS (fun _ _ h => h) (fun _ h => h) (fun r u t H1 locs1 ht hvm hw hB _ _ hS1 => by subst hw; exact kk H1 locs1 (ht ▸ hB) hS1)
theorem hs_cq {f : Nat} {o : Option Nat} (hr : va_Run p l e R s m args below meth c H locs cells slots mc ms (F0 m pc ls st0) rest (QqP Y f o P1 a) (AZ Y)) (hS : va_S (AZ Y) s.heap H locs) (kn : o = none → ∀ (H1 : Heap) (locs1 : List Loc), P1 H1 → va_S (AZ Y) s.heap H1 locs1 → W p l e R s m args below meth c H1 locs1 (cells + mc) (slots + ms) Q (F0 m (pc + 3) ls (.null :: rest)))
    (kk : ∀ q, o = some q → ∀ (H1 : Heap) (locs1 : List Loc), P1 H1 → va_S (AZ Y) s.heap H1 locs1 → W p l e R s m args below meth c H1 locs1 (cells + mc) (slots + ms) Q (F0 m (pc + 3) ls (.ref (YA Y f q) :: rest))) : W p l e R s m args below meth c H locs cells slots Q (F0 m pc ls st0) :=
  va_callq hr hS (fun _ _ h => h) (fun _ h => h) (fun r u t H1 locs1 ht hvm hw hB _ _ hS1 => by
    subst hw
    cases o with
    | none => exact kn rfl H1 locs1 (ht ▸ hB) hS1
    | some q => exact kk q rfl H1 locs1 (ht ▸ hB) hS1)
end RW
