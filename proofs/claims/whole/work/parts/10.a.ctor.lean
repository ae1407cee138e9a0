/-! constructors: a world is a row of n cells, the k-th at ad k, told with places in the stead of addresses -/
abbrev SE : Type := (Nat × List (Nat ⊕ Value)) ⊕ (va_E ⊕ (ClassId × Nat × (Nat → Option Nat)))
def rsv (ad : Nat → Nat) (x : Nat ⊕ Value) : Value := match x with
  | .inl p => .ref (ad p)
  | .inr v => v
def res (ad : Nat → Nat) (s : SE) : va_E := match s with
  | .inl q => .inr (q.1, q.2.map (rsv ad))
  | .inr (.inl e) => e
  | .inr (.inr q) => aq q.1 q.2.1 (fun k => (q.2.2 k).map ad)
def scp (n : Nat) (s : SE) : Prop := match s with
  | .inl q => ∀ p, Sum.inl p ∈ q.2 → p < n
  | .inr (.inl _) => True
  | .inr (.inr q) => ∀ k p, q.2.2 k = some p → p < n
theorem scp_up {n n2 : Nat} {s : SE} (h : n ≤ n2) (hs : scp n s) : scp n2 s := by
  match s, hs with
  | .inl q, hs => exact fun p hp => Nat.lt_of_lt_of_le (hs p hp) h
  | .inr (.inl _), _ => exact trivial
  | .inr (.inr q), hs => exact fun k p hp => Nat.lt_of_lt_of_le (hs k p hp) h
theorem res_ext {n : Nat} {ad ad2 : Nat → Nat} {s : SE} (h : ∀ k, k < n → ad2 k = ad k) (hs : scp n s) : res ad2 s = res ad s := by
  match s, hs with
  | .inl q, hs =>
    show Sum.inr (q.1, q.2.map (rsv ad2)) = Sum.inr (q.1, q.2.map (rsv ad))
    have e : q.2.map (rsv ad2) = q.2.map (rsv ad) := List.map_congr_left fun x hx => by
      match x, hx with
      | .inl p, hx => exact congrArg Value.ref (h p (hs p hx))
      | .inr v, _ => rfl
    rw [e]
  | .inr (.inl _), _ => rfl
  | .inr (.inr q), hs =>
    show aq _ _ _ = aq _ _ _
    have e : (fun k => (q.2.2 k).map ad2) = fun k => (q.2.2 k).map ad := by
      funext k
      cases hk : q.2.2 k with
      | none => rfl
      | some p => exact congrArg some (h p (hs k p hk))
    rw [e]
def WL (n : Nat) (ad : Nat → Nat) (C : Nat → va_E) : va_W := (List.range n).map fun k => (ad k, C k)
theorem wl_get {n : Nat} {ad : Nat → Nat} {C : Nat → va_E} {k : Nat} (hk : k < n) : (WL n ad C)[k]? = some (ad k, C k) := by
  unfold WL
  rw [List.getElem?_map, List.getElem?_range hk]
  rfl
theorem wl_len {n : Nat} {ad : Nat → Nat} {C : Nat → va_E} : (WL n ad C).length = n := by simp [WL]
theorem wl_push {n : Nat} {ad ad2 : Nat → Nat} {C C2 : Nat → va_E} (h : ∀ k, k < n → ad2 k = ad k ∧ C2 k = C k) : WL (n + 1) ad2 C2 = WL n ad C ++ [(ad2 n, C2 n)] := by
  unfold WL
  rw [List.range_succ, List.map_append]
  congr 1
  apply List.map_congr_left
  intro k hk
  obtain ⟨h1, h2⟩ := h k (List.mem_range.mp hk)
  rw [h1, h2]
theorem wl_set {n : Nat} {ad : Nat → Nat} {C C2 : Nat → va_E} {k : Nat} {v : va_E} (hk : k < n) (h1 : C2 k = v) (h2 : ∀ j, j < n → j ≠ k → C2 j = C j) : (WL n ad C).set k (ad k, v) = WL n ad C2 := by
  apply List.ext_getElem?
  intro j
  by_cases hj : j < n
  · rw [wl_get hj]
    by_cases hjk : j = k
    · subst hjk
      rw [List.getElem?_set_self (by rw [wl_len]; exact hk), h1]
    · rw [List.getElem?_set_ne (fun e => hjk e.symm), wl_get hj, h2 j hj hjk]
  · rw [List.getElem?_eq_none (by rw [List.length_set, wl_len]; omega), List.getElem?_eq_none (by rw [wl_len]; omega)]
def WS9 (Y : LY) (n : Nat) (ad : Nat → Nat) (S : Nat → SE) (H : Heap) : Prop := (∀ k, k < n → scp n (S k)) ∧ va_P (YD Y) CL (WL n ad (fun k => res ad (S k))) H ∧ va_D (AZ Y) (WL n ad (fun k => res ad (S k)))
def upA (ad : Nat → Nat) (n q : Nat) : Nat → Nat := fun k => if k = n then q else ad k
def upS (S : Nat → SE) (n : Nat) (s : SE) : Nat → SE := fun k => if k = n then s else S k
theorem upA_lt {ad : Nat → Nat} {n q k : Nat} (h : k < n) : upA ad n q k = ad k := if_neg (by omega)
theorem upA_eq {ad : Nat → Nat} {n q : Nat} : upA ad n q n = q := if_pos rfl
theorem upS_ne {S : Nat → SE} {n k : Nat} {s : SE} (h : k ≠ n) : upS S n s k = S k := if_neg h
theorem upS_eq {S : Nat → SE} {n : Nat} {s : SE} : upS S n s n = s := if_pos rfl
section W9
variable {Y : LY} {n : Nat} {ad : Nat → Nat} {S S2 : Nat → SE} {H : Heap}
theorem ws_congr (h : ∀ k, k < n → S2 k = S k) (hW : WS9 Y n ad S H) : WS9 Y n ad S2 H := by
  obtain ⟨h1, h2, h3⟩ := hW
  have e : WL n ad (fun k => res ad (S2 k)) = WL n ad (fun k => res ad (S k)) := by
    unfold WL
    apply List.map_congr_left
    intro k hk
    show (ad k, res ad (S2 k)) = (ad k, res ad (S k))
    rw [h k (List.mem_range.mp hk)]
  exact ⟨fun k hk => by rw [h k hk]; exact h1 k hk, by rw [e]; exact h2, by rw [e]; exact h3⟩
theorem ws_push (hW : WS9 Y n ad S H) {q : Nat} {s : SE} {H1 : Heap} (hs : scp (n + 1) s) (hP : va_P (YD Y) CL (WL n ad (fun k => res ad (S k)) ++ [(q, res (upA ad n q) s)]) H1) (hD : va_D (AZ Y) (WL n ad (fun k => res ad (S k)) ++ [(q, res (upA ad n q) s)])) : WS9 Y (n + 1) (upA ad n q) (upS S n s) H1 := by
  have e : WL (n + 1) (upA ad n q) (fun k => res (upA ad n q) (upS S n s k)) = WL n ad (fun k => res ad (S k)) ++ [(q, res (upA ad n q) s)] := by
    rw [wl_push (ad := ad) (C := fun k => res ad (S k)) (fun k hk => ⟨upA_lt hk, ?_⟩), upA_eq, upS_eq]
    rw [upS_ne (by omega)]
    exact res_ext (n := n) (fun j hj => upA_lt hj) (hW.1 k hk)
  refine ⟨fun k hk => ?_, by rw [e]; exact hP, by rw [e]; exact hD⟩
  by_cases hkn : k = n
  · subst hkn; rw [upS_eq]; exact hs
  · rw [upS_ne hkn]; exact scp_up (Nat.le_succ n) (hW.1 k (by omega))
theorem ws_set (hW : WS9 Y n ad S H) {k : Nat} (hk : k < n) {s : SE} {v : va_E} {H1 : Heap} (hs : scp n s) (hv : v = res ad s) (hP : va_P (YD Y) CL ((WL n ad (fun k => res ad (S k))).set k (ad k, v)) H1) (hD : va_D (AZ Y) ((WL n ad (fun k => res ad (S k))).set k (ad k, v))) : WS9 Y n ad (upS S k s) H1 := by
  have e : (WL n ad (fun k => res ad (S k))).set k (ad k, v) = WL n ad (fun j => res ad (upS S k s j)) := wl_set hk (by show res ad (upS S k s k) = v; rw [upS_eq, hv]) (fun j _ hj => by show res ad (upS S k s j) = _; rw [upS_ne hj])
  rw [e] at hP hD
  refine ⟨fun j hj => ?_, hP, hD⟩
  by_cases hjk : j = k
  · subst hjk; rw [upS_eq]; exact hs
  · rw [upS_ne hjk]; exact hW.1 j hj
theorem ws_at (hW : WS9 Y n ad S H) {k : Nat} (hk : k < n) {s : SE} (e : S k = s) : (WL n ad (fun k => res ad (S k)))[k]? = some (ad k, res ad s) := by rw [wl_get hk, e]
end W9
theorem met_mki {Y : LY} {l : Launch} {y : MethodName} {cc : ByteArray} {nL : Nat} {rt : Option FieldType} {rm : Room} {P : Heap → Prop} {Qc : Array Value → State → Outcome → State → Prop} {mc ms : Nat} {own : String} {lv : List (Nat × Value)} (av : List Value) (hy : plainName y.cls = true) (hown : y.cls = own) (hlv : lv_args 0 av = lv) (hsl : (lg_sl av).length ≤ nL)
    (k : ∀ (p : Program) (e : Env) (s : State) (m : MethodId) (below : List Frame) (meth : Method) (c : Code), BE Y p s m av.toArray meth c cc nL rt own → meth.name = y.name → P s.heap → ∀ ls : Array Slot, lv_has ls nL lv → W p l e rm s m av.toArray below meth c s.heap [] 0 0 (MQ below Qc av.toArray s mc ms (AZ Y)) (F0 m 0 ls [])) :
    Met l y (WS y cc nL rt) rm (PcP Y P av) Qc mc ms (AZ Y) := by
  refine Met.ofW (cc := cc) (maxL := nL) (ret := rt) hy rfl ?_
  intro p e s m args below meth c s₁ B hml hv
  obtain ⟨rfl, hK, hZ, hH⟩ := hv
  have hl := lv_entry av hsl
  rw [lg_entry_eq]
  rw [hlv] at hl
  subst hown
  exact k p e s m below meth c ⟨B.exec, B.bytes, B.returns, hml, findClass_of_methodNamed B.named, fun w hw => atoms_spec B.pre w (List.mem_cons_of_mem _ hw), B.notSynchronized, hK, hZ⟩ (name_of_methodNamed B.named B.method).1 hH _ hl
/-- a constructor's end: the world has grown to S' of n' cells -/
abbrev QW (Y : LY) (n : Nat) (ad : Nat → Nat) (n2 : Nat) (S2 : Nat → SE) : Array Value → State → Outcome → State → Prop := va_Qv (fun (ad2 : Nat → Nat) => ∀ k, k < n → ad2 k = ad k) (fun ad2 t => WS9 Y n2 ad2 S2 t.heap) (AZ Y)
section RC
variable {p : Program} {l : Launch} {e : Env} {R : Room} {s : State} {m : MethodId} {args : Array Value} {below : List Frame} {meth : Method} {c : Code} {H : Heap} {locs : List Loc} {cells slots : Nat} {Q : State → Prop}
variable {cc : ByteArray} {nL : Nat} {rt : Option FieldType} {own : String} {pc : Nat} {ls : Array Slot} {rest : List Value} {Y : LY} {P : Heap → Prop}
variable {n : Nat} {ad : Nat → Nat} {S : Nat → SE}
theorem ws_new (C0 : BE Y p s m args meth c cc nL rt own) (hW : WS9 Y n ad S H) (hS : va_S (AZ Y) s.heap H locs) {C : String} {T : u_T} {N ci index : Nat} (hin : ∀ w ∈ u_ws C T N, w ∈ ALLW) (ty0 : Nat → FieldType) (hty : ∀ k, k < N → parseFieldDescriptor (T k).2.2.1 = some (ty0 k)) (hcl : Cond.classLink own index C ∈ ALLW) (hinst : Cond.instantiable C N ∈ ALLW) (hini : Cond.initialized C ∈ ALLW) (hc : CL[ci]? = some (C, T, N)) (fs : List Value) (hfs : ∀ j, j < N → defaultValue (ty0 j) = vp_V fs j) (hcells : cells + 1 ≤ R.cells) (hslots : slots + N ≤ R.slots) (hdg : decode cc pc = .ok (.new index, 3))
    (kk : ∀ (q : Nat) (H1 : Heap), WS9 Y (n + 1) (upA ad n q) (upS S n (.inl (ci, fs.map Sum.inr))) H1 → va_S (AZ Y) s.heap H1 locs → W p l e R s m args below meth c H1 locs (cells + 1) (slots + N) Q (F0 m (pc + 3) ls (.ref q :: rest))) : W p l e R s m args below meth c H locs cells slots Q (F0 m pc ls rest) := by
  obtain ⟨hx, hb, hr, hml, hown, hA, hlocks, hK, hZ⟩ := C0
  refine va_new hx hb hA hin ty0 hty hown (hA _ hcl) (hA _ hinst) (hA _ hini) hK.k hW.2.1 hW.2.2 hS (fun q hq => Nat.le_trans hZ hq) hc hfs hcells hslots hdg (fun q H1 hP1 hD1 hS1 => kk q H1 (ws_push hW ?_ ?_ ?_) hS1)
  · intro p9 hp9
    simp at hp9
  · show va_P (YD Y) CL (_ ++ [(q, .inr (ci, (fs.map Sum.inr).map (rsv (upA ad n q))))]) H1
    rw [List.map_map, show (rsv (upA ad n q)) ∘ Sum.inr = id from rfl, List.map_id]
    exact hP1
  · show va_D (AZ Y) (_ ++ [(q, .inr (ci, (fs.map Sum.inr).map (rsv (upA ad n q))))])
    rw [List.map_map, show (rsv (upA ad n q)) ∘ Sum.inr = id from rfl, List.map_id]
    exact hD1
/-- a new array of numbers; a0: its contents; t0: its class's place -/
theorem ws_newa (C0 : BE Y p s m args meth c cc nL rt own) (hW : WS9 Y n ad S H) (hS : va_S (AZ Y) s.heap H locs) {atype : ArrayType} {ty : FieldType} (harr : Cond.arrayClass ty ∈ ALLW) (hty : newarray.typeOf atype = ty) (t0 : Nat) {cA : ClassId} (ht : (TYS Y)[t0]? = some (cA, ty)) (hra : ∀ (U : State) (c9 : ClassId), va_RA U c9 ty → U.vm.findClass ("[" ++ ty.toString) = some c9) {x : Int32} {N : Nat} (a0 : vp_A) (ha : ∀ cA : ClassId, vp_cell cA a0 = arrV cA N (fun _ => defaultValue ty)) (hn : ¬ x < 0) (hN : x.toNatClampNeg = N) (hbytes : N * componentBytes ty ≤ 536870912) (hcells : cells + 1 ≤ R.cells) (hslots : slots + N ≤ R.slots) (hdg : decode cc pc = .ok (.newarray atype, 2))
    (kk : ∀ (q : Nat) (H1 : Heap), WS9 Y (n + 1) (upA ad n q) (upS S n (.inr (.inl (.inl (cA, a0))))) H1 → va_S (AZ Y) s.heap H1 locs → W p l e R s m args below meth c H1 locs (cells + 1) (slots + N) Q (F0 m (pc + 2) ls (.ref q :: rest))) : W p l e R s m args below meth c H locs cells slots Q (F0 m pc ls (.int x :: rest)) := by
  obtain ⟨hx, hb, hr, hml, hown, hA, hlocks, hK, hZ⟩ := C0
  refine va_newa (atype := atype) (ty := ty) (a0 := a0) hx hb (by rw [hty]; exact hA _ harr) hty hK.k hW.2.1 hW.2.2 hS (fun q hq => Nat.le_trans hZ hq) ha hn hN hbytes hcells hslots hdg (fun q c1 H1 hKn hP1 hD1 hS1 => ?_)
  have e1 : c1 = cA := Option.some.inj ((hra _ _ (hKn.2 10 (c1, ty) rfl).2).symm.trans (hra _ _ (hK.k.2 t0 (cA, ty) ht).2))
  subst e1
  exact kk q H1 (ws_push hW trivial hP1 hD1) hS1
/-- a new array of objects -/
theorem ws_newq (C0 : BE Y p s m args meth c cc nL rt own) (hW : WS9 Y n ad S H) (hS : va_S (AZ Y) s.heap H locs) {C : String} {index : Nat} (hcl : Cond.classLink own index C ∈ ALLW) (hao : C ∈ aTab) (t0 : Nat) {cA : ClassId} (ht : (TYS Y)[t0]? = some (cA, .object C)) {x : Int32} {N : Nat} (hn : ¬ x < 0) (hN : x.toNatClampNeg = N) (hbytes : N * 4 ≤ 536870912) (hcells : cells + 1 ≤ R.cells) (hslots : slots + N ≤ R.slots) (hdg : decode cc pc = .ok (.anewarray index, 3))
    (kk : ∀ (q : Nat) (H1 : Heap), WS9 Y (n + 1) (upA ad n q) (upS S n (.inr (.inr (cA, N, fun _ => none)))) H1 → va_S (AZ Y) s.heap H1 locs → W p l e R s m args below meth c H1 locs (cells + 1) (slots + N) Q (F0 m (pc + 3) ls (.ref q :: rest))) : W p l e R s m args below meth c H locs cells slots Q (F0 m pc ls (.int x :: rest)) := by
  obtain ⟨hx, hb, hr, hml, hown, hA, hlocks, hK, hZ⟩ := C0
  refine va_newq hx hb hown (hA _ hcl) (hK.ao C hao) hK.k hW.2.1 hW.2.2 hS (fun q hq => Nat.le_trans hZ hq) hn hN hbytes hcells hslots hdg (fun q c1 H1 hKn hP1 hD1 hS1 => ?_)
  obtain ⟨-, -, -, -, -, f1⟩ := (hKn.2 10 (c1, .object C) rfl).2
  obtain ⟨-, -, -, -, -, f2⟩ := (hK.k.2 t0 (cA, .object C) ht).2
  have e1 : c1 = cA := Option.some.inj (f1.symm.trans f2)
  subst e1
  exact kk q H1 (ws_push hW (fun k p9 h9 => by cases h9) hP1 hD1) hS1
theorem rsv_set {ad : Nat → Nat} {fs : List (Nat ⊕ Value)} {k : Nat} {x : Nat ⊕ Value} : (fs.map (rsv ad)).set k (rsv ad x) = (fs.set k x).map (rsv ad) := (List.map_set ..).symm
/-- a final field that points to the cell at place p2 -/
theorem ws_putF (C0 : BE Y p s m args meth c cc nL rt own) (hm : meth.name = "<init>") (hW : WS9 Y n ad S H) (hS : va_S (AZ Y) s.heap H locs) {ref C : String} {T : u_T} {N ci index : Nat} (hin : ∀ w ∈ u_ws C T N, w ∈ ALLW) (ty0 : Nat → FieldType) (hty : ∀ k, k < N → parseFieldDescriptor (T k).2.2.1 = some (ty0 k)) (hnm : ∀ a, a < N → ∀ b, b < N → a ≠ b → (T a).2.1 ≠ (T b).2.1) (hc : CL[ci]? = some (C, T, N)) {k a : Nat} (hk : k < n) (ha : a = ad k) {fs : List (Nat ⊕ Value)} (hs : S k = .inl (ci, fs)) (j : Nat) (hj : j < N) (hlink : Cond.fieldLink own index ref (T j).2.1 (T j).2.2.1 ∈ ALLW) (href : ref = (T j).1) (hfin : (T j).2.2.2 = true) (hdecl : (T j).1 = own) {ty : FieldType} {v : Nat} (p2 : Nat) (hp2 : p2 < n) (hv : v = ad p2) (hd : parseFieldDescriptor (T j).2.2.1 = some ty) (hn : narrow ty (.ref v) = .ref v) (hfit : fits ty (.ref v) = true) (hl : j < fs.length) (hdg : decode cc pc = .ok (.putfield index, 3))
    (kk : ∀ (H1 : Heap) (locs1 : List Loc), WS9 Y n ad (upS S k (.inl (ci, fs.set j (.inl p2)))) H1 → va_S (AZ Y) s.heap H1 locs1 → W p l e R s m args below meth c H1 locs1 cells slots Q (F0 m (pc + 3) ls rest)) : W p l e R s m args below meth c H locs cells slots Q (F0 m pc ls (.ref v :: .ref a :: rest)) := by
  obtain ⟨hx, hb, hr, hml, hown, hA, hlocks, hK, hZ⟩ := C0
  subst ha hv
  refine va_putF hx hb hA hin ty0 hty hnm hown hK.k hW.2.1 hW.2.2 hS k (ws_at hW hk hs) hc j hj (hA _ hlink) (fun x hx => by rw [href]; exact hx) hfin hm hdecl hd hn hfit (by rw [List.length_map]; exact hl) hdg (fun H1 locs1 hP1 hD1 hS1 => kk H1 locs1 (ws_set hW hk ?_ ?_ hP1 hD1) hS1)
  · intro p9 hp9
    have h0 := hW.1 k hk
    rw [hs] at h0
    rcases List.mem_or_eq_of_mem_set hp9 with h | h
    · exact h0 p9 h
    · cases h; exact hp2
  · exact congrArg (fun z => Sum.inr (ci, z)) (rsv_set (x := .inl p2))
/-- .. that isn't final -/
theorem ws_putR (C0 : BE Y p s m args meth c cc nL rt own) (hW : WS9 Y n ad S H) (hS : va_S (AZ Y) s.heap H locs) {ref C : String} {T : u_T} {N ci index : Nat} (hin : ∀ w ∈ u_ws C T N, w ∈ ALLW) (ty0 : Nat → FieldType) (hty : ∀ k, k < N → parseFieldDescriptor (T k).2.2.1 = some (ty0 k)) (hnm : ∀ a, a < N → ∀ b, b < N → a ≠ b → (T a).2.1 ≠ (T b).2.1) (hc : CL[ci]? = some (C, T, N)) {k a : Nat} (hk : k < n) (ha : a = ad k) {fs : List (Nat ⊕ Value)} (hs : S k = .inl (ci, fs)) (j : Nat) (hj : j < N) (hlink : Cond.fieldLink own index ref (T j).2.1 (T j).2.2.1 ∈ ALLW) (href : ref = (T j).1) (hfin : (T j).2.2.2 = false) {ty : FieldType} {v : Nat} (p2 : Nat) (hp2 : p2 < n) (hv : v = ad p2) (hd : parseFieldDescriptor (T j).2.2.1 = some ty) (hn : narrow ty (.ref v) = .ref v) (hfit : fits ty (.ref v) = true) (hl : j < fs.length) (hdg : decode cc pc = .ok (.putfield index, 3))
    (kk : ∀ (H1 : Heap) (locs1 : List Loc), WS9 Y n ad (upS S k (.inl (ci, fs.set j (.inl p2)))) H1 → va_S (AZ Y) s.heap H1 locs1 → W p l e R s m args below meth c H1 locs1 cells slots Q (F0 m (pc + 3) ls rest)) : W p l e R s m args below meth c H locs cells slots Q (F0 m pc ls (.ref v :: .ref a :: rest)) := by
  obtain ⟨hx, hb, hr, hml, hown, hA, hlocks, hK, hZ⟩ := C0
  subst ha hv
  refine va_put hx hb hA hin ty0 hty hnm hown hK.k hW.2.1 hW.2.2 hS k (ws_at hW hk hs) hc j hj (hA _ hlink) (fun x hx => by rw [href]; exact hx) hfin hd hn hfit (by rw [List.length_map]; exact hl) hdg (fun H1 locs1 hP1 hD1 hS1 => kk H1 locs1 (ws_set hW hk ?_ ?_ hP1 hD1) hS1)
  · intro p9 hp9
    have h0 := hW.1 k hk
    rw [hs] at h0
    rcases List.mem_or_eq_of_mem_set hp9 with h | h
    · exact h0 p9 h
    · cases h; exact hp2
  · exact congrArg (fun z => Sum.inr (ci, z)) (rsv_set (x := .inl p2))
/-- a field that holds a number -/
theorem ws_putI (C0 : BE Y p s m args meth c cc nL rt own) (hW : WS9 Y n ad S H) (hS : va_S (AZ Y) s.heap H locs) {ref C : String} {T : u_T} {N ci index : Nat} (hin : ∀ w ∈ u_ws C T N, w ∈ ALLW) (ty0 : Nat → FieldType) (hty : ∀ k, k < N → parseFieldDescriptor (T k).2.2.1 = some (ty0 k)) (hnm : ∀ a, a < N → ∀ b, b < N → a ≠ b → (T a).2.1 ≠ (T b).2.1) (hc : CL[ci]? = some (C, T, N)) {k a : Nat} (hk : k < n) (ha : a = ad k) {fs : List (Nat ⊕ Value)} (hs : S k = .inl (ci, fs)) (j : Nat) (hj : j < N) (hlink : Cond.fieldLink own index ref (T j).2.1 (T j).2.2.1 ∈ ALLW) (href : ref = (T j).1) (hfin : (T j).2.2.2 = false) {ty : FieldType} {v : Int32} (hd : parseFieldDescriptor (T j).2.2.1 = some ty) (hn : narrow ty (.int v) = .int v) (hfit : fits ty (.int v) = true) (hl : j < fs.length) (hdg : decode cc pc = .ok (.putfield index, 3))
    (kk : ∀ (H1 : Heap) (locs1 : List Loc), WS9 Y n ad (upS S k (.inl (ci, fs.set j (.inr (.int v))))) H1 → va_S (AZ Y) s.heap H1 locs1 → W p l e R s m args below meth c H1 locs1 cells slots Q (F0 m (pc + 3) ls rest)) : W p l e R s m args below meth c H locs cells slots Q (F0 m pc ls (.int v :: .ref a :: rest)) := by
  obtain ⟨hx, hb, hr, hml, hown, hA, hlocks, hK, hZ⟩ := C0
  subst ha
  refine va_put hx hb hA hin ty0 hty hnm hown hK.k hW.2.1 hW.2.2 hS k (ws_at hW hk hs) hc j hj (hA _ hlink) (fun x hx => by rw [href]; exact hx) hfin hd hn hfit (by rw [List.length_map]; exact hl) hdg (fun H1 locs1 hP1 hD1 hS1 => kk H1 locs1 (ws_set hW hk ?_ ?_ hP1 hD1) hS1)
  · intro p9 hp9
    have h0 := hW.1 k hk
    rw [hs] at h0
    rcases List.mem_or_eq_of_mem_set hp9 with h | h
    · exact h0 p9 h
    · cases h
  · exact congrArg (fun z => Sum.inr (ci, z)) (rsv_set (x := .inr (.int v)))
/-- a field read -/
theorem ws_get (C0 : BE Y p s m args meth c cc nL rt own) (hW : WS9 Y n ad S H) {ref C : String} {T : u_T} {N ci index : Nat} (hin : ∀ w ∈ u_ws C T N, w ∈ ALLW) (hc : CL[ci]? = some (C, T, N)) {k a : Nat} (hk : k < n) (ha : a = ad k) {fs : List (Nat ⊕ Value)} (hs : S k = .inl (ci, fs)) (j : Nat) (hj : j < N) (hlink : Cond.fieldLink own index ref (T j).2.1 (T j).2.2.1 ∈ ALLW) (href : ref = (T j).1) (p2 : Nat) (hv : fs[j]? = some (.inl p2)) (hdg : decode cc pc = .ok (.getfield index, 3))
    (kk : W p l e R s m args below meth c H locs cells slots Q (F0 m (pc + 3) ls (.ref (ad p2) :: rest))) : W p l e R s m args below meth c H locs cells slots Q (F0 m pc ls (.ref a :: rest)) := by
  obtain ⟨hx, hb, hr, hml, hown, hA, hlocks, hK, hZ⟩ := C0
  subst ha
  exact va_get hx hb hA hin hown hK.k hW.2.1 k (ws_at hW hk hs) hc j hj (hA _ hlink) (fun x hx => by rw [href]; exact hx) (by rw [List.getElem?_map, hv]; rfl) hdg kk
/-- a reference into an array of objects -/
theorem ws_astq (C0 : BE Y p s m args meth c cc nL rt own) (hW : WS9 Y n ad S H) (hS : va_S (AZ Y) s.heap H locs) {r : vw_C} {ci t0 N k a e9 v : Nat} {cA : ClassId} {f : Nat → Option Nat} {fs : List (Nat ⊕ Value)} (hk : k < n) (ha : a = ad k) (hs : S k = .inr (.inr (cA, N, f))) (ht : (TYS Y)[t0]? = some (cA, .object r.1)) (he : e9 < n) (hv : v = ad e9) (hse : S e9 = .inl (ci, fs)) (hc : CL[ci]? = some r) {i : Int32} {i0 : Nat} (hi0 : i.toNatClampNeg = i0) (hin : vp_in i N) (hdg : decode cc pc = .ok (.aastore, 1))
    (kk : ∀ (H1 : Heap) (locs1 : List Loc), WS9 Y n ad (upS S k (.inr (.inr (cA, N, fun j => if j = i0 then some e9 else f j)))) H1 → va_S (AZ Y) s.heap H1 locs1 → W p l e R s m args below meth c H1 locs1 cells slots Q (F0 m (pc + 1) ls rest)) : W p l e R s m args below meth c H locs cells slots Q (F0 m pc ls (.ref v :: .int i :: .ref a :: rest)) := by
  obtain ⟨hx, hb, hr, hml, hown, hA, hlocks, hK, hZ⟩ := C0
  subst ha hv hi0
  refine va_astq hx hb hK.k hW.2.1 hW.2.2 hS k t0 e9 ci (ws_at hW hk hs) ht (ws_at hW he hse) hc hin hdg (fun H1 locs1 hP1 hD1 hS1 => kk H1 locs1 (ws_set hW hk ?_ ?_ hP1 hD1) hS1)
  · intro j p9 h9
    have h0 := hW.1 k hk
    rw [hs] at h0
    dsimp only at h9
    split at h9
    · cases h9; exact he
    · exact h0 j p9 h9
  · show aq cA N _ = aq cA N _
    congr 4
    funext j
    unfold va_up
    dsimp only
    by_cases hj : j = i.toNatClampNeg
    · rw [if_pos hj, if_pos hj]; rfl
    · rw [if_neg hj, if_neg hj]
/-- a number into an array of ints -/
theorem ws_iast (C0 : BE Y p s m args meth c cc nL rt own) (hW : WS9 Y n ad S H) (hS : va_S (AZ Y) s.heap H locs) {N k a : Nat} {f : Nat → Int32} (hk : k < n) (ha : a = ad k) (hs : S k = .inr (.inl (ai (YC Y 0) N f))) {i v : Int32} (hin : vp_in i N) (hdg : decode cc pc = .ok (.iastore, 1))
    (kk : ∀ (H1 : Heap) (locs1 : List Loc), WS9 Y n ad (upS S k (.inr (.inl (ai (YC Y 0) N (upd f (ix i) v))))) H1 → va_S (AZ Y) s.heap H1 locs1 → W p l e R s m args below meth c H1 locs1 cells slots Q (F0 m (pc + 1) ls rest)) : W p l e R s m args below meth c H locs cells slots Q (F0 m pc ls (.int v :: .int i :: .ref a :: rest)) := by
  obtain ⟨hx, hb, hr, hml, hown, hA, hlocks, hK, hZ⟩ := C0
  subst ha
  exact va_iast hx hb hK.k hW.2.1 hW.2.2 hS k 0 (ws_at hW hk hs) rfl hin hdg (fun H1 locs1 hP1 hD1 hS1 => kk H1 locs1 (ws_set hW hk trivial rfl hP1 hD1) hS1)
theorem ws_cast (C0 : BE Y p s m args meth c cc nL rt own) (hW : WS9 Y n ad S H) (hS : va_S (AZ Y) s.heap H locs) {N k a : Nat} {f : Nat → Int32} (hk : k < n) (ha : a = ad k) (hs : S k = .inr (.inl (ai (YC Y 2) N f))) {i v : Int32} (hin : vp_in i N) (hv : vp_nar .char v = v) (hdg : decode cc pc = .ok (.castore, 1))
    (kk : ∀ (H1 : Heap) (locs1 : List Loc), WS9 Y n ad (upS S k (.inr (.inl (ai (YC Y 2) N (upd f (ix i) v))))) H1 → va_S (AZ Y) s.heap H1 locs1 → W p l e R s m args below meth c H1 locs1 cells slots Q (F0 m (pc + 1) ls rest)) : W p l e R s m args below meth c H locs cells slots Q (F0 m pc ls (.int v :: .int i :: .ref a :: rest)) := by
  obtain ⟨hx, hb, hr, hml, hown, hA, hlocks, hK, hZ⟩ := C0
  subst ha
  exact va_cast hx hb hK.k hW.2.1 hW.2.2 hS k 2 (ws_at hW hk hs) rfl hin hdg (fun H1 locs1 hP1 hD1 hS1 => kk H1 locs1 (ws_set hW hk trivial (by rw [hv]; rfl) hP1 hD1) hS1)
theorem ws_obj (C0 : BE Y p s m args meth c cc nL rt own) (hsz : ls.size = nL) {idx a : Nat} (hlink : Cond.methodLink own idx ⟨"java/lang/Object", "<init>", "()V"⟩ ∈ ALLW) (hframes : 1 ≤ R.frames) (hlocals : (rest.map fun v => v.category).sum + 12 ≤ R.locals) (hdg : decode cc pc = .ok (.invokespecial idx, 3))
    (kk : W p l e R s m args below meth c H locs cells slots Q (F0 m (pc + 3) ls rest)) : W p l e R s m args below meth c H locs cells slots Q (F0 m pc ls (.ref a :: rest)) := by
  obtain ⟨hx, hb, hr, hml, hown, hA, hlocks, hK, hZ⟩ := C0
  exact W.objInit hx hb hown (hA _ hlink) (hA _ zt_38) (hA _ zt_39) (g := F0 m pc ls (.ref a :: rest)) rfl (by rw [hml]; exact hsz) rfl hdg hframes (by show 2 * 0 + _ + 12 ≤ _; omega) kk
variable {y : MethodName} {bytes : ByteArray} {maxL mc ms index N9 : Nat} {ret : Option FieldType} {rm : Room} {Qc : Array Value → State → Outcome → State → Prop} {As st0 : List Value} {b : Nat}
/-- a constructor called -/
abbrev NI (own : String) (index : Nat) (y : MethodName) (bytes : ByteArray) (maxL n : Nat) : Prop :=
  (Cond.initialized y.cls ∈ ALLW ∧ Cond.methodLink own index y ∈ ALLW ∧ Cond.instanceMethod y ∈ ALLW ∧ Cond.code y bytes maxL none ∈ ALLW) ∧ y.name = "<init>" ∧ y.cls ≠ "java/lang/invoke/MethodHandle" ∧ y.cls ≠ "java/lang/invoke/VarHandle" ∧ (parseMethodDescriptor y.desc).map (fun d => d.parameters.length) = some n
theorem hs_runI (C0 : BE Y p s m args meth c cc nL rt own) (hH : P H) (hS : va_S (AZ Y) s.heap H locs) (hM : Met l y (WS y bytes maxL none) rm (PcP Y P (.ref b :: As)) Qc mc ms (AZ Y)) (hn : NI own index y bytes maxL N9) (hrm : rm.cells = mc ∧ rm.slots = ms ∧ rm.frames + 1 ≤ R.frames ∧ 8 + (maxL + 11) + rm.locals ≤ R.locals)
    (hl : As.length = N9) (hst : st0 = As.reverse ++ .ref b :: rest) (hsz : ls.size = nL) (hroom : (rest.map fun v => v.category).sum ≤ 8) (hf : cells + mc ≤ R.cells ∧ slots + ms ≤ R.slots) (hdg : decode cc pc = .ok (.invokespecial index, 3)) :
    va_Run p l e R s m args below meth c H locs cells slots mc ms (F0 m pc ls st0) rest (Qc (Value.ref b :: As).toArray) (AZ Y) := by
  obtain ⟨hx, hb, hr, hml, hown, hA, hlocks, hK, hZ⟩ := C0
  obtain ⟨⟨h1, h2, h3, h4⟩, h5, h6⟩ := hn
  subst hst
  refine va_runI (As := As) (rest := rest) ⟨hx, hb, hml, hown, hA⟩ hM (cwI N9 hA (allw_gi fun w hw => ?_) rfl hrm.1 hrm.2.1 (hA _ h1) (hA _ h2) (hA _ h3) h5 h6 hrm.2.2) ⟨PcP.blind, fun U hU hW => PcP.of hK hZ hS hH hU hW⟩ rfl hl hsz rfl (lv_room hroom) hdg hf
  rcases List.mem_cons.mp hw with rfl | hw
  · exact h4
  · exact hw
/-- .. of a nest mate -/
theorem hs_runIN (C0 : BE Y p s m args meth c cc nL rt own) (hH : P H) (hS : va_S (AZ Y) s.heap H locs) (hM : Met l y (WS y bytes maxL none) rm (PcP Y P [.ref b]) Qc mc ms (AZ Y)) (hnl : (own, index, y, "RiverParcelService") ∈ nTab) (hn : (Cond.initialized y.cls ∈ ALLW ∧ Cond.instanceMethod y ∈ ALLW ∧ Cond.code y bytes maxL none ∈ ALLW) ∧ y.name = "<init>" ∧ y.cls ≠ "java/lang/invoke/MethodHandle" ∧ y.cls ≠ "java/lang/invoke/VarHandle" ∧ (parseMethodDescriptor y.desc).map (fun d => d.parameters.length) = some 0) (hrm : rm.cells = mc ∧ rm.slots = ms ∧ rm.frames + 1 ≤ R.frames ∧ 8 + (maxL + 11) + rm.locals ≤ R.locals)
    (hsz : ls.size = nL) (hroom : (rest.map fun v => v.category).sum ≤ 8) (hf : cells + mc ≤ R.cells ∧ slots + ms ≤ R.slots) (hdg : decode cc pc = .ok (.invokespecial index, 3)) :
    va_Run p l e R s m args below meth c H locs cells slots mc ms (F0 m pc ls (.ref b :: rest)) rest (Qc #[Value.ref b]) (AZ Y) := by
  obtain ⟨hx, hb, hr, hml, hown, hA, hlocks, hK, hZ⟩ := C0
  obtain ⟨⟨h1, h3, h4⟩, h5, h6⟩ := hn
  refine va_runIN (As := []) (rest := rest) ⟨hx, hb, hml, hown, hA⟩ hM ⟨va_cnB 0 hA (allw_gi fun w hw => ?_) rfl hrm.1 hrm.2.1 (hK.w _ hnl) (hA _ h1) h6 hrm.2.2, h5, hA _ h3⟩ ⟨PcP.blind, fun U hU hW => PcP.of hK hZ hS hH hU hW⟩ rfl rfl hsz rfl (lv_room hroom) hdg hf
  rcases List.mem_cons.mp hw with rfl | hw
  · exact h4
  · exact hw
theorem ws_cW {n2 : Nat} {S2 : Nat → SE} {a : Array Value} (hr : va_Run p l e R s m args below meth c H locs cells slots mc ms (F0 m pc ls st0) rest (QW Y n ad n2 S2 a) (AZ Y)) (hS : va_S (AZ Y) s.heap H locs) (kk : ∀ (ad2 : Nat → Nat) (H1 : Heap) (locs1 : List Loc), (∀ k, k < n → ad2 k = ad k) → WS9 Y n2 ad2 S2 H1 → va_S (AZ Y) s.heap H1 locs1 → W p l e R s m args below meth c H1 locs1 (cells + mc) (slots + ms) Q (F0 m (pc + 3) ls rest)) : W p l e R s m args below meth c H locs cells slots Q (F0 m pc ls st0) :=
  va_callv hr hS (fun _ _ h => h) (fun _ h => h) (fun u t H1 locs1 ht hvm hw hB _ _ hS1 => kk u H1 locs1 hw (ht ▸ hB) hS1)
theorem ws_vret {n2 : Nat} {ad2 : Nat → Nat} {S2 : Nat → SE} (C0 : BE Y p s m args meth c cc nL none own) (hW : WS9 Y n2 ad2 S2 H) (had : ∀ k, k < n → ad2 k = ad k) (hS : va_S (AZ Y) s.heap H locs) {mc ms : Nat} (h1 : cells ≤ mc) (h2 : slots ≤ ms) (hdg : decode cc pc = .ok (.return_, 1)) : W p l e R s m args below meth c H locs cells slots (MQ below (QW Y n ad n2 S2) args s mc ms (AZ Y)) (F0 m pc ls []) := by
  obtain ⟨hx, hb, hr, hml, hown, hA, hlocks, hK, hZ⟩ := C0
  exact W.widen h1 h2 (W.vret hx hb hr (fun t ht hWm => ⟨⟨ad2, rfl, had, by subst ht; exact hW⟩, hS.F ht⟩) hS.2.2 hdg)
end RC
