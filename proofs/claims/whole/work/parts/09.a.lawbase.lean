/-! what follows up to lw_At begins as kit/laws/SKELETON.whole -/
/-! THE CLAIM OUT OF ONE WALK OF THE LAW'S BODY. Your part is whole_start (and what it stands on); all else here is the same for every law, but numbers. -/
def R_law : String := "RiverParcelServiceLaw"
def lw_P (b : Addr) (xs : List Int32) (args : Array Value) (s : State) : Prop := args = #[.ref b] ∧ s.IntsAt b xs ∧ xs.length ≤ 2560 ∧ (Jvm.Cond.and given_1 narrow_1).before args s = true
/-- what a walk over the start with the record d0 says of its end, said of the start itself -/
theorem lw_closed {s t : State} {o : Outcome} {d0 : Drawn} {L : List Loc} {k n : Nat} (hd0 : s.drawn.sameBut d0 lw_cs) (hv : ∃ v, o = .returned v) (hW : (s.setDrawn d0).WarmedH t.vm) (hs : (s.setDrawn d0).sameButNew ({ t with vm := s.vm } : State) L k n) : State.butDraws s t lw_cs (fun t1 => Framed s o t1 L k n) := by
  have h2 : t.drawn = d0 := congrArg State.drawn hs.1
  refine ⟨⟨hv, hW, State.sameButNew.setDrawn hs s.drawn⟩, ?_, by decide⟩
  rw [h2]
  exact hd0
def lw_Q (_ : Array Value) (s : State) (o : Outcome) (t : State) : Prop := o = .returned (some (.int 1)) ∧ State.butDraws s t lw_cs (fun t1 => Framed s o t1 [] 603072 7182442)
def lw_Z (below : List Frame) (a : Array Value) (s : State) : State → Prop := fun t => ∃ o, t.status = .running ∧ Ended t below o ∧ lw_Q a s o t
/-- the law's own end, with 1 on the stack, nothing written that was there before, its room as the claim has it; d0: the record of draws at this point (at the entry s.drawn: begin with 'refine W.base ?_' and 'have hd0 := Drawn.sameBut.refl s.drawn lw_cs') -/
theorem lw_ret {p : Program} {l : Launch} {e : Env} {s : State} {m : MethodId} {below : List Frame} {meth : Method} {c : Code} {b : Nat} {d0 : Drawn} (hd0 : s.drawn.sameBut d0 lw_cs) (hx : p.tables.exec = Jvm.exec) (hb : c.code = code) (hr : meth.sig.returnType = ret) (hlocks : meth.locks = false) {pc : Nat} {H : Heap} {ls : Array Slot} (hdg : decode code pc = .ok (.ireturn, 1)) : W p l e room_1 (s.setDrawn d0) m #[Value.ref b] below meth c H [] 603072 7182442 (lw_Z below #[Value.ref b] s) (F0 m pc ls [.int 1]) := by
  intro T hT X
  obtain ⟨fs, hret, hrun, hended, hW, hframe⟩ := X.leave (v := some (.int 1)) (hlocks := hlocks) (fun h => by rw [hr] at h; cases h)
  have hmeth' : T.vm.method? m = some meth := X.method'
  refine ⟨T.setFrames fs, ?_, .returned (some (.int 1)), hrun, hended, rfl, lw_closed hd0 ⟨_, rfl⟩ hW hframe⟩
  jvm_step X.here [X.here.top, hx, hb, hdg, hmeth', hr, ret, narrow_b1]
  (try refine ⟨rfl, ?_⟩); (try refine ⟨rfl, ?_⟩)
  first | (intro acts; rw [hret _ acts rfl rfl rfl]) | rw [hret _ _ rfl rfl rfl]
  exact Steps.refl _
/-- what holds at the law's entry: the machine, the code, the tables' words (any of lw_tbl by 'hts w (by decide +kernel)'), the script of L ints xs at the cell b, what the Statement gives of the start (any of its parts by flat_of_before) -/
def lw_At (p : Program) (s : State) (m : MethodId) (meth : Method) (c : Code) (b L : Nat) (xs : Nat → Int32) : Prop :=
  p.tables.exec = Jvm.exec ∧ c.code = code ∧ meth.sig.returnType = ret ∧ c.maxLocals = 9 ∧ s.vm.findClass R_law = some m.cls ∧ (∀ w ∈ lw_tbl, w.before #[Value.ref b] s = true) ∧ va_X b L xs s s.heap ∧ b < s.heap.size ∧ meth.locks = false ∧ (Jvm.Cond.and given_1 narrow_1).before #[Value.ref b] s = true

/-! methods with handlers; the law's own rows -/
abbrev XN : String → State → State → Prop := fun _ _ _ => False
def bxhk {α β : Type} (x : α ⊕ Nat) (M : Mem) (k : α → Mem → Option β) (h : Nat → Mem → Option β) : Option β := match x with
  | .inl v => k v M
  | .inr e => h e M
def bxh {α β : Type} (z : Option ((α ⊕ Nat) × Mem)) (k : α → Mem → Option β) (h : Nat → Mem → Option β) : Option β := match z with
  | none => none
  | some (x, M) => bxhk x M k h
theorem bxh_o {α β : Type} {z : Option ((α ⊕ Nat) × Mem)} {k : α → Mem → Option β} {h : Nat → Mem → Option β} {r : β} (hz : bxh z k h = some r) : ∃ x M, z = some (x, M) ∧ bxhk x M k h = some r := by
  match z, hz with
  | some (x, M), hz => exact ⟨x, M, rfl, hz⟩
theorem bxh_v {α β : Type} {v : α} {M : Mem} {k : α → Mem → Option β} {h : Nat → Mem → Option β} {r : β} (hz : bxhk (.inl v) M k h = some r) : k v M = some r := hz
theorem bxh_x {α β : Type} {e : Nat} {M : Mem} {k : α → Mem → Option β} {h : Nat → Mem → Option β} {r : β} (hz : bxhk (.inr e) M k h = some r) : h e M = some r := hz
theorem vx_noX {p : Program} {l : Launch} {e : Env} {R : Room} {s : State} {m : MethodId} {args : Array Value} {below : List Frame} {meth : Method} {c : Code} {H : Heap} {locs : List Loc} {cells slots mc ms : Nat} {g : JFrame} {rest : List Value} {Qa : State → Outcome → State → Prop} {free : Addr → Prop} (h : vx_Run p l e R s m args below meth c H locs cells slots mc ms g rest Qa XN free) : va_Run p l e R s m args below meth c H locs cells slots mc ms g rest Qa free := fun T hT X => by
  rcases h T hT X with h | ⟨q, st₀, t, T', L, E, ce, -, -, -, -, -, hF, -⟩
  · exact h
  · exact hF.elim
theorem met_mkh {Y : LY} {l : Launch} {y : MethodName} {cc : ByteArray} {nL : Nat} {rt : Option FieldType} {hh : List (Nat × Nat × Nat × Nat)} {rm : Room} {P : Heap → Prop} {Qc : Array Value → State → Outcome → State → Prop} {XC : String → State → State → Prop} {mc ms : Nat} {own : String} {lv : List (Nat × Value)} (av : List Value) (hy : plainName y.cls = true) (hown : y.cls = own) (hlv : lv_args 0 av = lv) (hsl : (lg_sl av).length ≤ nL)
    (k : ∀ (p : Program) (e : Env) (s : State) (m : MethodId) (below : List Frame) (meth : Method) (c : Code), BE Y p s m av.toArray meth c cc nL rt own → c.exceptionTable.toList = tableOf hh → P s.heap → ∀ ls : Array Slot, lv_has ls nL lv → W p l e rm s m av.toArray below meth c s.heap [] 0 0 (vx_MQ below Qc XC av.toArray s mc ms (AZ Y)) (F0 m 0 ls [])) :
    vx_Met l y (Cond.codeWith y cc nL rt hh :: ALLW) rm (PcP Y P av) Qc XC mc ms (AZ Y) := by
  refine vx_ofWH (cc := cc) (maxL := nL) (ret := rt) (hh := hh) hy rfl ?_
  intro p e s m args below meth c s₁ B hml hv
  obtain ⟨rfl, hK, hZ, hH⟩ := hv
  have hl := lv_entry av hsl
  rw [lg_entry_eq]
  rw [hlv] at hl
  subst hown
  exact k p e s m below meth c ⟨B.exec, B.bytes, B.returns, hml, findClass_of_methodNamed B.named, fun w hw => atoms_spec B.pre w (List.mem_cons_of_mem _ hw), B.notSynchronized, hK, hZ⟩ (vx_table (x := y) B (atoms_spec B.pre _ List.mem_cons_self)) hH _ hl
section HL
variable {p : Program} {l : Launch} {e : Env} {R : Room} {s : State} {m : MethodId} {args : Array Value} {below : List Frame} {meth : Method} {c : Code} {H : Heap} {locs : List Loc} {cells slots : Nat} {Q : State → Prop}
variable {cc : ByteArray} {nL : Nat} {rt : Option FieldType} {own : String} {pc : Nat} {ls : Array Slot} {rest : List Value} {Y : LY} {M : Mem} {P P1 : Heap → Prop} {H0 : Heap}
variable {y : MethodName} {bytes : ByteArray} {maxL mc ms index n : Nat} {ret : Option FieldType} {rm : Room} {Qc : Array Value → State → Outcome → State → Prop} {As st0 : List Value} {a : Array Value} {hh : List (Nat × Nat × Nat × Nat)}
abbrev NSX (own : String) (index : Nat) (y : MethodName) (bytes : ByteArray) (maxL : Nat) (ret : Option FieldType) (hh : List (Nat × Nat × Nat × Nat)) (n : Nat) : Prop :=
  (Cond.methodLink own index y ∈ ALLW ∧ Cond.static y ∈ ALLW ∧ Cond.initialized y.cls ∈ ALLW ∧ Cond.codeWith y bytes maxL ret hh ∈ ALLW) ∧ y.cls ≠ "java/lang/invoke/MethodHandle" ∧ y.cls ≠ "java/lang/invoke/VarHandle" ∧ (parseMethodDescriptor y.desc).map (fun d => d.parameters.length) = some n
theorem hs_runSX (C0 : BE Y p s m args meth c cc nL rt own) (hH : P H) (hS : va_S (AZ Y) s.heap H locs) (hM : vx_Met l y (Cond.codeWith y bytes maxL ret hh :: ALLW) rm (PcP Y P As) Qc XN mc ms (AZ Y)) (hn : NSX own index y bytes maxL ret hh n) (hrm : rm.cells = mc ∧ rm.slots = ms ∧ rm.frames + 1 ≤ R.frames ∧ 8 + (maxL + 11) + rm.locals ≤ R.locals)
    (hl : As.length = n) (hst : st0 = As.reverse ++ rest) (hsz : ls.size = nL) (hroom : (rest.map fun v => v.category).sum ≤ 8) (hf : cells + mc ≤ R.cells ∧ slots + ms ≤ R.slots) (hdg : decode cc pc = .ok (.invokestatic index, 3)) :
    va_Run p l e R s m args below meth c H locs cells slots mc ms (F0 m pc ls st0) rest (Qc As.toArray) (AZ Y) := by
  obtain ⟨hx, hb, hr, hml, hown, hA, hlocks, hK, hZ⟩ := C0
  obtain ⟨⟨h1, h2, h3, h4⟩, hd⟩ := hn
  subst hst
  refine vx_noX (vx_runSX (As := As) (rest := rest) ⟨hx, hb, hml, hown, hA⟩ hM (vx_cwSW n hA (allw_gi fun w hw => ?_) rfl hrm.1 hrm.2.1 hd hrm.2.2) ⟨PcP.blind, fun U hU hW => PcP.of hK hZ hS hH hU hW⟩ rfl hl hsz rfl (lv_room hroom) hdg hf)
  simp only [va_wsS, List.mem_append, List.mem_cons, List.not_mem_nil, or_false] at hw
  rcases hw with (rfl | rfl | rfl) | rfl | hw
  · exact h1
  · exact h2
  · exact h3
  · exact h4
  · exact hw
theorem hl_ci {x : Int32 ⊕ Nat} (hr : vx_Run p l e R s m args below meth c H locs cells slots mc ms (F0 m pc ls st0) rest (QxiP Y x P1 a) (XxP Y x P1) (AZ Y)) (hS : va_S (AZ Y) s.heap H locs)
    (kx : ∀ (k : Nat) (E : String) (q9 : Nat) (ce : Cell) (H1 : Heap) (locs1 : List Loc), x = .inr k → exN[k]? = some E → P1 H1 → va_S (AZ Y) s.heap H1 locs1 → H1[q9]? = some ce → ce.vm = .none → s.vm.findClass E = some ce.cls → vx_W p l e R s m args below meth c H1 locs1 (cells + mc) (slots + ms) Q (F0 m pc ls rest) q9)
    (kk : ∀ v, x = .inl v → ∀ (H1 : Heap) (locs1 : List Loc), P1 H1 → va_S (AZ Y) s.heap H1 locs1 → W p l e R s m args below meth c H1 locs1 (cells + mc) (slots + ms) Q (F0 m (pc + 3) ls (.int v :: rest))) : W p l e R s m args below meth c H locs cells slots Q (F0 m pc ls st0) :=
  vx_calli hr hS (fun _ _ h => h) (fun _ h => h) (fun _ _ h => h) (fun E ce q9 u t H1 locs1 ht hvm hu hB _ _ hS1 hq hv hc => kx u E q9 ce H1 locs1 hu hB.1 (ht ▸ hB.2) hS1 hq hv hc) (fun r u t H1 locs1 ht hvm hw hB _ _ hS1 => kk r hw H1 locs1 (ht ▸ hB) hS1)
theorem hl_cd {x : UInt64 ⊕ Nat} (hr : vx_Run p l e R s m args below meth c H locs cells slots mc ms (F0 m pc ls st0) rest (QxdP Y x P1 a) (XxP Y x P1) (AZ Y)) (hS : va_S (AZ Y) s.heap H locs)
    (kx : ∀ (k : Nat) (E : String) (q9 : Nat) (ce : Cell) (H1 : Heap) (locs1 : List Loc), x = .inr k → exN[k]? = some E → P1 H1 → va_S (AZ Y) s.heap H1 locs1 → H1[q9]? = some ce → ce.vm = .none → s.vm.findClass E = some ce.cls → vx_W p l e R s m args below meth c H1 locs1 (cells + mc) (slots + ms) Q (F0 m pc ls rest) q9)
    (kk : ∀ v, x = .inl v → ∀ (H1 : Heap) (locs1 : List Loc), P1 H1 → va_S (AZ Y) s.heap H1 locs1 → W p l e R s m args below meth c H1 locs1 (cells + mc) (slots + ms) Q (F0 m (pc + 3) ls (.double v :: rest))) : W p l e R s m args below meth c H locs cells slots Q (F0 m pc ls st0) :=
  vx_calld hr hS (fun _ _ h => h) (fun _ h => h) (fun _ _ h => h) (fun E ce q9 u t H1 locs1 ht hvm hu hB _ _ hS1 hq hv hc => kx u E q9 ce H1 locs1 hu hB.1 (ht ▸ hB.2) hS1 hq hv hc) (fun r u t H1 locs1 ht hvm hw hB _ _ hS1 => kk r hw H1 locs1 (ht ▸ hB) hS1)
theorem hl_cf {x : UInt32 ⊕ Nat} (hr : vx_Run p l e R s m args below meth c H locs cells slots mc ms (F0 m pc ls st0) rest (QxfP Y x P1 a) (XxP Y x P1) (AZ Y)) (hS : va_S (AZ Y) s.heap H locs)
    (kx : ∀ (k : Nat) (E : String) (q9 : Nat) (ce : Cell) (H1 : Heap) (locs1 : List Loc), x = .inr k → exN[k]? = some E → P1 H1 → va_S (AZ Y) s.heap H1 locs1 → H1[q9]? = some ce → ce.vm = .none → s.vm.findClass E = some ce.cls → vx_W p l e R s m args below meth c H1 locs1 (cells + mc) (slots + ms) Q (F0 m pc ls rest) q9)
    (kk : ∀ v, x = .inl v → ∀ (H1 : Heap) (locs1 : List Loc), P1 H1 → va_S (AZ Y) s.heap H1 locs1 → W p l e R s m args below meth c H1 locs1 (cells + mc) (slots + ms) Q (F0 m (pc + 3) ls (.float v :: rest))) : W p l e R s m args below meth c H locs cells slots Q (F0 m pc ls st0) :=
  vx_callf hr hS (fun _ _ h => h) (fun _ h => h) (fun _ _ h => h) (fun E ce q9 u t H1 locs1 ht hvm hu hB _ _ hS1 hq hv hc => kx u E q9 ce H1 locs1 hu hB.1 (ht ▸ hB.2) hS1 hq hv hc) (fun r u t H1 locs1 ht hvm hw hB _ _ hS1 => kk r hw H1 locs1 (ht ▸ hB) hS1)
/-- caught by a row of this method's table -/
theorem hl_catch {E : String} {ce : Cell} {q9 : Nat} (C0 : BE Y p s m args meth c cc nL rt own) (hT : c.exceptionTable.toList = tableOf hh) (hE : E ∈ exN) (pre : List ExceptionTableEntry) (x : ExceptionTableEntry) (suf : List ExceptionTableEntry) (hsplit : tableOf hh = pre ++ x :: suf)
    (hpass : ∀ z ∈ pre, covers z pc = false ∨ (z.catchType ≠ 0 ∧ ∃ nm : String, Cond.classLink own z.catchType nm ∈ ALLW ∧ nm ∈ exN ∧ nm ≠ E)) (hx9 : covers x pc = true) (h0 : x.catchType ≠ 0) (hlink : Cond.classLink own x.catchType E ∈ ALLW) (hcell : H[q9]? = some ce) (hv : ce.vm = .none) (hcl : s.vm.findClass E = some ce.cls)
    (kk : W p l e R s m args below meth c H locs cells slots Q (F0 m x.handlerPc ls [.ref q9])) : vx_W p l e R s m args below meth c H locs cells slots Q (F0 m pc ls rest) q9 := by
  obtain ⟨hx, hb, hr, hml, hown, hA, hlocks, hK, hZ⟩ := C0
  refine vx_catch hown pre x suf (hT.trans hsplit) (fun z hz => ?_) hx9 h0 (hA _ hlink) (va_Nw.use rfl (hK.c E hE)) hcell hv hcl kk
  rcases hpass z hz with h | ⟨h1, nm, h2, h3, h4⟩
  · exact Or.inl h
  · exact Or.inr ⟨h1, nm, hA _ h2, hK.nc E hE nm h3 (fun e => h4 e.symm)⟩
theorem v01 : vp_in (0 : Int32) 1 := show vin (0 : Int32) 1 from by decide
theorem hl_laload (hexec : p.tables.exec = Jvm.exec) (hb : c.code = cc) (hK : KK Y s) (hH : HS Y M H) (hdg : decode cc pc = .ok (.laload, 1))
    (kk : W p l e R s m args below meth c H locs cells slots Q (F0 m (pc + 1) ls (.long ((M 33 0 0).toInt64) :: rest))) : W p l e R s m args below meth c H locs cells slots Q (F0 m pc ls (.int 0 :: .ref (YA Y 33 0) :: rest)) :=
  va_lald hexec hb hK.k (hH.at (a := 33) (i := 0) (by decide) (by decide)) 0 8 rfl rfl v01 hdg kk
theorem hl_daload (hexec : p.tables.exec = Jvm.exec) (hb : c.code = cc) (hK : KK Y s) (hH : HS Y M H) (hdg : decode cc pc = .ok (.daload, 1))
    (kk : W p l e R s m args below meth c H locs cells slots Q (F0 m (pc + 1) ls (.double (dOf (M 36 0 0) (M 36 0 1)) :: rest))) : W p l e R s m args below meth c H locs cells slots Q (F0 m pc ls (.int 0 :: .ref (YA Y 36 0) :: rest)) :=
  va_dald hexec hb hK.k (hH.at (a := 36) (i := 0) (by decide) (by decide)) 0 9 rfl rfl v01 hdg kk
theorem hl_lastore (hexec : p.tables.exec = Jvm.exec) (hb : c.code = cc) (hK : KK Y s) (hH : HS Y M H) (hS : va_S (AZ Y) H0 H locs) {v : Int32} {x : Int64} (hv : v.toInt64 = x) (hdg : decode cc pc = .ok (.lastore, 1))
    (kk : ∀ (H1 : Heap) (locs1 : List Loc), HS Y (mu M 33 0 0 v) H1 → va_S (AZ Y) H0 H1 locs1 → W p l e R s m args below meth c H1 locs1 cells slots Q (F0 m (pc + 1) ls rest)) : W p l e R s m args below meth c H locs cells slots Q (F0 m pc ls (.long x :: .int 0 :: .ref (YA Y 33 0) :: rest)) := by
  obtain ⟨ws, q0, hP, hD, hq, -, back⟩ := hH.put (a := 33) (i := 0) (by decide) (by decide)
  refine va_last hexec hb hK.k hP hD hS q0 8 hq rfl v01 hdg (fun H1 locs1 hP1 hD1 hS1 => kk H1 locs1 (back (mu M 33 0 0 v) _ H1 (fun b j hb => mu_ne M _ _ hb) ?_ hP1 hD1) hS1)
  rw [mu_row]
  show (.inl (YC Y 8, 1, .inr (.inl (vp_updL (fun k => (M 33 0 k).toInt64) 0 x))) : va_E) = .inl (YC Y 8, 1, .inr (.inl (fun k => (upd (M 33 0) 0 v k).toInt64)))
  have e1 : vp_updL (fun k => (M 33 0 k).toInt64) 0 x = fun k => (upd (M 33 0) 0 v k).toInt64 := by
    funext k
    unfold vp_updL upd
    by_cases hk : k = 0
    · simp [hk, hv]
    · simp [hk]
  rw [e1]
theorem hl_dastore (hexec : p.tables.exec = Jvm.exec) (hb : c.code = cc) (hK : KK Y s) (hH : HS Y M H) (hS : va_S (AZ Y) H0 H locs) {x : UInt64} (hdg : decode cc pc = .ok (.dastore, 1))
    (kk : ∀ (H1 : Heap) (locs1 : List Loc), HS Y (mu (mu M 36 0 0 (dLo x)) 36 0 1 (dHi x)) H1 → va_S (AZ Y) H0 H1 locs1 → W p l e R s m args below meth c H1 locs1 cells slots Q (F0 m (pc + 1) ls rest)) : W p l e R s m args below meth c H locs cells slots Q (F0 m pc ls (.double x :: .int 0 :: .ref (YA Y 36 0) :: rest)) := by
  obtain ⟨ws, q0, hP, hD, hq, -, back⟩ := hH.put (a := 36) (i := 0) (by decide) (by decide)
  refine va_dast hexec hb hK.k hP hD hS q0 9 hq rfl v01 hdg (fun H1 locs1 hP1 hD1 hS1 => kk H1 locs1 (back (mu (mu M 36 0 0 (dLo x)) 36 0 1 (dHi x)) _ H1 (fun b j hb => by rw [mu_ne _ _ _ hb, mu_ne _ _ _ hb]) ?_ hP1 hD1) hS1)
  rw [mu_row, mu_row]
  show (.inl (YC Y 9, 1, .inr (.inr (.inr (.inl (vf_upd (fun k => dOf (M 36 0 (2 * k)) (M 36 0 (2 * k + 1))) 0 x))))) : va_E) = .inl (YC Y 9, 1, .inr (.inr (.inr (.inl (fun k => dOf (upd (upd (M 36 0) 0 (dLo x)) 1 (dHi x) (2 * k)) (upd (upd (M 36 0) 0 (dLo x)) 1 (dHi x) (2 * k + 1)))))))
  have e1 : vf_upd (fun k => dOf (M 36 0 (2 * k)) (M 36 0 (2 * k + 1))) 0 x = fun k => dOf (upd (upd (M 36 0) 0 (dLo x)) 1 (dHi x) (2 * k)) (upd (upd (M 36 0) 0 (dLo x)) 1 (dHi x) (2 * k + 1)) := by
    funext k
    unfold vf_upd upd
    by_cases hk : k = 0
    · subst hk
      simp [dOf_eq]
    · have h1 : ¬ 2 * k = 1 := by omega
      have h2 : ¬ 2 * k = 0 := by omega
      have h3 : ¬ 2 * k + 1 = 1 := by omega
      have h4 : ¬ 2 * k + 1 = 0 := by omega
      simp [hk, h1, h2, h3]
  rw [e1]
end HL
