/-! exceptions over the memory. vx_ctorMadeN, vx_makeSW, vx_makeN, vx_makeNW begin as vx_ctorMadeS, vx_makeS of kit/laws/EXCEPTIONS.to-paste -/
def xSix : ByteArray := ⟨#[0x2a, 0x2b, 0xb7, 0x00, 0x0d, 0xb1]⟩
theorem xSix_0 : decode xSix 0 = .ok (.aload_n 0, 1) := by decide +kernel
theorem xSix_1 : decode xSix 1 = .ok (.aload_n 1, 1) := by decide +kernel
theorem xSix_2 : decode xSix 2 = .ok (.invokespecial 13, 3) := by decide +kernel
theorem xSix_5 : decode xSix 5 = .ok (.return_, 1) := by decide +kernel
/-- what a class asks whose constructor calls its superclass's by place 13 of its pool -/
def xAtoms (own : String) (ic : Nat) (X : String) (names : List String) : List Cond := (Bundle.throwableAtoms ++ Bundle.throwableSAtoms ++ (match names with | [] => [] | Y :: r => Bundle.passSAtoms X Y 13 xSix ++ Bundle.chainSAtoms Y r)) ++
  [.methodLink own ic (Bundle.initS X), .instantiable X 6, .castable X X, .selects X Bundle.tFill0 Bundle.tFill0, .selects X Bundle.tFill Bundle.tFill,
   .lays X Bundle.tN "cause" "Ljava/lang/Throwable;", .lays X Bundle.tN "stackTrace" Bundle.steD, .lays X Bundle.tN "suppressedExceptions" Bundle.listD, .lays X Bundle.tN "detailMessage" "Ljava/lang/String;",
   .isRef (.static Bundle.tN "UNASSIGNED_STACK" Bundle.steD), .isRef (.static Bundle.tN "SUPPRESSED_SENTINEL" Bundle.listD),
   .fieldLink Bundle.tN 198 Bundle.tN "backtrace" "Ljava/lang/Object;", .lays Bundle.tN Bundle.tN "backtrace" "Ljava/lang/Object;", .lays X Bundle.tN "backtrace" "Ljava/lang/Object;"]
def xAtS (own : String) (ic : Nat) (X : String) (names : List String) : List Cond := (xAtoms own ic X names).filter vx_no
theorem xChain {args : Array Value} {s : State} {pl : Platform} (hpl : pl.magicAccessors = ({} : Platform).magicAccessors) {top : MethodId} (htop : s.methodNamed? (Bundle.initS Bundle.tN) = some top) (Y : String) (r : List String) (X : String) (hX : Bundle.fit X = true) (hn : ∀ n ∈ Y :: r, Bundle.fit n = true) (h : ∀ c ∈ Bundle.passSAtoms X Y 13 xSix ++ Bundle.chainSAtoms Y r, c.before args s = true) :
    ∃ (P1 : PassC) (Ps : List PassC), Ps.length = (Y :: r).length ∧ P1.LinksS pl s ∧ (∀ P, P ∈ Ps → P.LinksS pl s) ∧ s.methodNamed? (Bundle.initS X) = some P1.m ∧ P1.sup = firstOf top (Ps.map (·.toPassT)) ∧ PassesOn top (Ps.map (·.toPassT)) := by
  obtain ⟨P, L, hm, hs⟩ := PassC.ofS_atoms (args := args) (s := s) hpl (X := X) (Y := Y) (Bundle.fit_spec hX).1 (Bundle.fit_spec (hn Y List.mem_cons_self)).2 xSix_0 xSix_1 xSix_2 xSix_5 (fun c hc => h c (List.mem_append_left _ hc))
  obtain ⟨P', Ps, hlen, L', hL, hm', hsup, hpass⟩ := Bundle.chainS (args := args) hpl htop r Y (hn Y List.mem_cons_self) (fun n hn' => hn n (List.mem_cons_of_mem _ hn')) (fun c hc => h c (List.mem_append_right _ hc))
  refine ⟨P, P' :: Ps, by simp [hlen], L, ?_, hm, Option.some.inj (hs.symm.trans hm'), hsup, hpass⟩
  intro Q hQ
  rcases List.mem_cons.mp hQ with rfl | hQ
  · exact L'
  · exact hL Q hQ
section XS1
variable {p : Program} {l : Launch} {e : Env} {R : Room} {s : State} {m₀ : MethodId} {args : Array Value} {below : List Frame} {meth : Method} {c : Code} {W : State} {locs : List Loc} {cells slots : Nat}
set_option maxHeartbeats 4000000 in
theorem vx_ctorMadeS (X : Stand p l e R s m₀ args below meth c W locs cells slots) (hexec : p.tables.exec = Jvm.exec) (htr : e.platform.stackTraces = false) {own cls : String} {names : List String} {ic : Nat}
    (hown : s.vm.findClass own = some m₀.cls) (hcls : Bundle.fit cls = true) (hnames : ∀ n ∈ names, Bundle.fit n = true)
    (h : ∀ a ∈ Bundle.ownAtoms own ic cls names, a.before args s = true)
    (hlocs : ∀ x ∈ locs, ∀ cell, s.heap[x.base]? = some cell → cell.vm.isStatics = false)
    {a : Addr} {cX : ClassId} {kX : Class} (hfoundX : s.vm.findClass cls = some cX) (hkX : s.vm.classes[cX]? = some kX) (hcell : W.heap[a]? = some (freshCell cX kX)) (hnew : s.heap.size ≤ a)
    {msg : Value} (hmsg : msg.isRef = true)
    {g : JFrame} (hg : g.method = m₀) (hsize : g.locals.size = c.maxLocals) {rest : List Value} (hstack : g.stack = msg :: .ref a :: .ref a :: rest)
    (hd6 : decode c.code g.pc = .ok (.invokespecial ic, 3))
    (hRframes : names.length + 3 < R.frames) (hRlocals : 2 * g.monitorRoom + ((Value.ref a :: rest).map fun v => v.category).sum + (13 * (names.length + 1) + 42) ≤ R.locals) :
    ∃ (V : State) (ce : Cell) (L : List Loc), Stand p l e R s m₀ args below meth c (V.setCell a ce) (locs ++ L) cells slots ∧ (∀ y ∈ L, y.base = a) ∧ a < V.heap.size ∧ ce.cls = cX ∧ ce.vm = .none ∧
      ∀ target, Steps p.tables e below ((V.setCell a ce).setTop { g with stack := .ref a :: rest, pc := g.pc + 3 }) target → Steps p.tables e below (W.setTop g) target := by
  have howns : e.platform.frameOwnsMonitors = true := by rw [X.admits.platform]
  have hfin : e.platform.finalization = false := by rw [X.admits.platform]
  have hpl : e.platform.magicAccessors = ({} : Platform).magicAccessors := by rw [X.admits.platform]
  have a' : ∀ x, x ∈ Bundle.ownAtoms own ic cls names → x.holds args s none s [] = true := fun x hx => h x hx
  obtain ⟨T, Z0, L, -, Y⟩ := ThrowableC.of_atoms (args := args) howns hfin hpl (fun x hx => h x (by simp [Bundle.ownAtoms, hx]))
  obtain ⟨Z, M, LZ, LM, hnZ⟩ := Init0T.ofS_atoms (args := args) hpl L Y (fun x hx => h x (by simp [Bundle.ownAtoms, hx]))
  obtain ⟨P1, Ps, hlen, L1, hL, hP1m, hlink1, hlink⟩ := Bundle.chainS (args := args) hpl hnZ names cls hcls hnames (fun x hx => h x (by simp [Bundle.ownAtoms, hx]))
  have hfound : s.vm.findClass cls = some P1.m.cls := findClass_of_methodNamed hP1m
  cases Option.some.inj (hfoundX.symm.trans hfound)
  obtain ⟨c1, kX', hc1, hk, hord, -, -, hn6⟩ := Cond.instantiable_spec (a' (.instantiable cls 6) (by simp [Bundle.ownAtoms]))
  cases Option.some.inj (hc1.symm.trans hfound)
  cases Option.some.inj (hkX.symm.trans hk)
  have hsel0 : selectMethod e.platform s.vm P1.m.cls T.fill0 = .method T.fill0 := by
    obtain ⟨c2, r2, m2, q1, q2, q3, q4, -⟩ := Cond.selects_spec (a' (.selects cls Bundle.tFill0 Bundle.tFill0) (by simp [Bundle.ownAtoms]))
    cases Option.some.inj (q1.symm.trans hfound)
    cases Option.some.inj (q2.symm.trans (State.methodFound?_of_named Y.fill0 (by decide)))
    cases Option.some.inj (q3.symm.trans Y.fill0)
    rw [Launch.admits_selectMethod X.admits]; exact q4
  have hselF : selectMethod e.platform s.vm P1.m.cls T.fill = .method T.fill := by
    obtain ⟨c2, r2, m2, q1, q2, q3, q4, -⟩ := Cond.selects_spec (a' (.selects cls Bundle.tFill Bundle.tFill) (by simp [Bundle.ownAtoms]))
    cases Option.some.inj (q1.symm.trans hfound)
    cases Option.some.inj (q2.symm.trans (State.methodFound?_of_named Y.fill (by decide)))
    cases Option.some.inj (q3.symm.trans Y.fill)
    rw [Launch.admits_selectMethod X.admits]; exact q4
  obtain ⟨cellS0, hcS0, hiss⟩ := Y.statics
  obtain ⟨u0, hu0⟩ := Cond.staticRefV Y.unassigned L.unassignedStatic L.statics hcS0 hiss (a' (.isRef (.static Bundle.tN "UNASSIGNED_STACK" Bundle.steD)) (by simp [Bundle.ownAtoms]))
  obtain ⟨sen, hsen⟩ := Cond.staticRefV Y.sentinel L.sentinelStatic L.statics hcS0 hiss (a' (.isRef (.static Bundle.tN "SUPPRESSED_SENTINEL" Bundle.listD)) (by simp [Bundle.ownAtoms]))
  obtain ⟨ci198, i198, fB, hk198, hg198, ha198, hsB, -, hnB, htB, hffB⟩ := Cond.ownField (t := .object "java/lang/Object") Y.found L.cls (by decide +kernel) (a' (.fieldLink Bundle.tN 198 Bundle.tN "backtrace" "Ljava/lang/Object;") (by simp [Bundle.ownAtoms])) (a' (.lays Bundle.tN Bundle.tN "backtrace" "Ljava/lang/Object;") (by simp [Bundle.ownAtoms])) e.platform hpl
  obtain ⟨cellS, hcS', heS, -, hkeep⟩ := X.same.2.2.2.2.2 T.aS cellS0 hcS0
  have hcellS : W.heap[T.aS]? = some cellS := hcS'
  have hout' : ∀ i, (⟨T.aS, i⟩ : Loc) ∉ locs := fun i hmem => by
    have := hlocs _ hmem cellS0 hcS0
    rw [hiss] at this; cases this
  have hknownS : cellS.vm ≠ .unknown := by
    rw [heS]; intro hu
    rw [show cellS0.vm = .unknown from hu] at hiss
    cases hiss
  have hneS : T.aS ≠ a := Nat.ne_of_lt (Nat.lt_of_lt_of_le (Array.getElem?_eq_some_iff.mp hcS0).1 hnew)
  obtain ⟨iM, hffM⟩ := Y.msg
  obtain ⟨tyC, dC, hdC, hdnC⟩ := Cond.laysAt hfound hk Y.cause (a' (.lays cls Bundle.tN "cause" "Ljava/lang/Throwable;") (by simp [Bundle.ownAtoms]))
  obtain ⟨tyS, dS, hdS, hdnS⟩ := Cond.laysAt hfound hk Y.stack (a' (.lays cls Bundle.tN "stackTrace" Bundle.steD) (by simp [Bundle.ownAtoms]))
  obtain ⟨tyP, dP, hdP, hdnP⟩ := Cond.laysAt hfound hk Y.supp (a' (.lays cls Bundle.tN "suppressedExceptions" Bundle.listD) (by simp [Bundle.ownAtoms]))
  obtain ⟨tyM, dM, hdM, hdnM⟩ := Cond.laysAt hfound hk hffM (a' (.lays cls Bundle.tN "detailMessage" "Ljava/lang/String;") (by simp [Bundle.ownAtoms]))
  obtain ⟨tyB, dB, hdB, hdnB⟩ := Cond.laysAt hfound hk hffB (a' (.lays cls Bundle.tN "backtrace" "Ljava/lang/Object;") (by simp [Bundle.ownAtoms]))
  have bC := Cond.laysApart hdB hdC hdnB hdnC (by rw [hnB, Y.causeName]; decide)
  have bS := Cond.laysApart hdB hdS hdnB hdnS (by rw [hnB, Y.stackName]; decide)
  have bP := Cond.laysApart hdB hdP hdnB hdnP (by rw [hnB, Y.suppName]; decide)
  have hskip : SkipFacts T e.platform s (fun u => u) u0 ((preparedCellV T.toThrowableT (freshCell P1.m.cls kX) a u0 sen).withEntry W.cur) :=
    ⟨{ ci198 := ci198, i198 := i198, fBack := fB }, ⟨hk198, hg198, ha198, hsB⟩, by
      have := fresh_default (c := P1.m.cls) tyB
      rw [htB] at this
      simpa [preparedCellV, Cell.setSlot, Cell.withEntry, Array.getElem?_setIfInBounds, bC, bS, bP, bC.symm, bS.symm, bP.symm, defaultValue] using this, fun _ _ => rfl⟩
  obtain ⟨tm, methC, cdC, kC, vm₁, hnC, -, -, -, -, -, -, -, hW₁, st1⟩ := Steps.initColdS (tb := p.tables) (e := e) (below := below) (s := s) (U := W) X.here hexec X.warmed hpl hown (t := Bundle.initS cls) rfl rfl (Bundle.fit_spec hcls).2
    (a' (.methodLink own ic (Bundle.initS cls)) (by simp [Bundle.ownAtoms])) (h (.instanceMethod (Bundle.initS cls)) (by cases names <;> simp [Bundle.ownAtoms, Bundle.chainSAtoms, Bundle.passSAtoms])) (bytes := Bundle.six) (maxL := 2) (h (.code (Bundle.initS cls) Bundle.six 2 none) (by cases names <;> simp [Bundle.ownAtoms, Bundle.chainSAtoms, Bundle.passSAtoms]))
    (f := g) hg (a := a) (msg := msg) (rest := .ref a :: rest) hstack hd6
  cases Option.some.inj (hnC.symm.trans hP1m)
  have X₁ := X.noted hW₁
  obtain ⟨vm₂, X₂, st2⟩ := X₁.ctorMessageOffV hexec (g := { g with stack := .ref a :: rest }) hg hsize T L Z LZ M LM (P1 :: Ps)
    (fun P hP => by rcases List.mem_cons.mp hP with rfl | hP; exact L1; exact hL P hP) ⟨hlink1, hlink⟩ (u0 := u0) (sen := sen) (self := a) hmsg (cell := freshCell P1.m.cls kX) (cellS := cellS)
    hcell (fun _ => by simp) (by simp) rfl rfl hsel0 hselF hcellS hneS hknownS (by rw [hkeep _ (hout' _)]; exact hu0) (by rw [hkeep _ (hout' _)]; exact hsen)
    (Takes.of_laid hk hord tyC (by rw [Y.causeType]; rfl)) (Takes.of_laid hk hord tyS (by rw [Y.stackType]; exact fits_refV_array _ u0)) (Takes.of_laid hk hord tyP (by rw [Y.suppType]; exact fits_refV_object _ sen))
    (Takes.of_laid hk hord tyM (by rw [Y.msgType]; exact fits_refV_object _ ⟨msg, hmsg⟩)) Y.objLocals hskip htr [] hd6
    (by simp only [List.length_cons, hlen]; omega) (by simp only [List.length_cons, hlen]; exact hRlocals)
  have hlt : a < ((W.setVm vm₁).setVm vm₂).heap.size := (Array.getElem?_eq_some_iff.mp hcell).1
  refine ⟨(W.setVm vm₁).setVm vm₂, _, _, X₂, fun y hy => ?_, hlt, rfl, rfl, fun target hwalk => st1 _ (fun acts => ?_)⟩
  · simp only [List.mem_cons, List.not_mem_nil, or_false] at hy
    rcases hy with rfl | rfl | rfl | rfl | rfl <;> rfl
  · rw [doInvoke_state]
    exact st2 _ hwalk
end XS1
section XS2
variable {p : Program} {l : Launch} {e : Env} {R : Room} {s : State} {m : MethodId} {args : Array Value} {below : List Frame} {meth : Method} {c : Code} {H : Heap} {locs : List Loc} {cells slots : Nat} {Q : State → Prop}
variable {ls : Array Slot} {rest : List Value} {D : va_G} {cl : List vw_C} {tys : List (ClassId × FieldType)} {ws : va_W}
set_option maxHeartbeats 4000000 in
theorem vx_makeS {cc : ByteArray} {pc : Nat} (hexec : p.tables.exec = Jvm.exec) (hb : c.code = cc) (hl : l.stackTraces = false) {own cls text : String} {names : List String} {ik is ic sa ci : Nat} {A : Nat → Prop} {T0 : u_T}
    (hown : s.vm.findClass own = some m.cls) (hcls : Bundle.fit cls = true) (hnames : ∀ n ∈ names, Bundle.fit n = true)
    (hk : (Cond.classLink own ik cls).before args s = true) (hini : (Cond.initialized cls).before args s = true) (hstr : vk_R own is text sa s) (hat : ∀ w ∈ vx_atS own ic cls names, w.before args s = true)
    (hgood : ∀ w ∈ Cond.classLink own ik cls :: Cond.initialized cls :: vx_atS own ic cls names, vx_ot w = true)
    (hU : vx_Zq Bundle.tN "UNASSIGNED_STACK" Bundle.steD A s s.heap) (hN : vx_Zq Bundle.tN "SUPPRESSED_SENTINEL" Bundle.listD A s s.heap) (hS : va_S A s.heap H locs) (hsize : ls.size = c.maxLocals)
    (d0 : decode cc pc = .ok (.new ik, 3)) (d3 : decode cc (pc + 3) = .ok (.dup, 1)) (d4 : decode cc (pc + 4) = .ok (.ldc is, 2)) (d6 : decode cc (pc + 6) = .ok (.invokespecial ic, 3))
    (hK : va_K D cl tys s) (hP : va_P D cl ws H) (hD : va_D A ws) (hA : ∀ q, s.heap.size ≤ q → A q) (hc : cl[ci]? = some (cls, T0, 0))
    (hRframes : names.length + 3 < R.frames) (hRlocals : (rest.map fun v => v.category).sum + (13 * (names.length + 1) + 43) ≤ R.locals) (hRcells : cells + 1 ≤ R.cells) (hRslots : slots + 6 ≤ R.slots)
    (kk : ∀ (q : Nat) (H1 : Heap), va_P D cl (ws ++ [(q, .inr (ci, []))]) H1 → va_D A (ws ++ [(q, .inr (ci, []))]) → va_S A s.heap H1 locs → W p l e R s m args below meth c H1 locs (cells + 1) (slots + 6) Q (F0 m (pc + 9) ls (.ref q :: rest))) :
    W p l e R s m args below meth c H locs cells slots Q (F0 m pc ls rest) := by
  intro T hT X
  subst hT
  have htr : e.platform.stackTraces = false := (show e.platform.stackTraces = l.stackTraces by rw [X.admits.platform]).trans hl
  have Y := vx_rebase X (R' := { frames := R.frames, locals := R.locals, cells := 1, slots := 6 }) (Nat.le_refl _) (Nat.le_refl _) hRcells hRslots
  obtain ⟨s', hA'⟩ : ∃ z, z = (T.setVm s.vm).setFrames (.invoking m args :: below) := ⟨_, rfl⟩
  rw [← hA'] at Y
  have hvm : s'.vm = s.vm := by rw [hA']; rfl
  have hhp : s'.heap = T.heap := by rw [hA']; rfl
  have hW0 : s.WarmedH s'.vm := by rw [hvm]; exact State.WarmedH.refl s
  have hat' : ∀ w ∈ vx_atS own ic cls names, w.before args s' = true := fun w hw => vx_ot_at hW0 hvm.symm (hgood w (List.mem_cons_of_mem _ (List.mem_cons_of_mem _ hw))) (hat w hw)
  have hk' : (Cond.classLink own ik cls).before args s' = true := vx_ot_at hW0 hvm.symm (hgood _ List.mem_cons_self) hk
  have hini' : (Cond.initialized cls).before args s' = true := vx_ot_at hW0 hvm.symm (hgood _ (List.mem_cons_of_mem _ List.mem_cons_self)) hini
  have hU' : vx_Zq Bundle.tN "UNASSIGNED_STACK" Bundle.steD A s' s'.heap := by rw [hhp]; exact vx_Zq.moved hW0.alike (hU.kept hS.2.1)
  have hN' : vx_Zq Bundle.tN "SUPPRESSED_SENTINEL" Bundle.listD A s' s'.heap := by rw [hhp]; exact vx_Zq.moved hW0.alike (hN.kept hS.2.1)
  have h : ∀ w ∈ Bundle.ownAtoms own ic cls names, w.before args s' = true := vx_own hat' (vx_isRefq hU'.1) (vx_isRefq hN'.1) hU'.2.word hN'.2.word
  have hown' : s'.vm.findClass own = some m.cls := by rw [hvm]; exact hown
  have hins : (Cond.instantiable cls 6).before args s' = true := h _ (by simp [Bundle.ownAtoms])
  obtain ⟨vm₁, cX, kX, hfX, hkX, -, -, X₁, st1⟩ := Y.newCold hexec (own := own) (C := cls) (index := ik) (n := 6) hown' hk' hins hini'
    (g := F0 m pc ls rest) rfl (by rw [hb]; exact d0) (Nat.le_refl _) (Nat.le_refl _)
  generalize hT1 : (T.setVm vm₁).pushCell { cls := cX, slots := kX.instanceTypes.map defaultValue, vm := .none } = T1 at X₁ st1
  have hcat : (Value.ref T.heap.size).category = 1 := rfl
  have hcellA : T1.heap[T.heap.size]? = some (freshCell cX kX) := by rw [← hT1]; exact State.heap_pushCell_size _ _
  have d3' : decode c.code (pc + 3) = .ok (.dup, 1) := by rw [hb]; exact d3
  have d4' : decode c.code (pc + 4) = .ok (.ldc is, 2) := by rw [hb]; exact d4
  have hstr' : vk_R own is text sa s' := vk_R.warm hW0 hstr
  obtain ⟨V, ce, L, Z, hL, hlt, hcl9, hvm9, st⟩ := vx_ctorMadeS X₁ hexec htr (own := own) (cls := cls) (names := names) (ic := ic) hown' hcls hnames h (fun x hx => nomatch hx) hfX hkX hcellA (by rw [hhp]; exact Nat.le_refl _) (msg := .ref sa) rfl
    (g := { method := m, pc := pc + 6, locals := ls, stack := .ref sa :: .ref T.heap.size :: .ref T.heap.size :: rest, locked := none }) rfl hsize (rest := rest) rfl
    (by rw [hb]; exact d6) hRframes (by simp only [List.map_cons, List.sum_cons, hcat]; omega)
  have Z0 := Stand.forget (locs := []) Z (fun y hy => by rw [hL y hy, hhp]; exact Nat.le_refl _)
  obtain ⟨f1, f2⟩ := vx_frame Z0.same
  rw [hhp] at f1 f2
  have hcid : ce.cls = D.1 ci := by
    rw [hcl9]
    have h1 := (hK.1 ci _ hc).2.1
    rw [hvm] at hfX
    exact Option.some.inj (hfX.symm.trans h1)
  have hh : (V.setCell T.heap.size ce).heap[T.heap.size]? = some ce := heapAt_setCell_self (s := V) ce hlt
  subst hA'
  have X5 := vx_back9 X Y Z0
  have X6 : Stand p l e R s m args below meth c (V.setCell T.heap.size ce) locs (cells + 1) (slots + 6) := { X5 with same := X5.same.mono (by omega) (by omega) }
  have hk9 : ∀ (k : Nat) (x : Nat × va_E), ws[k]? = some x → (V.setCell T.heap.size ce).heap[x.1]? = T.heap[x.1]? := fun k x hx => f2 x.1 ((hP k x hx).lt) (fun z hz => nomatch hz)
  obtain ⟨t, a1, b1⟩ := kk T.heap.size (V.setCell T.heap.size ce).heap ((hP.kept hk9).app (fun k x hx => by
      have hz : k < 1 := (List.getElem?_eq_some_iff.mp hx).1
      rw [show k = 0 by omega] at hx
      cases hx
      exact ⟨_, hc, ce, hh, hcid, hvm9, fun k hk => absurd hk (Nat.not_lt_zero k)⟩)) (hD.push hP rfl (hA _ hS.1)) ⟨Nat.le_trans hS.1 f1, fun q h1 h2 => (f2 q (Nat.lt_of_lt_of_le h1 hS.1) (fun z hz => nomatch hz)).trans (hS.2.1 q h1 h2), hS.2.2⟩ _ rfl X6
  refine ⟨t, st1 _ ?_, b1⟩
  show Steps p.tables e below (T1.setTop { method := m, pc := pc + 3, locals := ls, stack := .ref T.heap.size :: rest, locked := none }) _
  jvm_step X₁.here [X₁.here.top, hexec, d3', Value.category]
  exact X₁.ldcString hexec (own := own) (text := text) (index := is) (a := sa) hown' hstr'.1 hstr'.2
    (g := { method := m, pc := pc + 4, locals := ls, stack := .ref T.heap.size :: .ref T.heap.size :: rest, locked := none }) rfl d4' _ (st _ a1)
end XS2
section XS3
variable {p : Program} {l : Launch} {e : Env} {R : Room} {s : State} {m : MethodId} {args : Array Value} {below : List Frame} {meth : Method} {c : Code} {H : Heap} {locs : List Loc} {cells slots : Nat} {Q : State → Prop}
variable {ls : Array Slot} {rest : List Value} {D : va_G} {cl : List vw_C} {tys : List (ClassId × FieldType)} {ws : va_W}
theorem vx_athrow {cc : ByteArray} {pc : Nat} (hexec : p.tables.exec = Jvm.exec) (hb : c.code = cc) {q : Addr} (hdg : decode cc pc = .ok (.athrow, 1)) (k : vx_W p l e R s m args below meth c H locs cells slots Q (F0 m pc ls rest) q) : W p l e R s m args below meth c H locs cells slots Q (F0 m pc ls (.ref q :: rest)) := by
  intro T hT X
  obtain ⟨t, st, hq⟩ := k T hT X
  refine ⟨t, ?_, hq⟩
  have hdg' : decode c.code pc = .ok (.athrow, 1) := by rw [hb]; exact hdg
  jvm_step X.here [X.here.top, hexec, hdg', athrow.wp_sem]
  exact st
end XS3
section XS4
variable {p : Program} {l : Launch} {e : Env} {R : Room} {s : State} {m : MethodId} {args : Array Value} {below : List Frame} {meth : Method} {c : Code} {H : Heap} {locs : List Loc} {cells slots : Nat} {Q : State → Prop}
variable {mc ms : Nat} {free : Addr → Prop} {A0 A1 : Nat → Prop} {H0 : Heap} {a : Array Value} {pc : Nat} {ls : Array Slot} {st0 rest : List Value}
theorem vx_callq {S SX : Type} {post : Option Nat → S → Prop} {px : SX → Prop} {B : S → State → Prop} {BX : String → SX → State → Prop} {AX : Nat → Prop} (hr : vx_Run p l e R s m args below meth c H locs cells slots mc ms (F0 m pc ls st0) rest (va_Qq post B A1 a) (vx_X px BX AX) free) (hS : va_S A0 H0 H locs) (hA : ∀ q, q < H.size → A1 q → A0 q) (hf : ∀ q, free q → A0 q) (hAX : ∀ q, q < H.size → AX q → A0 q)
    (kx : ∀ (E : String) (ce : Cell) (q9 : Addr) (u : SX) (t : State) (H1 : Heap) (locs1 : List Loc), t.heap = H1 → s.vm.Alike t.vm → px u → BX E u t → H.size ≤ H1.size → (∀ q : Nat, q < H.size → ¬ AX q → H1[q]? = H[q]?) → va_S A0 H0 H1 locs1 → H1[q9]? = some ce → ce.vm = .none → s.vm.findClass E = some ce.cls → vx_W p l e R s m args below meth c H1 locs1 (cells + mc) (slots + ms) Q (F0 m pc ls rest) q9)
    (kk : ∀ (r : Option Nat) (u : S) (t : State) (H1 : Heap) (locs1 : List Loc), t.heap = H1 → s.vm.Alike t.vm → post r u → B u t → H.size ≤ H1.size → (∀ q : Nat, q < H.size → ¬ A1 q → H1[q]? = H[q]?) → va_S A0 H0 H1 locs1 → W p l e R s m args below meth c H1 locs1 (cells + mc) (slots + ms) Q (F0 m (pc + 3) ls (va_rf r :: rest))) : W p l e R s m args below meth c H locs cells slots Q (F0 m pc ls st0) := by
  intro T hT X
  rcases hr T hT X with ⟨v, st₀, t, T', L, h0, X', hL, e1, e2, ⟨⟨r, u, hv, hp, hb⟩, hF⟩, st⟩ | ⟨q, st₀, t, T', L, E, ce, h0, X', hL, e1, e2, ⟨u, hp, hb, hF⟩, hce, hcv, hcl, st⟩
  · cases hv
    obtain ⟨k1, k2, k3⟩ := vx_keep h0 e1 hS hA hf hL hF
    obtain ⟨t2, a1, b1⟩ := kk r u t T'.heap (locs ++ L) e1.symm (by rw [← e2]; exact X'.warmed.alike) hp hb k1 k2 k3 T' rfl X'
    exact ⟨t2, st t2 a1, b1⟩
  · obtain ⟨k1, k2, k3⟩ := vx_keep h0 e1 hS hAX hf hL hF
    obtain ⟨t2, a1, b1⟩ := kx E ce q u t T'.heap (locs ++ L) e1.symm (by rw [← e2]; exact X'.warmed.alike) hp hb k1 k2 k3 (by rw [e1]; exact hce) hcv hcl T' rfl X'
    exact ⟨t2, st.trans a1, b1⟩
end XS4
section XCM
variable {p : Program} {l : Launch} {e : Env} {R : Room} {s : State} {m₀ : MethodId} {args : Array Value} {below : List Frame} {meth : Method} {c : Code} {W : State} {locs : List Loc} {cells slots : Nat}
set_option maxHeartbeats 4000000 in
theorem vx_ctorMadeN (X : Stand p l e R s m₀ args below meth c W locs cells slots) (hexec : p.tables.exec = Jvm.exec) (htr : e.platform.stackTraces = false) {own cls : String} {Y9 : String} {r9 : List String} {ic : Nat}
    (hown : s.vm.findClass own = some m₀.cls) (hcls : Bundle.fit cls = true) (hnames : ∀ n ∈ Y9 :: r9, Bundle.fit n = true)
    (h : ∀ a ∈ xAtoms own ic cls (Y9 :: r9), a.before args s = true)
    (hlocs : ∀ x ∈ locs, ∀ cell, s.heap[x.base]? = some cell → cell.vm.isStatics = false)
    {a : Addr} {cX : ClassId} {kX : Class} (hfoundX : s.vm.findClass cls = some cX) (hkX : s.vm.classes[cX]? = some kX) (hcell : W.heap[a]? = some (freshCell cX kX)) (hnew : s.heap.size ≤ a)
    {msg : Value} (hmsg : msg.isRef = true)
    {g : JFrame} (hg : g.method = m₀) (hsize : g.locals.size = c.maxLocals) {rest : List Value} (hstack : g.stack = msg :: .ref a :: .ref a :: rest)
    (hd6 : decode c.code g.pc = .ok (.invokespecial ic, 3))
    (hRframes : (Y9 :: r9).length + 3 < R.frames) (hRlocals : 2 * g.monitorRoom + ((Value.ref a :: rest).map fun v => v.category).sum + (13 * ((Y9 :: r9).length + 1) + 42) ≤ R.locals) :
    ∃ (V : State) (ce : Cell) (L : List Loc), Stand p l e R s m₀ args below meth c (V.setCell a ce) (locs ++ L) cells slots ∧ (∀ y ∈ L, y.base = a) ∧ a < V.heap.size ∧ ce.cls = cX ∧ ce.vm = .none ∧
      ∀ target, Steps p.tables e below ((V.setCell a ce).setTop { g with stack := .ref a :: rest, pc := g.pc + 3 }) target → Steps p.tables e below (W.setTop g) target := by
  have howns : e.platform.frameOwnsMonitors = true := by rw [X.admits.platform]
  have hfin : e.platform.finalization = false := by rw [X.admits.platform]
  have hpl : e.platform.magicAccessors = ({} : Platform).magicAccessors := by rw [X.admits.platform]
  have a' : ∀ x, x ∈ xAtoms own ic cls (Y9 :: r9) → x.holds args s none s [] = true := fun x hx => h x hx
  obtain ⟨T, Z0, L, -, Y⟩ := ThrowableC.of_atoms (args := args) howns hfin hpl (fun x hx => h x (by simp [xAtoms, hx]))
  obtain ⟨Z, M, LZ, LM, hnZ⟩ := Init0T.ofS_atoms (args := args) hpl L Y (fun x hx => h x (by simp [xAtoms, hx]))
  obtain ⟨P1, Ps, hlen, L1, hL, hP1m, hlink1, hlink⟩ := xChain (args := args) hpl hnZ Y9 r9 cls hcls hnames (fun x hx => h x (by simp only [xAtoms]; exact List.mem_append_left _ (List.mem_append_right _ hx)))
  have hfound : s.vm.findClass cls = some P1.m.cls := findClass_of_methodNamed hP1m
  cases Option.some.inj (hfoundX.symm.trans hfound)
  obtain ⟨c1, kX', hc1, hk, hord, -, -, hn6⟩ := Cond.instantiable_spec (a' (.instantiable cls 6) (by simp [xAtoms]))
  cases Option.some.inj (hc1.symm.trans hfound)
  cases Option.some.inj (hkX.symm.trans hk)
  have hsel0 : selectMethod e.platform s.vm P1.m.cls T.fill0 = .method T.fill0 := by
    obtain ⟨c2, r2, m2, q1, q2, q3, q4, -⟩ := Cond.selects_spec (a' (.selects cls Bundle.tFill0 Bundle.tFill0) (by simp [xAtoms]))
    cases Option.some.inj (q1.symm.trans hfound)
    cases Option.some.inj (q2.symm.trans (State.methodFound?_of_named Y.fill0 (by decide)))
    cases Option.some.inj (q3.symm.trans Y.fill0)
    rw [Launch.admits_selectMethod X.admits]; exact q4
  have hselF : selectMethod e.platform s.vm P1.m.cls T.fill = .method T.fill := by
    obtain ⟨c2, r2, m2, q1, q2, q3, q4, -⟩ := Cond.selects_spec (a' (.selects cls Bundle.tFill Bundle.tFill) (by simp [xAtoms]))
    cases Option.some.inj (q1.symm.trans hfound)
    cases Option.some.inj (q2.symm.trans (State.methodFound?_of_named Y.fill (by decide)))
    cases Option.some.inj (q3.symm.trans Y.fill)
    rw [Launch.admits_selectMethod X.admits]; exact q4
  obtain ⟨cellS0, hcS0, hiss⟩ := Y.statics
  obtain ⟨u0, hu0⟩ := Cond.staticRefV Y.unassigned L.unassignedStatic L.statics hcS0 hiss (a' (.isRef (.static Bundle.tN "UNASSIGNED_STACK" Bundle.steD)) (by simp [xAtoms]))
  obtain ⟨sen, hsen⟩ := Cond.staticRefV Y.sentinel L.sentinelStatic L.statics hcS0 hiss (a' (.isRef (.static Bundle.tN "SUPPRESSED_SENTINEL" Bundle.listD)) (by simp [xAtoms]))
  obtain ⟨ci198, i198, fB, hk198, hg198, ha198, hsB, -, hnB, htB, hffB⟩ := Cond.ownField (t := .object "java/lang/Object") Y.found L.cls (by decide +kernel) (a' (.fieldLink Bundle.tN 198 Bundle.tN "backtrace" "Ljava/lang/Object;") (by simp [xAtoms])) (a' (.lays Bundle.tN Bundle.tN "backtrace" "Ljava/lang/Object;") (by simp [xAtoms])) e.platform hpl
  obtain ⟨cellS, hcS', heS, -, hkeep⟩ := X.same.2.2.2.2.2 T.aS cellS0 hcS0
  have hcellS : W.heap[T.aS]? = some cellS := hcS'
  have hout' : ∀ i, (⟨T.aS, i⟩ : Loc) ∉ locs := fun i hmem => by
    have := hlocs _ hmem cellS0 hcS0
    rw [hiss] at this; cases this
  have hknownS : cellS.vm ≠ .unknown := by
    rw [heS]; intro hu
    rw [show cellS0.vm = .unknown from hu] at hiss
    cases hiss
  have hneS : T.aS ≠ a := Nat.ne_of_lt (Nat.lt_of_lt_of_le (Array.getElem?_eq_some_iff.mp hcS0).1 hnew)
  obtain ⟨iM, hffM⟩ := Y.msg
  obtain ⟨tyC, dC, hdC, hdnC⟩ := Cond.laysAt hfound hk Y.cause (a' (.lays cls Bundle.tN "cause" "Ljava/lang/Throwable;") (by simp [xAtoms]))
  obtain ⟨tyS, dS, hdS, hdnS⟩ := Cond.laysAt hfound hk Y.stack (a' (.lays cls Bundle.tN "stackTrace" Bundle.steD) (by simp [xAtoms]))
  obtain ⟨tyP, dP, hdP, hdnP⟩ := Cond.laysAt hfound hk Y.supp (a' (.lays cls Bundle.tN "suppressedExceptions" Bundle.listD) (by simp [xAtoms]))
  obtain ⟨tyM, dM, hdM, hdnM⟩ := Cond.laysAt hfound hk hffM (a' (.lays cls Bundle.tN "detailMessage" "Ljava/lang/String;") (by simp [xAtoms]))
  obtain ⟨tyB, dB, hdB, hdnB⟩ := Cond.laysAt hfound hk hffB (a' (.lays cls Bundle.tN "backtrace" "Ljava/lang/Object;") (by simp [xAtoms]))
  have bC := Cond.laysApart hdB hdC hdnB hdnC (by rw [hnB, Y.causeName]; decide)
  have bS := Cond.laysApart hdB hdS hdnB hdnS (by rw [hnB, Y.stackName]; decide)
  have bP := Cond.laysApart hdB hdP hdnB hdnP (by rw [hnB, Y.suppName]; decide)
  have hskip : SkipFacts T e.platform s (fun u => u) u0 ((preparedCellV T.toThrowableT (freshCell P1.m.cls kX) a u0 sen).withEntry W.cur) :=
    ⟨{ ci198 := ci198, i198 := i198, fBack := fB }, ⟨hk198, hg198, ha198, hsB⟩, by
      have := fresh_default (c := P1.m.cls) tyB
      rw [htB] at this
      simpa [preparedCellV, Cell.setSlot, Cell.withEntry, Array.getElem?_setIfInBounds, bC, bS, bP, bC.symm, bS.symm, bP.symm, defaultValue] using this, fun _ _ => rfl⟩
  obtain ⟨tm, methC, cdC, kC, vm₁, hnC, -, -, -, -, -, -, -, hW₁, st1⟩ := Steps.initColdS (tb := p.tables) (e := e) (below := below) (s := s) (U := W) X.here hexec X.warmed hpl hown (t := Bundle.initS cls) rfl rfl (Bundle.fit_spec hcls).2
    (a' (.methodLink own ic (Bundle.initS cls)) (by simp [xAtoms])) (h (.instanceMethod (Bundle.initS cls)) (by simp [xAtoms, Bundle.passSAtoms])) (bytes := xSix) (maxL := 2) (h (.code (Bundle.initS cls) xSix 2 none) (by simp [xAtoms, Bundle.passSAtoms]))
    (f := g) hg (a := a) (msg := msg) (rest := .ref a :: rest) hstack hd6
  cases Option.some.inj (hnC.symm.trans hP1m)
  have X₁ := X.noted hW₁
  obtain ⟨vm₂, X₂, st2⟩ := X₁.ctorMessageOffV hexec (g := { g with stack := .ref a :: rest }) hg hsize T L Z LZ M LM (P1 :: Ps)
    (fun P hP => by rcases List.mem_cons.mp hP with rfl | hP; exact L1; exact hL P hP) ⟨hlink1, hlink⟩ (u0 := u0) (sen := sen) (self := a) hmsg (cell := freshCell P1.m.cls kX) (cellS := cellS)
    hcell (fun _ => by simp) (by simp) rfl rfl hsel0 hselF hcellS hneS hknownS (by rw [hkeep _ (hout' _)]; exact hu0) (by rw [hkeep _ (hout' _)]; exact hsen)
    (Takes.of_laid hk hord tyC (by rw [Y.causeType]; rfl)) (Takes.of_laid hk hord tyS (by rw [Y.stackType]; exact fits_refV_array _ u0)) (Takes.of_laid hk hord tyP (by rw [Y.suppType]; exact fits_refV_object _ sen))
    (Takes.of_laid hk hord tyM (by rw [Y.msgType]; exact fits_refV_object _ ⟨msg, hmsg⟩)) Y.objLocals hskip htr [] hd6
    (by simp only [List.length_cons, hlen]; omega) (by simp only [List.length_cons, hlen]; exact hRlocals)
  have hlt : a < ((W.setVm vm₁).setVm vm₂).heap.size := (Array.getElem?_eq_some_iff.mp hcell).1
  refine ⟨(W.setVm vm₁).setVm vm₂, _, _, X₂, fun y hy => ?_, hlt, rfl, rfl, fun target hwalk => st1 _ (fun acts => ?_)⟩
  · simp only [List.mem_cons, List.not_mem_nil, or_false] at hy
    rcases hy with rfl | rfl | rfl | rfl | rfl <;> rfl
  · rw [doInvoke_state]
    exact st2 _ hwalk
end XCM
section XMK
variable {p : Program} {l : Launch} {e : Env} {R : Room} {s : State} {m : MethodId} {args : Array Value} {below : List Frame} {meth : Method} {c : Code} {H : Heap} {locs : List Loc} {cells slots : Nat} {Q : State → Prop}
variable {ls : Array Slot} {rest : List Value} {D : va_G} {cl : List vw_C} {tys : List (ClassId × FieldType)} {ws : va_W}
set_option maxHeartbeats 4000000 in
theorem vx_makeSW {cc : ByteArray} {pc : Nat} (hexec : p.tables.exec = Jvm.exec) (hb : c.code = cc) (hl : l.stackTraces = false) {own cls text : String} {names : List String} {ik is ic sa ci : Nat} {A : Nat → Prop} {T0 : u_T}
    (hown : s.vm.findClass own = some m.cls) (hcls : Bundle.fit cls = true) (hnames : ∀ n ∈ names, Bundle.fit n = true)
    (hk : (Cond.classLink own ik cls).before args s = true) (hini : (Cond.initialized cls).before args s = true) (hstr : vk_R own is text sa s) (hat : ∀ w ∈ vx_atS own ic cls names, w.before args s = true)
    (hgood : ∀ w ∈ Cond.classLink own ik cls :: Cond.initialized cls :: vx_atS own ic cls names, vx_ot w = true)
    (hU : vx_Zq Bundle.tN "UNASSIGNED_STACK" Bundle.steD A s s.heap) (hN : vx_Zq Bundle.tN "SUPPRESSED_SENTINEL" Bundle.listD A s s.heap) (hS : va_S A s.heap H locs) (hsize : ls.size = c.maxLocals)
    (d0 : decode cc pc = .ok (.new ik, 3)) (d3 : decode cc (pc + 3) = .ok (.dup, 1)) (d4 : decode cc (pc + 4) = .ok (.ldc_w is, 3)) (d6 : decode cc (pc + 7) = .ok (.invokespecial ic, 3))
    (hK : va_K D cl tys s) (hP : va_P D cl ws H) (hD : va_D A ws) (hA : ∀ q, s.heap.size ≤ q → A q) (hc : cl[ci]? = some (cls, T0, 0))
    (hRframes : names.length + 3 < R.frames) (hRlocals : (rest.map fun v => v.category).sum + (13 * (names.length + 1) + 43) ≤ R.locals) (hRcells : cells + 1 ≤ R.cells) (hRslots : slots + 6 ≤ R.slots)
    (kk : ∀ (q : Nat) (H1 : Heap), va_P D cl (ws ++ [(q, .inr (ci, []))]) H1 → va_D A (ws ++ [(q, .inr (ci, []))]) → va_S A s.heap H1 locs → W p l e R s m args below meth c H1 locs (cells + 1) (slots + 6) Q (F0 m (pc + 10) ls (.ref q :: rest))) :
    W p l e R s m args below meth c H locs cells slots Q (F0 m pc ls rest) := by
  intro T hT X
  subst hT
  have htr : e.platform.stackTraces = false := (show e.platform.stackTraces = l.stackTraces by rw [X.admits.platform]).trans hl
  have Y := vx_rebase X (R' := { frames := R.frames, locals := R.locals, cells := 1, slots := 6 }) (Nat.le_refl _) (Nat.le_refl _) hRcells hRslots
  obtain ⟨s', hA'⟩ : ∃ z, z = (T.setVm s.vm).setFrames (.invoking m args :: below) := ⟨_, rfl⟩
  rw [← hA'] at Y
  have hvm : s'.vm = s.vm := by rw [hA']; rfl
  have hhp : s'.heap = T.heap := by rw [hA']; rfl
  have hW0 : s.WarmedH s'.vm := by rw [hvm]; exact State.WarmedH.refl s
  have hat' : ∀ w ∈ vx_atS own ic cls names, w.before args s' = true := fun w hw => vx_ot_at hW0 hvm.symm (hgood w (List.mem_cons_of_mem _ (List.mem_cons_of_mem _ hw))) (hat w hw)
  have hk' : (Cond.classLink own ik cls).before args s' = true := vx_ot_at hW0 hvm.symm (hgood _ List.mem_cons_self) hk
  have hini' : (Cond.initialized cls).before args s' = true := vx_ot_at hW0 hvm.symm (hgood _ (List.mem_cons_of_mem _ List.mem_cons_self)) hini
  have hU' : vx_Zq Bundle.tN "UNASSIGNED_STACK" Bundle.steD A s' s'.heap := by rw [hhp]; exact vx_Zq.moved hW0.alike (hU.kept hS.2.1)
  have hN' : vx_Zq Bundle.tN "SUPPRESSED_SENTINEL" Bundle.listD A s' s'.heap := by rw [hhp]; exact vx_Zq.moved hW0.alike (hN.kept hS.2.1)
  have h : ∀ w ∈ Bundle.ownAtoms own ic cls names, w.before args s' = true := vx_own hat' (vx_isRefq hU'.1) (vx_isRefq hN'.1) hU'.2.word hN'.2.word
  have hown' : s'.vm.findClass own = some m.cls := by rw [hvm]; exact hown
  have hins : (Cond.instantiable cls 6).before args s' = true := h _ (by simp [Bundle.ownAtoms])
  obtain ⟨vm₁, cX, kX, hfX, hkX, -, -, X₁, st1⟩ := Y.newCold hexec (own := own) (C := cls) (index := ik) (n := 6) hown' hk' hins hini'
    (g := F0 m pc ls rest) rfl (by rw [hb]; exact d0) (Nat.le_refl _) (Nat.le_refl _)
  generalize hT1 : (T.setVm vm₁).pushCell { cls := cX, slots := kX.instanceTypes.map defaultValue, vm := .none } = T1 at X₁ st1
  have hcat : (Value.ref T.heap.size).category = 1 := rfl
  have hcellA : T1.heap[T.heap.size]? = some (freshCell cX kX) := by rw [← hT1]; exact State.heap_pushCell_size _ _
  have d3' : decode c.code (pc + 3) = .ok (.dup, 1) := by rw [hb]; exact d3
  have d4' : decode c.code (pc + 4) = .ok (.ldc_w is, 3) := by rw [hb]; exact d4
  have hstr' : vk_R own is text sa s' := vk_R.warm hW0 hstr
  obtain ⟨V, ce, L, Z, hL, hlt, hcl9, hvm9, st⟩ := vx_ctorMadeS X₁ hexec htr (own := own) (cls := cls) (names := names) (ic := ic) hown' hcls hnames h (fun x hx => nomatch hx) hfX hkX hcellA (by rw [hhp]; exact Nat.le_refl _) (msg := .ref sa) rfl
    (g := { method := m, pc := pc + 7, locals := ls, stack := .ref sa :: .ref T.heap.size :: .ref T.heap.size :: rest, locked := none }) rfl hsize (rest := rest) rfl
    (by rw [hb]; exact d6) hRframes (by simp only [List.map_cons, List.sum_cons, hcat]; omega)
  have Z0 := Stand.forget (locs := []) Z (fun y hy => by rw [hL y hy, hhp]; exact Nat.le_refl _)
  obtain ⟨f1, f2⟩ := vx_frame Z0.same
  rw [hhp] at f1 f2
  have hcid : ce.cls = D.1 ci := by
    rw [hcl9]
    have h1 := (hK.1 ci _ hc).2.1
    rw [hvm] at hfX
    exact Option.some.inj (hfX.symm.trans h1)
  have hh : (V.setCell T.heap.size ce).heap[T.heap.size]? = some ce := heapAt_setCell_self (s := V) ce hlt
  subst hA'
  have X5 := vx_back9 X Y Z0
  have X6 : Stand p l e R s m args below meth c (V.setCell T.heap.size ce) locs (cells + 1) (slots + 6) := { X5 with same := X5.same.mono (by omega) (by omega) }
  have hk9 : ∀ (k : Nat) (x : Nat × va_E), ws[k]? = some x → (V.setCell T.heap.size ce).heap[x.1]? = T.heap[x.1]? := fun k x hx => f2 x.1 ((hP k x hx).lt) (fun z hz => nomatch hz)
  obtain ⟨t, a1, b1⟩ := kk T.heap.size (V.setCell T.heap.size ce).heap ((hP.kept hk9).app (fun k x hx => by
      have hz : k < 1 := (List.getElem?_eq_some_iff.mp hx).1
      rw [show k = 0 by omega] at hx
      cases hx
      exact ⟨_, hc, ce, hh, hcid, hvm9, fun k hk => absurd hk (Nat.not_lt_zero k)⟩)) (hD.push hP rfl (hA _ hS.1)) ⟨Nat.le_trans hS.1 f1, fun q h1 h2 => (f2 q (Nat.lt_of_lt_of_le h1 hS.1) (fun z hz => nomatch hz)).trans (hS.2.1 q h1 h2), hS.2.2⟩ _ rfl X6
  refine ⟨t, st1 _ ?_, b1⟩
  show Steps p.tables e below (T1.setTop { method := m, pc := pc + 3, locals := ls, stack := .ref T.heap.size :: rest, locked := none }) _
  jvm_step X₁.here [X₁.here.top, hexec, d3', Value.category]
  exact X₁.ldcStringW hexec (own := own) (text := text) (index := is) (a := sa) hown' hstr'.1 hstr'.2
    (g := { method := m, pc := pc + 4, locals := ls, stack := .ref T.heap.size :: .ref T.heap.size :: rest, locked := none }) rfl d4' _ (st _ a1)
set_option maxHeartbeats 4000000 in
theorem vx_makeN {cc : ByteArray} {pc : Nat} (hexec : p.tables.exec = Jvm.exec) (hb : c.code = cc) (hl : l.stackTraces = false) {own cls text : String} {Y9 : String} {r9 : List String} {ik is ic sa ci : Nat} {A : Nat → Prop} {T0 : u_T}
    (hown : s.vm.findClass own = some m.cls) (hcls : Bundle.fit cls = true) (hnames : ∀ n ∈ Y9 :: r9, Bundle.fit n = true)
    (hk : (Cond.classLink own ik cls).before args s = true) (hini : (Cond.initialized cls).before args s = true) (hstr : vk_R own is text sa s) (hat : ∀ w ∈ xAtS own ic cls (Y9 :: r9), w.before args s = true)
    (hgood : ∀ w ∈ Cond.classLink own ik cls :: Cond.initialized cls :: xAtS own ic cls (Y9 :: r9), vx_ot w = true)
    (hU : vx_Zq Bundle.tN "UNASSIGNED_STACK" Bundle.steD A s s.heap) (hN : vx_Zq Bundle.tN "SUPPRESSED_SENTINEL" Bundle.listD A s s.heap) (hS : va_S A s.heap H locs) (hsize : ls.size = c.maxLocals)
    (d0 : decode cc pc = .ok (.new ik, 3)) (d3 : decode cc (pc + 3) = .ok (.dup, 1)) (d4 : decode cc (pc + 4) = .ok (.ldc is, 2)) (d6 : decode cc (pc + 6) = .ok (.invokespecial ic, 3))
    (hK : va_K D cl tys s) (hP : va_P D cl ws H) (hD : va_D A ws) (hA : ∀ q, s.heap.size ≤ q → A q) (hc : cl[ci]? = some (cls, T0, 0))
    (hRframes : (Y9 :: r9).length + 3 < R.frames) (hRlocals : (rest.map fun v => v.category).sum + (13 * ((Y9 :: r9).length + 1) + 43) ≤ R.locals) (hRcells : cells + 1 ≤ R.cells) (hRslots : slots + 6 ≤ R.slots)
    (kk : ∀ (q : Nat) (H1 : Heap), va_P D cl (ws ++ [(q, .inr (ci, []))]) H1 → va_D A (ws ++ [(q, .inr (ci, []))]) → va_S A s.heap H1 locs → W p l e R s m args below meth c H1 locs (cells + 1) (slots + 6) Q (F0 m (pc + 9) ls (.ref q :: rest))) :
    W p l e R s m args below meth c H locs cells slots Q (F0 m pc ls rest) := by
  intro T hT X
  subst hT
  have htr : e.platform.stackTraces = false := (show e.platform.stackTraces = l.stackTraces by rw [X.admits.platform]).trans hl
  have Y := vx_rebase X (R' := { frames := R.frames, locals := R.locals, cells := 1, slots := 6 }) (Nat.le_refl _) (Nat.le_refl _) hRcells hRslots
  obtain ⟨s', hA'⟩ : ∃ z, z = (T.setVm s.vm).setFrames (.invoking m args :: below) := ⟨_, rfl⟩
  rw [← hA'] at Y
  have hvm : s'.vm = s.vm := by rw [hA']; rfl
  have hhp : s'.heap = T.heap := by rw [hA']; rfl
  have hW0 : s.WarmedH s'.vm := by rw [hvm]; exact State.WarmedH.refl s
  have hat' : ∀ w ∈ xAtS own ic cls (Y9 :: r9), w.before args s' = true := fun w hw => vx_ot_at hW0 hvm.symm (hgood w (List.mem_cons_of_mem _ (List.mem_cons_of_mem _ hw))) (hat w hw)
  have hk' : (Cond.classLink own ik cls).before args s' = true := vx_ot_at hW0 hvm.symm (hgood _ List.mem_cons_self) hk
  have hini' : (Cond.initialized cls).before args s' = true := vx_ot_at hW0 hvm.symm (hgood _ (List.mem_cons_of_mem _ List.mem_cons_self)) hini
  have hU' : vx_Zq Bundle.tN "UNASSIGNED_STACK" Bundle.steD A s' s'.heap := by rw [hhp]; exact vx_Zq.moved hW0.alike (hU.kept hS.2.1)
  have hN' : vx_Zq Bundle.tN "SUPPRESSED_SENTINEL" Bundle.listD A s' s'.heap := by rw [hhp]; exact vx_Zq.moved hW0.alike (hN.kept hS.2.1)
  have h : ∀ w ∈ xAtoms own ic cls (Y9 :: r9), w.before args s' = true := vx_own hat' (vx_isRefq hU'.1) (vx_isRefq hN'.1) hU'.2.word hN'.2.word
  have hown' : s'.vm.findClass own = some m.cls := by rw [hvm]; exact hown
  have hins : (Cond.instantiable cls 6).before args s' = true := h _ (by simp [xAtoms])
  obtain ⟨vm₁, cX, kX, hfX, hkX, -, -, X₁, st1⟩ := Y.newCold hexec (own := own) (C := cls) (index := ik) (n := 6) hown' hk' hins hini'
    (g := F0 m pc ls rest) rfl (by rw [hb]; exact d0) (Nat.le_refl _) (Nat.le_refl _)
  generalize hT1 : (T.setVm vm₁).pushCell { cls := cX, slots := kX.instanceTypes.map defaultValue, vm := .none } = T1 at X₁ st1
  have hcat : (Value.ref T.heap.size).category = 1 := rfl
  have hcellA : T1.heap[T.heap.size]? = some (freshCell cX kX) := by rw [← hT1]; exact State.heap_pushCell_size _ _
  have d3' : decode c.code (pc + 3) = .ok (.dup, 1) := by rw [hb]; exact d3
  have d4' : decode c.code (pc + 4) = .ok (.ldc is, 2) := by rw [hb]; exact d4
  have hstr' : vk_R own is text sa s' := vk_R.warm hW0 hstr
  obtain ⟨V, ce, L, Z, hL, hlt, hcl9, hvm9, st⟩ := vx_ctorMadeN X₁ hexec htr (own := own) (cls := cls) (Y9 := Y9) (r9 := r9) (ic := ic) hown' hcls hnames h (fun x hx => nomatch hx) hfX hkX hcellA (by rw [hhp]; exact Nat.le_refl _) (msg := .ref sa) rfl
    (g := { method := m, pc := pc + 6, locals := ls, stack := .ref sa :: .ref T.heap.size :: .ref T.heap.size :: rest, locked := none }) rfl hsize (rest := rest) rfl
    (by rw [hb]; exact d6) hRframes (by simp only [List.map_cons, List.sum_cons, hcat]; omega)
  have Z0 := Stand.forget (locs := []) Z (fun y hy => by rw [hL y hy, hhp]; exact Nat.le_refl _)
  obtain ⟨f1, f2⟩ := vx_frame Z0.same
  rw [hhp] at f1 f2
  have hcid : ce.cls = D.1 ci := by
    rw [hcl9]
    have h1 := (hK.1 ci _ hc).2.1
    rw [hvm] at hfX
    exact Option.some.inj (hfX.symm.trans h1)
  have hh : (V.setCell T.heap.size ce).heap[T.heap.size]? = some ce := heapAt_setCell_self (s := V) ce hlt
  subst hA'
  have X5 := vx_back9 X Y Z0
  have X6 : Stand p l e R s m args below meth c (V.setCell T.heap.size ce) locs (cells + 1) (slots + 6) := { X5 with same := X5.same.mono (by omega) (by omega) }
  have hk9 : ∀ (k : Nat) (x : Nat × va_E), ws[k]? = some x → (V.setCell T.heap.size ce).heap[x.1]? = T.heap[x.1]? := fun k x hx => f2 x.1 ((hP k x hx).lt) (fun z hz => nomatch hz)
  obtain ⟨t, a1, b1⟩ := kk T.heap.size (V.setCell T.heap.size ce).heap ((hP.kept hk9).app (fun k x hx => by
      have hz : k < 1 := (List.getElem?_eq_some_iff.mp hx).1
      rw [show k = 0 by omega] at hx
      cases hx
      exact ⟨_, hc, ce, hh, hcid, hvm9, fun k hk => absurd hk (Nat.not_lt_zero k)⟩)) (hD.push hP rfl (hA _ hS.1)) ⟨Nat.le_trans hS.1 f1, fun q h1 h2 => (f2 q (Nat.lt_of_lt_of_le h1 hS.1) (fun z hz => nomatch hz)).trans (hS.2.1 q h1 h2), hS.2.2⟩ _ rfl X6
  refine ⟨t, st1 _ ?_, b1⟩
  show Steps p.tables e below (T1.setTop { method := m, pc := pc + 3, locals := ls, stack := .ref T.heap.size :: rest, locked := none }) _
  jvm_step X₁.here [X₁.here.top, hexec, d3', Value.category]
  exact X₁.ldcString hexec (own := own) (text := text) (index := is) (a := sa) hown' hstr'.1 hstr'.2
    (g := { method := m, pc := pc + 4, locals := ls, stack := .ref T.heap.size :: .ref T.heap.size :: rest, locked := none }) rfl d4' _ (st _ a1)
set_option maxHeartbeats 4000000 in
theorem vx_makeNW {cc : ByteArray} {pc : Nat} (hexec : p.tables.exec = Jvm.exec) (hb : c.code = cc) (hl : l.stackTraces = false) {own cls text : String} {Y9 : String} {r9 : List String} {ik is ic sa ci : Nat} {A : Nat → Prop} {T0 : u_T}
    (hown : s.vm.findClass own = some m.cls) (hcls : Bundle.fit cls = true) (hnames : ∀ n ∈ Y9 :: r9, Bundle.fit n = true)
    (hk : (Cond.classLink own ik cls).before args s = true) (hini : (Cond.initialized cls).before args s = true) (hstr : vk_R own is text sa s) (hat : ∀ w ∈ xAtS own ic cls (Y9 :: r9), w.before args s = true)
    (hgood : ∀ w ∈ Cond.classLink own ik cls :: Cond.initialized cls :: xAtS own ic cls (Y9 :: r9), vx_ot w = true)
    (hU : vx_Zq Bundle.tN "UNASSIGNED_STACK" Bundle.steD A s s.heap) (hN : vx_Zq Bundle.tN "SUPPRESSED_SENTINEL" Bundle.listD A s s.heap) (hS : va_S A s.heap H locs) (hsize : ls.size = c.maxLocals)
    (d0 : decode cc pc = .ok (.new ik, 3)) (d3 : decode cc (pc + 3) = .ok (.dup, 1)) (d4 : decode cc (pc + 4) = .ok (.ldc_w is, 3)) (d6 : decode cc (pc + 7) = .ok (.invokespecial ic, 3))
    (hK : va_K D cl tys s) (hP : va_P D cl ws H) (hD : va_D A ws) (hA : ∀ q, s.heap.size ≤ q → A q) (hc : cl[ci]? = some (cls, T0, 0))
    (hRframes : (Y9 :: r9).length + 3 < R.frames) (hRlocals : (rest.map fun v => v.category).sum + (13 * ((Y9 :: r9).length + 1) + 43) ≤ R.locals) (hRcells : cells + 1 ≤ R.cells) (hRslots : slots + 6 ≤ R.slots)
    (kk : ∀ (q : Nat) (H1 : Heap), va_P D cl (ws ++ [(q, .inr (ci, []))]) H1 → va_D A (ws ++ [(q, .inr (ci, []))]) → va_S A s.heap H1 locs → W p l e R s m args below meth c H1 locs (cells + 1) (slots + 6) Q (F0 m (pc + 10) ls (.ref q :: rest))) :
    W p l e R s m args below meth c H locs cells slots Q (F0 m pc ls rest) := by
  intro T hT X
  subst hT
  have htr : e.platform.stackTraces = false := (show e.platform.stackTraces = l.stackTraces by rw [X.admits.platform]).trans hl
  have Y := vx_rebase X (R' := { frames := R.frames, locals := R.locals, cells := 1, slots := 6 }) (Nat.le_refl _) (Nat.le_refl _) hRcells hRslots
  obtain ⟨s', hA'⟩ : ∃ z, z = (T.setVm s.vm).setFrames (.invoking m args :: below) := ⟨_, rfl⟩
  rw [← hA'] at Y
  have hvm : s'.vm = s.vm := by rw [hA']; rfl
  have hhp : s'.heap = T.heap := by rw [hA']; rfl
  have hW0 : s.WarmedH s'.vm := by rw [hvm]; exact State.WarmedH.refl s
  have hat' : ∀ w ∈ xAtS own ic cls (Y9 :: r9), w.before args s' = true := fun w hw => vx_ot_at hW0 hvm.symm (hgood w (List.mem_cons_of_mem _ (List.mem_cons_of_mem _ hw))) (hat w hw)
  have hk' : (Cond.classLink own ik cls).before args s' = true := vx_ot_at hW0 hvm.symm (hgood _ List.mem_cons_self) hk
  have hini' : (Cond.initialized cls).before args s' = true := vx_ot_at hW0 hvm.symm (hgood _ (List.mem_cons_of_mem _ List.mem_cons_self)) hini
  have hU' : vx_Zq Bundle.tN "UNASSIGNED_STACK" Bundle.steD A s' s'.heap := by rw [hhp]; exact vx_Zq.moved hW0.alike (hU.kept hS.2.1)
  have hN' : vx_Zq Bundle.tN "SUPPRESSED_SENTINEL" Bundle.listD A s' s'.heap := by rw [hhp]; exact vx_Zq.moved hW0.alike (hN.kept hS.2.1)
  have h : ∀ w ∈ xAtoms own ic cls (Y9 :: r9), w.before args s' = true := vx_own hat' (vx_isRefq hU'.1) (vx_isRefq hN'.1) hU'.2.word hN'.2.word
  have hown' : s'.vm.findClass own = some m.cls := by rw [hvm]; exact hown
  have hins : (Cond.instantiable cls 6).before args s' = true := h _ (by simp [xAtoms])
  obtain ⟨vm₁, cX, kX, hfX, hkX, -, -, X₁, st1⟩ := Y.newCold hexec (own := own) (C := cls) (index := ik) (n := 6) hown' hk' hins hini'
    (g := F0 m pc ls rest) rfl (by rw [hb]; exact d0) (Nat.le_refl _) (Nat.le_refl _)
  generalize hT1 : (T.setVm vm₁).pushCell { cls := cX, slots := kX.instanceTypes.map defaultValue, vm := .none } = T1 at X₁ st1
  have hcat : (Value.ref T.heap.size).category = 1 := rfl
  have hcellA : T1.heap[T.heap.size]? = some (freshCell cX kX) := by rw [← hT1]; exact State.heap_pushCell_size _ _
  have d3' : decode c.code (pc + 3) = .ok (.dup, 1) := by rw [hb]; exact d3
  have d4' : decode c.code (pc + 4) = .ok (.ldc_w is, 3) := by rw [hb]; exact d4
  have hstr' : vk_R own is text sa s' := vk_R.warm hW0 hstr
  obtain ⟨V, ce, L, Z, hL, hlt, hcl9, hvm9, st⟩ := vx_ctorMadeN X₁ hexec htr (own := own) (cls := cls) (Y9 := Y9) (r9 := r9) (ic := ic) hown' hcls hnames h (fun x hx => nomatch hx) hfX hkX hcellA (by rw [hhp]; exact Nat.le_refl _) (msg := .ref sa) rfl
    (g := { method := m, pc := pc + 7, locals := ls, stack := .ref sa :: .ref T.heap.size :: .ref T.heap.size :: rest, locked := none }) rfl hsize (rest := rest) rfl
    (by rw [hb]; exact d6) hRframes (by simp only [List.map_cons, List.sum_cons, hcat]; omega)
  have Z0 := Stand.forget (locs := []) Z (fun y hy => by rw [hL y hy, hhp]; exact Nat.le_refl _)
  obtain ⟨f1, f2⟩ := vx_frame Z0.same
  rw [hhp] at f1 f2
  have hcid : ce.cls = D.1 ci := by
    rw [hcl9]
    have h1 := (hK.1 ci _ hc).2.1
    rw [hvm] at hfX
    exact Option.some.inj (hfX.symm.trans h1)
  have hh : (V.setCell T.heap.size ce).heap[T.heap.size]? = some ce := heapAt_setCell_self (s := V) ce hlt
  subst hA'
  have X5 := vx_back9 X Y Z0
  have X6 : Stand p l e R s m args below meth c (V.setCell T.heap.size ce) locs (cells + 1) (slots + 6) := { X5 with same := X5.same.mono (by omega) (by omega) }
  have hk9 : ∀ (k : Nat) (x : Nat × va_E), ws[k]? = some x → (V.setCell T.heap.size ce).heap[x.1]? = T.heap[x.1]? := fun k x hx => f2 x.1 ((hP k x hx).lt) (fun z hz => nomatch hz)
  obtain ⟨t, a1, b1⟩ := kk T.heap.size (V.setCell T.heap.size ce).heap ((hP.kept hk9).app (fun k x hx => by
      have hz : k < 1 := (List.getElem?_eq_some_iff.mp hx).1
      rw [show k = 0 by omega] at hx
      cases hx
      exact ⟨_, hc, ce, hh, hcid, hvm9, fun k hk => absurd hk (Nat.not_lt_zero k)⟩)) (hD.push hP rfl (hA _ hS.1)) ⟨Nat.le_trans hS.1 f1, fun q h1 h2 => (f2 q (Nat.lt_of_lt_of_le h1 hS.1) (fun z hz => nomatch hz)).trans (hS.2.1 q h1 h2), hS.2.2⟩ _ rfl X6
  refine ⟨t, st1 _ ?_, b1⟩
  show Steps p.tables e below (T1.setTop { method := m, pc := pc + 3, locals := ls, stack := .ref T.heap.size :: rest, locked := none }) _
  jvm_step X₁.here [X₁.here.top, hexec, d3', Value.category]
  exact X₁.ldcStringW hexec (own := own) (text := text) (index := is) (a := sa) hown' hstr'.1 hstr'.2
    (g := { method := m, pc := pc + 4, locals := ls, stack := .ref T.heap.size :: .ref T.heap.size :: rest, locked := none }) rfl d4' _ (st _ a1)
end XMK
/-- the words of tables that no list of steady words carries -/
theorem xB {Y : LY} {s : State} {args : Array Value} (hK : KK Y s) : ∀ w ∈ dTab.map Cond.declares ++ exN.map (fun a => Cond.castable a a), w.before args s = true := fun w hw => by
  rcases List.mem_append.mp hw with h | h
  · obtain ⟨y, hy, rfl⟩ := List.mem_map.mp h
    exact va_Nw.use rfl (hK.d y hy)
  · obtain ⟨a, ha, rfl⟩ := List.mem_map.mp h
    exact va_Nw.use rfl (hK.c a ha)
theorem xh_0 : (∀ w ∈ (vx_atS RX7 349 "java/lang/IndexOutOfBoundsException" ["java/lang/RuntimeException", "java/lang/Exception"]).filter goodWord, w ∈ lw_tbl) := by decide +kernel
theorem xb_0 : (∀ w ∈ (vx_atS RX7 349 "java/lang/IndexOutOfBoundsException" ["java/lang/RuntimeException", "java/lang/Exception"]).filter (fun w => !goodWord w), w ∈ dTab.map Cond.declares ++ exN.map (fun a => Cond.castable a a)) := by decide +kernel
theorem xg_0 : ∀ w ∈ Cond.classLink RX7 345 "java/lang/IndexOutOfBoundsException" :: Cond.initialized "java/lang/IndexOutOfBoundsException" :: vx_atS RX7 349 "java/lang/IndexOutOfBoundsException" ["java/lang/RuntimeException", "java/lang/Exception"], vx_ot w = true := by decide +kernel
theorem xa_0 {Y : LY} {s : State} {args : Array Value} (hA : ∀ w ∈ ALLW, w.before args s = true) (hK : KK Y s) : ∀ w ∈ vx_atS RX7 349 "java/lang/IndexOutOfBoundsException" ["java/lang/RuntimeException", "java/lang/Exception"], w.before args s = true := vx_hat (fun w hw => hA w (zz0 (xh_0 w hw) (List.mem_filter.mp hw).2)) xb_0 (xB hK)
theorem xh_1 : (∀ w ∈ (vx_atS RX7 297 "java/lang/IllegalArgumentException" ["java/lang/RuntimeException", "java/lang/Exception"]).filter goodWord, w ∈ lw_tbl) := by decide +kernel
theorem xb_1 : (∀ w ∈ (vx_atS RX7 297 "java/lang/IllegalArgumentException" ["java/lang/RuntimeException", "java/lang/Exception"]).filter (fun w => !goodWord w), w ∈ dTab.map Cond.declares ++ exN.map (fun a => Cond.castable a a)) := by decide +kernel
theorem xg_1 : ∀ w ∈ Cond.classLink RX7 293 "java/lang/IllegalArgumentException" :: Cond.initialized "java/lang/IllegalArgumentException" :: vx_atS RX7 297 "java/lang/IllegalArgumentException" ["java/lang/RuntimeException", "java/lang/Exception"], vx_ot w = true := by decide +kernel
theorem xa_1 {Y : LY} {s : State} {args : Array Value} (hA : ∀ w ∈ ALLW, w.before args s = true) (hK : KK Y s) : ∀ w ∈ vx_atS RX7 297 "java/lang/IllegalArgumentException" ["java/lang/RuntimeException", "java/lang/Exception"], w.before args s = true := vx_hat (fun w hw => hA w (zz0 (xh_1 w hw) (List.mem_filter.mp hw).2)) xb_1 (xB hK)
theorem xh_2 : (∀ w ∈ (vx_atS RX7 304 "java/lang/IllegalStateException" ["java/lang/RuntimeException", "java/lang/Exception"]).filter goodWord, w ∈ lw_tbl) := by decide +kernel
theorem xb_2 : (∀ w ∈ (vx_atS RX7 304 "java/lang/IllegalStateException" ["java/lang/RuntimeException", "java/lang/Exception"]).filter (fun w => !goodWord w), w ∈ dTab.map Cond.declares ++ exN.map (fun a => Cond.castable a a)) := by decide +kernel
theorem xg_2 : ∀ w ∈ Cond.classLink RX7 300 "java/lang/IllegalStateException" :: Cond.initialized "java/lang/IllegalStateException" :: vx_atS RX7 304 "java/lang/IllegalStateException" ["java/lang/RuntimeException", "java/lang/Exception"], vx_ot w = true := by decide +kernel
theorem xa_2 {Y : LY} {s : State} {args : Array Value} (hA : ∀ w ∈ ALLW, w.before args s = true) (hK : KK Y s) : ∀ w ∈ vx_atS RX7 304 "java/lang/IllegalStateException" ["java/lang/RuntimeException", "java/lang/Exception"], w.before args s = true := vx_hat (fun w hw => hA w (zz0 (xh_2 w hw) (List.mem_filter.mp hw).2)) xb_2 (xB hK)
theorem xh_3 : (∀ w ∈ (xAtS RX7 124 "java/util/NoSuchElementException" ["java/lang/RuntimeException", "java/lang/Exception"]).filter goodWord, w ∈ lw_tbl) := by decide +kernel
theorem xb_3 : (∀ w ∈ (xAtS RX7 124 "java/util/NoSuchElementException" ["java/lang/RuntimeException", "java/lang/Exception"]).filter (fun w => !goodWord w), w ∈ dTab.map Cond.declares ++ exN.map (fun a => Cond.castable a a)) := by decide +kernel
theorem xg_3 : ∀ w ∈ Cond.classLink RX7 120 "java/util/NoSuchElementException" :: Cond.initialized "java/util/NoSuchElementException" :: xAtS RX7 124 "java/util/NoSuchElementException" ["java/lang/RuntimeException", "java/lang/Exception"], vx_ot w = true := by decide +kernel
theorem xa_3 {Y : LY} {s : State} {args : Array Value} (hA : ∀ w ∈ ALLW, w.before args s = true) (hK : KK Y s) : ∀ w ∈ xAtS RX7 124 "java/util/NoSuchElementException" ["java/lang/RuntimeException", "java/lang/Exception"], w.before args s = true := vx_hat (fun w hw => hA w (zz0 (xh_3 w hw) (List.mem_filter.mp hw).2)) xb_3 (xB hK)
theorem xh_4 : (∀ w ∈ (vx_atS RX7 259 "java/lang/ArithmeticException" ["java/lang/RuntimeException", "java/lang/Exception"]).filter goodWord, w ∈ lw_tbl) := by decide +kernel
theorem xb_4 : (∀ w ∈ (vx_atS RX7 259 "java/lang/ArithmeticException" ["java/lang/RuntimeException", "java/lang/Exception"]).filter (fun w => !goodWord w), w ∈ dTab.map Cond.declares ++ exN.map (fun a => Cond.castable a a)) := by decide +kernel
theorem xg_4 : ∀ w ∈ Cond.classLink RX7 255 "java/lang/ArithmeticException" :: Cond.initialized "java/lang/ArithmeticException" :: vx_atS RX7 259 "java/lang/ArithmeticException" ["java/lang/RuntimeException", "java/lang/Exception"], vx_ot w = true := by decide +kernel
theorem xa_4 {Y : LY} {s : State} {args : Array Value} (hA : ∀ w ∈ ALLW, w.before args s = true) (hK : KK Y s) : ∀ w ∈ vx_atS RX7 259 "java/lang/ArithmeticException" ["java/lang/RuntimeException", "java/lang/Exception"], w.before args s = true := vx_hat (fun w hw => hA w (zz0 (xh_4 w hw) (List.mem_filter.mp hw).2)) xb_4 (xB hK)
/-- how a method that throws ends: with x's right side, the memory M -/
abbrev XxP {α : Type} (Y : LY) (x : α ⊕ Nat) (P : Heap → Prop) : String → State → State → Prop := vx_X (fun k : Nat => x = .inr k) (fun E k t => exN[k]? = some E ∧ P t.heap) (AZ Y)
abbrev Xx {α : Type} (Y : LY) (x : α ⊕ Nat) (M : Mem) : String → State → State → Prop := XxP Y x (HS Y M)
abbrev Xx0 {α : Type} (Y : LY) (x : α ⊕ Nat) (M : Mem) : String → State → State → Prop := XxP Y x (HS0 Y M)
abbrev QxiP (Y : LY) (x : Int32 ⊕ Nat) (P : Heap → Prop) : Array Value → State → Outcome → State → Prop := va_Qi (fun (v : Int32) (_ : Unit) => x = .inl v) (fun _ t => P t.heap) (AZ Y)
abbrev Qxi (Y : LY) (x : Int32 ⊕ Nat) (M : Mem) : Array Value → State → Outcome → State → Prop := QxiP Y x (HS Y M)
abbrev QxdP (Y : LY) (x : UInt64 ⊕ Nat) (P : Heap → Prop) : Array Value → State → Outcome → State → Prop := va_Qd (fun (v : UInt64) (_ : Unit) => x = .inl v) (fun _ t => P t.heap) (AZ Y)
abbrev Qxd (Y : LY) (x : UInt64 ⊕ Nat) (M : Mem) : Array Value → State → Outcome → State → Prop := QxdP Y x (HS Y M)
abbrev QxfP (Y : LY) (x : UInt32 ⊕ Nat) (P : Heap → Prop) : Array Value → State → Outcome → State → Prop := va_Qf (fun (v : UInt32) (_ : Unit) => x = .inl v) (fun _ t => P t.heap) (AZ Y)
abbrev Qxf (Y : LY) (x : UInt32 ⊕ Nat) (M : Mem) : Array Value → State → Outcome → State → Prop := QxfP Y x (HS Y M)
abbrev Qxi0 (Y : LY) (x : Int32 ⊕ Nat) (M : Mem) : Array Value → State → Outcome → State → Prop := QxiP Y x (HS0 Y M)
abbrev QxvP (Y : LY) (x : Unit ⊕ Nat) (P : Heap → Prop) : Array Value → State → Outcome → State → Prop := va_Qv (fun _ : Unit => x = .inl ()) (fun _ t => P t.heap) (AZ Y)
abbrev Qxv (Y : LY) (x : Unit ⊕ Nat) (M : Mem) : Array Value → State → Outcome → State → Prop := QxvP Y x (HS Y M)
abbrev Qxv0 (Y : LY) (x : Unit ⊕ Nat) (M : Mem) : Array Value → State → Outcome → State → Prop := QxvP Y x (HS0 Y M)
abbrev QxrP (Y : LY) (a : Nat) (x : Nat ⊕ Nat) (P : Heap → Prop) : Array Value → State → Outcome → State → Prop := va_Qq (fun (v : Option Nat) (_ : Unit) => ∃ q, x = .inl q ∧ v = some (YA Y a q)) (fun _ t => P t.heap) (AZ Y)
abbrev Qxr (Y : LY) (a : Nat) (x : Nat ⊕ Nat) (M : Mem) : Array Value → State → Outcome → State → Prop := QxrP Y a x (HS Y M)
abbrev Qxr0 (Y : LY) (a : Nat) (x : Nat ⊕ Nat) (M : Mem) : Array Value → State → Outcome → State → Prop := QxrP Y a x (HS0 Y M)
def bxk {α β : Type} (x : α ⊕ Nat) (M : Mem) (k : α → Mem → Option ((β ⊕ Nat) × Mem)) : Option ((β ⊕ Nat) × Mem) := match x with
  | .inl v => k v M
  | .inr e => some (.inr e, M)
def bx {α β : Type} (z : Option ((α ⊕ Nat) × Mem)) (k : α → Mem → Option ((β ⊕ Nat) × Mem)) : Option ((β ⊕ Nat) × Mem) := match z with
  | none => none
  | some (x, M) => bxk x M k
theorem bx_o {α β : Type} {z : Option ((α ⊕ Nat) × Mem)} {k : α → Mem → Option ((β ⊕ Nat) × Mem)} {r : (β ⊕ Nat) × Mem} (h : bx z k = some r) : ∃ x M, z = some (x, M) ∧ bxk x M k = some r := by
  match z, h with
  | some (x, M), h => exact ⟨x, M, rfl, h⟩
theorem bx_v {α β : Type} {v : α} {M : Mem} {k : α → Mem → Option ((β ⊕ Nat) × Mem)} {r : (β ⊕ Nat) × Mem} (h : bxk (.inl v) M k = some r) : k v M = some r := h
theorem bx_x {α β : Type} {e : Nat} {M M2 : Mem} {k : α → Mem → Option ((β ⊕ Nat) × Mem)} {x : β ⊕ Nat} (h : bxk (.inr e) M k = some (x, M2)) : x = .inr e ∧ M2 = M := by cases h; exact ⟨rfl, rfl⟩
theorem bx_p {α β : Type} (F : Mem → Heap → Prop) {e : Nat} {M M2 : Mem} {k : α → Mem → Option ((β ⊕ Nat) × Mem)} {x : β ⊕ Nat} (h : bxk (.inr e) M k = some (x, M2)) : x = .inr e ∧ F M2 = F M := by cases h; exact ⟨rfl, rfl⟩
theorem met_mkx {Y : LY} {l : Launch} {y : MethodName} {cc : ByteArray} {nL : Nat} {rt : Option FieldType} {rm : Room} {P : Heap → Prop} {Qc : Array Value → State → Outcome → State → Prop} {XC : String → State → State → Prop} {mc ms : Nat} {own : String} {lv : List (Nat × Value)} (av : List Value) (hy : plainName y.cls = true) (hown : y.cls = own) (hlv : lv_args 0 av = lv) (hsl : (lg_sl av).length ≤ nL)
    (k : ∀ (p : Program) (e : Env) (s : State) (m : MethodId) (below : List Frame) (meth : Method) (c : Code), BE Y p s m av.toArray meth c cc nL rt own → (∀ x ∈ c.exceptionTable.toList, False) → P s.heap → ∀ ls : Array Slot, lv_has ls nL lv → W p l e rm s m av.toArray below meth c s.heap [] 0 0 (vx_MQ below Qc XC av.toArray s mc ms (AZ Y)) (F0 m 0 ls [])) :
    vx_Met l y (WS y cc nL rt) rm (PcP Y P av) Qc XC mc ms (AZ Y) := by
  refine vx_ofW (cc := cc) (maxL := nL) (ret := rt) hy rfl ?_
  intro p e s m args below meth c s₁ B hml hno hv
  obtain ⟨rfl, hK, hZ, hH⟩ := hv
  have hl := lv_entry av hsl
  rw [lg_entry_eq]
  rw [hlv] at hl
  subst hown
  exact k p e s m below meth c ⟨B.exec, B.bytes, B.returns, hml, findClass_of_methodNamed B.named, fun w hw => atoms_spec B.pre w (List.mem_cons_of_mem _ hw), B.notSynchronized, hK, hZ⟩ hno hH _ hl
section RX
variable {p : Program} {l : Launch} {e : Env} {R : Room} {s : State} {m : MethodId} {args : Array Value} {below : List Frame} {meth : Method} {c : Code} {H : Heap} {locs : List Loc} {cells slots : Nat} {Q : State → Prop}
variable {cc : ByteArray} {nL : Nat} {rt : Option FieldType} {own : String} {pc : Nat} {ls : Array Slot} {rest : List Value} {Y : LY} {P : Heap → Prop}
variable {y : MethodName} {bytes : ByteArray} {maxL mc ms index n : Nat} {ret : Option FieldType} {rm : Room} {Qc : Array Value → State → Outcome → State → Prop} {XC : String → State → State → Prop} {As st0 : List Value} {b : Nat} {C : String} {mz sz : Nat}
theorem hx_runV (C0 : BE Y p s m args meth c cc nL rt own) (hH : P H) (hS : va_S (AZ Y) s.heap H locs) (hM : vx_Met l y (WS y bytes maxL ret) rm (PcP Y P (.ref b :: As)) Qc XC mc ms (AZ Y)) (hn : NV own index y bytes maxL ret n C) (hrm : rm.cells = mc ∧ rm.slots = ms ∧ rm.frames + 1 ≤ R.frames ∧ 8 + (maxL + 11) + rm.locals ≤ R.locals)
    (hrecv : ∃ cell : Cell, H[b]? = some cell ∧ cell.vm.isStatics = false ∧ s.vm.findClass C = some cell.cls) (hl : As.length = n) (hst : st0 = As.reverse ++ .ref b :: rest) (hsz : ls.size = nL) (hroom : (rest.map fun v => v.category).sum ≤ 8) (hf : cells + mc ≤ R.cells ∧ slots + ms ≤ R.slots) (hdg : decode cc pc = .ok (.invokevirtual index, 3)) :
    vx_Run p l e R s m args below meth c H locs cells slots mc ms (F0 m pc ls st0) rest (Qc (Value.ref b :: As).toArray) XC (AZ Y) := by
  obtain ⟨hx, hb, hr, hml, hown, hA, hlocks, hK, hZ⟩ := C0
  subst hst
  exact vx_runV (As := As) (rest := rest) ⟨hx, hb, hml, hown, hA⟩ hM (cwV n hA (nv_gi hn) rfl hrm.1 hrm.2.1 hn.2 hrm.2.2) ⟨PcP.blind, hrecv, fun U hU hW => PcP.of hK hZ hS hH hU hW⟩ rfl hl hsz rfl (lv_room hroom) hdg hf
theorem hx_runS (C0 : BE Y p s m args meth c cc nL rt own) (hH : P H) (hS : va_S (AZ Y) s.heap H locs) (hM : vx_Met l y (WS y bytes maxL ret) rm (PcP Y P As) Qc XC mc ms (AZ Y)) (hn : NS own index y bytes maxL ret n) (hrm : rm.cells = mc ∧ rm.slots = ms ∧ rm.frames + 1 ≤ R.frames ∧ 8 + (maxL + 11) + rm.locals ≤ R.locals)
    (hl : As.length = n) (hst : st0 = As.reverse ++ rest) (hsz : ls.size = nL) (hroom : (rest.map fun v => v.category).sum ≤ 8) (hf : cells + mc ≤ R.cells ∧ slots + ms ≤ R.slots) (hdg : decode cc pc = .ok (.invokestatic index, 3)) :
    vx_Run p l e R s m args below meth c H locs cells slots mc ms (F0 m pc ls st0) rest (Qc As.toArray) XC (AZ Y) := by
  obtain ⟨hx, hb, hr, hml, hown, hA, hlocks, hK, hZ⟩ := C0
  obtain ⟨⟨h1, h2, h3, h4⟩, hd⟩ := hn
  subst hst
  refine vx_runS (As := As) (rest := rest) ⟨hx, hb, hml, hown, hA⟩ hM ⟨callB_of n hA (allw_gi fun w hw => ?_) rfl hrm.1 hrm.2.1 (hA _ h3) (hA _ h1) hd hrm.2.2, hA _ h2⟩ ⟨PcP.blind, fun U hU hW => PcP.of hK hZ hS hH hU hW⟩ rfl hl hsz rfl (lv_room hroom) hdg hf
  rcases List.mem_cons.mp hw with rfl | hw
  · exact h4
  · exact hw
variable {P1 PZ : Heap → Prop} {a : Array Value} {β : Type} {x9 : β ⊕ Nat}
/-- what a callee threw leaves -/
theorem hx_pass {α : Type} {x : α ⊕ Nat} (C0 : BE Y p s m args meth c cc nL rt own) (hno : ∀ z ∈ c.exceptionTable.toList, False) (h1 : cells ≤ mz) (h2 : slots ≤ sz) (hprop : ∀ k, x = .inr k → x9 = .inr k ∧ PZ = P1) {E : String} {ce : Cell} {q9 k : Nat} {t : State} (hu : x = .inr k) (hB : exN[k]? = some E ∧ P1 t.heap) (ht : t.heap = H) (hS : va_S (AZ Y) s.heap H locs) (hq : H[q9]? = some ce) (hv : ce.vm = .none) (hc : s.vm.findClass E = some ce.cls) :
    vx_W p l e R s m args below meth c H locs cells slots (vx_MQ below Qc (XxP Y x9 PZ) args s mz sz (AZ Y)) (F0 m pc ls rest) q9 := by
  obtain ⟨hx, hb, hr, hml, hown, hA, hlocks, hK, hZ⟩ := C0
  obtain ⟨rfl, rfl⟩ := hprop k hu
  exact vx_out (fun z hz => (hno z hz).elim) hlocks hq hv hc (fun t2 ht2 _ => ⟨k, rfl, ⟨hB.1, by rw [ht2, ← ht]; exact hB.2⟩, hS.F ht2⟩) hS.2.2 h1 h2
theorem hx_ci {x : Int32 ⊕ Nat} (hr : vx_Run p l e R s m args below meth c H locs cells slots mc ms (F0 m pc ls st0) rest (QxiP Y x P1 a) (XxP Y x P1) (AZ Y)) (hS : va_S (AZ Y) s.heap H locs) (C0 : BE Y p s m args meth c cc nL rt own) (hno : ∀ z ∈ c.exceptionTable.toList, False) (h1 : cells + mc ≤ mz) (h2 : slots + ms ≤ sz) (hprop : ∀ k, x = .inr k → x9 = .inr k ∧ PZ = P1)
    (kk : ∀ v, x = .inl v → ∀ (H1 : Heap) (locs1 : List Loc), P1 H1 → va_S (AZ Y) s.heap H1 locs1 → W p l e R s m args below meth c H1 locs1 (cells + mc) (slots + ms) (vx_MQ below Qc (XxP Y x9 PZ) args s mz sz (AZ Y)) (F0 m (pc + 3) ls (.int v :: rest))) : W p l e R s m args below meth c H locs cells slots (vx_MQ below Qc (XxP Y x9 PZ) args s mz sz (AZ Y)) (F0 m pc ls st0) :=
  vx_calli hr hS (fun _ _ h => h) (fun _ h => h) (fun _ _ h => h) (fun E ce q9 u t H1 locs1 ht hvm hu hB _ _ hS1 hq hv hc => hx_pass C0 hno h1 h2 hprop hu hB ht hS1 hq hv hc) (fun r u t H1 locs1 ht hvm hw hB _ _ hS1 => kk r hw H1 locs1 (ht ▸ hB) hS1)
theorem hx_cv {x : Unit ⊕ Nat} (hr : vx_Run p l e R s m args below meth c H locs cells slots mc ms (F0 m pc ls st0) rest (QxvP Y x P1 a) (XxP Y x P1) (AZ Y)) (hS : va_S (AZ Y) s.heap H locs) (C0 : BE Y p s m args meth c cc nL rt own) (hno : ∀ z ∈ c.exceptionTable.toList, False) (h1 : cells + mc ≤ mz) (h2 : slots + ms ≤ sz) (hprop : ∀ k, x = .inr k → x9 = .inr k ∧ PZ = P1)
    (kk : ∀ v, x = .inl v → ∀ (H1 : Heap) (locs1 : List Loc), P1 H1 → va_S (AZ Y) s.heap H1 locs1 → W p l e R s m args below meth c H1 locs1 (cells + mc) (slots + ms) (vx_MQ below Qc (XxP Y x9 PZ) args s mz sz (AZ Y)) (F0 m (pc + 3) ls rest)) : W p l e R s m args below meth c H locs cells slots (vx_MQ below Qc (XxP Y x9 PZ) args s mz sz (AZ Y)) (F0 m pc ls st0) :=
  vx_callv hr hS (fun _ _ h => h) (fun _ h => h) (fun _ _ h => h) (fun E ce q9 u t H1 locs1 ht hvm hu hB _ _ hS1 hq hv hc => hx_pass C0 hno h1 h2 hprop hu hB ht hS1 hq hv hc) (fun u t H1 locs1 ht hvm hw hB _ _ hS1 => kk () hw H1 locs1 (ht ▸ hB) hS1)
theorem hx_cr {f : Nat} {x : Nat ⊕ Nat} (hr : vx_Run p l e R s m args below meth c H locs cells slots mc ms (F0 m pc ls st0) rest (QxrP Y f x P1 a) (XxP Y x P1) (AZ Y)) (hS : va_S (AZ Y) s.heap H locs) (C0 : BE Y p s m args meth c cc nL rt own) (hno : ∀ z ∈ c.exceptionTable.toList, False) (h1 : cells + mc ≤ mz) (h2 : slots + ms ≤ sz) (hprop : ∀ k, x = .inr k → x9 = .inr k ∧ PZ = P1)
    (kk : ∀ q, x = .inl q → ∀ (H1 : Heap) (locs1 : List Loc), P1 H1 → va_S (AZ Y) s.heap H1 locs1 → W p l e R s m args below meth c H1 locs1 (cells + mc) (slots + ms) (vx_MQ below Qc (XxP Y x9 PZ) args s mz sz (AZ Y)) (F0 m (pc + 3) ls (.ref (YA Y f q) :: rest))) : W p l e R s m args below meth c H locs cells slots (vx_MQ below Qc (XxP Y x9 PZ) args s mz sz (AZ Y)) (F0 m pc ls st0) :=
  vx_callq hr hS (fun _ _ h => h) (fun _ h => h) (fun _ _ h => h) (fun E ce q9 u t H1 locs1 ht hvm hu hB _ _ hS1 hq hv hc => hx_pass C0 hno h1 h2 hprop hu hB ht hS1 hq hv hc) (fun r u t H1 locs1 ht hvm hw hB _ _ hS1 => by
    obtain ⟨q, hx, rfl⟩ := hw
    exact kk q hx H1 locs1 (ht ▸ hB) hS1)
/-- ends of methods that may throw -/
theorem hx_dret (C0 : BE Y p s m args meth c cc nL (some .double) own) (hH : P H) (hS : va_S (AZ Y) s.heap H locs) (h1 : cells ≤ mz) (h2 : slots ≤ sz) {v : UInt64} (hdg : decode cc pc = .ok (.dreturn, 1)) : W p l e R s m args below meth c H locs cells slots (vx_MQ below (QxdP Y (.inl v) P) XC args s mz sz (AZ Y)) (F0 m pc ls [.double v]) := by
  obtain ⟨hx, hb, hr, hml, hown, hA, hlocks, hK, hZ⟩ := C0
  exact vx_ret (W.widen h1 h2 (W.dret hx hb hr (fun t ht hW => ⟨⟨v, (), rfl, rfl, by subst ht; exact hH⟩, hS.F ht⟩) hS.2.2 hdg))
theorem hx_fret (C0 : BE Y p s m args meth c cc nL (some .float) own) (hH : P H) (hS : va_S (AZ Y) s.heap H locs) (h1 : cells ≤ mz) (h2 : slots ≤ sz) {v : UInt32} (hdg : decode cc pc = .ok (.freturn, 1)) : W p l e R s m args below meth c H locs cells slots (vx_MQ below (QxfP Y (.inl v) P) XC args s mz sz (AZ Y)) (F0 m pc ls [.float v]) := by
  obtain ⟨hx, hb, hr, hml, hown, hA, hlocks, hK, hZ⟩ := C0
  exact vx_ret (W.widen h1 h2 (W.fret hx hb hr (fun t ht hW => ⟨⟨v, (), rfl, rfl, by subst ht; exact hH⟩, hS.F ht⟩) hS.2.2 hdg))
theorem hx_iret (C0 : BE Y p s m args meth c cc nL (some .int) own) (hH : P H) (hS : va_S (AZ Y) s.heap H locs) (h1 : cells ≤ mz) (h2 : slots ≤ sz) {v : Int32} (hdg : decode cc pc = .ok (.ireturn, 1)) : W p l e R s m args below meth c H locs cells slots (vx_MQ below (QxiP Y (.inl v) P) XC args s mz sz (AZ Y)) (F0 m pc ls [.int v]) := by
  obtain ⟨hx, hb, hr, hml, hown, hA, hlocks, hK, hZ⟩ := C0
  exact vx_ret (W.widen h1 h2 (W.iret hx hb hr (fun t ht hW => ⟨⟨v, (), rfl, rfl, by subst ht; exact hH⟩, hS.F ht⟩) hS.2.2 hdg))
theorem hx_zret (C0 : BE Y p s m args meth c cc nL (some .boolean) own) (hH : P H) (hS : va_S (AZ Y) s.heap H locs) (h1 : cells ≤ mz) (h2 : slots ≤ sz) {v : Int32} (hv : isB v) (hdg : decode cc pc = .ok (.ireturn, 1)) : W p l e R s m args below meth c H locs cells slots (vx_MQ below (QxiP Y (.inl v) P) XC args s mz sz (AZ Y)) (F0 m pc ls [.int v]) := by
  obtain ⟨hx, hb, hr, hml, hown, hA, hlocks, hK, hZ⟩ := C0
  exact vx_ret (W.widen h1 h2 (W.zret hx hb hr (congrArg Value.int (isB_n hv)) (fun t ht hW => ⟨⟨v, (), rfl, rfl, by subst ht; exact hH⟩, hS.F ht⟩) hS.2.2 hdg))
theorem hx_cret (C0 : BE Y p s m args meth c cc nL (some .char) own) (hH : P H) (hS : va_S (AZ Y) s.heap H locs) (h1 : cells ≤ mz) (h2 : slots ≤ sz) {v : Int32} (hv : isC v) (hdg : decode cc pc = .ok (.ireturn, 1)) : W p l e R s m args below meth c H locs cells slots (vx_MQ below (QxiP Y (.inl v) P) XC args s mz sz (AZ Y)) (F0 m pc ls [.int v]) := by
  obtain ⟨hx, hb, hr, hml, hown, hA, hlocks, hK, hZ⟩ := C0
  exact vx_ret (W.widen h1 h2 (W.zret hx hb hr (congrArg Value.int (isC_n hv)) (fun t ht hW => ⟨⟨v, (), rfl, rfl, by subst ht; exact hH⟩, hS.F ht⟩) hS.2.2 hdg))
theorem hx_vret (C0 : BE Y p s m args meth c cc nL none own) (hH : P H) (hS : va_S (AZ Y) s.heap H locs) (h1 : cells ≤ mz) (h2 : slots ≤ sz) (hdg : decode cc pc = .ok (.return_, 1)) : W p l e R s m args below meth c H locs cells slots (vx_MQ below (QxvP Y (.inl ()) P) XC args s mz sz (AZ Y)) (F0 m pc ls []) := by
  obtain ⟨hx, hb, hr, hml, hown, hA, hlocks, hK, hZ⟩ := C0
  exact vx_ret (W.widen h1 h2 (W.vret hx hb hr (fun t ht hW => ⟨⟨(), rfl, rfl, by subst ht; exact hH⟩, hS.F ht⟩) hS.2.2 hdg))
theorem hx_rret {C : String} (C0 : BE Y p s m args meth c cc nL (some (.object C)) own) (hH : P H) (hS : va_S (AZ Y) s.heap H locs) (h1 : cells ≤ mz) (h2 : slots ≤ sz) (a q : Nat) (hdg : decode cc pc = .ok (.areturn, 1)) : W p l e R s m args below meth c H locs cells slots (vx_MQ below (QxrP Y a (.inl q) P) XC args s mz sz (AZ Y)) (F0 m pc ls [.ref (YA Y a q)]) := by
  obtain ⟨hx, hb, hr, hml, hown, hA, hlocks, hK, hZ⟩ := C0
  exact vx_ret (W.widen h1 h2 (W.aret hx hb hr (Or.inl ⟨_, rfl⟩) (Or.inr ⟨_, rfl⟩) (fun t ht hW => ⟨⟨some (YA Y a q), (), rfl, ⟨q, rfl, rfl⟩, by subst ht; exact hH⟩, hS.F ht⟩) hS.2.2 hdg))
/-- a made exception leaves -/
theorem hx_leave {k ci q : Nat} {cls : String} {T0 : u_T} {ws : va_W} (C0 : BE Y p s m args meth c cc nL rt own) (hno : ∀ z ∈ c.exceptionTable.toList, False) (h1 : cells ≤ mz) (h2 : slots ≤ sz) (hex : exN[k]? = some cls) (hc : CL[ci]? = some (cls, T0, 0)) (hH : P H) (hP : va_P (YD Y) CL (ws ++ [(q, .inr (ci, []))]) H) (hS : va_S (AZ Y) s.heap H locs) (hdg : decode cc pc = .ok (.athrow, 1)) :
    W p l e R s m args below meth c H locs cells slots (vx_MQ below Qc (XxP (α := β) Y (.inr k) P) args s mz sz (AZ Y)) (F0 m pc ls (.ref q :: rest)) := by
  obtain ⟨hx, hb, hr, hml, hown, hA, hlocks, hK, hZ⟩ := C0
  obtain ⟨r, g1, cell, q1, q2, q3, -⟩ := hP ws.length (q, .inr (ci, [])) (by simp)
  refine vx_athrow hx hb hdg (vx_out (E := cls) (fun z hz => (hno z hz).elim) hlocks q1 (by rw [q3]) (by rw [q2]; exact (hK.k.1 ci _ hc).2.1) (fun t2 ht2 _ => ⟨k, rfl, ⟨hex, by rw [ht2]; exact hH⟩, hS.F ht2⟩) hS.2.2 h1 h2)
theorem HS.push {Y : LY} {M : Mem} {H : Heap} (h : HS Y M H) : ∃ ws : va_W, va_P (YD Y) CL ws H ∧ va_D (AZ Y) ws ∧ ∀ (z : Nat × va_E) (H1 : Heap), va_P (YD Y) CL (ws ++ [z]) H1 → va_D (AZ Y) (ws ++ [z]) → HS Y M H1 := by
  obtain ⟨q9, hi, ws, hP, hD, hw⟩ := h
  exact ⟨ws, hP, hD, fun z H1 hP1 hD1 => ⟨q9, hi, _, hP1, hD1, fun a i hai => List.mem_append_left _ (hw a i hai)⟩⟩
theorem hx_thr0 (C0 : BE Y p s m args meth c cc nL rt RX7) (hl9 : l.stackTraces = false) (hno : ∀ z ∈ c.exceptionTable.toList, False) {M : Mem} (hH : HS Y M H) (hS : va_S (AZ Y) s.heap H locs) (hsz : ls.size = nL) {is : Nat} {text : String} (ht : ("RiverParcelService", is, text) ∈ xTab) (d0 : decode cc pc = .ok (.new 345, 3)) (d3 : decode cc (pc + 3) = .ok (.dup, 1)) (d4 : decode cc (pc + 4) = .ok (.ldc is, 2)) (d6 : decode cc (pc + 6) = .ok (.invokespecial 349, 3)) (d9 : decode cc (pc + 9) = .ok (.athrow, 1))
    (hR : 5 < R.frames ∧ (rest.map fun v => v.category).sum + 82 ≤ R.locals ∧ cells + 1 ≤ R.cells ∧ slots + 6 ≤ R.slots) (h1 : cells + 1 ≤ mz) (h2 : slots + 6 ≤ sz) :
    W p l e R s m args below meth c H locs cells slots (vx_MQ below Qc (Xx (α := β) Y (.inr 0) M) args s mz sz (AZ Y)) (F0 m pc ls rest) := by
  obtain ⟨hx, hb, hr, hml, hown, hA, hlocks, hK, hZ⟩ := id C0
  obtain ⟨ws, hP, hD, back⟩ := hH.push
  obtain ⟨sa, hstr⟩ := hK.x _ ht
  exact vx_makeS (own := RX7) (cls := "java/lang/IndexOutOfBoundsException") (names := ["java/lang/RuntimeException", "java/lang/Exception"]) (A := AZ Y) hx hb hl9 hown (by decide +kernel) (by decide +kernel) (hA _ zt_404) (hA _ zt_17) hstr (xa_0 hA hK) xg_0 hK.u hK.n hS (by rw [hml]; exact hsz) d0 d3 d4 d6 hK.k hP hD (fun q hq => Nat.le_trans hZ hq) (show CL[13]? = some ("java/lang/IndexOutOfBoundsException", TXE, 0) from rfl) hR.1 hR.2.1 hR.2.2.1 hR.2.2.2
    (fun q H1 hP1 hD1 hS1 => hx_leave C0 hno h1 h2 rfl (show CL[13]? = some ("java/lang/IndexOutOfBoundsException", TXE, 0) from rfl) (back _ _ hP1 hD1) hP1 hS1 d9)
theorem hx_thr0w (C0 : BE Y p s m args meth c cc nL rt RX7) (hl9 : l.stackTraces = false) (hno : ∀ z ∈ c.exceptionTable.toList, False) {M : Mem} (hH : HS Y M H) (hS : va_S (AZ Y) s.heap H locs) (hsz : ls.size = nL) {is : Nat} {text : String} (ht : ("RiverParcelService", is, text) ∈ xTab) (d0 : decode cc pc = .ok (.new 345, 3)) (d3 : decode cc (pc + 3) = .ok (.dup, 1)) (d4 : decode cc (pc + 4) = .ok (.ldc_w is, 3)) (d6 : decode cc (pc + 7) = .ok (.invokespecial 349, 3)) (d9 : decode cc (pc + 10) = .ok (.athrow, 1))
    (hR : 5 < R.frames ∧ (rest.map fun v => v.category).sum + 82 ≤ R.locals ∧ cells + 1 ≤ R.cells ∧ slots + 6 ≤ R.slots) (h1 : cells + 1 ≤ mz) (h2 : slots + 6 ≤ sz) :
    W p l e R s m args below meth c H locs cells slots (vx_MQ below Qc (Xx (α := β) Y (.inr 0) M) args s mz sz (AZ Y)) (F0 m pc ls rest) := by
  obtain ⟨hx, hb, hr, hml, hown, hA, hlocks, hK, hZ⟩ := id C0
  obtain ⟨ws, hP, hD, back⟩ := hH.push
  obtain ⟨sa, hstr⟩ := hK.x _ ht
  exact vx_makeSW (own := RX7) (cls := "java/lang/IndexOutOfBoundsException") (names := ["java/lang/RuntimeException", "java/lang/Exception"]) (A := AZ Y) hx hb hl9 hown (by decide +kernel) (by decide +kernel) (hA _ zt_404) (hA _ zt_17) hstr (xa_0 hA hK) xg_0 hK.u hK.n hS (by rw [hml]; exact hsz) d0 d3 d4 d6 hK.k hP hD (fun q hq => Nat.le_trans hZ hq) (show CL[13]? = some ("java/lang/IndexOutOfBoundsException", TXE, 0) from rfl) hR.1 hR.2.1 hR.2.2.1 hR.2.2.2
    (fun q H1 hP1 hD1 hS1 => hx_leave C0 hno h1 h2 rfl (show CL[13]? = some ("java/lang/IndexOutOfBoundsException", TXE, 0) from rfl) (back _ _ hP1 hD1) hP1 hS1 d9)
theorem hx_thr1 (C0 : BE Y p s m args meth c cc nL rt RX7) (hl9 : l.stackTraces = false) (hno : ∀ z ∈ c.exceptionTable.toList, False) {M : Mem} (hH : HS Y M H) (hS : va_S (AZ Y) s.heap H locs) (hsz : ls.size = nL) {is : Nat} {text : String} (ht : ("RiverParcelService", is, text) ∈ xTab) (d0 : decode cc pc = .ok (.new 293, 3)) (d3 : decode cc (pc + 3) = .ok (.dup, 1)) (d4 : decode cc (pc + 4) = .ok (.ldc is, 2)) (d6 : decode cc (pc + 6) = .ok (.invokespecial 297, 3)) (d9 : decode cc (pc + 9) = .ok (.athrow, 1))
    (hR : 5 < R.frames ∧ (rest.map fun v => v.category).sum + 82 ≤ R.locals ∧ cells + 1 ≤ R.cells ∧ slots + 6 ≤ R.slots) (h1 : cells + 1 ≤ mz) (h2 : slots + 6 ≤ sz) :
    W p l e R s m args below meth c H locs cells slots (vx_MQ below Qc (Xx (α := β) Y (.inr 1) M) args s mz sz (AZ Y)) (F0 m pc ls rest) := by
  obtain ⟨hx, hb, hr, hml, hown, hA, hlocks, hK, hZ⟩ := id C0
  obtain ⟨ws, hP, hD, back⟩ := hH.push
  obtain ⟨sa, hstr⟩ := hK.x _ ht
  exact vx_makeS (own := RX7) (cls := "java/lang/IllegalArgumentException") (names := ["java/lang/RuntimeException", "java/lang/Exception"]) (A := AZ Y) hx hb hl9 hown (by decide +kernel) (by decide +kernel) (hA _ zt_475) (hA _ zt_18) hstr (xa_1 hA hK) xg_1 hK.u hK.n hS (by rw [hml]; exact hsz) d0 d3 d4 d6 hK.k hP hD (fun q hq => Nat.le_trans hZ hq) (show CL[14]? = some ("java/lang/IllegalArgumentException", TXE, 0) from rfl) hR.1 hR.2.1 hR.2.2.1 hR.2.2.2
    (fun q H1 hP1 hD1 hS1 => hx_leave C0 hno h1 h2 rfl (show CL[14]? = some ("java/lang/IllegalArgumentException", TXE, 0) from rfl) (back _ _ hP1 hD1) hP1 hS1 d9)
theorem hx_thr1w (C0 : BE Y p s m args meth c cc nL rt RX7) (hl9 : l.stackTraces = false) (hno : ∀ z ∈ c.exceptionTable.toList, False) {M : Mem} (hH : HS Y M H) (hS : va_S (AZ Y) s.heap H locs) (hsz : ls.size = nL) {is : Nat} {text : String} (ht : ("RiverParcelService", is, text) ∈ xTab) (d0 : decode cc pc = .ok (.new 293, 3)) (d3 : decode cc (pc + 3) = .ok (.dup, 1)) (d4 : decode cc (pc + 4) = .ok (.ldc_w is, 3)) (d6 : decode cc (pc + 7) = .ok (.invokespecial 297, 3)) (d9 : decode cc (pc + 10) = .ok (.athrow, 1))
    (hR : 5 < R.frames ∧ (rest.map fun v => v.category).sum + 82 ≤ R.locals ∧ cells + 1 ≤ R.cells ∧ slots + 6 ≤ R.slots) (h1 : cells + 1 ≤ mz) (h2 : slots + 6 ≤ sz) :
    W p l e R s m args below meth c H locs cells slots (vx_MQ below Qc (Xx (α := β) Y (.inr 1) M) args s mz sz (AZ Y)) (F0 m pc ls rest) := by
  obtain ⟨hx, hb, hr, hml, hown, hA, hlocks, hK, hZ⟩ := id C0
  obtain ⟨ws, hP, hD, back⟩ := hH.push
  obtain ⟨sa, hstr⟩ := hK.x _ ht
  exact vx_makeSW (own := RX7) (cls := "java/lang/IllegalArgumentException") (names := ["java/lang/RuntimeException", "java/lang/Exception"]) (A := AZ Y) hx hb hl9 hown (by decide +kernel) (by decide +kernel) (hA _ zt_475) (hA _ zt_18) hstr (xa_1 hA hK) xg_1 hK.u hK.n hS (by rw [hml]; exact hsz) d0 d3 d4 d6 hK.k hP hD (fun q hq => Nat.le_trans hZ hq) (show CL[14]? = some ("java/lang/IllegalArgumentException", TXE, 0) from rfl) hR.1 hR.2.1 hR.2.2.1 hR.2.2.2
    (fun q H1 hP1 hD1 hS1 => hx_leave C0 hno h1 h2 rfl (show CL[14]? = some ("java/lang/IllegalArgumentException", TXE, 0) from rfl) (back _ _ hP1 hD1) hP1 hS1 d9)
theorem hx_thr2 (C0 : BE Y p s m args meth c cc nL rt RX7) (hl9 : l.stackTraces = false) (hno : ∀ z ∈ c.exceptionTable.toList, False) {M : Mem} (hH : HS Y M H) (hS : va_S (AZ Y) s.heap H locs) (hsz : ls.size = nL) {is : Nat} {text : String} (ht : ("RiverParcelService", is, text) ∈ xTab) (d0 : decode cc pc = .ok (.new 300, 3)) (d3 : decode cc (pc + 3) = .ok (.dup, 1)) (d4 : decode cc (pc + 4) = .ok (.ldc is, 2)) (d6 : decode cc (pc + 6) = .ok (.invokespecial 304, 3)) (d9 : decode cc (pc + 9) = .ok (.athrow, 1))
    (hR : 5 < R.frames ∧ (rest.map fun v => v.category).sum + 82 ≤ R.locals ∧ cells + 1 ≤ R.cells ∧ slots + 6 ≤ R.slots) (h1 : cells + 1 ≤ mz) (h2 : slots + 6 ≤ sz) :
    W p l e R s m args below meth c H locs cells slots (vx_MQ below Qc (Xx (α := β) Y (.inr 2) M) args s mz sz (AZ Y)) (F0 m pc ls rest) := by
  obtain ⟨hx, hb, hr, hml, hown, hA, hlocks, hK, hZ⟩ := id C0
  obtain ⟨ws, hP, hD, back⟩ := hH.push
  obtain ⟨sa, hstr⟩ := hK.x _ ht
  exact vx_makeS (own := RX7) (cls := "java/lang/IllegalStateException") (names := ["java/lang/RuntimeException", "java/lang/Exception"]) (A := AZ Y) hx hb hl9 hown (by decide +kernel) (by decide +kernel) (hA _ zt_491) (hA _ zt_19) hstr (xa_2 hA hK) xg_2 hK.u hK.n hS (by rw [hml]; exact hsz) d0 d3 d4 d6 hK.k hP hD (fun q hq => Nat.le_trans hZ hq) (show CL[15]? = some ("java/lang/IllegalStateException", TXE, 0) from rfl) hR.1 hR.2.1 hR.2.2.1 hR.2.2.2
    (fun q H1 hP1 hD1 hS1 => hx_leave C0 hno h1 h2 rfl (show CL[15]? = some ("java/lang/IllegalStateException", TXE, 0) from rfl) (back _ _ hP1 hD1) hP1 hS1 d9)
theorem hx_thr2w (C0 : BE Y p s m args meth c cc nL rt RX7) (hl9 : l.stackTraces = false) (hno : ∀ z ∈ c.exceptionTable.toList, False) {M : Mem} (hH : HS Y M H) (hS : va_S (AZ Y) s.heap H locs) (hsz : ls.size = nL) {is : Nat} {text : String} (ht : ("RiverParcelService", is, text) ∈ xTab) (d0 : decode cc pc = .ok (.new 300, 3)) (d3 : decode cc (pc + 3) = .ok (.dup, 1)) (d4 : decode cc (pc + 4) = .ok (.ldc_w is, 3)) (d6 : decode cc (pc + 7) = .ok (.invokespecial 304, 3)) (d9 : decode cc (pc + 10) = .ok (.athrow, 1))
    (hR : 5 < R.frames ∧ (rest.map fun v => v.category).sum + 82 ≤ R.locals ∧ cells + 1 ≤ R.cells ∧ slots + 6 ≤ R.slots) (h1 : cells + 1 ≤ mz) (h2 : slots + 6 ≤ sz) :
    W p l e R s m args below meth c H locs cells slots (vx_MQ below Qc (Xx (α := β) Y (.inr 2) M) args s mz sz (AZ Y)) (F0 m pc ls rest) := by
  obtain ⟨hx, hb, hr, hml, hown, hA, hlocks, hK, hZ⟩ := id C0
  obtain ⟨ws, hP, hD, back⟩ := hH.push
  obtain ⟨sa, hstr⟩ := hK.x _ ht
  exact vx_makeSW (own := RX7) (cls := "java/lang/IllegalStateException") (names := ["java/lang/RuntimeException", "java/lang/Exception"]) (A := AZ Y) hx hb hl9 hown (by decide +kernel) (by decide +kernel) (hA _ zt_491) (hA _ zt_19) hstr (xa_2 hA hK) xg_2 hK.u hK.n hS (by rw [hml]; exact hsz) d0 d3 d4 d6 hK.k hP hD (fun q hq => Nat.le_trans hZ hq) (show CL[15]? = some ("java/lang/IllegalStateException", TXE, 0) from rfl) hR.1 hR.2.1 hR.2.2.1 hR.2.2.2
    (fun q H1 hP1 hD1 hS1 => hx_leave C0 hno h1 h2 rfl (show CL[15]? = some ("java/lang/IllegalStateException", TXE, 0) from rfl) (back _ _ hP1 hD1) hP1 hS1 d9)
theorem hx_thr3 (C0 : BE Y p s m args meth c cc nL rt RX7) (hl9 : l.stackTraces = false) (hno : ∀ z ∈ c.exceptionTable.toList, False) {M : Mem} (hH : HS Y M H) (hS : va_S (AZ Y) s.heap H locs) (hsz : ls.size = nL) {is : Nat} {text : String} (ht : ("RiverParcelService", is, text) ∈ xTab) (d0 : decode cc pc = .ok (.new 120, 3)) (d3 : decode cc (pc + 3) = .ok (.dup, 1)) (d4 : decode cc (pc + 4) = .ok (.ldc is, 2)) (d6 : decode cc (pc + 6) = .ok (.invokespecial 124, 3)) (d9 : decode cc (pc + 9) = .ok (.athrow, 1))
    (hR : 5 < R.frames ∧ (rest.map fun v => v.category).sum + 82 ≤ R.locals ∧ cells + 1 ≤ R.cells ∧ slots + 6 ≤ R.slots) (h1 : cells + 1 ≤ mz) (h2 : slots + 6 ≤ sz) :
    W p l e R s m args below meth c H locs cells slots (vx_MQ below Qc (Xx (α := β) Y (.inr 3) M) args s mz sz (AZ Y)) (F0 m pc ls rest) := by
  obtain ⟨hx, hb, hr, hml, hown, hA, hlocks, hK, hZ⟩ := id C0
  obtain ⟨ws, hP, hD, back⟩ := hH.push
  obtain ⟨sa, hstr⟩ := hK.x _ ht
  exact vx_makeN (own := RX7) (cls := "java/util/NoSuchElementException") (Y9 := "java/lang/RuntimeException") (r9 := ["java/lang/Exception"]) (A := AZ Y) hx hb hl9 hown (by decide +kernel) (by decide +kernel) (hA _ zt_507) (hA _ zt_20) hstr (xa_3 hA hK) xg_3 hK.u hK.n hS (by rw [hml]; exact hsz) d0 d3 d4 d6 hK.k hP hD (fun q hq => Nat.le_trans hZ hq) (show CL[16]? = some ("java/util/NoSuchElementException", TXE, 0) from rfl) hR.1 hR.2.1 hR.2.2.1 hR.2.2.2
    (fun q H1 hP1 hD1 hS1 => hx_leave C0 hno h1 h2 rfl (show CL[16]? = some ("java/util/NoSuchElementException", TXE, 0) from rfl) (back _ _ hP1 hD1) hP1 hS1 d9)
theorem hx_thr3w (C0 : BE Y p s m args meth c cc nL rt RX7) (hl9 : l.stackTraces = false) (hno : ∀ z ∈ c.exceptionTable.toList, False) {M : Mem} (hH : HS Y M H) (hS : va_S (AZ Y) s.heap H locs) (hsz : ls.size = nL) {is : Nat} {text : String} (ht : ("RiverParcelService", is, text) ∈ xTab) (d0 : decode cc pc = .ok (.new 120, 3)) (d3 : decode cc (pc + 3) = .ok (.dup, 1)) (d4 : decode cc (pc + 4) = .ok (.ldc_w is, 3)) (d6 : decode cc (pc + 7) = .ok (.invokespecial 124, 3)) (d9 : decode cc (pc + 10) = .ok (.athrow, 1))
    (hR : 5 < R.frames ∧ (rest.map fun v => v.category).sum + 82 ≤ R.locals ∧ cells + 1 ≤ R.cells ∧ slots + 6 ≤ R.slots) (h1 : cells + 1 ≤ mz) (h2 : slots + 6 ≤ sz) :
    W p l e R s m args below meth c H locs cells slots (vx_MQ below Qc (Xx (α := β) Y (.inr 3) M) args s mz sz (AZ Y)) (F0 m pc ls rest) := by
  obtain ⟨hx, hb, hr, hml, hown, hA, hlocks, hK, hZ⟩ := id C0
  obtain ⟨ws, hP, hD, back⟩ := hH.push
  obtain ⟨sa, hstr⟩ := hK.x _ ht
  exact vx_makeNW (own := RX7) (cls := "java/util/NoSuchElementException") (Y9 := "java/lang/RuntimeException") (r9 := ["java/lang/Exception"]) (A := AZ Y) hx hb hl9 hown (by decide +kernel) (by decide +kernel) (hA _ zt_507) (hA _ zt_20) hstr (xa_3 hA hK) xg_3 hK.u hK.n hS (by rw [hml]; exact hsz) d0 d3 d4 d6 hK.k hP hD (fun q hq => Nat.le_trans hZ hq) (show CL[16]? = some ("java/util/NoSuchElementException", TXE, 0) from rfl) hR.1 hR.2.1 hR.2.2.1 hR.2.2.2
    (fun q H1 hP1 hD1 hS1 => hx_leave C0 hno h1 h2 rfl (show CL[16]? = some ("java/util/NoSuchElementException", TXE, 0) from rfl) (back _ _ hP1 hD1) hP1 hS1 d9)
theorem hx_thr4 (C0 : BE Y p s m args meth c cc nL rt RX7) (hl9 : l.stackTraces = false) (hno : ∀ z ∈ c.exceptionTable.toList, False) {M : Mem} (hH : HS Y M H) (hS : va_S (AZ Y) s.heap H locs) (hsz : ls.size = nL) {is : Nat} {text : String} (ht : ("RiverParcelService", is, text) ∈ xTab) (d0 : decode cc pc = .ok (.new 255, 3)) (d3 : decode cc (pc + 3) = .ok (.dup, 1)) (d4 : decode cc (pc + 4) = .ok (.ldc is, 2)) (d6 : decode cc (pc + 6) = .ok (.invokespecial 259, 3)) (d9 : decode cc (pc + 9) = .ok (.athrow, 1))
    (hR : 5 < R.frames ∧ (rest.map fun v => v.category).sum + 82 ≤ R.locals ∧ cells + 1 ≤ R.cells ∧ slots + 6 ≤ R.slots) (h1 : cells + 1 ≤ mz) (h2 : slots + 6 ≤ sz) :
    W p l e R s m args below meth c H locs cells slots (vx_MQ below Qc (Xx (α := β) Y (.inr 4) M) args s mz sz (AZ Y)) (F0 m pc ls rest) := by
  obtain ⟨hx, hb, hr, hml, hown, hA, hlocks, hK, hZ⟩ := id C0
  obtain ⟨ws, hP, hD, back⟩ := hH.push
  obtain ⟨sa, hstr⟩ := hK.x _ ht
  exact vx_makeS (own := RX7) (cls := "java/lang/ArithmeticException") (names := ["java/lang/RuntimeException", "java/lang/Exception"]) (A := AZ Y) hx hb hl9 hown (by decide +kernel) (by decide +kernel) (hA _ zt_1082) (hA _ zt_23) hstr (xa_4 hA hK) xg_4 hK.u hK.n hS (by rw [hml]; exact hsz) d0 d3 d4 d6 hK.k hP hD (fun q hq => Nat.le_trans hZ hq) (show CL[17]? = some ("java/lang/ArithmeticException", TXE, 0) from rfl) hR.1 hR.2.1 hR.2.2.1 hR.2.2.2
    (fun q H1 hP1 hD1 hS1 => hx_leave C0 hno h1 h2 rfl (show CL[17]? = some ("java/lang/ArithmeticException", TXE, 0) from rfl) (back _ _ hP1 hD1) hP1 hS1 d9)
theorem hx_thr4w (C0 : BE Y p s m args meth c cc nL rt RX7) (hl9 : l.stackTraces = false) (hno : ∀ z ∈ c.exceptionTable.toList, False) {M : Mem} (hH : HS Y M H) (hS : va_S (AZ Y) s.heap H locs) (hsz : ls.size = nL) {is : Nat} {text : String} (ht : ("RiverParcelService", is, text) ∈ xTab) (d0 : decode cc pc = .ok (.new 255, 3)) (d3 : decode cc (pc + 3) = .ok (.dup, 1)) (d4 : decode cc (pc + 4) = .ok (.ldc_w is, 3)) (d6 : decode cc (pc + 7) = .ok (.invokespecial 259, 3)) (d9 : decode cc (pc + 10) = .ok (.athrow, 1))
    (hR : 5 < R.frames ∧ (rest.map fun v => v.category).sum + 82 ≤ R.locals ∧ cells + 1 ≤ R.cells ∧ slots + 6 ≤ R.slots) (h1 : cells + 1 ≤ mz) (h2 : slots + 6 ≤ sz) :
    W p l e R s m args below meth c H locs cells slots (vx_MQ below Qc (Xx (α := β) Y (.inr 4) M) args s mz sz (AZ Y)) (F0 m pc ls rest) := by
  obtain ⟨hx, hb, hr, hml, hown, hA, hlocks, hK, hZ⟩ := id C0
  obtain ⟨ws, hP, hD, back⟩ := hH.push
  obtain ⟨sa, hstr⟩ := hK.x _ ht
  exact vx_makeSW (own := RX7) (cls := "java/lang/ArithmeticException") (names := ["java/lang/RuntimeException", "java/lang/Exception"]) (A := AZ Y) hx hb hl9 hown (by decide +kernel) (by decide +kernel) (hA _ zt_1082) (hA _ zt_23) hstr (xa_4 hA hK) xg_4 hK.u hK.n hS (by rw [hml]; exact hsz) d0 d3 d4 d6 hK.k hP hD (fun q hq => Nat.le_trans hZ hq) (show CL[17]? = some ("java/lang/ArithmeticException", TXE, 0) from rfl) hR.1 hR.2.1 hR.2.2.1 hR.2.2.2
    (fun q H1 hP1 hD1 hS1 => hx_leave C0 hno h1 h2 rfl (show CL[17]? = some ("java/lang/ArithmeticException", TXE, 0) from rfl) (back _ _ hP1 hD1) hP1 hS1 d9)
end RX
