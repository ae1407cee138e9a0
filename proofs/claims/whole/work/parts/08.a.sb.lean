/-! the StringBuilder with its bytes at q; String constants; the JDK's methods that are walked by hand -/
theorem hg_mk {Y : LY} {M : Mem} {H : Heap} {q : Nat} (h : HS0 (YS Y q) M H) : HS Y M H := ⟨q, h⟩
theorem KK.ys {Y : LY} {U : State} (q : Nat) (h : KK Y U) : KK (YS Y q) U := h
theorem inAJ4 : ∀ w ∈ wsJ40, w ∈ ALLW := fun w h => zz0 ((show ∀ w ∈ wsJ40, w ∈ lw_tbl by decide +kernel) w h) ((show ∀ w ∈ wsJ40, goodWord w = true by decide +kernel) w h)
theorem KK.s0 {Y : LY} {U : State} (h : KK Y U) {i : Nat} (hi : i < 18) : va_OF "java/lang/String" "coder" "B" (.int 0) (YK Y i) (AZ Y) U U.heap := (h.s.1 i hi).2.1
theorem KK.s1 {Y : LY} {U : State} (h : KK Y U) {i : Nat} (hi : i < 18) : va_OF "java/lang/String" "value" "[B" (.ref (YV Y i)) (YK Y i) (AZ Y) U U.heap := (h.s.1 i hi).2.2.1
theorem KK.s2 {Y : LY} {U : State} (h : KK Y U) {i : Nat} (hi : i < 18) : va_T .byte (YV Y i) (cLen.getD i 0) (fun j => .int ((cByt.getD i []).getD j 0)) (AZ Y) U U.heap := (h.s.1 i hi).2.2.2
/-- every text: its length is its byte list's, its bytes are letters -/
theorem c_all : ∀ i, i < 18 → (cLen.getD i 0 = (cByt.getD i []).length ∧ cLen.getD i 0 ≤ 11 ∧ ∀ b ∈ cByt.getD i [], 0 ≤ b ∧ b ≤ 126) := by decide +kernel
theorem c_byte {i : Nat} (hi : i < 18) (k : Nat) : 0 ≤ (cByt.getD i []).getD k 0 ∧ (cByt.getD i []).getD k 0 ≤ 126 := by
  rw [List.getD_eq_getElem?_getD (l := cByt.getD i [])]
  cases h : (cByt.getD i [])[k]? with
  | none => decide
  | some b => exact (c_all i hi).2.2 b (List.mem_of_getElem? h)
theorem b7 {b : Int32} (h : 0 ≤ b ∧ b ≤ 126) : b.toInt8.toInt32 = b ∧ fits .byte (.int b) = true := by
  have h0 : 0 ≤ b.toInt := by have := Int32.le_iff_toInt_le.mp h.1; simpa using this
  have h1 : b.toInt ≤ 126 := by have := Int32.le_iff_toInt_le.mp h.2; simpa using this
  obtain ⟨j, hj, rfl⟩ : ∃ j : Nat, j ≤ 126 ∧ b = nI j := ⟨b.toInt.toNat, by omega, Int32.toInt_inj.mp (by rw [nI_toInt (by omega)]; omega)⟩
  exact (show ∀ j, j ≤ 126 → ((nI j).toInt8.toInt32 = nI j ∧ fits .byte (.int (nI j)) = true) by decide +kernel) j hj
/-- the memory with the bytes of f copied behind the StringBuilder's text -/
def mcp (M : Mem) (f : Nat → Int32) (dp n : Nat) : Mem := fun b j => if b = 34 ∧ j = 0 then va_cpy f (M 34 0) 0 dp n else M b j
/-- .. with a longer array, n bytes of the old one -/
def mgrow (M : Mem) (n N : Nat) : Mem := fun b j => if b = 34 ∧ j = 0 then (fun k => if k = 100000 then nI N else if k < n then M 34 0 k else 0) else M b j
section HG
variable {p : Program} {l : Launch} {e : Env} {R : Room} {s : State} {m : MethodId} {args : Array Value} {below : List Frame} {meth : Method} {c : Code} {H : Heap} {locs : List Loc} {cells slots : Nat} {Q : State → Prop}
variable {cc : ByteArray} {pc : Nat} {ls : Array Slot} {rest : List Value} {H0 : Heap} {Y : LY} {M : Mem} {q : Nat}
theorem hg_at (h : HS0 (YS Y q) M H) : va_P (YD Y) CL [(YA Y 19 0, .inr (1, [.ref q, .int 0, .int (M 19 0 2), .int (M 19 0 3)]))] H := h.at (a := 19) (i := 0) (by decide)
theorem hg_ab (h : HS0 (YS Y q) M H) : va_P (YD Y) CL [(q, .inl (YC Y 7, ix (M 34 0 100000), .inl (bfn (M 34 0))))] H := h.at (a := 34) (i := 0) (by decide)
theorem hg_recv (hK : KK Y s) (hH : HS0 (YS Y q) M H) : ∃ cell : Cell, H[YA Y 19 0]? = some cell ∧ cell.vm.isStatics = false ∧ s.vm.findClass "java/lang/StringBuilder" = some cell.cls := va_recv hK.k (hg_at hH) (show CL[1]? = some (RJ4, TJ4, 4) from rfl) (q0 := 0) rfl
theorem hs_recvS (hK : KK Y s) (hH : HS Y M H) : ∃ cell : Cell, H[YA Y 19 0]? = some cell ∧ cell.vm.isStatics = false ∧ s.vm.findClass "java/lang/StringBuilder" = some cell.cls := by
  obtain ⟨q, hH⟩ := hH
  exact hg_recv hK hH
theorem hg_get (hexec : p.tables.exec = Jvm.exec) (hb : c.code = cc) {own ref : String} {index : Nat} (hA : ∀ w ∈ ALLW, w.before args s = true) (hown : s.vm.findClass own = some m.cls) (hK : KK Y s) (hH : HS0 (YS Y q) M H) (k : Nat) (hk : k < 4) (hlink : (Cond.fieldLink own index ref (TJ4 k).2.1 (TJ4 k).2.2.1).before args s = true) (href : ref = (TJ4 k).1) {v : Value} (hv : ([.ref q, .int 0, .int (M 19 0 2), .int (M 19 0 3)] : List Value)[k]? = some v) (hdg : decode cc pc = .ok (.getfield index, 3))
    (kk : W p l e R s m args below meth c H locs cells slots Q (F0 m (pc + 3) ls (v :: rest))) : W p l e R s m args below meth c H locs cells slots Q (F0 m pc ls (.ref (YA Y 19 0) :: rest)) :=
  va_get hexec hb hA inAJ4 hown hK.k (hg_at hH) 0 rfl (show CL[1]? = some (RJ4, TJ4, 4) from rfl) k hk hlink (fun x hx => by rw [href]; exact hx) hv hdg kk
theorem hg_put (hexec : p.tables.exec = Jvm.exec) (hb : c.code = cc) {own ref : String} {index : Nat} (hA : ∀ w ∈ ALLW, w.before args s = true) (hown : s.vm.findClass own = some m.cls) (hK : KK Y s) (hH : HS0 (YS Y q) M H) (hS0 : va_S (AZ Y) H0 H locs) {v : Int32} (hlink : (Cond.fieldLink own index ref (TJ4 3).2.1 (TJ4 3).2.2.1).before args s = true) (href : ref = (TJ4 3).1) (hdg : decode cc pc = .ok (.putfield index, 3))
    (kk : ∀ (H1 : Heap) (locs1 : List Loc), HS0 (YS Y q) (mu M 19 0 3 v) H1 → va_S (AZ Y) H0 H1 locs1 → W p l e R s m args below meth c H1 locs1 cells slots Q (F0 m (pc + 3) ls rest)) : W p l e R s m args below meth c H locs cells slots Q (F0 m pc ls (.int v :: .ref (YA Y 19 0) :: rest)) :=
  h0_put (Y := YS Y q) hexec hb hA inAJ4 tyJ4 tyJ4_ok nmJ4 hown (hK.ys q) hH hS0 19 0 (by decide) 1 rfl rfl 3 (by decide) hlink href rfl (by decide +kernel) (Nat.le_of_ble_eq_true rfl) rfl hdg kk
theorem hg_putz (hexec : p.tables.exec = Jvm.exec) (hb : c.code = cc) {own ref : String} {index : Nat} (hA : ∀ w ∈ ALLW, w.before args s = true) (hown : s.vm.findClass own = some m.cls) (hK : KK Y s) (hH : HS0 (YS Y q) M H) (hS0 : va_S (AZ Y) H0 H locs) {v : Int32} (hlink : (Cond.fieldLink own index ref (TJ4 2).2.1 (TJ4 2).2.2.1).before args s = true) (href : ref = (TJ4 2).1) (hv : isB v) (hdg : decode cc pc = .ok (.putfield index, 3))
    (kk : ∀ (H1 : Heap) (locs1 : List Loc), HS0 (YS Y q) (mu M 19 0 2 v) H1 → va_S (AZ Y) H0 H1 locs1 → W p l e R s m args below meth c H1 locs1 cells slots Q (F0 m (pc + 3) ls rest)) : W p l e R s m args below meth c H locs cells slots Q (F0 m pc ls (.int v :: .ref (YA Y 19 0) :: rest)) :=
  h0_putz (Y := YS Y q) hexec hb hA inAJ4 tyJ4 tyJ4_ok nmJ4 hown (hK.ys q) hH hS0 19 0 (by decide) 1 rfl rfl 2 (by decide) hlink href rfl (by decide +kernel) hv (Nat.le_of_ble_eq_true rfl) rfl hdg kk
theorem hg_alen (hexec : p.tables.exec = Jvm.exec) (hb : c.code = cc) (hK : KK Y s) (hH : HS0 (YS Y q) M H) (hdg : decode cc pc = .ok (.arraylength, 1))
    (kk : W p l e R s m args below meth c H locs cells slots Q (F0 m (pc + 1) ls (.int (nI (ix (M 34 0 100000))) :: rest))) : W p l e R s m args below meth c H locs cells slots Q (F0 m pc ls (.ref q :: rest)) :=
  va_alen hexec hb hK.k (hg_ab hH) 0 7 rfl rfl rfl hdg kk
theorem hg_bald (hexec : p.tables.exec = Jvm.exec) (hb : c.code = cc) (hK : KK Y s) (hH : HS0 (YS Y q) M H) {x : Int32} (hin : vp_in x (ix (M 34 0 100000))) (hcap : ix (M 34 0 100000) ≤ 100000) (hdg : decode cc pc = .ok (.baload, 1))
    (kk : W p l e R s m args below meth c H locs cells slots Q (F0 m (pc + 1) ls (.int ((M 34 0 (ix x)).toInt8.toInt32) :: rest))) : W p l e R s m args below meth c H locs cells slots Q (F0 m pc ls (.int x :: .ref q :: rest)) := by
  refine va_bald hexec hb hK.k (hg_ab hH) 0 7 rfl rfl hin hdg ?_
  have hlt := vin_lt hin
  rw [show bfn (M 34 0) x.toNatClampNeg = (M 34 0 (ix x)).toInt8.toInt32 from if_neg (by show ix x ≠ 100000; omega)]
  exact kk
theorem hg_bast (hexec : p.tables.exec = Jvm.exec) (hb : c.code = cc) (hK : KK Y s) (hH : HS0 (YS Y q) M H) (hS0 : va_S (AZ Y) H0 H locs) {x v : Int32} (hin : vp_in x (ix (M 34 0 100000))) (hcap : ix (M 34 0 100000) ≤ 100000) (hdg : decode cc pc = .ok (.bastore, 1))
    (kk : ∀ (H1 : Heap) (locs1 : List Loc), HS0 (YS Y q) (mu M 34 0 (ix x) v) H1 → va_S (AZ Y) H0 H1 locs1 → W p l e R s m args below meth c H1 locs1 cells slots Q (F0 m (pc + 1) ls rest)) : W p l e R s m args below meth c H locs cells slots Q (F0 m pc ls (.int v :: .int x :: .ref q :: rest)) := by
  obtain ⟨ws, q0, hP, hD, hq, -, back⟩ := hH.put (a := 34) (i := 0) (by decide)
  have hlt := vin_lt hin
  have hP : va_P (YD Y) CL ws H := hP
  have hD : va_D (AZ Y) ws := hD
  have hq : ws[q0]? = some (q, .inl (YC Y 7, ix (M 34 0 100000), .inl (bfn (M 34 0)))) := hq
  refine va_bast hexec hb hK.k hP hD hS0 q0 7 hq rfl hin hdg (fun H1 locs1 hP1 hD1 hS1 => kk H1 locs1 (back (mu M 34 0 (ix x) v) _ H1 (fun b j hb => mu_ne M _ _ hb) ?_ hP1 hD1) hS1)
  rw [mu_row]
  show (.inl (YC Y 7, ix (M 34 0 100000), .inl (upd (bfn (M 34 0)) (ix x) (vp_nar .byte v))) : va_E) = .inl (YC Y 7, ix (upd (M 34 0) (ix x) v 100000), .inl (bfn (upd (M 34 0) (ix x) v)))
  have e1 : upd (M 34 0) (ix x) v 100000 = M 34 0 100000 := by
    unfold upd
    exact if_neg (by omega)
  have e2 : upd (bfn (M 34 0)) (ix x) (vp_nar .byte v) = bfn (upd (M 34 0) (ix x) v) := by
    funext k
    unfold upd bfn
    by_cases hk : k = ix x
    · have h9 : ix x ≠ 100000 := by omega
      simp [hk, vp_nar, narrow, h9]
    · simp [hk]
  rw [e1, e2]
/-- the text of a constant copied in -/
theorem hg_copy (hexec : p.tables.exec = Jvm.exec) (hb : c.code = cc) (hml : c.maxLocals = ls.size) {own : String} {index : Nat} (hown : s.vm.findClass own = some m.cls) (hlink : (Cond.methodLink own index arraycopyName).before args s = true) (hnat : (Cond.native arraycopyName).before args s = true) (hstat : (Cond.static arraycopyName).before args s = true) (hini : (Cond.initialized "java/lang/System").before args s = true)
    (hK : KK Y s) (hH : HS0 (YS Y q) M H) (hS0 : va_S (AZ Y) s.heap H locs) {i : Nat} (hi : i < 18) {dp n : Int32} (h2 : ¬ dp < 0) (h3 : ¬ n < 0) (h4 : ix n ≤ cLen.getD i 0) (h5 : ix dp + ix n ≤ ix (M 34 0 100000)) (hcap : ix (M 34 0 100000) ≤ 100000) (hframes : 1 ≤ R.frames) (hlocals : (rest.map fun v => v.category).sum + (nativeFrameWords "java/lang/System" "arraycopy" 5 + 11) ≤ R.locals) (hdg : decode cc pc = .ok (.invokestatic index, 3))
    (kk : ∀ (H1 : Heap) (locs1 : List Loc), HS0 (YS Y q) (mcp M (fun j => (cByt.getD i []).getD j 0) (ix dp) (ix n)) H1 → va_S (AZ Y) s.heap H1 locs1 → W p l e R s m args below meth c H1 locs1 cells slots Q (F0 m (pc + 3) ls rest)) : W p l e R s m args below meth c H locs cells slots Q (F0 m pc ls (.int n :: .int dp :: .ref q :: .int 0 :: .ref (YV Y i) :: rest)) := by
  obtain ⟨ws, q0, hP, hD, hq, -, back⟩ := hH.put (a := 34) (i := 0) (by decide)
  have hP : va_P (YD Y) CL ws H := hP
  have hD : va_D (AZ Y) ws := hD
  have hq : ws[q0]? = some (q, .inl (YC Y 7, ix (M 34 0 100000), .inl (bfn (M 34 0)))) := hq
  refine vk_copyt hexec hb hml hown hlink hnat hstat hini hK.k hP hD hS0 (hK.s2 hi) q0 7 hq rfl (by decide) h2 h3 (by rw [show (0 : Int32).toNatClampNeg = 0 by decide, Nat.zero_add]; exact h4) h5 (fun j _ => (b7 (c_byte hi _)).2) hframes hlocals hdg (fun H1 locs1 hP1 hD1 hS1 => kk H1 locs1 (back (mcp M (fun j => (cByt.getD i []).getD j 0) (ix dp) (ix n)) _ H1 (fun b j hb => if_neg hb) ?_ hP1 hD1) hS1)
  rw [show mcp M (fun j => (cByt.getD i []).getD j 0) (ix dp) (ix n) 34 0 = va_cpy (fun j => (cByt.getD i []).getD j 0) (M 34 0) 0 (ix dp) (ix n) from if_pos ⟨rfl, rfl⟩]
  show (.inl (YC Y 7, ix (M 34 0 100000), .inl (va_cpy (fun j => (cByt.getD i []).getD j 0) (bfn (M 34 0)) 0 (ix dp) (ix n))) : va_E) = .inl (YC Y 7, ix (va_cpy (fun j => (cByt.getD i []).getD j 0) (M 34 0) 0 (ix dp) (ix n) 100000), .inl (bfn (va_cpy (fun j => (cByt.getD i []).getD j 0) (M 34 0) 0 (ix dp) (ix n))))
  have e1 : va_cpy (fun j => (cByt.getD i []).getD j 0) (M 34 0) 0 (ix dp) (ix n) 100000 = M 34 0 100000 := by
    unfold va_cpy
    exact if_neg (by omega)
  have e2 : va_cpy (fun j => (cByt.getD i []).getD j 0) (bfn (M 34 0)) 0 (ix dp) (ix n) = bfn (va_cpy (fun j => (cByt.getD i []).getD j 0) (M 34 0) 0 (ix dp) (ix n)) := by
    funext k
    unfold va_cpy bfn
    dsimp only
    by_cases hk : ix dp ≤ k ∧ k < ix dp + ix n
    · rw [if_pos hk, if_neg (show k ≠ 100000 by omega), if_pos hk, (b7 (c_byte hi _)).1]
    · rw [if_neg hk, if_neg hk]
  rw [e1, e2]
variable {nL : Nat} {rt : Option FieldType} {own : String} {P : Heap → Prop}
variable {y : MethodName} {bytes : ByteArray} {maxL mc ms index n : Nat} {ret : Option FieldType} {rm : Room} {Qc : Array Value → State → Outcome → State → Prop} {As st0 : List Value} {b : Nat} {C : String}
/-- super.m(..) on the StringBuilder -/
abbrev NSU (own : String) (index : Nat) (y : MethodName) (bytes : ByteArray) (maxL : Nat) (ret : Option FieldType) (n : Nat) : Prop :=
  (Cond.methodLink own index y ∈ ALLW ∧ Cond.sameMethod y.cls y.cls y.name y.desc ∈ ALLW ∧ Cond.superclass own y.cls ∈ ALLW ∧ Cond.instanceMethod y ∈ ALLW ∧ Cond.initialized y.cls ∈ ALLW ∧ Cond.code y bytes maxL ret ∈ ALLW) ∧ y.name ≠ "<init>" ∧ (parseMethodDescriptor y.desc).map (fun d => d.parameters.length) = some n
theorem nsu_gi (h : NSU own index y bytes maxL ret n) : GoodIn ALLW (va_wsSU own index y (WS y bytes maxL ret)) := allw_gi fun w hw => by
  obtain ⟨⟨h1, h2, h3, h4, h5, h6⟩, -⟩ := h
  simp only [va_wsSU, WS, List.mem_append, List.mem_cons, List.not_mem_nil, or_false] at hw
  rcases hw with (rfl | rfl | rfl | rfl | rfl) | rfl | hw
  · exact h1
  · exact h2
  · exact h3
  · exact h4
  · exact h5
  · exact h6
  · exact hw
theorem hs_runSU (C0 : BE Y p s m args meth c cc nL rt own) (hH : P H) (hS : va_S (AZ Y) s.heap H locs) (hM : Met l y (WS y bytes maxL ret) rm (PcP Y P (.ref b :: As)) Qc mc ms (AZ Y)) (hn : NSU own index y bytes maxL ret n) (hrm : rm.cells = mc ∧ rm.slots = ms ∧ rm.frames + 1 ≤ R.frames ∧ 8 + (maxL + 11) + rm.locals ≤ R.locals)
    (hrecv : ∃ cell : Cell, H[b]? = some cell ∧ cell.vm.isStatics = false ∧ s.vm.findClass "java/lang/StringBuilder" = some cell.cls) (hl : As.length = n) (hst : st0 = As.reverse ++ .ref b :: rest) (hsz : ls.size = nL) (hroom : (rest.map fun v => v.category).sum ≤ 8) (hf : cells + mc ≤ R.cells ∧ slots + ms ≤ R.slots) (hdg : decode cc pc = .ok (.invokespecial index, 3)) :
    va_Run p l e R s m args below meth c H locs cells slots mc ms (F0 m pc ls st0) rest (Qc (Value.ref b :: As).toArray) (AZ Y) := by
  obtain ⟨hx, hb, hr, hml, hown, hA, hlocks, hK, hZ⟩ := C0
  subst hst
  exact va_runSU (As := As) (rest := rest) (hK.k.1 1 _ (show CL[1]? = some (RJ4, TJ4, 4) from rfl)).2 ⟨hx, hb, hml, hown, hA⟩ hM (va_cwSU n hA (nsu_gi hn) rfl hrm.1 hrm.2.1 hn.2 hrm.2.2) ⟨PcP.blind, hrecv, fun U hU hW => PcP.of hK hZ hS hH hU hW⟩ rfl hl hsz rfl (lv_room hroom) hdg hf
/-- a private or an inherited method of AbstractStringBuilder on the StringBuilder -/
abbrev NU (own : String) (index : Nat) (y : MethodName) (bytes : ByteArray) (maxL : Nat) (ret : Option FieldType) (n : Nat) : Prop :=
  (Cond.methodLink own index y ∈ ALLW ∧ Cond.sameMethod y.cls y.cls y.name y.desc ∈ ALLW ∧ Cond.instanceMethod y ∈ ALLW ∧ Cond.initialized y.cls ∈ ALLW ∧ Cond.code y bytes maxL ret ∈ ALLW) ∧ (y.cls ≠ "java/lang/invoke/MethodHandle" ∧ y.cls ≠ "java/lang/invoke/VarHandle") ∧ (parseMethodDescriptor y.desc).map (fun d => d.parameters.length) = some n
theorem hs_runU (C0 : BE Y p s m args meth c cc nL rt own) (hH : P H) (hS : va_S (AZ Y) s.heap H locs) (hM : Met l y (WS y bytes maxL ret) rm (PcP Y P (.ref b :: As)) Qc mc ms (AZ Y)) (hn : NU own index y bytes maxL ret n) (hsel : (Cond.selects "java/lang/StringBuilder" y y).before args s = true) (hrm : rm.cells = mc ∧ rm.slots = ms ∧ rm.frames + 1 ≤ R.frames ∧ 8 + (maxL + 11) + rm.locals ≤ R.locals)
    (hrecv : ∃ cell : Cell, H[b]? = some cell ∧ cell.vm.isStatics = false ∧ s.vm.findClass "java/lang/StringBuilder" = some cell.cls) (hl : As.length = n) (hst : st0 = As.reverse ++ .ref b :: rest) (hsz : ls.size = nL) (hroom : (rest.map fun v => v.category).sum ≤ 8) (hf : cells + mc ≤ R.cells ∧ slots + ms ≤ R.slots) (hdg : decode cc pc = .ok (.invokevirtual index, 3)) :
    va_Run p l e R s m args below meth c H locs cells slots mc ms (F0 m pc ls st0) rest (Qc (Value.ref b :: As).toArray) (AZ Y) := by
  obtain ⟨hx, hb, hr, hml, hown, hA, hlocks, hK, hZ⟩ := C0
  obtain ⟨⟨h1, h2, h3, h4, h5⟩, hd, hp⟩ := hn
  subst hst
  have hG : GoodIn ALLW (WS y bytes maxL ret) := allw_gi fun w hw => by
    rcases List.mem_cons.mp hw with rfl | hw
    · exact h5
    · exact hw
  exact va_runU (x := y) (y := y) (owner := y.cls) (As := As) (rest := rest) ⟨hx, hb, hml, hown, hA⟩ hM ⟨⟨hrm.1, hrm.2.1, hrm.2.2.1, hrm.2.2.2, pay_in hA hG, List.mem_cons_self⟩, hA _ h5, hA _ h4, hd, fun sig h => by
    rw [h] at hp
    exact (Option.some.inj hp).symm, hA _ h1, hA _ h2, va_Decl.of (hA _ h3) (hA _ h5), hsel, hA _ h3⟩ ⟨PcP.blind, hrecv, fun U hU hW => PcP.of hK hZ hS hH hU hW⟩ rfl hl hsz rfl (lv_room hroom) hdg hf
theorem hs_bret (C0 : BE Y p s m args meth c cc nL (some .byte) own) (hH : P H) (hS : va_S (AZ Y) s.heap H locs) {mc ms : Nat} (h1 : cells ≤ mc) (h2 : slots ≤ ms) {v : Int32} (hv : narrow .byte (.int v) = .int v) (hdg : decode cc pc = .ok (.ireturn, 1)) : W p l e R s m args below meth c H locs cells slots (MQ below (QiP Y v P) args s mc ms (AZ Y)) (F0 m pc ls [.int v]) := by
  obtain ⟨hx, hb, hr, hml, hown, hA, hlocks, hK, hZ⟩ := C0
  exact W.widen h1 h2 (W.zret hx hb hr hv (fun t ht hW => ⟨⟨v, (), rfl, rfl, by subst ht; exact hH⟩, hS.F ht⟩) hS.2.2 hdg)
abbrev QkP (Y : LY) (i : Nat) (P : Heap → Prop) : Array Value → State → Outcome → State → Prop := va_Qq (fun (x : Option Nat) (_ : Unit) => x = some (YK Y i)) (fun _ t => P t.heap) (AZ Y)
theorem hs_kret {C : String} (C0 : BE Y p s m args meth c cc nL (some (.object C)) own) (hH : P H) (hS : va_S (AZ Y) s.heap H locs) {mc ms : Nat} (h1 : cells ≤ mc) (h2 : slots ≤ ms) (i : Nat) (hdg : decode cc pc = .ok (.areturn, 1)) : W p l e R s m args below meth c H locs cells slots (MQ below (QkP Y i P) args s mc ms (AZ Y)) (F0 m pc ls [.ref (YK Y i)]) := by
  obtain ⟨hx, hb, hr, hml, hown, hA, hlocks, hK, hZ⟩ := C0
  exact W.widen h1 h2 (W.aret hx hb hr (Or.inl ⟨_, rfl⟩) (Or.inr ⟨_, rfl⟩) (fun t ht hW => ⟨⟨some (YK Y i), (), rfl, rfl, by subst ht; exact hH⟩, hS.F ht⟩) hS.2.2 hdg)
variable {P1 : Heap → Prop} {a : Array Value}
theorem hs_ck {i : Nat} (hr : va_Run p l e R s m args below meth c H locs cells slots mc ms (F0 m pc ls st0) rest (QkP Y i P1 a) (AZ Y)) (hS : va_S (AZ Y) s.heap H locs) (kk : ∀ (H1 : Heap) (locs1 : List Loc), P1 H1 → va_S (AZ Y) s.heap H1 locs1 → W p l e R s m args below meth c H1 locs1 (cells + mc) (slots + ms) Q (F0 m (pc + 3) ls (.ref (YK Y i) :: rest))) : W p l e R s m args below meth c H locs cells slots Q (F0 m pc ls st0) :=
  va_callq hr hS (fun _ _ h => h) (fun _ h => h) (fun r u t H1 locs1 ht hvm hw hB _ _ hS1 => by subst hw; exact kk H1 locs1 (ht ▸ hB) hS1)
end HG
set_option maxHeartbeats 4000000 in
set_option maxRecDepth 100000 in
theorem c_J3_checkIndex_8e157_n {Y : LY} {l : Launch} {P : Heap → Prop} (a0 a1 : Int32) (h0 : ¬ a0 < 0) (h1 : a0 < a1) : Met l yJ3_checkIndex_8e157 (WS yJ3_checkIndex_8e157 cJ3_checkIndex_8e157 3 (Option.some Jvm.ClassFile.FieldType.int)) { frames := 0, cells := 0, slots := 0, locals := 0 } (PcP Y P [.int a0, .int a1, .null]) (QiP Y a0 P) 0 0 (AZ Y) := by
  refine met_mk (lv := [(0, .int a0), (1, .int a1), (2, .null)]) [.int a0, .int a1, .null] (by decide) rfl rfl (Nat.le_of_ble_eq_true rfl) (fun p e s m below meth c C0 hH ls hl => ?_)
  have hS : va_S (AZ Y) s.heap s.heap [] := va_S.rf
  obtain ⟨hx, hb, hr, hml, hown, hA, hlocks, hK, hZ⟩ := id C0
  refine lv_iload_n hx hb dJ3_checkIndex_8e157_0 rfl (lv_at hl 0 rfl) ?_
  refine lv_if_lt (tgt := 9) hx hb dJ3_checkIndex_8e157_1 (by decide) (fun hc => absurd hc h0) (fun hc => ?_)
  refine lv_iload_n hx hb dJ3_checkIndex_8e157_4 rfl (lv_at hl 0 rfl) ?_
  refine lv_iload_n hx hb dJ3_checkIndex_8e157_5 rfl (lv_at hl 1 rfl) ?_
  refine lv_icmp_lt (tgt := 16) hx hb dJ3_checkIndex_8e157_6 (by decide) (fun hc => ?_) (fun hc => absurd h1 hc)
  refine lv_iload_n hx hb dJ3_checkIndex_8e157_16 rfl (lv_at hl 0 rfl) ?_
  exact hs_iret C0 hH hS (by decide) (by decide) dJ3_checkIndex_8e157_17
set_option maxHeartbeats 4000000 in
set_option maxRecDepth 100000 in
theorem c_J3_checkIndex_8e157_r {Y : LY} {l : Launch} {P : Heap → Prop} (t9 : Nat) (a0 a1 : Int32) (h0 : ¬ a0 < 0) (h1 : a0 < a1) : Met l yJ3_checkIndex_8e157 (WS yJ3_checkIndex_8e157 cJ3_checkIndex_8e157 3 (Option.some Jvm.ClassFile.FieldType.int)) { frames := 0, cells := 0, slots := 0, locals := 0 } (PcP Y P [.int a0, .int a1, (.ref t9)]) (QiP Y a0 P) 0 0 (AZ Y) := by
  refine met_mk (lv := [(0, .int a0), (1, .int a1), (2, (.ref t9))]) [.int a0, .int a1, (.ref t9)] (by decide) rfl rfl (Nat.le_of_ble_eq_true rfl) (fun p e s m below meth c C0 hH ls hl => ?_)
  have hS : va_S (AZ Y) s.heap s.heap [] := va_S.rf
  obtain ⟨hx, hb, hr, hml, hown, hA, hlocks, hK, hZ⟩ := id C0
  refine lv_iload_n hx hb dJ3_checkIndex_8e157_0 rfl (lv_at hl 0 rfl) ?_
  refine lv_if_lt (tgt := 9) hx hb dJ3_checkIndex_8e157_1 (by decide) (fun hc => absurd hc h0) (fun hc => ?_)
  refine lv_iload_n hx hb dJ3_checkIndex_8e157_4 rfl (lv_at hl 0 rfl) ?_
  refine lv_iload_n hx hb dJ3_checkIndex_8e157_5 rfl (lv_at hl 1 rfl) ?_
  refine lv_icmp_lt (tgt := 16) hx hb dJ3_checkIndex_8e157_6 (by decide) (fun hc => ?_) (fun hc => absurd h1 hc)
  refine lv_iload_n hx hb dJ3_checkIndex_8e157_16 rfl (lv_at hl 0 rfl) ?_
  exact hs_iret C0 hH hS (by decide) (by decide) dJ3_checkIndex_8e157_17
def f_J0_checkIndex_df160 (_ : Mem) (a0 a1 : Int32) : Option Unit := if ¬ a0 < 0 ∧ a0 < a1 then some () else none
set_option maxHeartbeats 4000000 in
set_option maxRecDepth 100000 in
theorem c_J0_checkIndex_df160 {Y : LY} {l : Launch} {P : Heap → Prop} (M : Mem) (a0 a1 : Int32) (hf : f_J0_checkIndex_df160 M a0 a1 = some ()) : Met l yJ0_checkIndex_df160 (WS yJ0_checkIndex_df160 cJ0_checkIndex_df160 2 none) { frames := 1, cells := 0, slots := 0, locals := 22 } (PcP Y P [.int a0, .int a1]) (QvP Y P) 0 0 (AZ Y) := by
  have hg : ¬ a0 < 0 ∧ a0 < a1 := by
    by_cases h : ¬ a0 < 0 ∧ a0 < a1
    · exact h
    · rw [f_J0_checkIndex_df160, if_neg h] at hf
      cases hf
  refine met_mk (lv := [(0, .int a0), (1, .int a1)]) [.int a0, .int a1] (by decide) rfl rfl (Nat.le_of_ble_eq_true rfl) (fun p e s m below meth c C0 hH ls hl => ?_)
  have hS : va_S (AZ Y) s.heap s.heap [] := va_S.rf
  obtain ⟨hx, hb, hr, hml, hown, hA, hlocks, hK, hZ⟩ := id C0
  refine lv_iload_n hx hb dJ0_checkIndex_df160_0 rfl (lv_at hl 0 rfl) ?_
  refine lv_iload_n hx hb dJ0_checkIndex_df160_1 rfl (lv_at hl 1 rfl) ?_
  rcases hK.f with hz | ⟨t9, hz⟩
  · refine va_gets hx hb hz hS hown (hA _ zt_1178) (fun _ h => h) dJ0_checkIndex_df160_2 ?_
    refine hs_ci (hs_runS C0 hH hS (n := 3) (As := [.int a0, .int a1, .null]) (rest := []) (c_J3_checkIndex_8e157_n a0 a1 hg.1 hg.2) ⟨⟨zt_1380, zt_1381, zt_28, zt_1382⟩, by decide, by decide, by decide +kernel⟩ ⟨rfl, rfl, Nat.le_of_ble_eq_true rfl, Nat.le_of_ble_eq_true rfl⟩ rfl rfl hl.1 (Nat.le_of_ble_eq_true rfl) ⟨Nat.le_of_ble_eq_true rfl, Nat.le_of_ble_eq_true rfl⟩ dJ0_checkIndex_df160_5) hS (fun H locs hH hS => ?_)
    refine lv_pop hx hb dJ0_checkIndex_df160_8 rfl ?_
    exact hs_vret C0 hH hS (by decide) (by decide) dJ0_checkIndex_df160_9
  · refine va_gets hx hb hz hS hown (hA _ zt_1178) (fun _ h => h) dJ0_checkIndex_df160_2 ?_
    refine hs_ci (hs_runS C0 hH hS (n := 3) (As := [.int a0, .int a1, .ref t9]) (rest := []) (c_J3_checkIndex_8e157_r t9 a0 a1 hg.1 hg.2) ⟨⟨zt_1380, zt_1381, zt_28, zt_1382⟩, by decide, by decide, by decide +kernel⟩ ⟨rfl, rfl, Nat.le_of_ble_eq_true rfl, Nat.le_of_ble_eq_true rfl⟩ rfl rfl hl.1 (Nat.le_of_ble_eq_true rfl) ⟨Nat.le_of_ble_eq_true rfl, Nat.le_of_ble_eq_true rfl⟩ dJ0_checkIndex_df160_5) hS (fun H locs hH hS => ?_)
    refine lv_pop hx hb dJ0_checkIndex_df160_8 rfl ?_
    exact hs_vret C0 hH hS (by decide) (by decide) dJ0_checkIndex_df160_9
set_option maxHeartbeats 4000000 in
set_option maxRecDepth 100000 in
theorem c_J7_copyOf_9075b {Y : LY} {l : Launch} {ws : va_W} {q n k0 : Nat} {g : Nat → Int32} (hq : ws[k0]? = some (q, .inl (YC Y 7, n, .inl g))) (hfit : ∀ i, fits .byte (.int (g i)) = true) {N : Nat} (hn : n < N) (hN : N ≤ 130) : Met l yJ7_copyOf_9075b (WS yJ7_copyOf_9075b cJ7_copyOf_9075b 3 (Option.some (Jvm.ClassFile.FieldType.array Jvm.ClassFile.FieldType.byte))) { frames := 2, cells := 1, slots := 130, locals := 60 } (PcP Y (fun H => va_P (YD Y) CL ws H ∧ va_D (AZ Y) ws) [.ref q, .int (nI N)])
    (va_Qq (fun (r : Option Nat) (u : Nat) => r = some u) (fun u t => va_P (YD Y) CL (ws ++ [(u, .inl (YC Y 7, N, .inl (va_cpy g (fun _ => 0) 0 0 n)))]) t.heap ∧ va_D (AZ Y) (ws ++ [(u, .inl (YC Y 7, N, .inl (va_cpy g (fun _ => 0) 0 0 n)))])) (AZ Y)) 1 130 (AZ Y) := by
  refine met_mk (lv := [(0, .ref q), (1, .int (nI N))]) [.ref q, .int (nI N)] (by decide) rfl rfl (Nat.le_of_ble_eq_true rfl) (fun p e s m below meth c C0 hH ls hl => ?_)
  have hS : va_S (AZ Y) s.heap s.heap [] := va_S.rf
  obtain ⟨hx, hb, hr, hml, hown, hA, hlocks, hK, hZ⟩ := id C0
  obtain ⟨hP, hD⟩ := hH
  have hk0 : k0 < ws.length := (List.getElem?_eq_some_iff.mp hq).1
  refine lv_iload_n hx hb dJ7_copyOf_9075b_0 rfl (lv_at hl 1 rfl) ?_
  refine lv_aload_n hx hb dJ7_copyOf_9075b_1 rfl (lv_at hl 0 rfl) ?_
  refine va_alen hx hb hK.k hP k0 7 hq rfl (v := nI n) rfl dJ7_copyOf_9075b_2 ?_
  refine lv_icmp_ne (tgt := 14) hx hb dJ7_copyOf_9075b_3 (by decide) (fun hc => ?_) (fun hc => absurd ((nI_eq (by omega) (by omega)).mp hc) (by omega))
  refine lv_iload_n hx hb dJ7_copyOf_9075b_14 rfl (lv_at hl 1 rfl) ?_
  refine va_newa (atype := .byte) (ty := .byte) (a0 := (N, .inl (fun _ => 0))) hx hb (hA _ zt_291) rfl hK.k hP hD hS (fun q9 h9 => Nat.le_trans hZ h9) (fun cA => rfl) (nI_pos (by omega)) (nI_clamp (by omega)) (by show N * componentBytes .byte ≤ _; exact Nat.le_trans (Nat.mul_le_mul_right _ hN) (by decide)) (by decide) (by show 0 + N ≤ 130; omega) dJ7_copyOf_9075b_15 (fun u cA H1 hKn hP1 hD1 hS1 => ?_)
  have ecA : cA = YC Y 7 := Option.some.inj ((hKn.2 10 (cA, .byte) rfl).2.symm.trans (hK.k.2 7 (YC Y 7, .byte) rfl).2)
  subst ecA
  refine W.widen (k := 1) (n := 130) (by decide) (by show 0 + N ≤ 130; omega) ?_
  refine lv_astore_n (lv' := [(2, .ref u), (0, .ref q), (1, .int (nI N))]) hx hb dJ7_copyOf_9075b_17 rfl hl (by decide) rfl (fun ls hl => ?_)
  refine lv_aload_n hx hb dJ7_copyOf_9075b_18 rfl (lv_at hl 1 rfl) ?_
  refine lv_iconst (v := 0) hx hb dJ7_copyOf_9075b_19 (by decide) ?_
  refine lv_aload_n hx hb dJ7_copyOf_9075b_20 rfl (lv_at hl 0 rfl) ?_
  refine lv_iconst (v := 0) hx hb dJ7_copyOf_9075b_21 (by decide) ?_
  refine lv_aload_n hx hb dJ7_copyOf_9075b_22 rfl (lv_at hl 1 rfl) ?_
  have hq1 : (ws ++ [(u, .inl (YC Y 7, (N, .inl (fun _ => 0))))])[k0]? = some (q, .inl (YC Y 7, n, .inl g)) := by rw [List.getElem?_append_left hk0]; exact hq
  refine va_alen hx hb hK.k hP1 k0 7 hq1 rfl (v := nI n) rfl dJ7_copyOf_9075b_23 ?_
  refine lv_iload_n hx hb dJ7_copyOf_9075b_24 rfl (lv_at hl 2 rfl) ?_
  refine va_mmin hx hb (by rw [hml]; exact hl.1.symm) hown (hA _ zt_1157) (hA _ zt_613) (hA _ zt_21) (hA _ zt_614) (Nat.le_of_ble_eq_true rfl) (Nat.le_of_ble_eq_true rfl) (Nat.le_of_ble_eq_true rfl) (Nat.le_of_ble_eq_true rfl) dJ7_copyOf_9075b_25 ?_
  rw [show (if nI N < nI n then nI N else nI n) = nI n from if_neg (nI_nlt (by omega) (by omega))]
  have en : (nI n).toNatClampNeg = n := nI_clamp (by omega)
  have e0 : (0 : Int32).toNatClampNeg = 0 := by decide
  refine va_copyi hx hb (by rw [hml]; exact hl.1.symm) hown (hA _ zt_1158) (hA _ zt_1160) (hA _ zt_1159) (hA _ zt_27) hK.k hP1 hD1 hS1 k0 ws.length 7 7 hq1 (show (ws ++ [(u, (.inl (YC Y 7, (N, .inl (fun _ => 0))) : va_E))])[ws.length]? = some (u, .inl (YC Y 7, N, .inl (fun _ => 0))) from by simp) rfl rfl rfl (by decide) (by decide) (nI_pos (by omega)) (by rw [e0, en]; omega) (by rw [e0, en]; omega) (fun i _ => hfit _) (Nat.le_of_ble_eq_true rfl) (Nat.le_of_ble_eq_true rfl) dJ7_copyOf_9075b_28 (fun H2 locs2 hP2 hD2 hS2 => ?_)
  rw [e0, en] at hP2 hD2
  have es : ∀ z : Nat × va_E, (ws ++ [(u, (.inl (YC Y 7, (N, .inl (fun _ => 0))) : va_E))]).set ws.length z = ws ++ [z] := fun z => by simp
  rw [es] at hP2 hD2
  refine lv_aload_n hx hb dJ7_copyOf_9075b_31 rfl (lv_at hl 0 rfl) ?_
  exact W.widen (k := 1) (n := 130) (by decide) (by decide) (W.aret hx hb hr (Or.inr ⟨_, rfl⟩) (Or.inr ⟨_, rfl⟩) (fun t ht hW => ⟨⟨some u, u, rfl, rfl, by subst ht; exact ⟨hP2, hD2⟩⟩, hS2.F ht⟩) hS2.2.2 dJ7_copyOf_9075b_32)
