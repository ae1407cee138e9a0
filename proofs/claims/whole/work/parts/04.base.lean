/-! The memory of all that stands after the constructors: family, instance, slot. What an address holds is read off it. -/
abbrev Mem : Type := Nat → Nat → Nat → Int32
def mu (M : Mem) (a i k : Nat) (v : Int32) : Mem := fun b j => if b = a ∧ j = i then upd (M a i) k v else M b j
theorem mu_row (M : Mem) (a i k : Nat) (v : Int32) : mu M a i k v a i = upd (M a i) k v := if_pos ⟨rfl, rfl⟩
theorem mu_ne (M : Mem) {a i b j : Nat} (k : Nat) (v : Int32) (h : ¬ (b = a ∧ j = i)) : mu M a i k v b j = M b j := if_neg h
abbrev ix (x : Int32) : Nat := x.toNatClampNeg
def nm {α β : Type} (x : α) (k : α → Option β) : Option β := k x
def bd {α β : Type} (x : Option α) (k : α → Option β) : Option β := match x with
  | none => none
  | some a => k a
theorem nm_o {α β : Type} {x : α} {k : α → Option β} {r : β} (h : nm x k = some r) : ∃ y, y = x ∧ k y = some r := ⟨x, rfl, h⟩
theorem bd_o {α β : Type} {x : Option α} {k : α → Option β} {r : β} (h : bd x k = some r) : ∃ a, x = some a ∧ k a = some r := by
  cases x with
  | none => cases h
  | some a => exact ⟨a, rfl, h⟩
theorem gd_o {c : Prop} [Decidable c] {β : Type} {A : Option β} {r : β} (h : (if c then A else none) = some r) : c ∧ A = some r := by
  by_cases hc : c
  · rw [if_pos hc] at h; exact ⟨hc, h⟩
  · rw [if_neg hc] at h; cases h
theorem if_t {c : Prop} [Decidable c] {β : Type} {A B : Option β} {r : β} (h : (if c then A else B) = some r) (hc : c) : A = some r := by rw [if_pos hc] at h; exact h
theorem if_f {c : Prop} [Decidable c] {β : Type} {A B : Option β} {r : β} (h : (if c then A else B) = some r) (hc : ¬ c) : B = some r := by rw [if_neg hc] at h; exact h
/-- an index within, decidable -/
def vi (x : Int32) (n : Nat) : Prop := 0 ≤ x.toInt ∧ x.toInt < n
theorem vi_dec (x : Int32) (n : Nat) : vi x n ↔ vp_in x n := vp_in_iff.symm
/-- a boolean, a char -/
abbrev isB (v : Int32) : Prop := v = 0 ∨ v = 1
abbrev isC (v : Int32) : Prop := 0 ≤ v ∧ v ≤ 65535
theorem isB_n {v : Int32} (h : isB v) : vp_nar .boolean v = v := by rcases h with rfl | rfl <;> decide
theorem isB_f {v : Int32} (h : isB v) : fits .boolean (.int v) = true := by rcases h with rfl | rfl <;> decide
theorem isC_n {v : Int32} (h : isC v) : vp_nar .char v = v := by
  have h0 : 0 ≤ v.toInt := by have := Int32.le_iff_toInt_le.mp h.1; simpa using this
  have h1 : v.toInt ≤ 65535 := by have := Int32.le_iff_toInt_le.mp h.2; simpa using this
  obtain ⟨j, hj, rfl⟩ : ∃ j : Nat, j ≤ 65535 ∧ v = nI j := ⟨v.toInt.toNat, by omega, Int32.toInt_inj.mp (by rw [nI_toInt (by omega)]; omega)⟩
  have := pk_charN (q := j) (by omega)
  exact Value.int.inj this.1
theorem isC_f {v : Int32} (h : isC v) : fits .char (.int v) = true := by simp only [fits, Bool.and_eq_true, decide_eq_true_eq]; exact h
/-- the tables' words: classes, array classes, addresses, the first address of ours -/
abbrev LY : Type := va_G × (Nat → ClassId) × (Nat → Nat → Nat) × Nat × (Nat → Nat) × (Nat → Nat)
abbrev YD (Y : LY) : va_G := Y.1
abbrev YC (Y : LY) : Nat → ClassId := Y.2.1
def YA (Y : LY) (a i : Nat) : Nat := Y.2.2.1 a i
abbrev YZ (Y : LY) : Nat := Y.2.2.2.1
def AZ (Y : LY) : Nat → Prop := fun q => YZ Y ≤ q
/-- the String constants: their addresses, and those of their bytes -/
abbrev YK (Y : LY) : Nat → Nat := Y.2.2.2.2.1
abbrev YV (Y : LY) : Nat → Nat := Y.2.2.2.2.2
def TXE : u_T := fun _ => ("", "", "", false)
abbrev CL : List vw_C := vwCl ++ [("java/lang/IndexOutOfBoundsException", TXE, 0), ("java/lang/IllegalArgumentException", TXE, 0), ("java/lang/IllegalStateException", TXE, 0), ("java/util/NoSuchElementException", TXE, 0), ("java/lang/ArithmeticException", TXE, 0)]
abbrev TYS (Y : LY) : List (ClassId × FieldType) := [(YC Y 0, .int), (YC Y 1, .boolean), (YC Y 2, .char), (YC Y 3, .object "RiverParcelService$Link"), (YC Y 4, .object "RiverParcelService$Parcel"), (YC Y 5, .object "RiverParcelService$Service"), (YC Y 6, .array .int), (YC Y 7, .byte), (YC Y 8, .long), (YC Y 9, .double)]
abbrev ai (c : ClassId) (n : Nat) (r : Nat → Int32) : va_E := .inl (c, n, .inl r)
abbrev aq (c : ClassId) (n : Nat) (r : Nat → Option Nat) : va_E := .inl (c, n, .inr (.inr (.inr (.inr r))))
/-- what the StringBuilder's bytes hold; slot 100000 is how many there are -/
def bfn (r : Nat → Int32) : Nat → Int32 := fun k => if k = 100000 then 0 else (r k).toInt8.toInt32
/-- a double's bits as two ints -/
def dLo (d : UInt64) : Int32 := (UInt32.ofNat (d.toNat % 4294967296)).toInt32
def dHi (d : UInt64) : Int32 := (UInt32.ofNat (d.toNat / 4294967296)).toInt32
def dOf (a b : Int32) : UInt64 := UInt64.ofNat (a.toUInt32.toNat + 4294967296 * b.toUInt32.toNat)
theorem dOf_eq (d : UInt64) : dOf (dLo d) (dHi d) = d := by
  have h := d.toNat_lt
  unfold dOf dLo dHi
  rw [UInt32.toUInt32_toInt32, UInt32.toUInt32_toInt32, UInt32.toNat_ofNat_of_lt' (by show _ < 4294967296; omega), UInt32.toNat_ofNat_of_lt' (by show _ < 4294967296; omega), Nat.mod_add_div]
  exact UInt64.ofNat_toNat
/-- what lies at an instance of a family, by its row -/
def cellV (Y : LY) (a i : Nat) (r : Nat → Int32) : va_E := match a with
  | 0 => .inr (11, [.ref (YA Y 1 0), .ref (YA Y 1 1), .ref (YA Y 1 2), .int (r 3), .ref (YA Y 7 0), .ref (YA Y 11 0), .ref (YA Y 13 0), .ref (YA Y 18 0), .ref (YA Y 19 0), .int (r 9), .int (r 10)])
  | 1 => .inr (9, [.ref (YA Y 7 0), .ref (YA Y 2 i), .ref (YA Y 5 i), .int (r 3), .int (r 4), .int (r 5), .int (r 6), .int (r 7), .int (r 8)])
  | 2 => .inr (6, [.ref (YA Y 3 i), .int (r 1), .int (r 2)])
  | 3 => aq (YC Y 3) 20 (fun k => some (YA Y 4 (20 * i + k)))
  | 4 => .inr (5, [.int (r 0), .int (r 1), .int (r 2), .int (r 3), .int (r 4)])
  | 5 => aq (YC Y 4) 12 (fun k => some (YA Y 6 (ix (r k))))
  | 6 => .inr (7, [.int (r 0), .int (r 1), .int (r 2), .int (r 3), .int (r 4), .int (r 5), .int (r 6)])
  | 7 => .inr (10, [.ref (YA Y 8 0), .ref (YA Y 9 0), .ref (YA Y 10 0)])
  | 8 => ai (YC Y 0) 9 r
  | 9 => ai (YC Y 1) 9 r
  | 10 => ai (YC Y 0) 9 r
  | 11 => .inr (4, [.ref (YA Y 12 0), .int (r 1), .int (r 2)])
  | 12 => aq (YC Y 5) 8 (fun k => some (YA Y 1 (3 + k)))
  | 13 => .inr (8, [.ref (YA Y 14 0), .int (r 1), .ref (YA Y 15 0), .ref (YA Y 16 0), .int (r 4), .int (r 5)])
  | 14 => ai (YC Y 2) 60 r
  | 15 => ai (YC Y 0) 10 r
  | 16 => aq (YC Y 6) 10 (fun k => some (YA Y 17 k))
  | 17 => ai (YC Y 0) 4 r
  | 18 => ai (YC Y 0) 12 r
  | 19 => .inr (1, [.ref (YA Y 34 0), .int 0, .int (r 2), .int (r 3)])
  | 34 => .inl (YC Y 7, ix (r 100000), .inl (bfn r))
  | 20 => .inr (12, [.ref (YA Y 21 0), .ref (YA Y 22 0), .ref (YA Y 23 0), .ref (YA Y 24 0), .int (r 4), .ref (YA Y 25 0), .int (r 6), .int (r 7), .int (r 8), .int (r 9), .ref (YA Y 26 0), .int (r 11), .ref (YA Y 27 0), .ref (YA Y 28 0), .ref (YA Y 29 0), .int (r 15), .ref (YA Y 30 0), .ref (YA Y 31 0), .ref (YA Y 32 0), .int (r 19), .int (r 20), .int (r 21), .int (r 22)])
  | 21 => ai (YC Y 0) 192 r
  | 22 => ai (YC Y 0) 192 r
  | 23 => ai (YC Y 0) 192 r
  | 24 => ai (YC Y 0) 192 r
  | 25 => ai (YC Y 0) 1536 r
  | 26 => ai (YC Y 0) 60 r
  | 27 => ai (YC Y 0) 9 r
  | 28 => ai (YC Y 0) 12 r
  | 29 => ai (YC Y 0) 60 r
  | 30 => ai (YC Y 2) 57 r
  | 31 => ai (YC Y 0) 11 r
  | 32 => ai (YC Y 0) 305 r
  | 36 => .inl (YC Y 9, 1, .inr (.inr (.inr (.inl (fun k => dOf (r (2 * k)) (r (2 * k + 1)))))))
  | _ => .inl (YC Y 8, 1, .inr (.inl (fun k => (r k).toInt64)))
/-- how many instances a family has -/
def nF (a : Nat) : Nat := match a with
  | 1 => 11
  | 2 => 11
  | 3 => 11
  | 4 => 220
  | 5 => 11
  | 6 => 132
  | 17 => 10
  | 35 => 0
  | a => if a < 37 then 1 else 0
/-- the heap holds the memory, at a layout -/
def HS0 (Y : LY) (M : Mem) (H : Heap) : Prop := (∀ a i b j, i < nF a → j < nF b → YA Y a i = YA Y b j → a = b ∧ i = j) ∧ ∃ ws : va_W, va_P (YD Y) CL ws H ∧ va_D (AZ Y) ws ∧ ∀ a i, i < nF a → (YA Y a i, cellV Y a i (M a i)) ∈ ws
/-- the layout with another address for the StringBuilder's bytes -/
def YS (Y : LY) (q : Nat) : LY := (Y.1, Y.2.1, fun a i => if a = 34 then q else Y.2.2.1 a i, Y.2.2.2)
/-- .. at any address of the StringBuilder's bytes -/
def HS (Y : LY) (M : Mem) (H : Heap) : Prop := ∃ q, HS0 (YS Y q) M H
theorem ys_ya (Y : LY) (q : Nat) {a : Nat} (i : Nat) (h : a ≠ 34) : YA (YS Y q) a i = YA Y a i := if_neg h
theorem ys_cell (Y : LY) (q : Nat) {a : Nat} (i : Nat) (r : Nat → Int32) (h : a ≠ 19) : cellV (YS Y q) a i r = cellV Y a i r := by
  unfold cellV
  split <;> first | rfl | exact absurd rfl h
theorem ys_ys (Y : LY) (q q2 : Nat) : YS (YS Y q) q2 = YS Y q2 := by
  unfold YS
  refine congrArg (Prod.mk _) (congrArg (Prod.mk _) (congrArg (fun f => Prod.mk f _) ?_))
  funext a i
  by_cases h : a = 34
  · simp [h]
  · simp [h]
/-- the texts whose letters are asked: class, place in its pool, text -/
def cTab : List (String × Nat × String) := [("RiverParcelService$Program", 61, "place"), ("RiverParcelService$Program", 63, "link 99 9/9"), ("RiverParcelService$Program", 65, "block #"), ("RiverParcelService$Program", 67, "open #"), ("RiverParcelService$Program", 69, "post 99 9*#"), ("RiverParcelService$Program", 71, "send # #"), ("RiverParcelService$Program", 73, "stamp # #"), ("RiverParcelService$Program", 75, "return #"), ("RiverParcelService$Program", 77, "dispatch"), ("RiverParcelService$Program", 79, "hours #"), ("RiverParcelService$Program", 81, "hours"), ("RiverParcelService$Parcel", 46, " ~"), ("RiverParcelService$Parcel", 51, " @"), ("RiverParcelService$Parcel", 53, " >"), ("RiverParcelService$Link", 37, ") "), ("RiverParcelService$Link", 42, "h/"), ("RiverParcelService$Link", 44, " x"), ("RiverParcelService$Link", 46, " w")]
def cLen : List Nat := [5, 11, 7, 6, 11, 8, 9, 8, 8, 7, 5, 2, 2, 2, 2, 2, 2, 2]
def cByt : List (List Int32) := [[112, 108, 97, 99, 101], [108, 105, 110, 107, 32, 57, 57, 32, 57, 47, 57], [98, 108, 111, 99, 107, 32, 35], [111, 112, 101, 110, 32, 35], [112, 111, 115, 116, 32, 57, 57, 32, 57, 42, 35], [115, 101, 110, 100, 32, 35, 32, 35], [115, 116, 97, 109, 112, 32, 35, 32, 35], [114, 101, 116, 117, 114, 110, 32, 35], [100, 105, 115, 112, 97, 116, 99, 104], [104, 111, 117, 114, 115, 32, 35], [104, 111, 117, 114, 115], [32, 126], [32, 64], [32, 62], [41, 32], [104, 47], [32, 120], [32, 119]]
/-- the texts of what is thrown -/
def xTab : List (String × Nat × String) := [("RiverParcelService", 347, "there is no such place or link"), ("RiverParcelService", 350, "an argument is out of range"), ("RiverParcelService", 352, "the service does not allow it now"), ("RiverParcelService", 354, "there is no such parcel"), ("RiverParcelService", 356, "there is no such number"), ("RiverParcelService", 358, "the number is out of range"), ("RiverParcelService", 122, "there are no links"), ("RiverParcelService", 370, "the parcel is travelling"), ("RiverParcelService", 372, "the parcel is waiting"), ("RiverParcelService", 361, "the place cannot be reached"), ("RiverParcelService", 207, "the parcel has no next link"), ("RiverParcelService", 221, "there is no such rank"), ("RiverParcelService", 257, "no parcels are in the service"), ("RiverParcelService", 295, "the character is not in the range from ' ' to '~'"), ("RiverParcelService", 302, "the input buffer is full"), ("RiverParcelService", 315, "the program is malformed"), ("RiverParcelService", 322, "a command failed"), ("RiverParcelService", 327, "no program was malformed so far"), ("RiverParcelService", 329, "no command failed so far"), ("RiverParcelService", 332, "no change can be undone"), ("RiverParcelService", 337, "there is no saved copy")]
def exN : List String := ["java/lang/IndexOutOfBoundsException", "java/lang/IllegalArgumentException", "java/lang/IllegalStateException", "java/util/NoSuchElementException", "java/lang/ArithmeticException"]
def dTab : List MethodName := [⟨"java/lang/RuntimeException", "<init>", "()V"⟩, ⟨"java/lang/RuntimeException", "<init>", "(Ljava/lang/String;)V"⟩, ⟨"java/lang/Exception", "<init>", "()V"⟩, ⟨"java/lang/Exception", "<init>", "(Ljava/lang/String;)V"⟩, ⟨"java/lang/Throwable", "<init>", "()V"⟩, ⟨"java/lang/Throwable", "<init>", "(Ljava/lang/String;)V"⟩, ⟨"java/lang/IndexOutOfBoundsException", "<init>", "()V"⟩, ⟨"java/lang/IndexOutOfBoundsException", "<init>", "(Ljava/lang/String;)V"⟩]
/-- calls of a nest mate's private constructor; classes that arrays are made of -/
def nTab : List (String × Nat × MethodName × String) := [("RiverParcelService$Network", 17, ⟨"RiverParcelService$Link", "<init>", "()V"⟩, "RiverParcelService"), ("RiverParcelService$Service", 28, ⟨"RiverParcelService$Parcel", "<init>", "()V"⟩, "RiverParcelService")]
/-- the private methods of AbstractStringBuilder that are called on a StringBuilder -/
def pTab : List MethodName := [⟨"java/lang/AbstractStringBuilder", "ensureCapacityInternal", "(I)V"⟩, ⟨"java/lang/AbstractStringBuilder", "newCapacity", "(I)I"⟩, ⟨"java/lang/AbstractStringBuilder", "putStringAt", "(ILjava/lang/String;)V"⟩, ⟨"java/lang/AbstractStringBuilder", "inflateIfNeededFor", "(Ljava/lang/String;)V"⟩]
theorem nw_warm {w : Cond} {s U : State} (h1 : w.onTables = true) (h2 : w.keeps = true) (hW : s.WarmedH U.vm) (hZ : va_Nw w s) : va_Nw w U := va_tabs h1 (rfl : (s.setVm U.vm).vm = U.vm) (Cond.onTables_warm (args := #[]) (args' := #[]) (T := s) hW h1 h2 hZ)
def aTab : List String := ["RiverParcelService$Link", "RiverParcelService$Parcel", "RiverParcelService$Service"]
/-- the tables hold what the rows ask, in any state that comes -/
def KK (Y : LY) (U : State) : Prop := va_K (YD Y) CL (TYS Y) U ∧ vx_Zq Bundle.tN "UNASSIGNED_STACK" Bundle.steD (AZ Y) U U.heap ∧ vx_Zq Bundle.tN "SUPPRESSED_SENTINEL" Bundle.listD (AZ Y) U U.heap ∧ (∀ q ∈ xTab, ∃ sa, vk_R q.1 q.2.1 q.2.2 sa U) ∧
  (∀ a ∈ exN, ∀ b ∈ exN, a ≠ b → va_Nc a b U) ∧ va_Z "java/lang/String" "COMPACT_STRINGS" "Z" (.int 1) (AZ Y) U U.heap ∧ vk_S 18 cLen cByt (YK Y) (YV Y) (AZ Y) U U.heap ∧ (∀ (i : Nat) (q : String × Nat × String), cTab[i]? = some q → vk_R q.1 q.2.1 q.2.2 (YK Y i) U) ∧
  (va_Z "java/lang/Integer" "DigitOnes" "[B" (.ref (YV Y 100)) (AZ Y) U U.heap ∧ va_T .byte (YV Y 100) 100 (fun j => .int (nI (48 + j % 10))) (AZ Y) U U.heap) ∧ (va_Z "java/lang/Integer" "DigitTens" "[B" (.ref (YV Y 101)) (AZ Y) U U.heap ∧ va_T .byte (YV Y 101) 100 (fun j => .int (nI (48 + j / 10))) (AZ Y) U U.heap) ∧
  (∀ y ∈ dTab, va_Nw (.declares y) U) ∧ (∀ a ∈ exN, va_Nw (.castable a a) U) ∧ va_Zq "jdk/internal/util/Preconditions" "SIOOBE_FORMATTER" "Ljava/util/function/BiFunction;" (AZ Y) U U.heap ∧ (∀ w ∈ nTab, va_Nw (.methodLinkNest w.1 w.2.1 w.2.2.1 w.2.2.2) U) ∧ (∀ a ∈ aTab, va_AO a U) ∧ va_AOA .int U ∧ (∀ y ∈ pTab, va_Nw (.selects "java/lang/StringBuilder" y y) U)
/-- .. from a method's start on -/
theorem KK.go {Y : LY} {s U : State} {H : Heap} {locs : List Loc} (h : KK Y s) (hW : s.WarmedH U.vm) (hS : va_S (AZ Y) s.heap H locs) (hU : U.heap = H) : KK Y U := by
  obtain ⟨h1, h2, h3, h4, h5, h6, h7, h8, h9, h10, h11, h12, h13, h14, h15, h16, h17⟩ := h
  have hk : ∀ a : Nat, a < s.heap.size → ¬ AZ Y a → U.heap[a]? = s.heap[a]? := fun a q1 q2 => by rw [hU]; exact hS.2.1 a q1 q2
  refine ⟨va_K.moved hW.alike h1, vx_Zq.moved hW.alike (h2.kept hk), vx_Zq.moved hW.alike (h3.kept hk), fun q hq => ?_, fun a ha b hb hab => va_Nc.moved hW.alike (h5 a ha b hb hab), va_Z.moved hW.alike (h6.kept hk), vk_S.moved hW.alike (h7.kept hk), fun i q hq => vk_R.warm hW (h8 i q hq), ⟨va_Z.moved hW.alike (h9.1.kept hk), va_T.moved hW.alike (h9.2.kept hk)⟩, ⟨va_Z.moved hW.alike (h10.1.kept hk), va_T.moved hW.alike (h10.2.kept hk)⟩, fun y hy => (h11 y hy).warmD hW, fun a ha => (h12 a ha).warmC hW, va_Zq.moved hW.alike (h13.kept hk), fun w hw => (h14 w hw).warmM hW, fun a ha => va_AO.moved hW.alike (h15 a ha), over_moved hW.alike h16, fun y hy => nw_warm rfl rfl hW (h17 y hy)⟩
  obtain ⟨sa, g⟩ := h4 q hq
  exact ⟨sa, vk_R.warm hW g⟩
theorem KK.call {Y : LY} {U : State} {g : JFrame} {mk : MethodId} {a : Array Value} (h : KK Y U) : KK Y (U.calling g mk a) := h.go (State.WarmedH.refl U) va_S.rf rfl
theorem KK.k {Y : LY} {U : State} (h : KK Y U) : va_K (YD Y) CL (TYS Y) U := h.1
theorem KK.u {Y : LY} {U : State} (h : KK Y U) : vx_Zq Bundle.tN "UNASSIGNED_STACK" Bundle.steD (AZ Y) U U.heap := h.2.1
theorem KK.n {Y : LY} {U : State} (h : KK Y U) : vx_Zq Bundle.tN "SUPPRESSED_SENTINEL" Bundle.listD (AZ Y) U U.heap := h.2.2.1
theorem KK.x {Y : LY} {U : State} (h : KK Y U) : ∀ q ∈ xTab, ∃ sa, vk_R q.1 q.2.1 q.2.2 sa U := h.2.2.2.1
theorem KK.nc {Y : LY} {U : State} (h : KK Y U) : ∀ a ∈ exN, ∀ b ∈ exN, a ≠ b → va_Nc a b U := h.2.2.2.2.1
theorem KK.d {Y : LY} {U : State} (h : KK Y U) : ∀ y ∈ dTab, va_Nw (.declares y) U := h.2.2.2.2.2.2.2.2.2.2.1
theorem KK.c {Y : LY} {U : State} (h : KK Y U) : ∀ a ∈ exN, va_Nw (.castable a a) U := h.2.2.2.2.2.2.2.2.2.2.2.1
theorem KK.f {Y : LY} {U : State} (h : KK Y U) : va_Zq "jdk/internal/util/Preconditions" "SIOOBE_FORMATTER" "Ljava/util/function/BiFunction;" (AZ Y) U U.heap := h.2.2.2.2.2.2.2.2.2.2.2.2.1
theorem KK.w {Y : LY} {U : State} (h : KK Y U) : ∀ w ∈ nTab, va_Nw (.methodLinkNest w.1 w.2.1 w.2.2.1 w.2.2.2) U := h.2.2.2.2.2.2.2.2.2.2.2.2.2.1
theorem KK.ao {Y : LY} {U : State} (h : KK Y U) : ∀ a ∈ aTab, va_AO a U := h.2.2.2.2.2.2.2.2.2.2.2.2.2.2.1
theorem KK.aoa {Y : LY} {U : State} (h : KK Y U) : va_AOA .int U := h.2.2.2.2.2.2.2.2.2.2.2.2.2.2.2.1
theorem KK.p {Y : LY} {U : State} (h : KK Y U) : ∀ y ∈ pTab, va_Nw (.selects "java/lang/StringBuilder" y y) U := h.2.2.2.2.2.2.2.2.2.2.2.2.2.2.2.2
theorem KK.z {Y : LY} {U : State} (h : KK Y U) : va_Z "java/lang/String" "COMPACT_STRINGS" "Z" (.int 1) (AZ Y) U U.heap := h.2.2.2.2.2.1
theorem KK.s {Y : LY} {U : State} (h : KK Y U) : vk_S 18 cLen cByt (YK Y) (YV Y) (AZ Y) U U.heap := h.2.2.2.2.2.2.1
theorem KK.r {Y : LY} {U : State} (h : KK Y U) : ∀ (i : Nat) (q : String × Nat × String), cTab[i]? = some q → vk_R q.1 q.2.1 q.2.2 (YK Y i) U := h.2.2.2.2.2.2.2.1
theorem KK.o {Y : LY} {U : State} (h : KK Y U) : va_Z "java/lang/Integer" "DigitOnes" "[B" (.ref (YV Y 100)) (AZ Y) U U.heap ∧ va_T .byte (YV Y 100) 100 (fun j => .int (nI (48 + j % 10))) (AZ Y) U U.heap := h.2.2.2.2.2.2.2.2.1
theorem KK.t {Y : LY} {U : State} (h : KK Y U) : va_Z "java/lang/Integer" "DigitTens" "[B" (.ref (YV Y 101)) (AZ Y) U U.heap ∧ va_T .byte (YV Y 101) 100 (fun j => .int (nI (48 + j / 10))) (AZ Y) U U.heap := h.2.2.2.2.2.2.2.2.2.1
theorem HS0.at {Y : LY} {M : Mem} {H : Heap} (h : HS0 Y M H) {a i : Nat} (hi : i < nF a) : va_P (YD Y) CL [(YA Y a i, cellV Y a i (M a i))] H := by
  obtain ⟨-, ws, hP, -, hw⟩ := h
  obtain ⟨k, hk⟩ := List.getElem?_of_mem (hw a i hi)
  intro k2 q hq
  match k2, hq with
  | 0, hq => cases hq; exact hP k _ hk
  | k2 + 1, hq => simp at hq
/-- one cell of the memory is written -/
theorem HS0.put {Y : LY} {M : Mem} {H : Heap} (h : HS0 Y M H) {a i : Nat} (hi : i < nF a) : ∃ (ws : va_W) (q0 : Nat), va_P (YD Y) CL ws H ∧ va_D (AZ Y) ws ∧ ws[q0]? = some (YA Y a i, cellV Y a i (M a i)) ∧ (∀ b j, j < nF b → (YA Y b j, cellV Y b j (M b j)) ∈ ws) ∧
    ∀ (M' : Mem) (e : va_E) (H1 : Heap), (∀ b j, ¬ (b = a ∧ j = i) → M' b j = M b j) → e = cellV Y a i (M' a i) → va_P (YD Y) CL (ws.set q0 (YA Y a i, e)) H1 → va_D (AZ Y) (ws.set q0 (YA Y a i, e)) → HS0 Y M' H1 := by
  obtain ⟨hinj, ws, hP, hD, hw⟩ := h
  obtain ⟨q0, hk⟩ := List.getElem?_of_mem (hw a i hi)
  refine ⟨ws, q0, hP, hD, hk, hw, fun M' e H1 hM he hP1 hD1 => ⟨hinj, _, hP1, hD1, fun b j hj => ?_⟩⟩
  have hlt : q0 < ws.length := (List.getElem?_eq_some_iff.mp hk).1
  by_cases hb : b = a ∧ j = i
  · obtain ⟨rfl, rfl⟩ := hb
    rw [← he]
    exact List.mem_of_getElem? (i := q0) (by rw [List.getElem?_set_self hlt])
  · rw [hM b j hb]
    obtain ⟨k2, hk2⟩ := List.getElem?_of_mem (hw b j hj)
    have hne : q0 ≠ k2 := fun e2 => by
      subst e2
      rw [hk] at hk2
      have := congrArg Prod.fst (Option.some.inj hk2)
      exact hb ((fun z : a = b ∧ i = j => ⟨z.1.symm, z.2.symm⟩) (hinj a i b j hi hj this))
    exact List.mem_of_getElem? (i := k2) (by rw [List.getElem?_set_ne hne]; exact hk2)
theorem HS.at {Y : LY} {M : Mem} {H : Heap} (h : HS Y M H) {a i : Nat} (hi : i < nF a) (ha : a ≠ 34 ∧ a ≠ 19) : va_P (YD Y) CL [(YA Y a i, cellV Y a i (M a i))] H := by
  obtain ⟨q, h⟩ := h
  have h1 := h.at hi
  rw [ys_ya Y q i ha.1, ys_cell Y q i _ ha.2] at h1
  exact h1
theorem HS.put {Y : LY} {M : Mem} {H : Heap} (h : HS Y M H) {a i : Nat} (hi : i < nF a) (ha : a ≠ 34 ∧ a ≠ 19) : ∃ (ws : va_W) (q0 : Nat), va_P (YD Y) CL ws H ∧ va_D (AZ Y) ws ∧ ws[q0]? = some (YA Y a i, cellV Y a i (M a i)) ∧ (∀ b j, b ≠ 34 → b ≠ 19 → j < nF b → (YA Y b j, cellV Y b j (M b j)) ∈ ws) ∧
    ∀ (M' : Mem) (e : va_E) (H1 : Heap), (∀ b j, ¬ (b = a ∧ j = i) → M' b j = M b j) → e = cellV Y a i (M' a i) → va_P (YD Y) CL (ws.set q0 (YA Y a i, e)) H1 → va_D (AZ Y) (ws.set q0 (YA Y a i, e)) → HS Y M' H1 := by
  obtain ⟨q, h⟩ := h
  obtain ⟨ws, q0, hP, hD, hk, hw, back⟩ := h.put hi
  rw [ys_ya Y q i ha.1, ys_cell Y q i _ ha.2] at hk
  refine ⟨ws, q0, hP, hD, hk, fun b j h34 h19 hj => ?_, fun M' e H1 hM he hP1 hD1 => ⟨q, back M' e H1 hM (by rw [ys_cell Y q i _ ha.2]; exact he) (by rw [ys_ya Y q i ha.1]; exact hP1) (by rw [ys_ya Y q i ha.1]; exact hD1)⟩⟩
  have := hw b j hj
  rw [ys_ya Y q j h34, ys_cell Y q j _ h19] at this
  exact this
theorem inAX0 : ∀ w ∈ wsX00, w ∈ ALLW := fun w h => zz0 ((show ∀ w ∈ wsX00, w ∈ lw_tbl by decide +kernel) w h) ((show ∀ w ∈ wsX00, goodWord w = true by decide +kernel) w h)
theorem inAX1 : ∀ w ∈ wsX10, w ∈ ALLW := fun w h => zz0 ((show ∀ w ∈ wsX10, w ∈ lw_tbl by decide +kernel) w h) ((show ∀ w ∈ wsX10, goodWord w = true by decide +kernel) w h)
theorem inAX2 : ∀ w ∈ wsX20, w ∈ ALLW := fun w h => zz0 ((show ∀ w ∈ wsX20, w ∈ lw_tbl by decide +kernel) w h) ((show ∀ w ∈ wsX20, goodWord w = true by decide +kernel) w h)
theorem inAX3 : ∀ w ∈ wsX30, w ∈ ALLW := fun w h => zz0 ((show ∀ w ∈ wsX30, w ∈ lw_tbl by decide +kernel) w h) ((show ∀ w ∈ wsX30, goodWord w = true by decide +kernel) w h)
theorem inAX4 : ∀ w ∈ wsX40, w ∈ ALLW := fun w h => zz0 ((show ∀ w ∈ wsX40, w ∈ lw_tbl by decide +kernel) w h) ((show ∀ w ∈ wsX40, goodWord w = true by decide +kernel) w h)
theorem inAX5 : ∀ w ∈ wsX50, w ∈ ALLW := fun w h => zz0 ((show ∀ w ∈ wsX50, w ∈ lw_tbl by decide +kernel) w h) ((show ∀ w ∈ wsX50, goodWord w = true by decide +kernel) w h)
theorem inAX6 : ∀ w ∈ wsX60, w ∈ ALLW := fun w h => zz0 ((show ∀ w ∈ wsX60, w ∈ lw_tbl by decide +kernel) w h) ((show ∀ w ∈ wsX60, goodWord w = true by decide +kernel) w h)
theorem inAX7 : ∀ w ∈ wsX70, w ∈ ALLW := fun w h => zz0 ((show ∀ w ∈ wsX70, w ∈ lw_tbl by decide +kernel) w h) ((show ∀ w ∈ wsX70, goodWord w = true by decide +kernel) w h)
theorem inAX8 : ∀ w ∈ wsX80, w ∈ ALLW := fun w h => zz0 ((show ∀ w ∈ wsX80, w ∈ lw_tbl by decide +kernel) w h) ((show ∀ w ∈ wsX80, goodWord w = true by decide +kernel) w h)
section HSR
variable {p : Program} {l : Launch} {e : Env} {R : Room} {s : State} {m : MethodId} {args : Array Value} {below : List Frame} {meth : Method} {c : Code} {H : Heap} {locs : List Loc} {cells slots : Nat} {Q : State → Prop}
variable {cc : ByteArray} {pc : Nat} {ls : Array Slot} {rest : List Value} {H0 : Heap} {Y : LY} {M : Mem}
/-- getfield -/
theorem hs_get (hexec : p.tables.exec = Jvm.exec) (hb : c.code = cc) {own ref C : String} {T : u_T} {N index : Nat} {Ts : List Cond} (hts : ∀ w ∈ Ts, w.before args s = true) (hin : ∀ w ∈ u_ws C T N, w ∈ Ts) (hown : s.vm.findClass own = some m.cls) (hK : KK Y s) (hH : HS Y M H) (a i : Nat) (hi : i < nF a) (ci : Nat) {fs : List Value} (he : cellV Y a i (M a i) = .inr (ci, fs)) (hc : CL[ci]? = some (C, T, N)) (k : Nat) (hk : k < N) (hlink : (Cond.fieldLink own index ref (T k).2.1 (T k).2.2.1).before args s = true) (href : ref = (T k).1) {v : Value} (hv : fs[k]? = some v) (hdg : decode cc pc = .ok (.getfield index, 3))
    (kk : W p l e R s m args below meth c H locs cells slots Q (F0 m (pc + 3) ls (v :: rest))) (ha : a ≠ 34 ∧ a ≠ 19 := by decide) : W p l e R s m args below meth c H locs cells slots Q (F0 m pc ls (.ref (YA Y a i) :: rest)) := by
  have hP := hH.at hi ha
  rw [he] at hP
  exact va_get hexec hb hts hin hown hK.k hP 0 rfl hc k hk hlink (fun x hx => by rw [href]; exact hx) hv hdg kk
/-- putfield of an int -/
theorem hs_put (hexec : p.tables.exec = Jvm.exec) (hb : c.code = cc) {own ref C : String} {T : u_T} {N index : Nat} {Ts : List Cond} (hts : ∀ w ∈ Ts, w.before args s = true) (hin : ∀ w ∈ u_ws C T N, w ∈ Ts) (ty0 : Nat → FieldType) (hty : ∀ k, k < N → parseFieldDescriptor (T k).2.2.1 = some (ty0 k)) (hnm : ∀ a, a < N → ∀ b, b < N → a ≠ b → (T a).2.1 ≠ (T b).2.1) (hown : s.vm.findClass own = some m.cls) (hK : KK Y s) (hH : HS Y M H) (hS0 : va_S (AZ Y) H0 H locs) (a i : Nat) (hi : i < nF a) (ci : Nat) {fs : List Value} (he : cellV Y a i (M a i) = .inr (ci, fs)) (hc : CL[ci]? = some (C, T, N)) (k : Nat) (hk : k < N) (hlink : (Cond.fieldLink own index ref (T k).2.1 (T k).2.2.1).before args s = true) (href : ref = (T k).1) (hfin : (T k).2.2.2 = false) {v : Int32} (hd : parseFieldDescriptor (T k).2.2.1 = some .int) (hl : k < fs.length) (he2 : cellV Y a i (upd (M a i) k v) = .inr (ci, fs.set k (.int v)))
    (hdg : decode cc pc = .ok (.putfield index, 3)) (kk : ∀ (H1 : Heap) (locs1 : List Loc), HS Y (mu M a i k v) H1 → va_S (AZ Y) H0 H1 locs1 → W p l e R s m args below meth c H1 locs1 cells slots Q (F0 m (pc + 3) ls rest)) (ha : a ≠ 34 ∧ a ≠ 19 := by decide) : W p l e R s m args below meth c H locs cells slots Q (F0 m pc ls (.int v :: .ref (YA Y a i) :: rest)) := by
  obtain ⟨ws, q0, hP, hD, hq, -, back⟩ := hH.put hi ha
  rw [he] at hq
  refine va_put hexec hb hts hin ty0 hty hnm hown hK.k hP hD hS0 q0 hq hc k hk hlink (fun x hx => by rw [href]; exact hx) hfin hd rfl rfl hl hdg (fun H1 locs1 hP1 hD1 hS1 => kk H1 locs1 (back (mu M a i k v) _ H1 (fun b j hb => mu_ne M k v hb) (by rw [mu_row]; exact he2.symm) hP1 hD1) hS1)
/-- putfield of a boolean -/
theorem hs_putz (hexec : p.tables.exec = Jvm.exec) (hb : c.code = cc) {own ref C : String} {T : u_T} {N index : Nat} {Ts : List Cond} (hts : ∀ w ∈ Ts, w.before args s = true) (hin : ∀ w ∈ u_ws C T N, w ∈ Ts) (ty0 : Nat → FieldType) (hty : ∀ k, k < N → parseFieldDescriptor (T k).2.2.1 = some (ty0 k)) (hnm : ∀ a, a < N → ∀ b, b < N → a ≠ b → (T a).2.1 ≠ (T b).2.1) (hown : s.vm.findClass own = some m.cls) (hK : KK Y s) (hH : HS Y M H) (hS0 : va_S (AZ Y) H0 H locs) (a i : Nat) (hi : i < nF a) (ci : Nat) {fs : List Value} (he : cellV Y a i (M a i) = .inr (ci, fs)) (hc : CL[ci]? = some (C, T, N)) (k : Nat) (hk : k < N) (hlink : (Cond.fieldLink own index ref (T k).2.1 (T k).2.2.1).before args s = true) (href : ref = (T k).1) (hfin : (T k).2.2.2 = false) {v : Int32} (hd : parseFieldDescriptor (T k).2.2.1 = some .boolean) (hv : isB v) (hl : k < fs.length) (he2 : cellV Y a i (upd (M a i) k v) = .inr (ci, fs.set k (.int v)))
    (hdg : decode cc pc = .ok (.putfield index, 3)) (kk : ∀ (H1 : Heap) (locs1 : List Loc), HS Y (mu M a i k v) H1 → va_S (AZ Y) H0 H1 locs1 → W p l e R s m args below meth c H1 locs1 cells slots Q (F0 m (pc + 3) ls rest)) (ha : a ≠ 34 ∧ a ≠ 19 := by decide) : W p l e R s m args below meth c H locs cells slots Q (F0 m pc ls (.int v :: .ref (YA Y a i) :: rest)) := by
  obtain ⟨ws, q0, hP, hD, hq, -, back⟩ := hH.put hi ha
  rw [he] at hq
  refine va_put hexec hb hts hin ty0 hty hnm hown hK.k hP hD hS0 q0 hq hc k hk hlink (fun x hx => by rw [href]; exact hx) hfin hd (congrArg Value.int (isB_n hv)) (isB_f hv) hl hdg (fun H1 locs1 hP1 hD1 hS1 => kk H1 locs1 (back (mu M a i k v) _ H1 (fun b j hb => mu_ne M k v hb) (by rw [mu_row]; exact he2.symm) hP1 hD1) hS1)
/-- loads -/
theorem hs_iald (hexec : p.tables.exec = Jvm.exec) (hb : c.code = cc) (hK : KK Y s) (hH : HS Y M H) (a i : Nat) (hi : i < nF a) {n : Nat} (he : cellV Y a i (M a i) = ai (YC Y 0) n (M a i)) {x : Int32} (hin : vp_in x n) {k : Nat} (hk : ix x = k) (hdg : decode cc pc = .ok (.iaload, 1))
    (kk : W p l e R s m args below meth c H locs cells slots Q (F0 m (pc + 1) ls (.int (M a i k) :: rest))) (ha : a ≠ 34 ∧ a ≠ 19 := by decide) : W p l e R s m args below meth c H locs cells slots Q (F0 m pc ls (.int x :: .ref (YA Y a i) :: rest)) := by
  subst hk
  have hP := hH.at hi ha
  rw [he] at hP
  exact va_iald hexec hb hK.k hP 0 0 rfl rfl hin hdg kk
theorem hs_zald (hexec : p.tables.exec = Jvm.exec) (hb : c.code = cc) (hK : KK Y s) (hH : HS Y M H) (a i : Nat) (hi : i < nF a) {n : Nat} (he : cellV Y a i (M a i) = ai (YC Y 1) n (M a i)) {x : Int32} (hin : vp_in x n) {k : Nat} (hk : ix x = k) (hdg : decode cc pc = .ok (.baload, 1))
    (kk : W p l e R s m args below meth c H locs cells slots Q (F0 m (pc + 1) ls (.int (M a i k) :: rest))) (ha : a ≠ 34 ∧ a ≠ 19 := by decide) : W p l e R s m args below meth c H locs cells slots Q (F0 m pc ls (.int x :: .ref (YA Y a i) :: rest)) := by
  subst hk
  have hP := hH.at hi ha
  rw [he] at hP
  exact va_zald hexec hb hK.k hP 0 1 rfl rfl hin hdg kk
theorem hs_cald (hexec : p.tables.exec = Jvm.exec) (hb : c.code = cc) (hK : KK Y s) (hH : HS Y M H) (a i : Nat) (hi : i < nF a) {n : Nat} (he : cellV Y a i (M a i) = ai (YC Y 2) n (M a i)) {x : Int32} (hin : vp_in x n) {k : Nat} (hk : ix x = k) (hdg : decode cc pc = .ok (.caload, 1))
    (kk : W p l e R s m args below meth c H locs cells slots Q (F0 m (pc + 1) ls (.int (M a i k) :: rest))) (ha : a ≠ 34 ∧ a ≠ 19 := by decide) : W p l e R s m args below meth c H locs cells slots Q (F0 m pc ls (.int x :: .ref (YA Y a i) :: rest)) := by
  subst hk
  have hP := hH.at hi ha
  rw [he] at hP
  exact va_cald hexec hb hK.k hP 0 2 rfl rfl hin hdg kk
/-- a load of a reference: t0 the array class's place, C its component, q what lies there -/
theorem hs_aald (hexec : p.tables.exec = Jvm.exec) (hb : c.code = cc) (hK : KK Y s) (hH : HS Y M H) (a i : Nat) (hi : i < nF a) (t0 : Nat) {cA : ClassId} {C : String} {n : Nat} {f : Nat → Option Nat} (he : cellV Y a i (M a i) = aq cA n f) (ht : (TYS Y)[t0]? = some (cA, .object C)) {x : Int32} (hin : vp_in x n) {q : Nat} (hq : f (ix x) = some q) (hdg : decode cc pc = .ok (.aaload, 1))
    (kk : W p l e R s m args below meth c H locs cells slots Q (F0 m (pc + 1) ls (.ref q :: rest))) (ha : a ≠ 34 ∧ a ≠ 19 := by decide) : W p l e R s m args below meth c H locs cells slots Q (F0 m pc ls (.int x :: .ref (YA Y a i) :: rest)) := by
  have hP := hH.at hi ha
  rw [he] at hP
  refine va_aldq hexec hb hK.k hP 0 t0 rfl ht hin hdg ?_
  rw [show f x.toNatClampNeg = some q from hq]
  exact kk
/-- .. of a row of an array of arrays of ints -/
theorem hs_aald2 (hexec : p.tables.exec = Jvm.exec) (hb : c.code = cc) (hK : KK Y s) (hH : HS Y M H) (a i : Nat) (hi : i < nF a) {n : Nat} {f : Nat → Option Nat} (he : cellV Y a i (M a i) = aq (YC Y 6) n f) {x : Int32} (hin : vp_in x n) {q : Nat} (hq : f (ix x) = some q) (hdg : decode cc pc = .ok (.aaload, 1))
    (kk : W p l e R s m args below meth c H locs cells slots Q (F0 m (pc + 1) ls (.ref q :: rest))) (ha : a ≠ 34 ∧ a ≠ 19 := by decide) : W p l e R s m args below meth c H locs cells slots Q (F0 m pc ls (.int x :: .ref (YA Y a i) :: rest)) := by
  have hP := hH.at hi ha
  rw [he] at hP
  have hlt : x.toNatClampNeg < n := Nat.not_le.mp fun q => hin (Or.inr q)
  refine W.aald (v := va_rf (f x.toNatClampNeg)) (ty := .array .int) hexec hb (hP 0 _ rfl) ((hK.k.2 6 _ rfl).1 n (fun j => va_rf (f j))) rfl (fun q => by cases q) (by show ¬ (x < 0 ∨ (arrV _ _ _).slots.size ≤ _); rw [arrV_size]; exact hin) (by show (arrV _ _ _).slots[_]? = _; rw [arrV_read _ _ hlt]) rfl rfl hdg ?_
  rw [show f x.toNatClampNeg = some q from hq]
  exact kk
/-- stores -/
theorem hs_iast (hexec : p.tables.exec = Jvm.exec) (hb : c.code = cc) (hK : KK Y s) (hH : HS Y M H) (hS0 : va_S (AZ Y) H0 H locs) (a i : Nat) (hi : i < nF a) {n : Nat} (he : ∀ r, cellV Y a i r = ai (YC Y 0) n r) {x v : Int32} (hin : vp_in x n) {k : Nat} (hk : ix x = k) (hdg : decode cc pc = .ok (.iastore, 1))
    (kk : ∀ (H1 : Heap) (locs1 : List Loc), HS Y (mu M a i k v) H1 → va_S (AZ Y) H0 H1 locs1 → W p l e R s m args below meth c H1 locs1 cells slots Q (F0 m (pc + 1) ls rest)) (ha : a ≠ 34 ∧ a ≠ 19 := by decide) : W p l e R s m args below meth c H locs cells slots Q (F0 m pc ls (.int v :: .int x :: .ref (YA Y a i) :: rest)) := by
  subst hk
  obtain ⟨ws, q0, hP, hD, hq, -, back⟩ := hH.put hi ha
  rw [he] at hq
  exact va_iast hexec hb hK.k hP hD hS0 q0 0 hq rfl hin hdg (fun H1 locs1 hP1 hD1 hS1 => kk H1 locs1 (back (mu M a i (ix x) v) _ H1 (fun b j hb => mu_ne M _ v hb) (by rw [mu_row, he]) hP1 hD1) hS1)
theorem hs_zast (hexec : p.tables.exec = Jvm.exec) (hb : c.code = cc) (hK : KK Y s) (hH : HS Y M H) (hS0 : va_S (AZ Y) H0 H locs) (a i : Nat) (hi : i < nF a) {n : Nat} (he : ∀ r, cellV Y a i r = ai (YC Y 1) n r) {x v : Int32} (hv : isB v) (hin : vp_in x n) {k : Nat} (hk : ix x = k) (hdg : decode cc pc = .ok (.bastore, 1))
    (kk : ∀ (H1 : Heap) (locs1 : List Loc), HS Y (mu M a i k v) H1 → va_S (AZ Y) H0 H1 locs1 → W p l e R s m args below meth c H1 locs1 cells slots Q (F0 m (pc + 1) ls rest)) (ha : a ≠ 34 ∧ a ≠ 19 := by decide) : W p l e R s m args below meth c H locs cells slots Q (F0 m pc ls (.int v :: .int x :: .ref (YA Y a i) :: rest)) := by
  subst hk
  obtain ⟨ws, q0, hP, hD, hq, -, back⟩ := hH.put hi ha
  rw [he] at hq
  exact va_zast hexec hb hK.k hP hD hS0 q0 1 hq rfl hin hdg (fun H1 locs1 hP1 hD1 hS1 => kk H1 locs1 (back (mu M a i (ix x) v) _ H1 (fun b j hb => mu_ne M _ v hb) (by rw [mu_row, he, show upd (M a i) (ix x) v = upd (M a i) (ix x) (vp_nar .boolean v) by rw [isB_n hv]]) hP1 hD1) hS1)
theorem hs_cast (hexec : p.tables.exec = Jvm.exec) (hb : c.code = cc) (hK : KK Y s) (hH : HS Y M H) (hS0 : va_S (AZ Y) H0 H locs) (a i : Nat) (hi : i < nF a) {n : Nat} (he : ∀ r, cellV Y a i r = ai (YC Y 2) n r) {x v : Int32} (hv : isC v) (hin : vp_in x n) {k : Nat} (hk : ix x = k) (hdg : decode cc pc = .ok (.castore, 1))
    (kk : ∀ (H1 : Heap) (locs1 : List Loc), HS Y (mu M a i k v) H1 → va_S (AZ Y) H0 H1 locs1 → W p l e R s m args below meth c H1 locs1 cells slots Q (F0 m (pc + 1) ls rest)) (ha : a ≠ 34 ∧ a ≠ 19 := by decide) : W p l e R s m args below meth c H locs cells slots Q (F0 m pc ls (.int v :: .int x :: .ref (YA Y a i) :: rest)) := by
  subst hk
  obtain ⟨ws, q0, hP, hD, hq, -, back⟩ := hH.put hi ha
  rw [he] at hq
  exact va_cast hexec hb hK.k hP hD hS0 q0 2 hq rfl hin hdg (fun H1 locs1 hP1 hD1 hS1 => kk H1 locs1 (back (mu M a i (ix x) v) _ H1 (fun b j hb => mu_ne M _ v hb) (by rw [mu_row, he, show upd (M a i) (ix x) v = upd (M a i) (ix x) (vp_nar .char v) by rw [isC_n hv]]) hP1 hD1) hS1)
/-- a parcel's reference into a row of parcels -/
theorem hs_past (hexec : p.tables.exec = Jvm.exec) (hb : c.code = cc) (hK : KK Y s) (hH : HS Y M H) (hS0 : va_S (AZ Y) H0 H locs) (i : Nat) (hi : i < nF 5) {x : Int32} (hin : vp_in x 12) (q : Nat) (hq : q < nF 6) (hdg : decode cc pc = .ok (.aastore, 1))
    (kk : ∀ (H1 : Heap) (locs1 : List Loc), HS Y (mu M 5 i (ix x) (nI q)) H1 → va_S (AZ Y) H0 H1 locs1 → W p l e R s m args below meth c H1 locs1 cells slots Q (F0 m (pc + 1) ls rest)) : W p l e R s m args below meth c H locs cells slots Q (F0 m pc ls (.ref (YA Y 6 q) :: .int x :: .ref (YA Y 5 i) :: rest)) := by
  obtain ⟨ws, q0, hP, hD, hq0, hw, back⟩ := hH.put hi (by decide)
  obtain ⟨qk, hqk⟩ := List.getElem?_of_mem (hw 6 q (by decide) (by decide) hq)
  refine va_astq hexec hb hK.k hP hD hS0 q0 4 qk 7 hq0 rfl hqk (show CL[7]? = some ("RiverParcelService$Parcel", TX3, 7) from rfl) hin hdg (fun H1 locs1 hP1 hD1 hS1 => kk H1 locs1 (back (mu M 5 i (ix x) (nI q)) _ H1 (fun b j hb => mu_ne M _ _ hb) ?_ hP1 hD1) hS1)
  rw [mu_row]
  show aq _ _ _ = aq _ _ _
  congr 4
  funext k
  unfold va_up upd
  by_cases hk : k = ix x
  · subst hk
    have h1 : ix (nI q) = q := nI_clamp (by have : nF 6 = 132 := rfl; omega)
    simp [h1]
  · simp [hk]
/-- arraylength -/
theorem hs_alen (hexec : p.tables.exec = Jvm.exec) (hb : c.code = cc) (hK : KK Y s) (hH : HS Y M H) (a i : Nat) (hi : i < nF a) {n : Nat} {f : Nat → Int32} (t0 : Nat) {cA : ClassId} {ty : FieldType} (he : cellV Y a i (M a i) = ai cA n f) (ht : (TYS Y)[t0]? = some (cA, ty)) {v : Int32} (hv : Int32.ofNat n = v) (hdg : decode cc pc = .ok (.arraylength, 1))
    (kk : W p l e R s m args below meth c H locs cells slots Q (F0 m (pc + 1) ls (.int v :: rest))) (ha : a ≠ 34 ∧ a ≠ 19 := by decide) : W p l e R s m args below meth c H locs cells slots Q (F0 m pc ls (.ref (YA Y a i) :: rest)) := by
  have hP := hH.at hi ha
  rw [he] at hP
  exact va_alen hexec hb hK.k hP 0 t0 rfl ht hv hdg kk
/-- the receiver of a call -/
theorem hs_recv (hK : KK Y s) (hH : HS Y M H) (a i : Nat) (hi : i < nF a) (ci : Nat) {C : String} {T : u_T} {N : Nat} {fs : List Value} (he : cellV Y a i (M a i) = .inr (ci, fs)) (hc : CL[ci]? = some (C, T, N)) (ha : a ≠ 34 ∧ a ≠ 19 := by decide) : ∃ cell : Cell, H[YA Y a i]? = some cell ∧ cell.vm.isStatics = false ∧ s.vm.findClass C = some cell.cls := by
  have hP := hH.at hi ha
  rw [he] at hP
  exact va_recv hK.k hP hc (q0 := 0) rfl
end HSR
section HSR0
variable {p : Program} {l : Launch} {e : Env} {R : Room} {s : State} {m : MethodId} {args : Array Value} {below : List Frame} {meth : Method} {c : Code} {H : Heap} {locs : List Loc} {cells slots : Nat} {Q : State → Prop}
variable {cc : ByteArray} {pc : Nat} {ls : Array Slot} {rest : List Value} {H0 : Heap} {Y : LY} {M : Mem}
/-- getfield -/
theorem h0_get (hexec : p.tables.exec = Jvm.exec) (hb : c.code = cc) {own ref C : String} {T : u_T} {N index : Nat} {Ts : List Cond} (hts : ∀ w ∈ Ts, w.before args s = true) (hin : ∀ w ∈ u_ws C T N, w ∈ Ts) (hown : s.vm.findClass own = some m.cls) (hK : KK Y s) (hH : HS0 Y M H) (a i : Nat) (hi : i < nF a) (ci : Nat) {fs : List Value} (he : cellV Y a i (M a i) = .inr (ci, fs)) (hc : CL[ci]? = some (C, T, N)) (k : Nat) (hk : k < N) (hlink : (Cond.fieldLink own index ref (T k).2.1 (T k).2.2.1).before args s = true) (href : ref = (T k).1) {v : Value} (hv : fs[k]? = some v) (hdg : decode cc pc = .ok (.getfield index, 3))
    (kk : W p l e R s m args below meth c H locs cells slots Q (F0 m (pc + 3) ls (v :: rest))) : W p l e R s m args below meth c H locs cells slots Q (F0 m pc ls (.ref (YA Y a i) :: rest)) := by
  have hP := hH.at hi
  rw [he] at hP
  exact va_get hexec hb hts hin hown hK.k hP 0 rfl hc k hk hlink (fun x hx => by rw [href]; exact hx) hv hdg kk
/-- putfield of an int -/
theorem h0_put (hexec : p.tables.exec = Jvm.exec) (hb : c.code = cc) {own ref C : String} {T : u_T} {N index : Nat} {Ts : List Cond} (hts : ∀ w ∈ Ts, w.before args s = true) (hin : ∀ w ∈ u_ws C T N, w ∈ Ts) (ty0 : Nat → FieldType) (hty : ∀ k, k < N → parseFieldDescriptor (T k).2.2.1 = some (ty0 k)) (hnm : ∀ a, a < N → ∀ b, b < N → a ≠ b → (T a).2.1 ≠ (T b).2.1) (hown : s.vm.findClass own = some m.cls) (hK : KK Y s) (hH : HS0 Y M H) (hS0 : va_S (AZ Y) H0 H locs) (a i : Nat) (hi : i < nF a) (ci : Nat) {fs : List Value} (he : cellV Y a i (M a i) = .inr (ci, fs)) (hc : CL[ci]? = some (C, T, N)) (k : Nat) (hk : k < N) (hlink : (Cond.fieldLink own index ref (T k).2.1 (T k).2.2.1).before args s = true) (href : ref = (T k).1) (hfin : (T k).2.2.2 = false) {v : Int32} (hd : parseFieldDescriptor (T k).2.2.1 = some .int) (hl : k < fs.length) (he2 : cellV Y a i (upd (M a i) k v) = .inr (ci, fs.set k (.int v)))
    (hdg : decode cc pc = .ok (.putfield index, 3)) (kk : ∀ (H1 : Heap) (locs1 : List Loc), HS0 Y (mu M a i k v) H1 → va_S (AZ Y) H0 H1 locs1 → W p l e R s m args below meth c H1 locs1 cells slots Q (F0 m (pc + 3) ls rest)) : W p l e R s m args below meth c H locs cells slots Q (F0 m pc ls (.int v :: .ref (YA Y a i) :: rest)) := by
  obtain ⟨ws, q0, hP, hD, hq, -, back⟩ := hH.put hi
  rw [he] at hq
  refine va_put hexec hb hts hin ty0 hty hnm hown hK.k hP hD hS0 q0 hq hc k hk hlink (fun x hx => by rw [href]; exact hx) hfin hd rfl rfl hl hdg (fun H1 locs1 hP1 hD1 hS1 => kk H1 locs1 (back (mu M a i k v) _ H1 (fun b j hb => mu_ne M k v hb) (by rw [mu_row]; exact he2.symm) hP1 hD1) hS1)
/-- putfield of a boolean -/
theorem h0_putz (hexec : p.tables.exec = Jvm.exec) (hb : c.code = cc) {own ref C : String} {T : u_T} {N index : Nat} {Ts : List Cond} (hts : ∀ w ∈ Ts, w.before args s = true) (hin : ∀ w ∈ u_ws C T N, w ∈ Ts) (ty0 : Nat → FieldType) (hty : ∀ k, k < N → parseFieldDescriptor (T k).2.2.1 = some (ty0 k)) (hnm : ∀ a, a < N → ∀ b, b < N → a ≠ b → (T a).2.1 ≠ (T b).2.1) (hown : s.vm.findClass own = some m.cls) (hK : KK Y s) (hH : HS0 Y M H) (hS0 : va_S (AZ Y) H0 H locs) (a i : Nat) (hi : i < nF a) (ci : Nat) {fs : List Value} (he : cellV Y a i (M a i) = .inr (ci, fs)) (hc : CL[ci]? = some (C, T, N)) (k : Nat) (hk : k < N) (hlink : (Cond.fieldLink own index ref (T k).2.1 (T k).2.2.1).before args s = true) (href : ref = (T k).1) (hfin : (T k).2.2.2 = false) {v : Int32} (hd : parseFieldDescriptor (T k).2.2.1 = some .boolean) (hv : isB v) (hl : k < fs.length) (he2 : cellV Y a i (upd (M a i) k v) = .inr (ci, fs.set k (.int v)))
    (hdg : decode cc pc = .ok (.putfield index, 3)) (kk : ∀ (H1 : Heap) (locs1 : List Loc), HS0 Y (mu M a i k v) H1 → va_S (AZ Y) H0 H1 locs1 → W p l e R s m args below meth c H1 locs1 cells slots Q (F0 m (pc + 3) ls rest)) : W p l e R s m args below meth c H locs cells slots Q (F0 m pc ls (.int v :: .ref (YA Y a i) :: rest)) := by
  obtain ⟨ws, q0, hP, hD, hq, -, back⟩ := hH.put hi
  rw [he] at hq
  refine va_put hexec hb hts hin ty0 hty hnm hown hK.k hP hD hS0 q0 hq hc k hk hlink (fun x hx => by rw [href]; exact hx) hfin hd (congrArg Value.int (isB_n hv)) (isB_f hv) hl hdg (fun H1 locs1 hP1 hD1 hS1 => kk H1 locs1 (back (mu M a i k v) _ H1 (fun b j hb => mu_ne M k v hb) (by rw [mu_row]; exact he2.symm) hP1 hD1) hS1)
/-- loads -/
theorem h0_iald (hexec : p.tables.exec = Jvm.exec) (hb : c.code = cc) (hK : KK Y s) (hH : HS0 Y M H) (a i : Nat) (hi : i < nF a) {n : Nat} (he : cellV Y a i (M a i) = ai (YC Y 0) n (M a i)) {x : Int32} (hin : vp_in x n) {k : Nat} (hk : ix x = k) (hdg : decode cc pc = .ok (.iaload, 1))
    (kk : W p l e R s m args below meth c H locs cells slots Q (F0 m (pc + 1) ls (.int (M a i k) :: rest))) : W p l e R s m args below meth c H locs cells slots Q (F0 m pc ls (.int x :: .ref (YA Y a i) :: rest)) := by
  subst hk
  have hP := hH.at hi
  rw [he] at hP
  exact va_iald hexec hb hK.k hP 0 0 rfl rfl hin hdg kk
theorem h0_zald (hexec : p.tables.exec = Jvm.exec) (hb : c.code = cc) (hK : KK Y s) (hH : HS0 Y M H) (a i : Nat) (hi : i < nF a) {n : Nat} (he : cellV Y a i (M a i) = ai (YC Y 1) n (M a i)) {x : Int32} (hin : vp_in x n) {k : Nat} (hk : ix x = k) (hdg : decode cc pc = .ok (.baload, 1))
    (kk : W p l e R s m args below meth c H locs cells slots Q (F0 m (pc + 1) ls (.int (M a i k) :: rest))) : W p l e R s m args below meth c H locs cells slots Q (F0 m pc ls (.int x :: .ref (YA Y a i) :: rest)) := by
  subst hk
  have hP := hH.at hi
  rw [he] at hP
  exact va_zald hexec hb hK.k hP 0 1 rfl rfl hin hdg kk
theorem h0_cald (hexec : p.tables.exec = Jvm.exec) (hb : c.code = cc) (hK : KK Y s) (hH : HS0 Y M H) (a i : Nat) (hi : i < nF a) {n : Nat} (he : cellV Y a i (M a i) = ai (YC Y 2) n (M a i)) {x : Int32} (hin : vp_in x n) {k : Nat} (hk : ix x = k) (hdg : decode cc pc = .ok (.caload, 1))
    (kk : W p l e R s m args below meth c H locs cells slots Q (F0 m (pc + 1) ls (.int (M a i k) :: rest))) : W p l e R s m args below meth c H locs cells slots Q (F0 m pc ls (.int x :: .ref (YA Y a i) :: rest)) := by
  subst hk
  have hP := hH.at hi
  rw [he] at hP
  exact va_cald hexec hb hK.k hP 0 2 rfl rfl hin hdg kk
/-- a load of a reference: t0 the array class's place, C its component, q what lies there -/
theorem h0_aald (hexec : p.tables.exec = Jvm.exec) (hb : c.code = cc) (hK : KK Y s) (hH : HS0 Y M H) (a i : Nat) (hi : i < nF a) (t0 : Nat) {cA : ClassId} {C : String} {n : Nat} {f : Nat → Option Nat} (he : cellV Y a i (M a i) = aq cA n f) (ht : (TYS Y)[t0]? = some (cA, .object C)) {x : Int32} (hin : vp_in x n) {q : Nat} (hq : f (ix x) = some q) (hdg : decode cc pc = .ok (.aaload, 1))
    (kk : W p l e R s m args below meth c H locs cells slots Q (F0 m (pc + 1) ls (.ref q :: rest))) : W p l e R s m args below meth c H locs cells slots Q (F0 m pc ls (.int x :: .ref (YA Y a i) :: rest)) := by
  have hP := hH.at hi
  rw [he] at hP
  refine va_aldq hexec hb hK.k hP 0 t0 rfl ht hin hdg ?_
  rw [show f x.toNatClampNeg = some q from hq]
  exact kk
/-- .. of a row of an array of arrays of ints -/
theorem h0_aald2 (hexec : p.tables.exec = Jvm.exec) (hb : c.code = cc) (hK : KK Y s) (hH : HS0 Y M H) (a i : Nat) (hi : i < nF a) {n : Nat} {f : Nat → Option Nat} (he : cellV Y a i (M a i) = aq (YC Y 6) n f) {x : Int32} (hin : vp_in x n) {q : Nat} (hq : f (ix x) = some q) (hdg : decode cc pc = .ok (.aaload, 1))
    (kk : W p l e R s m args below meth c H locs cells slots Q (F0 m (pc + 1) ls (.ref q :: rest))) : W p l e R s m args below meth c H locs cells slots Q (F0 m pc ls (.int x :: .ref (YA Y a i) :: rest)) := by
  have hP := hH.at hi
  rw [he] at hP
  have hlt : x.toNatClampNeg < n := Nat.not_le.mp fun q => hin (Or.inr q)
  refine W.aald (v := va_rf (f x.toNatClampNeg)) (ty := .array .int) hexec hb (hP 0 _ rfl) ((hK.k.2 6 _ rfl).1 n (fun j => va_rf (f j))) rfl (fun q => by cases q) (by show ¬ (x < 0 ∨ (arrV _ _ _).slots.size ≤ _); rw [arrV_size]; exact hin) (by show (arrV _ _ _).slots[_]? = _; rw [arrV_read _ _ hlt]) rfl rfl hdg ?_
  rw [show f x.toNatClampNeg = some q from hq]
  exact kk
/-- stores -/
theorem h0_iast (hexec : p.tables.exec = Jvm.exec) (hb : c.code = cc) (hK : KK Y s) (hH : HS0 Y M H) (hS0 : va_S (AZ Y) H0 H locs) (a i : Nat) (hi : i < nF a) {n : Nat} (he : ∀ r, cellV Y a i r = ai (YC Y 0) n r) {x v : Int32} (hin : vp_in x n) {k : Nat} (hk : ix x = k) (hdg : decode cc pc = .ok (.iastore, 1))
    (kk : ∀ (H1 : Heap) (locs1 : List Loc), HS0 Y (mu M a i k v) H1 → va_S (AZ Y) H0 H1 locs1 → W p l e R s m args below meth c H1 locs1 cells slots Q (F0 m (pc + 1) ls rest)) : W p l e R s m args below meth c H locs cells slots Q (F0 m pc ls (.int v :: .int x :: .ref (YA Y a i) :: rest)) := by
  subst hk
  obtain ⟨ws, q0, hP, hD, hq, -, back⟩ := hH.put hi
  rw [he] at hq
  exact va_iast hexec hb hK.k hP hD hS0 q0 0 hq rfl hin hdg (fun H1 locs1 hP1 hD1 hS1 => kk H1 locs1 (back (mu M a i (ix x) v) _ H1 (fun b j hb => mu_ne M _ v hb) (by rw [mu_row, he]) hP1 hD1) hS1)
theorem h0_zast (hexec : p.tables.exec = Jvm.exec) (hb : c.code = cc) (hK : KK Y s) (hH : HS0 Y M H) (hS0 : va_S (AZ Y) H0 H locs) (a i : Nat) (hi : i < nF a) {n : Nat} (he : ∀ r, cellV Y a i r = ai (YC Y 1) n r) {x v : Int32} (hv : isB v) (hin : vp_in x n) {k : Nat} (hk : ix x = k) (hdg : decode cc pc = .ok (.bastore, 1))
    (kk : ∀ (H1 : Heap) (locs1 : List Loc), HS0 Y (mu M a i k v) H1 → va_S (AZ Y) H0 H1 locs1 → W p l e R s m args below meth c H1 locs1 cells slots Q (F0 m (pc + 1) ls rest)) : W p l e R s m args below meth c H locs cells slots Q (F0 m pc ls (.int v :: .int x :: .ref (YA Y a i) :: rest)) := by
  subst hk
  obtain ⟨ws, q0, hP, hD, hq, -, back⟩ := hH.put hi
  rw [he] at hq
  exact va_zast hexec hb hK.k hP hD hS0 q0 1 hq rfl hin hdg (fun H1 locs1 hP1 hD1 hS1 => kk H1 locs1 (back (mu M a i (ix x) v) _ H1 (fun b j hb => mu_ne M _ v hb) (by rw [mu_row, he, show upd (M a i) (ix x) v = upd (M a i) (ix x) (vp_nar .boolean v) by rw [isB_n hv]]) hP1 hD1) hS1)
theorem h0_cast (hexec : p.tables.exec = Jvm.exec) (hb : c.code = cc) (hK : KK Y s) (hH : HS0 Y M H) (hS0 : va_S (AZ Y) H0 H locs) (a i : Nat) (hi : i < nF a) {n : Nat} (he : ∀ r, cellV Y a i r = ai (YC Y 2) n r) {x v : Int32} (hv : isC v) (hin : vp_in x n) {k : Nat} (hk : ix x = k) (hdg : decode cc pc = .ok (.castore, 1))
    (kk : ∀ (H1 : Heap) (locs1 : List Loc), HS0 Y (mu M a i k v) H1 → va_S (AZ Y) H0 H1 locs1 → W p l e R s m args below meth c H1 locs1 cells slots Q (F0 m (pc + 1) ls rest)) : W p l e R s m args below meth c H locs cells slots Q (F0 m pc ls (.int v :: .int x :: .ref (YA Y a i) :: rest)) := by
  subst hk
  obtain ⟨ws, q0, hP, hD, hq, -, back⟩ := hH.put hi
  rw [he] at hq
  exact va_cast hexec hb hK.k hP hD hS0 q0 2 hq rfl hin hdg (fun H1 locs1 hP1 hD1 hS1 => kk H1 locs1 (back (mu M a i (ix x) v) _ H1 (fun b j hb => mu_ne M _ v hb) (by rw [mu_row, he, show upd (M a i) (ix x) v = upd (M a i) (ix x) (vp_nar .char v) by rw [isC_n hv]]) hP1 hD1) hS1)
/-- a parcel's reference into a row of parcels -/
theorem h0_past (hexec : p.tables.exec = Jvm.exec) (hb : c.code = cc) (hK : KK Y s) (hH : HS0 Y M H) (hS0 : va_S (AZ Y) H0 H locs) (i : Nat) (hi : i < nF 5) {x : Int32} (hin : vp_in x 12) (q : Nat) (hq : q < nF 6) (hdg : decode cc pc = .ok (.aastore, 1))
    (kk : ∀ (H1 : Heap) (locs1 : List Loc), HS0 Y (mu M 5 i (ix x) (nI q)) H1 → va_S (AZ Y) H0 H1 locs1 → W p l e R s m args below meth c H1 locs1 cells slots Q (F0 m (pc + 1) ls rest)) : W p l e R s m args below meth c H locs cells slots Q (F0 m pc ls (.ref (YA Y 6 q) :: .int x :: .ref (YA Y 5 i) :: rest)) := by
  obtain ⟨ws, q0, hP, hD, hq0, hw, back⟩ := hH.put hi
  obtain ⟨qk, hqk⟩ := List.getElem?_of_mem (hw 6 q hq)
  refine va_astq hexec hb hK.k hP hD hS0 q0 4 qk 7 hq0 rfl hqk (show CL[7]? = some ("RiverParcelService$Parcel", TX3, 7) from rfl) hin hdg (fun H1 locs1 hP1 hD1 hS1 => kk H1 locs1 (back (mu M 5 i (ix x) (nI q)) _ H1 (fun b j hb => mu_ne M _ _ hb) ?_ hP1 hD1) hS1)
  rw [mu_row]
  show aq _ _ _ = aq _ _ _
  congr 4
  funext k
  unfold va_up upd
  by_cases hk : k = ix x
  · subst hk
    have h1 : ix (nI q) = q := nI_clamp (by have : nF 6 = 132 := rfl; omega)
    simp [h1]
  · simp [hk]
/-- arraylength -/
theorem h0_alen (hexec : p.tables.exec = Jvm.exec) (hb : c.code = cc) (hK : KK Y s) (hH : HS0 Y M H) (a i : Nat) (hi : i < nF a) {n : Nat} {f : Nat → Int32} (t0 : Nat) {cA : ClassId} {ty : FieldType} (he : cellV Y a i (M a i) = ai cA n f) (ht : (TYS Y)[t0]? = some (cA, ty)) {v : Int32} (hv : Int32.ofNat n = v) (hdg : decode cc pc = .ok (.arraylength, 1))
    (kk : W p l e R s m args below meth c H locs cells slots Q (F0 m (pc + 1) ls (.int v :: rest))) : W p l e R s m args below meth c H locs cells slots Q (F0 m pc ls (.ref (YA Y a i) :: rest)) := by
  have hP := hH.at hi
  rw [he] at hP
  exact va_alen hexec hb hK.k hP 0 t0 rfl ht hv hdg kk
/-- the receiver of a call -/
theorem h0_recv (hK : KK Y s) (hH : HS0 Y M H) (a i : Nat) (hi : i < nF a) (ci : Nat) {C : String} {T : u_T} {N : Nat} {fs : List Value} (he : cellV Y a i (M a i) = .inr (ci, fs)) (hc : CL[ci]? = some (C, T, N)) : ∃ cell : Cell, H[YA Y a i]? = some cell ∧ cell.vm.isStatics = false ∧ s.vm.findClass C = some cell.cls := by
  have hP := hH.at hi
  rw [he] at hP
  exact va_recv hK.k hP hc (q0 := 0) rfl
end HSR0
