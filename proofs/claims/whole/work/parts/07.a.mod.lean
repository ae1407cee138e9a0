def f_X8_thrown (M : Mem) : Option Int32 := some (M 20 0 9)
set_option maxHeartbeats 4000000 in
set_option maxRecDepth 100000 in
theorem c_X8_thrown {Y : LY} {l : Launch} (M : Mem) {r : Int32} (hf : f_X8_thrown M = some r) : Met l yX8_thrown (WS yX8_thrown cX8_thrown 1 (Option.some Jvm.ClassFile.FieldType.int)) { frames := 0, cells := 0, slots := 0, locals := 0 } (PcM Y M [.ref (YA Y 20 0)]) (Qi Y r M) 0 0 (AZ Y) := by
  refine met_mk (lv := [(0, .ref (YA Y 20 0))]) [.ref (YA Y 20 0)] (by decide) rfl rfl (Nat.le_of_ble_eq_true rfl) (fun p e s m below meth c C0 hH ls hl => ?_)
  have hS : va_S (AZ Y) s.heap s.heap [] := va_S.rf
  obtain ⟨hx, hb, hr, hml, hown, hA, hlocks, hK, hZ⟩ := id C0
  unfold f_X8_thrown at hf
  refine lv_aload_n hx hb dX8_thrown_0 rfl (lv_at hl 0 rfl) ?_
  refine hs_get hx hb (T := TX8) hA inAX8 hown hK hH 20 0 (by decide) 12 rfl rfl 9 (by decide) (hA _ zt_1560) rfl rfl dX8_thrown_1 ?_
  cases hf
  exact hs_iret C0 hH hS (by decide) (by decide) dX8_thrown_4
def f_X8_throwing (M : Mem) (a1 : Int32) : Option (Int32 × Mem) := nm (mu M 20 0 9 a1) fun M2 => some ((-1 : Int32), M2)
set_option maxHeartbeats 4000000 in
set_option maxRecDepth 100000 in
theorem c_X8_throwing {Y : LY} {l : Launch} (M : Mem) (a1 : Int32) {r : Int32} {MZ : Mem} (hf : f_X8_throwing M a1 = some (r, MZ)) : Met l yX8_throwing (WS yX8_throwing cX8_throwing 2 (Option.some Jvm.ClassFile.FieldType.int)) { frames := 0, cells := 0, slots := 0, locals := 0 } (PcM Y M [.ref (YA Y 20 0), .int a1]) (Qi Y r MZ) 0 0 (AZ Y) := by
  refine met_mk (lv := [(0, .ref (YA Y 20 0)), (1, .int a1)]) [.ref (YA Y 20 0), .int a1] (by decide) rfl rfl (Nat.le_of_ble_eq_true rfl) (fun p e s m below meth c C0 hH ls hl => ?_)
  have hS : va_S (AZ Y) s.heap s.heap [] := va_S.rf
  obtain ⟨hx, hb, hr, hml, hown, hA, hlocks, hK, hZ⟩ := id C0
  unfold f_X8_throwing at hf
  refine lv_aload_n hx hb dX8_throwing_0 rfl (lv_at hl 0 rfl) ?_
  refine lv_iload_n hx hb dX8_throwing_1 rfl (lv_at hl 1 rfl) ?_
  refine hs_put hx hb (T := TX8) hA inAX8 tyX8 tyX8_ok nmX8 hown hK hH hS 20 0 (by decide) 12 rfl rfl 9 (by decide) (hA _ zt_1560) rfl rfl (by decide +kernel) (Nat.le_of_ble_eq_true rfl) rfl dX8_throwing_2 (fun H locs hH hS => ?_)
  obtain ⟨M2, eM2, hf⟩ := nm_o hf
  rw [← eM2] at hH
  refine lv_iconst (v := (-1 : Int32)) hx hb dX8_throwing_5 (by decide) ?_
  cases hf
  exact hs_iret C0 hH hS (by decide) (by decide) dX8_throwing_6
def f_X8_in (M : Mem) (a0 : Int64) (a2 : Int64) (a4 : Int64) : Option Int32 := (if (lg_cmp a0 a2) < 0 then some (0 : Int32) else (if 0 < (lg_cmp a0 a4) then some (0 : Int32) else some (1 : Int32)))
set_option maxHeartbeats 4000000 in
set_option maxRecDepth 100000 in
theorem c_X8_in {Y : LY} {l : Launch} (M : Mem) (a0 : Int64) (a2 : Int64) (a4 : Int64) {r : Int32} (hf : f_X8_in M a0 a2 a4 = some r) : Met l yX8_in (WS yX8_in cX8_in 6 (Option.some Jvm.ClassFile.FieldType.boolean)) { frames := 0, cells := 0, slots := 0, locals := 0 } (PcM Y M [.long a0, .long a2, .long a4]) (Qi Y r M) 0 0 (AZ Y) := by
  refine met_mk (lv := [(0, .long a0), (2, .long a2), (4, .long a4)]) [.long a0, .long a2, .long a4] (by decide) rfl rfl (Nat.le_of_ble_eq_true rfl) (fun p e s m below meth c C0 hH ls hl => ?_)
  have hS : va_S (AZ Y) s.heap s.heap [] := va_S.rf
  obtain ⟨hx, hb, hr, hml, hown, hA, hlocks, hK, hZ⟩ := id C0
  unfold f_X8_in at hf
  refine lv_lload_n hx hb dX8_in_0 rfl (lv_at hl 0 rfl) ?_
  refine lv_lload_n hx hb dX8_in_1 rfl (lv_at hl 1 rfl) ?_
  refine W.lcmp hx hb dX8_in_2 ?_
  refine lv_if_lt (tgt := 17) hx hb dX8_in_3 (by decide) (fun hc4 => ?_) (fun hc4 => ?_)
  · have hf := if_t hf hc4
    refine lv_iconst (v := (0 : Int32)) hx hb dX8_in_17 (by decide) ?_
    cases hf
    exact hs_zret C0 hH hS (by decide) (by decide) (by decide) dX8_in_18
  · have hf := if_f hf hc4
    refine lv_lload_n hx hb dX8_in_6 rfl (lv_at hl 0 rfl) ?_
    refine lv_lload hx hb dX8_in_7 (lv_at hl 2 rfl) ?_
    refine W.lcmp hx hb dX8_in_9 ?_
    refine lv_if_gt (tgt := 17) hx hb dX8_in_10 (by decide) (fun hc3 => ?_) (fun hc3 => ?_)
    · have hf := if_t hf hc3
      refine lv_iconst (v := (0 : Int32)) hx hb dX8_in_17 (by decide) ?_
      cases hf
      exact hs_zret C0 hH hS (by decide) (by decide) (by decide) dX8_in_18
    · have hf := if_f hf hc3
      refine lv_iconst (v := (1 : Int32)) hx hb dX8_in_13 (by decide) ?_
      refine lv_goto (tgt := 18) hx hb dX8_in_14 (by decide) ?_
      cases hf
      exact hs_zret C0 hH hS (by decide) (by decide) (by decide) dX8_in_18
def f_X8_starts_7 : Nat → Mem → Int32 → Option Mem
  | 0, _, _ => none
  | n + 1, M, a1 => (if (192 : Int32) ≤ a1 then some M else if vin a1 192 then (nm (mu M 22 0 (ix a1) (M 21 0 (ix a1))) fun M6 => f_X8_starts_7 n M6 (a1 + (1 : Int32))) else none)
set_option maxHeartbeats 4000000 in
set_option maxRecDepth 100000 in
theorem w_X8_starts_7 {Y : LY} {p : Program} {l : Launch} {e : Env} {s : State} {m : MethodId} {args : Array Value} {below : List Frame} {meth : Method} {c : Code} (C0 : BE Y p s m args meth c cX8_starts 2 (Option.none : Option Jvm.ClassFile.FieldType) RX8) {MZ : Mem} : ∀ (n : Nat) (M : Mem) (a1 : Int32), f_X8_starts_7 n M a1 = some MZ → ∀ (H : Heap) (locs : List Loc) (ls : Array Slot), HS Y M H → va_S (AZ Y) s.heap H locs → lv_has ls 2 [(0, .ref (YA Y 20 0)), (1, .int a1)] → W p l e { frames := 0, cells := 0, slots := 0, locals := 0 } s m args below meth c H locs 0 0 (MQ below (Qv Y MZ) args s 0 0 (AZ Y)) (F0 m 7 ls []) := by
  obtain ⟨hx, hb, hr, hml, hown, hA, hlocks, hK, hZ⟩ := id C0
  intro n
  induction n with
  | zero =>
    intro M a1 hf
    cases hf
  | succ n ih =>
    intro M a1 hf H locs ls hH hS hl
    rw [f_X8_starts_7] at hf
    refine lv_iload_n hx hb dX8_starts_7 rfl (lv_at hl 1 rfl) ?_
    refine lv_sipush (v := (192 : Int32)) hx hb dX8_starts_8 (by decide) ?_
    refine lv_icmp_ge (tgt := 32) hx hb dX8_starts_11 (by decide) (fun hc7 => ?_) (fun hc7 => ?_)
    · have hf := if_t hf hc7
      cases hf
      exact hs_vret C0 hH hS (by decide) (by decide) dX8_starts_32
    · have hf := if_f hf hc7
      refine lv_aload_n hx hb dX8_starts_14 rfl (lv_at hl 0 rfl) ?_
      refine hs_get hx hb (T := TX8) hA inAX8 hown hK hH 20 0 (by decide) 12 rfl rfl 1 (by decide) (hA _ zt_1552) rfl rfl dX8_starts_15 ?_
      refine lv_iload_n hx hb dX8_starts_18 rfl (lv_at hl 1 rfl) ?_
      refine lv_aload_n hx hb dX8_starts_19 rfl (lv_at hl 0 rfl) ?_
      refine hs_get hx hb (T := TX8) hA inAX8 hown hK hH 20 0 (by decide) 12 rfl rfl 0 (by decide) (hA _ zt_1551) rfl rfl dX8_starts_20 ?_
      refine lv_iload_n hx hb dX8_starts_23 rfl (lv_at hl 1 rfl) ?_
      obtain ⟨hg5, hf⟩ := gd_o hf
      have bhg5 := vin_lt hg5
      refine hs_iald hx hb hK hH 21 0 (by decide) rfl hg5 rfl dX8_starts_24 ?_
      refine hs_iast hx hb hK hH hS 22 0 (by decide) (fun _ => rfl) hg5 rfl dX8_starts_25 (fun H locs hH hS => ?_)
      obtain ⟨M6, eM6, hf⟩ := nm_o hf
      rw [← eM6] at hH
      refine lv_iinc (v := a1 + (1 : Int32)) (lv' := [(1, .int (a1 + (1 : Int32))), (0, .ref (YA Y 20 0))]) hx hb dX8_starts_26 hl (k := 1) rfl rfl (by decide) rfl (fun ls hl => ?_)
      refine lv_goto (tgt := 7) hx hb dX8_starts_29 (by decide) ?_
      exact ih M6 (a1 + (1 : Int32)) hf _ _ _ hH hS (lv_sub hl [1, 0] rfl)
def f_X8_starts (M : Mem) : Option Mem := nm (mu M 20 0 9 (0 : Int32)) fun M8 => f_X8_starts_7 FU M8 (0 : Int32)
set_option maxHeartbeats 4000000 in
set_option maxRecDepth 100000 in
theorem c_X8_starts {Y : LY} {l : Launch} (M : Mem) {MZ : Mem} (hf : f_X8_starts M = some MZ) : Met l yX8_starts (WS yX8_starts cX8_starts 2 (Option.none : Option Jvm.ClassFile.FieldType)) { frames := 0, cells := 0, slots := 0, locals := 0 } (PcM Y M [.ref (YA Y 20 0)]) (Qv Y MZ) 0 0 (AZ Y) := by
  refine met_mk (lv := [(0, .ref (YA Y 20 0))]) [.ref (YA Y 20 0)] (by decide) rfl rfl (Nat.le_of_ble_eq_true rfl) (fun p e s m below meth c C0 hH ls hl => ?_)
  have hS : va_S (AZ Y) s.heap s.heap [] := va_S.rf
  obtain ⟨hx, hb, hr, hml, hown, hA, hlocks, hK, hZ⟩ := id C0
  unfold f_X8_starts at hf
  refine lv_aload_n hx hb dX8_starts_0 rfl (lv_at hl 0 rfl) ?_
  refine lv_iconst (v := (0 : Int32)) hx hb dX8_starts_1 (by decide) ?_
  refine hs_put hx hb (T := TX8) hA inAX8 tyX8 tyX8_ok nmX8 hown hK hH hS 20 0 (by decide) 12 rfl rfl 9 (by decide) (hA _ zt_1560) rfl rfl (by decide +kernel) (Nat.le_of_ble_eq_true rfl) rfl dX8_starts_2 (fun H locs hH hS => ?_)
  obtain ⟨M8, eM8, hf⟩ := nm_o hf
  rw [← eM8] at hH
  refine lv_iconst (v := (0 : Int32)) hx hb dX8_starts_5 (by decide) ?_
  refine lv_istore_n (lv' := [(1, .int (0 : Int32)), (0, .ref (YA Y 20 0))]) hx hb dX8_starts_6 rfl hl (by decide) rfl (fun ls hl => ?_)
  exact w_X8_starts_7 C0 FU M8 (0 : Int32) hf _ _ _ hH hS (lv_sub hl [1, 0] rfl)
def f_X8_changed_61 : Nat → Mem → Int32 → Int32 → Option (Int32 × Mem)
  | 0, _, _, _ => none
  | n + 1, M, a1, a2 => (if (192 : Int32) ≤ a2 then nm (mu M 20 0 6 ((M 20 0 6) + (1 : Int32))) fun M13 => some (a1, M13) else if vin a2 192 then (if vin (((192 : Int32) * (M 20 0 6)) + a2) 1536 then (nm (mu M 25 0 (ix (((192 : Int32) * (M 20 0 6)) + a2)) (M 22 0 (ix a2))) fun M16 => f_X8_changed_61 n M16 a1 (a2 + (1 : Int32))) else none) else none)
set_option maxHeartbeats 4000000 in
set_option maxRecDepth 100000 in
theorem w_X8_changed_61 {Y : LY} {p : Program} {l : Launch} {e : Env} {s : State} {m : MethodId} {args : Array Value} {below : List Frame} {meth : Method} {c : Code} (C0 : BE Y p s m args meth c cX8_changed 3 (Option.some Jvm.ClassFile.FieldType.int) RX8) {r : Int32} {MZ : Mem} : ∀ (n : Nat) (M : Mem) (a1 : Int32) (a2 : Int32), f_X8_changed_61 n M a1 a2 = some (r, MZ) → ∀ (H : Heap) (locs : List Loc) (ls : Array Slot), HS Y M H → va_S (AZ Y) s.heap H locs → lv_has ls 3 [(0, .ref (YA Y 20 0)), (1, .int a1), (2, .int a2)] → W p l e { frames := 0, cells := 0, slots := 0, locals := 0 } s m args below meth c H locs 0 0 (MQ below (Qi Y r MZ) args s 0 0 (AZ Y)) (F0 m 61 ls []) := by
  obtain ⟨hx, hb, hr, hml, hown, hA, hlocks, hK, hZ⟩ := id C0
  intro n
  induction n with
  | zero =>
    intro M a1 a2 hf
    cases hf
  | succ n ih =>
    intro M a1 a2 hf H locs ls hH hS hl
    rw [f_X8_changed_61] at hf
    refine lv_iload_n hx hb dX8_changed_61 rfl (lv_at hl 2 rfl) ?_
    refine lv_sipush (v := (192 : Int32)) hx hb dX8_changed_62 (by decide) ?_
    refine lv_icmp_ge (tgt := 95) hx hb dX8_changed_65 (by decide) (fun hc17 => ?_) (fun hc17 => ?_)
    · have hf := if_t hf hc17
      refine lv_aload_n hx hb dX8_changed_95 rfl (lv_at hl 0 rfl) ?_
      refine lv_dup hx hb dX8_changed_96 rfl ?_
      refine hs_get hx hb (T := TX8) hA inAX8 hown hK hH 20 0 (by decide) 12 rfl rfl 6 (by decide) (hA _ zt_1557) rfl rfl dX8_changed_97 ?_
      refine lv_iconst (v := (1 : Int32)) hx hb dX8_changed_100 (by decide) ?_
      refine lv_iadd hx hb dX8_changed_101 ?_
      refine hs_put hx hb (T := TX8) hA inAX8 tyX8 tyX8_ok nmX8 hown hK hH hS 20 0 (by decide) 12 rfl rfl 6 (by decide) (hA _ zt_1557) rfl rfl (by decide +kernel) (Nat.le_of_ble_eq_true rfl) rfl dX8_changed_102 (fun H locs hH hS => ?_)
      obtain ⟨M13, eM13, hf⟩ := nm_o hf
      rw [← eM13] at hH
      refine lv_iload_n hx hb dX8_changed_105 rfl (lv_at hl 1 rfl) ?_
      cases hf
      exact hs_iret C0 hH hS (by decide) (by decide) dX8_changed_106
    · have hf := if_f hf hc17
      refine lv_aload_n hx hb dX8_changed_68 rfl (lv_at hl 0 rfl) ?_
      refine hs_get hx hb (T := TX8) hA inAX8 hown hK hH 20 0 (by decide) 12 rfl rfl 5 (by decide) (hA _ zt_1556) rfl rfl dX8_changed_69 ?_
      refine lv_sipush (v := (192 : Int32)) hx hb dX8_changed_72 (by decide) ?_
      refine lv_aload_n hx hb dX8_changed_75 rfl (lv_at hl 0 rfl) ?_
      refine hs_get hx hb (T := TX8) hA inAX8 hown hK hH 20 0 (by decide) 12 rfl rfl 6 (by decide) (hA _ zt_1557) rfl rfl dX8_changed_76 ?_
      refine lv_imul hx hb dX8_changed_79 ?_
      refine lv_iload_n hx hb dX8_changed_80 rfl (lv_at hl 2 rfl) ?_
      refine lv_iadd hx hb dX8_changed_81 ?_
      refine lv_aload_n hx hb dX8_changed_82 rfl (lv_at hl 0 rfl) ?_
      refine hs_get hx hb (T := TX8) hA inAX8 hown hK hH 20 0 (by decide) 12 rfl rfl 1 (by decide) (hA _ zt_1552) rfl rfl dX8_changed_83 ?_
      refine lv_iload_n hx hb dX8_changed_86 rfl (lv_at hl 2 rfl) ?_
      obtain ⟨hg14, hf⟩ := gd_o hf
      have bhg14 := vin_lt hg14
      refine hs_iald hx hb hK hH 22 0 (by decide) rfl hg14 rfl dX8_changed_87 ?_
      obtain ⟨hg15, hf⟩ := gd_o hf
      have bhg15 := vin_lt hg15
      refine hs_iast hx hb hK hH hS 25 0 (by decide) (fun _ => rfl) hg15 rfl dX8_changed_88 (fun H locs hH hS => ?_)
      obtain ⟨M16, eM16, hf⟩ := nm_o hf
      rw [← eM16] at hH
      refine lv_iinc (v := a2 + (1 : Int32)) (lv' := [(2, .int (a2 + (1 : Int32))), (0, .ref (YA Y 20 0)), (1, .int a1)]) hx hb dX8_changed_89 hl (k := 2) rfl rfl (by decide) rfl (fun ls hl => ?_)
      refine lv_goto (tgt := 61) hx hb dX8_changed_92 (by decide) ?_
      exact ih M16 a1 (a2 + (1 : Int32)) hf _ _ _ hH hS (lv_sub hl [1, 2, 0] rfl)
def f_X8_changed_59 (M : Mem) (a1 : Int32) : Option (Int32 × Mem) := f_X8_changed_61 FU M a1 (0 : Int32)
set_option maxHeartbeats 4000000 in
set_option maxRecDepth 100000 in
theorem w_X8_changed_59 {Y : LY} {p : Program} {l : Launch} {e : Env} {s : State} {m : MethodId} {args : Array Value} {below : List Frame} {meth : Method} {c : Code} (C0 : BE Y p s m args meth c cX8_changed 3 (Option.some Jvm.ClassFile.FieldType.int) RX8) {r : Int32} {MZ : Mem} : ∀ (M : Mem) (a1 : Int32), f_X8_changed_59 M a1 = some (r, MZ) → ∀ (H : Heap) (locs : List Loc) (ls : Array Slot), HS Y M H → va_S (AZ Y) s.heap H locs → lv_has ls 3 [(0, .ref (YA Y 20 0)), (1, .int a1)] → W p l e { frames := 0, cells := 0, slots := 0, locals := 0 } s m args below meth c H locs 0 0 (MQ below (Qi Y r MZ) args s 0 0 (AZ Y)) (F0 m 59 ls []) := by
  obtain ⟨hx, hb, hr, hml, hown, hA, hlocks, hK, hZ⟩ := id C0
  intro M a1 hf H locs ls hH hS hl
  unfold f_X8_changed_59 at hf
  refine lv_iconst (v := (0 : Int32)) hx hb dX8_changed_59 (by decide) ?_
  refine lv_istore_n (lv' := [(2, .int (0 : Int32)), (0, .ref (YA Y 20 0)), (1, .int a1)]) hx hb dX8_changed_60 rfl hl (by decide) rfl (fun ls hl => ?_)
  exact w_X8_changed_61 C0 FU M a1 (0 : Int32) hf _ _ _ hH hS (lv_sub hl [1, 2, 0] rfl)
def f_X8_changed_20 : Nat → Mem → Int32 → Int32 → Option (Int32 × Mem)
  | 0, _, _, _ => none
  | n + 1, M, a1, a2 => (if (1344 : Int32) ≤ a2 then nm (mu M 20 0 6 ((M 20 0 6) - (1 : Int32))) fun M18 => f_X8_changed_59 M18 a1 else if vin (a2 + (192 : Int32)) 1536 then (if vin a2 1536 then (nm (mu M 25 0 (ix a2) (M 25 0 (ix (a2 + (192 : Int32))))) fun M21 => f_X8_changed_20 n M21 a1 (a2 + (1 : Int32))) else none) else none)
set_option maxHeartbeats 4000000 in
set_option maxRecDepth 100000 in
theorem w_X8_changed_20 {Y : LY} {p : Program} {l : Launch} {e : Env} {s : State} {m : MethodId} {args : Array Value} {below : List Frame} {meth : Method} {c : Code} (C0 : BE Y p s m args meth c cX8_changed 3 (Option.some Jvm.ClassFile.FieldType.int) RX8) {r : Int32} {MZ : Mem} : ∀ (n : Nat) (M : Mem) (a1 : Int32) (a2 : Int32), f_X8_changed_20 n M a1 a2 = some (r, MZ) → ∀ (H : Heap) (locs : List Loc) (ls : Array Slot), HS Y M H → va_S (AZ Y) s.heap H locs → lv_has ls 3 [(0, .ref (YA Y 20 0)), (1, .int a1), (2, .int a2)] → W p l e { frames := 0, cells := 0, slots := 0, locals := 0 } s m args below meth c H locs 0 0 (MQ below (Qi Y r MZ) args s 0 0 (AZ Y)) (F0 m 20 ls []) := by
  obtain ⟨hx, hb, hr, hml, hown, hA, hlocks, hK, hZ⟩ := id C0
  intro n
  induction n with
  | zero =>
    intro M a1 a2 hf
    cases hf
  | succ n ih =>
    intro M a1 a2 hf H locs ls hH hS hl
    rw [f_X8_changed_20] at hf
    refine lv_iload_n hx hb dX8_changed_20 rfl (lv_at hl 2 rfl) ?_
    refine lv_sipush (v := (1344 : Int32)) hx hb dX8_changed_21 (by decide) ?_
    refine lv_icmp_ge (tgt := 49) hx hb dX8_changed_24 (by decide) (fun hc22 => ?_) (fun hc22 => ?_)
    · have hf := if_t hf hc22
      refine lv_aload_n hx hb dX8_changed_49 rfl (lv_at hl 0 rfl) ?_
      refine lv_dup hx hb dX8_changed_50 rfl ?_
      refine hs_get hx hb (T := TX8) hA inAX8 hown hK hH 20 0 (by decide) 12 rfl rfl 6 (by decide) (hA _ zt_1557) rfl rfl dX8_changed_51 ?_
      refine lv_iconst (v := (1 : Int32)) hx hb dX8_changed_54 (by decide) ?_
      refine lv_isub hx hb dX8_changed_55 ?_
      refine hs_put hx hb (T := TX8) hA inAX8 tyX8 tyX8_ok nmX8 hown hK hH hS 20 0 (by decide) 12 rfl rfl 6 (by decide) (hA _ zt_1557) rfl rfl (by decide +kernel) (Nat.le_of_ble_eq_true rfl) rfl dX8_changed_56 (fun H locs hH hS => ?_)
      obtain ⟨M18, eM18, hf⟩ := nm_o hf
      rw [← eM18] at hH
      exact w_X8_changed_59 C0 M18 a1 hf _ _ _ hH hS (lv_sub hl [0, 1] rfl)
    · have hf := if_f hf hc22
      refine lv_aload_n hx hb dX8_changed_27 rfl (lv_at hl 0 rfl) ?_
      refine hs_get hx hb (T := TX8) hA inAX8 hown hK hH 20 0 (by decide) 12 rfl rfl 5 (by decide) (hA _ zt_1556) rfl rfl dX8_changed_28 ?_
      refine lv_iload_n hx hb dX8_changed_31 rfl (lv_at hl 2 rfl) ?_
      refine lv_aload_n hx hb dX8_changed_32 rfl (lv_at hl 0 rfl) ?_
      refine hs_get hx hb (T := TX8) hA inAX8 hown hK hH 20 0 (by decide) 12 rfl rfl 5 (by decide) (hA _ zt_1556) rfl rfl dX8_changed_33 ?_
      refine lv_iload_n hx hb dX8_changed_36 rfl (lv_at hl 2 rfl) ?_
      refine lv_sipush (v := (192 : Int32)) hx hb dX8_changed_37 (by decide) ?_
      refine lv_iadd hx hb dX8_changed_40 ?_
      obtain ⟨hg19, hf⟩ := gd_o hf
      have bhg19 := vin_lt hg19
      refine hs_iald hx hb hK hH 25 0 (by decide) rfl hg19 rfl dX8_changed_41 ?_
      obtain ⟨hg20, hf⟩ := gd_o hf
      have bhg20 := vin_lt hg20
      refine hs_iast hx hb hK hH hS 25 0 (by decide) (fun _ => rfl) hg20 rfl dX8_changed_42 (fun H locs hH hS => ?_)
      obtain ⟨M21, eM21, hf⟩ := nm_o hf
      rw [← eM21] at hH
      refine lv_iinc (v := a2 + (1 : Int32)) (lv' := [(2, .int (a2 + (1 : Int32))), (0, .ref (YA Y 20 0)), (1, .int a1)]) hx hb dX8_changed_43 hl (k := 2) rfl rfl (by decide) rfl (fun ls hl => ?_)
      refine lv_goto (tgt := 20) hx hb dX8_changed_46 (by decide) ?_
      exact ih M21 a1 (a2 + (1 : Int32)) hf _ _ _ hH hS (lv_sub hl [1, 2, 0] rfl)
def f_X8_changed (M : Mem) (a1 : Int32) : Option (Int32 × Mem) := (if (M 20 0 9) ≤ 0 then (if (M 20 0 6) = (8 : Int32) then f_X8_changed_20 FU M a1 (0 : Int32) else f_X8_changed_59 M a1) else some (a1, M))
set_option maxHeartbeats 4000000 in
set_option maxRecDepth 100000 in
theorem c_X8_changed {Y : LY} {l : Launch} (M : Mem) (a1 : Int32) {r : Int32} {MZ : Mem} (hf : f_X8_changed M a1 = some (r, MZ)) : Met l yX8_changed (WS yX8_changed cX8_changed 3 (Option.some Jvm.ClassFile.FieldType.int)) { frames := 0, cells := 0, slots := 0, locals := 0 } (PcM Y M [.ref (YA Y 20 0), .int a1]) (Qi Y r MZ) 0 0 (AZ Y) := by
  refine met_mk (lv := [(0, .ref (YA Y 20 0)), (1, .int a1)]) [.ref (YA Y 20 0), .int a1] (by decide) rfl rfl (Nat.le_of_ble_eq_true rfl) (fun p e s m below meth c C0 hH ls hl => ?_)
  have hS : va_S (AZ Y) s.heap s.heap [] := va_S.rf
  obtain ⟨hx, hb, hr, hml, hown, hA, hlocks, hK, hZ⟩ := id C0
  unfold f_X8_changed at hf
  refine lv_aload_n hx hb dX8_changed_0 rfl (lv_at hl 0 rfl) ?_
  refine hs_get hx hb (T := TX8) hA inAX8 hown hK hH 20 0 (by decide) 12 rfl rfl 9 (by decide) (hA _ zt_1560) rfl rfl dX8_changed_1 ?_
  refine lv_if_le (tgt := 9) hx hb dX8_changed_4 (by decide) (fun hc24 => ?_) (fun hc24 => ?_)
  · have hf := if_t hf hc24
    refine lv_aload_n hx hb dX8_changed_9 rfl (lv_at hl 0 rfl) ?_
    refine hs_get hx hb (T := TX8) hA inAX8 hown hK hH 20 0 (by decide) 12 rfl rfl 6 (by decide) (hA _ zt_1557) rfl rfl dX8_changed_10 ?_
    refine lv_bipush (v := (8 : Int32)) hx hb dX8_changed_13 (by decide) ?_
    refine lv_icmp_ne (tgt := 59) hx hb dX8_changed_15 (by decide) (fun hc23 => ?_) (fun hc23 => ?_)
    · have hf := if_f hf hc23
      exact w_X8_changed_59 C0 M a1 hf _ _ _ hH hS (lv_sub hl [0, 1] rfl)
    · have hf := if_t hf hc23
      refine lv_iconst (v := (0 : Int32)) hx hb dX8_changed_18 (by decide) ?_
      refine lv_istore_n (lv' := [(2, .int (0 : Int32)), (0, .ref (YA Y 20 0)), (1, .int a1)]) hx hb dX8_changed_19 rfl hl (by decide) rfl (fun ls hl => ?_)
      exact w_X8_changed_20 C0 FU M a1 (0 : Int32) hf _ _ _ hH hS (lv_sub hl [1, 2, 0] rfl)
  · have hf := if_f hf hc24
    refine lv_iload_n hx hb dX8_changed_7 rfl (lv_at hl 1 rfl) ?_
    cases hf
    exact hs_iret C0 hH hS (by decide) (by decide) dX8_changed_8
def f_X8_linkAt (M : Mem) (a0 : Int32) : Option Int32 := some ((8 : Int32) + ((5 : Int32) * a0))
set_option maxHeartbeats 4000000 in
set_option maxRecDepth 100000 in
theorem c_X8_linkAt {Y : LY} {l : Launch} (M : Mem) (a0 : Int32) {r : Int32} (hf : f_X8_linkAt M a0 = some r) : Met l yX8_linkAt (WS yX8_linkAt cX8_linkAt 1 (Option.some Jvm.ClassFile.FieldType.int)) { frames := 0, cells := 0, slots := 0, locals := 0 } (PcM Y M [.int a0]) (Qi Y r M) 0 0 (AZ Y) := by
  refine met_mk (lv := [(0, .int a0)]) [.int a0] (by decide) rfl rfl (Nat.le_of_ble_eq_true rfl) (fun p e s m below meth c C0 hH ls hl => ?_)
  have hS : va_S (AZ Y) s.heap s.heap [] := va_S.rf
  obtain ⟨hx, hb, hr, hml, hown, hA, hlocks, hK, hZ⟩ := id C0
  unfold f_X8_linkAt at hf
  refine lv_bipush (v := (8 : Int32)) hx hb dX8_linkAt_0 (by decide) ?_
  refine lv_iconst (v := (5 : Int32)) hx hb dX8_linkAt_2 (by decide) ?_
  refine lv_iload_n hx hb dX8_linkAt_3 rfl (lv_at hl 0 rfl) ?_
  refine lv_imul hx hb dX8_linkAt_4 ?_
  refine lv_iadd hx hb dX8_linkAt_5 ?_
  cases hf
  exact hs_iret C0 hH hS (by decide) (by decide) dX8_linkAt_6
def f_X8_parcelAt (M : Mem) (a0 : Int32) : Option Int32 := some ((108 : Int32) + ((7 : Int32) * a0))
set_option maxHeartbeats 4000000 in
set_option maxRecDepth 100000 in
theorem c_X8_parcelAt {Y : LY} {l : Launch} (M : Mem) (a0 : Int32) {r : Int32} (hf : f_X8_parcelAt M a0 = some r) : Met l yX8_parcelAt (WS yX8_parcelAt cX8_parcelAt 1 (Option.some Jvm.ClassFile.FieldType.int)) { frames := 0, cells := 0, slots := 0, locals := 0 } (PcM Y M [.int a0]) (Qi Y r M) 0 0 (AZ Y) := by
  refine met_mk (lv := [(0, .int a0)]) [.int a0] (by decide) rfl rfl (Nat.le_of_ble_eq_true rfl) (fun p e s m below meth c C0 hH ls hl => ?_)
  have hS : va_S (AZ Y) s.heap s.heap [] := va_S.rf
  obtain ⟨hx, hb, hr, hml, hown, hA, hlocks, hK, hZ⟩ := id C0
  unfold f_X8_parcelAt at hf
  refine lv_bipush (v := (108 : Int32)) hx hb dX8_parcelAt_0 (by decide) ?_
  refine lv_bipush (v := (7 : Int32)) hx hb dX8_parcelAt_2 (by decide) ?_
  refine lv_iload_n hx hb dX8_parcelAt_4 rfl (lv_at hl 0 rfl) ?_
  refine lv_imul hx hb dX8_parcelAt_5 ?_
  refine lv_iadd hx hb dX8_parcelAt_6 ?_
  cases hf
  exact hs_iret C0 hH hS (by decide) (by decide) dX8_parcelAt_7
def f_X8_isPlace (M : Mem) (a1 : Int32) : Option Int32 := bd (f_X8_in M a1.toInt64 (0 : Int64) (((M 21 0 0) - (1 : Int32)).toInt64)) fun r5 => if isB r5 then some r5 else none
set_option maxHeartbeats 4000000 in
set_option maxRecDepth 100000 in
theorem c_X8_isPlace {Y : LY} {l : Launch} (M : Mem) (a1 : Int32) {r : Int32} (hf : f_X8_isPlace M a1 = some r) : Met l yX8_isPlace (WS yX8_isPlace cX8_isPlace 2 (Option.some Jvm.ClassFile.FieldType.boolean)) { frames := 1, cells := 0, slots := 0, locals := 25 } (PcM Y M [.ref (YA Y 20 0), .int a1]) (Qi Y r M) 0 0 (AZ Y) := by
  refine met_mk (lv := [(0, .ref (YA Y 20 0)), (1, .int a1)]) [.ref (YA Y 20 0), .int a1] (by decide) rfl rfl (Nat.le_of_ble_eq_true rfl) (fun p e s m below meth c C0 hH ls hl => ?_)
  have hS : va_S (AZ Y) s.heap s.heap [] := va_S.rf
  obtain ⟨hx, hb, hr, hml, hown, hA, hlocks, hK, hZ⟩ := id C0
  unfold f_X8_isPlace at hf
  refine lv_iload_n hx hb dX8_isPlace_0 rfl (lv_at hl 1 rfl) ?_
  refine lv_i2l (v := a1.toInt64) hx hb dX8_isPlace_1 rfl ?_
  refine lv_lconst (v := (0 : Int64)) hx hb dX8_isPlace_2 (by decide) ?_
  refine lv_aload_n hx hb dX8_isPlace_3 rfl (lv_at hl 0 rfl) ?_
  refine hs_get hx hb (T := TX8) hA inAX8 hown hK hH 20 0 (by decide) 12 rfl rfl 0 (by decide) (hA _ zt_1551) rfl rfl dX8_isPlace_4 ?_
  refine lv_iconst (v := (0 : Int32)) hx hb dX8_isPlace_7 (by decide) ?_
  refine hs_iald hx hb hK hH 21 0 (by decide) rfl (show vin (0 : Int32) 192 from by decide) (show ix (0 : Int32) = 0 from by decide) dX8_isPlace_8 ?_
  refine lv_iconst (v := (1 : Int32)) hx hb dX8_isPlace_9 (by decide) ?_
  refine lv_isub hx hb dX8_isPlace_10 ?_
  refine lv_i2l (v := ((M 21 0 0) - (1 : Int32)).toInt64) hx hb dX8_isPlace_11 rfl ?_
  obtain ⟨r5, hq4, hf⟩ := bd_o hf
  refine hs_ci (hs_runS C0 hH hS (n := 3) (As := [.long a1.toInt64, .long (0 : Int64), .long (((M 21 0 0) - (1 : Int32)).toInt64)]) (rest := []) (c_X8_in M a1.toInt64 (0 : Int64) (((M 21 0 0) - (1 : Int32)).toInt64) hq4) ⟨⟨zt_1657, zt_1658, zt_13, zt_1659⟩, by decide, by decide, by decide +kernel⟩ ⟨rfl, rfl, Nat.le_of_ble_eq_true rfl, Nat.le_of_ble_eq_true rfl⟩ rfl rfl hl.1 (Nat.le_of_ble_eq_true rfl) ⟨Nat.le_of_ble_eq_true rfl, Nat.le_of_ble_eq_true rfl⟩ dX8_isPlace_12) hS (fun H locs hH hS => ?_)
  obtain ⟨hg6, hf⟩ := gd_o hf
  cases hf
  exact hs_zret C0 hH hS (by decide) (by decide) hg6 dX8_isPlace_15
def f_X8_isLink (M : Mem) (a1 : Int32) : Option Int32 := bd (f_X8_in M a1.toInt64 (0 : Int64) (((M 21 0 1) - (1 : Int32)).toInt64)) fun r5 => if isB r5 then some r5 else none
set_option maxHeartbeats 4000000 in
set_option maxRecDepth 100000 in
theorem c_X8_isLink {Y : LY} {l : Launch} (M : Mem) (a1 : Int32) {r : Int32} (hf : f_X8_isLink M a1 = some r) : Met l yX8_isLink (WS yX8_isLink cX8_isLink 2 (Option.some Jvm.ClassFile.FieldType.boolean)) { frames := 1, cells := 0, slots := 0, locals := 25 } (PcM Y M [.ref (YA Y 20 0), .int a1]) (Qi Y r M) 0 0 (AZ Y) := by
  refine met_mk (lv := [(0, .ref (YA Y 20 0)), (1, .int a1)]) [.ref (YA Y 20 0), .int a1] (by decide) rfl rfl (Nat.le_of_ble_eq_true rfl) (fun p e s m below meth c C0 hH ls hl => ?_)
  have hS : va_S (AZ Y) s.heap s.heap [] := va_S.rf
  obtain ⟨hx, hb, hr, hml, hown, hA, hlocks, hK, hZ⟩ := id C0
  unfold f_X8_isLink at hf
  refine lv_iload_n hx hb dX8_isLink_0 rfl (lv_at hl 1 rfl) ?_
  refine lv_i2l (v := a1.toInt64) hx hb dX8_isLink_1 rfl ?_
  refine lv_lconst (v := (0 : Int64)) hx hb dX8_isLink_2 (by decide) ?_
  refine lv_aload_n hx hb dX8_isLink_3 rfl (lv_at hl 0 rfl) ?_
  refine hs_get hx hb (T := TX8) hA inAX8 hown hK hH 20 0 (by decide) 12 rfl rfl 0 (by decide) (hA _ zt_1551) rfl rfl dX8_isLink_4 ?_
  refine lv_iconst (v := (1 : Int32)) hx hb dX8_isLink_7 (by decide) ?_
  refine hs_iald hx hb hK hH 21 0 (by decide) rfl (show vin (1 : Int32) 192 from by decide) (show ix (1 : Int32) = 1 from by decide) dX8_isLink_8 ?_
  refine lv_iconst (v := (1 : Int32)) hx hb dX8_isLink_9 (by decide) ?_
  refine lv_isub hx hb dX8_isLink_10 ?_
  refine lv_i2l (v := ((M 21 0 1) - (1 : Int32)).toInt64) hx hb dX8_isLink_11 rfl ?_
  obtain ⟨r5, hq4, hf⟩ := bd_o hf
  refine hs_ci (hs_runS C0 hH hS (n := 3) (As := [.long a1.toInt64, .long (0 : Int64), .long (((M 21 0 1) - (1 : Int32)).toInt64)]) (rest := []) (c_X8_in M a1.toInt64 (0 : Int64) (((M 21 0 1) - (1 : Int32)).toInt64) hq4) ⟨⟨zt_1657, zt_1658, zt_13, zt_1659⟩, by decide, by decide, by decide +kernel⟩ ⟨rfl, rfl, Nat.le_of_ble_eq_true rfl, Nat.le_of_ble_eq_true rfl⟩ rfl rfl hl.1 (Nat.le_of_ble_eq_true rfl) ⟨Nat.le_of_ble_eq_true rfl, Nat.le_of_ble_eq_true rfl⟩ dX8_isLink_12) hS (fun H locs hH hS => ?_)
  obtain ⟨hg6, hf⟩ := gd_o hf
  cases hf
  exact hs_zret C0 hH hS (by decide) (by decide) hg6 dX8_isLink_15
def f_X8_find_2 (M : Mem) : Nat → Int32 → Int32 → Option Int32
  | 0, _, _ => none
  | n + 1, a1, a2 => (if (M 21 0 2) ≤ a2 then some (-1 : Int32) else bd (f_X8_parcelAt M a2) fun r7 => if vin r7 192 then ((if (M 21 0 (ix r7)) = a1 then some a2 else f_X8_find_2 M n a1 (a2 + (1 : Int32)))) else none)
set_option maxHeartbeats 4000000 in
set_option maxRecDepth 100000 in
theorem w_X8_find_2 {Y : LY} {p : Program} {l : Launch} {e : Env} {s : State} {m : MethodId} {args : Array Value} {below : List Frame} {meth : Method} {c : Code} (C0 : BE Y p s m args meth c cX8_find 3 (Option.some Jvm.ClassFile.FieldType.int) RX8) {r : Int32} (M : Mem) : ∀ (n : Nat) (a1 : Int32) (a2 : Int32), f_X8_find_2 M n a1 a2 = some r → ∀ (H : Heap) (locs : List Loc) (ls : Array Slot), HS Y M H → va_S (AZ Y) s.heap H locs → lv_has ls 3 [(0, .ref (YA Y 20 0)), (1, .int a1), (2, .int a2)] → W p l e { frames := 1, cells := 0, slots := 0, locals := 20 } s m args below meth c H locs 0 0 (MQ below (Qi Y r M) args s 0 0 (AZ Y)) (F0 m 2 ls []) := by
  obtain ⟨hx, hb, hr, hml, hown, hA, hlocks, hK, hZ⟩ := id C0
  intro n
  induction n with
  | zero =>
    intro a1 a2 hf
    cases hf
  | succ n ih =>
    intro a1 a2 hf H locs ls hH hS hl
    rw [f_X8_find_2] at hf
    refine lv_iload_n hx hb dX8_find_2 rfl (lv_at hl 2 rfl) ?_
    refine lv_aload_n hx hb dX8_find_3 rfl (lv_at hl 0 rfl) ?_
    refine hs_get hx hb (T := TX8) hA inAX8 hown hK hH 20 0 (by decide) 12 rfl rfl 0 (by decide) (hA _ zt_1551) rfl rfl dX8_find_4 ?_
    refine lv_iconst (v := (2 : Int32)) hx hb dX8_find_7 (by decide) ?_
    refine hs_iald hx hb hK hH 21 0 (by decide) rfl (show vin (2 : Int32) 192 from by decide) (show ix (2 : Int32) = 2 from by decide) dX8_find_8 ?_
    refine lv_icmp_ge (tgt := 33) hx hb dX8_find_9 (by decide) (fun hc10 => ?_) (fun hc10 => ?_)
    · have hf := if_t hf hc10
      refine lv_iconst (v := (-1 : Int32)) hx hb dX8_find_33 (by decide) ?_
      cases hf
      exact hs_iret C0 hH hS (by decide) (by decide) dX8_find_34
    · have hf := if_f hf hc10
      refine lv_aload_n hx hb dX8_find_12 rfl (lv_at hl 0 rfl) ?_
      refine hs_get hx hb (T := TX8) hA inAX8 hown hK hH 20 0 (by decide) 12 rfl rfl 0 (by decide) (hA _ zt_1551) rfl rfl dX8_find_13 ?_
      refine lv_iload_n hx hb dX8_find_16 rfl (lv_at hl 2 rfl) ?_
      obtain ⟨r7, hq6, hf⟩ := bd_o hf
      refine hs_ci (hs_runS C0 hH hS (n := 1) (As := [.int a2]) (rest := [.ref (YA Y 21 0)]) (c_X8_parcelAt M a2 hq6) ⟨⟨zt_1694, zt_1695, zt_13, zt_1696⟩, by decide, by decide, by decide +kernel⟩ ⟨rfl, rfl, Nat.le_of_ble_eq_true rfl, Nat.le_of_ble_eq_true rfl⟩ rfl rfl hl.1 (Nat.le_of_ble_eq_true rfl) ⟨Nat.le_of_ble_eq_true rfl, Nat.le_of_ble_eq_true rfl⟩ dX8_find_17) hS (fun H locs hH hS => ?_)
      obtain ⟨hg8, hf⟩ := gd_o hf
      have bhg8 := vin_lt hg8
      refine hs_iald hx hb hK hH 21 0 (by decide) rfl hg8 rfl dX8_find_20 ?_
      refine lv_iload_n hx hb dX8_find_21 rfl (lv_at hl 1 rfl) ?_
      refine lv_icmp_ne (tgt := 27) hx hb dX8_find_22 (by decide) (fun hc9 => ?_) (fun hc9 => ?_)
      · have hf := if_f hf hc9
        refine lv_iinc (v := a2 + (1 : Int32)) (lv' := [(2, .int (a2 + (1 : Int32))), (0, .ref (YA Y 20 0)), (1, .int a1)]) hx hb dX8_find_27 hl (k := 2) rfl rfl (by decide) rfl (fun ls hl => ?_)
        refine lv_goto (tgt := 2) hx hb dX8_find_30 (by decide) ?_
        exact ih a1 (a2 + (1 : Int32)) hf _ _ _ hH hS (lv_sub hl [1, 2, 0] rfl)
      · have hf := if_t hf hc9
        refine lv_iload_n hx hb dX8_find_25 rfl (lv_at hl 2 rfl) ?_
        cases hf
        exact hs_iret C0 hH hS (by decide) (by decide) dX8_find_26
def f_X8_find (M : Mem) (a1 : Int32) : Option Int32 := f_X8_find_2 M FU a1 (0 : Int32)
set_option maxHeartbeats 4000000 in
set_option maxRecDepth 100000 in
theorem c_X8_find {Y : LY} {l : Launch} (M : Mem) (a1 : Int32) {r : Int32} (hf : f_X8_find M a1 = some r) : Met l yX8_find (WS yX8_find cX8_find 3 (Option.some Jvm.ClassFile.FieldType.int)) { frames := 1, cells := 0, slots := 0, locals := 20 } (PcM Y M [.ref (YA Y 20 0), .int a1]) (Qi Y r M) 0 0 (AZ Y) := by
  refine met_mk (lv := [(0, .ref (YA Y 20 0)), (1, .int a1)]) [.ref (YA Y 20 0), .int a1] (by decide) rfl rfl (Nat.le_of_ble_eq_true rfl) (fun p e s m below meth c C0 hH ls hl => ?_)
  have hS : va_S (AZ Y) s.heap s.heap [] := va_S.rf
  obtain ⟨hx, hb, hr, hml, hown, hA, hlocks, hK, hZ⟩ := id C0
  unfold f_X8_find at hf
  refine lv_iconst (v := (0 : Int32)) hx hb dX8_find_0 (by decide) ?_
  refine lv_istore_n (lv' := [(2, .int (0 : Int32)), (0, .ref (YA Y 20 0)), (1, .int a1)]) hx hb dX8_find_1 rfl hl (by decide) rfl (fun ls hl => ?_)
  exact w_X8_find_2 C0 M FU a1 (0 : Int32) hf _ _ _ hH hS (lv_sub hl [1, 2, 0] rfl)
def f_X8_isOpen (M : Mem) (a1 : Int32) (a2 : Int32) : Option Int32 := bd (f_X8_linkAt M a1) fun r10 => if vin (r10 + (4 : Int32)) 192 then ((if (M 21 0 (ix (r10 + (4 : Int32)))) = 0 then bd (f_X8_linkAt M a1) fun r13 => if vin (r13 + (3 : Int32)) 192 then ((if (a2 - a2 / (6 : Int32) * (6 : Int32)) = (M 21 0 (ix (r13 + (3 : Int32)))) then some (0 : Int32) else some (1 : Int32))) else none else some (0 : Int32))) else none
set_option maxHeartbeats 4000000 in
set_option maxRecDepth 100000 in
theorem c_X8_isOpen {Y : LY} {l : Launch} (M : Mem) (a1 : Int32) (a2 : Int32) {r : Int32} (hf : f_X8_isOpen M a1 a2 = some r) : Met l yX8_isOpen (WS yX8_isOpen cX8_isOpen 3 (Option.some Jvm.ClassFile.FieldType.boolean)) { frames := 1, cells := 0, slots := 0, locals := 20 } (PcM Y M [.ref (YA Y 20 0), .int a1, .int a2]) (Qi Y r M) 0 0 (AZ Y) := by
  refine met_mk (lv := [(0, .ref (YA Y 20 0)), (1, .int a1), (2, .int a2)]) [.ref (YA Y 20 0), .int a1, .int a2] (by decide) rfl rfl (Nat.le_of_ble_eq_true rfl) (fun p e s m below meth c C0 hH ls hl => ?_)
  have hS : va_S (AZ Y) s.heap s.heap [] := va_S.rf
  obtain ⟨hx, hb, hr, hml, hown, hA, hlocks, hK, hZ⟩ := id C0
  unfold f_X8_isOpen at hf
  refine lv_aload_n hx hb dX8_isOpen_0 rfl (lv_at hl 0 rfl) ?_
  refine hs_get hx hb (T := TX8) hA inAX8 hown hK hH 20 0 (by decide) 12 rfl rfl 0 (by decide) (hA _ zt_1551) rfl rfl dX8_isOpen_1 ?_
  refine lv_iload_n hx hb dX8_isOpen_4 rfl (lv_at hl 1 rfl) ?_
  obtain ⟨r10, hq9, hf⟩ := bd_o hf
  refine hs_ci (hs_runS C0 hH hS (n := 1) (As := [.int a1]) (rest := [.ref (YA Y 21 0)]) (c_X8_linkAt M a1 hq9) ⟨⟨zt_1662, zt_1663, zt_13, zt_1664⟩, by decide, by decide, by decide +kernel⟩ ⟨rfl, rfl, Nat.le_of_ble_eq_true rfl, Nat.le_of_ble_eq_true rfl⟩ rfl rfl hl.1 (Nat.le_of_ble_eq_true rfl) ⟨Nat.le_of_ble_eq_true rfl, Nat.le_of_ble_eq_true rfl⟩ dX8_isOpen_5) hS (fun H locs hH hS => ?_)
  refine lv_iconst (v := (4 : Int32)) hx hb dX8_isOpen_8 (by decide) ?_
  refine lv_iadd hx hb dX8_isOpen_9 ?_
  obtain ⟨hg11, hf⟩ := gd_o hf
  have bhg11 := vin_lt hg11
  refine hs_iald hx hb hK hH 21 0 (by decide) rfl hg11 rfl dX8_isOpen_10 ?_
  refine lv_if_ne (tgt := 36) hx hb dX8_isOpen_11 (by decide) (fun hc16 => ?_) (fun hc16 => ?_)
  · have hf := if_f hf hc16
    refine lv_iconst (v := (0 : Int32)) hx hb dX8_isOpen_36 (by decide) ?_
    cases hf
    exact hs_zret C0 hH hS (by decide) (by decide) (by decide) dX8_isOpen_37
  · have hf := if_t hf hc16
    refine lv_iload_n hx hb dX8_isOpen_14 rfl (lv_at hl 2 rfl) ?_
    refine lv_bipush (v := (6 : Int32)) hx hb dX8_isOpen_15 (by decide) ?_
    refine lv_irem hx hb dX8_isOpen_17 (by decide) ?_
    refine lv_aload_n hx hb dX8_isOpen_18 rfl (lv_at hl 0 rfl) ?_
    refine hs_get hx hb (T := TX8) hA inAX8 hown hK hH 20 0 (by decide) 12 rfl rfl 0 (by decide) (hA _ zt_1551) rfl rfl dX8_isOpen_19 ?_
    refine lv_iload_n hx hb dX8_isOpen_22 rfl (lv_at hl 1 rfl) ?_
    obtain ⟨r13, hq12, hf⟩ := bd_o hf
    refine hs_ci (hs_runS C0 hH hS (n := 1) (As := [.int a1]) (rest := [.ref (YA Y 21 0), .int (a2 - a2 / (6 : Int32) * (6 : Int32))]) (c_X8_linkAt M a1 hq12) ⟨⟨zt_1662, zt_1663, zt_13, zt_1664⟩, by decide, by decide, by decide +kernel⟩ ⟨rfl, rfl, Nat.le_of_ble_eq_true rfl, Nat.le_of_ble_eq_true rfl⟩ rfl rfl hl.1 (Nat.le_of_ble_eq_true rfl) ⟨Nat.le_of_ble_eq_true rfl, Nat.le_of_ble_eq_true rfl⟩ dX8_isOpen_23) hS (fun H locs hH hS => ?_)
    refine lv_iconst (v := (3 : Int32)) hx hb dX8_isOpen_26 (by decide) ?_
    refine lv_iadd hx hb dX8_isOpen_27 ?_
    obtain ⟨hg14, hf⟩ := gd_o hf
    have bhg14 := vin_lt hg14
    refine hs_iald hx hb hK hH 21 0 (by decide) rfl hg14 rfl dX8_isOpen_28 ?_
    refine lv_icmp_eq (tgt := 36) hx hb dX8_isOpen_29 (by decide) (fun hc15 => ?_) (fun hc15 => ?_)
    · have hf := if_t hf hc15
      refine lv_iconst (v := (0 : Int32)) hx hb dX8_isOpen_36 (by decide) ?_
      cases hf
      exact hs_zret C0 hH hS (by decide) (by decide) (by decide) dX8_isOpen_37
    · have hf := if_f hf hc15
      refine lv_iconst (v := (1 : Int32)) hx hb dX8_isOpen_32 (by decide) ?_
      refine lv_goto (tgt := 37) hx hb dX8_isOpen_33 (by decide) ?_
      cases hf
      exact hs_zret C0 hH hS (by decide) (by decide) (by decide) dX8_isOpen_37
def f_X8_load_72 (M : Mem) (k4 : Int32 → Int32 → Int32 → Option Int32) (a1 : Int32) (a3 : Int32) (b0 : Int32) (b1 : Int32) : Option Int32 := k4 a1 (b1 + b0) (a3 + (1 : Int32))
set_option maxHeartbeats 4000000 in
set_option maxRecDepth 100000 in
theorem w_X8_load_72 {Y : LY} {p : Program} {l : Launch} {e : Env} {s : State} {m : MethodId} {args : Array Value} {below : List Frame} {meth : Method} {c : Code} (C0 : BE Y p s m args meth c cX8_load 5 (Option.some Jvm.ClassFile.FieldType.int) RX8) {r : Int32} (M : Mem) (k4 : Int32 → Int32 → Int32 → Option Int32) (hk4 : ∀ (a1 : Int32) (a2 : Int32) (a3 : Int32), k4 a1 a2 a3 = some r → ∀ (H : Heap) (locs : List Loc) (ls : Array Slot), HS Y M H → va_S (AZ Y) s.heap H locs → lv_has ls 5 [(0, .ref (YA Y 20 0)), (1, .int a1), (2, .int a2), (3, .int a3)] → W p l e { frames := 1, cells := 0, slots := 0, locals := 20 } s m args below meth c H locs 0 0 (MQ below (Qi Y r M) args s 0 0 (AZ Y)) (F0 m 4 ls [])) : ∀ (a1 : Int32) (a3 : Int32) (b0 : Int32) (b1 : Int32), f_X8_load_72 M k4 a1 a3 b0 b1 = some r → ∀ (H : Heap) (locs : List Loc) (ls : Array Slot), HS Y M H → va_S (AZ Y) s.heap H locs → lv_has ls 5 [(0, .ref (YA Y 20 0)), (1, .int a1), (3, .int a3)] → W p l e { frames := 1, cells := 0, slots := 0, locals := 20 } s m args below meth c H locs 0 0 (MQ below (Qi Y r M) args s 0 0 (AZ Y)) (F0 m 72 ls [.int b0, .int b1]) := by
  obtain ⟨hx, hb, hr, hml, hown, hA, hlocks, hK, hZ⟩ := id C0
  intro a1 a3 b0 b1 hf H locs ls hH hS hl
  unfold f_X8_load_72 at hf
  refine lv_iadd hx hb dX8_load_72 ?_
  refine lv_istore_n (lv' := [(2, .int (b1 + b0)), (0, .ref (YA Y 20 0)), (1, .int a1), (3, .int a3)]) hx hb dX8_load_73 rfl hl (by decide) rfl (fun ls hl => ?_)
  refine lv_iinc (v := a3 + (1 : Int32)) (lv' := [(3, .int (a3 + (1 : Int32))), (2, .int (b1 + b0)), (0, .ref (YA Y 20 0)), (1, .int a1)]) hx hb dX8_load_74 hl (k := 3) rfl rfl (by decide) rfl (fun ls hl => ?_)
  refine lv_goto (tgt := 4) hx hb dX8_load_77 (by decide) ?_
  exact hk4 a1 (b1 + b0) (a3 + (1 : Int32)) hf _ _ _ hH hS (lv_sub hl [2, 3, 1, 0] rfl)
def f_X8_load_49 (M : Mem) (k4 : Int32 → Int32 → Int32 → Option Int32) (a1 : Int32) (a2 : Int32) (a3 : Int32) (b0 : Int32) : Option Int32 := (if b0 = 0 then f_X8_load_72 M k4 a1 a3 (0 : Int32) a2 else bd (f_X8_parcelAt M a3) fun r15 => if vin (r15 + (2 : Int32)) 192 then (f_X8_load_72 M k4 a1 a3 (M 21 0 (ix (r15 + (2 : Int32)))) a2) else none)
set_option maxHeartbeats 4000000 in
set_option maxRecDepth 100000 in
theorem w_X8_load_49 {Y : LY} {p : Program} {l : Launch} {e : Env} {s : State} {m : MethodId} {args : Array Value} {below : List Frame} {meth : Method} {c : Code} (C0 : BE Y p s m args meth c cX8_load 5 (Option.some Jvm.ClassFile.FieldType.int) RX8) {r : Int32} (M : Mem) (k4 : Int32 → Int32 → Int32 → Option Int32) (hk4 : ∀ (a1 : Int32) (a2 : Int32) (a3 : Int32), k4 a1 a2 a3 = some r → ∀ (H : Heap) (locs : List Loc) (ls : Array Slot), HS Y M H → va_S (AZ Y) s.heap H locs → lv_has ls 5 [(0, .ref (YA Y 20 0)), (1, .int a1), (2, .int a2), (3, .int a3)] → W p l e { frames := 1, cells := 0, slots := 0, locals := 20 } s m args below meth c H locs 0 0 (MQ below (Qi Y r M) args s 0 0 (AZ Y)) (F0 m 4 ls [])) : ∀ (a1 : Int32) (a2 : Int32) (a3 : Int32) (b0 : Int32), f_X8_load_49 M k4 a1 a2 a3 b0 = some r → ∀ (H : Heap) (locs : List Loc) (ls : Array Slot), HS Y M H → va_S (AZ Y) s.heap H locs → lv_has ls 5 [(0, .ref (YA Y 20 0)), (1, .int a1), (2, .int a2), (3, .int a3)] → W p l e { frames := 1, cells := 0, slots := 0, locals := 20 } s m args below meth c H locs 0 0 (MQ below (Qi Y r M) args s 0 0 (AZ Y)) (F0 m 49 ls [.int b0]) := by
  obtain ⟨hx, hb, hr, hml, hown, hA, hlocks, hK, hZ⟩ := id C0
  intro a1 a2 a3 b0 hf H locs ls hH hS hl
  unfold f_X8_load_49 at hf
  refine lv_istore (lv' := [(4, .int b0), (0, .ref (YA Y 20 0)), (1, .int a1), (2, .int a2), (3, .int a3)]) hx hb dX8_load_49 hl (by decide) rfl (fun ls hl => ?_)
  refine lv_iload_n hx hb dX8_load_51 rfl (lv_at hl 3 rfl) ?_
  refine lv_iload hx hb dX8_load_52 (lv_at hl 0 rfl) ?_
  refine lv_if_eq (tgt := 71) hx hb dX8_load_54 (by decide) (fun hc17 => ?_) (fun hc17 => ?_)
  · have hf := if_t hf hc17
    refine lv_iconst (v := (0 : Int32)) hx hb dX8_load_71 (by decide) ?_
    exact w_X8_load_72 C0 M k4 hk4 a1 a3 (0 : Int32) a2 hf _ _ _ hH hS (lv_sub hl [1, 2, 4] rfl)
  · have hf := if_f hf hc17
    refine lv_aload_n hx hb dX8_load_57 rfl (lv_at hl 1 rfl) ?_
    refine hs_get hx hb (T := TX8) hA inAX8 hown hK hH 20 0 (by decide) 12 rfl rfl 0 (by decide) (hA _ zt_1551) rfl rfl dX8_load_58 ?_
    refine lv_iload_n hx hb dX8_load_61 rfl (lv_at hl 4 rfl) ?_
    obtain ⟨r15, hq14, hf⟩ := bd_o hf
    refine hs_ci (hs_runS C0 hH hS (n := 1) (As := [.int a3]) (rest := [.ref (YA Y 21 0), .int a2]) (c_X8_parcelAt M a3 hq14) ⟨⟨zt_1694, zt_1695, zt_13, zt_1696⟩, by decide, by decide, by decide +kernel⟩ ⟨rfl, rfl, Nat.le_of_ble_eq_true rfl, Nat.le_of_ble_eq_true rfl⟩ rfl rfl hl.1 (Nat.le_of_ble_eq_true rfl) ⟨Nat.le_of_ble_eq_true rfl, Nat.le_of_ble_eq_true rfl⟩ dX8_load_62) hS (fun H locs hH hS => ?_)
    refine lv_iconst (v := (2 : Int32)) hx hb dX8_load_65 (by decide) ?_
    refine lv_iadd hx hb dX8_load_66 ?_
    obtain ⟨hg16, hf⟩ := gd_o hf
    have bhg16 := vin_lt hg16
    refine hs_iald hx hb hK hH 21 0 (by decide) rfl hg16 rfl dX8_load_67 ?_
    refine lv_goto (tgt := 72) hx hb dX8_load_68 (by decide) ?_
    exact w_X8_load_72 C0 M k4 hk4 a1 a3 (M 21 0 (ix (r15 + (2 : Int32)))) a2 hf _ _ _ hH hS (lv_sub hl [1, 2, 4] rfl)
def f_X8_load_48 (M : Mem) (k4 : Int32 → Int32 → Int32 → Option Int32) (a1 : Int32) (a2 : Int32) (a3 : Int32) : Option Int32 := f_X8_load_49 M k4 a1 a2 a3 (0 : Int32)
set_option maxHeartbeats 4000000 in
set_option maxRecDepth 100000 in
theorem w_X8_load_48 {Y : LY} {p : Program} {l : Launch} {e : Env} {s : State} {m : MethodId} {args : Array Value} {below : List Frame} {meth : Method} {c : Code} (C0 : BE Y p s m args meth c cX8_load 5 (Option.some Jvm.ClassFile.FieldType.int) RX8) {r : Int32} (M : Mem) (k4 : Int32 → Int32 → Int32 → Option Int32) (hk4 : ∀ (a1 : Int32) (a2 : Int32) (a3 : Int32), k4 a1 a2 a3 = some r → ∀ (H : Heap) (locs : List Loc) (ls : Array Slot), HS Y M H → va_S (AZ Y) s.heap H locs → lv_has ls 5 [(0, .ref (YA Y 20 0)), (1, .int a1), (2, .int a2), (3, .int a3)] → W p l e { frames := 1, cells := 0, slots := 0, locals := 20 } s m args below meth c H locs 0 0 (MQ below (Qi Y r M) args s 0 0 (AZ Y)) (F0 m 4 ls [])) : ∀ (a1 : Int32) (a2 : Int32) (a3 : Int32), f_X8_load_48 M k4 a1 a2 a3 = some r → ∀ (H : Heap) (locs : List Loc) (ls : Array Slot), HS Y M H → va_S (AZ Y) s.heap H locs → lv_has ls 5 [(0, .ref (YA Y 20 0)), (1, .int a1), (2, .int a2), (3, .int a3)] → W p l e { frames := 1, cells := 0, slots := 0, locals := 20 } s m args below meth c H locs 0 0 (MQ below (Qi Y r M) args s 0 0 (AZ Y)) (F0 m 48 ls []) := by
  obtain ⟨hx, hb, hr, hml, hown, hA, hlocks, hK, hZ⟩ := id C0
  intro a1 a2 a3 hf H locs ls hH hS hl
  unfold f_X8_load_48 at hf
  refine lv_iconst (v := (0 : Int32)) hx hb dX8_load_48 (by decide) ?_
  exact w_X8_load_49 C0 M k4 hk4 a1 a2 a3 (0 : Int32) hf _ _ _ hH hS (lv_sub hl [0, 1, 2, 3] rfl)
def f_X8_load_4 (M : Mem) : Nat → Int32 → Int32 → Int32 → Option Int32
  | 0, _, _, _ => none
  | n + 1, a1, a2, a3 => (if (M 21 0 2) ≤ a3 then some a2 else bd (f_X8_parcelAt M a3) fun r19 => if vin (r19 + (4 : Int32)) 192 then ((if (M 21 0 (ix (r19 + (4 : Int32)))) = (-1 : Int32) then bd (f_X8_parcelAt M a3) fun r22 => if vin (r22 + (5 : Int32)) 192 then ((if (M 21 0 (ix (r22 + (5 : Int32)))) = a1 then f_X8_load_49 M (f_X8_load_4 M n) a1 a2 a3 (1 : Int32) else f_X8_load_48 M (f_X8_load_4 M n) a1 a2 a3)) else none else f_X8_load_48 M (f_X8_load_4 M n) a1 a2 a3)) else none)
set_option maxHeartbeats 4000000 in
set_option maxRecDepth 100000 in
theorem w_X8_load_4 {Y : LY} {p : Program} {l : Launch} {e : Env} {s : State} {m : MethodId} {args : Array Value} {below : List Frame} {meth : Method} {c : Code} (C0 : BE Y p s m args meth c cX8_load 5 (Option.some Jvm.ClassFile.FieldType.int) RX8) {r : Int32} (M : Mem) : ∀ (n : Nat) (a1 : Int32) (a2 : Int32) (a3 : Int32), f_X8_load_4 M n a1 a2 a3 = some r → ∀ (H : Heap) (locs : List Loc) (ls : Array Slot), HS Y M H → va_S (AZ Y) s.heap H locs → lv_has ls 5 [(0, .ref (YA Y 20 0)), (1, .int a1), (2, .int a2), (3, .int a3)] → W p l e { frames := 1, cells := 0, slots := 0, locals := 20 } s m args below meth c H locs 0 0 (MQ below (Qi Y r M) args s 0 0 (AZ Y)) (F0 m 4 ls []) := by
  obtain ⟨hx, hb, hr, hml, hown, hA, hlocks, hK, hZ⟩ := id C0
  intro n
  induction n with
  | zero =>
    intro a1 a2 a3 hf
    cases hf
  | succ n ih =>
    intro a1 a2 a3 hf H locs ls hH hS hl
    rw [f_X8_load_4] at hf
    refine lv_iload_n hx hb dX8_load_4 rfl (lv_at hl 3 rfl) ?_
    refine lv_aload_n hx hb dX8_load_5 rfl (lv_at hl 0 rfl) ?_
    refine hs_get hx hb (T := TX8) hA inAX8 hown hK hH 20 0 (by decide) 12 rfl rfl 0 (by decide) (hA _ zt_1551) rfl rfl dX8_load_6 ?_
    refine lv_iconst (v := (2 : Int32)) hx hb dX8_load_9 (by decide) ?_
    refine hs_iald hx hb hK hH 21 0 (by decide) rfl (show vin (2 : Int32) 192 from by decide) (show ix (2 : Int32) = 2 from by decide) dX8_load_10 ?_
    refine lv_icmp_ge (tgt := 80) hx hb dX8_load_11 (by decide) (fun hc26 => ?_) (fun hc26 => ?_)
    · have hf := if_t hf hc26
      refine lv_iload_n hx hb dX8_load_80 rfl (lv_at hl 2 rfl) ?_
      cases hf
      exact hs_iret C0 hH hS (by decide) (by decide) dX8_load_81
    · have hf := if_f hf hc26
      refine lv_aload_n hx hb dX8_load_14 rfl (lv_at hl 0 rfl) ?_
      refine hs_get hx hb (T := TX8) hA inAX8 hown hK hH 20 0 (by decide) 12 rfl rfl 0 (by decide) (hA _ zt_1551) rfl rfl dX8_load_15 ?_
      refine lv_iload_n hx hb dX8_load_18 rfl (lv_at hl 3 rfl) ?_
      obtain ⟨r19, hq18, hf⟩ := bd_o hf
      refine hs_ci (hs_runS C0 hH hS (n := 1) (As := [.int a3]) (rest := [.ref (YA Y 21 0)]) (c_X8_parcelAt M a3 hq18) ⟨⟨zt_1694, zt_1695, zt_13, zt_1696⟩, by decide, by decide, by decide +kernel⟩ ⟨rfl, rfl, Nat.le_of_ble_eq_true rfl, Nat.le_of_ble_eq_true rfl⟩ rfl rfl hl.1 (Nat.le_of_ble_eq_true rfl) ⟨Nat.le_of_ble_eq_true rfl, Nat.le_of_ble_eq_true rfl⟩ dX8_load_19) hS (fun H locs hH hS => ?_)
      refine lv_iconst (v := (4 : Int32)) hx hb dX8_load_22 (by decide) ?_
      refine lv_iadd hx hb dX8_load_23 ?_
      obtain ⟨hg20, hf⟩ := gd_o hf
      have bhg20 := vin_lt hg20
      refine hs_iald hx hb hK hH 21 0 (by decide) rfl hg20 rfl dX8_load_24 ?_
      refine lv_iconst (v := (-1 : Int32)) hx hb dX8_load_25 (by decide) ?_
      refine lv_icmp_ne (tgt := 48) hx hb dX8_load_26 (by decide) (fun hc25 => ?_) (fun hc25 => ?_)
      · have hf := if_f hf hc25
        exact w_X8_load_48 C0 M (f_X8_load_4 M n) ih a1 a2 a3 hf _ _ _ hH hS (lv_sub hl [0, 1, 2, 3] rfl)
      · have hf := if_t hf hc25
        refine lv_aload_n hx hb dX8_load_29 rfl (lv_at hl 0 rfl) ?_
        refine hs_get hx hb (T := TX8) hA inAX8 hown hK hH 20 0 (by decide) 12 rfl rfl 0 (by decide) (hA _ zt_1551) rfl rfl dX8_load_30 ?_
        refine lv_iload_n hx hb dX8_load_33 rfl (lv_at hl 3 rfl) ?_
        obtain ⟨r22, hq21, hf⟩ := bd_o hf
        refine hs_ci (hs_runS C0 hH hS (n := 1) (As := [.int a3]) (rest := [.ref (YA Y 21 0)]) (c_X8_parcelAt M a3 hq21) ⟨⟨zt_1694, zt_1695, zt_13, zt_1696⟩, by decide, by decide, by decide +kernel⟩ ⟨rfl, rfl, Nat.le_of_ble_eq_true rfl, Nat.le_of_ble_eq_true rfl⟩ rfl rfl hl.1 (Nat.le_of_ble_eq_true rfl) ⟨Nat.le_of_ble_eq_true rfl, Nat.le_of_ble_eq_true rfl⟩ dX8_load_34) hS (fun H locs hH hS => ?_)
        refine lv_iconst (v := (5 : Int32)) hx hb dX8_load_37 (by decide) ?_
        refine lv_iadd hx hb dX8_load_38 ?_
        obtain ⟨hg23, hf⟩ := gd_o hf
        have bhg23 := vin_lt hg23
        refine hs_iald hx hb hK hH 21 0 (by decide) rfl hg23 rfl dX8_load_39 ?_
        refine lv_iload_n hx hb dX8_load_40 rfl (lv_at hl 1 rfl) ?_
        refine lv_icmp_ne (tgt := 48) hx hb dX8_load_41 (by decide) (fun hc24 => ?_) (fun hc24 => ?_)
        · have hf := if_f hf hc24
          exact w_X8_load_48 C0 M (f_X8_load_4 M n) ih a1 a2 a3 hf _ _ _ hH hS (lv_sub hl [0, 1, 2, 3] rfl)
        · have hf := if_t hf hc24
          refine lv_iconst (v := (1 : Int32)) hx hb dX8_load_44 (by decide) ?_
          refine lv_goto (tgt := 49) hx hb dX8_load_45 (by decide) ?_
          exact w_X8_load_49 C0 M (f_X8_load_4 M n) ih a1 a2 a3 (1 : Int32) hf _ _ _ hH hS (lv_sub hl [0, 1, 2, 3] rfl)
def f_X8_load (M : Mem) (a1 : Int32) : Option Int32 := f_X8_load_4 M FU a1 (0 : Int32) (0 : Int32)
set_option maxHeartbeats 4000000 in
set_option maxRecDepth 100000 in
theorem c_X8_load {Y : LY} {l : Launch} (M : Mem) (a1 : Int32) {r : Int32} (hf : f_X8_load M a1 = some r) : Met l yX8_load (WS yX8_load cX8_load 5 (Option.some Jvm.ClassFile.FieldType.int)) { frames := 1, cells := 0, slots := 0, locals := 20 } (PcM Y M [.ref (YA Y 20 0), .int a1]) (Qi Y r M) 0 0 (AZ Y) := by
  refine met_mk (lv := [(0, .ref (YA Y 20 0)), (1, .int a1)]) [.ref (YA Y 20 0), .int a1] (by decide) rfl rfl (Nat.le_of_ble_eq_true rfl) (fun p e s m below meth c C0 hH ls hl => ?_)
  have hS : va_S (AZ Y) s.heap s.heap [] := va_S.rf
  obtain ⟨hx, hb, hr, hml, hown, hA, hlocks, hK, hZ⟩ := id C0
  unfold f_X8_load at hf
  refine lv_iconst (v := (0 : Int32)) hx hb dX8_load_0 (by decide) ?_
  refine lv_istore_n (lv' := [(2, .int (0 : Int32)), (0, .ref (YA Y 20 0)), (1, .int a1)]) hx hb dX8_load_1 rfl hl (by decide) rfl (fun ls hl => ?_)
  refine lv_iconst (v := (0 : Int32)) hx hb dX8_load_2 (by decide) ?_
  refine lv_istore_n (lv' := [(3, .int (0 : Int32)), (2, .int (0 : Int32)), (0, .ref (YA Y 20 0)), (1, .int a1)]) hx hb dX8_load_3 rfl hl (by decide) rfl (fun ls hl => ?_)
  exact w_X8_load_4 C0 M FU a1 (0 : Int32) (0 : Int32) hf _ _ _ hH hS (lv_sub hl [2, 3, 1, 0] rfl)
def f_X8_blocked_4 (M : Mem) : Nat → Int32 → Int32 → Option Int32
  | 0, _, _ => none
  | n + 1, a1, a2 => (if (M 21 0 1) ≤ a2 then some a1 else bd (f_X8_linkAt M a2) fun r6 => if vin (r6 + (4 : Int32)) 192 then (f_X8_blocked_4 M n (a1 + (M 21 0 (ix (r6 + (4 : Int32))))) (a2 + (1 : Int32))) else none)
set_option maxHeartbeats 4000000 in
set_option maxRecDepth 100000 in
theorem w_X8_blocked_4 {Y : LY} {p : Program} {l : Launch} {e : Env} {s : State} {m : MethodId} {args : Array Value} {below : List Frame} {meth : Method} {c : Code} (C0 : BE Y p s m args meth c cX8_blocked 3 (Option.some Jvm.ClassFile.FieldType.int) RX8) {r : Int32} (M : Mem) : ∀ (n : Nat) (a1 : Int32) (a2 : Int32), f_X8_blocked_4 M n a1 a2 = some r → ∀ (H : Heap) (locs : List Loc) (ls : Array Slot), HS Y M H → va_S (AZ Y) s.heap H locs → lv_has ls 3 [(0, .ref (YA Y 20 0)), (1, .int a1), (2, .int a2)] → W p l e { frames := 1, cells := 0, slots := 0, locals := 20 } s m args below meth c H locs 0 0 (MQ below (Qi Y r M) args s 0 0 (AZ Y)) (F0 m 4 ls []) := by
  obtain ⟨hx, hb, hr, hml, hown, hA, hlocks, hK, hZ⟩ := id C0
  intro n
  induction n with
  | zero =>
    intro a1 a2 hf
    cases hf
  | succ n ih =>
    intro a1 a2 hf H locs ls hH hS hl
    rw [f_X8_blocked_4] at hf
    refine lv_iload_n hx hb dX8_blocked_4 rfl (lv_at hl 2 rfl) ?_
    refine lv_aload_n hx hb dX8_blocked_5 rfl (lv_at hl 0 rfl) ?_
    refine hs_get hx hb (T := TX8) hA inAX8 hown hK hH 20 0 (by decide) 12 rfl rfl 0 (by decide) (hA _ zt_1551) rfl rfl dX8_blocked_6 ?_
    refine lv_iconst (v := (1 : Int32)) hx hb dX8_blocked_9 (by decide) ?_
    refine hs_iald hx hb hK hH 21 0 (by decide) rfl (show vin (1 : Int32) 192 from by decide) (show ix (1 : Int32) = 1 from by decide) dX8_blocked_10 ?_
    refine lv_icmp_ge (tgt := 34) hx hb dX8_blocked_11 (by decide) (fun hc8 => ?_) (fun hc8 => ?_)
    · have hf := if_t hf hc8
      refine lv_iload_n hx hb dX8_blocked_34 rfl (lv_at hl 1 rfl) ?_
      cases hf
      exact hs_iret C0 hH hS (by decide) (by decide) dX8_blocked_35
    · have hf := if_f hf hc8
      refine lv_iload_n hx hb dX8_blocked_14 rfl (lv_at hl 1 rfl) ?_
      refine lv_aload_n hx hb dX8_blocked_15 rfl (lv_at hl 0 rfl) ?_
      refine hs_get hx hb (T := TX8) hA inAX8 hown hK hH 20 0 (by decide) 12 rfl rfl 0 (by decide) (hA _ zt_1551) rfl rfl dX8_blocked_16 ?_
      refine lv_iload_n hx hb dX8_blocked_19 rfl (lv_at hl 2 rfl) ?_
      obtain ⟨r6, hq5, hf⟩ := bd_o hf
      refine hs_ci (hs_runS C0 hH hS (n := 1) (As := [.int a2]) (rest := [.ref (YA Y 21 0), .int a1]) (c_X8_linkAt M a2 hq5) ⟨⟨zt_1662, zt_1663, zt_13, zt_1664⟩, by decide, by decide, by decide +kernel⟩ ⟨rfl, rfl, Nat.le_of_ble_eq_true rfl, Nat.le_of_ble_eq_true rfl⟩ rfl rfl hl.1 (Nat.le_of_ble_eq_true rfl) ⟨Nat.le_of_ble_eq_true rfl, Nat.le_of_ble_eq_true rfl⟩ dX8_blocked_20) hS (fun H locs hH hS => ?_)
      refine lv_iconst (v := (4 : Int32)) hx hb dX8_blocked_23 (by decide) ?_
      refine lv_iadd hx hb dX8_blocked_24 ?_
      obtain ⟨hg7, hf⟩ := gd_o hf
      have bhg7 := vin_lt hg7
      refine hs_iald hx hb hK hH 21 0 (by decide) rfl hg7 rfl dX8_blocked_25 ?_
      refine lv_iadd hx hb dX8_blocked_26 ?_
      refine lv_istore_n (lv' := [(1, .int (a1 + (M 21 0 (ix (r6 + (4 : Int32)))))), (0, .ref (YA Y 20 0)), (2, .int a2)]) hx hb dX8_blocked_27 rfl hl (by decide) rfl (fun ls hl => ?_)
      refine lv_iinc (v := a2 + (1 : Int32)) (lv' := [(2, .int (a2 + (1 : Int32))), (1, .int (a1 + (M 21 0 (ix (r6 + (4 : Int32)))))), (0, .ref (YA Y 20 0))]) hx hb dX8_blocked_28 hl (k := 2) rfl rfl (by decide) rfl (fun ls hl => ?_)
      refine lv_goto (tgt := 4) hx hb dX8_blocked_31 (by decide) ?_
      exact ih (a1 + (M 21 0 (ix (r6 + (4 : Int32))))) (a2 + (1 : Int32)) hf _ _ _ hH hS (lv_sub hl [2, 1, 0] rfl)
def f_X8_blocked (M : Mem) : Option Int32 := f_X8_blocked_4 M FU (0 : Int32) (0 : Int32)
set_option maxHeartbeats 4000000 in
set_option maxRecDepth 100000 in
theorem c_X8_blocked {Y : LY} {l : Launch} (M : Mem) {r : Int32} (hf : f_X8_blocked M = some r) : Met l yX8_blocked (WS yX8_blocked cX8_blocked 3 (Option.some Jvm.ClassFile.FieldType.int)) { frames := 1, cells := 0, slots := 0, locals := 20 } (PcM Y M [.ref (YA Y 20 0)]) (Qi Y r M) 0 0 (AZ Y) := by
  refine met_mk (lv := [(0, .ref (YA Y 20 0))]) [.ref (YA Y 20 0)] (by decide) rfl rfl (Nat.le_of_ble_eq_true rfl) (fun p e s m below meth c C0 hH ls hl => ?_)
  have hS : va_S (AZ Y) s.heap s.heap [] := va_S.rf
  obtain ⟨hx, hb, hr, hml, hown, hA, hlocks, hK, hZ⟩ := id C0
  unfold f_X8_blocked at hf
  refine lv_iconst (v := (0 : Int32)) hx hb dX8_blocked_0 (by decide) ?_
  refine lv_istore_n (lv' := [(1, .int (0 : Int32)), (0, .ref (YA Y 20 0))]) hx hb dX8_blocked_1 rfl hl (by decide) rfl (fun ls hl => ?_)
  refine lv_iconst (v := (0 : Int32)) hx hb dX8_blocked_2 (by decide) ?_
  refine lv_istore_n (lv' := [(2, .int (0 : Int32)), (1, .int (0 : Int32)), (0, .ref (YA Y 20 0))]) hx hb dX8_blocked_3 rfl hl (by decide) rfl (fun ls hl => ?_)
  exact w_X8_blocked_4 C0 M FU (0 : Int32) (0 : Int32) hf _ _ _ hH hS (lv_sub hl [2, 1, 0] rfl)
def f_X8_leaves_37 : Nat → Mem → Int32 → Option Mem
  | 0, _, _ => none
  | n + 1, M, a2 => (if (192 : Int32) ≤ a2 then nm (mu M 21 0 2 ((M 21 0 2) - (1 : Int32))) fun M11 => some M11 else if vin a2 192 then (nm (mu M 21 0 (ix a2) (0 : Int32)) fun M13 => f_X8_leaves_37 n M13 (a2 + (1 : Int32))) else none)
set_option maxHeartbeats 4000000 in
set_option maxRecDepth 100000 in
theorem w_X8_leaves_37 {Y : LY} {p : Program} {l : Launch} {e : Env} {s : State} {m : MethodId} {args : Array Value} {below : List Frame} {meth : Method} {c : Code} (C0 : BE Y p s m args meth c cX8_leaves 3 (Option.none : Option Jvm.ClassFile.FieldType) RX8) {MZ : Mem} : ∀ (n : Nat) (M : Mem) (a2 : Int32), f_X8_leaves_37 n M a2 = some MZ → ∀ (H : Heap) (locs : List Loc) (ls : Array Slot), HS Y M H → va_S (AZ Y) s.heap H locs → lv_has ls 3 [(0, .ref (YA Y 20 0)), (2, .int a2)] → W p l e { frames := 1, cells := 0, slots := 0, locals := 20 } s m args below meth c H locs 0 0 (MQ below (Qv Y MZ) args s 0 0 (AZ Y)) (F0 m 37 ls []) := by
  obtain ⟨hx, hb, hr, hml, hown, hA, hlocks, hK, hZ⟩ := id C0
  intro n
  induction n with
  | zero =>
    intro M a2 hf
    cases hf
  | succ n ih =>
    intro M a2 hf H locs ls hH hS hl
    rw [f_X8_leaves_37] at hf
    refine lv_iload_n hx hb dX8_leaves_37 rfl (lv_at hl 1 rfl) ?_
    refine lv_sipush (v := (192 : Int32)) hx hb dX8_leaves_38 (by decide) ?_
    refine lv_icmp_ge (tgt := 57) hx hb dX8_leaves_41 (by decide) (fun hc14 => ?_) (fun hc14 => ?_)
    · have hf := if_t hf hc14
      refine lv_aload_n hx hb dX8_leaves_57 rfl (lv_at hl 0 rfl) ?_
      refine hs_get hx hb (T := TX8) hA inAX8 hown hK hH 20 0 (by decide) 12 rfl rfl 0 (by decide) (hA _ zt_1551) rfl rfl dX8_leaves_58 ?_
      refine lv_iconst (v := (2 : Int32)) hx hb dX8_leaves_61 (by decide) ?_
      refine lv_dup2_11 hx hb dX8_leaves_62 rfl rfl ?_
      refine hs_iald hx hb hK hH 21 0 (by decide) rfl (show vin (2 : Int32) 192 from by decide) (show ix (2 : Int32) = 2 from by decide) dX8_leaves_63 ?_
      refine lv_iconst (v := (1 : Int32)) hx hb dX8_leaves_64 (by decide) ?_
      refine lv_isub hx hb dX8_leaves_65 ?_
      refine hs_iast hx hb hK hH hS 21 0 (by decide) (fun _ => rfl) (show vin (2 : Int32) 192 from by decide) (show ix (2 : Int32) = 2 from by decide) dX8_leaves_66 (fun H locs hH hS => ?_)
      obtain ⟨M11, eM11, hf⟩ := nm_o hf
      rw [← eM11] at hH
      cases hf
      exact hs_vret C0 hH hS (by decide) (by decide) dX8_leaves_67
    · have hf := if_f hf hc14
      refine lv_aload_n hx hb dX8_leaves_44 rfl (lv_at hl 0 rfl) ?_
      refine hs_get hx hb (T := TX8) hA inAX8 hown hK hH 20 0 (by decide) 12 rfl rfl 0 (by decide) (hA _ zt_1551) rfl rfl dX8_leaves_45 ?_
      refine lv_iload_n hx hb dX8_leaves_48 rfl (lv_at hl 1 rfl) ?_
      refine lv_iconst (v := (0 : Int32)) hx hb dX8_leaves_49 (by decide) ?_
      obtain ⟨hg12, hf⟩ := gd_o hf
      have bhg12 := vin_lt hg12
      refine hs_iast hx hb hK hH hS 21 0 (by decide) (fun _ => rfl) hg12 rfl dX8_leaves_50 (fun H locs hH hS => ?_)
      obtain ⟨M13, eM13, hf⟩ := nm_o hf
      rw [← eM13] at hH
      refine lv_iinc (v := a2 + (1 : Int32)) (lv' := [(2, .int (a2 + (1 : Int32))), (0, .ref (YA Y 20 0))]) hx hb dX8_leaves_51 hl (k := 1) rfl rfl (by decide) rfl (fun ls hl => ?_)
      refine lv_goto (tgt := 37) hx hb dX8_leaves_54 (by decide) ?_
      exact ih M13 (a2 + (1 : Int32)) hf _ _ _ hH hS (lv_sub hl [1, 0] rfl)
def f_X8_leaves_5 : Nat → Mem → Int32 → Option Mem
  | 0, _, _ => none
  | n + 1, M, a2 => (if (185 : Int32) ≤ a2 then f_X8_leaves_37 FU M (185 : Int32) else if vin (a2 + (7 : Int32)) 192 then (if vin a2 192 then (nm (mu M 21 0 (ix a2) (M 21 0 (ix (a2 + (7 : Int32))))) fun M17 => f_X8_leaves_5 n M17 (a2 + (1 : Int32))) else none) else none)
set_option maxHeartbeats 4000000 in
set_option maxRecDepth 100000 in
theorem w_X8_leaves_5 {Y : LY} {p : Program} {l : Launch} {e : Env} {s : State} {m : MethodId} {args : Array Value} {below : List Frame} {meth : Method} {c : Code} (C0 : BE Y p s m args meth c cX8_leaves 3 (Option.none : Option Jvm.ClassFile.FieldType) RX8) {MZ : Mem} : ∀ (n : Nat) (M : Mem) (a2 : Int32), f_X8_leaves_5 n M a2 = some MZ → ∀ (H : Heap) (locs : List Loc) (ls : Array Slot), HS Y M H → va_S (AZ Y) s.heap H locs → lv_has ls 3 [(0, .ref (YA Y 20 0)), (2, .int a2)] → W p l e { frames := 1, cells := 0, slots := 0, locals := 20 } s m args below meth c H locs 0 0 (MQ below (Qv Y MZ) args s 0 0 (AZ Y)) (F0 m 5 ls []) := by
  obtain ⟨hx, hb, hr, hml, hown, hA, hlocks, hK, hZ⟩ := id C0
  intro n
  induction n with
  | zero =>
    intro M a2 hf
    cases hf
  | succ n ih =>
    intro M a2 hf H locs ls hH hS hl
    rw [f_X8_leaves_5] at hf
    refine lv_iload_n hx hb dX8_leaves_5 rfl (lv_at hl 1 rfl) ?_
    refine lv_sipush (v := (185 : Int32)) hx hb dX8_leaves_6 (by decide) ?_
    refine lv_icmp_ge (tgt := 33) hx hb dX8_leaves_9 (by decide) (fun hc18 => ?_) (fun hc18 => ?_)
    · have hf := if_t hf hc18
      refine lv_sipush (v := (185 : Int32)) hx hb dX8_leaves_33 (by decide) ?_
      refine lv_istore_n (lv' := [(2, .int (185 : Int32)), (0, .ref (YA Y 20 0))]) hx hb dX8_leaves_36 rfl hl (by decide) rfl (fun ls hl => ?_)
      exact w_X8_leaves_37 C0 FU M (185 : Int32) hf _ _ _ hH hS (lv_sub hl [1, 0] rfl)
    · have hf := if_f hf hc18
      refine lv_aload_n hx hb dX8_leaves_12 rfl (lv_at hl 0 rfl) ?_
      refine hs_get hx hb (T := TX8) hA inAX8 hown hK hH 20 0 (by decide) 12 rfl rfl 0 (by decide) (hA _ zt_1551) rfl rfl dX8_leaves_13 ?_
      refine lv_iload_n hx hb dX8_leaves_16 rfl (lv_at hl 1 rfl) ?_
      refine lv_aload_n hx hb dX8_leaves_17 rfl (lv_at hl 0 rfl) ?_
      refine hs_get hx hb (T := TX8) hA inAX8 hown hK hH 20 0 (by decide) 12 rfl rfl 0 (by decide) (hA _ zt_1551) rfl rfl dX8_leaves_18 ?_
      refine lv_iload_n hx hb dX8_leaves_21 rfl (lv_at hl 1 rfl) ?_
      refine lv_bipush (v := (7 : Int32)) hx hb dX8_leaves_22 (by decide) ?_
      refine lv_iadd hx hb dX8_leaves_24 ?_
      obtain ⟨hg15, hf⟩ := gd_o hf
      have bhg15 := vin_lt hg15
      refine hs_iald hx hb hK hH 21 0 (by decide) rfl hg15 rfl dX8_leaves_25 ?_
      obtain ⟨hg16, hf⟩ := gd_o hf
      have bhg16 := vin_lt hg16
      refine hs_iast hx hb hK hH hS 21 0 (by decide) (fun _ => rfl) hg16 rfl dX8_leaves_26 (fun H locs hH hS => ?_)
      obtain ⟨M17, eM17, hf⟩ := nm_o hf
      rw [← eM17] at hH
      refine lv_iinc (v := a2 + (1 : Int32)) (lv' := [(2, .int (a2 + (1 : Int32))), (0, .ref (YA Y 20 0))]) hx hb dX8_leaves_27 hl (k := 1) rfl rfl (by decide) rfl (fun ls hl => ?_)
      refine lv_goto (tgt := 5) hx hb dX8_leaves_30 (by decide) ?_
      exact ih M17 (a2 + (1 : Int32)) hf _ _ _ hH hS (lv_sub hl [1, 0] rfl)
def f_X8_leaves (M : Mem) (a1 : Int32) : Option Mem := bd (f_X8_parcelAt M a1) fun r20 => f_X8_leaves_5 FU M r20
set_option maxHeartbeats 4000000 in
set_option maxRecDepth 100000 in
theorem c_X8_leaves {Y : LY} {l : Launch} (M : Mem) (a1 : Int32) {MZ : Mem} (hf : f_X8_leaves M a1 = some MZ) : Met l yX8_leaves (WS yX8_leaves cX8_leaves 3 (Option.none : Option Jvm.ClassFile.FieldType)) { frames := 1, cells := 0, slots := 0, locals := 20 } (PcM Y M [.ref (YA Y 20 0), .int a1]) (Qv Y MZ) 0 0 (AZ Y) := by
  refine met_mk (lv := [(0, .ref (YA Y 20 0)), (1, .int a1)]) [.ref (YA Y 20 0), .int a1] (by decide) rfl rfl (Nat.le_of_ble_eq_true rfl) (fun p e s m below meth c C0 hH ls hl => ?_)
  have hS : va_S (AZ Y) s.heap s.heap [] := va_S.rf
  obtain ⟨hx, hb, hr, hml, hown, hA, hlocks, hK, hZ⟩ := id C0
  unfold f_X8_leaves at hf
  refine lv_iload_n hx hb dX8_leaves_0 rfl (lv_at hl 1 rfl) ?_
  obtain ⟨r20, hq19, hf⟩ := bd_o hf
  refine hs_ci (hs_runS C0 hH hS (n := 1) (As := [.int a1]) (rest := []) (c_X8_parcelAt M a1 hq19) ⟨⟨zt_1694, zt_1695, zt_13, zt_1696⟩, by decide, by decide, by decide +kernel⟩ ⟨rfl, rfl, Nat.le_of_ble_eq_true rfl, Nat.le_of_ble_eq_true rfl⟩ rfl rfl hl.1 (Nat.le_of_ble_eq_true rfl) ⟨Nat.le_of_ble_eq_true rfl, Nat.le_of_ble_eq_true rfl⟩ dX8_leaves_1) hS (fun H locs hH hS => ?_)
  refine lv_istore_n (lv' := [(2, .int r20), (0, .ref (YA Y 20 0)), (1, .int a1)]) hx hb dX8_leaves_4 rfl hl (by decide) rfl (fun ls hl => ?_)
  exact w_X8_leaves_5 C0 FU M r20 hf _ _ _ hH hS (lv_sub hl [1, 0] rfl)
def f_X8_reaches_186 (k33 : Mem → Int32 → Option Mem) (k42 : Mem → Int32 → Int32 → Option Mem) (M : Mem) (a3 : Int32) (a4 : Int32) : Option Mem := k42 M a3 (a4 + (1 : Int32))
set_option maxHeartbeats 4000000 in
set_option maxRecDepth 100000 in
theorem w_X8_reaches_186 {Y : LY} {p : Program} {l : Launch} {e : Env} {s : State} {m : MethodId} {args : Array Value} {below : List Frame} {meth : Method} {c : Code} (C0 : BE Y p s m args meth c cX8_reaches 8 (Option.none : Option Jvm.ClassFile.FieldType) RX8) {MZ : Mem} (k33 : Mem → Int32 → Option Mem) (hk33 : ∀ (M : Mem) (a3 : Int32), k33 M a3 = some MZ → ∀ (H : Heap) (locs : List Loc) (ls : Array Slot), HS Y M H → va_S (AZ Y) s.heap H locs → lv_has ls 8 [(0, .ref (YA Y 20 0)), (3, .int a3)] → W p l e { frames := 2, cells := 0, slots := 0, locals := 42 } s m args below meth c H locs 0 0 (MQ below (Qv Y MZ) args s 0 0 (AZ Y)) (F0 m 33 ls [])) (k42 : Mem → Int32 → Int32 → Option Mem) (hk42 : ∀ (M : Mem) (a3 : Int32) (a4 : Int32), k42 M a3 a4 = some MZ → ∀ (H : Heap) (locs : List Loc) (ls : Array Slot), HS Y M H → va_S (AZ Y) s.heap H locs → lv_has ls 8 [(0, .ref (YA Y 20 0)), (3, .int a3), (4, .int a4)] → W p l e { frames := 2, cells := 0, slots := 0, locals := 42 } s m args below meth c H locs 0 0 (MQ below (Qv Y MZ) args s 0 0 (AZ Y)) (F0 m 42 ls [])) : ∀ (M : Mem) (a3 : Int32) (a4 : Int32), f_X8_reaches_186 k33 k42 M a3 a4 = some MZ → ∀ (H : Heap) (locs : List Loc) (ls : Array Slot), HS Y M H → va_S (AZ Y) s.heap H locs → lv_has ls 8 [(0, .ref (YA Y 20 0)), (3, .int a3), (4, .int a4)] → W p l e { frames := 2, cells := 0, slots := 0, locals := 42 } s m args below meth c H locs 0 0 (MQ below (Qv Y MZ) args s 0 0 (AZ Y)) (F0 m 186 ls []) := by
  obtain ⟨hx, hb, hr, hml, hown, hA, hlocks, hK, hZ⟩ := id C0
  intro M a3 a4 hf H locs ls hH hS hl
  unfold f_X8_reaches_186 at hf
  refine lv_iinc (v := a4 + (1 : Int32)) (lv' := [(4, .int (a4 + (1 : Int32))), (0, .ref (YA Y 20 0)), (3, .int a3)]) hx hb dX8_reaches_186 hl (k := 2) rfl rfl (by decide) rfl (fun ls hl => ?_)
  refine lv_goto (tgt := 42) hx hb dX8_reaches_189 (by decide) ?_
  exact hk42 M a3 (a4 + (1 : Int32)) hf _ _ _ hH hS (lv_sub hl [1, 2, 0] rfl)
def f_X8_reaches_152 (k33 : Mem → Int32 → Option Mem) (k42 : Mem → Int32 → Int32 → Option Mem) (M : Mem) (a4 : Int32) (a5 : Int32) (a7 : Int32) (b0 : Int32) : Option Mem := if vin (a5 + (1 : Int32)) 192 then (if vin (M 21 0 (ix (a5 + (1 : Int32)))) 9 then (nm (mu M 27 0 (ix (M 21 0 (ix (a5 + (1 : Int32))))) (if a7 < (M 27 0 (ix (M 21 0 (ix (a5 + (1 : Int32)))))) then a7 else (M 27 0 (ix (M 21 0 (ix (a5 + (1 : Int32)))))))) fun M27 => f_X8_reaches_186 k33 k42 M27 b0 a4) else none) else none
set_option maxHeartbeats 4000000 in
set_option maxRecDepth 100000 in
theorem w_X8_reaches_152 {Y : LY} {p : Program} {l : Launch} {e : Env} {s : State} {m : MethodId} {args : Array Value} {below : List Frame} {meth : Method} {c : Code} (C0 : BE Y p s m args meth c cX8_reaches 8 (Option.none : Option Jvm.ClassFile.FieldType) RX8) {MZ : Mem} (k33 : Mem → Int32 → Option Mem) (hk33 : ∀ (M : Mem) (a3 : Int32), k33 M a3 = some MZ → ∀ (H : Heap) (locs : List Loc) (ls : Array Slot), HS Y M H → va_S (AZ Y) s.heap H locs → lv_has ls 8 [(0, .ref (YA Y 20 0)), (3, .int a3)] → W p l e { frames := 2, cells := 0, slots := 0, locals := 42 } s m args below meth c H locs 0 0 (MQ below (Qv Y MZ) args s 0 0 (AZ Y)) (F0 m 33 ls [])) (k42 : Mem → Int32 → Int32 → Option Mem) (hk42 : ∀ (M : Mem) (a3 : Int32) (a4 : Int32), k42 M a3 a4 = some MZ → ∀ (H : Heap) (locs : List Loc) (ls : Array Slot), HS Y M H → va_S (AZ Y) s.heap H locs → lv_has ls 8 [(0, .ref (YA Y 20 0)), (3, .int a3), (4, .int a4)] → W p l e { frames := 2, cells := 0, slots := 0, locals := 42 } s m args below meth c H locs 0 0 (MQ below (Qv Y MZ) args s 0 0 (AZ Y)) (F0 m 42 ls [])) : ∀ (M : Mem) (a4 : Int32) (a5 : Int32) (a7 : Int32) (b0 : Int32), f_X8_reaches_152 k33 k42 M a4 a5 a7 b0 = some MZ → ∀ (H : Heap) (locs : List Loc) (ls : Array Slot), HS Y M H → va_S (AZ Y) s.heap H locs → lv_has ls 8 [(0, .ref (YA Y 20 0)), (4, .int a4), (5, .int a5), (7, .int a7)] → W p l e { frames := 2, cells := 0, slots := 0, locals := 42 } s m args below meth c H locs 0 0 (MQ below (Qv Y MZ) args s 0 0 (AZ Y)) (F0 m 152 ls [.int b0]) := by
  obtain ⟨hx, hb, hr, hml, hown, hA, hlocks, hK, hZ⟩ := id C0
  intro M a4 a5 a7 b0 hf H locs ls hH hS hl
  unfold f_X8_reaches_152 at hf
  refine lv_istore_n (lv' := [(3, .int b0), (0, .ref (YA Y 20 0)), (4, .int a4), (5, .int a5), (7, .int a7)]) hx hb dX8_reaches_152 rfl hl (by decide) rfl (fun ls hl => ?_)
  refine lv_aload_n hx hb dX8_reaches_153 rfl (lv_at hl 1 rfl) ?_
  refine hs_get hx hb (T := TX8) hA inAX8 hown hK hH 20 0 (by decide) 12 rfl rfl 12 (by decide) (hA _ zt_1563) rfl rfl dX8_reaches_154 ?_
  refine lv_aload_n hx hb dX8_reaches_157 rfl (lv_at hl 1 rfl) ?_
  refine hs_get hx hb (T := TX8) hA inAX8 hown hK hH 20 0 (by decide) 12 rfl rfl 0 (by decide) (hA _ zt_1551) rfl rfl dX8_reaches_158 ?_
  refine lv_iload hx hb dX8_reaches_161 (lv_at hl 3 rfl) ?_
  refine lv_iconst (v := (1 : Int32)) hx hb dX8_reaches_163 (by decide) ?_
  refine lv_iadd hx hb dX8_reaches_164 ?_
  obtain ⟨hg25, hf⟩ := gd_o hf
  have bhg25 := vin_lt hg25
  refine hs_iald hx hb hK hH 21 0 (by decide) rfl hg25 rfl dX8_reaches_165 ?_
  refine lv_aload_n hx hb dX8_reaches_166 rfl (lv_at hl 1 rfl) ?_
  refine hs_get hx hb (T := TX8) hA inAX8 hown hK hH 20 0 (by decide) 12 rfl rfl 12 (by decide) (hA _ zt_1563) rfl rfl dX8_reaches_167 ?_
  refine lv_aload_n hx hb dX8_reaches_170 rfl (lv_at hl 1 rfl) ?_
  refine hs_get hx hb (T := TX8) hA inAX8 hown hK hH 20 0 (by decide) 12 rfl rfl 0 (by decide) (hA _ zt_1551) rfl rfl dX8_reaches_171 ?_
  refine lv_iload hx hb dX8_reaches_174 (lv_at hl 3 rfl) ?_
  refine lv_iconst (v := (1 : Int32)) hx hb dX8_reaches_176 (by decide) ?_
  refine lv_iadd hx hb dX8_reaches_177 ?_
  refine hs_iald hx hb hK hH 21 0 (by decide) rfl hg25 rfl dX8_reaches_178 ?_
  obtain ⟨hg26, hf⟩ := gd_o hf
  have bhg26 := vin_lt hg26
  refine hs_iald hx hb hK hH 27 0 (by decide) rfl hg26 rfl dX8_reaches_179 ?_
  refine lv_iload hx hb dX8_reaches_180 (lv_at hl 4 rfl) ?_
  refine va_mmin hx hb (by rw [hml]; exact hl.1.symm) hown (hA _ zt_1774) (hA _ zt_613) (hA _ zt_21) (hA _ zt_614) (Nat.le_of_ble_eq_true rfl) (Nat.le_of_ble_eq_true rfl) (Nat.le_of_ble_eq_true rfl) (Nat.le_of_ble_eq_true rfl) dX8_reaches_182 ?_
  refine hs_iast hx hb hK hH hS 27 0 (by decide) (fun _ => rfl) hg26 rfl dX8_reaches_185 (fun H locs hH hS => ?_)
  obtain ⟨M27, eM27, hf⟩ := nm_o hf
  rw [← eM27] at hH
  exact w_X8_reaches_186 C0 k33 hk33 k42 hk42 M27 b0 a4 hf _ _ _ hH hS (lv_sub hl [1, 0, 2] rfl)
def f_X8_reaches_147 (k33 : Mem → Int32 → Option Mem) (k42 : Mem → Int32 → Int32 → Option Mem) (M : Mem) (a4 : Int32) (a5 : Int32) (a7 : Int32) : Option Mem := f_X8_reaches_152 k33 k42 M a4 a5 a7 (1 : Int32)
set_option maxHeartbeats 4000000 in
set_option maxRecDepth 100000 in
theorem w_X8_reaches_147 {Y : LY} {p : Program} {l : Launch} {e : Env} {s : State} {m : MethodId} {args : Array Value} {below : List Frame} {meth : Method} {c : Code} (C0 : BE Y p s m args meth c cX8_reaches 8 (Option.none : Option Jvm.ClassFile.FieldType) RX8) {MZ : Mem} (k33 : Mem → Int32 → Option Mem) (hk33 : ∀ (M : Mem) (a3 : Int32), k33 M a3 = some MZ → ∀ (H : Heap) (locs : List Loc) (ls : Array Slot), HS Y M H → va_S (AZ Y) s.heap H locs → lv_has ls 8 [(0, .ref (YA Y 20 0)), (3, .int a3)] → W p l e { frames := 2, cells := 0, slots := 0, locals := 42 } s m args below meth c H locs 0 0 (MQ below (Qv Y MZ) args s 0 0 (AZ Y)) (F0 m 33 ls [])) (k42 : Mem → Int32 → Int32 → Option Mem) (hk42 : ∀ (M : Mem) (a3 : Int32) (a4 : Int32), k42 M a3 a4 = some MZ → ∀ (H : Heap) (locs : List Loc) (ls : Array Slot), HS Y M H → va_S (AZ Y) s.heap H locs → lv_has ls 8 [(0, .ref (YA Y 20 0)), (3, .int a3), (4, .int a4)] → W p l e { frames := 2, cells := 0, slots := 0, locals := 42 } s m args below meth c H locs 0 0 (MQ below (Qv Y MZ) args s 0 0 (AZ Y)) (F0 m 42 ls [])) : ∀ (M : Mem) (a4 : Int32) (a5 : Int32) (a7 : Int32), f_X8_reaches_147 k33 k42 M a4 a5 a7 = some MZ → ∀ (H : Heap) (locs : List Loc) (ls : Array Slot), HS Y M H → va_S (AZ Y) s.heap H locs → lv_has ls 8 [(0, .ref (YA Y 20 0)), (4, .int a4), (5, .int a5), (7, .int a7)] → W p l e { frames := 2, cells := 0, slots := 0, locals := 42 } s m args below meth c H locs 0 0 (MQ below (Qv Y MZ) args s 0 0 (AZ Y)) (F0 m 147 ls []) := by
  obtain ⟨hx, hb, hr, hml, hown, hA, hlocks, hK, hZ⟩ := id C0
  intro M a4 a5 a7 hf H locs ls hH hS hl
  unfold f_X8_reaches_147 at hf
  refine lv_iconst (v := (1 : Int32)) hx hb dX8_reaches_147 (by decide) ?_
  refine lv_goto (tgt := 152) hx hb dX8_reaches_148 (by decide) ?_
  exact w_X8_reaches_152 C0 k33 hk33 k42 hk42 M a4 a5 a7 (1 : Int32) hf _ _ _ hH hS (lv_sub hl [0, 1, 2, 3] rfl)
def f_X8_reaches_111 (k33 : Mem → Int32 → Option Mem) (k42 : Mem → Int32 → Int32 → Option Mem) (M : Mem) (a3 : Int32) (a4 : Int32) (a5 : Int32) (b0 : Int32) (b1 : Int32) : Option Mem := if vin (a5 + (2 : Int32)) 192 then ((if a3 = 0 then if vin (a5 + (1 : Int32)) 192 then (if vin (M 21 0 (ix (a5 + (1 : Int32)))) 9 then ((if (M 27 0 (ix (M 21 0 (ix (a5 + (1 : Int32)))))) ≤ ((b1 + b0) + (M 21 0 (ix (a5 + (2 : Int32))))) then f_X8_reaches_152 k33 k42 M a4 a5 ((b1 + b0) + (M 21 0 (ix (a5 + (2 : Int32))))) (0 : Int32) else f_X8_reaches_147 k33 k42 M a4 a5 ((b1 + b0) + (M 21 0 (ix (a5 + (2 : Int32))))))) else none) else none else f_X8_reaches_147 k33 k42 M a4 a5 ((b1 + b0) + (M 21 0 (ix (a5 + (2 : Int32))))))) else none
set_option maxHeartbeats 4000000 in
set_option maxRecDepth 100000 in
theorem w_X8_reaches_111 {Y : LY} {p : Program} {l : Launch} {e : Env} {s : State} {m : MethodId} {args : Array Value} {below : List Frame} {meth : Method} {c : Code} (C0 : BE Y p s m args meth c cX8_reaches 8 (Option.none : Option Jvm.ClassFile.FieldType) RX8) {MZ : Mem} (k33 : Mem → Int32 → Option Mem) (hk33 : ∀ (M : Mem) (a3 : Int32), k33 M a3 = some MZ → ∀ (H : Heap) (locs : List Loc) (ls : Array Slot), HS Y M H → va_S (AZ Y) s.heap H locs → lv_has ls 8 [(0, .ref (YA Y 20 0)), (3, .int a3)] → W p l e { frames := 2, cells := 0, slots := 0, locals := 42 } s m args below meth c H locs 0 0 (MQ below (Qv Y MZ) args s 0 0 (AZ Y)) (F0 m 33 ls [])) (k42 : Mem → Int32 → Int32 → Option Mem) (hk42 : ∀ (M : Mem) (a3 : Int32) (a4 : Int32), k42 M a3 a4 = some MZ → ∀ (H : Heap) (locs : List Loc) (ls : Array Slot), HS Y M H → va_S (AZ Y) s.heap H locs → lv_has ls 8 [(0, .ref (YA Y 20 0)), (3, .int a3), (4, .int a4)] → W p l e { frames := 2, cells := 0, slots := 0, locals := 42 } s m args below meth c H locs 0 0 (MQ below (Qv Y MZ) args s 0 0 (AZ Y)) (F0 m 42 ls [])) : ∀ (M : Mem) (a3 : Int32) (a4 : Int32) (a5 : Int32) (b0 : Int32) (b1 : Int32), f_X8_reaches_111 k33 k42 M a3 a4 a5 b0 b1 = some MZ → ∀ (H : Heap) (locs : List Loc) (ls : Array Slot), HS Y M H → va_S (AZ Y) s.heap H locs → lv_has ls 8 [(0, .ref (YA Y 20 0)), (3, .int a3), (4, .int a4), (5, .int a5)] → W p l e { frames := 2, cells := 0, slots := 0, locals := 42 } s m args below meth c H locs 0 0 (MQ below (Qv Y MZ) args s 0 0 (AZ Y)) (F0 m 111 ls [.int b0, .int b1]) := by
  obtain ⟨hx, hb, hr, hml, hown, hA, hlocks, hK, hZ⟩ := id C0
  intro M a3 a4 a5 b0 b1 hf H locs ls hH hS hl
  unfold f_X8_reaches_111 at hf
  refine lv_iadd hx hb dX8_reaches_111 ?_
  refine lv_aload_n hx hb dX8_reaches_112 rfl (lv_at hl 0 rfl) ?_
  refine hs_get hx hb (T := TX8) hA inAX8 hown hK hH 20 0 (by decide) 12 rfl rfl 0 (by decide) (hA _ zt_1551) rfl rfl dX8_reaches_113 ?_
  refine lv_iload hx hb dX8_reaches_116 (lv_at hl 3 rfl) ?_
  refine lv_iconst (v := (2 : Int32)) hx hb dX8_reaches_118 (by decide) ?_
  refine lv_iadd hx hb dX8_reaches_119 ?_
  obtain ⟨hg28, hf⟩ := gd_o hf
  have bhg28 := vin_lt hg28
  refine hs_iald hx hb hK hH 21 0 (by decide) rfl hg28 rfl dX8_reaches_120 ?_
  refine lv_iadd hx hb dX8_reaches_121 ?_
  refine lv_istore (lv' := [(7, .int ((b1 + b0) + (M 21 0 (ix (a5 + (2 : Int32)))))), (0, .ref (YA Y 20 0)), (3, .int a3), (4, .int a4), (5, .int a5)]) hx hb dX8_reaches_122 hl (by decide) rfl (fun ls hl => ?_)
  refine lv_iload_n hx hb dX8_reaches_124 rfl (lv_at hl 2 rfl) ?_
  refine lv_if_ne (tgt := 147) hx hb dX8_reaches_125 (by decide) (fun hc32 => ?_) (fun hc32 => ?_)
  · have hf := if_f hf hc32
    exact w_X8_reaches_147 C0 k33 hk33 k42 hk42 M a4 a5 ((b1 + b0) + (M 21 0 (ix (a5 + (2 : Int32))))) hf _ _ _ hH hS (lv_sub hl [1, 3, 4, 0] rfl)
  · have hf := if_t hf hc32
    refine lv_iload hx hb dX8_reaches_128 (lv_at hl 0 rfl) ?_
    refine lv_aload_n hx hb dX8_reaches_130 rfl (lv_at hl 1 rfl) ?_
    refine hs_get hx hb (T := TX8) hA inAX8 hown hK hH 20 0 (by decide) 12 rfl rfl 12 (by decide) (hA _ zt_1563) rfl rfl dX8_reaches_131 ?_
    refine lv_aload_n hx hb dX8_reaches_134 rfl (lv_at hl 1 rfl) ?_
    refine hs_get hx hb (T := TX8) hA inAX8 hown hK hH 20 0 (by decide) 12 rfl rfl 0 (by decide) (hA _ zt_1551) rfl rfl dX8_reaches_135 ?_
    refine lv_iload hx hb dX8_reaches_138 (lv_at hl 4 rfl) ?_
    refine lv_iconst (v := (1 : Int32)) hx hb dX8_reaches_140 (by decide) ?_
    refine lv_iadd hx hb dX8_reaches_141 ?_
    obtain ⟨hg29, hf⟩ := gd_o hf
    have bhg29 := vin_lt hg29
    refine hs_iald hx hb hK hH 21 0 (by decide) rfl hg29 rfl dX8_reaches_142 ?_
    obtain ⟨hg30, hf⟩ := gd_o hf
    have bhg30 := vin_lt hg30
    refine hs_iald hx hb hK hH 27 0 (by decide) rfl hg30 rfl dX8_reaches_143 ?_
    refine lv_icmp_ge (tgt := 151) hx hb dX8_reaches_144 (by decide) (fun hc31 => ?_) (fun hc31 => ?_)
    · have hf := if_t hf hc31
      refine lv_iconst (v := (0 : Int32)) hx hb dX8_reaches_151 (by decide) ?_
      exact w_X8_reaches_152 C0 k33 hk33 k42 hk42 M a4 a5 ((b1 + b0) + (M 21 0 (ix (a5 + (2 : Int32))))) (0 : Int32) hf _ _ _ hH hS (lv_sub hl [1, 3, 4, 0] rfl)
    · have hf := if_f hf hc31
      exact w_X8_reaches_147 C0 k33 hk33 k42 hk42 M a4 a5 ((b1 + b0) + (M 21 0 (ix (a5 + (2 : Int32))))) hf _ _ _ hH hS (lv_sub hl [1, 3, 4, 0] rfl)
def f_X8_reaches_42 (k33 : Mem → Int32 → Option Mem) : Nat → Mem → Int32 → Int32 → Option Mem
  | 0, _, _, _ => none
  | n + 1, M, a3, a4 => (if (M 21 0 1) ≤ a4 then k33 M a3 else bd (f_X8_linkAt M a4) fun r34 => if vin r34 192 then (if vin (M 21 0 (ix r34)) 9 then ((if (1000000 : Int32) ≤ (M 27 0 (ix (M 21 0 (ix r34)))) then f_X8_reaches_186 k33 (f_X8_reaches_42 k33 n) M a3 a4 else if vin (r34 + (4 : Int32)) 192 then ((if (M 21 0 (ix (r34 + (4 : Int32)))) = 0 then bd (f_X8_isOpen M a4 (M 27 0 (ix (M 21 0 (ix r34))))) fun r39 => (if r39 = 0 then f_X8_reaches_111 k33 (f_X8_reaches_42 k33 n) M a3 a4 r34 (1 : Int32) (M 27 0 (ix (M 21 0 (ix r34)))) else f_X8_reaches_111 k33 (f_X8_reaches_42 k33 n) M a3 a4 r34 (0 : Int32) (M 27 0 (ix (M 21 0 (ix r34))))) else f_X8_reaches_186 k33 (f_X8_reaches_42 k33 n) M a3 a4)) else none)) else none) else none)
set_option maxHeartbeats 4000000 in
set_option maxRecDepth 100000 in
theorem w_X8_reaches_42 {Y : LY} {p : Program} {l : Launch} {e : Env} {s : State} {m : MethodId} {args : Array Value} {below : List Frame} {meth : Method} {c : Code} (C0 : BE Y p s m args meth c cX8_reaches 8 (Option.none : Option Jvm.ClassFile.FieldType) RX8) {MZ : Mem} (k33 : Mem → Int32 → Option Mem) (hk33 : ∀ (M : Mem) (a3 : Int32), k33 M a3 = some MZ → ∀ (H : Heap) (locs : List Loc) (ls : Array Slot), HS Y M H → va_S (AZ Y) s.heap H locs → lv_has ls 8 [(0, .ref (YA Y 20 0)), (3, .int a3)] → W p l e { frames := 2, cells := 0, slots := 0, locals := 42 } s m args below meth c H locs 0 0 (MQ below (Qv Y MZ) args s 0 0 (AZ Y)) (F0 m 33 ls [])) : ∀ (n : Nat) (M : Mem) (a3 : Int32) (a4 : Int32), f_X8_reaches_42 k33 n M a3 a4 = some MZ → ∀ (H : Heap) (locs : List Loc) (ls : Array Slot), HS Y M H → va_S (AZ Y) s.heap H locs → lv_has ls 8 [(0, .ref (YA Y 20 0)), (3, .int a3), (4, .int a4)] → W p l e { frames := 2, cells := 0, slots := 0, locals := 42 } s m args below meth c H locs 0 0 (MQ below (Qv Y MZ) args s 0 0 (AZ Y)) (F0 m 42 ls []) := by
  obtain ⟨hx, hb, hr, hml, hown, hA, hlocks, hK, hZ⟩ := id C0
  intro n
  induction n with
  | zero =>
    intro M a3 a4 hf
    cases hf
  | succ n ih =>
    intro M a3 a4 hf H locs ls hH hS hl
    rw [f_X8_reaches_42] at hf
    refine lv_iload hx hb dX8_reaches_42 (lv_at hl 2 rfl) ?_
    refine lv_aload_n hx hb dX8_reaches_44 rfl (lv_at hl 0 rfl) ?_
    refine hs_get hx hb (T := TX8) hA inAX8 hown hK hH 20 0 (by decide) 12 rfl rfl 0 (by decide) (hA _ zt_1551) rfl rfl dX8_reaches_45 ?_
    refine lv_iconst (v := (1 : Int32)) hx hb dX8_reaches_48 (by decide) ?_
    refine hs_iald hx hb hK hH 21 0 (by decide) rfl (show vin (1 : Int32) 192 from by decide) (show ix (1 : Int32) = 1 from by decide) dX8_reaches_49 ?_
    refine lv_icmp_ge (tgt := 192) hx hb dX8_reaches_50 (by decide) (fun hc43 => ?_) (fun hc43 => ?_)
    · have hf := if_t hf hc43
      refine lv_goto (tgt := 33) hx hb dX8_reaches_192 (by decide) ?_
      exact hk33 M a3 hf _ _ _ hH hS (lv_sub hl [0, 1] rfl)
    · have hf := if_f hf hc43
      refine lv_iload hx hb dX8_reaches_53 (lv_at hl 2 rfl) ?_
      obtain ⟨r34, hq33, hf⟩ := bd_o hf
      refine hs_ci (hs_runS C0 hH hS (n := 1) (As := [.int a4]) (rest := []) (c_X8_linkAt M a4 hq33) ⟨⟨zt_1662, zt_1663, zt_13, zt_1664⟩, by decide, by decide, by decide +kernel⟩ ⟨rfl, rfl, Nat.le_of_ble_eq_true rfl, Nat.le_of_ble_eq_true rfl⟩ rfl rfl hl.1 (Nat.le_of_ble_eq_true rfl) ⟨Nat.le_of_ble_eq_true rfl, Nat.le_of_ble_eq_true rfl⟩ dX8_reaches_55) hS (fun H locs hH hS => ?_)
      refine lv_istore (lv' := [(5, .int r34), (0, .ref (YA Y 20 0)), (3, .int a3), (4, .int a4)]) hx hb dX8_reaches_58 hl (by decide) rfl (fun ls hl => ?_)
      refine lv_aload_n hx hb dX8_reaches_60 rfl (lv_at hl 1 rfl) ?_
      refine hs_get hx hb (T := TX8) hA inAX8 hown hK hH 20 0 (by decide) 12 rfl rfl 12 (by decide) (hA _ zt_1563) rfl rfl dX8_reaches_61 ?_
      refine lv_aload_n hx hb dX8_reaches_64 rfl (lv_at hl 1 rfl) ?_
      refine hs_get hx hb (T := TX8) hA inAX8 hown hK hH 20 0 (by decide) 12 rfl rfl 0 (by decide) (hA _ zt_1551) rfl rfl dX8_reaches_65 ?_
      refine lv_iload hx hb dX8_reaches_68 (lv_at hl 0 rfl) ?_
      obtain ⟨hg35, hf⟩ := gd_o hf
      have bhg35 := vin_lt hg35
      refine hs_iald hx hb hK hH 21 0 (by decide) rfl hg35 rfl dX8_reaches_70 ?_
      obtain ⟨hg36, hf⟩ := gd_o hf
      have bhg36 := vin_lt hg36
      refine hs_iald hx hb hK hH 27 0 (by decide) rfl hg36 rfl dX8_reaches_71 ?_
      refine lv_istore (lv' := [(6, .int (M 27 0 (ix (M 21 0 (ix r34))))), (5, .int r34), (0, .ref (YA Y 20 0)), (3, .int a3), (4, .int a4)]) hx hb dX8_reaches_72 hl (by decide) rfl (fun ls hl => ?_)
      refine lv_iload hx hb dX8_reaches_74 (lv_at hl 0 rfl) ?_
      refine lv_ldc (v := (1000000 : Int32)) hx hb hown (hA _ zt_1773) dX8_reaches_76 ?_
      refine lv_icmp_ge (tgt := 186) hx hb dX8_reaches_78 (by decide) (fun hc42 => ?_) (fun hc42 => ?_)
      · have hf := if_t hf hc42
        exact w_X8_reaches_186 C0 k33 hk33 (f_X8_reaches_42 k33 n) ih M a3 a4 hf _ _ _ hH hS (lv_sub hl [2, 3, 4] rfl)
      · have hf := if_f hf hc42
        refine lv_aload_n hx hb dX8_reaches_81 rfl (lv_at hl 2 rfl) ?_
        refine hs_get hx hb (T := TX8) hA inAX8 hown hK hH 20 0 (by decide) 12 rfl rfl 0 (by decide) (hA _ zt_1551) rfl rfl dX8_reaches_82 ?_
        refine lv_iload hx hb dX8_reaches_85 (lv_at hl 1 rfl) ?_
        refine lv_iconst (v := (4 : Int32)) hx hb dX8_reaches_87 (by decide) ?_
        refine lv_iadd hx hb dX8_reaches_88 ?_
        obtain ⟨hg37, hf⟩ := gd_o hf
        have bhg37 := vin_lt hg37
        refine hs_iald hx hb hK hH 21 0 (by decide) rfl hg37 rfl dX8_reaches_89 ?_
        refine lv_if_ne (tgt := 186) hx hb dX8_reaches_90 (by decide) (fun hc41 => ?_) (fun hc41 => ?_)
        · have hf := if_f hf hc41
          exact w_X8_reaches_186 C0 k33 hk33 (f_X8_reaches_42 k33 n) ih M a3 a4 hf _ _ _ hH hS (lv_sub hl [2, 3, 4] rfl)
        · have hf := if_t hf hc41
          refine lv_iload hx hb dX8_reaches_93 (lv_at hl 0 rfl) ?_
          refine lv_aload_n hx hb dX8_reaches_95 rfl (lv_at hl 2 rfl) ?_
          refine lv_iload hx hb dX8_reaches_96 (lv_at hl 4 rfl) ?_
          refine lv_iload hx hb dX8_reaches_98 (lv_at hl 0 rfl) ?_
          obtain ⟨r39, hq38, hf⟩ := bd_o hf
          refine hs_ci (hs_runV C0 hH hS (n := 2) (As := [.int a4, .int (M 27 0 (ix (M 21 0 (ix r34))))]) (rest := [.int (M 27 0 (ix (M 21 0 (ix r34))))]) (c_X8_isOpen M a4 (M 27 0 (ix (M 21 0 (ix r34)))) hq38) ⟨⟨zt_1713, zt_1715, zs_45, zt_13, zt_1716⟩, rfl, by decide, by decide, by decide +kernel⟩ ⟨rfl, rfl, Nat.le_of_ble_eq_true rfl, Nat.le_of_ble_eq_true rfl⟩ (hs_recv hK hH 20 0 (by decide) 12 rfl rfl) rfl rfl hl.1 (Nat.le_of_ble_eq_true rfl) ⟨Nat.le_of_ble_eq_true rfl, Nat.le_of_ble_eq_true rfl⟩ dX8_reaches_100) hS (fun H locs hH hS => ?_)
          refine lv_if_eq (tgt := 110) hx hb dX8_reaches_103 (by decide) (fun hc40 => ?_) (fun hc40 => ?_)
          · have hf := if_t hf hc40
            refine lv_iconst (v := (1 : Int32)) hx hb dX8_reaches_110 (by decide) ?_
            exact w_X8_reaches_111 C0 k33 hk33 (f_X8_reaches_42 k33 n) ih M a3 a4 r34 (1 : Int32) (M 27 0 (ix (M 21 0 (ix r34)))) hf _ _ _ hH hS (lv_sub hl [2, 3, 4, 1] rfl)
          · have hf := if_f hf hc40
            refine lv_iconst (v := (0 : Int32)) hx hb dX8_reaches_106 (by decide) ?_
            refine lv_goto (tgt := 111) hx hb dX8_reaches_107 (by decide) ?_
            exact w_X8_reaches_111 C0 k33 hk33 (f_X8_reaches_42 k33 n) ih M a3 a4 r34 (0 : Int32) (M 27 0 (ix (M 21 0 (ix r34)))) hf _ _ _ hH hS (lv_sub hl [2, 3, 4, 1] rfl)
def f_X8_reaches_33 : Nat → Mem → Int32 → Option Mem
  | 0, _, _ => none
  | n + 1, M, a3 => (if a3 = 0 then some M else f_X8_reaches_42 (f_X8_reaches_33 n) FU M (0 : Int32) (0 : Int32))
set_option maxHeartbeats 4000000 in
set_option maxRecDepth 100000 in
theorem w_X8_reaches_33 {Y : LY} {p : Program} {l : Launch} {e : Env} {s : State} {m : MethodId} {args : Array Value} {below : List Frame} {meth : Method} {c : Code} (C0 : BE Y p s m args meth c cX8_reaches 8 (Option.none : Option Jvm.ClassFile.FieldType) RX8) {MZ : Mem} : ∀ (n : Nat) (M : Mem) (a3 : Int32), f_X8_reaches_33 n M a3 = some MZ → ∀ (H : Heap) (locs : List Loc) (ls : Array Slot), HS Y M H → va_S (AZ Y) s.heap H locs → lv_has ls 8 [(0, .ref (YA Y 20 0)), (3, .int a3)] → W p l e { frames := 2, cells := 0, slots := 0, locals := 42 } s m args below meth c H locs 0 0 (MQ below (Qv Y MZ) args s 0 0 (AZ Y)) (F0 m 33 ls []) := by
  obtain ⟨hx, hb, hr, hml, hown, hA, hlocks, hK, hZ⟩ := id C0
  intro n
  induction n with
  | zero =>
    intro M a3 hf
    cases hf
  | succ n ih =>
    intro M a3 hf H locs ls hH hS hl
    rw [f_X8_reaches_33] at hf
    refine lv_iload_n hx hb dX8_reaches_33 rfl (lv_at hl 1 rfl) ?_
    refine lv_if_eq (tgt := 195) hx hb dX8_reaches_34 (by decide) (fun hc44 => ?_) (fun hc44 => ?_)
    · have hf := if_t hf hc44
      cases hf
      exact hs_vret C0 hH hS (by decide) (by decide) dX8_reaches_195
    · have hf := if_f hf hc44
      refine lv_iconst (v := (0 : Int32)) hx hb dX8_reaches_37 (by decide) ?_
      refine lv_istore_n (lv' := [(3, .int (0 : Int32)), (0, .ref (YA Y 20 0))]) hx hb dX8_reaches_38 rfl hl (by decide) rfl (fun ls hl => ?_)
      refine lv_iconst (v := (0 : Int32)) hx hb dX8_reaches_39 (by decide) ?_
      refine lv_istore (lv' := [(4, .int (0 : Int32)), (3, .int (0 : Int32)), (0, .ref (YA Y 20 0))]) hx hb dX8_reaches_40 hl (by decide) rfl (fun ls hl => ?_)
      exact w_X8_reaches_42 C0 (f_X8_reaches_33 n) ih FU M (0 : Int32) (0 : Int32) hf _ _ _ hH hS (lv_sub hl [2, 1, 0] rfl)
def f_X8_reaches_24 (k2 : Mem → Int32 → Int32 → Int32 → Option Mem) (M : Mem) (a1 : Int32) (a2 : Int32) (a3 : Int32) (b0 : Int32) (b1 : Int32) : Option Mem := if vin b1 9 then (nm (mu M 27 0 (ix b1) b0) fun M46 => k2 M46 a1 a2 (a3 + (1 : Int32))) else none
set_option maxHeartbeats 4000000 in
set_option maxRecDepth 100000 in
theorem w_X8_reaches_24 {Y : LY} {p : Program} {l : Launch} {e : Env} {s : State} {m : MethodId} {args : Array Value} {below : List Frame} {meth : Method} {c : Code} (C0 : BE Y p s m args meth c cX8_reaches 8 (Option.none : Option Jvm.ClassFile.FieldType) RX8) {MZ : Mem} (k2 : Mem → Int32 → Int32 → Int32 → Option Mem) (hk2 : ∀ (M : Mem) (a1 : Int32) (a2 : Int32) (a3 : Int32), k2 M a1 a2 a3 = some MZ → ∀ (H : Heap) (locs : List Loc) (ls : Array Slot), HS Y M H → va_S (AZ Y) s.heap H locs → lv_has ls 8 [(0, .ref (YA Y 20 0)), (1, .int a1), (2, .int a2), (3, .int a3)] → W p l e { frames := 2, cells := 0, slots := 0, locals := 42 } s m args below meth c H locs 0 0 (MQ below (Qv Y MZ) args s 0 0 (AZ Y)) (F0 m 2 ls [])) : ∀ (M : Mem) (a1 : Int32) (a2 : Int32) (a3 : Int32) (b0 : Int32) (b1 : Int32), f_X8_reaches_24 k2 M a1 a2 a3 b0 b1 = some MZ → ∀ (H : Heap) (locs : List Loc) (ls : Array Slot), HS Y M H → va_S (AZ Y) s.heap H locs → lv_has ls 8 [(0, .ref (YA Y 20 0)), (1, .int a1), (2, .int a2), (3, .int a3)] → W p l e { frames := 2, cells := 0, slots := 0, locals := 42 } s m args below meth c H locs 0 0 (MQ below (Qv Y MZ) args s 0 0 (AZ Y)) (F0 m 24 ls [.int b0, .int b1, .ref (YA Y 27 0)]) := by
  obtain ⟨hx, hb, hr, hml, hown, hA, hlocks, hK, hZ⟩ := id C0
  intro M a1 a2 a3 b0 b1 hf H locs ls hH hS hl
  unfold f_X8_reaches_24 at hf
  obtain ⟨hg45, hf⟩ := gd_o hf
  have bhg45 := vin_lt hg45
  refine hs_iast hx hb hK hH hS 27 0 (by decide) (fun _ => rfl) hg45 rfl dX8_reaches_24 (fun H locs hH hS => ?_)
  obtain ⟨M46, eM46, hf⟩ := nm_o hf
  rw [← eM46] at hH
  refine lv_iinc (v := a3 + (1 : Int32)) (lv' := [(3, .int (a3 + (1 : Int32))), (0, .ref (YA Y 20 0)), (1, .int a1), (2, .int a2)]) hx hb dX8_reaches_25 hl (k := 3) rfl rfl (by decide) rfl (fun ls hl => ?_)
  refine lv_goto (tgt := 2) hx hb dX8_reaches_28 (by decide) ?_
  exact hk2 M46 a1 a2 (a3 + (1 : Int32)) hf _ _ _ hH hS (lv_sub hl [1, 2, 3, 0] rfl)
def f_X8_reaches_2 : Nat → Mem → Int32 → Int32 → Int32 → Option Mem
  | 0, _, _, _, _ => none
  | n + 1, M, a1, a2, a3 => (if (9 : Int32) ≤ a3 then f_X8_reaches_33 FU M (1 : Int32) else (if a3 = a1 then f_X8_reaches_24 (f_X8_reaches_2 n) M a1 a2 a3 a2 a3 else f_X8_reaches_24 (f_X8_reaches_2 n) M a1 a2 a3 (1000000 : Int32) a3))
set_option maxHeartbeats 4000000 in
set_option maxRecDepth 100000 in
theorem w_X8_reaches_2 {Y : LY} {p : Program} {l : Launch} {e : Env} {s : State} {m : MethodId} {args : Array Value} {below : List Frame} {meth : Method} {c : Code} (C0 : BE Y p s m args meth c cX8_reaches 8 (Option.none : Option Jvm.ClassFile.FieldType) RX8) {MZ : Mem} : ∀ (n : Nat) (M : Mem) (a1 : Int32) (a2 : Int32) (a3 : Int32), f_X8_reaches_2 n M a1 a2 a3 = some MZ → ∀ (H : Heap) (locs : List Loc) (ls : Array Slot), HS Y M H → va_S (AZ Y) s.heap H locs → lv_has ls 8 [(0, .ref (YA Y 20 0)), (1, .int a1), (2, .int a2), (3, .int a3)] → W p l e { frames := 2, cells := 0, slots := 0, locals := 42 } s m args below meth c H locs 0 0 (MQ below (Qv Y MZ) args s 0 0 (AZ Y)) (F0 m 2 ls []) := by
  obtain ⟨hx, hb, hr, hml, hown, hA, hlocks, hK, hZ⟩ := id C0
  intro n
  induction n with
  | zero =>
    intro M a1 a2 a3 hf
    cases hf
  | succ n ih =>
    intro M a1 a2 a3 hf H locs ls hH hS hl
    rw [f_X8_reaches_2] at hf
    refine lv_iload_n hx hb dX8_reaches_2 rfl (lv_at hl 3 rfl) ?_
    refine lv_bipush (v := (9 : Int32)) hx hb dX8_reaches_3 (by decide) ?_
    refine lv_icmp_ge (tgt := 31) hx hb dX8_reaches_5 (by decide) (fun hc48 => ?_) (fun hc48 => ?_)
    · have hf := if_t hf hc48
      refine lv_iconst (v := (1 : Int32)) hx hb dX8_reaches_31 (by decide) ?_
      refine lv_istore_n (lv' := [(3, .int (1 : Int32)), (0, .ref (YA Y 20 0)), (1, .int a1), (2, .int a2)]) hx hb dX8_reaches_32 rfl hl (by decide) rfl (fun ls hl => ?_)
      exact w_X8_reaches_33 C0 FU M (1 : Int32) hf _ _ _ hH hS (lv_sub hl [1, 0] rfl)
    · have hf := if_f hf hc48
      refine lv_aload_n hx hb dX8_reaches_8 rfl (lv_at hl 0 rfl) ?_
      refine hs_get hx hb (T := TX8) hA inAX8 hown hK hH 20 0 (by decide) 12 rfl rfl 12 (by decide) (hA _ zt_1563) rfl rfl dX8_reaches_9 ?_
      refine lv_iload_n hx hb dX8_reaches_12 rfl (lv_at hl 3 rfl) ?_
      refine lv_iload_n hx hb dX8_reaches_13 rfl (lv_at hl 3 rfl) ?_
      refine lv_iload_n hx hb dX8_reaches_14 rfl (lv_at hl 1 rfl) ?_
      refine lv_icmp_ne (tgt := 22) hx hb dX8_reaches_15 (by decide) (fun hc47 => ?_) (fun hc47 => ?_)
      · have hf := if_f hf hc47
        refine lv_ldc (v := (1000000 : Int32)) hx hb hown (hA _ zt_1773) dX8_reaches_22 ?_
        exact w_X8_reaches_24 C0 (f_X8_reaches_2 n) ih M a1 a2 a3 (1000000 : Int32) a3 hf _ _ _ hH hS (lv_sub hl [0, 1, 2, 3] rfl)
      · have hf := if_t hf hc47
        refine lv_iload_n hx hb dX8_reaches_18 rfl (lv_at hl 2 rfl) ?_
        refine lv_goto (tgt := 24) hx hb dX8_reaches_19 (by decide) ?_
        exact w_X8_reaches_24 C0 (f_X8_reaches_2 n) ih M a1 a2 a3 a2 a3 hf _ _ _ hH hS (lv_sub hl [0, 1, 2, 3] rfl)
def f_X8_reaches (M : Mem) (a1 : Int32) (a2 : Int32) : Option Mem := f_X8_reaches_2 FU M a1 a2 (0 : Int32)
set_option maxHeartbeats 4000000 in
set_option maxRecDepth 100000 in
theorem c_X8_reaches {Y : LY} {l : Launch} (M : Mem) (a1 : Int32) (a2 : Int32) {MZ : Mem} (hf : f_X8_reaches M a1 a2 = some MZ) : Met l yX8_reaches (WS yX8_reaches cX8_reaches 8 (Option.none : Option Jvm.ClassFile.FieldType)) { frames := 2, cells := 0, slots := 0, locals := 42 } (PcM Y M [.ref (YA Y 20 0), .int a1, .int a2]) (Qv Y MZ) 0 0 (AZ Y) := by
  refine met_mk (lv := [(0, .ref (YA Y 20 0)), (1, .int a1), (2, .int a2)]) [.ref (YA Y 20 0), .int a1, .int a2] (by decide) rfl rfl (Nat.le_of_ble_eq_true rfl) (fun p e s m below meth c C0 hH ls hl => ?_)
  have hS : va_S (AZ Y) s.heap s.heap [] := va_S.rf
  obtain ⟨hx, hb, hr, hml, hown, hA, hlocks, hK, hZ⟩ := id C0
  unfold f_X8_reaches at hf
  refine lv_iconst (v := (0 : Int32)) hx hb dX8_reaches_0 (by decide) ?_
  refine lv_istore_n (lv' := [(3, .int (0 : Int32)), (0, .ref (YA Y 20 0)), (1, .int a1), (2, .int a2)]) hx hb dX8_reaches_1 rfl hl (by decide) rfl (fun ls hl => ?_)
  exact w_X8_reaches_2 C0 FU M a1 a2 (0 : Int32) hf _ _ _ hH hS (lv_sub hl [1, 2, 3, 0] rfl)
def f_X8_earliest (M : Mem) (a1 : Int32) (a2 : Int32) (a3 : Int32) : Option (Int32 × Mem) := bd (f_X8_reaches M a1 a3) fun M6 => if vin a2 9 then (some ((M6 27 0 (ix a2)), M6)) else none
set_option maxHeartbeats 4000000 in
set_option maxRecDepth 100000 in
theorem c_X8_earliest {Y : LY} {l : Launch} (M : Mem) (a1 : Int32) (a2 : Int32) (a3 : Int32) {r : Int32} {MZ : Mem} (hf : f_X8_earliest M a1 a2 a3 = some (r, MZ)) : Met l yX8_earliest (WS yX8_earliest cX8_earliest 4 (Option.some Jvm.ClassFile.FieldType.int)) { frames := 3, cells := 0, slots := 0, locals := 69 } (PcM Y M [.ref (YA Y 20 0), .int a1, .int a2, .int a3]) (Qi Y r MZ) 0 0 (AZ Y) := by
  refine met_mk (lv := [(0, .ref (YA Y 20 0)), (1, .int a1), (2, .int a2), (3, .int a3)]) [.ref (YA Y 20 0), .int a1, .int a2, .int a3] (by decide) rfl rfl (Nat.le_of_ble_eq_true rfl) (fun p e s m below meth c C0 hH ls hl => ?_)
  have hS : va_S (AZ Y) s.heap s.heap [] := va_S.rf
  obtain ⟨hx, hb, hr, hml, hown, hA, hlocks, hK, hZ⟩ := id C0
  unfold f_X8_earliest at hf
  refine lv_aload_n hx hb dX8_earliest_0 rfl (lv_at hl 0 rfl) ?_
  refine lv_iload_n hx hb dX8_earliest_1 rfl (lv_at hl 1 rfl) ?_
  refine lv_iload_n hx hb dX8_earliest_2 rfl (lv_at hl 3 rfl) ?_
  obtain ⟨M6, hq5, hf⟩ := bd_o hf
  refine hs_cv (hs_runV C0 hH hS (n := 2) (As := [.int a1, .int a3]) (rest := []) (c_X8_reaches M a1 a3 hq5) ⟨⟨zt_1769, zt_1771, zs_56, zt_13, zt_1772⟩, rfl, by decide, by decide, by decide +kernel⟩ ⟨rfl, rfl, Nat.le_of_ble_eq_true rfl, Nat.le_of_ble_eq_true rfl⟩ (hs_recv hK hH 20 0 (by decide) 12 rfl rfl) rfl rfl hl.1 (Nat.le_of_ble_eq_true rfl) ⟨Nat.le_of_ble_eq_true rfl, Nat.le_of_ble_eq_true rfl⟩ dX8_earliest_3) hS (fun H locs hH hS => ?_)
  refine lv_aload_n hx hb dX8_earliest_6 rfl (lv_at hl 0 rfl) ?_
  refine hs_get hx hb (T := TX8) hA inAX8 hown hK hH 20 0 (by decide) 12 rfl rfl 12 (by decide) (hA _ zt_1563) rfl rfl dX8_earliest_7 ?_
  refine lv_iload_n hx hb dX8_earliest_10 rfl (lv_at hl 2 rfl) ?_
  obtain ⟨hg8, hf⟩ := gd_o hf
  have bhg8 := vin_lt hg8
  refine hs_iald hx hb hK hH 27 0 (by decide) rfl hg8 rfl dX8_earliest_11 ?_
  cases hf
  exact hs_iret C0 hH hS (by decide) (by decide) dX8_earliest_12
def f_X8_fewest_91 (k33 : Mem → Int32 → Int32 → Option (Int32 × Mem)) (k42 : Mem → Int32 → Int32 → Int32 → Option (Int32 × Mem)) (M : Mem) (a2 : Int32) (a3 : Int32) (a4 : Int32) (a5 : Int32) (b0 : Int32) : Option (Int32 × Mem) := if vin (a5 + (1 : Int32)) 192 then (if vin (M 21 0 (ix (a5 + (1 : Int32)))) 9 then (nm (mu M 27 0 (ix (M 21 0 (ix (a5 + (1 : Int32))))) (if b0 < (M 27 0 (ix (M 21 0 (ix (a5 + (1 : Int32)))))) then b0 else (M 27 0 (ix (M 21 0 (ix (a5 + (1 : Int32)))))))) fun M19 => k42 M19 a2 a3 (a4 + (1 : Int32))) else none) else none
set_option maxHeartbeats 4000000 in
set_option maxRecDepth 100000 in
theorem w_X8_fewest_91 {Y : LY} {p : Program} {l : Launch} {e : Env} {s : State} {m : MethodId} {args : Array Value} {below : List Frame} {meth : Method} {c : Code} (C0 : BE Y p s m args meth c cX8_fewest 7 (Option.some Jvm.ClassFile.FieldType.int) RX8) {r : Int32} {MZ : Mem} (k33 : Mem → Int32 → Int32 → Option (Int32 × Mem)) (hk33 : ∀ (M : Mem) (a2 : Int32) (a3 : Int32), k33 M a2 a3 = some (r, MZ) → ∀ (H : Heap) (locs : List Loc) (ls : Array Slot), HS Y M H → va_S (AZ Y) s.heap H locs → lv_has ls 7 [(0, .ref (YA Y 20 0)), (2, .int a2), (3, .int a3)] → W p l e { frames := 1, cells := 0, slots := 0, locals := 21 } s m args below meth c H locs 0 0 (MQ below (Qi Y r MZ) args s 0 0 (AZ Y)) (F0 m 33 ls [])) (k42 : Mem → Int32 → Int32 → Int32 → Option (Int32 × Mem)) (hk42 : ∀ (M : Mem) (a2 : Int32) (a3 : Int32) (a4 : Int32), k42 M a2 a3 a4 = some (r, MZ) → ∀ (H : Heap) (locs : List Loc) (ls : Array Slot), HS Y M H → va_S (AZ Y) s.heap H locs → lv_has ls 7 [(0, .ref (YA Y 20 0)), (2, .int a2), (3, .int a3), (4, .int a4)] → W p l e { frames := 1, cells := 0, slots := 0, locals := 21 } s m args below meth c H locs 0 0 (MQ below (Qi Y r MZ) args s 0 0 (AZ Y)) (F0 m 42 ls [])) : ∀ (M : Mem) (a2 : Int32) (a3 : Int32) (a4 : Int32) (a5 : Int32) (b0 : Int32), f_X8_fewest_91 k33 k42 M a2 a3 a4 a5 b0 = some (r, MZ) → ∀ (H : Heap) (locs : List Loc) (ls : Array Slot), HS Y M H → va_S (AZ Y) s.heap H locs → lv_has ls 7 [(0, .ref (YA Y 20 0)), (2, .int a2), (3, .int a3), (4, .int a4), (5, .int a5)] → W p l e { frames := 1, cells := 0, slots := 0, locals := 21 } s m args below meth c H locs 0 0 (MQ below (Qi Y r MZ) args s 0 0 (AZ Y)) (F0 m 91 ls [.int b0]) := by
  obtain ⟨hx, hb, hr, hml, hown, hA, hlocks, hK, hZ⟩ := id C0
  intro M a2 a3 a4 a5 b0 hf H locs ls hH hS hl
  unfold f_X8_fewest_91 at hf
  refine lv_istore (lv' := [(6, .int b0), (0, .ref (YA Y 20 0)), (2, .int a2), (3, .int a3), (4, .int a4), (5, .int a5)]) hx hb dX8_fewest_91 hl (by decide) rfl (fun ls hl => ?_)
  refine lv_aload_n hx hb dX8_fewest_93 rfl (lv_at hl 1 rfl) ?_
  refine hs_get hx hb (T := TX8) hA inAX8 hown hK hH 20 0 (by decide) 12 rfl rfl 12 (by decide) (hA _ zt_1563) rfl rfl dX8_fewest_94 ?_
  refine lv_aload_n hx hb dX8_fewest_97 rfl (lv_at hl 1 rfl) ?_
  refine hs_get hx hb (T := TX8) hA inAX8 hown hK hH 20 0 (by decide) 12 rfl rfl 0 (by decide) (hA _ zt_1551) rfl rfl dX8_fewest_98 ?_
  refine lv_iload hx hb dX8_fewest_101 (lv_at hl 5 rfl) ?_
  refine lv_iconst (v := (1 : Int32)) hx hb dX8_fewest_103 (by decide) ?_
  refine lv_iadd hx hb dX8_fewest_104 ?_
  obtain ⟨hg17, hf⟩ := gd_o hf
  have bhg17 := vin_lt hg17
  refine hs_iald hx hb hK hH 21 0 (by decide) rfl hg17 rfl dX8_fewest_105 ?_
  refine lv_aload_n hx hb dX8_fewest_106 rfl (lv_at hl 1 rfl) ?_
  refine hs_get hx hb (T := TX8) hA inAX8 hown hK hH 20 0 (by decide) 12 rfl rfl 12 (by decide) (hA _ zt_1563) rfl rfl dX8_fewest_107 ?_
  refine lv_aload_n hx hb dX8_fewest_110 rfl (lv_at hl 1 rfl) ?_
  refine hs_get hx hb (T := TX8) hA inAX8 hown hK hH 20 0 (by decide) 12 rfl rfl 0 (by decide) (hA _ zt_1551) rfl rfl dX8_fewest_111 ?_
  refine lv_iload hx hb dX8_fewest_114 (lv_at hl 5 rfl) ?_
  refine lv_iconst (v := (1 : Int32)) hx hb dX8_fewest_116 (by decide) ?_
  refine lv_iadd hx hb dX8_fewest_117 ?_
  refine hs_iald hx hb hK hH 21 0 (by decide) rfl hg17 rfl dX8_fewest_118 ?_
  obtain ⟨hg18, hf⟩ := gd_o hf
  have bhg18 := vin_lt hg18
  refine hs_iald hx hb hK hH 27 0 (by decide) rfl hg18 rfl dX8_fewest_119 ?_
  refine lv_iload hx hb dX8_fewest_120 (lv_at hl 0 rfl) ?_
  refine va_mmin hx hb (by rw [hml]; exact hl.1.symm) hown (hA _ zt_1774) (hA _ zt_613) (hA _ zt_21) (hA _ zt_614) (Nat.le_of_ble_eq_true rfl) (Nat.le_of_ble_eq_true rfl) (Nat.le_of_ble_eq_true rfl) (Nat.le_of_ble_eq_true rfl) dX8_fewest_122 ?_
  refine hs_iast hx hb hK hH hS 27 0 (by decide) (fun _ => rfl) hg18 rfl dX8_fewest_125 (fun H locs hH hS => ?_)
  obtain ⟨M19, eM19, hf⟩ := nm_o hf
  rw [← eM19] at hH
  refine lv_iinc (v := a4 + (1 : Int32)) (lv' := [(4, .int (a4 + (1 : Int32))), (6, .int b0), (0, .ref (YA Y 20 0)), (2, .int a2), (3, .int a3), (5, .int a5)]) hx hb dX8_fewest_126 hl (k := 4) rfl rfl (by decide) rfl (fun ls hl => ?_)
  refine lv_goto (tgt := 42) hx hb dX8_fewest_129 (by decide) ?_
  exact hk42 M19 a2 a3 (a4 + (1 : Int32)) hf _ _ _ hH hS (lv_sub hl [2, 3, 4, 0] rfl)
def f_X8_fewest_42 (k33 : Mem → Int32 → Int32 → Option (Int32 × Mem)) : Nat → Mem → Int32 → Int32 → Int32 → Option (Int32 × Mem)
  | 0, _, _, _, _ => none
  | n + 1, M, a2, a3, a4 => (if (M 21 0 1) ≤ a4 then k33 M a2 (a3 + (1 : Int32)) else bd (f_X8_linkAt M a4) fun r21 => if vin (r21 + (4 : Int32)) 192 then ((if (M 21 0 (ix (r21 + (4 : Int32)))) = 0 then if vin r21 192 then (if vin (M 21 0 (ix r21)) 9 then (f_X8_fewest_91 k33 (f_X8_fewest_42 k33 n) M a2 a3 a4 r21 ((M 27 0 (ix (M 21 0 (ix r21)))) + (1 : Int32))) else none) else none else f_X8_fewest_91 k33 (f_X8_fewest_42 k33 n) M a2 a3 a4 r21 (1000000 : Int32))) else none)
set_option maxHeartbeats 4000000 in
set_option maxRecDepth 100000 in
theorem w_X8_fewest_42 {Y : LY} {p : Program} {l : Launch} {e : Env} {s : State} {m : MethodId} {args : Array Value} {below : List Frame} {meth : Method} {c : Code} (C0 : BE Y p s m args meth c cX8_fewest 7 (Option.some Jvm.ClassFile.FieldType.int) RX8) {r : Int32} {MZ : Mem} (k33 : Mem → Int32 → Int32 → Option (Int32 × Mem)) (hk33 : ∀ (M : Mem) (a2 : Int32) (a3 : Int32), k33 M a2 a3 = some (r, MZ) → ∀ (H : Heap) (locs : List Loc) (ls : Array Slot), HS Y M H → va_S (AZ Y) s.heap H locs → lv_has ls 7 [(0, .ref (YA Y 20 0)), (2, .int a2), (3, .int a3)] → W p l e { frames := 1, cells := 0, slots := 0, locals := 21 } s m args below meth c H locs 0 0 (MQ below (Qi Y r MZ) args s 0 0 (AZ Y)) (F0 m 33 ls [])) : ∀ (n : Nat) (M : Mem) (a2 : Int32) (a3 : Int32) (a4 : Int32), f_X8_fewest_42 k33 n M a2 a3 a4 = some (r, MZ) → ∀ (H : Heap) (locs : List Loc) (ls : Array Slot), HS Y M H → va_S (AZ Y) s.heap H locs → lv_has ls 7 [(0, .ref (YA Y 20 0)), (2, .int a2), (3, .int a3), (4, .int a4)] → W p l e { frames := 1, cells := 0, slots := 0, locals := 21 } s m args below meth c H locs 0 0 (MQ below (Qi Y r MZ) args s 0 0 (AZ Y)) (F0 m 42 ls []) := by
  obtain ⟨hx, hb, hr, hml, hown, hA, hlocks, hK, hZ⟩ := id C0
  intro n
  induction n with
  | zero =>
    intro M a2 a3 a4 hf
    cases hf
  | succ n ih =>
    intro M a2 a3 a4 hf H locs ls hH hS hl
    rw [f_X8_fewest_42] at hf
    refine lv_iload hx hb dX8_fewest_42 (lv_at hl 3 rfl) ?_
    refine lv_aload_n hx hb dX8_fewest_44 rfl (lv_at hl 0 rfl) ?_
    refine hs_get hx hb (T := TX8) hA inAX8 hown hK hH 20 0 (by decide) 12 rfl rfl 0 (by decide) (hA _ zt_1551) rfl rfl dX8_fewest_45 ?_
    refine lv_iconst (v := (1 : Int32)) hx hb dX8_fewest_48 (by decide) ?_
    refine hs_iald hx hb hK hH 21 0 (by decide) rfl (show vin (1 : Int32) 192 from by decide) (show ix (1 : Int32) = 1 from by decide) dX8_fewest_49 ?_
    refine lv_icmp_ge (tgt := 132) hx hb dX8_fewest_50 (by decide) (fun hc26 => ?_) (fun hc26 => ?_)
    · have hf := if_t hf hc26
      refine lv_iinc (v := a3 + (1 : Int32)) (lv' := [(3, .int (a3 + (1 : Int32))), (0, .ref (YA Y 20 0)), (2, .int a2), (4, .int a4)]) hx hb dX8_fewest_132 hl (k := 2) rfl rfl (by decide) rfl (fun ls hl => ?_)
      refine lv_goto (tgt := 33) hx hb dX8_fewest_135 (by decide) ?_
      exact hk33 M a2 (a3 + (1 : Int32)) hf _ _ _ hH hS (lv_sub hl [1, 2, 0] rfl)
    · have hf := if_f hf hc26
      refine lv_iload hx hb dX8_fewest_53 (lv_at hl 3 rfl) ?_
      obtain ⟨r21, hq20, hf⟩ := bd_o hf
      refine hs_ci (hs_runS C0 hH hS (n := 1) (As := [.int a4]) (rest := []) (c_X8_linkAt M a4 hq20) ⟨⟨zt_1662, zt_1663, zt_13, zt_1664⟩, by decide, by decide, by decide +kernel⟩ ⟨rfl, rfl, Nat.le_of_ble_eq_true rfl, Nat.le_of_ble_eq_true rfl⟩ rfl rfl hl.1 (Nat.le_of_ble_eq_true rfl) ⟨Nat.le_of_ble_eq_true rfl, Nat.le_of_ble_eq_true rfl⟩ dX8_fewest_55) hS (fun H locs hH hS => ?_)
      refine lv_istore (lv' := [(5, .int r21), (0, .ref (YA Y 20 0)), (2, .int a2), (3, .int a3), (4, .int a4)]) hx hb dX8_fewest_58 hl (by decide) rfl (fun ls hl => ?_)
      refine lv_aload_n hx hb dX8_fewest_60 rfl (lv_at hl 1 rfl) ?_
      refine hs_get hx hb (T := TX8) hA inAX8 hown hK hH 20 0 (by decide) 12 rfl rfl 0 (by decide) (hA _ zt_1551) rfl rfl dX8_fewest_61 ?_
      refine lv_iload hx hb dX8_fewest_64 (lv_at hl 0 rfl) ?_
      refine lv_iconst (v := (4 : Int32)) hx hb dX8_fewest_66 (by decide) ?_
      refine lv_iadd hx hb dX8_fewest_67 ?_
      obtain ⟨hg22, hf⟩ := gd_o hf
      have bhg22 := vin_lt hg22
      refine hs_iald hx hb hK hH 21 0 (by decide) rfl hg22 rfl dX8_fewest_68 ?_
      refine lv_if_ne (tgt := 89) hx hb dX8_fewest_69 (by decide) (fun hc25 => ?_) (fun hc25 => ?_)
      · have hf := if_f hf hc25
        refine lv_ldc (v := (1000000 : Int32)) hx hb hown (hA _ zt_1773) dX8_fewest_89 ?_
        exact w_X8_fewest_91 C0 k33 hk33 (f_X8_fewest_42 k33 n) ih M a2 a3 a4 r21 (1000000 : Int32) hf _ _ _ hH hS (lv_sub hl [1, 2, 3, 4, 0] rfl)
      · have hf := if_t hf hc25
        refine lv_aload_n hx hb dX8_fewest_72 rfl (lv_at hl 1 rfl) ?_
        refine hs_get hx hb (T := TX8) hA inAX8 hown hK hH 20 0 (by decide) 12 rfl rfl 12 (by decide) (hA _ zt_1563) rfl rfl dX8_fewest_73 ?_
        refine lv_aload_n hx hb dX8_fewest_76 rfl (lv_at hl 1 rfl) ?_
        refine hs_get hx hb (T := TX8) hA inAX8 hown hK hH 20 0 (by decide) 12 rfl rfl 0 (by decide) (hA _ zt_1551) rfl rfl dX8_fewest_77 ?_
        refine lv_iload hx hb dX8_fewest_80 (lv_at hl 0 rfl) ?_
        obtain ⟨hg23, hf⟩ := gd_o hf
        have bhg23 := vin_lt hg23
        refine hs_iald hx hb hK hH 21 0 (by decide) rfl hg23 rfl dX8_fewest_82 ?_
        obtain ⟨hg24, hf⟩ := gd_o hf
        have bhg24 := vin_lt hg24
        refine hs_iald hx hb hK hH 27 0 (by decide) rfl hg24 rfl dX8_fewest_83 ?_
        refine lv_iconst (v := (1 : Int32)) hx hb dX8_fewest_84 (by decide) ?_
        refine lv_iadd hx hb dX8_fewest_85 ?_
        refine lv_goto (tgt := 91) hx hb dX8_fewest_86 (by decide) ?_
        exact w_X8_fewest_91 C0 k33 hk33 (f_X8_fewest_42 k33 n) ih M a2 a3 a4 r21 ((M 27 0 (ix (M 21 0 (ix r21)))) + (1 : Int32)) hf _ _ _ hH hS (lv_sub hl [1, 2, 3, 4, 0] rfl)
def f_X8_fewest_33 : Nat → Mem → Int32 → Int32 → Option (Int32 × Mem)
  | 0, _, _, _ => none
  | n + 1, M, a2, a3 => (if (9 : Int32) ≤ a3 then if vin a2 9 then (some ((M 27 0 (ix a2)), M)) else none else f_X8_fewest_42 (f_X8_fewest_33 n) FU M a2 a3 (0 : Int32))
set_option maxHeartbeats 4000000 in
set_option maxRecDepth 100000 in
theorem w_X8_fewest_33 {Y : LY} {p : Program} {l : Launch} {e : Env} {s : State} {m : MethodId} {args : Array Value} {below : List Frame} {meth : Method} {c : Code} (C0 : BE Y p s m args meth c cX8_fewest 7 (Option.some Jvm.ClassFile.FieldType.int) RX8) {r : Int32} {MZ : Mem} : ∀ (n : Nat) (M : Mem) (a2 : Int32) (a3 : Int32), f_X8_fewest_33 n M a2 a3 = some (r, MZ) → ∀ (H : Heap) (locs : List Loc) (ls : Array Slot), HS Y M H → va_S (AZ Y) s.heap H locs → lv_has ls 7 [(0, .ref (YA Y 20 0)), (2, .int a2), (3, .int a3)] → W p l e { frames := 1, cells := 0, slots := 0, locals := 21 } s m args below meth c H locs 0 0 (MQ below (Qi Y r MZ) args s 0 0 (AZ Y)) (F0 m 33 ls []) := by
  obtain ⟨hx, hb, hr, hml, hown, hA, hlocks, hK, hZ⟩ := id C0
  intro n
  induction n with
  | zero =>
    intro M a2 a3 hf
    cases hf
  | succ n ih =>
    intro M a2 a3 hf H locs ls hH hS hl
    rw [f_X8_fewest_33] at hf
    refine lv_iload_n hx hb dX8_fewest_33 rfl (lv_at hl 2 rfl) ?_
    refine lv_bipush (v := (9 : Int32)) hx hb dX8_fewest_34 (by decide) ?_
    refine lv_icmp_ge (tgt := 138) hx hb dX8_fewest_36 (by decide) (fun hc28 => ?_) (fun hc28 => ?_)
    · have hf := if_t hf hc28
      refine lv_aload_n hx hb dX8_fewest_138 rfl (lv_at hl 0 rfl) ?_
      refine hs_get hx hb (T := TX8) hA inAX8 hown hK hH 20 0 (by decide) 12 rfl rfl 12 (by decide) (hA _ zt_1563) rfl rfl dX8_fewest_139 ?_
      refine lv_iload_n hx hb dX8_fewest_142 rfl (lv_at hl 1 rfl) ?_
      obtain ⟨hg27, hf⟩ := gd_o hf
      have bhg27 := vin_lt hg27
      refine hs_iald hx hb hK hH 27 0 (by decide) rfl hg27 rfl dX8_fewest_143 ?_
      cases hf
      exact hs_iret C0 hH hS (by decide) (by decide) dX8_fewest_144
    · have hf := if_f hf hc28
      refine lv_iconst (v := (0 : Int32)) hx hb dX8_fewest_39 (by decide) ?_
      refine lv_istore (lv' := [(4, .int (0 : Int32)), (0, .ref (YA Y 20 0)), (2, .int a2), (3, .int a3)]) hx hb dX8_fewest_40 hl (by decide) rfl (fun ls hl => ?_)
      exact w_X8_fewest_42 C0 (f_X8_fewest_33 n) ih FU M a2 a3 (0 : Int32) hf _ _ _ hH hS (lv_sub hl [1, 2, 3, 0] rfl)
def f_X8_fewest_24 (k2 : Mem → Int32 → Int32 → Int32 → Option (Int32 × Mem)) (M : Mem) (a1 : Int32) (a2 : Int32) (a3 : Int32) (b0 : Int32) (b1 : Int32) : Option (Int32 × Mem) := if vin b1 9 then (nm (mu M 27 0 (ix b1) b0) fun M30 => k2 M30 a1 a2 (a3 + (1 : Int32))) else none
set_option maxHeartbeats 4000000 in
set_option maxRecDepth 100000 in
theorem w_X8_fewest_24 {Y : LY} {p : Program} {l : Launch} {e : Env} {s : State} {m : MethodId} {args : Array Value} {below : List Frame} {meth : Method} {c : Code} (C0 : BE Y p s m args meth c cX8_fewest 7 (Option.some Jvm.ClassFile.FieldType.int) RX8) {r : Int32} {MZ : Mem} (k2 : Mem → Int32 → Int32 → Int32 → Option (Int32 × Mem)) (hk2 : ∀ (M : Mem) (a1 : Int32) (a2 : Int32) (a3 : Int32), k2 M a1 a2 a3 = some (r, MZ) → ∀ (H : Heap) (locs : List Loc) (ls : Array Slot), HS Y M H → va_S (AZ Y) s.heap H locs → lv_has ls 7 [(0, .ref (YA Y 20 0)), (1, .int a1), (2, .int a2), (3, .int a3)] → W p l e { frames := 1, cells := 0, slots := 0, locals := 21 } s m args below meth c H locs 0 0 (MQ below (Qi Y r MZ) args s 0 0 (AZ Y)) (F0 m 2 ls [])) : ∀ (M : Mem) (a1 : Int32) (a2 : Int32) (a3 : Int32) (b0 : Int32) (b1 : Int32), f_X8_fewest_24 k2 M a1 a2 a3 b0 b1 = some (r, MZ) → ∀ (H : Heap) (locs : List Loc) (ls : Array Slot), HS Y M H → va_S (AZ Y) s.heap H locs → lv_has ls 7 [(0, .ref (YA Y 20 0)), (1, .int a1), (2, .int a2), (3, .int a3)] → W p l e { frames := 1, cells := 0, slots := 0, locals := 21 } s m args below meth c H locs 0 0 (MQ below (Qi Y r MZ) args s 0 0 (AZ Y)) (F0 m 24 ls [.int b0, .int b1, .ref (YA Y 27 0)]) := by
  obtain ⟨hx, hb, hr, hml, hown, hA, hlocks, hK, hZ⟩ := id C0
  intro M a1 a2 a3 b0 b1 hf H locs ls hH hS hl
  unfold f_X8_fewest_24 at hf
  obtain ⟨hg29, hf⟩ := gd_o hf
  have bhg29 := vin_lt hg29
  refine hs_iast hx hb hK hH hS 27 0 (by decide) (fun _ => rfl) hg29 rfl dX8_fewest_24 (fun H locs hH hS => ?_)
  obtain ⟨M30, eM30, hf⟩ := nm_o hf
  rw [← eM30] at hH
  refine lv_iinc (v := a3 + (1 : Int32)) (lv' := [(3, .int (a3 + (1 : Int32))), (0, .ref (YA Y 20 0)), (1, .int a1), (2, .int a2)]) hx hb dX8_fewest_25 hl (k := 3) rfl rfl (by decide) rfl (fun ls hl => ?_)
  refine lv_goto (tgt := 2) hx hb dX8_fewest_28 (by decide) ?_
  exact hk2 M30 a1 a2 (a3 + (1 : Int32)) hf _ _ _ hH hS (lv_sub hl [1, 2, 3, 0] rfl)
def f_X8_fewest_2 : Nat → Mem → Int32 → Int32 → Int32 → Option (Int32 × Mem)
  | 0, _, _, _, _ => none
  | n + 1, M, a1, a2, a3 => (if (9 : Int32) ≤ a3 then f_X8_fewest_33 FU M a2 (0 : Int32) else (if a3 = a1 then f_X8_fewest_24 (f_X8_fewest_2 n) M a1 a2 a3 (0 : Int32) a3 else f_X8_fewest_24 (f_X8_fewest_2 n) M a1 a2 a3 (1000000 : Int32) a3))
set_option maxHeartbeats 4000000 in
set_option maxRecDepth 100000 in
theorem w_X8_fewest_2 {Y : LY} {p : Program} {l : Launch} {e : Env} {s : State} {m : MethodId} {args : Array Value} {below : List Frame} {meth : Method} {c : Code} (C0 : BE Y p s m args meth c cX8_fewest 7 (Option.some Jvm.ClassFile.FieldType.int) RX8) {r : Int32} {MZ : Mem} : ∀ (n : Nat) (M : Mem) (a1 : Int32) (a2 : Int32) (a3 : Int32), f_X8_fewest_2 n M a1 a2 a3 = some (r, MZ) → ∀ (H : Heap) (locs : List Loc) (ls : Array Slot), HS Y M H → va_S (AZ Y) s.heap H locs → lv_has ls 7 [(0, .ref (YA Y 20 0)), (1, .int a1), (2, .int a2), (3, .int a3)] → W p l e { frames := 1, cells := 0, slots := 0, locals := 21 } s m args below meth c H locs 0 0 (MQ below (Qi Y r MZ) args s 0 0 (AZ Y)) (F0 m 2 ls []) := by
  obtain ⟨hx, hb, hr, hml, hown, hA, hlocks, hK, hZ⟩ := id C0
  intro n
  induction n with
  | zero =>
    intro M a1 a2 a3 hf
    cases hf
  | succ n ih =>
    intro M a1 a2 a3 hf H locs ls hH hS hl
    rw [f_X8_fewest_2] at hf
    refine lv_iload_n hx hb dX8_fewest_2 rfl (lv_at hl 3 rfl) ?_
    refine lv_bipush (v := (9 : Int32)) hx hb dX8_fewest_3 (by decide) ?_
    refine lv_icmp_ge (tgt := 31) hx hb dX8_fewest_5 (by decide) (fun hc32 => ?_) (fun hc32 => ?_)
    · have hf := if_t hf hc32
      refine lv_iconst (v := (0 : Int32)) hx hb dX8_fewest_31 (by decide) ?_
      refine lv_istore_n (lv' := [(3, .int (0 : Int32)), (0, .ref (YA Y 20 0)), (1, .int a1), (2, .int a2)]) hx hb dX8_fewest_32 rfl hl (by decide) rfl (fun ls hl => ?_)
      exact w_X8_fewest_33 C0 FU M a2 (0 : Int32) hf _ _ _ hH hS (lv_sub hl [1, 3, 0] rfl)
    · have hf := if_f hf hc32
      refine lv_aload_n hx hb dX8_fewest_8 rfl (lv_at hl 0 rfl) ?_
      refine hs_get hx hb (T := TX8) hA inAX8 hown hK hH 20 0 (by decide) 12 rfl rfl 12 (by decide) (hA _ zt_1563) rfl rfl dX8_fewest_9 ?_
      refine lv_iload_n hx hb dX8_fewest_12 rfl (lv_at hl 3 rfl) ?_
      refine lv_iload_n hx hb dX8_fewest_13 rfl (lv_at hl 3 rfl) ?_
      refine lv_iload_n hx hb dX8_fewest_14 rfl (lv_at hl 1 rfl) ?_
      refine lv_icmp_ne (tgt := 22) hx hb dX8_fewest_15 (by decide) (fun hc31 => ?_) (fun hc31 => ?_)
      · have hf := if_f hf hc31
        refine lv_ldc (v := (1000000 : Int32)) hx hb hown (hA _ zt_1773) dX8_fewest_22 ?_
        exact w_X8_fewest_24 C0 (f_X8_fewest_2 n) ih M a1 a2 a3 (1000000 : Int32) a3 hf _ _ _ hH hS (lv_sub hl [0, 1, 2, 3] rfl)
      · have hf := if_t hf hc31
        refine lv_iconst (v := (0 : Int32)) hx hb dX8_fewest_18 (by decide) ?_
        refine lv_goto (tgt := 24) hx hb dX8_fewest_19 (by decide) ?_
        exact w_X8_fewest_24 C0 (f_X8_fewest_2 n) ih M a1 a2 a3 (0 : Int32) a3 hf _ _ _ hH hS (lv_sub hl [0, 1, 2, 3] rfl)
def f_X8_fewest (M : Mem) (a1 : Int32) (a2 : Int32) : Option (Int32 × Mem) := f_X8_fewest_2 FU M a1 a2 (0 : Int32)
set_option maxHeartbeats 4000000 in
set_option maxRecDepth 100000 in
theorem c_X8_fewest {Y : LY} {l : Launch} (M : Mem) (a1 : Int32) (a2 : Int32) {r : Int32} {MZ : Mem} (hf : f_X8_fewest M a1 a2 = some (r, MZ)) : Met l yX8_fewest (WS yX8_fewest cX8_fewest 7 (Option.some Jvm.ClassFile.FieldType.int)) { frames := 1, cells := 0, slots := 0, locals := 21 } (PcM Y M [.ref (YA Y 20 0), .int a1, .int a2]) (Qi Y r MZ) 0 0 (AZ Y) := by
  refine met_mk (lv := [(0, .ref (YA Y 20 0)), (1, .int a1), (2, .int a2)]) [.ref (YA Y 20 0), .int a1, .int a2] (by decide) rfl rfl (Nat.le_of_ble_eq_true rfl) (fun p e s m below meth c C0 hH ls hl => ?_)
  have hS : va_S (AZ Y) s.heap s.heap [] := va_S.rf
  obtain ⟨hx, hb, hr, hml, hown, hA, hlocks, hK, hZ⟩ := id C0
  unfold f_X8_fewest at hf
  refine lv_iconst (v := (0 : Int32)) hx hb dX8_fewest_0 (by decide) ?_
  refine lv_istore_n (lv' := [(3, .int (0 : Int32)), (0, .ref (YA Y 20 0)), (1, .int a1), (2, .int a2)]) hx hb dX8_fewest_1 rfl hl (by decide) rfl (fun ls hl => ?_)
  exact w_X8_fewest_2 C0 FU M a1 a2 (0 : Int32) hf _ _ _ hH hS (lv_sub hl [1, 2, 3, 0] rfl)
def f_X8_placeOfParcel (M : Mem) (a1 : Int32) : Option Int32 := bd (f_X8_parcelAt M a1) fun r15 => if vin (r15 + (4 : Int32)) 192 then ((if (M 21 0 (ix (r15 + (4 : Int32)))) = (-1 : Int32) then bd (f_X8_parcelAt M a1) fun r21 => if vin (r21 + (5 : Int32)) 192 then (bd (f_X8_linkAt M (M 21 0 (ix (r21 + (5 : Int32))))) fun r24 => if vin (r24 + (1 : Int32)) 192 then (some (M 21 0 (ix (r24 + (1 : Int32))))) else none) else none else bd (f_X8_parcelAt M a1) fun r18 => if vin (r18 + (4 : Int32)) 192 then (some (M 21 0 (ix (r18 + (4 : Int32))))) else none)) else none
set_option maxHeartbeats 4000000 in
set_option maxRecDepth 100000 in
theorem c_X8_placeOfParcel {Y : LY} {l : Launch} (M : Mem) (a1 : Int32) {r : Int32} (hf : f_X8_placeOfParcel M a1 = some r) : Met l yX8_placeOfParcel (WS yX8_placeOfParcel cX8_placeOfParcel 2 (Option.some Jvm.ClassFile.FieldType.int)) { frames := 1, cells := 0, slots := 0, locals := 20 } (PcM Y M [.ref (YA Y 20 0), .int a1]) (Qi Y r M) 0 0 (AZ Y) := by
  refine met_mk (lv := [(0, .ref (YA Y 20 0)), (1, .int a1)]) [.ref (YA Y 20 0), .int a1] (by decide) rfl rfl (Nat.le_of_ble_eq_true rfl) (fun p e s m below meth c C0 hH ls hl => ?_)
  have hS : va_S (AZ Y) s.heap s.heap [] := va_S.rf
  obtain ⟨hx, hb, hr, hml, hown, hA, hlocks, hK, hZ⟩ := id C0
  unfold f_X8_placeOfParcel at hf
  refine lv_aload_n hx hb dX8_placeOfParcel_0 rfl (lv_at hl 0 rfl) ?_
  refine hs_get hx hb (T := TX8) hA inAX8 hown hK hH 20 0 (by decide) 12 rfl rfl 0 (by decide) (hA _ zt_1551) rfl rfl dX8_placeOfParcel_1 ?_
  refine lv_iload_n hx hb dX8_placeOfParcel_4 rfl (lv_at hl 1 rfl) ?_
  obtain ⟨r15, hq14, hf⟩ := bd_o hf
  refine hs_ci (hs_runS C0 hH hS (n := 1) (As := [.int a1]) (rest := [.ref (YA Y 21 0)]) (c_X8_parcelAt M a1 hq14) ⟨⟨zt_1694, zt_1695, zt_13, zt_1696⟩, by decide, by decide, by decide +kernel⟩ ⟨rfl, rfl, Nat.le_of_ble_eq_true rfl, Nat.le_of_ble_eq_true rfl⟩ rfl rfl hl.1 (Nat.le_of_ble_eq_true rfl) ⟨Nat.le_of_ble_eq_true rfl, Nat.le_of_ble_eq_true rfl⟩ dX8_placeOfParcel_5) hS (fun H locs hH hS => ?_)
  refine lv_iconst (v := (4 : Int32)) hx hb dX8_placeOfParcel_8 (by decide) ?_
  refine lv_iadd hx hb dX8_placeOfParcel_9 ?_
  obtain ⟨hg16, hf⟩ := gd_o hf
  have bhg16 := vin_lt hg16
  refine hs_iald hx hb hK hH 21 0 (by decide) rfl hg16 rfl dX8_placeOfParcel_10 ?_
  refine lv_iconst (v := (-1 : Int32)) hx hb dX8_placeOfParcel_11 (by decide) ?_
  refine lv_icmp_ne (tgt := 39) hx hb dX8_placeOfParcel_12 (by decide) (fun hc26 => ?_) (fun hc26 => ?_)
  · have hf := if_f hf hc26
    refine lv_aload_n hx hb dX8_placeOfParcel_39 rfl (lv_at hl 0 rfl) ?_
    refine hs_get hx hb (T := TX8) hA inAX8 hown hK hH 20 0 (by decide) 12 rfl rfl 0 (by decide) (hA _ zt_1551) rfl rfl dX8_placeOfParcel_40 ?_
    refine lv_iload_n hx hb dX8_placeOfParcel_43 rfl (lv_at hl 1 rfl) ?_
    obtain ⟨r18, hq17, hf⟩ := bd_o hf
    refine hs_ci (hs_runS C0 hH hS (n := 1) (As := [.int a1]) (rest := [.ref (YA Y 21 0)]) (c_X8_parcelAt M a1 hq17) ⟨⟨zt_1694, zt_1695, zt_13, zt_1696⟩, by decide, by decide, by decide +kernel⟩ ⟨rfl, rfl, Nat.le_of_ble_eq_true rfl, Nat.le_of_ble_eq_true rfl⟩ rfl rfl hl.1 (Nat.le_of_ble_eq_true rfl) ⟨Nat.le_of_ble_eq_true rfl, Nat.le_of_ble_eq_true rfl⟩ dX8_placeOfParcel_44) hS (fun H locs hH hS => ?_)
    refine lv_iconst (v := (4 : Int32)) hx hb dX8_placeOfParcel_47 (by decide) ?_
    refine lv_iadd hx hb dX8_placeOfParcel_48 ?_
    obtain ⟨hg19, hf⟩ := gd_o hf
    have bhg19 := vin_lt hg19
    refine hs_iald hx hb hK hH 21 0 (by decide) rfl hg19 rfl dX8_placeOfParcel_49 ?_
    cases hf
    exact hs_iret C0 hH hS (by decide) (by decide) dX8_placeOfParcel_50
  · have hf := if_t hf hc26
    refine lv_aload_n hx hb dX8_placeOfParcel_15 rfl (lv_at hl 0 rfl) ?_
    refine hs_get hx hb (T := TX8) hA inAX8 hown hK hH 20 0 (by decide) 12 rfl rfl 0 (by decide) (hA _ zt_1551) rfl rfl dX8_placeOfParcel_16 ?_
    refine lv_aload_n hx hb dX8_placeOfParcel_19 rfl (lv_at hl 0 rfl) ?_
    refine hs_get hx hb (T := TX8) hA inAX8 hown hK hH 20 0 (by decide) 12 rfl rfl 0 (by decide) (hA _ zt_1551) rfl rfl dX8_placeOfParcel_20 ?_
    refine lv_iload_n hx hb dX8_placeOfParcel_23 rfl (lv_at hl 1 rfl) ?_
    obtain ⟨r21, hq20, hf⟩ := bd_o hf
    refine hs_ci (hs_runS C0 hH hS (n := 1) (As := [.int a1]) (rest := [.ref (YA Y 21 0), .ref (YA Y 21 0)]) (c_X8_parcelAt M a1 hq20) ⟨⟨zt_1694, zt_1695, zt_13, zt_1696⟩, by decide, by decide, by decide +kernel⟩ ⟨rfl, rfl, Nat.le_of_ble_eq_true rfl, Nat.le_of_ble_eq_true rfl⟩ rfl rfl hl.1 (Nat.le_of_ble_eq_true rfl) ⟨Nat.le_of_ble_eq_true rfl, Nat.le_of_ble_eq_true rfl⟩ dX8_placeOfParcel_24) hS (fun H locs hH hS => ?_)
    refine lv_iconst (v := (5 : Int32)) hx hb dX8_placeOfParcel_27 (by decide) ?_
    refine lv_iadd hx hb dX8_placeOfParcel_28 ?_
    obtain ⟨hg22, hf⟩ := gd_o hf
    have bhg22 := vin_lt hg22
    refine hs_iald hx hb hK hH 21 0 (by decide) rfl hg22 rfl dX8_placeOfParcel_29 ?_
    obtain ⟨r24, hq23, hf⟩ := bd_o hf
    refine hs_ci (hs_runS C0 hH hS (n := 1) (As := [.int (M 21 0 (ix (r21 + (5 : Int32))))]) (rest := [.ref (YA Y 21 0)]) (c_X8_linkAt M (M 21 0 (ix (r21 + (5 : Int32)))) hq23) ⟨⟨zt_1662, zt_1663, zt_13, zt_1664⟩, by decide, by decide, by decide +kernel⟩ ⟨rfl, rfl, Nat.le_of_ble_eq_true rfl, Nat.le_of_ble_eq_true rfl⟩ rfl rfl hl.1 (Nat.le_of_ble_eq_true rfl) ⟨Nat.le_of_ble_eq_true rfl, Nat.le_of_ble_eq_true rfl⟩ dX8_placeOfParcel_30) hS (fun H locs hH hS => ?_)
    refine lv_iconst (v := (1 : Int32)) hx hb dX8_placeOfParcel_33 (by decide) ?_
    refine lv_iadd hx hb dX8_placeOfParcel_34 ?_
    obtain ⟨hg25, hf⟩ := gd_o hf
    have bhg25 := vin_lt hg25
    refine hs_iald hx hb hK hH 21 0 (by decide) rfl hg25 rfl dX8_placeOfParcel_35 ?_
    refine lv_goto (tgt := 50) hx hb dX8_placeOfParcel_36 (by decide) ?_
    cases hf
    exact hs_iret C0 hH hS (by decide) (by decide) dX8_placeOfParcel_50
def f_X8_forecastOf_36 (M : Mem) (a1 : Int32) (b0 : Int32) : Option (Int32 × Mem) := bd (f_X8_placeOfParcel M a1) fun r17 => bd (f_X8_parcelAt M a1) fun r19 => if vin (r19 + (1 : Int32)) 192 then (bd2 (f_X8_earliest M r17 (M 21 0 (ix (r19 + (1 : Int32)))) b0) fun r23 M22 => some (r23, M22)) else none
set_option maxHeartbeats 4000000 in
set_option maxRecDepth 100000 in
theorem w_X8_forecastOf_36 {Y : LY} {p : Program} {l : Launch} {e : Env} {s : State} {m : MethodId} {args : Array Value} {below : List Frame} {meth : Method} {c : Code} (C0 : BE Y p s m args meth c cX8_forecastOf 3 (Option.some Jvm.ClassFile.FieldType.int) RX8) {r : Int32} {MZ : Mem} : ∀ (M : Mem) (a1 : Int32) (b0 : Int32), f_X8_forecastOf_36 M a1 b0 = some (r, MZ) → ∀ (H : Heap) (locs : List Loc) (ls : Array Slot), HS Y M H → va_S (AZ Y) s.heap H locs → lv_has ls 3 [(0, .ref (YA Y 20 0)), (1, .int a1)] → W p l e { frames := 4, cells := 0, slots := 0, locals := 92 } s m args below meth c H locs 0 0 (MQ below (Qi Y r MZ) args s 0 0 (AZ Y)) (F0 m 36 ls [.int b0]) := by
  obtain ⟨hx, hb, hr, hml, hown, hA, hlocks, hK, hZ⟩ := id C0
  intro M a1 b0 hf H locs ls hH hS hl
  unfold f_X8_forecastOf_36 at hf
  refine lv_istore_n (lv' := [(2, .int b0), (0, .ref (YA Y 20 0)), (1, .int a1)]) hx hb dX8_forecastOf_36 rfl hl (by decide) rfl (fun ls hl => ?_)
  refine lv_aload_n hx hb dX8_forecastOf_37 rfl (lv_at hl 1 rfl) ?_
  refine lv_aload_n hx hb dX8_forecastOf_38 rfl (lv_at hl 1 rfl) ?_
  refine lv_iload_n hx hb dX8_forecastOf_39 rfl (lv_at hl 2 rfl) ?_
  obtain ⟨r17, hq16, hf⟩ := bd_o hf
  refine hs_ci (hs_runV C0 hH hS (n := 1) (As := [.int a1]) (rest := [.ref (YA Y 20 0)]) (c_X8_placeOfParcel M a1 hq16) ⟨⟨zt_1761, zt_1763, zs_54, zt_13, zt_1764⟩, rfl, by decide, by decide, by decide +kernel⟩ ⟨rfl, rfl, Nat.le_of_ble_eq_true rfl, Nat.le_of_ble_eq_true rfl⟩ (hs_recv hK hH 20 0 (by decide) 12 rfl rfl) rfl rfl hl.1 (Nat.le_of_ble_eq_true rfl) ⟨Nat.le_of_ble_eq_true rfl, Nat.le_of_ble_eq_true rfl⟩ dX8_forecastOf_40) hS (fun H locs hH hS => ?_)
  refine lv_aload_n hx hb dX8_forecastOf_43 rfl (lv_at hl 1 rfl) ?_
  refine hs_get hx hb (T := TX8) hA inAX8 hown hK hH 20 0 (by decide) 12 rfl rfl 0 (by decide) (hA _ zt_1551) rfl rfl dX8_forecastOf_44 ?_
  refine lv_iload_n hx hb dX8_forecastOf_47 rfl (lv_at hl 2 rfl) ?_
  obtain ⟨r19, hq18, hf⟩ := bd_o hf
  refine hs_ci (hs_runS C0 hH hS (n := 1) (As := [.int a1]) (rest := [.ref (YA Y 21 0), .int r17, .ref (YA Y 20 0)]) (c_X8_parcelAt M a1 hq18) ⟨⟨zt_1694, zt_1695, zt_13, zt_1696⟩, by decide, by decide, by decide +kernel⟩ ⟨rfl, rfl, Nat.le_of_ble_eq_true rfl, Nat.le_of_ble_eq_true rfl⟩ rfl rfl hl.1 (Nat.le_of_ble_eq_true rfl) ⟨Nat.le_of_ble_eq_true rfl, Nat.le_of_ble_eq_true rfl⟩ dX8_forecastOf_48) hS (fun H locs hH hS => ?_)
  refine lv_iconst (v := (1 : Int32)) hx hb dX8_forecastOf_51 (by decide) ?_
  refine lv_iadd hx hb dX8_forecastOf_52 ?_
  obtain ⟨hg20, hf⟩ := gd_o hf
  have bhg20 := vin_lt hg20
  refine hs_iald hx hb hK hH 21 0 (by decide) rfl hg20 rfl dX8_forecastOf_53 ?_
  refine lv_iload_n hx hb dX8_forecastOf_54 rfl (lv_at hl 0 rfl) ?_
  obtain ⟨r23, M22, hq21, hf⟩ := bd2_o hf
  refine hs_ci (hs_runV C0 hH hS (n := 3) (As := [.int r17, .int (M 21 0 (ix (r19 + (1 : Int32)))), .int b0]) (rest := []) (c_X8_earliest M r17 (M 21 0 (ix (r19 + (1 : Int32)))) b0 hq21) ⟨⟨zt_1765, zt_1767, zs_55, zt_13, zt_1768⟩, rfl, by decide, by decide, by decide +kernel⟩ ⟨rfl, rfl, Nat.le_of_ble_eq_true rfl, Nat.le_of_ble_eq_true rfl⟩ (hs_recv hK hH 20 0 (by decide) 12 rfl rfl) rfl rfl hl.1 (Nat.le_of_ble_eq_true rfl) ⟨Nat.le_of_ble_eq_true rfl, Nat.le_of_ble_eq_true rfl⟩ dX8_forecastOf_55) hS (fun H locs hH hS => ?_)
  cases hf
  exact hs_iret C0 hH hS (by decide) (by decide) dX8_forecastOf_58
def f_X8_forecastOf (M : Mem) (a1 : Int32) : Option (Int32 × Mem) := bd (f_X8_parcelAt M a1) fun r25 => if vin (r25 + (4 : Int32)) 192 then ((if (M 21 0 (ix (r25 + (4 : Int32)))) = (-1 : Int32) then bd (f_X8_parcelAt M a1) fun r28 => if vin (r28 + (6 : Int32)) 192 then (f_X8_forecastOf_36 M a1 (M 21 0 (ix (r28 + (6 : Int32))))) else none else f_X8_forecastOf_36 M a1 (M 21 0 4))) else none
set_option maxHeartbeats 4000000 in
set_option maxRecDepth 100000 in
theorem c_X8_forecastOf {Y : LY} {l : Launch} (M : Mem) (a1 : Int32) {r : Int32} {MZ : Mem} (hf : f_X8_forecastOf M a1 = some (r, MZ)) : Met l yX8_forecastOf (WS yX8_forecastOf cX8_forecastOf 3 (Option.some Jvm.ClassFile.FieldType.int)) { frames := 4, cells := 0, slots := 0, locals := 92 } (PcM Y M [.ref (YA Y 20 0), .int a1]) (Qi Y r MZ) 0 0 (AZ Y) := by
  refine met_mk (lv := [(0, .ref (YA Y 20 0)), (1, .int a1)]) [.ref (YA Y 20 0), .int a1] (by decide) rfl rfl (Nat.le_of_ble_eq_true rfl) (fun p e s m below meth c C0 hH ls hl => ?_)
  have hS : va_S (AZ Y) s.heap s.heap [] := va_S.rf
  obtain ⟨hx, hb, hr, hml, hown, hA, hlocks, hK, hZ⟩ := id C0
  unfold f_X8_forecastOf at hf
  refine lv_aload_n hx hb dX8_forecastOf_0 rfl (lv_at hl 0 rfl) ?_
  refine hs_get hx hb (T := TX8) hA inAX8 hown hK hH 20 0 (by decide) 12 rfl rfl 0 (by decide) (hA _ zt_1551) rfl rfl dX8_forecastOf_1 ?_
  refine lv_iload_n hx hb dX8_forecastOf_4 rfl (lv_at hl 1 rfl) ?_
  obtain ⟨r25, hq24, hf⟩ := bd_o hf
  refine hs_ci (hs_runS C0 hH hS (n := 1) (As := [.int a1]) (rest := [.ref (YA Y 21 0)]) (c_X8_parcelAt M a1 hq24) ⟨⟨zt_1694, zt_1695, zt_13, zt_1696⟩, by decide, by decide, by decide +kernel⟩ ⟨rfl, rfl, Nat.le_of_ble_eq_true rfl, Nat.le_of_ble_eq_true rfl⟩ rfl rfl hl.1 (Nat.le_of_ble_eq_true rfl) ⟨Nat.le_of_ble_eq_true rfl, Nat.le_of_ble_eq_true rfl⟩ dX8_forecastOf_5) hS (fun H locs hH hS => ?_)
  refine lv_iconst (v := (4 : Int32)) hx hb dX8_forecastOf_8 (by decide) ?_
  refine lv_iadd hx hb dX8_forecastOf_9 ?_
  obtain ⟨hg26, hf⟩ := gd_o hf
  have bhg26 := vin_lt hg26
  refine hs_iald hx hb hK hH 21 0 (by decide) rfl hg26 rfl dX8_forecastOf_10 ?_
  refine lv_iconst (v := (-1 : Int32)) hx hb dX8_forecastOf_11 (by decide) ?_
  refine lv_icmp_ne (tgt := 30) hx hb dX8_forecastOf_12 (by decide) (fun hc30 => ?_) (fun hc30 => ?_)
  · have hf := if_f hf hc30
    refine lv_aload_n hx hb dX8_forecastOf_30 rfl (lv_at hl 0 rfl) ?_
    refine hs_get hx hb (T := TX8) hA inAX8 hown hK hH 20 0 (by decide) 12 rfl rfl 0 (by decide) (hA _ zt_1551) rfl rfl dX8_forecastOf_31 ?_
    refine lv_iconst (v := (4 : Int32)) hx hb dX8_forecastOf_34 (by decide) ?_
    refine hs_iald hx hb hK hH 21 0 (by decide) rfl (show vin (4 : Int32) 192 from by decide) (show ix (4 : Int32) = 4 from by decide) dX8_forecastOf_35 ?_
    exact w_X8_forecastOf_36 C0 M a1 (M 21 0 4) hf _ _ _ hH hS (lv_sub hl [0, 1] rfl)
  · have hf := if_t hf hc30
    refine lv_aload_n hx hb dX8_forecastOf_15 rfl (lv_at hl 0 rfl) ?_
    refine hs_get hx hb (T := TX8) hA inAX8 hown hK hH 20 0 (by decide) 12 rfl rfl 0 (by decide) (hA _ zt_1551) rfl rfl dX8_forecastOf_16 ?_
    refine lv_iload_n hx hb dX8_forecastOf_19 rfl (lv_at hl 1 rfl) ?_
    obtain ⟨r28, hq27, hf⟩ := bd_o hf
    refine hs_ci (hs_runS C0 hH hS (n := 1) (As := [.int a1]) (rest := [.ref (YA Y 21 0)]) (c_X8_parcelAt M a1 hq27) ⟨⟨zt_1694, zt_1695, zt_13, zt_1696⟩, by decide, by decide, by decide +kernel⟩ ⟨rfl, rfl, Nat.le_of_ble_eq_true rfl, Nat.le_of_ble_eq_true rfl⟩ rfl rfl hl.1 (Nat.le_of_ble_eq_true rfl) ⟨Nat.le_of_ble_eq_true rfl, Nat.le_of_ble_eq_true rfl⟩ dX8_forecastOf_20) hS (fun H locs hH hS => ?_)
    refine lv_bipush (v := (6 : Int32)) hx hb dX8_forecastOf_23 (by decide) ?_
    refine lv_iadd hx hb dX8_forecastOf_25 ?_
    obtain ⟨hg29, hf⟩ := gd_o hf
    have bhg29 := vin_lt hg29
    refine hs_iald hx hb hK hH 21 0 (by decide) rfl hg29 rfl dX8_forecastOf_26 ?_
    refine lv_goto (tgt := 36) hx hb dX8_forecastOf_27 (by decide) ?_
    exact w_X8_forecastOf_36 C0 M a1 (M 21 0 (ix (r28 + (6 : Int32)))) hf _ _ _ hH hS (lv_sub hl [0, 1] rfl)
def f_X8_next_131 (k18 : Mem → Int32 → Int32 → Int32 → Int32 → Option (Int32 × Mem)) (M : Mem) (a1 : Int32) (a2 : Int32) (a3 : Int32) (a4 : Int32) : Option (Int32 × Mem) := k18 M a1 a2 a3 (a4 + (-1 : Int32))
set_option maxHeartbeats 4000000 in
set_option maxRecDepth 100000 in
theorem w_X8_next_131 {Y : LY} {p : Program} {l : Launch} {e : Env} {s : State} {m : MethodId} {args : Array Value} {below : List Frame} {meth : Method} {c : Code} (C0 : BE Y p s m args meth c cX8_next 7 (Option.some Jvm.ClassFile.FieldType.int) RX8) {r : Int32} {MZ : Mem} (k18 : Mem → Int32 → Int32 → Int32 → Int32 → Option (Int32 × Mem)) (hk18 : ∀ (M : Mem) (a1 : Int32) (a2 : Int32) (a3 : Int32) (a4 : Int32), k18 M a1 a2 a3 a4 = some (r, MZ) → ∀ (H : Heap) (locs : List Loc) (ls : Array Slot), HS Y M H → va_S (AZ Y) s.heap H locs → lv_has ls 7 [(0, .ref (YA Y 20 0)), (1, .int a1), (2, .int a2), (3, .int a3), (4, .int a4)] → W p l e { frames := 5, cells := 0, slots := 0, locals := 114 } s m args below meth c H locs 0 0 (MQ below (Qi Y r MZ) args s 0 0 (AZ Y)) (F0 m 18 ls [])) : ∀ (M : Mem) (a1 : Int32) (a2 : Int32) (a3 : Int32) (a4 : Int32), f_X8_next_131 k18 M a1 a2 a3 a4 = some (r, MZ) → ∀ (H : Heap) (locs : List Loc) (ls : Array Slot), HS Y M H → va_S (AZ Y) s.heap H locs → lv_has ls 7 [(0, .ref (YA Y 20 0)), (1, .int a1), (2, .int a2), (3, .int a3), (4, .int a4)] → W p l e { frames := 5, cells := 0, slots := 0, locals := 114 } s m args below meth c H locs 0 0 (MQ below (Qi Y r MZ) args s 0 0 (AZ Y)) (F0 m 131 ls []) := by
  obtain ⟨hx, hb, hr, hml, hown, hA, hlocks, hK, hZ⟩ := id C0
  intro M a1 a2 a3 a4 hf H locs ls hH hS hl
  unfold f_X8_next_131 at hf
  refine lv_iinc (v := a4 + (-1 : Int32)) (lv' := [(4, .int (a4 + (-1 : Int32))), (0, .ref (YA Y 20 0)), (1, .int a1), (2, .int a2), (3, .int a3)]) hx hb dX8_next_131 hl (k := 4) rfl rfl (by decide) rfl (fun ls hl => ?_)
  refine lv_goto (tgt := 18) hx hb dX8_next_134 (by decide) ?_
  exact hk18 M a1 a2 a3 (a4 + (-1 : Int32)) hf _ _ _ hH hS (lv_sub hl [1, 2, 3, 4, 0] rfl)
def f_X8_next_77 (k18 : Mem → Int32 → Int32 → Int32 → Int32 → Option (Int32 × Mem)) (M : Mem) (a1 : Int32) (a2 : Int32) (a3 : Int32) (a4 : Int32) (a5 : Int32) (b0 : Int32) : Option (Int32 × Mem) := (if b0 = 0 then f_X8_next_131 k18 M a1 a2 a3 a4 else if vin (a5 + (1 : Int32)) 192 then (bd (f_X8_parcelAt M a1) fun r28 => if vin (r28 + (1 : Int32)) 192 then (if vin (a5 + (2 : Int32)) 192 then (bd2 (f_X8_earliest M (M 21 0 (ix (a5 + (1 : Int32)))) (M 21 0 (ix (r28 + (1 : Int32)))) ((M 21 0 4) + (M 21 0 (ix (a5 + (2 : Int32)))))) fun r33 M32 => (if r33 = a2 then f_X8_next_131 k18 M32 a1 a2 a4 a4 else f_X8_next_131 k18 M32 a1 a2 a3 a4)) else none) else none) else none)
set_option maxHeartbeats 4000000 in
set_option maxRecDepth 100000 in
theorem w_X8_next_77 {Y : LY} {p : Program} {l : Launch} {e : Env} {s : State} {m : MethodId} {args : Array Value} {below : List Frame} {meth : Method} {c : Code} (C0 : BE Y p s m args meth c cX8_next 7 (Option.some Jvm.ClassFile.FieldType.int) RX8) {r : Int32} {MZ : Mem} (k18 : Mem → Int32 → Int32 → Int32 → Int32 → Option (Int32 × Mem)) (hk18 : ∀ (M : Mem) (a1 : Int32) (a2 : Int32) (a3 : Int32) (a4 : Int32), k18 M a1 a2 a3 a4 = some (r, MZ) → ∀ (H : Heap) (locs : List Loc) (ls : Array Slot), HS Y M H → va_S (AZ Y) s.heap H locs → lv_has ls 7 [(0, .ref (YA Y 20 0)), (1, .int a1), (2, .int a2), (3, .int a3), (4, .int a4)] → W p l e { frames := 5, cells := 0, slots := 0, locals := 114 } s m args below meth c H locs 0 0 (MQ below (Qi Y r MZ) args s 0 0 (AZ Y)) (F0 m 18 ls [])) : ∀ (M : Mem) (a1 : Int32) (a2 : Int32) (a3 : Int32) (a4 : Int32) (a5 : Int32) (b0 : Int32), f_X8_next_77 k18 M a1 a2 a3 a4 a5 b0 = some (r, MZ) → ∀ (H : Heap) (locs : List Loc) (ls : Array Slot), HS Y M H → va_S (AZ Y) s.heap H locs → lv_has ls 7 [(0, .ref (YA Y 20 0)), (1, .int a1), (2, .int a2), (3, .int a3), (4, .int a4), (5, .int a5)] → W p l e { frames := 5, cells := 0, slots := 0, locals := 114 } s m args below meth c H locs 0 0 (MQ below (Qi Y r MZ) args s 0 0 (AZ Y)) (F0 m 77 ls [.int b0]) := by
  obtain ⟨hx, hb, hr, hml, hown, hA, hlocks, hK, hZ⟩ := id C0
  intro M a1 a2 a3 a4 a5 b0 hf H locs ls hH hS hl
  unfold f_X8_next_77 at hf
  refine lv_istore (lv' := [(6, .int b0), (0, .ref (YA Y 20 0)), (1, .int a1), (2, .int a2), (3, .int a3), (4, .int a4), (5, .int a5)]) hx hb dX8_next_77 hl (by decide) rfl (fun ls hl => ?_)
  refine lv_iload hx hb dX8_next_79 (lv_at hl 0 rfl) ?_
  refine lv_if_eq (tgt := 131) hx hb dX8_next_81 (by decide) (fun hc35 => ?_) (fun hc35 => ?_)
  · have hf := if_t hf hc35
    exact w_X8_next_131 C0 k18 hk18 M a1 a2 a3 a4 hf _ _ _ hH hS (lv_sub hl [1, 2, 3, 4, 5] rfl)
  · have hf := if_f hf hc35
    refine lv_aload_n hx hb dX8_next_84 rfl (lv_at hl 1 rfl) ?_
    refine lv_aload_n hx hb dX8_next_85 rfl (lv_at hl 1 rfl) ?_
    refine hs_get hx hb (T := TX8) hA inAX8 hown hK hH 20 0 (by decide) 12 rfl rfl 0 (by decide) (hA _ zt_1551) rfl rfl dX8_next_86 ?_
    refine lv_iload hx hb dX8_next_89 (lv_at hl 6 rfl) ?_
    refine lv_iconst (v := (1 : Int32)) hx hb dX8_next_91 (by decide) ?_
    refine lv_iadd hx hb dX8_next_92 ?_
    obtain ⟨hg26, hf⟩ := gd_o hf
    have bhg26 := vin_lt hg26
    refine hs_iald hx hb hK hH 21 0 (by decide) rfl hg26 rfl dX8_next_93 ?_
    refine lv_aload_n hx hb dX8_next_94 rfl (lv_at hl 1 rfl) ?_
    refine hs_get hx hb (T := TX8) hA inAX8 hown hK hH 20 0 (by decide) 12 rfl rfl 0 (by decide) (hA _ zt_1551) rfl rfl dX8_next_95 ?_
    refine lv_iload_n hx hb dX8_next_98 rfl (lv_at hl 2 rfl) ?_
    obtain ⟨r28, hq27, hf⟩ := bd_o hf
    refine hs_ci (hs_runS C0 hH hS (n := 1) (As := [.int a1]) (rest := [.ref (YA Y 21 0), .int (M 21 0 (ix (a5 + (1 : Int32)))), .ref (YA Y 20 0)]) (c_X8_parcelAt M a1 hq27) ⟨⟨zt_1694, zt_1695, zt_13, zt_1696⟩, by decide, by decide, by decide +kernel⟩ ⟨rfl, rfl, Nat.le_of_ble_eq_true rfl, Nat.le_of_ble_eq_true rfl⟩ rfl rfl hl.1 (Nat.le_of_ble_eq_true rfl) ⟨Nat.le_of_ble_eq_true rfl, Nat.le_of_ble_eq_true rfl⟩ dX8_next_99) hS (fun H locs hH hS => ?_)
    refine lv_iconst (v := (1 : Int32)) hx hb dX8_next_102 (by decide) ?_
    refine lv_iadd hx hb dX8_next_103 ?_
    obtain ⟨hg29, hf⟩ := gd_o hf
    have bhg29 := vin_lt hg29
    refine hs_iald hx hb hK hH 21 0 (by decide) rfl hg29 rfl dX8_next_104 ?_
    refine lv_aload_n hx hb dX8_next_105 rfl (lv_at hl 1 rfl) ?_
    refine hs_get hx hb (T := TX8) hA inAX8 hown hK hH 20 0 (by decide) 12 rfl rfl 0 (by decide) (hA _ zt_1551) rfl rfl dX8_next_106 ?_
    refine lv_iconst (v := (4 : Int32)) hx hb dX8_next_109 (by decide) ?_
    refine hs_iald hx hb hK hH 21 0 (by decide) rfl (show vin (4 : Int32) 192 from by decide) (show ix (4 : Int32) = 4 from by decide) dX8_next_110 ?_
    refine lv_aload_n hx hb dX8_next_111 rfl (lv_at hl 1 rfl) ?_
    refine hs_get hx hb (T := TX8) hA inAX8 hown hK hH 20 0 (by decide) 12 rfl rfl 0 (by decide) (hA _ zt_1551) rfl rfl dX8_next_112 ?_
    refine lv_iload hx hb dX8_next_115 (lv_at hl 6 rfl) ?_
    refine lv_iconst (v := (2 : Int32)) hx hb dX8_next_117 (by decide) ?_
    refine lv_iadd hx hb dX8_next_118 ?_
    obtain ⟨hg30, hf⟩ := gd_o hf
    have bhg30 := vin_lt hg30
    refine hs_iald hx hb hK hH 21 0 (by decide) rfl hg30 rfl dX8_next_119 ?_
    refine lv_iadd hx hb dX8_next_120 ?_
    obtain ⟨r33, M32, hq31, hf⟩ := bd2_o hf
    refine hs_ci (hs_runV C0 hH hS (n := 3) (As := [.int (M 21 0 (ix (a5 + (1 : Int32)))), .int (M 21 0 (ix (r28 + (1 : Int32)))), .int ((M 21 0 4) + (M 21 0 (ix (a5 + (2 : Int32)))))]) (rest := []) (c_X8_earliest M (M 21 0 (ix (a5 + (1 : Int32)))) (M 21 0 (ix (r28 + (1 : Int32)))) ((M 21 0 4) + (M 21 0 (ix (a5 + (2 : Int32))))) hq31) ⟨⟨zt_1765, zt_1767, zs_55, zt_13, zt_1768⟩, rfl, by decide, by decide, by decide +kernel⟩ ⟨rfl, rfl, Nat.le_of_ble_eq_true rfl, Nat.le_of_ble_eq_true rfl⟩ (hs_recv hK hH 20 0 (by decide) 12 rfl rfl) rfl rfl hl.1 (Nat.le_of_ble_eq_true rfl) ⟨Nat.le_of_ble_eq_true rfl, Nat.le_of_ble_eq_true rfl⟩ dX8_next_121) hS (fun H locs hH hS => ?_)
    refine lv_iload_n hx hb dX8_next_124 rfl (lv_at hl 3 rfl) ?_
    refine lv_icmp_ne (tgt := 131) hx hb dX8_next_125 (by decide) (fun hc34 => ?_) (fun hc34 => ?_)
    · have hf := if_f hf hc34
      exact w_X8_next_131 C0 k18 hk18 M32 a1 a2 a3 a4 hf _ _ _ hH hS (lv_sub hl [1, 2, 3, 4, 5] rfl)
    · have hf := if_t hf hc34
      refine lv_iload hx hb dX8_next_128 (lv_at hl 5 rfl) ?_
      refine lv_istore_n (lv' := [(3, .int a4), (6, .int b0), (0, .ref (YA Y 20 0)), (1, .int a1), (2, .int a2), (4, .int a4), (5, .int a5)]) hx hb dX8_next_130 rfl hl (by decide) rfl (fun ls hl => ?_)
      exact w_X8_next_131 C0 k18 hk18 M32 a1 a2 a4 a4 hf _ _ _ hH hS (lv_sub hl [2, 3, 4, 0, 5] rfl)
def f_X8_next_76 (k18 : Mem → Int32 → Int32 → Int32 → Int32 → Option (Int32 × Mem)) (M : Mem) (a1 : Int32) (a2 : Int32) (a3 : Int32) (a4 : Int32) (a5 : Int32) : Option (Int32 × Mem) := f_X8_next_77 k18 M a1 a2 a3 a4 a5 (0 : Int32)
set_option maxHeartbeats 4000000 in
set_option maxRecDepth 100000 in
theorem w_X8_next_76 {Y : LY} {p : Program} {l : Launch} {e : Env} {s : State} {m : MethodId} {args : Array Value} {below : List Frame} {meth : Method} {c : Code} (C0 : BE Y p s m args meth c cX8_next 7 (Option.some Jvm.ClassFile.FieldType.int) RX8) {r : Int32} {MZ : Mem} (k18 : Mem → Int32 → Int32 → Int32 → Int32 → Option (Int32 × Mem)) (hk18 : ∀ (M : Mem) (a1 : Int32) (a2 : Int32) (a3 : Int32) (a4 : Int32), k18 M a1 a2 a3 a4 = some (r, MZ) → ∀ (H : Heap) (locs : List Loc) (ls : Array Slot), HS Y M H → va_S (AZ Y) s.heap H locs → lv_has ls 7 [(0, .ref (YA Y 20 0)), (1, .int a1), (2, .int a2), (3, .int a3), (4, .int a4)] → W p l e { frames := 5, cells := 0, slots := 0, locals := 114 } s m args below meth c H locs 0 0 (MQ below (Qi Y r MZ) args s 0 0 (AZ Y)) (F0 m 18 ls [])) : ∀ (M : Mem) (a1 : Int32) (a2 : Int32) (a3 : Int32) (a4 : Int32) (a5 : Int32), f_X8_next_76 k18 M a1 a2 a3 a4 a5 = some (r, MZ) → ∀ (H : Heap) (locs : List Loc) (ls : Array Slot), HS Y M H → va_S (AZ Y) s.heap H locs → lv_has ls 7 [(0, .ref (YA Y 20 0)), (1, .int a1), (2, .int a2), (3, .int a3), (4, .int a4), (5, .int a5)] → W p l e { frames := 5, cells := 0, slots := 0, locals := 114 } s m args below meth c H locs 0 0 (MQ below (Qi Y r MZ) args s 0 0 (AZ Y)) (F0 m 76 ls []) := by
  obtain ⟨hx, hb, hr, hml, hown, hA, hlocks, hK, hZ⟩ := id C0
  intro M a1 a2 a3 a4 a5 hf H locs ls hH hS hl
  unfold f_X8_next_76 at hf
  refine lv_iconst (v := (0 : Int32)) hx hb dX8_next_76 (by decide) ?_
  exact w_X8_next_77 C0 k18 hk18 M a1 a2 a3 a4 a5 (0 : Int32) hf _ _ _ hH hS (lv_sub hl [0, 1, 2, 3, 4, 5] rfl)
def f_X8_next_18 : Nat → Mem → Int32 → Int32 → Int32 → Int32 → Option (Int32 × Mem)
  | 0, _, _, _, _, _ => none
  | n + 1, M, a1, a2, a3, a4 => (if a4 < 0 then some (a3, M) else (if (1000000 : Int32) ≤ a2 then some (a3, M) else bd (f_X8_linkAt M a4) fun r37 => if vin r37 192 then (bd (f_X8_parcelAt M a1) fun r40 => if vin (r40 + (4 : Int32)) 192 then ((if (M 21 0 (ix r37)) = (M 21 0 (ix (r40 + (4 : Int32)))) then bd (f_X8_isOpen M a4 (M 21 0 4)) fun r43 => (if r43 = 0 then f_X8_next_76 (f_X8_next_18 n) M a1 a2 a3 a4 r37 else f_X8_next_77 (f_X8_next_18 n) M a1 a2 a3 a4 r37 (1 : Int32)) else f_X8_next_76 (f_X8_next_18 n) M a1 a2 a3 a4 r37)) else none) else none))
set_option maxHeartbeats 4000000 in
set_option maxRecDepth 100000 in
theorem w_X8_next_18 {Y : LY} {p : Program} {l : Launch} {e : Env} {s : State} {m : MethodId} {args : Array Value} {below : List Frame} {meth : Method} {c : Code} (C0 : BE Y p s m args meth c cX8_next 7 (Option.some Jvm.ClassFile.FieldType.int) RX8) {r : Int32} {MZ : Mem} : ∀ (n : Nat) (M : Mem) (a1 : Int32) (a2 : Int32) (a3 : Int32) (a4 : Int32), f_X8_next_18 n M a1 a2 a3 a4 = some (r, MZ) → ∀ (H : Heap) (locs : List Loc) (ls : Array Slot), HS Y M H → va_S (AZ Y) s.heap H locs → lv_has ls 7 [(0, .ref (YA Y 20 0)), (1, .int a1), (2, .int a2), (3, .int a3), (4, .int a4)] → W p l e { frames := 5, cells := 0, slots := 0, locals := 114 } s m args below meth c H locs 0 0 (MQ below (Qi Y r MZ) args s 0 0 (AZ Y)) (F0 m 18 ls []) := by
  obtain ⟨hx, hb, hr, hml, hown, hA, hlocks, hK, hZ⟩ := id C0
  intro n
  induction n with
  | zero =>
    intro M a1 a2 a3 a4 hf
    cases hf
  | succ n ih =>
    intro M a1 a2 a3 a4 hf H locs ls hH hS hl
    rw [f_X8_next_18] at hf
    refine lv_iload hx hb dX8_next_18 (lv_at hl 4 rfl) ?_
    refine lv_if_lt (tgt := 137) hx hb dX8_next_20 (by decide) (fun hc47 => ?_) (fun hc47 => ?_)
    · have hf := if_t hf hc47
      refine lv_iload_n hx hb dX8_next_137 rfl (lv_at hl 3 rfl) ?_
      cases hf
      exact hs_iret C0 hH hS (by decide) (by decide) dX8_next_138
    · have hf := if_f hf hc47
      refine lv_iload_n hx hb dX8_next_23 rfl (lv_at hl 2 rfl) ?_
      refine lv_ldc (v := (1000000 : Int32)) hx hb hown (hA _ zt_1773) dX8_next_24 ?_
      refine lv_icmp_ge (tgt := 137) hx hb dX8_next_26 (by decide) (fun hc46 => ?_) (fun hc46 => ?_)
      · have hf := if_t hf hc46
        refine lv_iload_n hx hb dX8_next_137 rfl (lv_at hl 3 rfl) ?_
        cases hf
        exact hs_iret C0 hH hS (by decide) (by decide) dX8_next_138
      · have hf := if_f hf hc46
        refine lv_iload hx hb dX8_next_29 (lv_at hl 4 rfl) ?_
        obtain ⟨r37, hq36, hf⟩ := bd_o hf
        refine hs_ci (hs_runS C0 hH hS (n := 1) (As := [.int a4]) (rest := []) (c_X8_linkAt M a4 hq36) ⟨⟨zt_1662, zt_1663, zt_13, zt_1664⟩, by decide, by decide, by decide +kernel⟩ ⟨rfl, rfl, Nat.le_of_ble_eq_true rfl, Nat.le_of_ble_eq_true rfl⟩ rfl rfl hl.1 (Nat.le_of_ble_eq_true rfl) ⟨Nat.le_of_ble_eq_true rfl, Nat.le_of_ble_eq_true rfl⟩ dX8_next_31) hS (fun H locs hH hS => ?_)
        refine lv_istore (lv' := [(5, .int r37), (0, .ref (YA Y 20 0)), (1, .int a1), (2, .int a2), (3, .int a3), (4, .int a4)]) hx hb dX8_next_34 hl (by decide) rfl (fun ls hl => ?_)
        refine lv_aload_n hx hb dX8_next_36 rfl (lv_at hl 1 rfl) ?_
        refine hs_get hx hb (T := TX8) hA inAX8 hown hK hH 20 0 (by decide) 12 rfl rfl 0 (by decide) (hA _ zt_1551) rfl rfl dX8_next_37 ?_
        refine lv_iload hx hb dX8_next_40 (lv_at hl 0 rfl) ?_
        obtain ⟨hg38, hf⟩ := gd_o hf
        have bhg38 := vin_lt hg38
        refine hs_iald hx hb hK hH 21 0 (by decide) rfl hg38 rfl dX8_next_42 ?_
        refine lv_aload_n hx hb dX8_next_43 rfl (lv_at hl 1 rfl) ?_
        refine hs_get hx hb (T := TX8) hA inAX8 hown hK hH 20 0 (by decide) 12 rfl rfl 0 (by decide) (hA _ zt_1551) rfl rfl dX8_next_44 ?_
        refine lv_iload_n hx hb dX8_next_47 rfl (lv_at hl 2 rfl) ?_
        obtain ⟨r40, hq39, hf⟩ := bd_o hf
        refine hs_ci (hs_runS C0 hH hS (n := 1) (As := [.int a1]) (rest := [.ref (YA Y 21 0), .int (M 21 0 (ix r37))]) (c_X8_parcelAt M a1 hq39) ⟨⟨zt_1694, zt_1695, zt_13, zt_1696⟩, by decide, by decide, by decide +kernel⟩ ⟨rfl, rfl, Nat.le_of_ble_eq_true rfl, Nat.le_of_ble_eq_true rfl⟩ rfl rfl hl.1 (Nat.le_of_ble_eq_true rfl) ⟨Nat.le_of_ble_eq_true rfl, Nat.le_of_ble_eq_true rfl⟩ dX8_next_48) hS (fun H locs hH hS => ?_)
        refine lv_iconst (v := (4 : Int32)) hx hb dX8_next_51 (by decide) ?_
        refine lv_iadd hx hb dX8_next_52 ?_
        obtain ⟨hg41, hf⟩ := gd_o hf
        have bhg41 := vin_lt hg41
        refine hs_iald hx hb hK hH 21 0 (by decide) rfl hg41 rfl dX8_next_53 ?_
        refine lv_icmp_ne (tgt := 76) hx hb dX8_next_54 (by decide) (fun hc45 => ?_) (fun hc45 => ?_)
        · have hf := if_f hf hc45
          exact w_X8_next_76 C0 (f_X8_next_18 n) ih M a1 a2 a3 a4 r37 hf _ _ _ hH hS (lv_sub hl [1, 2, 3, 4, 5, 0] rfl)
        · have hf := if_t hf hc45
          refine lv_aload_n hx hb dX8_next_57 rfl (lv_at hl 1 rfl) ?_
          refine lv_iload hx hb dX8_next_58 (lv_at hl 5 rfl) ?_
          refine lv_aload_n hx hb dX8_next_60 rfl (lv_at hl 1 rfl) ?_
          refine hs_get hx hb (T := TX8) hA inAX8 hown hK hH 20 0 (by decide) 12 rfl rfl 0 (by decide) (hA _ zt_1551) rfl rfl dX8_next_61 ?_
          refine lv_iconst (v := (4 : Int32)) hx hb dX8_next_64 (by decide) ?_
          refine hs_iald hx hb hK hH 21 0 (by decide) rfl (show vin (4 : Int32) 192 from by decide) (show ix (4 : Int32) = 4 from by decide) dX8_next_65 ?_
          obtain ⟨r43, hq42, hf⟩ := bd_o hf
          refine hs_ci (hs_runV C0 hH hS (n := 2) (As := [.int a4, .int (M 21 0 4)]) (rest := []) (c_X8_isOpen M a4 (M 21 0 4) hq42) ⟨⟨zt_1713, zt_1715, zs_45, zt_13, zt_1716⟩, rfl, by decide, by decide, by decide +kernel⟩ ⟨rfl, rfl, Nat.le_of_ble_eq_true rfl, Nat.le_of_ble_eq_true rfl⟩ (hs_recv hK hH 20 0 (by decide) 12 rfl rfl) rfl rfl hl.1 (Nat.le_of_ble_eq_true rfl) ⟨Nat.le_of_ble_eq_true rfl, Nat.le_of_ble_eq_true rfl⟩ dX8_next_66) hS (fun H locs hH hS => ?_)
          refine lv_if_eq (tgt := 76) hx hb dX8_next_69 (by decide) (fun hc44 => ?_) (fun hc44 => ?_)
          · have hf := if_t hf hc44
            exact w_X8_next_76 C0 (f_X8_next_18 n) ih M a1 a2 a3 a4 r37 hf _ _ _ hH hS (lv_sub hl [1, 2, 3, 4, 5, 0] rfl)
          · have hf := if_f hf hc44
            refine lv_iconst (v := (1 : Int32)) hx hb dX8_next_72 (by decide) ?_
            refine lv_goto (tgt := 77) hx hb dX8_next_73 (by decide) ?_
            exact w_X8_next_77 C0 (f_X8_next_18 n) ih M a1 a2 a3 a4 r37 (1 : Int32) hf _ _ _ hH hS (lv_sub hl [1, 2, 3, 4, 5, 0] rfl)
def f_X8_next (M : Mem) (a1 : Int32) : Option (Int32 × Mem) := bd2 (f_X8_forecastOf M a1) fun r50 M49 => f_X8_next_18 FU M49 a1 r50 (-1 : Int32) ((M49 21 0 1) - (1 : Int32))
set_option maxHeartbeats 4000000 in
set_option maxRecDepth 100000 in
theorem c_X8_next {Y : LY} {l : Launch} (M : Mem) (a1 : Int32) {r : Int32} {MZ : Mem} (hf : f_X8_next M a1 = some (r, MZ)) : Met l yX8_next (WS yX8_next cX8_next 7 (Option.some Jvm.ClassFile.FieldType.int)) { frames := 5, cells := 0, slots := 0, locals := 114 } (PcM Y M [.ref (YA Y 20 0), .int a1]) (Qi Y r MZ) 0 0 (AZ Y) := by
  refine met_mk (lv := [(0, .ref (YA Y 20 0)), (1, .int a1)]) [.ref (YA Y 20 0), .int a1] (by decide) rfl rfl (Nat.le_of_ble_eq_true rfl) (fun p e s m below meth c C0 hH ls hl => ?_)
  have hS : va_S (AZ Y) s.heap s.heap [] := va_S.rf
  obtain ⟨hx, hb, hr, hml, hown, hA, hlocks, hK, hZ⟩ := id C0
  unfold f_X8_next at hf
  refine lv_aload_n hx hb dX8_next_0 rfl (lv_at hl 0 rfl) ?_
  refine lv_iload_n hx hb dX8_next_1 rfl (lv_at hl 1 rfl) ?_
  obtain ⟨r50, M49, hq48, hf⟩ := bd2_o hf
  refine hs_ci (hs_runV C0 hH hS (n := 1) (As := [.int a1]) (rest := []) (c_X8_forecastOf M a1 hq48) ⟨⟨zt_1757, zt_1759, zs_53, zt_13, zt_1760⟩, rfl, by decide, by decide, by decide +kernel⟩ ⟨rfl, rfl, Nat.le_of_ble_eq_true rfl, Nat.le_of_ble_eq_true rfl⟩ (hs_recv hK hH 20 0 (by decide) 12 rfl rfl) rfl rfl hl.1 (Nat.le_of_ble_eq_true rfl) ⟨Nat.le_of_ble_eq_true rfl, Nat.le_of_ble_eq_true rfl⟩ dX8_next_2) hS (fun H locs hH hS => ?_)
  refine lv_istore_n (lv' := [(2, .int r50), (0, .ref (YA Y 20 0)), (1, .int a1)]) hx hb dX8_next_5 rfl hl (by decide) rfl (fun ls hl => ?_)
  refine lv_iconst (v := (-1 : Int32)) hx hb dX8_next_6 (by decide) ?_
  refine lv_istore_n (lv' := [(3, .int (-1 : Int32)), (2, .int r50), (0, .ref (YA Y 20 0)), (1, .int a1)]) hx hb dX8_next_7 rfl hl (by decide) rfl (fun ls hl => ?_)
  refine lv_aload_n hx hb dX8_next_8 rfl (lv_at hl 2 rfl) ?_
  refine hs_get hx hb (T := TX8) hA inAX8 hown hK hH 20 0 (by decide) 12 rfl rfl 0 (by decide) (hA _ zt_1551) rfl rfl dX8_next_9 ?_
  refine lv_iconst (v := (1 : Int32)) hx hb dX8_next_12 (by decide) ?_
  refine hs_iald hx hb hK hH 21 0 (by decide) rfl (show vin (1 : Int32) 192 from by decide) (show ix (1 : Int32) = 1 from by decide) dX8_next_13 ?_
  refine lv_iconst (v := (1 : Int32)) hx hb dX8_next_14 (by decide) ?_
  refine lv_isub hx hb dX8_next_15 ?_
  refine lv_istore (lv' := [(4, .int ((M49 21 0 1) - (1 : Int32))), (3, .int (-1 : Int32)), (2, .int r50), (0, .ref (YA Y 20 0)), (1, .int a1)]) hx hb dX8_next_16 hl (by decide) rfl (fun ls hl => ?_)
  exact w_X8_next_18 C0 FU M49 a1 r50 (-1 : Int32) ((M49 21 0 1) - (1 : Int32)) hf _ _ _ hH hS (lv_sub hl [3, 4, 2, 1, 0] rfl)
def f_X8_placeIt (M : Mem) : Option (Int32 × Mem) := (if (M 21 0 0) = (9 : Int32) then bd2 (f_X8_throwing M (1 : Int32)) fun r9 M8 => some (r9, M8) else nm (mu M 21 0 0 ((M 21 0 0) + (1 : Int32))) fun M6 => some (((M6 21 0 0) - (1 : Int32)), M6))
set_option maxHeartbeats 4000000 in
set_option maxRecDepth 100000 in
theorem c_X8_placeIt {Y : LY} {l : Launch} (M : Mem) {r : Int32} {MZ : Mem} (hf : f_X8_placeIt M = some (r, MZ)) : Met l yX8_placeIt (WS yX8_placeIt cX8_placeIt 1 (Option.some Jvm.ClassFile.FieldType.int)) { frames := 1, cells := 0, slots := 0, locals := 21 } (PcM Y M [.ref (YA Y 20 0)]) (Qi Y r MZ) 0 0 (AZ Y) := by
  refine met_mk (lv := [(0, .ref (YA Y 20 0))]) [.ref (YA Y 20 0)] (by decide) rfl rfl (Nat.le_of_ble_eq_true rfl) (fun p e s m below meth c C0 hH ls hl => ?_)
  have hS : va_S (AZ Y) s.heap s.heap [] := va_S.rf
  obtain ⟨hx, hb, hr, hml, hown, hA, hlocks, hK, hZ⟩ := id C0
  unfold f_X8_placeIt at hf
  refine lv_aload_n hx hb dX8_placeIt_0 rfl (lv_at hl 0 rfl) ?_
  refine hs_get hx hb (T := TX8) hA inAX8 hown hK hH 20 0 (by decide) 12 rfl rfl 0 (by decide) (hA _ zt_1551) rfl rfl dX8_placeIt_1 ?_
  refine lv_iconst (v := (0 : Int32)) hx hb dX8_placeIt_4 (by decide) ?_
  refine hs_iald hx hb hK hH 21 0 (by decide) rfl (show vin (0 : Int32) 192 from by decide) (show ix (0 : Int32) = 0 from by decide) dX8_placeIt_5 ?_
  refine lv_bipush (v := (9 : Int32)) hx hb dX8_placeIt_6 (by decide) ?_
  refine lv_icmp_ne (tgt := 17) hx hb dX8_placeIt_8 (by decide) (fun hc10 => ?_) (fun hc10 => ?_)
  · have hf := if_f hf hc10
    refine lv_aload_n hx hb dX8_placeIt_17 rfl (lv_at hl 0 rfl) ?_
    refine hs_get hx hb (T := TX8) hA inAX8 hown hK hH 20 0 (by decide) 12 rfl rfl 0 (by decide) (hA _ zt_1551) rfl rfl dX8_placeIt_18 ?_
    refine lv_iconst (v := (0 : Int32)) hx hb dX8_placeIt_21 (by decide) ?_
    refine lv_dup2_11 hx hb dX8_placeIt_22 rfl rfl ?_
    refine hs_iald hx hb hK hH 21 0 (by decide) rfl (show vin (0 : Int32) 192 from by decide) (show ix (0 : Int32) = 0 from by decide) dX8_placeIt_23 ?_
    refine lv_iconst (v := (1 : Int32)) hx hb dX8_placeIt_24 (by decide) ?_
    refine lv_iadd hx hb dX8_placeIt_25 ?_
    refine hs_iast hx hb hK hH hS 21 0 (by decide) (fun _ => rfl) (show vin (0 : Int32) 192 from by decide) (show ix (0 : Int32) = 0 from by decide) dX8_placeIt_26 (fun H locs hH hS => ?_)
    obtain ⟨M6, eM6, hf⟩ := nm_o hf
    rw [← eM6] at hH
    refine lv_aload_n hx hb dX8_placeIt_27 rfl (lv_at hl 0 rfl) ?_
    refine hs_get hx hb (T := TX8) hA inAX8 hown hK hH 20 0 (by decide) 12 rfl rfl 0 (by decide) (hA _ zt_1551) rfl rfl dX8_placeIt_28 ?_
    refine lv_iconst (v := (0 : Int32)) hx hb dX8_placeIt_31 (by decide) ?_
    refine hs_iald hx hb hK hH 21 0 (by decide) rfl (show vin (0 : Int32) 192 from by decide) (show ix (0 : Int32) = 0 from by decide) dX8_placeIt_32 ?_
    refine lv_iconst (v := (1 : Int32)) hx hb dX8_placeIt_33 (by decide) ?_
    refine lv_isub hx hb dX8_placeIt_34 ?_
    cases hf
    exact hs_iret C0 hH hS (by decide) (by decide) dX8_placeIt_35
  · have hf := if_t hf hc10
    refine lv_aload_n hx hb dX8_placeIt_11 rfl (lv_at hl 0 rfl) ?_
    refine lv_iconst (v := (1 : Int32)) hx hb dX8_placeIt_12 (by decide) ?_
    obtain ⟨r9, M8, hq7, hf⟩ := bd2_o hf
    refine hs_ci (hs_runV C0 hH hS (n := 1) (As := [.int (1 : Int32)]) (rest := []) (c_X8_throwing M (1 : Int32) hq7) ⟨⟨zt_1637, zt_1639, zs_34, zt_13, zt_1640⟩, rfl, by decide, by decide, by decide +kernel⟩ ⟨rfl, rfl, Nat.le_of_ble_eq_true rfl, Nat.le_of_ble_eq_true rfl⟩ (hs_recv hK hH 20 0 (by decide) 12 rfl rfl) rfl rfl hl.1 (Nat.le_of_ble_eq_true rfl) ⟨Nat.le_of_ble_eq_true rfl, Nat.le_of_ble_eq_true rfl⟩ dX8_placeIt_13) hS (fun H locs hH hS => ?_)
    cases hf
    exact hs_iret C0 hH hS (by decide) (by decide) dX8_placeIt_16
def f_X8_addPlace (M : Mem) : Option (Int32 × Mem) := bd (f_X8_starts M) fun M11 => bd2 (f_X8_placeIt M11) fun r15 M14 => bd2 (f_X8_changed M14 r15) fun r18 M17 => some (r18, M17)
set_option maxHeartbeats 4000000 in
set_option maxRecDepth 100000 in
theorem c_X8_addPlace {Y : LY} {l : Launch} (M : Mem) {r : Int32} {MZ : Mem} (hf : f_X8_addPlace M = some (r, MZ)) : Met l yX8_addPlace (WS yX8_addPlace cX8_addPlace 1 (Option.some Jvm.ClassFile.FieldType.int)) { frames := 2, cells := 0, slots := 0, locals := 41 } (PcM Y M [.ref (YA Y 20 0)]) (Qi Y r MZ) 0 0 (AZ Y) := by
  refine met_mk (lv := [(0, .ref (YA Y 20 0))]) [.ref (YA Y 20 0)] (by decide) rfl rfl (Nat.le_of_ble_eq_true rfl) (fun p e s m below meth c C0 hH ls hl => ?_)
  have hS : va_S (AZ Y) s.heap s.heap [] := va_S.rf
  obtain ⟨hx, hb, hr, hml, hown, hA, hlocks, hK, hZ⟩ := id C0
  unfold f_X8_addPlace at hf
  refine lv_aload_n hx hb dX8_addPlace_0 rfl (lv_at hl 0 rfl) ?_
  obtain ⟨M11, hq10, hf⟩ := bd_o hf
  refine hs_cv (hs_runV C0 hH hS (n := 0) (As := []) (rest := []) (c_X8_starts M hq10) ⟨⟨zt_1629, zt_1631, zs_32, zt_13, zt_1632⟩, rfl, by decide, by decide, by decide +kernel⟩ ⟨rfl, rfl, Nat.le_of_ble_eq_true rfl, Nat.le_of_ble_eq_true rfl⟩ (hs_recv hK hH 20 0 (by decide) 12 rfl rfl) rfl rfl hl.1 (Nat.le_of_ble_eq_true rfl) ⟨Nat.le_of_ble_eq_true rfl, Nat.le_of_ble_eq_true rfl⟩ dX8_addPlace_1) hS (fun H locs hH hS => ?_)
  refine lv_aload_n hx hb dX8_addPlace_4 rfl (lv_at hl 0 rfl) ?_
  refine lv_aload_n hx hb dX8_addPlace_5 rfl (lv_at hl 0 rfl) ?_
  obtain ⟨r15, M14, hq13, hf⟩ := bd2_o hf
  refine hs_ci (hs_runV C0 hH hS (n := 0) (As := []) (rest := [.ref (YA Y 20 0)]) (c_X8_placeIt M11 hq13) ⟨⟨zt_1633, zt_1635, zs_33, zt_13, zt_1636⟩, rfl, by decide, by decide, by decide +kernel⟩ ⟨rfl, rfl, Nat.le_of_ble_eq_true rfl, Nat.le_of_ble_eq_true rfl⟩ (hs_recv hK hH 20 0 (by decide) 12 rfl rfl) rfl rfl hl.1 (Nat.le_of_ble_eq_true rfl) ⟨Nat.le_of_ble_eq_true rfl, Nat.le_of_ble_eq_true rfl⟩ dX8_addPlace_6) hS (fun H locs hH hS => ?_)
  obtain ⟨r18, M17, hq16, hf⟩ := bd2_o hf
  refine hs_ci (hs_runV C0 hH hS (n := 1) (As := [.int r15]) (rest := []) (c_X8_changed M14 r15 hq16) ⟨⟨zt_1641, zt_1643, zs_35, zt_13, zt_1644⟩, rfl, by decide, by decide, by decide +kernel⟩ ⟨rfl, rfl, Nat.le_of_ble_eq_true rfl, Nat.le_of_ble_eq_true rfl⟩ (hs_recv hK hH 20 0 (by decide) 12 rfl rfl) rfl rfl hl.1 (Nat.le_of_ble_eq_true rfl) ⟨Nat.le_of_ble_eq_true rfl, Nat.le_of_ble_eq_true rfl⟩ dX8_addPlace_9) hS (fun H locs hH hS => ?_)
  cases hf
  exact hs_iret C0 hH hS (by decide) (by decide) dX8_addPlace_12
def f_X8_linkIt_16 (M : Mem) : Option (Int32 × Mem) := bd2 (f_X8_throwing M (1 : Int32)) fun r37 M36 => some (r37, M36)
set_option maxHeartbeats 4000000 in
set_option maxRecDepth 100000 in
theorem w_X8_linkIt_16 {Y : LY} {p : Program} {l : Launch} {e : Env} {s : State} {m : MethodId} {args : Array Value} {below : List Frame} {meth : Method} {c : Code} (C0 : BE Y p s m args meth c cX8_linkIt 6 (Option.some Jvm.ClassFile.FieldType.int) RX8) {r : Int32} {MZ : Mem} : ∀ (M : Mem), f_X8_linkIt_16 M = some (r, MZ) → ∀ (H : Heap) (locs : List Loc) (ls : Array Slot), HS Y M H → va_S (AZ Y) s.heap H locs → lv_has ls 6 [(0, .ref (YA Y 20 0))] → W p l e { frames := 2, cells := 0, slots := 0, locals := 46 } s m args below meth c H locs 0 0 (MQ below (Qi Y r MZ) args s 0 0 (AZ Y)) (F0 m 16 ls []) := by
  obtain ⟨hx, hb, hr, hml, hown, hA, hlocks, hK, hZ⟩ := id C0
  intro M hf H locs ls hH hS hl
  unfold f_X8_linkIt_16 at hf
  refine lv_aload_n hx hb dX8_linkIt_16 rfl (lv_at hl 0 rfl) ?_
  refine lv_iconst (v := (1 : Int32)) hx hb dX8_linkIt_17 (by decide) ?_
  obtain ⟨r37, M36, hq35, hf⟩ := bd2_o hf
  refine hs_ci (hs_runV C0 hH hS (n := 1) (As := [.int (1 : Int32)]) (rest := []) (c_X8_throwing M (1 : Int32) hq35) ⟨⟨zt_1637, zt_1639, zs_34, zt_13, zt_1640⟩, rfl, by decide, by decide, by decide +kernel⟩ ⟨rfl, rfl, Nat.le_of_ble_eq_true rfl, Nat.le_of_ble_eq_true rfl⟩ (hs_recv hK hH 20 0 (by decide) 12 rfl rfl) rfl rfl hl.1 (Nat.le_of_ble_eq_true rfl) ⟨Nat.le_of_ble_eq_true rfl, Nat.le_of_ble_eq_true rfl⟩ dX8_linkIt_18) hS (fun H locs hH hS => ?_)
  cases hf
  exact hs_iret C0 hH hS (by decide) (by decide) dX8_linkIt_21
def f_X8_linkIt_52 (M : Mem) : Option (Int32 × Mem) := bd2 (f_X8_throwing M (2 : Int32)) fun r40 M39 => some (r40, M39)
set_option maxHeartbeats 4000000 in
set_option maxRecDepth 100000 in
theorem w_X8_linkIt_52 {Y : LY} {p : Program} {l : Launch} {e : Env} {s : State} {m : MethodId} {args : Array Value} {below : List Frame} {meth : Method} {c : Code} (C0 : BE Y p s m args meth c cX8_linkIt 6 (Option.some Jvm.ClassFile.FieldType.int) RX8) {r : Int32} {MZ : Mem} : ∀ (M : Mem), f_X8_linkIt_52 M = some (r, MZ) → ∀ (H : Heap) (locs : List Loc) (ls : Array Slot), HS Y M H → va_S (AZ Y) s.heap H locs → lv_has ls 6 [(0, .ref (YA Y 20 0))] → W p l e { frames := 2, cells := 0, slots := 0, locals := 46 } s m args below meth c H locs 0 0 (MQ below (Qi Y r MZ) args s 0 0 (AZ Y)) (F0 m 52 ls []) := by
  obtain ⟨hx, hb, hr, hml, hown, hA, hlocks, hK, hZ⟩ := id C0
  intro M hf H locs ls hH hS hl
  unfold f_X8_linkIt_52 at hf
  refine lv_aload_n hx hb dX8_linkIt_52 rfl (lv_at hl 0 rfl) ?_
  refine lv_iconst (v := (2 : Int32)) hx hb dX8_linkIt_53 (by decide) ?_
  obtain ⟨r40, M39, hq38, hf⟩ := bd2_o hf
  refine hs_ci (hs_runV C0 hH hS (n := 1) (As := [.int (2 : Int32)]) (rest := []) (c_X8_throwing M (2 : Int32) hq38) ⟨⟨zt_1637, zt_1639, zs_34, zt_13, zt_1640⟩, rfl, by decide, by decide, by decide +kernel⟩ ⟨rfl, rfl, Nat.le_of_ble_eq_true rfl, Nat.le_of_ble_eq_true rfl⟩ (hs_recv hK hH 20 0 (by decide) 12 rfl rfl) rfl rfl hl.1 (Nat.le_of_ble_eq_true rfl) ⟨Nat.le_of_ble_eq_true rfl, Nat.le_of_ble_eq_true rfl⟩ dX8_linkIt_54) hS (fun H locs hH hS => ?_)
  cases hf
  exact hs_iret C0 hH hS (by decide) (by decide) dX8_linkIt_57
def f_X8_linkIt (M : Mem) (a1 : Int32) (a2 : Int32) (a3 : Int32) (a4 : Int32) : Option (Int32 × Mem) := bd (f_X8_isPlace M a1) fun r42 => (if r42 = 0 then f_X8_linkIt_16 M else bd (f_X8_isPlace M a2) fun r44 => (if r44 = 0 then f_X8_linkIt_16 M else (if a1 = a2 then f_X8_linkIt_52 M else bd (f_X8_in M a3.toInt64 (1 : Int64) (9 : Int64)) fun r46 => (if r46 = 0 then f_X8_linkIt_52 M else bd (f_X8_in M a4.toInt64 (0 : Int64) (5 : Int64)) fun r48 => (if r48 = 0 then f_X8_linkIt_52 M else (if (M 21 0 1) = (20 : Int32) then bd2 (f_X8_throwing M (3 : Int32)) fun r62 M61 => some (r62, M61) else bd (f_X8_linkAt M (M 21 0 1)) fun r50 => if vin r50 192 then (nm (mu M 21 0 (ix r50) a1) fun M52 => if vin (r50 + (1 : Int32)) 192 then (nm (mu M52 21 0 (ix (r50 + (1 : Int32))) a2) fun M54 => if vin (r50 + (2 : Int32)) 192 then (nm (mu M54 21 0 (ix (r50 + (2 : Int32))) a3) fun M56 => if vin (r50 + (3 : Int32)) 192 then (nm (mu M56 21 0 (ix (r50 + (3 : Int32))) a4) fun M58 => nm (mu M58 21 0 1 ((M58 21 0 1) + (1 : Int32))) fun M59 => some (((M59 21 0 1) - (1 : Int32)), M59)) else none) else none) else none) else none))))))
set_option maxHeartbeats 4000000 in
set_option maxRecDepth 100000 in
theorem c_X8_linkIt {Y : LY} {l : Launch} (M : Mem) (a1 : Int32) (a2 : Int32) (a3 : Int32) (a4 : Int32) {r : Int32} {MZ : Mem} (hf : f_X8_linkIt M a1 a2 a3 a4 = some (r, MZ)) : Met l yX8_linkIt (WS yX8_linkIt cX8_linkIt 6 (Option.some Jvm.ClassFile.FieldType.int)) { frames := 2, cells := 0, slots := 0, locals := 46 } (PcM Y M [.ref (YA Y 20 0), .int a1, .int a2, .int a3, .int a4]) (Qi Y r MZ) 0 0 (AZ Y) := by
  refine met_mk (lv := [(0, .ref (YA Y 20 0)), (1, .int a1), (2, .int a2), (3, .int a3), (4, .int a4)]) [.ref (YA Y 20 0), .int a1, .int a2, .int a3, .int a4] (by decide) rfl rfl (Nat.le_of_ble_eq_true rfl) (fun p e s m below meth c C0 hH ls hl => ?_)
  have hS : va_S (AZ Y) s.heap s.heap [] := va_S.rf
  obtain ⟨hx, hb, hr, hml, hown, hA, hlocks, hK, hZ⟩ := id C0
  unfold f_X8_linkIt at hf
  refine lv_aload_n hx hb dX8_linkIt_0 rfl (lv_at hl 0 rfl) ?_
  refine lv_iload_n hx hb dX8_linkIt_1 rfl (lv_at hl 1 rfl) ?_
  obtain ⟨r42, hq41, hf⟩ := bd_o hf
  refine hs_ci (hs_runV C0 hH hS (n := 1) (As := [.int a1]) (rest := []) (c_X8_isPlace M a1 hq41) ⟨⟨zt_1653, zt_1655, zs_37, zt_13, zt_1656⟩, rfl, by decide, by decide, by decide +kernel⟩ ⟨rfl, rfl, Nat.le_of_ble_eq_true rfl, Nat.le_of_ble_eq_true rfl⟩ (hs_recv hK hH 20 0 (by decide) 12 rfl rfl) rfl rfl hl.1 (Nat.le_of_ble_eq_true rfl) ⟨Nat.le_of_ble_eq_true rfl, Nat.le_of_ble_eq_true rfl⟩ dX8_linkIt_2) hS (fun H locs hH hS => ?_)
  refine lv_if_eq (tgt := 16) hx hb dX8_linkIt_5 (by decide) (fun hc68 => ?_) (fun hc68 => ?_)
  · have hf := if_t hf hc68
    exact w_X8_linkIt_16 C0 M hf _ _ _ hH hS (lv_sub hl [0] rfl)
  · have hf := if_f hf hc68
    refine lv_aload_n hx hb dX8_linkIt_8 rfl (lv_at hl 0 rfl) ?_
    refine lv_iload_n hx hb dX8_linkIt_9 rfl (lv_at hl 2 rfl) ?_
    obtain ⟨r44, hq43, hf⟩ := bd_o hf
    refine hs_ci (hs_runV C0 hH hS (n := 1) (As := [.int a2]) (rest := []) (c_X8_isPlace M a2 hq43) ⟨⟨zt_1653, zt_1655, zs_37, zt_13, zt_1656⟩, rfl, by decide, by decide, by decide +kernel⟩ ⟨rfl, rfl, Nat.le_of_ble_eq_true rfl, Nat.le_of_ble_eq_true rfl⟩ (hs_recv hK hH 20 0 (by decide) 12 rfl rfl) rfl rfl hl.1 (Nat.le_of_ble_eq_true rfl) ⟨Nat.le_of_ble_eq_true rfl, Nat.le_of_ble_eq_true rfl⟩ dX8_linkIt_10) hS (fun H locs hH hS => ?_)
    refine lv_if_ne (tgt := 22) hx hb dX8_linkIt_13 (by decide) (fun hc67 => ?_) (fun hc67 => ?_)
    · have hf := if_f hf hc67
      refine lv_iload_n hx hb dX8_linkIt_22 rfl (lv_at hl 1 rfl) ?_
      refine lv_iload_n hx hb dX8_linkIt_23 rfl (lv_at hl 2 rfl) ?_
      refine lv_icmp_eq (tgt := 52) hx hb dX8_linkIt_24 (by decide) (fun hc66 => ?_) (fun hc66 => ?_)
      · have hf := if_t hf hc66
        exact w_X8_linkIt_52 C0 M hf _ _ _ hH hS (lv_sub hl [0] rfl)
      · have hf := if_f hf hc66
        refine lv_iload_n hx hb dX8_linkIt_27 rfl (lv_at hl 3 rfl) ?_
        refine lv_i2l (v := a3.toInt64) hx hb dX8_linkIt_28 rfl ?_
        refine lv_lconst (v := (1 : Int64)) hx hb dX8_linkIt_29 (by decide) ?_
        refine lv_ldc2 (v := (9 : Int64)) hx hb hown (hA _ zt_1660) dX8_linkIt_30 ?_
        obtain ⟨r46, hq45, hf⟩ := bd_o hf
        refine hs_ci (hs_runS C0 hH hS (n := 3) (As := [.long a3.toInt64, .long (1 : Int64), .long (9 : Int64)]) (rest := []) (c_X8_in M a3.toInt64 (1 : Int64) (9 : Int64) hq45) ⟨⟨zt_1657, zt_1658, zt_13, zt_1659⟩, by decide, by decide, by decide +kernel⟩ ⟨rfl, rfl, Nat.le_of_ble_eq_true rfl, Nat.le_of_ble_eq_true rfl⟩ rfl rfl hl.1 (Nat.le_of_ble_eq_true rfl) ⟨Nat.le_of_ble_eq_true rfl, Nat.le_of_ble_eq_true rfl⟩ dX8_linkIt_33) hS (fun H locs hH hS => ?_)
        refine lv_if_eq (tgt := 52) hx hb dX8_linkIt_36 (by decide) (fun hc65 => ?_) (fun hc65 => ?_)
        · have hf := if_t hf hc65
          exact w_X8_linkIt_52 C0 M hf _ _ _ hH hS (lv_sub hl [0] rfl)
        · have hf := if_f hf hc65
          refine lv_iload hx hb dX8_linkIt_39 (lv_at hl 4 rfl) ?_
          refine lv_i2l (v := a4.toInt64) hx hb dX8_linkIt_41 rfl ?_
          refine lv_lconst (v := (0 : Int64)) hx hb dX8_linkIt_42 (by decide) ?_
          refine lv_ldc2 (v := (5 : Int64)) hx hb hown (hA _ zt_1661) dX8_linkIt_43 ?_
          obtain ⟨r48, hq47, hf⟩ := bd_o hf
          refine hs_ci (hs_runS C0 hH hS (n := 3) (As := [.long a4.toInt64, .long (0 : Int64), .long (5 : Int64)]) (rest := []) (c_X8_in M a4.toInt64 (0 : Int64) (5 : Int64) hq47) ⟨⟨zt_1657, zt_1658, zt_13, zt_1659⟩, by decide, by decide, by decide +kernel⟩ ⟨rfl, rfl, Nat.le_of_ble_eq_true rfl, Nat.le_of_ble_eq_true rfl⟩ rfl rfl hl.1 (Nat.le_of_ble_eq_true rfl) ⟨Nat.le_of_ble_eq_true rfl, Nat.le_of_ble_eq_true rfl⟩ dX8_linkIt_46) hS (fun H locs hH hS => ?_)
          refine lv_if_ne (tgt := 58) hx hb dX8_linkIt_49 (by decide) (fun hc64 => ?_) (fun hc64 => ?_)
          · have hf := if_f hf hc64
            refine lv_aload_n hx hb dX8_linkIt_58 rfl (lv_at hl 0 rfl) ?_
            refine hs_get hx hb (T := TX8) hA inAX8 hown hK hH 20 0 (by decide) 12 rfl rfl 0 (by decide) (hA _ zt_1551) rfl rfl dX8_linkIt_59 ?_
            refine lv_iconst (v := (1 : Int32)) hx hb dX8_linkIt_62 (by decide) ?_
            refine hs_iald hx hb hK hH 21 0 (by decide) rfl (show vin (1 : Int32) 192 from by decide) (show ix (1 : Int32) = 1 from by decide) dX8_linkIt_63 ?_
            refine lv_bipush (v := (20 : Int32)) hx hb dX8_linkIt_64 (by decide) ?_
            refine lv_icmp_ne (tgt := 75) hx hb dX8_linkIt_66 (by decide) (fun hc63 => ?_) (fun hc63 => ?_)
            · have hf := if_f hf hc63
              refine lv_aload_n hx hb dX8_linkIt_75 rfl (lv_at hl 0 rfl) ?_
              refine hs_get hx hb (T := TX8) hA inAX8 hown hK hH 20 0 (by decide) 12 rfl rfl 0 (by decide) (hA _ zt_1551) rfl rfl dX8_linkIt_76 ?_
              refine lv_iconst (v := (1 : Int32)) hx hb dX8_linkIt_79 (by decide) ?_
              refine hs_iald hx hb hK hH 21 0 (by decide) rfl (show vin (1 : Int32) 192 from by decide) (show ix (1 : Int32) = 1 from by decide) dX8_linkIt_80 ?_
              obtain ⟨r50, hq49, hf⟩ := bd_o hf
              refine hs_ci (hs_runS C0 hH hS (n := 1) (As := [.int (M 21 0 1)]) (rest := []) (c_X8_linkAt M (M 21 0 1) hq49) ⟨⟨zt_1662, zt_1663, zt_13, zt_1664⟩, by decide, by decide, by decide +kernel⟩ ⟨rfl, rfl, Nat.le_of_ble_eq_true rfl, Nat.le_of_ble_eq_true rfl⟩ rfl rfl hl.1 (Nat.le_of_ble_eq_true rfl) ⟨Nat.le_of_ble_eq_true rfl, Nat.le_of_ble_eq_true rfl⟩ dX8_linkIt_81) hS (fun H locs hH hS => ?_)
              refine lv_istore (lv' := [(5, .int r50), (0, .ref (YA Y 20 0)), (1, .int a1), (2, .int a2), (3, .int a3), (4, .int a4)]) hx hb dX8_linkIt_84 hl (by decide) rfl (fun ls hl => ?_)
              refine lv_aload_n hx hb dX8_linkIt_86 rfl (lv_at hl 1 rfl) ?_
              refine hs_get hx hb (T := TX8) hA inAX8 hown hK hH 20 0 (by decide) 12 rfl rfl 0 (by decide) (hA _ zt_1551) rfl rfl dX8_linkIt_87 ?_
              refine lv_iload hx hb dX8_linkIt_90 (lv_at hl 0 rfl) ?_
              refine lv_iload_n hx hb dX8_linkIt_92 rfl (lv_at hl 2 rfl) ?_
              obtain ⟨hg51, hf⟩ := gd_o hf
              have bhg51 := vin_lt hg51
              refine hs_iast hx hb hK hH hS 21 0 (by decide) (fun _ => rfl) hg51 rfl dX8_linkIt_93 (fun H locs hH hS => ?_)
              obtain ⟨M52, eM52, hf⟩ := nm_o hf
              rw [← eM52] at hH
              refine lv_aload_n hx hb dX8_linkIt_94 rfl (lv_at hl 1 rfl) ?_
              refine hs_get hx hb (T := TX8) hA inAX8 hown hK hH 20 0 (by decide) 12 rfl rfl 0 (by decide) (hA _ zt_1551) rfl rfl dX8_linkIt_95 ?_
              refine lv_iload hx hb dX8_linkIt_98 (lv_at hl 0 rfl) ?_
              refine lv_iconst (v := (1 : Int32)) hx hb dX8_linkIt_100 (by decide) ?_
              refine lv_iadd hx hb dX8_linkIt_101 ?_
              refine lv_iload_n hx hb dX8_linkIt_102 rfl (lv_at hl 3 rfl) ?_
              obtain ⟨hg53, hf⟩ := gd_o hf
              have bhg53 := vin_lt hg53
              refine hs_iast hx hb hK hH hS 21 0 (by decide) (fun _ => rfl) hg53 rfl dX8_linkIt_103 (fun H locs hH hS => ?_)
              obtain ⟨M54, eM54, hf⟩ := nm_o hf
              rw [← eM54] at hH
              refine lv_aload_n hx hb dX8_linkIt_104 rfl (lv_at hl 1 rfl) ?_
              refine hs_get hx hb (T := TX8) hA inAX8 hown hK hH 20 0 (by decide) 12 rfl rfl 0 (by decide) (hA _ zt_1551) rfl rfl dX8_linkIt_105 ?_
              refine lv_iload hx hb dX8_linkIt_108 (lv_at hl 0 rfl) ?_
              refine lv_iconst (v := (2 : Int32)) hx hb dX8_linkIt_110 (by decide) ?_
              refine lv_iadd hx hb dX8_linkIt_111 ?_
              refine lv_iload_n hx hb dX8_linkIt_112 rfl (lv_at hl 4 rfl) ?_
              obtain ⟨hg55, hf⟩ := gd_o hf
              have bhg55 := vin_lt hg55
              refine hs_iast hx hb hK hH hS 21 0 (by decide) (fun _ => rfl) hg55 rfl dX8_linkIt_113 (fun H locs hH hS => ?_)
              obtain ⟨M56, eM56, hf⟩ := nm_o hf
              rw [← eM56] at hH
              refine lv_aload_n hx hb dX8_linkIt_114 rfl (lv_at hl 1 rfl) ?_
              refine hs_get hx hb (T := TX8) hA inAX8 hown hK hH 20 0 (by decide) 12 rfl rfl 0 (by decide) (hA _ zt_1551) rfl rfl dX8_linkIt_115 ?_
              refine lv_iload hx hb dX8_linkIt_118 (lv_at hl 0 rfl) ?_
              refine lv_iconst (v := (3 : Int32)) hx hb dX8_linkIt_120 (by decide) ?_
              refine lv_iadd hx hb dX8_linkIt_121 ?_
              refine lv_iload hx hb dX8_linkIt_122 (lv_at hl 5 rfl) ?_
              obtain ⟨hg57, hf⟩ := gd_o hf
              have bhg57 := vin_lt hg57
              refine hs_iast hx hb hK hH hS 21 0 (by decide) (fun _ => rfl) hg57 rfl dX8_linkIt_124 (fun H locs hH hS => ?_)
              obtain ⟨M58, eM58, hf⟩ := nm_o hf
              rw [← eM58] at hH
              refine lv_aload_n hx hb dX8_linkIt_125 rfl (lv_at hl 1 rfl) ?_
              refine hs_get hx hb (T := TX8) hA inAX8 hown hK hH 20 0 (by decide) 12 rfl rfl 0 (by decide) (hA _ zt_1551) rfl rfl dX8_linkIt_126 ?_
              refine lv_iconst (v := (1 : Int32)) hx hb dX8_linkIt_129 (by decide) ?_
              refine lv_dup2_11 hx hb dX8_linkIt_130 rfl rfl ?_
              refine hs_iald hx hb hK hH 21 0 (by decide) rfl (show vin (1 : Int32) 192 from by decide) (show ix (1 : Int32) = 1 from by decide) dX8_linkIt_131 ?_
              refine lv_iconst (v := (1 : Int32)) hx hb dX8_linkIt_132 (by decide) ?_
              refine lv_iadd hx hb dX8_linkIt_133 ?_
              refine hs_iast hx hb hK hH hS 21 0 (by decide) (fun _ => rfl) (show vin (1 : Int32) 192 from by decide) (show ix (1 : Int32) = 1 from by decide) dX8_linkIt_134 (fun H locs hH hS => ?_)
              obtain ⟨M59, eM59, hf⟩ := nm_o hf
              rw [← eM59] at hH
              refine lv_aload_n hx hb dX8_linkIt_135 rfl (lv_at hl 1 rfl) ?_
              refine hs_get hx hb (T := TX8) hA inAX8 hown hK hH 20 0 (by decide) 12 rfl rfl 0 (by decide) (hA _ zt_1551) rfl rfl dX8_linkIt_136 ?_
              refine lv_iconst (v := (1 : Int32)) hx hb dX8_linkIt_139 (by decide) ?_
              refine hs_iald hx hb hK hH 21 0 (by decide) rfl (show vin (1 : Int32) 192 from by decide) (show ix (1 : Int32) = 1 from by decide) dX8_linkIt_140 ?_
              refine lv_iconst (v := (1 : Int32)) hx hb dX8_linkIt_141 (by decide) ?_
              refine lv_isub hx hb dX8_linkIt_142 ?_
              cases hf
              exact hs_iret C0 hH hS (by decide) (by decide) dX8_linkIt_143
            · have hf := if_t hf hc63
              refine lv_aload_n hx hb dX8_linkIt_69 rfl (lv_at hl 0 rfl) ?_
              refine lv_iconst (v := (3 : Int32)) hx hb dX8_linkIt_70 (by decide) ?_
              obtain ⟨r62, M61, hq60, hf⟩ := bd2_o hf
              refine hs_ci (hs_runV C0 hH hS (n := 1) (As := [.int (3 : Int32)]) (rest := []) (c_X8_throwing M (3 : Int32) hq60) ⟨⟨zt_1637, zt_1639, zs_34, zt_13, zt_1640⟩, rfl, by decide, by decide, by decide +kernel⟩ ⟨rfl, rfl, Nat.le_of_ble_eq_true rfl, Nat.le_of_ble_eq_true rfl⟩ (hs_recv hK hH 20 0 (by decide) 12 rfl rfl) rfl rfl hl.1 (Nat.le_of_ble_eq_true rfl) ⟨Nat.le_of_ble_eq_true rfl, Nat.le_of_ble_eq_true rfl⟩ dX8_linkIt_71) hS (fun H locs hH hS => ?_)
              cases hf
              exact hs_iret C0 hH hS (by decide) (by decide) dX8_linkIt_74
          · have hf := if_t hf hc64
            exact w_X8_linkIt_52 C0 M hf _ _ _ hH hS (lv_sub hl [0] rfl)
    · have hf := if_t hf hc67
      exact w_X8_linkIt_16 C0 M hf _ _ _ hH hS (lv_sub hl [0] rfl)
def f_X8_addLink (M : Mem) (a1 : Int32) (a2 : Int32) (a3 : Int32) (a4 : Int32) : Option (Int32 × Mem) := bd (f_X8_starts M) fun M11 => bd2 (f_X8_linkIt M11 a1 a2 a3 a4) fun r15 M14 => bd2 (f_X8_changed M14 r15) fun r18 M17 => some (r18, M17)
set_option maxHeartbeats 4000000 in
set_option maxRecDepth 100000 in
theorem c_X8_addLink {Y : LY} {l : Launch} (M : Mem) (a1 : Int32) (a2 : Int32) (a3 : Int32) (a4 : Int32) {r : Int32} {MZ : Mem} (hf : f_X8_addLink M a1 a2 a3 a4 = some (r, MZ)) : Met l yX8_addLink (WS yX8_addLink cX8_addLink 5 (Option.some Jvm.ClassFile.FieldType.int)) { frames := 3, cells := 0, slots := 0, locals := 71 } (PcM Y M [.ref (YA Y 20 0), .int a1, .int a2, .int a3, .int a4]) (Qi Y r MZ) 0 0 (AZ Y) := by
  refine met_mk (lv := [(0, .ref (YA Y 20 0)), (1, .int a1), (2, .int a2), (3, .int a3), (4, .int a4)]) [.ref (YA Y 20 0), .int a1, .int a2, .int a3, .int a4] (by decide) rfl rfl (Nat.le_of_ble_eq_true rfl) (fun p e s m below meth c C0 hH ls hl => ?_)
  have hS : va_S (AZ Y) s.heap s.heap [] := va_S.rf
  obtain ⟨hx, hb, hr, hml, hown, hA, hlocks, hK, hZ⟩ := id C0
  unfold f_X8_addLink at hf
  refine lv_aload_n hx hb dX8_addLink_0 rfl (lv_at hl 0 rfl) ?_
  obtain ⟨M11, hq10, hf⟩ := bd_o hf
  refine hs_cv (hs_runV C0 hH hS (n := 0) (As := []) (rest := []) (c_X8_starts M hq10) ⟨⟨zt_1629, zt_1631, zs_32, zt_13, zt_1632⟩, rfl, by decide, by decide, by decide +kernel⟩ ⟨rfl, rfl, Nat.le_of_ble_eq_true rfl, Nat.le_of_ble_eq_true rfl⟩ (hs_recv hK hH 20 0 (by decide) 12 rfl rfl) rfl rfl hl.1 (Nat.le_of_ble_eq_true rfl) ⟨Nat.le_of_ble_eq_true rfl, Nat.le_of_ble_eq_true rfl⟩ dX8_addLink_1) hS (fun H locs hH hS => ?_)
  refine lv_aload_n hx hb dX8_addLink_4 rfl (lv_at hl 0 rfl) ?_
  refine lv_aload_n hx hb dX8_addLink_5 rfl (lv_at hl 0 rfl) ?_
  refine lv_iload_n hx hb dX8_addLink_6 rfl (lv_at hl 1 rfl) ?_
  refine lv_iload_n hx hb dX8_addLink_7 rfl (lv_at hl 2 rfl) ?_
  refine lv_iload_n hx hb dX8_addLink_8 rfl (lv_at hl 3 rfl) ?_
  refine lv_iload hx hb dX8_addLink_9 (lv_at hl 4 rfl) ?_
  obtain ⟨r15, M14, hq13, hf⟩ := bd2_o hf
  refine hs_ci (hs_runV C0 hH hS (n := 4) (As := [.int a1, .int a2, .int a3, .int a4]) (rest := [.ref (YA Y 20 0)]) (c_X8_linkIt M11 a1 a2 a3 a4 hq13) ⟨⟨zt_1649, zt_1651, zs_36, zt_13, zt_1652⟩, rfl, by decide, by decide, by decide +kernel⟩ ⟨rfl, rfl, Nat.le_of_ble_eq_true rfl, Nat.le_of_ble_eq_true rfl⟩ (hs_recv hK hH 20 0 (by decide) 12 rfl rfl) rfl rfl hl.1 (Nat.le_of_ble_eq_true rfl) ⟨Nat.le_of_ble_eq_true rfl, Nat.le_of_ble_eq_true rfl⟩ dX8_addLink_11) hS (fun H locs hH hS => ?_)
  obtain ⟨r18, M17, hq16, hf⟩ := bd2_o hf
  refine hs_ci (hs_runV C0 hH hS (n := 1) (As := [.int r15]) (rest := []) (c_X8_changed M14 r15 hq16) ⟨⟨zt_1641, zt_1643, zs_35, zt_13, zt_1644⟩, rfl, by decide, by decide, by decide +kernel⟩ ⟨rfl, rfl, Nat.le_of_ble_eq_true rfl, Nat.le_of_ble_eq_true rfl⟩ (hs_recv hK hH 20 0 (by decide) 12 rfl rfl) rfl rfl hl.1 (Nat.le_of_ble_eq_true rfl) ⟨Nat.le_of_ble_eq_true rfl, Nat.le_of_ble_eq_true rfl⟩ dX8_addLink_14) hS (fun H locs hH hS => ?_)
  cases hf
  exact hs_iret C0 hH hS (by decide) (by decide) dX8_addLink_17
def f_X8_blockIt (M : Mem) (a1 : Int32) (a2 : Int32) : Option (Int32 × Mem) := bd (f_X8_isLink M a1) fun r21 => (if r21 = 0 then bd2 (f_X8_throwing M (1 : Int32)) fun r37 M36 => some (r37, M36) else bd (f_X8_linkAt M a1) fun r23 => if vin (r23 + (4 : Int32)) 192 then ((if (M 21 0 (ix (r23 + (4 : Int32)))) = a2 then bd2 (f_X8_throwing M (2 : Int32)) fun r33 M32 => some (r33, M32) else bd (f_X8_linkAt M a1) fun r26 => if vin (r26 + (4 : Int32)) 192 then (nm (mu M 21 0 (ix (r26 + (4 : Int32))) a2) fun M28 => bd (f_X8_blocked M28) fun r30 => some (r30, M28)) else none)) else none)
set_option maxHeartbeats 4000000 in
set_option maxRecDepth 100000 in
theorem c_X8_blockIt {Y : LY} {l : Launch} (M : Mem) (a1 : Int32) (a2 : Int32) {r : Int32} {MZ : Mem} (hf : f_X8_blockIt M a1 a2 = some (r, MZ)) : Met l yX8_blockIt (WS yX8_blockIt cX8_blockIt 3 (Option.some Jvm.ClassFile.FieldType.int)) { frames := 2, cells := 0, slots := 0, locals := 46 } (PcM Y M [.ref (YA Y 20 0), .int a1, .int a2]) (Qi Y r MZ) 0 0 (AZ Y) := by
  refine met_mk (lv := [(0, .ref (YA Y 20 0)), (1, .int a1), (2, .int a2)]) [.ref (YA Y 20 0), .int a1, .int a2] (by decide) rfl rfl (Nat.le_of_ble_eq_true rfl) (fun p e s m below meth c C0 hH ls hl => ?_)
  have hS : va_S (AZ Y) s.heap s.heap [] := va_S.rf
  obtain ⟨hx, hb, hr, hml, hown, hA, hlocks, hK, hZ⟩ := id C0
  unfold f_X8_blockIt at hf
  refine lv_aload_n hx hb dX8_blockIt_0 rfl (lv_at hl 0 rfl) ?_
  refine lv_iload_n hx hb dX8_blockIt_1 rfl (lv_at hl 1 rfl) ?_
  obtain ⟨r21, hq20, hf⟩ := bd_o hf
  refine hs_ci (hs_runV C0 hH hS (n := 1) (As := [.int a1]) (rest := []) (c_X8_isLink M a1 hq20) ⟨⟨zt_1673, zt_1675, zs_39, zt_13, zt_1676⟩, rfl, by decide, by decide, by decide +kernel⟩ ⟨rfl, rfl, Nat.le_of_ble_eq_true rfl, Nat.le_of_ble_eq_true rfl⟩ (hs_recv hK hH 20 0 (by decide) 12 rfl rfl) rfl rfl hl.1 (Nat.le_of_ble_eq_true rfl) ⟨Nat.le_of_ble_eq_true rfl, Nat.le_of_ble_eq_true rfl⟩ dX8_blockIt_2) hS (fun H locs hH hS => ?_)
  refine lv_if_ne (tgt := 14) hx hb dX8_blockIt_5 (by decide) (fun hc38 => ?_) (fun hc38 => ?_)
  · have hf := if_f hf hc38
    refine lv_aload_n hx hb dX8_blockIt_14 rfl (lv_at hl 0 rfl) ?_
    refine hs_get hx hb (T := TX8) hA inAX8 hown hK hH 20 0 (by decide) 12 rfl rfl 0 (by decide) (hA _ zt_1551) rfl rfl dX8_blockIt_15 ?_
    refine lv_iload_n hx hb dX8_blockIt_18 rfl (lv_at hl 1 rfl) ?_
    obtain ⟨r23, hq22, hf⟩ := bd_o hf
    refine hs_ci (hs_runS C0 hH hS (n := 1) (As := [.int a1]) (rest := [.ref (YA Y 21 0)]) (c_X8_linkAt M a1 hq22) ⟨⟨zt_1662, zt_1663, zt_13, zt_1664⟩, by decide, by decide, by decide +kernel⟩ ⟨rfl, rfl, Nat.le_of_ble_eq_true rfl, Nat.le_of_ble_eq_true rfl⟩ rfl rfl hl.1 (Nat.le_of_ble_eq_true rfl) ⟨Nat.le_of_ble_eq_true rfl, Nat.le_of_ble_eq_true rfl⟩ dX8_blockIt_19) hS (fun H locs hH hS => ?_)
    refine lv_iconst (v := (4 : Int32)) hx hb dX8_blockIt_22 (by decide) ?_
    refine lv_iadd hx hb dX8_blockIt_23 ?_
    obtain ⟨hg24, hf⟩ := gd_o hf
    have bhg24 := vin_lt hg24
    refine hs_iald hx hb hK hH 21 0 (by decide) rfl hg24 rfl dX8_blockIt_24 ?_
    refine lv_iload_n hx hb dX8_blockIt_25 rfl (lv_at hl 2 rfl) ?_
    refine lv_icmp_ne (tgt := 35) hx hb dX8_blockIt_26 (by decide) (fun hc34 => ?_) (fun hc34 => ?_)
    · have hf := if_f hf hc34
      refine lv_aload_n hx hb dX8_blockIt_35 rfl (lv_at hl 0 rfl) ?_
      refine hs_get hx hb (T := TX8) hA inAX8 hown hK hH 20 0 (by decide) 12 rfl rfl 0 (by decide) (hA _ zt_1551) rfl rfl dX8_blockIt_36 ?_
      refine lv_iload_n hx hb dX8_blockIt_39 rfl (lv_at hl 1 rfl) ?_
      obtain ⟨r26, hq25, hf⟩ := bd_o hf
      refine hs_ci (hs_runS C0 hH hS (n := 1) (As := [.int a1]) (rest := [.ref (YA Y 21 0)]) (c_X8_linkAt M a1 hq25) ⟨⟨zt_1662, zt_1663, zt_13, zt_1664⟩, by decide, by decide, by decide +kernel⟩ ⟨rfl, rfl, Nat.le_of_ble_eq_true rfl, Nat.le_of_ble_eq_true rfl⟩ rfl rfl hl.1 (Nat.le_of_ble_eq_true rfl) ⟨Nat.le_of_ble_eq_true rfl, Nat.le_of_ble_eq_true rfl⟩ dX8_blockIt_40) hS (fun H locs hH hS => ?_)
      refine lv_iconst (v := (4 : Int32)) hx hb dX8_blockIt_43 (by decide) ?_
      refine lv_iadd hx hb dX8_blockIt_44 ?_
      refine lv_iload_n hx hb dX8_blockIt_45 rfl (lv_at hl 2 rfl) ?_
      obtain ⟨hg27, hf⟩ := gd_o hf
      have bhg27 := vin_lt hg27
      refine hs_iast hx hb hK hH hS 21 0 (by decide) (fun _ => rfl) hg27 rfl dX8_blockIt_46 (fun H locs hH hS => ?_)
      obtain ⟨M28, eM28, hf⟩ := nm_o hf
      rw [← eM28] at hH
      refine lv_aload_n hx hb dX8_blockIt_47 rfl (lv_at hl 0 rfl) ?_
      obtain ⟨r30, hq29, hf⟩ := bd_o hf
      refine hs_ci (hs_runV C0 hH hS (n := 0) (As := []) (rest := []) (c_X8_blocked M28 hq29) ⟨⟨zt_1677, zt_1679, zs_40, zt_13, zt_1680⟩, rfl, by decide, by decide, by decide +kernel⟩ ⟨rfl, rfl, Nat.le_of_ble_eq_true rfl, Nat.le_of_ble_eq_true rfl⟩ (hs_recv hK hH 20 0 (by decide) 12 rfl rfl) rfl rfl hl.1 (Nat.le_of_ble_eq_true rfl) ⟨Nat.le_of_ble_eq_true rfl, Nat.le_of_ble_eq_true rfl⟩ dX8_blockIt_48) hS (fun H locs hH hS => ?_)
      cases hf
      exact hs_iret C0 hH hS (by decide) (by decide) dX8_blockIt_51
    · have hf := if_t hf hc34
      refine lv_aload_n hx hb dX8_blockIt_29 rfl (lv_at hl 0 rfl) ?_
      refine lv_iconst (v := (2 : Int32)) hx hb dX8_blockIt_30 (by decide) ?_
      obtain ⟨r33, M32, hq31, hf⟩ := bd2_o hf
      refine hs_ci (hs_runV C0 hH hS (n := 1) (As := [.int (2 : Int32)]) (rest := []) (c_X8_throwing M (2 : Int32) hq31) ⟨⟨zt_1637, zt_1639, zs_34, zt_13, zt_1640⟩, rfl, by decide, by decide, by decide +kernel⟩ ⟨rfl, rfl, Nat.le_of_ble_eq_true rfl, Nat.le_of_ble_eq_true rfl⟩ (hs_recv hK hH 20 0 (by decide) 12 rfl rfl) rfl rfl hl.1 (Nat.le_of_ble_eq_true rfl) ⟨Nat.le_of_ble_eq_true rfl, Nat.le_of_ble_eq_true rfl⟩ dX8_blockIt_31) hS (fun H locs hH hS => ?_)
      cases hf
      exact hs_iret C0 hH hS (by decide) (by decide) dX8_blockIt_34
  · have hf := if_t hf hc38
    refine lv_aload_n hx hb dX8_blockIt_8 rfl (lv_at hl 0 rfl) ?_
    refine lv_iconst (v := (1 : Int32)) hx hb dX8_blockIt_9 (by decide) ?_
    obtain ⟨r37, M36, hq35, hf⟩ := bd2_o hf
    refine hs_ci (hs_runV C0 hH hS (n := 1) (As := [.int (1 : Int32)]) (rest := []) (c_X8_throwing M (1 : Int32) hq35) ⟨⟨zt_1637, zt_1639, zs_34, zt_13, zt_1640⟩, rfl, by decide, by decide, by decide +kernel⟩ ⟨rfl, rfl, Nat.le_of_ble_eq_true rfl, Nat.le_of_ble_eq_true rfl⟩ (hs_recv hK hH 20 0 (by decide) 12 rfl rfl) rfl rfl hl.1 (Nat.le_of_ble_eq_true rfl) ⟨Nat.le_of_ble_eq_true rfl, Nat.le_of_ble_eq_true rfl⟩ dX8_blockIt_10) hS (fun H locs hH hS => ?_)
    cases hf
    exact hs_iret C0 hH hS (by decide) (by decide) dX8_blockIt_13
def f_X8_block (M : Mem) (a1 : Int32) : Option (Int32 × Mem) := bd (f_X8_starts M) fun M11 => bd2 (f_X8_blockIt M11 a1 (1 : Int32)) fun r15 M14 => bd2 (f_X8_changed M14 r15) fun r18 M17 => some (r18, M17)
set_option maxHeartbeats 4000000 in
set_option maxRecDepth 100000 in
theorem c_X8_block {Y : LY} {l : Launch} (M : Mem) (a1 : Int32) {r : Int32} {MZ : Mem} (hf : f_X8_block M a1 = some (r, MZ)) : Met l yX8_block (WS yX8_block cX8_block 2 (Option.some Jvm.ClassFile.FieldType.int)) { frames := 3, cells := 0, slots := 0, locals := 68 } (PcM Y M [.ref (YA Y 20 0), .int a1]) (Qi Y r MZ) 0 0 (AZ Y) := by
  refine met_mk (lv := [(0, .ref (YA Y 20 0)), (1, .int a1)]) [.ref (YA Y 20 0), .int a1] (by decide) rfl rfl (Nat.le_of_ble_eq_true rfl) (fun p e s m below meth c C0 hH ls hl => ?_)
  have hS : va_S (AZ Y) s.heap s.heap [] := va_S.rf
  obtain ⟨hx, hb, hr, hml, hown, hA, hlocks, hK, hZ⟩ := id C0
  unfold f_X8_block at hf
  refine lv_aload_n hx hb dX8_block_0 rfl (lv_at hl 0 rfl) ?_
  obtain ⟨M11, hq10, hf⟩ := bd_o hf
  refine hs_cv (hs_runV C0 hH hS (n := 0) (As := []) (rest := []) (c_X8_starts M hq10) ⟨⟨zt_1629, zt_1631, zs_32, zt_13, zt_1632⟩, rfl, by decide, by decide, by decide +kernel⟩ ⟨rfl, rfl, Nat.le_of_ble_eq_true rfl, Nat.le_of_ble_eq_true rfl⟩ (hs_recv hK hH 20 0 (by decide) 12 rfl rfl) rfl rfl hl.1 (Nat.le_of_ble_eq_true rfl) ⟨Nat.le_of_ble_eq_true rfl, Nat.le_of_ble_eq_true rfl⟩ dX8_block_1) hS (fun H locs hH hS => ?_)
  refine lv_aload_n hx hb dX8_block_4 rfl (lv_at hl 0 rfl) ?_
  refine lv_aload_n hx hb dX8_block_5 rfl (lv_at hl 0 rfl) ?_
  refine lv_iload_n hx hb dX8_block_6 rfl (lv_at hl 1 rfl) ?_
  refine lv_iconst (v := (1 : Int32)) hx hb dX8_block_7 (by decide) ?_
  obtain ⟨r15, M14, hq13, hf⟩ := bd2_o hf
  refine hs_ci (hs_runV C0 hH hS (n := 2) (As := [.int a1, .int (1 : Int32)]) (rest := [.ref (YA Y 20 0)]) (c_X8_blockIt M11 a1 (1 : Int32) hq13) ⟨⟨zt_1669, zt_1671, zs_38, zt_13, zt_1672⟩, rfl, by decide, by decide, by decide +kernel⟩ ⟨rfl, rfl, Nat.le_of_ble_eq_true rfl, Nat.le_of_ble_eq_true rfl⟩ (hs_recv hK hH 20 0 (by decide) 12 rfl rfl) rfl rfl hl.1 (Nat.le_of_ble_eq_true rfl) ⟨Nat.le_of_ble_eq_true rfl, Nat.le_of_ble_eq_true rfl⟩ dX8_block_8) hS (fun H locs hH hS => ?_)
  obtain ⟨r18, M17, hq16, hf⟩ := bd2_o hf
  refine hs_ci (hs_runV C0 hH hS (n := 1) (As := [.int r15]) (rest := []) (c_X8_changed M14 r15 hq16) ⟨⟨zt_1641, zt_1643, zs_35, zt_13, zt_1644⟩, rfl, by decide, by decide, by decide +kernel⟩ ⟨rfl, rfl, Nat.le_of_ble_eq_true rfl, Nat.le_of_ble_eq_true rfl⟩ (hs_recv hK hH 20 0 (by decide) 12 rfl rfl) rfl rfl hl.1 (Nat.le_of_ble_eq_true rfl) ⟨Nat.le_of_ble_eq_true rfl, Nat.le_of_ble_eq_true rfl⟩ dX8_block_11) hS (fun H locs hH hS => ?_)
  cases hf
  exact hs_iret C0 hH hS (by decide) (by decide) dX8_block_14
def f_X8_open (M : Mem) (a1 : Int32) : Option (Int32 × Mem) := bd (f_X8_starts M) fun M11 => bd2 (f_X8_blockIt M11 a1 (0 : Int32)) fun r15 M14 => bd2 (f_X8_changed M14 r15) fun r18 M17 => some (r18, M17)
set_option maxHeartbeats 4000000 in
set_option maxRecDepth 100000 in
theorem c_X8_open {Y : LY} {l : Launch} (M : Mem) (a1 : Int32) {r : Int32} {MZ : Mem} (hf : f_X8_open M a1 = some (r, MZ)) : Met l yX8_open (WS yX8_open cX8_open 2 (Option.some Jvm.ClassFile.FieldType.int)) { frames := 3, cells := 0, slots := 0, locals := 68 } (PcM Y M [.ref (YA Y 20 0), .int a1]) (Qi Y r MZ) 0 0 (AZ Y) := by
  refine met_mk (lv := [(0, .ref (YA Y 20 0)), (1, .int a1)]) [.ref (YA Y 20 0), .int a1] (by decide) rfl rfl (Nat.le_of_ble_eq_true rfl) (fun p e s m below meth c C0 hH ls hl => ?_)
  have hS : va_S (AZ Y) s.heap s.heap [] := va_S.rf
  obtain ⟨hx, hb, hr, hml, hown, hA, hlocks, hK, hZ⟩ := id C0
  unfold f_X8_open at hf
  refine lv_aload_n hx hb dX8_open_0 rfl (lv_at hl 0 rfl) ?_
  obtain ⟨M11, hq10, hf⟩ := bd_o hf
  refine hs_cv (hs_runV C0 hH hS (n := 0) (As := []) (rest := []) (c_X8_starts M hq10) ⟨⟨zt_1629, zt_1631, zs_32, zt_13, zt_1632⟩, rfl, by decide, by decide, by decide +kernel⟩ ⟨rfl, rfl, Nat.le_of_ble_eq_true rfl, Nat.le_of_ble_eq_true rfl⟩ (hs_recv hK hH 20 0 (by decide) 12 rfl rfl) rfl rfl hl.1 (Nat.le_of_ble_eq_true rfl) ⟨Nat.le_of_ble_eq_true rfl, Nat.le_of_ble_eq_true rfl⟩ dX8_open_1) hS (fun H locs hH hS => ?_)
  refine lv_aload_n hx hb dX8_open_4 rfl (lv_at hl 0 rfl) ?_
  refine lv_aload_n hx hb dX8_open_5 rfl (lv_at hl 0 rfl) ?_
  refine lv_iload_n hx hb dX8_open_6 rfl (lv_at hl 1 rfl) ?_
  refine lv_iconst (v := (0 : Int32)) hx hb dX8_open_7 (by decide) ?_
  obtain ⟨r15, M14, hq13, hf⟩ := bd2_o hf
  refine hs_ci (hs_runV C0 hH hS (n := 2) (As := [.int a1, .int (0 : Int32)]) (rest := [.ref (YA Y 20 0)]) (c_X8_blockIt M11 a1 (0 : Int32) hq13) ⟨⟨zt_1669, zt_1671, zs_38, zt_13, zt_1672⟩, rfl, by decide, by decide, by decide +kernel⟩ ⟨rfl, rfl, Nat.le_of_ble_eq_true rfl, Nat.le_of_ble_eq_true rfl⟩ (hs_recv hK hH 20 0 (by decide) 12 rfl rfl) rfl rfl hl.1 (Nat.le_of_ble_eq_true rfl) ⟨Nat.le_of_ble_eq_true rfl, Nat.le_of_ble_eq_true rfl⟩ dX8_open_8) hS (fun H locs hH hS => ?_)
  obtain ⟨r18, M17, hq16, hf⟩ := bd2_o hf
  refine hs_ci (hs_runV C0 hH hS (n := 1) (As := [.int r15]) (rest := []) (c_X8_changed M14 r15 hq16) ⟨⟨zt_1641, zt_1643, zs_35, zt_13, zt_1644⟩, rfl, by decide, by decide, by decide +kernel⟩ ⟨rfl, rfl, Nat.le_of_ble_eq_true rfl, Nat.le_of_ble_eq_true rfl⟩ (hs_recv hK hH 20 0 (by decide) 12 rfl rfl) rfl rfl hl.1 (Nat.le_of_ble_eq_true rfl) ⟨Nat.le_of_ble_eq_true rfl, Nat.le_of_ble_eq_true rfl⟩ dX8_open_11) hS (fun H locs hH hS => ?_)
  cases hf
  exact hs_iret C0 hH hS (by decide) (by decide) dX8_open_14
def f_X8_postIt_16 (M : Mem) : Option (Int32 × Mem) := bd2 (f_X8_throwing M (1 : Int32)) fun r44 M43 => some (r44, M43)
set_option maxHeartbeats 4000000 in
set_option maxRecDepth 100000 in
theorem w_X8_postIt_16 {Y : LY} {p : Program} {l : Launch} {e : Env} {s : State} {m : MethodId} {args : Array Value} {below : List Frame} {meth : Method} {c : Code} (C0 : BE Y p s m args meth c cX8_postIt 6 (Option.some Jvm.ClassFile.FieldType.int) RX8) {r : Int32} {MZ : Mem} : ∀ (M : Mem), f_X8_postIt_16 M = some (r, MZ) → ∀ (H : Heap) (locs : List Loc) (ls : Array Slot), HS Y M H → va_S (AZ Y) s.heap H locs → lv_has ls 6 [(0, .ref (YA Y 20 0))] → W p l e { frames := 2, cells := 0, slots := 0, locals := 46 } s m args below meth c H locs 0 0 (MQ below (Qi Y r MZ) args s 0 0 (AZ Y)) (F0 m 16 ls []) := by
  obtain ⟨hx, hb, hr, hml, hown, hA, hlocks, hK, hZ⟩ := id C0
  intro M hf H locs ls hH hS hl
  unfold f_X8_postIt_16 at hf
  refine lv_aload_n hx hb dX8_postIt_16 rfl (lv_at hl 0 rfl) ?_
  refine lv_iconst (v := (1 : Int32)) hx hb dX8_postIt_17 (by decide) ?_
  obtain ⟨r44, M43, hq42, hf⟩ := bd2_o hf
  refine hs_ci (hs_runV C0 hH hS (n := 1) (As := [.int (1 : Int32)]) (rest := []) (c_X8_throwing M (1 : Int32) hq42) ⟨⟨zt_1637, zt_1639, zs_34, zt_13, zt_1640⟩, rfl, by decide, by decide, by decide +kernel⟩ ⟨rfl, rfl, Nat.le_of_ble_eq_true rfl, Nat.le_of_ble_eq_true rfl⟩ (hs_recv hK hH 20 0 (by decide) 12 rfl rfl) rfl rfl hl.1 (Nat.le_of_ble_eq_true rfl) ⟨Nat.le_of_ble_eq_true rfl, Nat.le_of_ble_eq_true rfl⟩ dX8_postIt_18) hS (fun H locs hH hS => ?_)
  cases hf
  exact hs_iret C0 hH hS (by decide) (by decide) dX8_postIt_21
def f_X8_postIt_52 (M : Mem) : Option (Int32 × Mem) := bd2 (f_X8_throwing M (2 : Int32)) fun r47 M46 => some (r47, M46)
set_option maxHeartbeats 4000000 in
set_option maxRecDepth 100000 in
theorem w_X8_postIt_52 {Y : LY} {p : Program} {l : Launch} {e : Env} {s : State} {m : MethodId} {args : Array Value} {below : List Frame} {meth : Method} {c : Code} (C0 : BE Y p s m args meth c cX8_postIt 6 (Option.some Jvm.ClassFile.FieldType.int) RX8) {r : Int32} {MZ : Mem} : ∀ (M : Mem), f_X8_postIt_52 M = some (r, MZ) → ∀ (H : Heap) (locs : List Loc) (ls : Array Slot), HS Y M H → va_S (AZ Y) s.heap H locs → lv_has ls 6 [(0, .ref (YA Y 20 0))] → W p l e { frames := 2, cells := 0, slots := 0, locals := 46 } s m args below meth c H locs 0 0 (MQ below (Qi Y r MZ) args s 0 0 (AZ Y)) (F0 m 52 ls []) := by
  obtain ⟨hx, hb, hr, hml, hown, hA, hlocks, hK, hZ⟩ := id C0
  intro M hf H locs ls hH hS hl
  unfold f_X8_postIt_52 at hf
  refine lv_aload_n hx hb dX8_postIt_52 rfl (lv_at hl 0 rfl) ?_
  refine lv_iconst (v := (2 : Int32)) hx hb dX8_postIt_53 (by decide) ?_
  obtain ⟨r47, M46, hq45, hf⟩ := bd2_o hf
  refine hs_ci (hs_runV C0 hH hS (n := 1) (As := [.int (2 : Int32)]) (rest := []) (c_X8_throwing M (2 : Int32) hq45) ⟨⟨zt_1637, zt_1639, zs_34, zt_13, zt_1640⟩, rfl, by decide, by decide, by decide +kernel⟩ ⟨rfl, rfl, Nat.le_of_ble_eq_true rfl, Nat.le_of_ble_eq_true rfl⟩ (hs_recv hK hH 20 0 (by decide) 12 rfl rfl) rfl rfl hl.1 (Nat.le_of_ble_eq_true rfl) ⟨Nat.le_of_ble_eq_true rfl, Nat.le_of_ble_eq_true rfl⟩ dX8_postIt_54) hS (fun H locs hH hS => ?_)
  cases hf
  exact hs_iret C0 hH hS (by decide) (by decide) dX8_postIt_57
def f_X8_postIt (M : Mem) (a1 : Int32) (a2 : Int32) (a3 : Int32) (a4 : Int32) : Option (Int32 × Mem) := bd (f_X8_isPlace M a1) fun r49 => (if r49 = 0 then f_X8_postIt_16 M else bd (f_X8_isPlace M a2) fun r51 => (if r51 = 0 then f_X8_postIt_16 M else (if a1 = a2 then f_X8_postIt_52 M else bd (f_X8_in M a3.toInt64 (1 : Int64) (9 : Int64)) fun r53 => (if r53 = 0 then f_X8_postIt_52 M else bd (f_X8_in M a4.toInt64 (0 : Int64) (20 : Int64)) fun r55 => (if r55 = 0 then f_X8_postIt_52 M else (if (M 21 0 2) = (12 : Int32) then bd2 (f_X8_throwing M (3 : Int32)) fun r76 M75 => some (r76, M75) else bd (f_X8_parcelAt M (M 21 0 2)) fun r57 => if vin r57 192 then (nm (mu M 21 0 (ix r57) (M 21 0 3)) fun M59 => if vin (r57 + (1 : Int32)) 192 then (nm (mu M59 21 0 (ix (r57 + (1 : Int32))) a2) fun M61 => if vin (r57 + (2 : Int32)) 192 then (nm (mu M61 21 0 (ix (r57 + (2 : Int32))) a3) fun M63 => if vin (r57 + (3 : Int32)) 192 then (nm (mu M63 21 0 (ix (r57 + (3 : Int32))) a4) fun M65 => if vin (r57 + (4 : Int32)) 192 then (nm (mu M65 21 0 (ix (r57 + (4 : Int32))) a1) fun M67 => if vin (r57 + (5 : Int32)) 192 then (nm (mu M67 21 0 (ix (r57 + (5 : Int32))) (-1 : Int32)) fun M69 => if vin (r57 + (6 : Int32)) 192 then (nm (mu M69 21 0 (ix (r57 + (6 : Int32))) (0 : Int32)) fun M71 => nm (mu M71 21 0 2 ((M71 21 0 2) + (1 : Int32))) fun M72 => nm (mu M72 21 0 3 ((M72 21 0 3) + (1 : Int32))) fun M73 => some ((M73 21 0 (ix r57)), M73)) else none) else none) else none) else none) else none) else none) else none))))))
set_option maxHeartbeats 4000000 in
set_option maxRecDepth 100000 in
theorem c_X8_postIt {Y : LY} {l : Launch} (M : Mem) (a1 : Int32) (a2 : Int32) (a3 : Int32) (a4 : Int32) {r : Int32} {MZ : Mem} (hf : f_X8_postIt M a1 a2 a3 a4 = some (r, MZ)) : Met l yX8_postIt (WS yX8_postIt cX8_postIt 6 (Option.some Jvm.ClassFile.FieldType.int)) { frames := 2, cells := 0, slots := 0, locals := 46 } (PcM Y M [.ref (YA Y 20 0), .int a1, .int a2, .int a3, .int a4]) (Qi Y r MZ) 0 0 (AZ Y) := by
  refine met_mk (lv := [(0, .ref (YA Y 20 0)), (1, .int a1), (2, .int a2), (3, .int a3), (4, .int a4)]) [.ref (YA Y 20 0), .int a1, .int a2, .int a3, .int a4] (by decide) rfl rfl (Nat.le_of_ble_eq_true rfl) (fun p e s m below meth c C0 hH ls hl => ?_)
  have hS : va_S (AZ Y) s.heap s.heap [] := va_S.rf
  obtain ⟨hx, hb, hr, hml, hown, hA, hlocks, hK, hZ⟩ := id C0
  unfold f_X8_postIt at hf
  refine lv_aload_n hx hb dX8_postIt_0 rfl (lv_at hl 0 rfl) ?_
  refine lv_iload_n hx hb dX8_postIt_1 rfl (lv_at hl 1 rfl) ?_
  obtain ⟨r49, hq48, hf⟩ := bd_o hf
  refine hs_ci (hs_runV C0 hH hS (n := 1) (As := [.int a1]) (rest := []) (c_X8_isPlace M a1 hq48) ⟨⟨zt_1653, zt_1655, zs_37, zt_13, zt_1656⟩, rfl, by decide, by decide, by decide +kernel⟩ ⟨rfl, rfl, Nat.le_of_ble_eq_true rfl, Nat.le_of_ble_eq_true rfl⟩ (hs_recv hK hH 20 0 (by decide) 12 rfl rfl) rfl rfl hl.1 (Nat.le_of_ble_eq_true rfl) ⟨Nat.le_of_ble_eq_true rfl, Nat.le_of_ble_eq_true rfl⟩ dX8_postIt_2) hS (fun H locs hH hS => ?_)
  refine lv_if_eq (tgt := 16) hx hb dX8_postIt_5 (by decide) (fun hc82 => ?_) (fun hc82 => ?_)
  · have hf := if_t hf hc82
    exact w_X8_postIt_16 C0 M hf _ _ _ hH hS (lv_sub hl [0] rfl)
  · have hf := if_f hf hc82
    refine lv_aload_n hx hb dX8_postIt_8 rfl (lv_at hl 0 rfl) ?_
    refine lv_iload_n hx hb dX8_postIt_9 rfl (lv_at hl 2 rfl) ?_
    obtain ⟨r51, hq50, hf⟩ := bd_o hf
    refine hs_ci (hs_runV C0 hH hS (n := 1) (As := [.int a2]) (rest := []) (c_X8_isPlace M a2 hq50) ⟨⟨zt_1653, zt_1655, zs_37, zt_13, zt_1656⟩, rfl, by decide, by decide, by decide +kernel⟩ ⟨rfl, rfl, Nat.le_of_ble_eq_true rfl, Nat.le_of_ble_eq_true rfl⟩ (hs_recv hK hH 20 0 (by decide) 12 rfl rfl) rfl rfl hl.1 (Nat.le_of_ble_eq_true rfl) ⟨Nat.le_of_ble_eq_true rfl, Nat.le_of_ble_eq_true rfl⟩ dX8_postIt_10) hS (fun H locs hH hS => ?_)
    refine lv_if_ne (tgt := 22) hx hb dX8_postIt_13 (by decide) (fun hc81 => ?_) (fun hc81 => ?_)
    · have hf := if_f hf hc81
      refine lv_iload_n hx hb dX8_postIt_22 rfl (lv_at hl 1 rfl) ?_
      refine lv_iload_n hx hb dX8_postIt_23 rfl (lv_at hl 2 rfl) ?_
      refine lv_icmp_eq (tgt := 52) hx hb dX8_postIt_24 (by decide) (fun hc80 => ?_) (fun hc80 => ?_)
      · have hf := if_t hf hc80
        exact w_X8_postIt_52 C0 M hf _ _ _ hH hS (lv_sub hl [0] rfl)
      · have hf := if_f hf hc80
        refine lv_iload_n hx hb dX8_postIt_27 rfl (lv_at hl 3 rfl) ?_
        refine lv_i2l (v := a3.toInt64) hx hb dX8_postIt_28 rfl ?_
        refine lv_lconst (v := (1 : Int64)) hx hb dX8_postIt_29 (by decide) ?_
        refine lv_ldc2 (v := (9 : Int64)) hx hb hown (hA _ zt_1660) dX8_postIt_30 ?_
        obtain ⟨r53, hq52, hf⟩ := bd_o hf
        refine hs_ci (hs_runS C0 hH hS (n := 3) (As := [.long a3.toInt64, .long (1 : Int64), .long (9 : Int64)]) (rest := []) (c_X8_in M a3.toInt64 (1 : Int64) (9 : Int64) hq52) ⟨⟨zt_1657, zt_1658, zt_13, zt_1659⟩, by decide, by decide, by decide +kernel⟩ ⟨rfl, rfl, Nat.le_of_ble_eq_true rfl, Nat.le_of_ble_eq_true rfl⟩ rfl rfl hl.1 (Nat.le_of_ble_eq_true rfl) ⟨Nat.le_of_ble_eq_true rfl, Nat.le_of_ble_eq_true rfl⟩ dX8_postIt_33) hS (fun H locs hH hS => ?_)
        refine lv_if_eq (tgt := 52) hx hb dX8_postIt_36 (by decide) (fun hc79 => ?_) (fun hc79 => ?_)
        · have hf := if_t hf hc79
          exact w_X8_postIt_52 C0 M hf _ _ _ hH hS (lv_sub hl [0] rfl)
        · have hf := if_f hf hc79
          refine lv_iload hx hb dX8_postIt_39 (lv_at hl 4 rfl) ?_
          refine lv_i2l (v := a4.toInt64) hx hb dX8_postIt_41 rfl ?_
          refine lv_lconst (v := (0 : Int64)) hx hb dX8_postIt_42 (by decide) ?_
          refine lv_ldc2 (v := (20 : Int64)) hx hb hown (hA _ zt_1693) dX8_postIt_43 ?_
          obtain ⟨r55, hq54, hf⟩ := bd_o hf
          refine hs_ci (hs_runS C0 hH hS (n := 3) (As := [.long a4.toInt64, .long (0 : Int64), .long (20 : Int64)]) (rest := []) (c_X8_in M a4.toInt64 (0 : Int64) (20 : Int64) hq54) ⟨⟨zt_1657, zt_1658, zt_13, zt_1659⟩, by decide, by decide, by decide +kernel⟩ ⟨rfl, rfl, Nat.le_of_ble_eq_true rfl, Nat.le_of_ble_eq_true rfl⟩ rfl rfl hl.1 (Nat.le_of_ble_eq_true rfl) ⟨Nat.le_of_ble_eq_true rfl, Nat.le_of_ble_eq_true rfl⟩ dX8_postIt_46) hS (fun H locs hH hS => ?_)
          refine lv_if_ne (tgt := 58) hx hb dX8_postIt_49 (by decide) (fun hc78 => ?_) (fun hc78 => ?_)
          · have hf := if_f hf hc78
            refine lv_aload_n hx hb dX8_postIt_58 rfl (lv_at hl 0 rfl) ?_
            refine hs_get hx hb (T := TX8) hA inAX8 hown hK hH 20 0 (by decide) 12 rfl rfl 0 (by decide) (hA _ zt_1551) rfl rfl dX8_postIt_59 ?_
            refine lv_iconst (v := (2 : Int32)) hx hb dX8_postIt_62 (by decide) ?_
            refine hs_iald hx hb hK hH 21 0 (by decide) rfl (show vin (2 : Int32) 192 from by decide) (show ix (2 : Int32) = 2 from by decide) dX8_postIt_63 ?_
            refine lv_bipush (v := (12 : Int32)) hx hb dX8_postIt_64 (by decide) ?_
            refine lv_icmp_ne (tgt := 75) hx hb dX8_postIt_66 (by decide) (fun hc77 => ?_) (fun hc77 => ?_)
            · have hf := if_f hf hc77
              refine lv_aload_n hx hb dX8_postIt_75 rfl (lv_at hl 0 rfl) ?_
              refine hs_get hx hb (T := TX8) hA inAX8 hown hK hH 20 0 (by decide) 12 rfl rfl 0 (by decide) (hA _ zt_1551) rfl rfl dX8_postIt_76 ?_
              refine lv_iconst (v := (2 : Int32)) hx hb dX8_postIt_79 (by decide) ?_
              refine hs_iald hx hb hK hH 21 0 (by decide) rfl (show vin (2 : Int32) 192 from by decide) (show ix (2 : Int32) = 2 from by decide) dX8_postIt_80 ?_
              obtain ⟨r57, hq56, hf⟩ := bd_o hf
              refine hs_ci (hs_runS C0 hH hS (n := 1) (As := [.int (M 21 0 2)]) (rest := []) (c_X8_parcelAt M (M 21 0 2) hq56) ⟨⟨zt_1694, zt_1695, zt_13, zt_1696⟩, by decide, by decide, by decide +kernel⟩ ⟨rfl, rfl, Nat.le_of_ble_eq_true rfl, Nat.le_of_ble_eq_true rfl⟩ rfl rfl hl.1 (Nat.le_of_ble_eq_true rfl) ⟨Nat.le_of_ble_eq_true rfl, Nat.le_of_ble_eq_true rfl⟩ dX8_postIt_81) hS (fun H locs hH hS => ?_)
              refine lv_istore (lv' := [(5, .int r57), (0, .ref (YA Y 20 0)), (1, .int a1), (2, .int a2), (3, .int a3), (4, .int a4)]) hx hb dX8_postIt_84 hl (by decide) rfl (fun ls hl => ?_)
              refine lv_aload_n hx hb dX8_postIt_86 rfl (lv_at hl 1 rfl) ?_
              refine hs_get hx hb (T := TX8) hA inAX8 hown hK hH 20 0 (by decide) 12 rfl rfl 0 (by decide) (hA _ zt_1551) rfl rfl dX8_postIt_87 ?_
              refine lv_iload hx hb dX8_postIt_90 (lv_at hl 0 rfl) ?_
              refine lv_aload_n hx hb dX8_postIt_92 rfl (lv_at hl 1 rfl) ?_
              refine hs_get hx hb (T := TX8) hA inAX8 hown hK hH 20 0 (by decide) 12 rfl rfl 0 (by decide) (hA _ zt_1551) rfl rfl dX8_postIt_93 ?_
              refine lv_iconst (v := (3 : Int32)) hx hb dX8_postIt_96 (by decide) ?_
              refine hs_iald hx hb hK hH 21 0 (by decide) rfl (show vin (3 : Int32) 192 from by decide) (show ix (3 : Int32) = 3 from by decide) dX8_postIt_97 ?_
              obtain ⟨hg58, hf⟩ := gd_o hf
              have bhg58 := vin_lt hg58
              refine hs_iast hx hb hK hH hS 21 0 (by decide) (fun _ => rfl) hg58 rfl dX8_postIt_98 (fun H locs hH hS => ?_)
              obtain ⟨M59, eM59, hf⟩ := nm_o hf
              rw [← eM59] at hH
              refine lv_aload_n hx hb dX8_postIt_99 rfl (lv_at hl 1 rfl) ?_
              refine hs_get hx hb (T := TX8) hA inAX8 hown hK hH 20 0 (by decide) 12 rfl rfl 0 (by decide) (hA _ zt_1551) rfl rfl dX8_postIt_100 ?_
              refine lv_iload hx hb dX8_postIt_103 (lv_at hl 0 rfl) ?_
              refine lv_iconst (v := (1 : Int32)) hx hb dX8_postIt_105 (by decide) ?_
              refine lv_iadd hx hb dX8_postIt_106 ?_
              refine lv_iload_n hx hb dX8_postIt_107 rfl (lv_at hl 3 rfl) ?_
              obtain ⟨hg60, hf⟩ := gd_o hf
              have bhg60 := vin_lt hg60
              refine hs_iast hx hb hK hH hS 21 0 (by decide) (fun _ => rfl) hg60 rfl dX8_postIt_108 (fun H locs hH hS => ?_)
              obtain ⟨M61, eM61, hf⟩ := nm_o hf
              rw [← eM61] at hH
              refine lv_aload_n hx hb dX8_postIt_109 rfl (lv_at hl 1 rfl) ?_
              refine hs_get hx hb (T := TX8) hA inAX8 hown hK hH 20 0 (by decide) 12 rfl rfl 0 (by decide) (hA _ zt_1551) rfl rfl dX8_postIt_110 ?_
              refine lv_iload hx hb dX8_postIt_113 (lv_at hl 0 rfl) ?_
              refine lv_iconst (v := (2 : Int32)) hx hb dX8_postIt_115 (by decide) ?_
              refine lv_iadd hx hb dX8_postIt_116 ?_
              refine lv_iload_n hx hb dX8_postIt_117 rfl (lv_at hl 4 rfl) ?_
              obtain ⟨hg62, hf⟩ := gd_o hf
              have bhg62 := vin_lt hg62
              refine hs_iast hx hb hK hH hS 21 0 (by decide) (fun _ => rfl) hg62 rfl dX8_postIt_118 (fun H locs hH hS => ?_)
              obtain ⟨M63, eM63, hf⟩ := nm_o hf
              rw [← eM63] at hH
              refine lv_aload_n hx hb dX8_postIt_119 rfl (lv_at hl 1 rfl) ?_
              refine hs_get hx hb (T := TX8) hA inAX8 hown hK hH 20 0 (by decide) 12 rfl rfl 0 (by decide) (hA _ zt_1551) rfl rfl dX8_postIt_120 ?_
              refine lv_iload hx hb dX8_postIt_123 (lv_at hl 0 rfl) ?_
              refine lv_iconst (v := (3 : Int32)) hx hb dX8_postIt_125 (by decide) ?_
              refine lv_iadd hx hb dX8_postIt_126 ?_
              refine lv_iload hx hb dX8_postIt_127 (lv_at hl 5 rfl) ?_
              obtain ⟨hg64, hf⟩ := gd_o hf
              have bhg64 := vin_lt hg64
              refine hs_iast hx hb hK hH hS 21 0 (by decide) (fun _ => rfl) hg64 rfl dX8_postIt_129 (fun H locs hH hS => ?_)
              obtain ⟨M65, eM65, hf⟩ := nm_o hf
              rw [← eM65] at hH
              refine lv_aload_n hx hb dX8_postIt_130 rfl (lv_at hl 1 rfl) ?_
              refine hs_get hx hb (T := TX8) hA inAX8 hown hK hH 20 0 (by decide) 12 rfl rfl 0 (by decide) (hA _ zt_1551) rfl rfl dX8_postIt_131 ?_
              refine lv_iload hx hb dX8_postIt_134 (lv_at hl 0 rfl) ?_
              refine lv_iconst (v := (4 : Int32)) hx hb dX8_postIt_136 (by decide) ?_
              refine lv_iadd hx hb dX8_postIt_137 ?_
              refine lv_iload_n hx hb dX8_postIt_138 rfl (lv_at hl 2 rfl) ?_
              obtain ⟨hg66, hf⟩ := gd_o hf
              have bhg66 := vin_lt hg66
              refine hs_iast hx hb hK hH hS 21 0 (by decide) (fun _ => rfl) hg66 rfl dX8_postIt_139 (fun H locs hH hS => ?_)
              obtain ⟨M67, eM67, hf⟩ := nm_o hf
              rw [← eM67] at hH
              refine lv_aload_n hx hb dX8_postIt_140 rfl (lv_at hl 1 rfl) ?_
              refine hs_get hx hb (T := TX8) hA inAX8 hown hK hH 20 0 (by decide) 12 rfl rfl 0 (by decide) (hA _ zt_1551) rfl rfl dX8_postIt_141 ?_
              refine lv_iload hx hb dX8_postIt_144 (lv_at hl 0 rfl) ?_
              refine lv_iconst (v := (5 : Int32)) hx hb dX8_postIt_146 (by decide) ?_
              refine lv_iadd hx hb dX8_postIt_147 ?_
              refine lv_iconst (v := (-1 : Int32)) hx hb dX8_postIt_148 (by decide) ?_
              obtain ⟨hg68, hf⟩ := gd_o hf
              have bhg68 := vin_lt hg68
              refine hs_iast hx hb hK hH hS 21 0 (by decide) (fun _ => rfl) hg68 rfl dX8_postIt_149 (fun H locs hH hS => ?_)
              obtain ⟨M69, eM69, hf⟩ := nm_o hf
              rw [← eM69] at hH
              refine lv_aload_n hx hb dX8_postIt_150 rfl (lv_at hl 1 rfl) ?_
              refine hs_get hx hb (T := TX8) hA inAX8 hown hK hH 20 0 (by decide) 12 rfl rfl 0 (by decide) (hA _ zt_1551) rfl rfl dX8_postIt_151 ?_
              refine lv_iload hx hb dX8_postIt_154 (lv_at hl 0 rfl) ?_
              refine lv_bipush (v := (6 : Int32)) hx hb dX8_postIt_156 (by decide) ?_
              refine lv_iadd hx hb dX8_postIt_158 ?_
              refine lv_iconst (v := (0 : Int32)) hx hb dX8_postIt_159 (by decide) ?_
              obtain ⟨hg70, hf⟩ := gd_o hf
              have bhg70 := vin_lt hg70
              refine hs_iast hx hb hK hH hS 21 0 (by decide) (fun _ => rfl) hg70 rfl dX8_postIt_160 (fun H locs hH hS => ?_)
              obtain ⟨M71, eM71, hf⟩ := nm_o hf
              rw [← eM71] at hH
              refine lv_aload_n hx hb dX8_postIt_161 rfl (lv_at hl 1 rfl) ?_
              refine hs_get hx hb (T := TX8) hA inAX8 hown hK hH 20 0 (by decide) 12 rfl rfl 0 (by decide) (hA _ zt_1551) rfl rfl dX8_postIt_162 ?_
              refine lv_iconst (v := (2 : Int32)) hx hb dX8_postIt_165 (by decide) ?_
              refine lv_dup2_11 hx hb dX8_postIt_166 rfl rfl ?_
              refine hs_iald hx hb hK hH 21 0 (by decide) rfl (show vin (2 : Int32) 192 from by decide) (show ix (2 : Int32) = 2 from by decide) dX8_postIt_167 ?_
              refine lv_iconst (v := (1 : Int32)) hx hb dX8_postIt_168 (by decide) ?_
              refine lv_iadd hx hb dX8_postIt_169 ?_
              refine hs_iast hx hb hK hH hS 21 0 (by decide) (fun _ => rfl) (show vin (2 : Int32) 192 from by decide) (show ix (2 : Int32) = 2 from by decide) dX8_postIt_170 (fun H locs hH hS => ?_)
              obtain ⟨M72, eM72, hf⟩ := nm_o hf
              rw [← eM72] at hH
              refine lv_aload_n hx hb dX8_postIt_171 rfl (lv_at hl 1 rfl) ?_
              refine hs_get hx hb (T := TX8) hA inAX8 hown hK hH 20 0 (by decide) 12 rfl rfl 0 (by decide) (hA _ zt_1551) rfl rfl dX8_postIt_172 ?_
              refine lv_iconst (v := (3 : Int32)) hx hb dX8_postIt_175 (by decide) ?_
              refine lv_dup2_11 hx hb dX8_postIt_176 rfl rfl ?_
              refine hs_iald hx hb hK hH 21 0 (by decide) rfl (show vin (3 : Int32) 192 from by decide) (show ix (3 : Int32) = 3 from by decide) dX8_postIt_177 ?_
              refine lv_iconst (v := (1 : Int32)) hx hb dX8_postIt_178 (by decide) ?_
              refine lv_iadd hx hb dX8_postIt_179 ?_
              refine hs_iast hx hb hK hH hS 21 0 (by decide) (fun _ => rfl) (show vin (3 : Int32) 192 from by decide) (show ix (3 : Int32) = 3 from by decide) dX8_postIt_180 (fun H locs hH hS => ?_)
              obtain ⟨M73, eM73, hf⟩ := nm_o hf
              rw [← eM73] at hH
              refine lv_aload_n hx hb dX8_postIt_181 rfl (lv_at hl 1 rfl) ?_
              refine hs_get hx hb (T := TX8) hA inAX8 hown hK hH 20 0 (by decide) 12 rfl rfl 0 (by decide) (hA _ zt_1551) rfl rfl dX8_postIt_182 ?_
              refine lv_iload hx hb dX8_postIt_185 (lv_at hl 0 rfl) ?_
              refine hs_iald hx hb hK hH 21 0 (by decide) rfl hg58 rfl dX8_postIt_187 ?_
              cases hf
              exact hs_iret C0 hH hS (by decide) (by decide) dX8_postIt_188
            · have hf := if_t hf hc77
              refine lv_aload_n hx hb dX8_postIt_69 rfl (lv_at hl 0 rfl) ?_
              refine lv_iconst (v := (3 : Int32)) hx hb dX8_postIt_70 (by decide) ?_
              obtain ⟨r76, M75, hq74, hf⟩ := bd2_o hf
              refine hs_ci (hs_runV C0 hH hS (n := 1) (As := [.int (3 : Int32)]) (rest := []) (c_X8_throwing M (3 : Int32) hq74) ⟨⟨zt_1637, zt_1639, zs_34, zt_13, zt_1640⟩, rfl, by decide, by decide, by decide +kernel⟩ ⟨rfl, rfl, Nat.le_of_ble_eq_true rfl, Nat.le_of_ble_eq_true rfl⟩ (hs_recv hK hH 20 0 (by decide) 12 rfl rfl) rfl rfl hl.1 (Nat.le_of_ble_eq_true rfl) ⟨Nat.le_of_ble_eq_true rfl, Nat.le_of_ble_eq_true rfl⟩ dX8_postIt_71) hS (fun H locs hH hS => ?_)
              cases hf
              exact hs_iret C0 hH hS (by decide) (by decide) dX8_postIt_74
          · have hf := if_t hf hc78
            exact w_X8_postIt_52 C0 M hf _ _ _ hH hS (lv_sub hl [0] rfl)
    · have hf := if_t hf hc81
      exact w_X8_postIt_16 C0 M hf _ _ _ hH hS (lv_sub hl [0] rfl)
def f_X8_post (M : Mem) (a1 : Int32) (a2 : Int32) (a3 : Int32) (a4 : Int32) : Option (Int32 × Mem) := bd (f_X8_starts M) fun M11 => bd2 (f_X8_postIt M11 a1 a2 a3 a4) fun r15 M14 => bd2 (f_X8_changed M14 r15) fun r18 M17 => some (r18, M17)
set_option maxHeartbeats 4000000 in
set_option maxRecDepth 100000 in
theorem c_X8_post {Y : LY} {l : Launch} (M : Mem) (a1 : Int32) (a2 : Int32) (a3 : Int32) (a4 : Int32) {r : Int32} {MZ : Mem} (hf : f_X8_post M a1 a2 a3 a4 = some (r, MZ)) : Met l yX8_post (WS yX8_post cX8_post 5 (Option.some Jvm.ClassFile.FieldType.int)) { frames := 3, cells := 0, slots := 0, locals := 71 } (PcM Y M [.ref (YA Y 20 0), .int a1, .int a2, .int a3, .int a4]) (Qi Y r MZ) 0 0 (AZ Y) := by
  refine met_mk (lv := [(0, .ref (YA Y 20 0)), (1, .int a1), (2, .int a2), (3, .int a3), (4, .int a4)]) [.ref (YA Y 20 0), .int a1, .int a2, .int a3, .int a4] (by decide) rfl rfl (Nat.le_of_ble_eq_true rfl) (fun p e s m below meth c C0 hH ls hl => ?_)
  have hS : va_S (AZ Y) s.heap s.heap [] := va_S.rf
  obtain ⟨hx, hb, hr, hml, hown, hA, hlocks, hK, hZ⟩ := id C0
  unfold f_X8_post at hf
  refine lv_aload_n hx hb dX8_post_0 rfl (lv_at hl 0 rfl) ?_
  obtain ⟨M11, hq10, hf⟩ := bd_o hf
  refine hs_cv (hs_runV C0 hH hS (n := 0) (As := []) (rest := []) (c_X8_starts M hq10) ⟨⟨zt_1629, zt_1631, zs_32, zt_13, zt_1632⟩, rfl, by decide, by decide, by decide +kernel⟩ ⟨rfl, rfl, Nat.le_of_ble_eq_true rfl, Nat.le_of_ble_eq_true rfl⟩ (hs_recv hK hH 20 0 (by decide) 12 rfl rfl) rfl rfl hl.1 (Nat.le_of_ble_eq_true rfl) ⟨Nat.le_of_ble_eq_true rfl, Nat.le_of_ble_eq_true rfl⟩ dX8_post_1) hS (fun H locs hH hS => ?_)
  refine lv_aload_n hx hb dX8_post_4 rfl (lv_at hl 0 rfl) ?_
  refine lv_aload_n hx hb dX8_post_5 rfl (lv_at hl 0 rfl) ?_
  refine lv_iload_n hx hb dX8_post_6 rfl (lv_at hl 1 rfl) ?_
  refine lv_iload_n hx hb dX8_post_7 rfl (lv_at hl 2 rfl) ?_
  refine lv_iload_n hx hb dX8_post_8 rfl (lv_at hl 3 rfl) ?_
  refine lv_iload hx hb dX8_post_9 (lv_at hl 4 rfl) ?_
  obtain ⟨r15, M14, hq13, hf⟩ := bd2_o hf
  refine hs_ci (hs_runV C0 hH hS (n := 4) (As := [.int a1, .int a2, .int a3, .int a4]) (rest := [.ref (YA Y 20 0)]) (c_X8_postIt M11 a1 a2 a3 a4 hq13) ⟨⟨zt_1689, zt_1691, zs_41, zt_13, zt_1692⟩, rfl, by decide, by decide, by decide +kernel⟩ ⟨rfl, rfl, Nat.le_of_ble_eq_true rfl, Nat.le_of_ble_eq_true rfl⟩ (hs_recv hK hH 20 0 (by decide) 12 rfl rfl) rfl rfl hl.1 (Nat.le_of_ble_eq_true rfl) ⟨Nat.le_of_ble_eq_true rfl, Nat.le_of_ble_eq_true rfl⟩ dX8_post_11) hS (fun H locs hH hS => ?_)
  obtain ⟨r18, M17, hq16, hf⟩ := bd2_o hf
  refine hs_ci (hs_runV C0 hH hS (n := 1) (As := [.int r15]) (rest := []) (c_X8_changed M14 r15 hq16) ⟨⟨zt_1641, zt_1643, zs_35, zt_13, zt_1644⟩, rfl, by decide, by decide, by decide +kernel⟩ ⟨rfl, rfl, Nat.le_of_ble_eq_true rfl, Nat.le_of_ble_eq_true rfl⟩ (hs_recv hK hH 20 0 (by decide) 12 rfl rfl) rfl rfl hl.1 (Nat.le_of_ble_eq_true rfl) ⟨Nat.le_of_ble_eq_true rfl, Nat.le_of_ble_eq_true rfl⟩ dX8_post_14) hS (fun H locs hH hS => ?_)
  cases hf
  exact hs_iret C0 hH hS (by decide) (by decide) dX8_post_17
def f_X8_maySend_42 (M : Mem) (a2 : Int32) (a3 : Int32) (b0 : Int32) : Option Int32 := (if b0 = 0 then some (0 : Int32) else if vin (a3 + (3 : Int32)) 192 then ((if (M 21 0 (ix (a3 + (3 : Int32)))) ≤ 0 then some (0 : Int32) else bd (f_X8_isOpen M a2 (M 21 0 4)) fun r21 => (if r21 = 0 then some (0 : Int32) else bd (f_X8_load M a2) fun r23 => if vin (a3 + (2 : Int32)) 192 then ((if (10 : Int32) < (r23 + (M 21 0 (ix (a3 + (2 : Int32))))) then some (0 : Int32) else some (1 : Int32))) else none))) else none)
set_option maxHeartbeats 4000000 in
set_option maxRecDepth 100000 in
theorem w_X8_maySend_42 {Y : LY} {p : Program} {l : Launch} {e : Env} {s : State} {m : MethodId} {args : Array Value} {below : List Frame} {meth : Method} {c : Code} (C0 : BE Y p s m args meth c cX8_maySend 5 (Option.some Jvm.ClassFile.FieldType.boolean) RX8) {r : Int32} (M : Mem) : ∀ (a2 : Int32) (a3 : Int32) (b0 : Int32), f_X8_maySend_42 M a2 a3 b0 = some r → ∀ (H : Heap) (locs : List Loc) (ls : Array Slot), HS Y M H → va_S (AZ Y) s.heap H locs → lv_has ls 5 [(0, .ref (YA Y 20 0)), (2, .int a2), (3, .int a3)] → W p l e { frames := 2, cells := 0, slots := 0, locals := 44 } s m args below meth c H locs 0 0 (MQ below (Qi Y r M) args s 0 0 (AZ Y)) (F0 m 42 ls [.int b0]) := by
  obtain ⟨hx, hb, hr, hml, hown, hA, hlocks, hK, hZ⟩ := id C0
  intro a2 a3 b0 hf H locs ls hH hS hl
  unfold f_X8_maySend_42 at hf
  refine lv_istore (lv' := [(4, .int b0), (0, .ref (YA Y 20 0)), (2, .int a2), (3, .int a3)]) hx hb dX8_maySend_42 hl (by decide) rfl (fun ls hl => ?_)
  refine lv_iload hx hb dX8_maySend_44 (lv_at hl 0 rfl) ?_
  refine lv_if_eq (tgt := 97) hx hb dX8_maySend_46 (by decide) (fun hc28 => ?_) (fun hc28 => ?_)
  · have hf := if_t hf hc28
    refine lv_iconst (v := (0 : Int32)) hx hb dX8_maySend_97 (by decide) ?_
    cases hf
    exact hs_zret C0 hH hS (by decide) (by decide) (by decide) dX8_maySend_98
  · have hf := if_f hf hc28
    refine lv_aload_n hx hb dX8_maySend_49 rfl (lv_at hl 1 rfl) ?_
    refine hs_get hx hb (T := TX8) hA inAX8 hown hK hH 20 0 (by decide) 12 rfl rfl 0 (by decide) (hA _ zt_1551) rfl rfl dX8_maySend_50 ?_
    refine lv_iload_n hx hb dX8_maySend_53 rfl (lv_at hl 3 rfl) ?_
    refine lv_iconst (v := (3 : Int32)) hx hb dX8_maySend_54 (by decide) ?_
    refine lv_iadd hx hb dX8_maySend_55 ?_
    obtain ⟨hg19, hf⟩ := gd_o hf
    have bhg19 := vin_lt hg19
    refine hs_iald hx hb hK hH 21 0 (by decide) rfl hg19 rfl dX8_maySend_56 ?_
    refine lv_if_le (tgt := 97) hx hb dX8_maySend_57 (by decide) (fun hc27 => ?_) (fun hc27 => ?_)
    · have hf := if_t hf hc27
      refine lv_iconst (v := (0 : Int32)) hx hb dX8_maySend_97 (by decide) ?_
      cases hf
      exact hs_zret C0 hH hS (by decide) (by decide) (by decide) dX8_maySend_98
    · have hf := if_f hf hc27
      refine lv_aload_n hx hb dX8_maySend_60 rfl (lv_at hl 1 rfl) ?_
      refine lv_iload_n hx hb dX8_maySend_61 rfl (lv_at hl 2 rfl) ?_
      refine lv_aload_n hx hb dX8_maySend_62 rfl (lv_at hl 1 rfl) ?_
      refine hs_get hx hb (T := TX8) hA inAX8 hown hK hH 20 0 (by decide) 12 rfl rfl 0 (by decide) (hA _ zt_1551) rfl rfl dX8_maySend_63 ?_
      refine lv_iconst (v := (4 : Int32)) hx hb dX8_maySend_66 (by decide) ?_
      refine hs_iald hx hb hK hH 21 0 (by decide) rfl (show vin (4 : Int32) 192 from by decide) (show ix (4 : Int32) = 4 from by decide) dX8_maySend_67 ?_
      obtain ⟨r21, hq20, hf⟩ := bd_o hf
      refine hs_ci (hs_runV C0 hH hS (n := 2) (As := [.int a2, .int (M 21 0 4)]) (rest := []) (c_X8_isOpen M a2 (M 21 0 4) hq20) ⟨⟨zt_1713, zt_1715, zs_45, zt_13, zt_1716⟩, rfl, by decide, by decide, by decide +kernel⟩ ⟨rfl, rfl, Nat.le_of_ble_eq_true rfl, Nat.le_of_ble_eq_true rfl⟩ (hs_recv hK hH 20 0 (by decide) 12 rfl rfl) rfl rfl hl.1 (Nat.le_of_ble_eq_true rfl) ⟨Nat.le_of_ble_eq_true rfl, Nat.le_of_ble_eq_true rfl⟩ dX8_maySend_68) hS (fun H locs hH hS => ?_)
      refine lv_if_eq (tgt := 97) hx hb dX8_maySend_71 (by decide) (fun hc26 => ?_) (fun hc26 => ?_)
      · have hf := if_t hf hc26
        refine lv_iconst (v := (0 : Int32)) hx hb dX8_maySend_97 (by decide) ?_
        cases hf
        exact hs_zret C0 hH hS (by decide) (by decide) (by decide) dX8_maySend_98
      · have hf := if_f hf hc26
        refine lv_aload_n hx hb dX8_maySend_74 rfl (lv_at hl 1 rfl) ?_
        refine lv_iload_n hx hb dX8_maySend_75 rfl (lv_at hl 2 rfl) ?_
        obtain ⟨r23, hq22, hf⟩ := bd_o hf
        refine hs_ci (hs_runV C0 hH hS (n := 1) (As := [.int a2]) (rest := []) (c_X8_load M a2 hq22) ⟨⟨zt_1717, zt_1719, zs_46, zt_13, zt_1720⟩, rfl, by decide, by decide, by decide +kernel⟩ ⟨rfl, rfl, Nat.le_of_ble_eq_true rfl, Nat.le_of_ble_eq_true rfl⟩ (hs_recv hK hH 20 0 (by decide) 12 rfl rfl) rfl rfl hl.1 (Nat.le_of_ble_eq_true rfl) ⟨Nat.le_of_ble_eq_true rfl, Nat.le_of_ble_eq_true rfl⟩ dX8_maySend_76) hS (fun H locs hH hS => ?_)
        refine lv_aload_n hx hb dX8_maySend_79 rfl (lv_at hl 1 rfl) ?_
        refine hs_get hx hb (T := TX8) hA inAX8 hown hK hH 20 0 (by decide) 12 rfl rfl 0 (by decide) (hA _ zt_1551) rfl rfl dX8_maySend_80 ?_
        refine lv_iload_n hx hb dX8_maySend_83 rfl (lv_at hl 3 rfl) ?_
        refine lv_iconst (v := (2 : Int32)) hx hb dX8_maySend_84 (by decide) ?_
        refine lv_iadd hx hb dX8_maySend_85 ?_
        obtain ⟨hg24, hf⟩ := gd_o hf
        have bhg24 := vin_lt hg24
        refine hs_iald hx hb hK hH 21 0 (by decide) rfl hg24 rfl dX8_maySend_86 ?_
        refine lv_iadd hx hb dX8_maySend_87 ?_
        refine lv_bipush (v := (10 : Int32)) hx hb dX8_maySend_88 (by decide) ?_
        refine lv_icmp_gt (tgt := 97) hx hb dX8_maySend_90 (by decide) (fun hc25 => ?_) (fun hc25 => ?_)
        · have hf := if_t hf hc25
          refine lv_iconst (v := (0 : Int32)) hx hb dX8_maySend_97 (by decide) ?_
          cases hf
          exact hs_zret C0 hH hS (by decide) (by decide) (by decide) dX8_maySend_98
        · have hf := if_f hf hc25
          refine lv_iconst (v := (1 : Int32)) hx hb dX8_maySend_93 (by decide) ?_
          refine lv_goto (tgt := 98) hx hb dX8_maySend_94 (by decide) ?_
          cases hf
          exact hs_zret C0 hH hS (by decide) (by decide) (by decide) dX8_maySend_98
def f_X8_maySend_41 (M : Mem) (a2 : Int32) (a3 : Int32) : Option Int32 := f_X8_maySend_42 M a2 a3 (0 : Int32)
set_option maxHeartbeats 4000000 in
set_option maxRecDepth 100000 in
theorem w_X8_maySend_41 {Y : LY} {p : Program} {l : Launch} {e : Env} {s : State} {m : MethodId} {args : Array Value} {below : List Frame} {meth : Method} {c : Code} (C0 : BE Y p s m args meth c cX8_maySend 5 (Option.some Jvm.ClassFile.FieldType.boolean) RX8) {r : Int32} (M : Mem) : ∀ (a2 : Int32) (a3 : Int32), f_X8_maySend_41 M a2 a3 = some r → ∀ (H : Heap) (locs : List Loc) (ls : Array Slot), HS Y M H → va_S (AZ Y) s.heap H locs → lv_has ls 5 [(0, .ref (YA Y 20 0)), (2, .int a2), (3, .int a3)] → W p l e { frames := 2, cells := 0, slots := 0, locals := 44 } s m args below meth c H locs 0 0 (MQ below (Qi Y r M) args s 0 0 (AZ Y)) (F0 m 41 ls []) := by
  obtain ⟨hx, hb, hr, hml, hown, hA, hlocks, hK, hZ⟩ := id C0
  intro a2 a3 hf H locs ls hH hS hl
  unfold f_X8_maySend_41 at hf
  refine lv_iconst (v := (0 : Int32)) hx hb dX8_maySend_41 (by decide) ?_
  exact w_X8_maySend_42 C0 M a2 a3 (0 : Int32) hf _ _ _ hH hS (lv_sub hl [0, 1, 2] rfl)
def f_X8_maySend (M : Mem) (a1 : Int32) (a2 : Int32) : Option Int32 := bd (f_X8_parcelAt M a1) fun r30 => if vin (r30 + (4 : Int32)) 192 then ((if (M 21 0 (ix (r30 + (4 : Int32)))) = (-1 : Int32) then f_X8_maySend_41 M a2 r30 else bd (f_X8_linkAt M a2) fun r33 => if vin r33 192 then ((if (M 21 0 (ix (r30 + (4 : Int32)))) = (M 21 0 (ix r33)) then f_X8_maySend_42 M a2 r30 (1 : Int32) else f_X8_maySend_41 M a2 r30)) else none)) else none
set_option maxHeartbeats 4000000 in
set_option maxRecDepth 100000 in
theorem c_X8_maySend {Y : LY} {l : Launch} (M : Mem) (a1 : Int32) (a2 : Int32) {r : Int32} (hf : f_X8_maySend M a1 a2 = some r) : Met l yX8_maySend (WS yX8_maySend cX8_maySend 5 (Option.some Jvm.ClassFile.FieldType.boolean)) { frames := 2, cells := 0, slots := 0, locals := 44 } (PcM Y M [.ref (YA Y 20 0), .int a1, .int a2]) (Qi Y r M) 0 0 (AZ Y) := by
  refine met_mk (lv := [(0, .ref (YA Y 20 0)), (1, .int a1), (2, .int a2)]) [.ref (YA Y 20 0), .int a1, .int a2] (by decide) rfl rfl (Nat.le_of_ble_eq_true rfl) (fun p e s m below meth c C0 hH ls hl => ?_)
  have hS : va_S (AZ Y) s.heap s.heap [] := va_S.rf
  obtain ⟨hx, hb, hr, hml, hown, hA, hlocks, hK, hZ⟩ := id C0
  unfold f_X8_maySend at hf
  refine lv_iload_n hx hb dX8_maySend_0 rfl (lv_at hl 1 rfl) ?_
  obtain ⟨r30, hq29, hf⟩ := bd_o hf
  refine hs_ci (hs_runS C0 hH hS (n := 1) (As := [.int a1]) (rest := []) (c_X8_parcelAt M a1 hq29) ⟨⟨zt_1694, zt_1695, zt_13, zt_1696⟩, by decide, by decide, by decide +kernel⟩ ⟨rfl, rfl, Nat.le_of_ble_eq_true rfl, Nat.le_of_ble_eq_true rfl⟩ rfl rfl hl.1 (Nat.le_of_ble_eq_true rfl) ⟨Nat.le_of_ble_eq_true rfl, Nat.le_of_ble_eq_true rfl⟩ dX8_maySend_1) hS (fun H locs hH hS => ?_)
  refine lv_istore_n (lv' := [(3, .int r30), (0, .ref (YA Y 20 0)), (1, .int a1), (2, .int a2)]) hx hb dX8_maySend_4 rfl hl (by decide) rfl (fun ls hl => ?_)
  refine lv_aload_n hx hb dX8_maySend_5 rfl (lv_at hl 1 rfl) ?_
  refine hs_get hx hb (T := TX8) hA inAX8 hown hK hH 20 0 (by decide) 12 rfl rfl 0 (by decide) (hA _ zt_1551) rfl rfl dX8_maySend_6 ?_
  refine lv_iload_n hx hb dX8_maySend_9 rfl (lv_at hl 0 rfl) ?_
  refine lv_iconst (v := (4 : Int32)) hx hb dX8_maySend_10 (by decide) ?_
  refine lv_iadd hx hb dX8_maySend_11 ?_
  obtain ⟨hg31, hf⟩ := gd_o hf
  have bhg31 := vin_lt hg31
  refine hs_iald hx hb hK hH 21 0 (by decide) rfl hg31 rfl dX8_maySend_12 ?_
  refine lv_iconst (v := (-1 : Int32)) hx hb dX8_maySend_13 (by decide) ?_
  refine lv_icmp_eq (tgt := 41) hx hb dX8_maySend_14 (by decide) (fun hc36 => ?_) (fun hc36 => ?_)
  · have hf := if_t hf hc36
    exact w_X8_maySend_41 C0 M a2 r30 hf _ _ _ hH hS (lv_sub hl [1, 3, 0] rfl)
  · have hf := if_f hf hc36
    refine lv_aload_n hx hb dX8_maySend_17 rfl (lv_at hl 1 rfl) ?_
    refine hs_get hx hb (T := TX8) hA inAX8 hown hK hH 20 0 (by decide) 12 rfl rfl 0 (by decide) (hA _ zt_1551) rfl rfl dX8_maySend_18 ?_
    refine lv_iload_n hx hb dX8_maySend_21 rfl (lv_at hl 0 rfl) ?_
    refine lv_iconst (v := (4 : Int32)) hx hb dX8_maySend_22 (by decide) ?_
    refine lv_iadd hx hb dX8_maySend_23 ?_
    refine hs_iald hx hb hK hH 21 0 (by decide) rfl hg31 rfl dX8_maySend_24 ?_
    refine lv_aload_n hx hb dX8_maySend_25 rfl (lv_at hl 1 rfl) ?_
    refine hs_get hx hb (T := TX8) hA inAX8 hown hK hH 20 0 (by decide) 12 rfl rfl 0 (by decide) (hA _ zt_1551) rfl rfl dX8_maySend_26 ?_
    refine lv_iload_n hx hb dX8_maySend_29 rfl (lv_at hl 3 rfl) ?_
    obtain ⟨r33, hq32, hf⟩ := bd_o hf
    refine hs_ci (hs_runS C0 hH hS (n := 1) (As := [.int a2]) (rest := [.ref (YA Y 21 0), .int (M 21 0 (ix (r30 + (4 : Int32))))]) (c_X8_linkAt M a2 hq32) ⟨⟨zt_1662, zt_1663, zt_13, zt_1664⟩, by decide, by decide, by decide +kernel⟩ ⟨rfl, rfl, Nat.le_of_ble_eq_true rfl, Nat.le_of_ble_eq_true rfl⟩ rfl rfl hl.1 (Nat.le_of_ble_eq_true rfl) ⟨Nat.le_of_ble_eq_true rfl, Nat.le_of_ble_eq_true rfl⟩ dX8_maySend_30) hS (fun H locs hH hS => ?_)
    obtain ⟨hg34, hf⟩ := gd_o hf
    have bhg34 := vin_lt hg34
    refine hs_iald hx hb hK hH 21 0 (by decide) rfl hg34 rfl dX8_maySend_33 ?_
    refine lv_icmp_ne (tgt := 41) hx hb dX8_maySend_34 (by decide) (fun hc35 => ?_) (fun hc35 => ?_)
    · have hf := if_f hf hc35
      exact w_X8_maySend_41 C0 M a2 r30 hf _ _ _ hH hS (lv_sub hl [1, 3, 0] rfl)
    · have hf := if_t hf hc35
      refine lv_iconst (v := (1 : Int32)) hx hb dX8_maySend_37 (by decide) ?_
      refine lv_goto (tgt := 42) hx hb dX8_maySend_38 (by decide) ?_
      exact w_X8_maySend_42 C0 M a2 r30 (1 : Int32) hf _ _ _ hH hS (lv_sub hl [1, 3, 0] rfl)
def f_X8_sends (M : Mem) (a1 : Int32) (a2 : Int32) : Option (Int32 × Mem) := bd (f_X8_parcelAt M a1) fun r16 => if vin (r16 + (3 : Int32)) 192 then (nm (mu M 21 0 (ix (r16 + (3 : Int32))) ((M 21 0 (ix (r16 + (3 : Int32)))) - (1 : Int32))) fun M18 => nm (mu M18 21 0 7 ((M18 21 0 7) + (1 : Int32))) fun M19 => if vin (r16 + (4 : Int32)) 192 then (nm (mu M19 21 0 (ix (r16 + (4 : Int32))) (-1 : Int32)) fun M21 => if vin (r16 + (5 : Int32)) 192 then (nm (mu M21 21 0 (ix (r16 + (5 : Int32))) a2) fun M23 => bd (f_X8_linkAt M23 a2) fun r25 => if vin (r25 + (2 : Int32)) 192 then (if vin (r16 + (6 : Int32)) 192 then (nm (mu M23 21 0 (ix (r16 + (6 : Int32))) ((M23 21 0 4) + (M23 21 0 (ix (r25 + (2 : Int32)))))) fun M28 => some ((M28 21 0 (ix (r16 + (6 : Int32)))), M28)) else none) else none) else none) else none) else none
set_option maxHeartbeats 4000000 in
set_option maxRecDepth 100000 in
theorem c_X8_sends {Y : LY} {l : Launch} (M : Mem) (a1 : Int32) (a2 : Int32) {r : Int32} {MZ : Mem} (hf : f_X8_sends M a1 a2 = some (r, MZ)) : Met l yX8_sends (WS yX8_sends cX8_sends 4 (Option.some Jvm.ClassFile.FieldType.int)) { frames := 1, cells := 0, slots := 0, locals := 20 } (PcM Y M [.ref (YA Y 20 0), .int a1, .int a2]) (Qi Y r MZ) 0 0 (AZ Y) := by
  refine met_mk (lv := [(0, .ref (YA Y 20 0)), (1, .int a1), (2, .int a2)]) [.ref (YA Y 20 0), .int a1, .int a2] (by decide) rfl rfl (Nat.le_of_ble_eq_true rfl) (fun p e s m below meth c C0 hH ls hl => ?_)
  have hS : va_S (AZ Y) s.heap s.heap [] := va_S.rf
  obtain ⟨hx, hb, hr, hml, hown, hA, hlocks, hK, hZ⟩ := id C0
  unfold f_X8_sends at hf
  refine lv_iload_n hx hb dX8_sends_0 rfl (lv_at hl 1 rfl) ?_
  obtain ⟨r16, hq15, hf⟩ := bd_o hf
  refine hs_ci (hs_runS C0 hH hS (n := 1) (As := [.int a1]) (rest := []) (c_X8_parcelAt M a1 hq15) ⟨⟨zt_1694, zt_1695, zt_13, zt_1696⟩, by decide, by decide, by decide +kernel⟩ ⟨rfl, rfl, Nat.le_of_ble_eq_true rfl, Nat.le_of_ble_eq_true rfl⟩ rfl rfl hl.1 (Nat.le_of_ble_eq_true rfl) ⟨Nat.le_of_ble_eq_true rfl, Nat.le_of_ble_eq_true rfl⟩ dX8_sends_1) hS (fun H locs hH hS => ?_)
  refine lv_istore_n (lv' := [(3, .int r16), (0, .ref (YA Y 20 0)), (1, .int a1), (2, .int a2)]) hx hb dX8_sends_4 rfl hl (by decide) rfl (fun ls hl => ?_)
  refine lv_aload_n hx hb dX8_sends_5 rfl (lv_at hl 1 rfl) ?_
  refine hs_get hx hb (T := TX8) hA inAX8 hown hK hH 20 0 (by decide) 12 rfl rfl 0 (by decide) (hA _ zt_1551) rfl rfl dX8_sends_6 ?_
  refine lv_iload_n hx hb dX8_sends_9 rfl (lv_at hl 0 rfl) ?_
  refine lv_iconst (v := (3 : Int32)) hx hb dX8_sends_10 (by decide) ?_
  refine lv_iadd hx hb dX8_sends_11 ?_
  refine lv_dup2_11 hx hb dX8_sends_12 rfl rfl ?_
  obtain ⟨hg17, hf⟩ := gd_o hf
  have bhg17 := vin_lt hg17
  refine hs_iald hx hb hK hH 21 0 (by decide) rfl hg17 rfl dX8_sends_13 ?_
  refine lv_iconst (v := (1 : Int32)) hx hb dX8_sends_14 (by decide) ?_
  refine lv_isub hx hb dX8_sends_15 ?_
  refine hs_iast hx hb hK hH hS 21 0 (by decide) (fun _ => rfl) hg17 rfl dX8_sends_16 (fun H locs hH hS => ?_)
  obtain ⟨M18, eM18, hf⟩ := nm_o hf
  rw [← eM18] at hH
  refine lv_aload_n hx hb dX8_sends_17 rfl (lv_at hl 1 rfl) ?_
  refine hs_get hx hb (T := TX8) hA inAX8 hown hK hH 20 0 (by decide) 12 rfl rfl 0 (by decide) (hA _ zt_1551) rfl rfl dX8_sends_18 ?_
  refine lv_bipush (v := (7 : Int32)) hx hb dX8_sends_21 (by decide) ?_
  refine lv_dup2_11 hx hb dX8_sends_23 rfl rfl ?_
  refine hs_iald hx hb hK hH 21 0 (by decide) rfl (show vin (7 : Int32) 192 from by decide) (show ix (7 : Int32) = 7 from by decide) dX8_sends_24 ?_
  refine lv_iconst (v := (1 : Int32)) hx hb dX8_sends_25 (by decide) ?_
  refine lv_iadd hx hb dX8_sends_26 ?_
  refine hs_iast hx hb hK hH hS 21 0 (by decide) (fun _ => rfl) (show vin (7 : Int32) 192 from by decide) (show ix (7 : Int32) = 7 from by decide) dX8_sends_27 (fun H locs hH hS => ?_)
  obtain ⟨M19, eM19, hf⟩ := nm_o hf
  rw [← eM19] at hH
  refine lv_aload_n hx hb dX8_sends_28 rfl (lv_at hl 1 rfl) ?_
  refine hs_get hx hb (T := TX8) hA inAX8 hown hK hH 20 0 (by decide) 12 rfl rfl 0 (by decide) (hA _ zt_1551) rfl rfl dX8_sends_29 ?_
  refine lv_iload_n hx hb dX8_sends_32 rfl (lv_at hl 0 rfl) ?_
  refine lv_iconst (v := (4 : Int32)) hx hb dX8_sends_33 (by decide) ?_
  refine lv_iadd hx hb dX8_sends_34 ?_
  refine lv_iconst (v := (-1 : Int32)) hx hb dX8_sends_35 (by decide) ?_
  obtain ⟨hg20, hf⟩ := gd_o hf
  have bhg20 := vin_lt hg20
  refine hs_iast hx hb hK hH hS 21 0 (by decide) (fun _ => rfl) hg20 rfl dX8_sends_36 (fun H locs hH hS => ?_)
  obtain ⟨M21, eM21, hf⟩ := nm_o hf
  rw [← eM21] at hH
  refine lv_aload_n hx hb dX8_sends_37 rfl (lv_at hl 1 rfl) ?_
  refine hs_get hx hb (T := TX8) hA inAX8 hown hK hH 20 0 (by decide) 12 rfl rfl 0 (by decide) (hA _ zt_1551) rfl rfl dX8_sends_38 ?_
  refine lv_iload_n hx hb dX8_sends_41 rfl (lv_at hl 0 rfl) ?_
  refine lv_iconst (v := (5 : Int32)) hx hb dX8_sends_42 (by decide) ?_
  refine lv_iadd hx hb dX8_sends_43 ?_
  refine lv_iload_n hx hb dX8_sends_44 rfl (lv_at hl 3 rfl) ?_
  obtain ⟨hg22, hf⟩ := gd_o hf
  have bhg22 := vin_lt hg22
  refine hs_iast hx hb hK hH hS 21 0 (by decide) (fun _ => rfl) hg22 rfl dX8_sends_45 (fun H locs hH hS => ?_)
  obtain ⟨M23, eM23, hf⟩ := nm_o hf
  rw [← eM23] at hH
  refine lv_aload_n hx hb dX8_sends_46 rfl (lv_at hl 1 rfl) ?_
  refine hs_get hx hb (T := TX8) hA inAX8 hown hK hH 20 0 (by decide) 12 rfl rfl 0 (by decide) (hA _ zt_1551) rfl rfl dX8_sends_47 ?_
  refine lv_iload_n hx hb dX8_sends_50 rfl (lv_at hl 0 rfl) ?_
  refine lv_bipush (v := (6 : Int32)) hx hb dX8_sends_51 (by decide) ?_
  refine lv_iadd hx hb dX8_sends_53 ?_
  refine lv_aload_n hx hb dX8_sends_54 rfl (lv_at hl 1 rfl) ?_
  refine hs_get hx hb (T := TX8) hA inAX8 hown hK hH 20 0 (by decide) 12 rfl rfl 0 (by decide) (hA _ zt_1551) rfl rfl dX8_sends_55 ?_
  refine lv_iconst (v := (4 : Int32)) hx hb dX8_sends_58 (by decide) ?_
  refine hs_iald hx hb hK hH 21 0 (by decide) rfl (show vin (4 : Int32) 192 from by decide) (show ix (4 : Int32) = 4 from by decide) dX8_sends_59 ?_
  refine lv_aload_n hx hb dX8_sends_60 rfl (lv_at hl 1 rfl) ?_
  refine hs_get hx hb (T := TX8) hA inAX8 hown hK hH 20 0 (by decide) 12 rfl rfl 0 (by decide) (hA _ zt_1551) rfl rfl dX8_sends_61 ?_
  refine lv_iload_n hx hb dX8_sends_64 rfl (lv_at hl 3 rfl) ?_
  obtain ⟨r25, hq24, hf⟩ := bd_o hf
  refine hs_ci (hs_runS C0 hH hS (n := 1) (As := [.int a2]) (rest := [.ref (YA Y 21 0), .int (M23 21 0 4), .int (r16 + (6 : Int32)), .ref (YA Y 21 0)]) (c_X8_linkAt M23 a2 hq24) ⟨⟨zt_1662, zt_1663, zt_13, zt_1664⟩, by decide, by decide, by decide +kernel⟩ ⟨rfl, rfl, Nat.le_of_ble_eq_true rfl, Nat.le_of_ble_eq_true rfl⟩ rfl rfl hl.1 (Nat.le_of_ble_eq_true rfl) ⟨Nat.le_of_ble_eq_true rfl, Nat.le_of_ble_eq_true rfl⟩ dX8_sends_65) hS (fun H locs hH hS => ?_)
  refine lv_iconst (v := (2 : Int32)) hx hb dX8_sends_68 (by decide) ?_
  refine lv_iadd hx hb dX8_sends_69 ?_
  obtain ⟨hg26, hf⟩ := gd_o hf
  have bhg26 := vin_lt hg26
  refine hs_iald hx hb hK hH 21 0 (by decide) rfl hg26 rfl dX8_sends_70 ?_
  refine lv_iadd hx hb dX8_sends_71 ?_
  obtain ⟨hg27, hf⟩ := gd_o hf
  have bhg27 := vin_lt hg27
  refine hs_iast hx hb hK hH hS 21 0 (by decide) (fun _ => rfl) hg27 rfl dX8_sends_72 (fun H locs hH hS => ?_)
  obtain ⟨M28, eM28, hf⟩ := nm_o hf
  rw [← eM28] at hH
  refine lv_aload_n hx hb dX8_sends_73 rfl (lv_at hl 1 rfl) ?_
  refine hs_get hx hb (T := TX8) hA inAX8 hown hK hH 20 0 (by decide) 12 rfl rfl 0 (by decide) (hA _ zt_1551) rfl rfl dX8_sends_74 ?_
  refine lv_iload_n hx hb dX8_sends_77 rfl (lv_at hl 0 rfl) ?_
  refine lv_bipush (v := (6 : Int32)) hx hb dX8_sends_78 (by decide) ?_
  refine lv_iadd hx hb dX8_sends_80 ?_
  refine hs_iald hx hb hK hH 21 0 (by decide) rfl hg27 rfl dX8_sends_81 ?_
  cases hf
  exact hs_iret C0 hH hS (by decide) (by decide) dX8_sends_82
def f_X8_sendIt (M : Mem) (a1 : Int32) (a2 : Int32) : Option (Int32 × Mem) := bd (f_X8_find M a1) fun r23 => (if r23 = (-1 : Int32) then bd2 (f_X8_throwing M (1 : Int32)) fun r41 M40 => some (r41, M40) else bd (f_X8_isLink M a2) fun r25 => (if r25 = 0 then bd2 (f_X8_throwing M (2 : Int32)) fun r37 M36 => some (r37, M36) else bd (f_X8_maySend M r23 a2) fun r27 => (if r27 = 0 then bd2 (f_X8_throwing M (3 : Int32)) fun r30 M29 => some (r30, M29) else bd2 (f_X8_sends M r23 a2) fun r33 M32 => some (r33, M32))))
set_option maxHeartbeats 4000000 in
set_option maxRecDepth 100000 in
theorem c_X8_sendIt {Y : LY} {l : Launch} (M : Mem) (a1 : Int32) (a2 : Int32) {r : Int32} {MZ : Mem} (hf : f_X8_sendIt M a1 a2 = some (r, MZ)) : Met l yX8_sendIt (WS yX8_sendIt cX8_sendIt 4 (Option.some Jvm.ClassFile.FieldType.int)) { frames := 3, cells := 0, slots := 0, locals := 68 } (PcM Y M [.ref (YA Y 20 0), .int a1, .int a2]) (Qi Y r MZ) 0 0 (AZ Y) := by
  refine met_mk (lv := [(0, .ref (YA Y 20 0)), (1, .int a1), (2, .int a2)]) [.ref (YA Y 20 0), .int a1, .int a2] (by decide) rfl rfl (Nat.le_of_ble_eq_true rfl) (fun p e s m below meth c C0 hH ls hl => ?_)
  have hS : va_S (AZ Y) s.heap s.heap [] := va_S.rf
  obtain ⟨hx, hb, hr, hml, hown, hA, hlocks, hK, hZ⟩ := id C0
  unfold f_X8_sendIt at hf
  refine lv_aload_n hx hb dX8_sendIt_0 rfl (lv_at hl 0 rfl) ?_
  refine lv_iload_n hx hb dX8_sendIt_1 rfl (lv_at hl 1 rfl) ?_
  obtain ⟨r23, hq22, hf⟩ := bd_o hf
  refine hs_ci (hs_runV C0 hH hS (n := 1) (As := [.int a1]) (rest := []) (c_X8_find M a1 hq22) ⟨⟨zt_1705, zt_1707, zs_43, zt_13, zt_1708⟩, rfl, by decide, by decide, by decide +kernel⟩ ⟨rfl, rfl, Nat.le_of_ble_eq_true rfl, Nat.le_of_ble_eq_true rfl⟩ (hs_recv hK hH 20 0 (by decide) 12 rfl rfl) rfl rfl hl.1 (Nat.le_of_ble_eq_true rfl) ⟨Nat.le_of_ble_eq_true rfl, Nat.le_of_ble_eq_true rfl⟩ dX8_sendIt_2) hS (fun H locs hH hS => ?_)
  refine lv_istore_n (lv' := [(3, .int r23), (0, .ref (YA Y 20 0)), (1, .int a1), (2, .int a2)]) hx hb dX8_sendIt_5 rfl hl (by decide) rfl (fun ls hl => ?_)
  refine lv_iload_n hx hb dX8_sendIt_6 rfl (lv_at hl 0 rfl) ?_
  refine lv_iconst (v := (-1 : Int32)) hx hb dX8_sendIt_7 (by decide) ?_
  refine lv_icmp_ne (tgt := 17) hx hb dX8_sendIt_8 (by decide) (fun hc42 => ?_) (fun hc42 => ?_)
  · have hf := if_f hf hc42
    refine lv_aload_n hx hb dX8_sendIt_17 rfl (lv_at hl 1 rfl) ?_
    refine lv_iload_n hx hb dX8_sendIt_18 rfl (lv_at hl 3 rfl) ?_
    obtain ⟨r25, hq24, hf⟩ := bd_o hf
    refine hs_ci (hs_runV C0 hH hS (n := 1) (As := [.int a2]) (rest := []) (c_X8_isLink M a2 hq24) ⟨⟨zt_1673, zt_1675, zs_39, zt_13, zt_1676⟩, rfl, by decide, by decide, by decide +kernel⟩ ⟨rfl, rfl, Nat.le_of_ble_eq_true rfl, Nat.le_of_ble_eq_true rfl⟩ (hs_recv hK hH 20 0 (by decide) 12 rfl rfl) rfl rfl hl.1 (Nat.le_of_ble_eq_true rfl) ⟨Nat.le_of_ble_eq_true rfl, Nat.le_of_ble_eq_true rfl⟩ dX8_sendIt_19) hS (fun H locs hH hS => ?_)
    refine lv_if_ne (tgt := 31) hx hb dX8_sendIt_22 (by decide) (fun hc38 => ?_) (fun hc38 => ?_)
    · have hf := if_f hf hc38
      refine lv_aload_n hx hb dX8_sendIt_31 rfl (lv_at hl 1 rfl) ?_
      refine lv_iload_n hx hb dX8_sendIt_32 rfl (lv_at hl 0 rfl) ?_
      refine lv_iload_n hx hb dX8_sendIt_33 rfl (lv_at hl 3 rfl) ?_
      obtain ⟨r27, hq26, hf⟩ := bd_o hf
      refine hs_ci (hs_runV C0 hH hS (n := 2) (As := [.int r23, .int a2]) (rest := []) (c_X8_maySend M r23 a2 hq26) ⟨⟨zt_1709, zt_1711, zs_44, zt_13, zt_1712⟩, rfl, by decide, by decide, by decide +kernel⟩ ⟨rfl, rfl, Nat.le_of_ble_eq_true rfl, Nat.le_of_ble_eq_true rfl⟩ (hs_recv hK hH 20 0 (by decide) 12 rfl rfl) rfl rfl hl.1 (Nat.le_of_ble_eq_true rfl) ⟨Nat.le_of_ble_eq_true rfl, Nat.le_of_ble_eq_true rfl⟩ dX8_sendIt_34) hS (fun H locs hH hS => ?_)
      refine lv_if_eq (tgt := 49) hx hb dX8_sendIt_37 (by decide) (fun hc34 => ?_) (fun hc34 => ?_)
      · have hf := if_t hf hc34
        refine lv_aload_n hx hb dX8_sendIt_49 rfl (lv_at hl 1 rfl) ?_
        refine lv_iconst (v := (3 : Int32)) hx hb dX8_sendIt_50 (by decide) ?_
        obtain ⟨r30, M29, hq28, hf⟩ := bd2_o hf
        refine hs_ci (hs_runV C0 hH hS (n := 1) (As := [.int (3 : Int32)]) (rest := []) (c_X8_throwing M (3 : Int32) hq28) ⟨⟨zt_1637, zt_1639, zs_34, zt_13, zt_1640⟩, rfl, by decide, by decide, by decide +kernel⟩ ⟨rfl, rfl, Nat.le_of_ble_eq_true rfl, Nat.le_of_ble_eq_true rfl⟩ (hs_recv hK hH 20 0 (by decide) 12 rfl rfl) rfl rfl hl.1 (Nat.le_of_ble_eq_true rfl) ⟨Nat.le_of_ble_eq_true rfl, Nat.le_of_ble_eq_true rfl⟩ dX8_sendIt_51) hS (fun H locs hH hS => ?_)
        cases hf
        exact hs_iret C0 hH hS (by decide) (by decide) dX8_sendIt_54
      · have hf := if_f hf hc34
        refine lv_aload_n hx hb dX8_sendIt_40 rfl (lv_at hl 1 rfl) ?_
        refine lv_iload_n hx hb dX8_sendIt_41 rfl (lv_at hl 0 rfl) ?_
        refine lv_iload_n hx hb dX8_sendIt_42 rfl (lv_at hl 3 rfl) ?_
        obtain ⟨r33, M32, hq31, hf⟩ := bd2_o hf
        refine hs_ci (hs_runV C0 hH hS (n := 2) (As := [.int r23, .int a2]) (rest := []) (c_X8_sends M r23 a2 hq31) ⟨⟨zt_1721, zt_1723, zs_47, zt_13, zt_1724⟩, rfl, by decide, by decide, by decide +kernel⟩ ⟨rfl, rfl, Nat.le_of_ble_eq_true rfl, Nat.le_of_ble_eq_true rfl⟩ (hs_recv hK hH 20 0 (by decide) 12 rfl rfl) rfl rfl hl.1 (Nat.le_of_ble_eq_true rfl) ⟨Nat.le_of_ble_eq_true rfl, Nat.le_of_ble_eq_true rfl⟩ dX8_sendIt_43) hS (fun H locs hH hS => ?_)
        refine lv_goto (tgt := 54) hx hb dX8_sendIt_46 (by decide) ?_
        cases hf
        exact hs_iret C0 hH hS (by decide) (by decide) dX8_sendIt_54
    · have hf := if_t hf hc38
      refine lv_aload_n hx hb dX8_sendIt_25 rfl (lv_at hl 1 rfl) ?_
      refine lv_iconst (v := (2 : Int32)) hx hb dX8_sendIt_26 (by decide) ?_
      obtain ⟨r37, M36, hq35, hf⟩ := bd2_o hf
      refine hs_ci (hs_runV C0 hH hS (n := 1) (As := [.int (2 : Int32)]) (rest := []) (c_X8_throwing M (2 : Int32) hq35) ⟨⟨zt_1637, zt_1639, zs_34, zt_13, zt_1640⟩, rfl, by decide, by decide, by decide +kernel⟩ ⟨rfl, rfl, Nat.le_of_ble_eq_true rfl, Nat.le_of_ble_eq_true rfl⟩ (hs_recv hK hH 20 0 (by decide) 12 rfl rfl) rfl rfl hl.1 (Nat.le_of_ble_eq_true rfl) ⟨Nat.le_of_ble_eq_true rfl, Nat.le_of_ble_eq_true rfl⟩ dX8_sendIt_27) hS (fun H locs hH hS => ?_)
      cases hf
      exact hs_iret C0 hH hS (by decide) (by decide) dX8_sendIt_30
  · have hf := if_t hf hc42
    refine lv_aload_n hx hb dX8_sendIt_11 rfl (lv_at hl 1 rfl) ?_
    refine lv_iconst (v := (1 : Int32)) hx hb dX8_sendIt_12 (by decide) ?_
    obtain ⟨r41, M40, hq39, hf⟩ := bd2_o hf
    refine hs_ci (hs_runV C0 hH hS (n := 1) (As := [.int (1 : Int32)]) (rest := []) (c_X8_throwing M (1 : Int32) hq39) ⟨⟨zt_1637, zt_1639, zs_34, zt_13, zt_1640⟩, rfl, by decide, by decide, by decide +kernel⟩ ⟨rfl, rfl, Nat.le_of_ble_eq_true rfl, Nat.le_of_ble_eq_true rfl⟩ (hs_recv hK hH 20 0 (by decide) 12 rfl rfl) rfl rfl hl.1 (Nat.le_of_ble_eq_true rfl) ⟨Nat.le_of_ble_eq_true rfl, Nat.le_of_ble_eq_true rfl⟩ dX8_sendIt_13) hS (fun H locs hH hS => ?_)
    cases hf
    exact hs_iret C0 hH hS (by decide) (by decide) dX8_sendIt_16
def f_X8_send (M : Mem) (a1 : Int32) (a2 : Int32) : Option (Int32 × Mem) := bd (f_X8_starts M) fun M11 => bd2 (f_X8_sendIt M11 a1 a2) fun r15 M14 => bd2 (f_X8_changed M14 r15) fun r18 M17 => some (r18, M17)
set_option maxHeartbeats 4000000 in
set_option maxRecDepth 100000 in
theorem c_X8_send {Y : LY} {l : Launch} (M : Mem) (a1 : Int32) (a2 : Int32) {r : Int32} {MZ : Mem} (hf : f_X8_send M a1 a2 = some (r, MZ)) : Met l yX8_send (WS yX8_send cX8_send 3 (Option.some Jvm.ClassFile.FieldType.int)) { frames := 4, cells := 0, slots := 0, locals := 91 } (PcM Y M [.ref (YA Y 20 0), .int a1, .int a2]) (Qi Y r MZ) 0 0 (AZ Y) := by
  refine met_mk (lv := [(0, .ref (YA Y 20 0)), (1, .int a1), (2, .int a2)]) [.ref (YA Y 20 0), .int a1, .int a2] (by decide) rfl rfl (Nat.le_of_ble_eq_true rfl) (fun p e s m below meth c C0 hH ls hl => ?_)
  have hS : va_S (AZ Y) s.heap s.heap [] := va_S.rf
  obtain ⟨hx, hb, hr, hml, hown, hA, hlocks, hK, hZ⟩ := id C0
  unfold f_X8_send at hf
  refine lv_aload_n hx hb dX8_send_0 rfl (lv_at hl 0 rfl) ?_
  obtain ⟨M11, hq10, hf⟩ := bd_o hf
  refine hs_cv (hs_runV C0 hH hS (n := 0) (As := []) (rest := []) (c_X8_starts M hq10) ⟨⟨zt_1629, zt_1631, zs_32, zt_13, zt_1632⟩, rfl, by decide, by decide, by decide +kernel⟩ ⟨rfl, rfl, Nat.le_of_ble_eq_true rfl, Nat.le_of_ble_eq_true rfl⟩ (hs_recv hK hH 20 0 (by decide) 12 rfl rfl) rfl rfl hl.1 (Nat.le_of_ble_eq_true rfl) ⟨Nat.le_of_ble_eq_true rfl, Nat.le_of_ble_eq_true rfl⟩ dX8_send_1) hS (fun H locs hH hS => ?_)
  refine lv_aload_n hx hb dX8_send_4 rfl (lv_at hl 0 rfl) ?_
  refine lv_aload_n hx hb dX8_send_5 rfl (lv_at hl 0 rfl) ?_
  refine lv_iload_n hx hb dX8_send_6 rfl (lv_at hl 1 rfl) ?_
  refine lv_iload_n hx hb dX8_send_7 rfl (lv_at hl 2 rfl) ?_
  obtain ⟨r15, M14, hq13, hf⟩ := bd2_o hf
  refine hs_ci (hs_runV C0 hH hS (n := 2) (As := [.int a1, .int a2]) (rest := [.ref (YA Y 20 0)]) (c_X8_sendIt M11 a1 a2 hq13) ⟨⟨zt_1701, zt_1703, zs_42, zt_13, zt_1704⟩, rfl, by decide, by decide, by decide +kernel⟩ ⟨rfl, rfl, Nat.le_of_ble_eq_true rfl, Nat.le_of_ble_eq_true rfl⟩ (hs_recv hK hH 20 0 (by decide) 12 rfl rfl) rfl rfl hl.1 (Nat.le_of_ble_eq_true rfl) ⟨Nat.le_of_ble_eq_true rfl, Nat.le_of_ble_eq_true rfl⟩ dX8_send_8) hS (fun H locs hH hS => ?_)
  obtain ⟨r18, M17, hq16, hf⟩ := bd2_o hf
  refine hs_ci (hs_runV C0 hH hS (n := 1) (As := [.int r15]) (rest := []) (c_X8_changed M14 r15 hq16) ⟨⟨zt_1641, zt_1643, zs_35, zt_13, zt_1644⟩, rfl, by decide, by decide, by decide +kernel⟩ ⟨rfl, rfl, Nat.le_of_ble_eq_true rfl, Nat.le_of_ble_eq_true rfl⟩ (hs_recv hK hH 20 0 (by decide) 12 rfl rfl) rfl rfl hl.1 (Nat.le_of_ble_eq_true rfl) ⟨Nat.le_of_ble_eq_true rfl, Nat.le_of_ble_eq_true rfl⟩ dX8_send_11) hS (fun H locs hH hS => ?_)
  cases hf
  exact hs_iret C0 hH hS (by decide) (by decide) dX8_send_14
