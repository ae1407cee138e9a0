def f_J8_newLength_cabcc_21 (M : Mem) (a0 : Int32) (a1 : Int32) : Option Int32 := none
set_option maxHeartbeats 4000000 in
set_option maxRecDepth 100000 in
theorem w_J8_newLength_cabcc_21 {Y : LY} {p : Program} {l : Launch} {e : Env} {s : State} {m : MethodId} {args : Array Value} {below : List Frame} {meth : Method} {c : Code} (C0 : BE Y p s m args meth c cJ8_newLength_cabcc 4 (Option.some Jvm.ClassFile.FieldType.int) RJ8) {P : Heap → Prop} {r : Int32} (M : Mem) : ∀ (a0 : Int32) (a1 : Int32), f_J8_newLength_cabcc_21 M a0 a1 = some r → ∀ (H : Heap) (locs : List Loc) (ls : Array Slot), P H → va_S (AZ Y) s.heap H locs → lv_has ls 4 [(0, .int a0), (1, .int a1)] → W p l e { frames := 1, cells := 0, slots := 0, locals := 21 } s m args below meth c H locs 0 0 (MQ below (QiP Y r (P)) args s 0 0 (AZ Y)) (F0 m 21 ls []) := by
  obtain ⟨hx, hb, hr, hml, hown, hA, hlocks, hK, hZ⟩ := id C0
  intro a0 a1 hf H locs ls hH hS hl
  unfold f_J8_newLength_cabcc_21 at hf
  refine lv_iload_n hx hb dJ8_newLength_cabcc_21 rfl (lv_at hl 0 rfl) ?_
  refine lv_iload_n hx hb dJ8_newLength_cabcc_22 rfl (lv_at hl 1 rfl) ?_
  cases hf
def f_J8_newLength_cabcc (M : Mem) (a0 : Int32) (a1 : Int32) (a2 : Int32) : Option Int32 := (if (a0 + (if a1 < a2 then a2 else a1)) ≤ (0 : Int32) then f_J8_newLength_cabcc_21 M a0 a1 else (if (2147483639 : Int32) < (a0 + (if a1 < a2 then a2 else a1)) then f_J8_newLength_cabcc_21 M a0 a1 else some (a0 + (if a1 < a2 then a2 else a1))))
set_option maxHeartbeats 4000000 in
set_option maxRecDepth 100000 in
theorem c_J8_newLength_cabcc {Y : LY} {l : Launch} {P : Heap → Prop} (M : Mem) (a0 : Int32) (a1 : Int32) (a2 : Int32) {r : Int32} (hf : f_J8_newLength_cabcc M a0 a1 a2 = some r) : Met l yJ8_newLength_cabcc (WS yJ8_newLength_cabcc cJ8_newLength_cabcc 4 (Option.some Jvm.ClassFile.FieldType.int)) { frames := 1, cells := 0, slots := 0, locals := 21 } (PcP Y (P) [.int a0, .int a1, .int a2]) (QiP Y r (P)) 0 0 (AZ Y) := by
  refine met_mk (lv := [(0, .int a0), (1, .int a1), (2, .int a2)]) [.int a0, .int a1, .int a2] (by decide) rfl rfl (Nat.le_of_ble_eq_true rfl) (fun p e s m below meth c C0 hH ls hl => ?_)
  have hS : va_S (AZ Y) s.heap s.heap [] := va_S.rf
  obtain ⟨hx, hb, hr, hml, hown, hA, hlocks, hK, hZ⟩ := id C0
  unfold f_J8_newLength_cabcc at hf
  refine lv_iload_n hx hb dJ8_newLength_cabcc_0 rfl (lv_at hl 0 rfl) ?_
  refine lv_iload_n hx hb dJ8_newLength_cabcc_1 rfl (lv_at hl 1 rfl) ?_
  refine lv_iload_n hx hb dJ8_newLength_cabcc_2 rfl (lv_at hl 2 rfl) ?_
  refine va_mmax hx hb (by rw [hml]; exact hl.1.symm) hown (hA _ zt_1141) (hA _ zt_1023) (hA _ zt_21) (hA _ zt_1024) (Nat.le_of_ble_eq_true rfl) (Nat.le_of_ble_eq_true rfl) (Nat.le_of_ble_eq_true rfl) (Nat.le_of_ble_eq_true rfl) dJ8_newLength_cabcc_3 ?_
  refine lv_iadd hx hb dJ8_newLength_cabcc_6 ?_
  refine lv_istore_n (lv' := [(3, .int (a0 + (if a1 < a2 then a2 else a1))), (0, .int a0), (1, .int a1), (2, .int a2)]) hx hb dJ8_newLength_cabcc_7 rfl hl (by decide) rfl (fun ls hl => ?_)
  refine lv_iconst (v := (0 : Int32)) hx hb dJ8_newLength_cabcc_8 (by decide) ?_
  refine lv_iload_n hx hb dJ8_newLength_cabcc_9 rfl (lv_at hl 0 rfl) ?_
  refine lv_icmp_ge (tgt := 21) hx hb dJ8_newLength_cabcc_10 (by decide) (fun hc4 => ?_) (fun hc4 => ?_)
  · have hf := if_t hf hc4
    exact w_J8_newLength_cabcc_21 C0 M a0 a1 hf _ _ _ hH hS (lv_sub hl [1, 2] rfl)
  · have hf := if_f hf hc4
    refine lv_iload_n hx hb dJ8_newLength_cabcc_13 rfl (lv_at hl 0 rfl) ?_
    refine lv_ldc (v := (2147483639 : Int32)) hx hb hown (hA _ zt_1142) dJ8_newLength_cabcc_14 ?_
    refine lv_icmp_gt (tgt := 21) hx hb dJ8_newLength_cabcc_16 (by decide) (fun hc3 => ?_) (fun hc3 => ?_)
    · have hf := if_t hf hc3
      exact w_J8_newLength_cabcc_21 C0 M a0 a1 hf _ _ _ hH hS (lv_sub hl [1, 2] rfl)
    · have hf := if_f hf hc3
      refine lv_iload_n hx hb dJ8_newLength_cabcc_19 rfl (lv_at hl 0 rfl) ?_
      obtain rfl := Option.some.inj hf
      exact hs_iret C0 hH hS (by decide) (by decide) dJ8_newLength_cabcc_20
def f_J5_newCapacity_0f7a4 (M : Mem) (a1 : Int32) : Option Int32 := bd (f_J8_newLength_cabcc M (nI (ix (M 34 0 100000))) ((a1 <<< ((0 : Int32) &&& 31)) - (nI (ix (M 34 0 100000)))) ((nI (ix (M 34 0 100000))) + ((2 : Int32) <<< ((0 : Int32) &&& 31)))) fun r5 => (if r5 = (2147483647 : Int32) then none else some (r5 >>> ((0 : Int32) &&& 31)))
set_option maxHeartbeats 4000000 in
set_option maxRecDepth 100000 in
theorem c_J5_newCapacity_0f7a4 {Y : LY} {l : Launch} {q : Nat} (M : Mem) (a1 : Int32) {r : Int32} (hf : f_J5_newCapacity_0f7a4 M a1 = some r) : Met l yJ5_newCapacity_0f7a4 (WS yJ5_newCapacity_0f7a4 cJ5_newCapacity_0f7a4 6 (Option.some Jvm.ClassFile.FieldType.int)) { frames := 2, cells := 0, slots := 0, locals := 44 } (PcP Y (HS0 (YS Y q) M) [.ref (YA Y 19 0), .int a1]) (QiP Y r (HS0 (YS Y q) M)) 0 0 (AZ Y) := by
  refine met_mk (lv := [(0, .ref (YA Y 19 0)), (1, .int a1)]) [.ref (YA Y 19 0), .int a1] (by decide) rfl rfl (Nat.le_of_ble_eq_true rfl) (fun p e s m below meth c C0 hH ls hl => ?_)
  have hS : va_S (AZ Y) s.heap s.heap [] := va_S.rf
  obtain ⟨hx, hb, hr, hml, hown, hA, hlocks, hK, hZ⟩ := id C0
  unfold f_J5_newCapacity_0f7a4 at hf
  refine lv_aload_n hx hb dJ5_newCapacity_0f7a4_0 rfl (lv_at hl 0 rfl) ?_
  refine hg_get hx hb hA hown hK hH 0 (by decide) (hA _ zt_277) rfl rfl dJ5_newCapacity_0f7a4_1 ?_
  refine hg_alen hx hb hK hH dJ5_newCapacity_0f7a4_4 ?_
  refine lv_istore_n (lv' := [(2, .int (nI (ix (M 34 0 100000)))), (0, .ref (YA Y 19 0)), (1, .int a1)]) hx hb dJ5_newCapacity_0f7a4_5 rfl hl (by decide) rfl (fun ls hl => ?_)
  refine lv_iload_n hx hb dJ5_newCapacity_0f7a4_6 rfl (lv_at hl 2 rfl) ?_
  refine lv_aload_n hx hb dJ5_newCapacity_0f7a4_7 rfl (lv_at hl 1 rfl) ?_
  refine hg_get hx hb hA hown hK hH 1 (by decide) (hA _ zt_278) rfl rfl dJ5_newCapacity_0f7a4_8 ?_
  refine lv_ishl hx hb dJ5_newCapacity_0f7a4_11 ?_
  refine lv_istore_n (lv' := [(3, .int (a1 <<< ((0 : Int32) &&& 31))), (2, .int (nI (ix (M 34 0 100000)))), (0, .ref (YA Y 19 0)), (1, .int a1)]) hx hb dJ5_newCapacity_0f7a4_12 rfl hl (by decide) rfl (fun ls hl => ?_)
  refine lv_iload_n hx hb dJ5_newCapacity_0f7a4_13 rfl (lv_at hl 0 rfl) ?_
  refine lv_iload_n hx hb dJ5_newCapacity_0f7a4_14 rfl (lv_at hl 1 rfl) ?_
  refine lv_isub hx hb dJ5_newCapacity_0f7a4_15 ?_
  refine lv_istore (lv' := [(4, .int ((a1 <<< ((0 : Int32) &&& 31)) - (nI (ix (M 34 0 100000))))), (3, .int (a1 <<< ((0 : Int32) &&& 31))), (2, .int (nI (ix (M 34 0 100000)))), (0, .ref (YA Y 19 0)), (1, .int a1)]) hx hb dJ5_newCapacity_0f7a4_16 hl (by decide) rfl (fun ls hl => ?_)
  refine lv_iload_n hx hb dJ5_newCapacity_0f7a4_18 rfl (lv_at hl 2 rfl) ?_
  refine lv_iload hx hb dJ5_newCapacity_0f7a4_19 (lv_at hl 0 rfl) ?_
  refine lv_iload_n hx hb dJ5_newCapacity_0f7a4_21 rfl (lv_at hl 2 rfl) ?_
  refine lv_iconst (v := (2 : Int32)) hx hb dJ5_newCapacity_0f7a4_22 (by decide) ?_
  refine lv_aload_n hx hb dJ5_newCapacity_0f7a4_23 rfl (lv_at hl 3 rfl) ?_
  refine hg_get hx hb hA hown hK hH 1 (by decide) (hA _ zt_278) rfl rfl dJ5_newCapacity_0f7a4_24 ?_
  refine lv_ishl hx hb dJ5_newCapacity_0f7a4_27 ?_
  refine lv_iadd hx hb dJ5_newCapacity_0f7a4_28 ?_
  obtain ⟨r5, hq4, hf⟩ := bd_o hf
  refine hs_ci (hs_runS C0 hH hS (n := 3) (As := [.int (nI (ix (M 34 0 100000))), .int ((a1 <<< ((0 : Int32) &&& 31)) - (nI (ix (M 34 0 100000)))), .int ((nI (ix (M 34 0 100000))) + ((2 : Int32) <<< ((0 : Int32) &&& 31)))]) (rest := []) (c_J8_newLength_cabcc M (nI (ix (M 34 0 100000))) ((a1 <<< ((0 : Int32) &&& 31)) - (nI (ix (M 34 0 100000)))) ((nI (ix (M 34 0 100000))) + ((2 : Int32) <<< ((0 : Int32) &&& 31))) hq4) ⟨⟨zt_1138, zt_1139, zt_25, zt_1140⟩, by decide, by decide, by decide +kernel⟩ ⟨rfl, rfl, Nat.le_of_ble_eq_true rfl, Nat.le_of_ble_eq_true rfl⟩ rfl rfl hl.1 (Nat.le_of_ble_eq_true rfl) ⟨Nat.le_of_ble_eq_true rfl, Nat.le_of_ble_eq_true rfl⟩ dJ5_newCapacity_0f7a4_29) hS (fun H locs hH hS => ?_)
  refine lv_istore (lv' := [(5, .int r5), (4, .int ((a1 <<< ((0 : Int32) &&& 31)) - (nI (ix (M 34 0 100000))))), (3, .int (a1 <<< ((0 : Int32) &&& 31))), (2, .int (nI (ix (M 34 0 100000)))), (0, .ref (YA Y 19 0)), (1, .int a1)]) hx hb dJ5_newCapacity_0f7a4_32 hl (by decide) rfl (fun ls hl => ?_)
  refine lv_iload hx hb dJ5_newCapacity_0f7a4_34 (lv_at hl 0 rfl) ?_
  refine lv_ldc (v := (2147483647 : Int32)) hx hb hown (hA _ zt_1146) dJ5_newCapacity_0f7a4_36 ?_
  refine lv_icmp_ne (tgt := 51) hx hb dJ5_newCapacity_0f7a4_38 (by decide) (fun hc6 => ?_) (fun hc6 => ?_)
  · have hf := if_f hf hc6
    refine lv_iload hx hb dJ5_newCapacity_0f7a4_51 (lv_at hl 0 rfl) ?_
    refine lv_aload_n hx hb dJ5_newCapacity_0f7a4_53 rfl (lv_at hl 4 rfl) ?_
    refine hg_get hx hb hA hown hK hH 1 (by decide) (hA _ zt_278) rfl rfl dJ5_newCapacity_0f7a4_54 ?_
    refine lv_ishr hx hb dJ5_newCapacity_0f7a4_57 ?_
    obtain rfl := Option.some.inj hf
    exact hs_iret C0 hH hS (by decide) (by decide) dJ5_newCapacity_0f7a4_58
  · have hf := if_t hf hc6
    cases hf
def f_J5_isLatin1_aae02 (M : Mem) : Option Int32 := (if (1 : Int32) = 0 then some (0 : Int32) else (if (0 : Int32) = 0 then some (1 : Int32) else some (0 : Int32)))
set_option maxHeartbeats 4000000 in
set_option maxRecDepth 100000 in
theorem c_J5_isLatin1_aae02 {Y : LY} {l : Launch} {q : Nat} (M : Mem) {r : Int32} (hf : f_J5_isLatin1_aae02 M = some r) : Met l yJ5_isLatin1_aae02 (WS yJ5_isLatin1_aae02 cJ5_isLatin1_aae02 1 (Option.some Jvm.ClassFile.FieldType.boolean)) { frames := 0, cells := 0, slots := 0, locals := 0 } (PcP Y (HS0 (YS Y q) M) [.ref (YA Y 19 0)]) (QiP Y r (HS0 (YS Y q) M)) 0 0 (AZ Y) := by
  refine met_mk (lv := [(0, .ref (YA Y 19 0))]) [.ref (YA Y 19 0)] (by decide) rfl rfl (Nat.le_of_ble_eq_true rfl) (fun p e s m below meth c C0 hH ls hl => ?_)
  have hS : va_S (AZ Y) s.heap s.heap [] := va_S.rf
  obtain ⟨hx, hb, hr, hml, hown, hA, hlocks, hK, hZ⟩ := id C0
  unfold f_J5_isLatin1_aae02 at hf
  refine va_gets hx hb hK.z hS hown (hA _ zt_268) (fun _ h => h) dJ5_isLatin1_aae02_0 ?_
  refine lv_if_eq (tgt := 17) hx hb dJ5_isLatin1_aae02_3 (by decide) (fun hc4 => ?_) (fun hc4 => ?_)
  · have hf := if_t hf hc4
    refine lv_iconst (v := (0 : Int32)) hx hb dJ5_isLatin1_aae02_17 (by decide) ?_
    obtain rfl := Option.some.inj hf
    exact hs_zret C0 hH hS (by decide) (by decide) (by decide) dJ5_isLatin1_aae02_18
  · have hf := if_f hf hc4
    refine lv_aload_n hx hb dJ5_isLatin1_aae02_6 rfl (lv_at hl 0 rfl) ?_
    refine hg_get hx hb hA hown hK hH 1 (by decide) (hA _ zt_278) rfl rfl dJ5_isLatin1_aae02_7 ?_
    refine lv_if_ne (tgt := 17) hx hb dJ5_isLatin1_aae02_10 (by decide) (fun hc3 => ?_) (fun hc3 => ?_)
    · have hf := if_f hf hc3
      refine lv_iconst (v := (0 : Int32)) hx hb dJ5_isLatin1_aae02_17 (by decide) ?_
      obtain rfl := Option.some.inj hf
      exact hs_zret C0 hH hS (by decide) (by decide) (by decide) dJ5_isLatin1_aae02_18
    · have hf := if_t hf hc3
      refine lv_iconst (v := (1 : Int32)) hx hb dJ5_isLatin1_aae02_13 (by decide) ?_
      refine lv_goto (tgt := 18) hx hb dJ5_isLatin1_aae02_14 (by decide) ?_
      obtain rfl := Option.some.inj hf
      exact hs_zret C0 hH hS (by decide) (by decide) (by decide) dJ5_isLatin1_aae02_18
def f_J1_canEncode_fc78d (M : Mem) (a0 : Int32) : Option Int32 := (if (255 : Int32) < a0 then some (0 : Int32) else some (1 : Int32))
set_option maxHeartbeats 4000000 in
set_option maxRecDepth 100000 in
theorem c_J1_canEncode_fc78d {Y : LY} {l : Launch} {P : Heap → Prop} (M : Mem) (a0 : Int32) {r : Int32} (hf : f_J1_canEncode_fc78d M a0 = some r) : Met l yJ1_canEncode_fc78d (WS yJ1_canEncode_fc78d cJ1_canEncode_fc78d 1 (Option.some Jvm.ClassFile.FieldType.boolean)) { frames := 0, cells := 0, slots := 0, locals := 0 } (PcP Y (P) [.int a0]) (QiP Y r (P)) 0 0 (AZ Y) := by
  refine met_mk (lv := [(0, .int a0)]) [.int a0] (by decide) rfl rfl (Nat.le_of_ble_eq_true rfl) (fun p e s m below meth c C0 hH ls hl => ?_)
  have hS : va_S (AZ Y) s.heap s.heap [] := va_S.rf
  obtain ⟨hx, hb, hr, hml, hown, hA, hlocks, hK, hZ⟩ := id C0
  unfold f_J1_canEncode_fc78d at hf
  refine lv_iload_n hx hb dJ1_canEncode_fc78d_0 rfl (lv_at hl 0 rfl) ?_
  refine lv_sipush (v := (255 : Int32)) hx hb dJ1_canEncode_fc78d_1 (by decide) ?_
  refine lv_icmp_gt (tgt := 11) hx hb dJ1_canEncode_fc78d_4 (by decide) (fun hc2 => ?_) (fun hc2 => ?_)
  · have hf := if_t hf hc2
    refine lv_iconst (v := (0 : Int32)) hx hb dJ1_canEncode_fc78d_11 (by decide) ?_
    obtain rfl := Option.some.inj hf
    exact hs_zret C0 hH hS (by decide) (by decide) (by decide) dJ1_canEncode_fc78d_12
  · have hf := if_f hf hc2
    refine lv_iconst (v := (1 : Int32)) hx hb dJ1_canEncode_fc78d_7 (by decide) ?_
    refine lv_goto (tgt := 12) hx hb dJ1_canEncode_fc78d_8 (by decide) ?_
    obtain rfl := Option.some.inj hf
    exact hs_zret C0 hH hS (by decide) (by decide) (by decide) dJ1_canEncode_fc78d_12
def f_J6_stringSize_0f7a4_16 (M : Mem) : Nat → Int32 → Int32 → Int32 → Int32 → Option Int32
  | 0, _, _, _, _ => none
  | n + 1, a0, a1, a2, a3 => (if (10 : Int32) ≤ a3 then some ((10 : Int32) + a1) else (if a0 ≤ a2 then f_J6_stringSize_0f7a4_16 M n a0 a1 ((10 : Int32) * a2) (a3 + (1 : Int32)) else some (a3 + a1)))
set_option maxHeartbeats 4000000 in
set_option maxRecDepth 100000 in
theorem w_J6_stringSize_0f7a4_16 {Y : LY} {p : Program} {l : Launch} {e : Env} {s : State} {m : MethodId} {args : Array Value} {below : List Frame} {meth : Method} {c : Code} (C0 : BE Y p s m args meth c cJ6_stringSize_0f7a4 4 (Option.some Jvm.ClassFile.FieldType.int) RJ6) {P : Heap → Prop} {r : Int32} (M : Mem) : ∀ (n : Nat) (a0 : Int32) (a1 : Int32) (a2 : Int32) (a3 : Int32), f_J6_stringSize_0f7a4_16 M n a0 a1 a2 a3 = some r → ∀ (H : Heap) (locs : List Loc) (ls : Array Slot), P H → va_S (AZ Y) s.heap H locs → lv_has ls 4 [(0, .int a0), (1, .int a1), (2, .int a2), (3, .int a3)] → W p l e { frames := 0, cells := 0, slots := 0, locals := 0 } s m args below meth c H locs 0 0 (MQ below (QiP Y r (P)) args s 0 0 (AZ Y)) (F0 m 16 ls []) := by
  obtain ⟨hx, hb, hr, hml, hown, hA, hlocks, hK, hZ⟩ := id C0
  intro n
  induction n with
  | zero =>
    intro a0 a1 a2 a3 hf
    cases hf
  | succ n ih =>
    intro a0 a1 a2 a3 hf H locs ls hH hS hl
    rw [f_J6_stringSize_0f7a4_16] at hf
    refine lv_iload_n hx hb dJ6_stringSize_0f7a4_16 rfl (lv_at hl 3 rfl) ?_
    refine lv_bipush (v := (10 : Int32)) hx hb dJ6_stringSize_0f7a4_17 (by decide) ?_
    refine lv_icmp_ge (tgt := 42) hx hb dJ6_stringSize_0f7a4_19 (by decide) (fun hc5 => ?_) (fun hc5 => ?_)
    · have hf := if_t hf hc5
      refine lv_bipush (v := (10 : Int32)) hx hb dJ6_stringSize_0f7a4_42 (by decide) ?_
      refine lv_iload_n hx hb dJ6_stringSize_0f7a4_44 rfl (lv_at hl 1 rfl) ?_
      refine lv_iadd hx hb dJ6_stringSize_0f7a4_45 ?_
      obtain rfl := Option.some.inj hf
      exact hs_iret C0 hH hS (by decide) (by decide) dJ6_stringSize_0f7a4_46
    · have hf := if_f hf hc5
      refine lv_iload_n hx hb dJ6_stringSize_0f7a4_22 rfl (lv_at hl 0 rfl) ?_
      refine lv_iload_n hx hb dJ6_stringSize_0f7a4_23 rfl (lv_at hl 2 rfl) ?_
      refine lv_icmp_le (tgt := 31) hx hb dJ6_stringSize_0f7a4_24 (by decide) (fun hc4 => ?_) (fun hc4 => ?_)
      · have hf := if_t hf hc4
        refine lv_bipush (v := (10 : Int32)) hx hb dJ6_stringSize_0f7a4_31 (by decide) ?_
        refine lv_iload_n hx hb dJ6_stringSize_0f7a4_33 rfl (lv_at hl 2 rfl) ?_
        refine lv_imul hx hb dJ6_stringSize_0f7a4_34 ?_
        refine lv_istore_n (lv' := [(2, .int ((10 : Int32) * a2)), (0, .int a0), (1, .int a1), (3, .int a3)]) hx hb dJ6_stringSize_0f7a4_35 rfl hl (by decide) rfl (fun ls hl => ?_)
        refine lv_iinc (v := a3 + (1 : Int32)) (lv' := [(3, .int (a3 + (1 : Int32))), (2, .int ((10 : Int32) * a2)), (0, .int a0), (1, .int a1)]) hx hb dJ6_stringSize_0f7a4_36 hl (k := 3) rfl rfl (by decide) rfl (fun ls hl => ?_)
        refine lv_goto (tgt := 16) hx hb dJ6_stringSize_0f7a4_39 (by decide) ?_
        exact ih a0 a1 ((10 : Int32) * a2) (a3 + (1 : Int32)) hf _ _ _ hH hS (lv_sub hl [2, 3, 1, 0] rfl)
      · have hf := if_f hf hc4
        refine lv_iload_n hx hb dJ6_stringSize_0f7a4_27 rfl (lv_at hl 3 rfl) ?_
        refine lv_iload_n hx hb dJ6_stringSize_0f7a4_28 rfl (lv_at hl 1 rfl) ?_
        refine lv_iadd hx hb dJ6_stringSize_0f7a4_29 ?_
        obtain rfl := Option.some.inj hf
        exact hs_iret C0 hH hS (by decide) (by decide) dJ6_stringSize_0f7a4_30
def f_J6_stringSize_0f7a4_11 (M : Mem) (a0 : Int32) (a1 : Int32) : Option Int32 := f_J6_stringSize_0f7a4_16 M FU a0 a1 (-10 : Int32) (1 : Int32)
set_option maxHeartbeats 4000000 in
set_option maxRecDepth 100000 in
theorem w_J6_stringSize_0f7a4_11 {Y : LY} {p : Program} {l : Launch} {e : Env} {s : State} {m : MethodId} {args : Array Value} {below : List Frame} {meth : Method} {c : Code} (C0 : BE Y p s m args meth c cJ6_stringSize_0f7a4 4 (Option.some Jvm.ClassFile.FieldType.int) RJ6) {P : Heap → Prop} {r : Int32} (M : Mem) : ∀ (a0 : Int32) (a1 : Int32), f_J6_stringSize_0f7a4_11 M a0 a1 = some r → ∀ (H : Heap) (locs : List Loc) (ls : Array Slot), P H → va_S (AZ Y) s.heap H locs → lv_has ls 4 [(0, .int a0), (1, .int a1)] → W p l e { frames := 0, cells := 0, slots := 0, locals := 0 } s m args below meth c H locs 0 0 (MQ below (QiP Y r (P)) args s 0 0 (AZ Y)) (F0 m 11 ls []) := by
  obtain ⟨hx, hb, hr, hml, hown, hA, hlocks, hK, hZ⟩ := id C0
  intro a0 a1 hf H locs ls hH hS hl
  unfold f_J6_stringSize_0f7a4_11 at hf
  refine lv_bipush (v := (-10 : Int32)) hx hb dJ6_stringSize_0f7a4_11 (by decide) ?_
  refine lv_istore_n (lv' := [(2, .int (-10 : Int32)), (0, .int a0), (1, .int a1)]) hx hb dJ6_stringSize_0f7a4_13 rfl hl (by decide) rfl (fun ls hl => ?_)
  refine lv_iconst (v := (1 : Int32)) hx hb dJ6_stringSize_0f7a4_14 (by decide) ?_
  refine lv_istore_n (lv' := [(3, .int (1 : Int32)), (2, .int (-10 : Int32)), (0, .int a0), (1, .int a1)]) hx hb dJ6_stringSize_0f7a4_15 rfl hl (by decide) rfl (fun ls hl => ?_)
  exact w_J6_stringSize_0f7a4_16 C0 M FU a0 a1 (-10 : Int32) (1 : Int32) hf _ _ _ hH hS (lv_sub hl [2, 3, 1, 0] rfl)
def f_J6_stringSize_0f7a4 (M : Mem) (a0 : Int32) : Option Int32 := (if a0 < 0 then f_J6_stringSize_0f7a4_11 M a0 (1 : Int32) else f_J6_stringSize_0f7a4_11 M (-a0) (0 : Int32))
set_option maxHeartbeats 4000000 in
set_option maxRecDepth 100000 in
theorem c_J6_stringSize_0f7a4 {Y : LY} {l : Launch} {P : Heap → Prop} (M : Mem) (a0 : Int32) {r : Int32} (hf : f_J6_stringSize_0f7a4 M a0 = some r) : Met l yJ6_stringSize_0f7a4 (WS yJ6_stringSize_0f7a4 cJ6_stringSize_0f7a4 4 (Option.some Jvm.ClassFile.FieldType.int)) { frames := 0, cells := 0, slots := 0, locals := 0 } (PcP Y (P) [.int a0]) (QiP Y r (P)) 0 0 (AZ Y) := by
  refine met_mk (lv := [(0, .int a0)]) [.int a0] (by decide) rfl rfl (Nat.le_of_ble_eq_true rfl) (fun p e s m below meth c C0 hH ls hl => ?_)
  have hS : va_S (AZ Y) s.heap s.heap [] := va_S.rf
  obtain ⟨hx, hb, hr, hml, hown, hA, hlocks, hK, hZ⟩ := id C0
  unfold f_J6_stringSize_0f7a4 at hf
  refine lv_iconst (v := (1 : Int32)) hx hb dJ6_stringSize_0f7a4_0 (by decide) ?_
  refine lv_istore_n (lv' := [(1, .int (1 : Int32)), (0, .int a0)]) hx hb dJ6_stringSize_0f7a4_1 rfl hl (by decide) rfl (fun ls hl => ?_)
  refine lv_iload_n hx hb dJ6_stringSize_0f7a4_2 rfl (lv_at hl 1 rfl) ?_
  refine lv_if_lt (tgt := 11) hx hb dJ6_stringSize_0f7a4_3 (by decide) (fun hc6 => ?_) (fun hc6 => ?_)
  · have hf := if_t hf hc6
    exact w_J6_stringSize_0f7a4_11 C0 M a0 (1 : Int32) hf _ _ _ hH hS (lv_sub hl [1, 0] rfl)
  · have hf := if_f hf hc6
    refine lv_iconst (v := (0 : Int32)) hx hb dJ6_stringSize_0f7a4_6 (by decide) ?_
    refine lv_istore_n (lv' := [(1, .int (0 : Int32)), (0, .int a0)]) hx hb dJ6_stringSize_0f7a4_7 rfl hl (by decide) rfl (fun ls hl => ?_)
    refine lv_iload_n hx hb dJ6_stringSize_0f7a4_8 rfl (lv_at hl 1 rfl) ?_
    refine lv_ineg hx hb dJ6_stringSize_0f7a4_9 ?_
    refine lv_istore_n (lv' := [(0, .int (-a0)), (1, .int (0 : Int32))]) hx hb dJ6_stringSize_0f7a4_10 rfl hl (by decide) rfl (fun ls hl => ?_)
    exact w_J6_stringSize_0f7a4_11 C0 M (-a0) (0 : Int32) hf _ _ _ hH hS (lv_sub hl [0, 1] rfl)
def f_J6_getChars_ba4f3_104 (M : Mem) (a5 : Int32) (a6 : Int32) : Option (Int32 × Mem) := (if a6 = 0 then some (a5, M) else if vin (a5 + (-1 : Int32)) (ix (M 34 0 100000)) then (if ix (M 34 0 100000) ≤ 100000 then (nm (mu M 34 0 (ix (a5 + (-1 : Int32))) (45 : Int32)) fun M27 => some ((a5 + (-1 : Int32)), M27)) else none) else none)
set_option maxHeartbeats 4000000 in
set_option maxRecDepth 100000 in
theorem w_J6_getChars_ba4f3_104 {Y : LY} {p : Program} {l : Launch} {e : Env} {s : State} {m : MethodId} {args : Array Value} {below : List Frame} {meth : Method} {c : Code} (C0 : BE Y p s m args meth c cJ6_getChars_ba4f3 7 (Option.some Jvm.ClassFile.FieldType.int) RJ6) {q : Nat} {r : Int32} {MZ : Mem} : ∀ (M : Mem) (a5 : Int32) (a6 : Int32), f_J6_getChars_ba4f3_104 M a5 a6 = some (r, MZ) → ∀ (H : Heap) (locs : List Loc) (ls : Array Slot), HS0 (YS Y q) M H → va_S (AZ Y) s.heap H locs → lv_has ls 7 [(2, .ref q), (5, .int a5), (6, .int a6)] → W p l e { frames := 0, cells := 0, slots := 0, locals := 0 } s m args below meth c H locs 0 0 (MQ below (QiP Y r (HS0 (YS Y q) MZ)) args s 0 0 (AZ Y)) (F0 m 104 ls []) := by
  obtain ⟨hx, hb, hr, hml, hown, hA, hlocks, hK, hZ⟩ := id C0
  intro M a5 a6 hf H locs ls hH hS hl
  unfold f_J6_getChars_ba4f3_104 at hf
  refine lv_iload hx hb dJ6_getChars_ba4f3_104 (lv_at hl 2 rfl) ?_
  refine lv_if_eq (tgt := 118) hx hb dJ6_getChars_ba4f3_106 (by decide) (fun hc28 => ?_) (fun hc28 => ?_)
  · have hf := if_t hf hc28
    refine lv_iload hx hb dJ6_getChars_ba4f3_118 (lv_at hl 1 rfl) ?_
    obtain ⟨rfl, rfl⟩ := Prod.mk.inj (Option.some.inj hf)
    exact hs_iret C0 hH hS (by decide) (by decide) dJ6_getChars_ba4f3_120
  · have hf := if_f hf hc28
    refine lv_aload_n hx hb dJ6_getChars_ba4f3_109 rfl (lv_at hl 0 rfl) ?_
    refine lv_iinc (v := a5 + (-1 : Int32)) (lv' := [(5, .int (a5 + (-1 : Int32))), (2, .ref q), (6, .int a6)]) hx hb dJ6_getChars_ba4f3_110 hl (k := 1) rfl rfl (by decide) rfl (fun ls hl => ?_)
    refine lv_iload hx hb dJ6_getChars_ba4f3_113 (lv_at hl 0 rfl) ?_
    refine lv_bipush (v := (45 : Int32)) hx hb dJ6_getChars_ba4f3_115 (by decide) ?_
    obtain ⟨hg25, hf⟩ := gd_o hf
    obtain ⟨hg26, hf⟩ := gd_o hf
    refine hg_bast hx hb hK hH hS hg25 hg26 dJ6_getChars_ba4f3_117 (fun H locs hH hS => ?_)
    obtain ⟨M27, eM27, hf⟩ := nm_o hf
    rw [← eM27] at hH
    refine lv_iload hx hb dJ6_getChars_ba4f3_118 (lv_at hl 0 rfl) ?_
    obtain ⟨rfl, rfl⟩ := Prod.mk.inj (Option.some.inj hf)
    exact hs_iret C0 hH hS (by decide) (by decide) dJ6_getChars_ba4f3_120
def f_J6_getChars_ba4f3_22 : Nat → Mem → Int32 → Int32 → Int32 → Option (Int32 × Mem)
  | 0, _, _, _, _ => none
  | n + 1, M, a0, a5, a6 => (if (-100 : Int32) < a0 then if vin (-a0) 100 then (if vin (a5 + (-1 : Int32)) (ix (M 34 0 100000)) then (if ix (M 34 0 100000) ≤ 100000 then (nm (mu M 34 0 (ix (a5 + (-1 : Int32))) (nI (48 + ix (-a0) % 10))) fun M32 => (if (-9 : Int32) ≤ a0 then f_J6_getChars_ba4f3_104 M32 (a5 + (-1 : Int32)) a6 else if vin (-a0) 100 then (if vin ((a5 + (-1 : Int32)) + (-1 : Int32)) (ix (M32 34 0 100000)) then (if ix (M32 34 0 100000) ≤ 100000 then (nm (mu M32 34 0 (ix ((a5 + (-1 : Int32)) + (-1 : Int32))) (nI (48 + ix (-a0) / 10))) fun M36 => f_J6_getChars_ba4f3_104 M36 ((a5 + (-1 : Int32)) + (-1 : Int32)) a6) else none) else none) else none)) else none) else none) else none else if vin (((a0 / (100 : Int32)) * (100 : Int32)) - a0) 100 then (if vin (a5 + (-1 : Int32)) (ix (M 34 0 100000)) then (if ix (M 34 0 100000) ≤ 100000 then (nm (mu M 34 0 (ix (a5 + (-1 : Int32))) (nI (48 + ix (((a0 / (100 : Int32)) * (100 : Int32)) - a0) % 10))) fun M41 => if vin (((a0 / (100 : Int32)) * (100 : Int32)) - a0) 100 then (if vin ((a5 + (-1 : Int32)) + (-1 : Int32)) (ix (M41 34 0 100000)) then (if ix (M41 34 0 100000) ≤ 100000 then (nm (mu M41 34 0 (ix ((a5 + (-1 : Int32)) + (-1 : Int32))) (nI (48 + ix (((a0 / (100 : Int32)) * (100 : Int32)) - a0) / 10))) fun M45 => f_J6_getChars_ba4f3_22 n M45 (a0 / (100 : Int32)) ((a5 + (-1 : Int32)) + (-1 : Int32)) a6) else none) else none) else none) else none) else none) else none)
set_option maxHeartbeats 4000000 in
set_option maxRecDepth 100000 in
theorem w_J6_getChars_ba4f3_22 {Y : LY} {p : Program} {l : Launch} {e : Env} {s : State} {m : MethodId} {args : Array Value} {below : List Frame} {meth : Method} {c : Code} (C0 : BE Y p s m args meth c cJ6_getChars_ba4f3 7 (Option.some Jvm.ClassFile.FieldType.int) RJ6) {q : Nat} {r : Int32} {MZ : Mem} : ∀ (n : Nat) (M : Mem) (a0 : Int32) (a5 : Int32) (a6 : Int32), f_J6_getChars_ba4f3_22 n M a0 a5 a6 = some (r, MZ) → ∀ (H : Heap) (locs : List Loc) (ls : Array Slot), HS0 (YS Y q) M H → va_S (AZ Y) s.heap H locs → lv_has ls 7 [(0, .int a0), (2, .ref q), (5, .int a5), (6, .int a6)] → W p l e { frames := 0, cells := 0, slots := 0, locals := 0 } s m args below meth c H locs 0 0 (MQ below (QiP Y r (HS0 (YS Y q) MZ)) args s 0 0 (AZ Y)) (F0 m 22 ls []) := by
  obtain ⟨hx, hb, hr, hml, hown, hA, hlocks, hK, hZ⟩ := id C0
  intro n
  induction n with
  | zero =>
    intro M a0 a5 a6 hf
    cases hf
  | succ n ih =>
    intro M a0 a5 a6 hf H locs ls hH hS hl
    rw [f_J6_getChars_ba4f3_22] at hf
    refine lv_iload_n hx hb dJ6_getChars_ba4f3_22 rfl (lv_at hl 0 rfl) ?_
    refine lv_bipush (v := (-100 : Int32)) hx hb dJ6_getChars_ba4f3_23 (by decide) ?_
    refine lv_icmp_gt (tgt := 72) hx hb dJ6_getChars_ba4f3_25 (by decide) (fun hc46 => ?_) (fun hc46 => ?_)
    · have hf := if_t hf hc46
      refine lv_aload_n hx hb dJ6_getChars_ba4f3_72 rfl (lv_at hl 1 rfl) ?_
      refine lv_iinc (v := a5 + (-1 : Int32)) (lv' := [(5, .int (a5 + (-1 : Int32))), (0, .int a0), (2, .ref q), (6, .int a6)]) hx hb dJ6_getChars_ba4f3_73 hl (k := 2) rfl rfl (by decide) rfl (fun ls hl => ?_)
      refine lv_iload hx hb dJ6_getChars_ba4f3_76 (lv_at hl 0 rfl) ?_
      refine va_gets hx hb hK.o.1 hS hown (hA _ zt_1248) (fun _ h => h) dJ6_getChars_ba4f3_78 ?_
      refine lv_iload_n hx hb dJ6_getChars_ba4f3_81 rfl (lv_at hl 1 rfl) ?_
      refine lv_ineg hx hb dJ6_getChars_ba4f3_82 ?_
      obtain ⟨hg29, hf⟩ := gd_o hf
      refine va_tb hx hb hK.o.2 hS hg29 rfl dJ6_getChars_ba4f3_83 ?_
      obtain ⟨hg30, hf⟩ := gd_o hf
      obtain ⟨hg31, hf⟩ := gd_o hf
      refine hg_bast hx hb hK hH hS hg30 hg31 dJ6_getChars_ba4f3_84 (fun H locs hH hS => ?_)
      obtain ⟨M32, eM32, hf⟩ := nm_o hf
      rw [← eM32] at hH
      refine lv_iload_n hx hb dJ6_getChars_ba4f3_85 rfl (lv_at hl 1 rfl) ?_
      refine lv_bipush (v := (-9 : Int32)) hx hb dJ6_getChars_ba4f3_86 (by decide) ?_
      refine lv_icmp_ge (tgt := 104) hx hb dJ6_getChars_ba4f3_88 (by decide) (fun hc37 => ?_) (fun hc37 => ?_)
      · have hf := if_t hf hc37
        exact w_J6_getChars_ba4f3_104 C0 M32 (a5 + (-1 : Int32)) a6 hf _ _ _ hH hS (lv_sub hl [2, 0, 3] rfl)
      · have hf := if_f hf hc37
        refine lv_aload_n hx hb dJ6_getChars_ba4f3_91 rfl (lv_at hl 2 rfl) ?_
        refine lv_iinc (v := (a5 + (-1 : Int32)) + (-1 : Int32)) (lv' := [(5, .int ((a5 + (-1 : Int32)) + (-1 : Int32))), (0, .int a0), (2, .ref q), (6, .int a6)]) hx hb dJ6_getChars_ba4f3_92 hl (k := 0) rfl rfl (by decide) rfl (fun ls hl => ?_)
        refine lv_iload hx hb dJ6_getChars_ba4f3_95 (lv_at hl 0 rfl) ?_
        refine va_gets hx hb hK.t.1 hS hown (hA _ zt_1250) (fun _ h => h) dJ6_getChars_ba4f3_97 ?_
        refine lv_iload_n hx hb dJ6_getChars_ba4f3_100 rfl (lv_at hl 1 rfl) ?_
        refine lv_ineg hx hb dJ6_getChars_ba4f3_101 ?_
        obtain ⟨hg33, hf⟩ := gd_o hf
        refine va_tb hx hb hK.t.2 hS hg33 rfl dJ6_getChars_ba4f3_102 ?_
        obtain ⟨hg34, hf⟩ := gd_o hf
        obtain ⟨hg35, hf⟩ := gd_o hf
        refine hg_bast hx hb hK hH hS hg34 hg35 dJ6_getChars_ba4f3_103 (fun H locs hH hS => ?_)
        obtain ⟨M36, eM36, hf⟩ := nm_o hf
        rw [← eM36] at hH
        exact w_J6_getChars_ba4f3_104 C0 M36 ((a5 + (-1 : Int32)) + (-1 : Int32)) a6 hf _ _ _ hH hS (lv_sub hl [2, 0, 3] rfl)
    · have hf := if_f hf hc46
      refine lv_iload_n hx hb dJ6_getChars_ba4f3_28 rfl (lv_at hl 0 rfl) ?_
      refine lv_bipush (v := (100 : Int32)) hx hb dJ6_getChars_ba4f3_29 (by decide) ?_
      refine lv_idiv hx hb dJ6_getChars_ba4f3_31 (by decide) ?_
      refine lv_istore_n (lv' := [(3, .int (a0 / (100 : Int32))), (0, .int a0), (2, .ref q), (5, .int a5), (6, .int a6)]) hx hb dJ6_getChars_ba4f3_32 rfl hl (by decide) rfl (fun ls hl => ?_)
      refine lv_iload_n hx hb dJ6_getChars_ba4f3_33 rfl (lv_at hl 0 rfl) ?_
      refine lv_bipush (v := (100 : Int32)) hx hb dJ6_getChars_ba4f3_34 (by decide) ?_
      refine lv_imul hx hb dJ6_getChars_ba4f3_36 ?_
      refine lv_iload_n hx hb dJ6_getChars_ba4f3_37 rfl (lv_at hl 1 rfl) ?_
      refine lv_isub hx hb dJ6_getChars_ba4f3_38 ?_
      refine lv_istore (lv' := [(4, .int (((a0 / (100 : Int32)) * (100 : Int32)) - a0)), (3, .int (a0 / (100 : Int32))), (0, .int a0), (2, .ref q), (5, .int a5), (6, .int a6)]) hx hb dJ6_getChars_ba4f3_39 hl (by decide) rfl (fun ls hl => ?_)
      refine lv_iload_n hx hb dJ6_getChars_ba4f3_41 rfl (lv_at hl 1 rfl) ?_
      refine lv_istore_n (lv' := [(0, .int (a0 / (100 : Int32))), (4, .int (((a0 / (100 : Int32)) * (100 : Int32)) - a0)), (3, .int (a0 / (100 : Int32))), (2, .ref q), (5, .int a5), (6, .int a6)]) hx hb dJ6_getChars_ba4f3_42 rfl hl (by decide) rfl (fun ls hl => ?_)
      refine lv_aload_n hx hb dJ6_getChars_ba4f3_43 rfl (lv_at hl 3 rfl) ?_
      refine lv_iinc (v := a5 + (-1 : Int32)) (lv' := [(5, .int (a5 + (-1 : Int32))), (0, .int (a0 / (100 : Int32))), (4, .int (((a0 / (100 : Int32)) * (100 : Int32)) - a0)), (3, .int (a0 / (100 : Int32))), (2, .ref q), (6, .int a6)]) hx hb dJ6_getChars_ba4f3_44 hl (k := 4) rfl rfl (by decide) rfl (fun ls hl => ?_)
      refine lv_iload hx hb dJ6_getChars_ba4f3_47 (lv_at hl 0 rfl) ?_
      refine va_gets hx hb hK.o.1 hS hown (hA _ zt_1248) (fun _ h => h) dJ6_getChars_ba4f3_49 ?_
      refine lv_iload hx hb dJ6_getChars_ba4f3_52 (lv_at hl 2 rfl) ?_
      obtain ⟨hg38, hf⟩ := gd_o hf
      refine va_tb hx hb hK.o.2 hS hg38 rfl dJ6_getChars_ba4f3_54 ?_
      obtain ⟨hg39, hf⟩ := gd_o hf
      obtain ⟨hg40, hf⟩ := gd_o hf
      refine hg_bast hx hb hK hH hS hg39 hg40 dJ6_getChars_ba4f3_55 (fun H locs hH hS => ?_)
      obtain ⟨M41, eM41, hf⟩ := nm_o hf
      rw [← eM41] at hH
      refine lv_aload_n hx hb dJ6_getChars_ba4f3_56 rfl (lv_at hl 4 rfl) ?_
      refine lv_iinc (v := (a5 + (-1 : Int32)) + (-1 : Int32)) (lv' := [(5, .int ((a5 + (-1 : Int32)) + (-1 : Int32))), (0, .int (a0 / (100 : Int32))), (4, .int (((a0 / (100 : Int32)) * (100 : Int32)) - a0)), (3, .int (a0 / (100 : Int32))), (2, .ref q), (6, .int a6)]) hx hb dJ6_getChars_ba4f3_57 hl (k := 0) rfl rfl (by decide) rfl (fun ls hl => ?_)
      refine lv_iload hx hb dJ6_getChars_ba4f3_60 (lv_at hl 0 rfl) ?_
      refine va_gets hx hb hK.t.1 hS hown (hA _ zt_1250) (fun _ h => h) dJ6_getChars_ba4f3_62 ?_
      refine lv_iload hx hb dJ6_getChars_ba4f3_65 (lv_at hl 2 rfl) ?_
      obtain ⟨hg42, hf⟩ := gd_o hf
      refine va_tb hx hb hK.t.2 hS hg42 rfl dJ6_getChars_ba4f3_67 ?_
      obtain ⟨hg43, hf⟩ := gd_o hf
      obtain ⟨hg44, hf⟩ := gd_o hf
      refine hg_bast hx hb hK hH hS hg43 hg44 dJ6_getChars_ba4f3_68 (fun H locs hH hS => ?_)
      obtain ⟨M45, eM45, hf⟩ := nm_o hf
      rw [← eM45] at hH
      refine lv_goto (tgt := 22) hx hb dJ6_getChars_ba4f3_69 (by decide) ?_
      exact ih M45 (a0 / (100 : Int32)) ((a5 + (-1 : Int32)) + (-1 : Int32)) a6 hf _ _ _ hH hS (lv_sub hl [1, 4, 0, 5] rfl)
def f_J6_getChars_ba4f3_12 (M : Mem) (a0 : Int32) (a5 : Int32) (b0 : Int32) : Option (Int32 × Mem) := (if b0 = 0 then f_J6_getChars_ba4f3_22 FU M (-a0) a5 b0 else f_J6_getChars_ba4f3_22 FU M a0 a5 b0)
set_option maxHeartbeats 4000000 in
set_option maxRecDepth 100000 in
theorem w_J6_getChars_ba4f3_12 {Y : LY} {p : Program} {l : Launch} {e : Env} {s : State} {m : MethodId} {args : Array Value} {below : List Frame} {meth : Method} {c : Code} (C0 : BE Y p s m args meth c cJ6_getChars_ba4f3 7 (Option.some Jvm.ClassFile.FieldType.int) RJ6) {q : Nat} {r : Int32} {MZ : Mem} : ∀ (M : Mem) (a0 : Int32) (a5 : Int32) (b0 : Int32), f_J6_getChars_ba4f3_12 M a0 a5 b0 = some (r, MZ) → ∀ (H : Heap) (locs : List Loc) (ls : Array Slot), HS0 (YS Y q) M H → va_S (AZ Y) s.heap H locs → lv_has ls 7 [(0, .int a0), (2, .ref q), (5, .int a5)] → W p l e { frames := 0, cells := 0, slots := 0, locals := 0 } s m args below meth c H locs 0 0 (MQ below (QiP Y r (HS0 (YS Y q) MZ)) args s 0 0 (AZ Y)) (F0 m 12 ls [.int b0]) := by
  obtain ⟨hx, hb, hr, hml, hown, hA, hlocks, hK, hZ⟩ := id C0
  intro M a0 a5 b0 hf H locs ls hH hS hl
  unfold f_J6_getChars_ba4f3_12 at hf
  refine lv_istore (lv' := [(6, .int b0), (0, .int a0), (2, .ref q), (5, .int a5)]) hx hb dJ6_getChars_ba4f3_12 hl (by decide) rfl (fun ls hl => ?_)
  refine lv_iload hx hb dJ6_getChars_ba4f3_14 (lv_at hl 0 rfl) ?_
  refine lv_if_ne (tgt := 22) hx hb dJ6_getChars_ba4f3_16 (by decide) (fun hc47 => ?_) (fun hc47 => ?_)
  · have hf := if_f hf hc47
    exact w_J6_getChars_ba4f3_22 C0 FU M a0 a5 b0 hf _ _ _ hH hS (lv_sub hl [1, 2, 3, 0] rfl)
  · have hf := if_t hf hc47
    refine lv_iload_n hx hb dJ6_getChars_ba4f3_19 rfl (lv_at hl 1 rfl) ?_
    refine lv_ineg hx hb dJ6_getChars_ba4f3_20 ?_
    refine lv_istore_n (lv' := [(0, .int (-a0)), (6, .int b0), (2, .ref q), (5, .int a5)]) hx hb dJ6_getChars_ba4f3_21 rfl hl (by decide) rfl (fun ls hl => ?_)
    exact w_J6_getChars_ba4f3_22 C0 FU M (-a0) a5 b0 hf _ _ _ hH hS (lv_sub hl [0, 2, 3, 1] rfl)
def f_J6_getChars_ba4f3 (M : Mem) (a0 : Int32) (a1 : Int32) : Option (Int32 × Mem) := (if 0 ≤ a0 then f_J6_getChars_ba4f3_12 M a0 a1 (0 : Int32) else f_J6_getChars_ba4f3_12 M a0 a1 (1 : Int32))
set_option maxHeartbeats 4000000 in
set_option maxRecDepth 100000 in
theorem c_J6_getChars_ba4f3 {Y : LY} {l : Launch} {q : Nat} (M : Mem) (a0 : Int32) (a1 : Int32) {r : Int32} {MZ : Mem} (hf : f_J6_getChars_ba4f3 M a0 a1 = some (r, MZ)) : Met l yJ6_getChars_ba4f3 (WS yJ6_getChars_ba4f3 cJ6_getChars_ba4f3 7 (Option.some Jvm.ClassFile.FieldType.int)) { frames := 0, cells := 0, slots := 0, locals := 0 } (PcP Y (HS0 (YS Y q) M) [.int a0, .int a1, .ref q]) (QiP Y r (HS0 (YS Y q) MZ)) 0 0 (AZ Y) := by
  refine met_mk (lv := [(0, .int a0), (1, .int a1), (2, .ref q)]) [.int a0, .int a1, .ref q] (by decide) rfl rfl (Nat.le_of_ble_eq_true rfl) (fun p e s m below meth c C0 hH ls hl => ?_)
  have hS : va_S (AZ Y) s.heap s.heap [] := va_S.rf
  obtain ⟨hx, hb, hr, hml, hown, hA, hlocks, hK, hZ⟩ := id C0
  unfold f_J6_getChars_ba4f3 at hf
  refine lv_iload_n hx hb dJ6_getChars_ba4f3_0 rfl (lv_at hl 1 rfl) ?_
  refine lv_istore (lv' := [(5, .int a1), (0, .int a0), (1, .int a1), (2, .ref q)]) hx hb dJ6_getChars_ba4f3_1 hl (by decide) rfl (fun ls hl => ?_)
  refine lv_iload_n hx hb dJ6_getChars_ba4f3_3 rfl (lv_at hl 1 rfl) ?_
  refine lv_if_ge (tgt := 11) hx hb dJ6_getChars_ba4f3_4 (by decide) (fun hc48 => ?_) (fun hc48 => ?_)
  · have hf := if_t hf hc48
    refine lv_iconst (v := (0 : Int32)) hx hb dJ6_getChars_ba4f3_11 (by decide) ?_
    exact w_J6_getChars_ba4f3_12 C0 M a0 a1 (0 : Int32) hf _ _ _ hH hS (lv_sub hl [1, 3, 0] rfl)
  · have hf := if_f hf hc48
    refine lv_iconst (v := (1 : Int32)) hx hb dJ6_getChars_ba4f3_7 (by decide) ?_
    refine lv_goto (tgt := 12) hx hb dJ6_getChars_ba4f3_8 (by decide) ?_
    exact w_J6_getChars_ba4f3_12 C0 M a0 a1 (1 : Int32) hf _ _ _ hH hS (lv_sub hl [1, 3, 0] rfl)
def f_J0_coder_7d493 (M : Mem) (i0 : Nat) : Option Int32 := (if (1 : Int32) = 0 then some (1 : Int32) else some (0 : Int32))
set_option maxHeartbeats 4000000 in
set_option maxRecDepth 100000 in
theorem c_J0_coder_7d493 {Y : LY} {l : Launch} {P : Heap → Prop} (M : Mem) (i0 : Nat) (hi0 : i0 < 18) {r : Int32} (hf : f_J0_coder_7d493 M i0 = some r) : Met l yJ0_coder_7d493 (WS yJ0_coder_7d493 cJ0_coder_7d493 1 (Option.some Jvm.ClassFile.FieldType.byte)) { frames := 0, cells := 0, slots := 0, locals := 0 } (PcP Y (P) [.ref (YK Y i0)]) (QiP Y r (P)) 0 0 (AZ Y) := by
  refine met_mk (lv := [(0, .ref (YK Y i0))]) [.ref (YK Y i0)] (by decide) rfl rfl (Nat.le_of_ble_eq_true rfl) (fun p e s m below meth c C0 hH ls hl => ?_)
  have hS : va_S (AZ Y) s.heap s.heap [] := va_S.rf
  obtain ⟨hx, hb, hr, hml, hown, hA, hlocks, hK, hZ⟩ := id C0
  unfold f_J0_coder_7d493 at hf
  refine va_gets hx hb hK.z hS hown (hA _ zt_1200) (fun _ h => h) dJ0_coder_7d493_0 ?_
  refine lv_if_eq (tgt := 13) hx hb dJ0_coder_7d493_3 (by decide) (fun hc2 => ?_) (fun hc2 => ?_)
  · have hf := if_t hf hc2
    refine lv_iconst (v := (1 : Int32)) hx hb dJ0_coder_7d493_13 (by decide) ?_
    obtain rfl := Option.some.inj hf
    exact hs_bret C0 hH hS (by decide) (by decide) (by decide) dJ0_coder_7d493_14
  · have hf := if_f hf hc2
    refine lv_aload_n hx hb dJ0_coder_7d493_6 rfl (lv_at hl 0 rfl) ?_
    refine vk_getf hx hb (hK.s0 (show i0 < 18 from by omega)) hS hown (hA _ zt_1317) (fun _ h => h) dJ0_coder_7d493_7 ?_
    refine lv_goto (tgt := 14) hx hb dJ0_coder_7d493_10 (by decide) ?_
    obtain rfl := Option.some.inj hf
    exact hs_bret C0 hH hS (by decide) (by decide) (by decide) dJ0_coder_7d493_14
def f_J0_length_8abf5 (M : Mem) (i0 : Nat) : Option Int32 := bd (f_J0_coder_7d493 M i0) fun r4 => some ((nI (cLen.getD i0 0)) >>> (r4 &&& 31))
set_option maxHeartbeats 4000000 in
set_option maxRecDepth 100000 in
theorem c_J0_length_8abf5 {Y : LY} {l : Launch} {P : Heap → Prop} (M : Mem) (i0 : Nat) (hi0 : i0 < 18) {r : Int32} (hf : f_J0_length_8abf5 M i0 = some r) : Met l yJ0_length_8abf5 (WS yJ0_length_8abf5 cJ0_length_8abf5 1 (Option.some Jvm.ClassFile.FieldType.int)) { frames := 1, cells := 0, slots := 0, locals := 20 } (PcP Y (P) [.ref (YK Y i0)]) (QiP Y r (P)) 0 0 (AZ Y) := by
  refine met_mk (lv := [(0, .ref (YK Y i0))]) [.ref (YK Y i0)] (by decide) rfl rfl (Nat.le_of_ble_eq_true rfl) (fun p e s m below meth c C0 hH ls hl => ?_)
  have hS : va_S (AZ Y) s.heap s.heap [] := va_S.rf
  obtain ⟨hx, hb, hr, hml, hown, hA, hlocks, hK, hZ⟩ := id C0
  unfold f_J0_length_8abf5 at hf
  refine lv_aload_n hx hb dJ0_length_8abf5_0 rfl (lv_at hl 0 rfl) ?_
  refine vk_getf hx hb (hK.s1 (show i0 < 18 from by omega)) hS hown (hA _ zt_1316) (fun _ h => h) dJ0_length_8abf5_1 ?_
  refine va_tlen hx hb (hK.s2 (show i0 < 18 from by omega)) hS (v := nI (cLen.getD i0 0)) rfl dJ0_length_8abf5_4 ?_
  refine lv_aload_n hx hb dJ0_length_8abf5_5 rfl (lv_at hl 0 rfl) ?_
  obtain ⟨r4, hq3, hf⟩ := bd_o hf
  refine hs_ci (hs_runV C0 hH hS (n := 0) (As := []) (rest := [.int (nI (cLen.getD i0 0))]) (c_J0_coder_7d493 M i0 (show i0 < 18 from by omega) hq3) ⟨⟨zt_1196, zt_1197, zt_1198, zt_11, zt_1199⟩, rfl, by decide, by decide, by decide +kernel⟩ ⟨rfl, rfl, Nat.le_of_ble_eq_true rfl, Nat.le_of_ble_eq_true rfl⟩ (vk_recv hK.s (show i0 < 18 from by omega) hS) rfl rfl hl.1 (Nat.le_of_ble_eq_true rfl) ⟨Nat.le_of_ble_eq_true rfl, Nat.le_of_ble_eq_true rfl⟩ dJ0_length_8abf5_6) hS (fun H locs hH hS => ?_)
  refine lv_ishr hx hb dJ0_length_8abf5_9 ?_
  obtain rfl := Option.some.inj hf
  exact hs_iret C0 hH hS (by decide) (by decide) dJ0_length_8abf5_10
def f_J5_inflateIfNeededFor_a7421 (M : Mem) (i1 : Nat) : Option Unit := (if (1 : Int32) = 0 then some () else bd (f_J0_coder_7d493 M i1) fun r6 => (if (0 : Int32) = r6 then some () else none))
set_option maxHeartbeats 4000000 in
set_option maxRecDepth 100000 in
theorem c_J5_inflateIfNeededFor_a7421 {Y : LY} {l : Launch} {q : Nat} (M : Mem) (i1 : Nat) (hi1 : i1 < 18) (hf : f_J5_inflateIfNeededFor_a7421 M i1 = some ()) : Met l yJ5_inflateIfNeededFor_a7421 (WS yJ5_inflateIfNeededFor_a7421 cJ5_inflateIfNeededFor_a7421 2 (Option.none : Option Jvm.ClassFile.FieldType)) { frames := 1, cells := 0, slots := 0, locals := 20 } (PcP Y (HS0 (YS Y q) M) [.ref (YA Y 19 0), .ref (YK Y i1)]) (QvP Y (HS0 (YS Y q) M)) 0 0 (AZ Y) := by
  refine met_mk (lv := [(0, .ref (YA Y 19 0)), (1, .ref (YK Y i1))]) [.ref (YA Y 19 0), .ref (YK Y i1)] (by decide) rfl rfl (Nat.le_of_ble_eq_true rfl) (fun p e s m below meth c C0 hH ls hl => ?_)
  have hS : va_S (AZ Y) s.heap s.heap [] := va_S.rf
  obtain ⟨hx, hb, hr, hml, hown, hA, hlocks, hK, hZ⟩ := id C0
  unfold f_J5_inflateIfNeededFor_a7421 at hf
  refine va_gets hx hb hK.z hS hown (hA _ zt_268) (fun _ h => h) dJ5_inflateIfNeededFor_a7421_0 ?_
  refine lv_if_eq (tgt := 21) hx hb dJ5_inflateIfNeededFor_a7421_3 (by decide) (fun hc8 => ?_) (fun hc8 => ?_)
  · have hf := if_t hf hc8
    exact hs_vret C0 hH hS (by decide) (by decide) dJ5_inflateIfNeededFor_a7421_21
  · have hf := if_f hf hc8
    refine lv_aload_n hx hb dJ5_inflateIfNeededFor_a7421_6 rfl (lv_at hl 0 rfl) ?_
    refine hg_get hx hb hA hown hK hH 1 (by decide) (hA _ zt_278) rfl rfl dJ5_inflateIfNeededFor_a7421_7 ?_
    refine lv_aload_n hx hb dJ5_inflateIfNeededFor_a7421_10 rfl (lv_at hl 1 rfl) ?_
    obtain ⟨r6, hq5, hf⟩ := bd_o hf
    refine hs_ci (hs_runV C0 hH hS (n := 0) (As := []) (rest := [.int (0 : Int32)]) (c_J0_coder_7d493 M i1 (show i1 < 18 from by omega) hq5) ⟨⟨zt_1209, zt_1197, zt_1198, zt_11, zt_1199⟩, rfl, by decide, by decide, by decide +kernel⟩ ⟨rfl, rfl, Nat.le_of_ble_eq_true rfl, Nat.le_of_ble_eq_true rfl⟩ (vk_recv hK.s (show i1 < 18 from by omega) hS) rfl rfl hl.1 (Nat.le_of_ble_eq_true rfl) ⟨Nat.le_of_ble_eq_true rfl, Nat.le_of_ble_eq_true rfl⟩ dJ5_inflateIfNeededFor_a7421_11) hS (fun H locs hH hS => ?_)
    refine lv_icmp_eq (tgt := 21) hx hb dJ5_inflateIfNeededFor_a7421_14 (by decide) (fun hc7 => ?_) (fun hc7 => ?_)
    · have hf := if_t hf hc7
      exact hs_vret C0 hH hS (by decide) (by decide) dJ5_inflateIfNeededFor_a7421_21
    · have hf := if_f hf hc7
      refine lv_aload_n hx hb dJ5_inflateIfNeededFor_a7421_17 rfl (lv_at hl 0 rfl) ?_
      cases hf
def f_J0_getBytes_840e7 (M : Mem) (i0 : Nat) (a2 : Int32) (a3 : Int32) : Option Mem := bd (f_J0_coder_7d493 M i0) fun r11 => (if r11 = a3 then if ¬ (a2 <<< (a3 &&& 31)) < 0 then (if ¬ (nI (cLen.getD i0 0)) < 0 then (if ix (nI (cLen.getD i0 0)) ≤ cLen.getD i0 0 then (if ix (a2 <<< (a3 &&& 31)) + ix (nI (cLen.getD i0 0)) ≤ ix (M 34 0 100000) then (if ix (M 34 0 100000) ≤ 100000 then (nm (mcp M (fun j => (cByt.getD i0 []).getD j 0) (ix (a2 <<< (a3 &&& 31))) (ix (nI (cLen.getD i0 0)))) fun M17 => some M17) else none) else none) else none) else none) else none else none)
set_option maxHeartbeats 4000000 in
set_option maxRecDepth 100000 in
theorem c_J0_getBytes_840e7 {Y : LY} {l : Launch} {q : Nat} (M : Mem) (i0 : Nat) (a2 : Int32) (a3 : Int32) (hi0 : i0 < 18) {MZ : Mem} (hf : f_J0_getBytes_840e7 M i0 a2 a3 = some MZ) : Met l yJ0_getBytes_840e7 (WS yJ0_getBytes_840e7 cJ0_getBytes_840e7 4 (Option.none : Option Jvm.ClassFile.FieldType)) { frames := 1, cells := 0, slots := 0, locals := 60 } (PcP Y (HS0 (YS Y q) M) [.ref (YK Y i0), .ref q, .int a2, .int a3]) (QvP Y (HS0 (YS Y q) MZ)) 0 0 (AZ Y) := by
  refine met_mk (lv := [(0, .ref (YK Y i0)), (1, .ref q), (2, .int a2), (3, .int a3)]) [.ref (YK Y i0), .ref q, .int a2, .int a3] (by decide) rfl rfl (Nat.le_of_ble_eq_true rfl) (fun p e s m below meth c C0 hH ls hl => ?_)
  have hS : va_S (AZ Y) s.heap s.heap [] := va_S.rf
  obtain ⟨hx, hb, hr, hml, hown, hA, hlocks, hK, hZ⟩ := id C0
  unfold f_J0_getBytes_840e7 at hf
  refine lv_aload_n hx hb dJ0_getBytes_840e7_0 rfl (lv_at hl 0 rfl) ?_
  obtain ⟨r11, hq10, hf⟩ := bd_o hf
  refine hs_ci (hs_runV C0 hH hS (n := 0) (As := []) (rest := []) (c_J0_coder_7d493 M i0 (show i0 < 18 from by omega) hq10) ⟨⟨zt_1196, zt_1197, zt_1198, zt_11, zt_1199⟩, rfl, by decide, by decide, by decide +kernel⟩ ⟨rfl, rfl, Nat.le_of_ble_eq_true rfl, Nat.le_of_ble_eq_true rfl⟩ (vk_recv hK.s (show i0 < 18 from by omega) hS) rfl rfl hl.1 (Nat.le_of_ble_eq_true rfl) ⟨Nat.le_of_ble_eq_true rfl, Nat.le_of_ble_eq_true rfl⟩ dJ0_getBytes_840e7_1) hS (fun H locs hH hS => ?_)
  refine lv_iload_n hx hb dJ0_getBytes_840e7_4 rfl (lv_at hl 3 rfl) ?_
  refine lv_icmp_ne (tgt := 28) hx hb dJ0_getBytes_840e7_5 (by decide) (fun hc18 => ?_) (fun hc18 => ?_)
  · have hf := if_f hf hc18
    refine lv_aload_n hx hb dJ0_getBytes_840e7_28 rfl (lv_at hl 0 rfl) ?_
    refine vk_getf hx hb (hK.s1 (show i0 < 18 from by omega)) hS hown (hA _ zt_1316) (fun _ h => h) dJ0_getBytes_840e7_29 ?_
    refine lv_iconst (v := (0 : Int32)) hx hb dJ0_getBytes_840e7_32 (by decide) ?_
    refine lv_aload_n hx hb dJ0_getBytes_840e7_33 rfl (lv_at hl 1 rfl) ?_
    refine lv_iload_n hx hb dJ0_getBytes_840e7_34 rfl (lv_at hl 2 rfl) ?_
    refine lv_aload_n hx hb dJ0_getBytes_840e7_35 rfl (lv_at hl 0 rfl) ?_
    refine vk_getf hx hb (hK.s1 (show i0 < 18 from by omega)) hS hown (hA _ zt_1316) (fun _ h => h) dJ0_getBytes_840e7_36 ?_
    refine va_tlen hx hb (hK.s2 (show i0 < 18 from by omega)) hS (v := nI (cLen.getD i0 0)) rfl dJ0_getBytes_840e7_39 ?_
    cases hf
  · have hf := if_t hf hc18
    refine lv_aload_n hx hb dJ0_getBytes_840e7_8 rfl (lv_at hl 0 rfl) ?_
    refine vk_getf hx hb (hK.s1 (show i0 < 18 from by omega)) hS hown (hA _ zt_1316) (fun _ h => h) dJ0_getBytes_840e7_9 ?_
    refine lv_iconst (v := (0 : Int32)) hx hb dJ0_getBytes_840e7_12 (by decide) ?_
    refine lv_aload_n hx hb dJ0_getBytes_840e7_13 rfl (lv_at hl 1 rfl) ?_
    refine lv_iload_n hx hb dJ0_getBytes_840e7_14 rfl (lv_at hl 2 rfl) ?_
    refine lv_iload_n hx hb dJ0_getBytes_840e7_15 rfl (lv_at hl 3 rfl) ?_
    refine lv_ishl hx hb dJ0_getBytes_840e7_16 ?_
    refine lv_aload_n hx hb dJ0_getBytes_840e7_17 rfl (lv_at hl 0 rfl) ?_
    refine vk_getf hx hb (hK.s1 (show i0 < 18 from by omega)) hS hown (hA _ zt_1316) (fun _ h => h) dJ0_getBytes_840e7_18 ?_
    refine va_tlen hx hb (hK.s2 (show i0 < 18 from by omega)) hS (v := nI (cLen.getD i0 0)) rfl dJ0_getBytes_840e7_21 ?_
    obtain ⟨hg12, hf⟩ := gd_o hf
    obtain ⟨hg13, hf⟩ := gd_o hf
    obtain ⟨hg14, hf⟩ := gd_o hf
    obtain ⟨hg15, hf⟩ := gd_o hf
    obtain ⟨hg16, hf⟩ := gd_o hf
    refine hg_copy hx hb (by rw [hml]; exact hl.1.symm) hown (hA _ zt_1233) (hA _ zt_1160) (hA _ zt_1159) (hA _ zt_27) hK hH hS (show i0 < 18 from by omega) hg12 hg13 hg14 hg15 hg16 (Nat.le_of_ble_eq_true rfl) (Nat.le_of_ble_eq_true rfl) dJ0_getBytes_840e7_22 (fun H locs hH hS => ?_)
    obtain ⟨M17, eM17, hf⟩ := nm_o hf
    rw [← eM17] at hH
    refine lv_goto (tgt := 43) hx hb dJ0_getBytes_840e7_25 (by decide) ?_
    obtain rfl := Option.some.inj hf
    exact hs_vret C0 hH hS (by decide) (by decide) dJ0_getBytes_840e7_43
def f_J5_putStringAt_47b60 (M : Mem) (a1 : Int32) (i2 : Nat) : Option Mem := bd (f_J5_inflateIfNeededFor_a7421 M i2) fun _ => bd (f_J0_getBytes_840e7 M i2 a1 (0 : Int32)) fun M9 => some M9
set_option maxHeartbeats 4000000 in
set_option maxRecDepth 100000 in
theorem c_J5_putStringAt_47b60 {Y : LY} {l : Launch} {q : Nat} (M : Mem) (a1 : Int32) (i2 : Nat) (hi2 : i2 < 18) {MZ : Mem} (hf : f_J5_putStringAt_47b60 M a1 i2 = some MZ) : Met l yJ5_putStringAt_47b60 (WS yJ5_putStringAt_47b60 cJ5_putStringAt_47b60 3 (Option.none : Option Jvm.ClassFile.FieldType)) { frames := 2, cells := 0, slots := 0, locals := 83 } (PcP Y (HS0 (YS Y q) M) [.ref (YA Y 19 0), .int a1, .ref (YK Y i2)]) (QvP Y (HS0 (YS Y q) MZ)) 0 0 (AZ Y) := by
  refine met_mk (lv := [(0, .ref (YA Y 19 0)), (1, .int a1), (2, .ref (YK Y i2))]) [.ref (YA Y 19 0), .int a1, .ref (YK Y i2)] (by decide) rfl rfl (Nat.le_of_ble_eq_true rfl) (fun p e s m below meth c C0 hH ls hl => ?_)
  have hS : va_S (AZ Y) s.heap s.heap [] := va_S.rf
  obtain ⟨hx, hb, hr, hml, hown, hA, hlocks, hK, hZ⟩ := id C0
  unfold f_J5_putStringAt_47b60 at hf
  refine lv_aload_n hx hb dJ5_putStringAt_47b60_0 rfl (lv_at hl 0 rfl) ?_
  refine lv_aload_n hx hb dJ5_putStringAt_47b60_1 rfl (lv_at hl 2 rfl) ?_
  obtain ⟨_, hq6, hf⟩ := bd_o hf
  refine hs_cv (hs_runU C0 hH hS (n := 1) (As := [.ref (YK Y i2)]) (rest := []) (c_J5_inflateIfNeededFor_a7421 M i2 (show i2 < 18 from by omega) hq6) ⟨⟨zt_1205, zt_2073, zt_1207, zt_9, zt_1208⟩, ⟨by decide, by decide⟩, by decide +kernel⟩ (va_Nw.use rfl (hK.p _ (List.mem_of_getElem? (i := 3) rfl))) ⟨rfl, rfl, Nat.le_of_ble_eq_true rfl, Nat.le_of_ble_eq_true rfl⟩ (hg_recv hK hH) rfl rfl hl.1 (Nat.le_of_ble_eq_true rfl) ⟨Nat.le_of_ble_eq_true rfl, Nat.le_of_ble_eq_true rfl⟩ dJ5_putStringAt_47b60_2) hS (fun H locs hH hS => ?_)
  refine lv_aload_n hx hb dJ5_putStringAt_47b60_5 rfl (lv_at hl 2 rfl) ?_
  refine lv_aload_n hx hb dJ5_putStringAt_47b60_6 rfl (lv_at hl 0 rfl) ?_
  refine hg_get hx hb hA hown hK hH 0 (by decide) (hA _ zt_277) rfl rfl dJ5_putStringAt_47b60_7 ?_
  refine lv_iload_n hx hb dJ5_putStringAt_47b60_10 rfl (lv_at hl 1 rfl) ?_
  refine lv_aload_n hx hb dJ5_putStringAt_47b60_11 rfl (lv_at hl 0 rfl) ?_
  refine hg_get hx hb hA hown hK hH 1 (by decide) (hA _ zt_278) rfl rfl dJ5_putStringAt_47b60_12 ?_
  obtain ⟨M9, hq8, hf⟩ := bd_o hf
  refine hs_cv (hs_runV C0 hH hS (n := 3) (As := [.ref q, .int a1, .int (0 : Int32)]) (rest := []) (c_J0_getBytes_840e7 M i2 a1 (0 : Int32) (show i2 < 18 from by omega) hq8) ⟨⟨zt_1229, zt_1230, zt_1231, zt_11, zt_1232⟩, rfl, by decide, by decide, by decide +kernel⟩ ⟨rfl, rfl, Nat.le_of_ble_eq_true rfl, Nat.le_of_ble_eq_true rfl⟩ (vk_recv hK.s (show i2 < 18 from by omega) hS) rfl rfl hl.1 (Nat.le_of_ble_eq_true rfl) ⟨Nat.le_of_ble_eq_true rfl, Nat.le_of_ble_eq_true rfl⟩ dJ5_putStringAt_47b60_15) hS (fun H locs hH hS => ?_)
  obtain rfl := Option.some.inj hf
  exact hs_vret C0 hH hS (by decide) (by decide) dJ5_putStringAt_47b60_18
def f_J0_isLatin1_aae02 (M : Mem) (i0 : Nat) : Option Int32 := (if (1 : Int32) = 0 then some (0 : Int32) else (if (0 : Int32) = 0 then some (1 : Int32) else some (0 : Int32)))
set_option maxHeartbeats 4000000 in
set_option maxRecDepth 100000 in
theorem c_J0_isLatin1_aae02 {Y : LY} {l : Launch} {P : Heap → Prop} (M : Mem) (i0 : Nat) (hi0 : i0 < 18) {r : Int32} (hf : f_J0_isLatin1_aae02 M i0 = some r) : Met l yJ0_isLatin1_aae02 (WS yJ0_isLatin1_aae02 cJ0_isLatin1_aae02 1 (Option.some Jvm.ClassFile.FieldType.boolean)) { frames := 0, cells := 0, slots := 0, locals := 0 } (PcP Y (P) [.ref (YK Y i0)]) (QiP Y r (P)) 0 0 (AZ Y) := by
  refine met_mk (lv := [(0, .ref (YK Y i0))]) [.ref (YK Y i0)] (by decide) rfl rfl (Nat.le_of_ble_eq_true rfl) (fun p e s m below meth c C0 hH ls hl => ?_)
  have hS : va_S (AZ Y) s.heap s.heap [] := va_S.rf
  obtain ⟨hx, hb, hr, hml, hown, hA, hlocks, hK, hZ⟩ := id C0
  unfold f_J0_isLatin1_aae02 at hf
  refine va_gets hx hb hK.z hS hown (hA _ zt_1200) (fun _ h => h) dJ0_isLatin1_aae02_0 ?_
  refine lv_if_eq (tgt := 17) hx hb dJ0_isLatin1_aae02_3 (by decide) (fun hc4 => ?_) (fun hc4 => ?_)
  · have hf := if_t hf hc4
    refine lv_iconst (v := (0 : Int32)) hx hb dJ0_isLatin1_aae02_17 (by decide) ?_
    obtain rfl := Option.some.inj hf
    exact hs_zret C0 hH hS (by decide) (by decide) (by decide) dJ0_isLatin1_aae02_18
  · have hf := if_f hf hc4
    refine lv_aload_n hx hb dJ0_isLatin1_aae02_6 rfl (lv_at hl 0 rfl) ?_
    refine vk_getf hx hb (hK.s0 (show i0 < 18 from by omega)) hS hown (hA _ zt_1317) (fun _ h => h) dJ0_isLatin1_aae02_7 ?_
    refine lv_if_ne (tgt := 17) hx hb dJ0_isLatin1_aae02_10 (by decide) (fun hc3 => ?_) (fun hc3 => ?_)
    · have hf := if_f hf hc3
      refine lv_iconst (v := (0 : Int32)) hx hb dJ0_isLatin1_aae02_17 (by decide) ?_
      obtain rfl := Option.some.inj hf
      exact hs_zret C0 hH hS (by decide) (by decide) (by decide) dJ0_isLatin1_aae02_18
    · have hf := if_t hf hc3
      refine lv_iconst (v := (1 : Int32)) hx hb dJ0_isLatin1_aae02_13 (by decide) ?_
      refine lv_goto (tgt := 18) hx hb dJ0_isLatin1_aae02_14 (by decide) ?_
      obtain rfl := Option.some.inj hf
      exact hs_zret C0 hH hS (by decide) (by decide) (by decide) dJ0_isLatin1_aae02_18
def f_J1_charAt_3b067 (M : Mem) (i0 : Nat) (a1 : Int32) : Option Int32 := bd (f_J0_checkIndex_df160 M a1 (nI (cLen.getD i0 0))) fun _ => if vin a1 (cLen.getD i0 0) then (if isC ((((((cByt.getD i0 []).getD (ix a1) 0) &&& (255 : Int32))).toUInt32 % 65536).toInt32) then some ((((((cByt.getD i0 []).getD (ix a1) 0) &&& (255 : Int32))).toUInt32 % 65536).toInt32) else none) else none
set_option maxHeartbeats 4000000 in
set_option maxRecDepth 100000 in
theorem c_J1_charAt_3b067 {Y : LY} {l : Launch} {P : Heap → Prop} (M : Mem) (i0 : Nat) (a1 : Int32) (hi0 : i0 < 18) {r : Int32} (hf : f_J1_charAt_3b067 M i0 a1 = some r) : Met l yJ1_charAt_3b067 (WS yJ1_charAt_3b067 cJ1_charAt_3b067 2 (Option.some Jvm.ClassFile.FieldType.char)) { frames := 2, cells := 0, slots := 0, locals := 43 } (PcP Y (P) [.ref (YV Y i0), .int a1]) (QiP Y r (P)) 0 0 (AZ Y) := by
  refine met_mk (lv := [(0, .ref (YV Y i0)), (1, .int a1)]) [.ref (YV Y i0), .int a1] (by decide) rfl rfl (Nat.le_of_ble_eq_true rfl) (fun p e s m below meth c C0 hH ls hl => ?_)
  have hS : va_S (AZ Y) s.heap s.heap [] := va_S.rf
  obtain ⟨hx, hb, hr, hml, hown, hA, hlocks, hK, hZ⟩ := id C0
  unfold f_J1_charAt_3b067 at hf
  refine lv_iload_n hx hb dJ1_charAt_3b067_0 rfl (lv_at hl 1 rfl) ?_
  refine lv_aload_n hx hb dJ1_charAt_3b067_1 rfl (lv_at hl 0 rfl) ?_
  refine va_tlen hx hb (hK.s2 (show i0 < 18 from by omega)) hS (v := nI (cLen.getD i0 0)) rfl dJ1_charAt_3b067_2 ?_
  obtain ⟨_, hq5, hf⟩ := bd_o hf
  refine hs_cv (hs_runS C0 hH hS (n := 2) (As := [.int a1, .int (nI (cLen.getD i0 0))]) (rest := []) (c_J0_checkIndex_df160 M a1 (nI (cLen.getD i0 0)) hq5) ⟨⟨zt_1484, zt_1378, zt_11, zt_1379⟩, by decide, by decide, by decide +kernel⟩ ⟨rfl, rfl, Nat.le_of_ble_eq_true rfl, Nat.le_of_ble_eq_true rfl⟩ rfl rfl hl.1 (Nat.le_of_ble_eq_true rfl) ⟨Nat.le_of_ble_eq_true rfl, Nat.le_of_ble_eq_true rfl⟩ dJ1_charAt_3b067_3) hS (fun H locs hH hS => ?_)
  refine lv_aload_n hx hb dJ1_charAt_3b067_6 rfl (lv_at hl 0 rfl) ?_
  refine lv_iload_n hx hb dJ1_charAt_3b067_7 rfl (lv_at hl 1 rfl) ?_
  obtain ⟨hg7, hf⟩ := gd_o hf
  refine va_tb hx hb (hK.s2 (show i0 < 18 from by omega)) hS hg7 rfl dJ1_charAt_3b067_8 ?_
  refine lv_sipush (v := (255 : Int32)) hx hb dJ1_charAt_3b067_9 (by decide) ?_
  refine lv_iand hx hb dJ1_charAt_3b067_12 ?_
  refine lv_i2c (v := (((((cByt.getD i0 []).getD (ix a1) 0) &&& (255 : Int32))).toUInt32 % 65536).toInt32) hx hb dJ1_charAt_3b067_13 rfl ?_
  obtain ⟨hg8, hf⟩ := gd_o hf
  obtain rfl := Option.some.inj hf
  exact hs_cret C0 hH hS (by decide) (by decide) hg8 dJ1_charAt_3b067_14
def f_J0_charAt_5068e (M : Mem) (i0 : Nat) (a1 : Int32) : Option Int32 := bd (f_J0_isLatin1_aae02 M i0) fun r8 => (if r8 = 0 then none else bd (f_J1_charAt_3b067 M i0 a1) fun r10 => if isC r10 then some r10 else none)
set_option maxHeartbeats 4000000 in
set_option maxRecDepth 100000 in
theorem c_J0_charAt_5068e {Y : LY} {l : Launch} {P : Heap → Prop} (M : Mem) (i0 : Nat) (a1 : Int32) (hi0 : i0 < 18) {r : Int32} (hf : f_J0_charAt_5068e M i0 a1 = some r) : Met l yJ0_charAt_5068e (WS yJ0_charAt_5068e cJ0_charAt_5068e 2 (Option.some Jvm.ClassFile.FieldType.char)) { frames := 3, cells := 0, slots := 0, locals := 64 } (PcP Y (P) [.ref (YK Y i0), .int a1]) (QiP Y r (P)) 0 0 (AZ Y) := by
  refine met_mk (lv := [(0, .ref (YK Y i0)), (1, .int a1)]) [.ref (YK Y i0), .int a1] (by decide) rfl rfl (Nat.le_of_ble_eq_true rfl) (fun p e s m below meth c C0 hH ls hl => ?_)
  have hS : va_S (AZ Y) s.heap s.heap [] := va_S.rf
  obtain ⟨hx, hb, hr, hml, hown, hA, hlocks, hK, hZ⟩ := id C0
  unfold f_J0_charAt_5068e at hf
  refine lv_aload_n hx hb dJ0_charAt_5068e_0 rfl (lv_at hl 0 rfl) ?_
  obtain ⟨r8, hq7, hf⟩ := bd_o hf
  refine hs_ci (hs_runV C0 hH hS (n := 0) (As := []) (rest := []) (c_J0_isLatin1_aae02 M i0 (show i0 < 18 from by omega) hq7) ⟨⟨zt_1477, zt_1478, zt_1479, zt_11, zt_1480⟩, rfl, by decide, by decide, by decide +kernel⟩ ⟨rfl, rfl, Nat.le_of_ble_eq_true rfl, Nat.le_of_ble_eq_true rfl⟩ (vk_recv hK.s (show i0 < 18 from by omega) hS) rfl rfl hl.1 (Nat.le_of_ble_eq_true rfl) ⟨Nat.le_of_ble_eq_true rfl, Nat.le_of_ble_eq_true rfl⟩ dJ0_charAt_5068e_1) hS (fun H locs hH hS => ?_)
  refine lv_if_eq (tgt := 16) hx hb dJ0_charAt_5068e_4 (by decide) (fun hc12 => ?_) (fun hc12 => ?_)
  · have hf := if_t hf hc12
    refine lv_aload_n hx hb dJ0_charAt_5068e_16 rfl (lv_at hl 0 rfl) ?_
    refine vk_getf hx hb (hK.s1 (show i0 < 18 from by omega)) hS hown (hA _ zt_1316) (fun _ h => h) dJ0_charAt_5068e_17 ?_
    refine lv_iload_n hx hb dJ0_charAt_5068e_20 rfl (lv_at hl 1 rfl) ?_
    cases hf
  · have hf := if_f hf hc12
    refine lv_aload_n hx hb dJ0_charAt_5068e_7 rfl (lv_at hl 0 rfl) ?_
    refine vk_getf hx hb (hK.s1 (show i0 < 18 from by omega)) hS hown (hA _ zt_1316) (fun _ h => h) dJ0_charAt_5068e_8 ?_
    refine lv_iload_n hx hb dJ0_charAt_5068e_11 rfl (lv_at hl 1 rfl) ?_
    obtain ⟨r10, hq9, hf⟩ := bd_o hf
    refine hs_ci (hs_runS C0 hH hS (n := 2) (As := [.ref (YV Y i0), .int a1]) (rest := []) (c_J1_charAt_3b067 M i0 a1 (show i0 < 18 from by omega) hq9) ⟨⟨zt_1481, zt_1482, zt_29, zt_1483⟩, by decide, by decide, by decide +kernel⟩ ⟨rfl, rfl, Nat.le_of_ble_eq_true rfl, Nat.le_of_ble_eq_true rfl⟩ rfl rfl hl.1 (Nat.le_of_ble_eq_true rfl) ⟨Nat.le_of_ble_eq_true rfl, Nat.le_of_ble_eq_true rfl⟩ dJ0_charAt_5068e_12) hS (fun H locs hH hS => ?_)
    obtain ⟨hg11, hf⟩ := gd_o hf
    obtain rfl := Option.some.inj hf
    exact hs_cret C0 hH hS (by decide) (by decide) hg11 dJ0_charAt_5068e_15
def f_J5_length_8abf5 (M : Mem) : Option Int32 := some (M 19 0 3)
set_option maxHeartbeats 4000000 in
set_option maxRecDepth 100000 in
theorem c_J5_length_8abf5 {Y : LY} {l : Launch} {q : Nat} (M : Mem) {r : Int32} (hf : f_J5_length_8abf5 M = some r) : Met l yJ5_length_8abf5 (WS yJ5_length_8abf5 cJ5_length_8abf5 1 (Option.some Jvm.ClassFile.FieldType.int)) { frames := 0, cells := 0, slots := 0, locals := 0 } (PcP Y (HS0 (YS Y q) M) [.ref (YA Y 19 0)]) (QiP Y r (HS0 (YS Y q) M)) 0 0 (AZ Y) := by
  refine met_mk (lv := [(0, .ref (YA Y 19 0))]) [.ref (YA Y 19 0)] (by decide) rfl rfl (Nat.le_of_ble_eq_true rfl) (fun p e s m below meth c C0 hH ls hl => ?_)
  have hS : va_S (AZ Y) s.heap s.heap [] := va_S.rf
  obtain ⟨hx, hb, hr, hml, hown, hA, hlocks, hK, hZ⟩ := id C0
  unfold f_J5_length_8abf5 at hf
  refine lv_aload_n hx hb dJ5_length_8abf5_0 rfl (lv_at hl 0 rfl) ?_
  refine hg_get hx hb hA hown hK hH 3 (by decide) (hA _ zt_281) rfl rfl dJ5_length_8abf5_1 ?_
  obtain rfl := Option.some.inj hf
  exact hs_iret C0 hH hS (by decide) (by decide) dJ5_length_8abf5_4
def f_J5_charAt_5068e (M : Mem) (a1 : Int32) : Option Int32 := bd (f_J0_checkIndex_df160 M a1 (if ((nI (ix (M 34 0 100000))) >>> ((0 : Int32) &&& 31)) < (M 19 0 3) then ((nI (ix (M 34 0 100000))) >>> ((0 : Int32) &&& 31)) else (M 19 0 3))) fun _ => (if (0 : Int32) = 0 then if vin a1 (ix (M 34 0 100000)) then (if ix (M 34 0 100000) ≤ 100000 then (if isC (((((M 34 0 (ix a1)).toInt8.toInt32 &&& (255 : Int32))).toUInt32 % 65536).toInt32) then some (((((M 34 0 (ix a1)).toInt8.toInt32 &&& (255 : Int32))).toUInt32 % 65536).toInt32) else none) else none) else none else none)
set_option maxHeartbeats 4000000 in
set_option maxRecDepth 100000 in
theorem c_J5_charAt_5068e {Y : LY} {l : Launch} {q : Nat} (M : Mem) (a1 : Int32) {r : Int32} (hf : f_J5_charAt_5068e M a1 = some r) : Met l yJ5_charAt_5068e (WS yJ5_charAt_5068e cJ5_charAt_5068e 5 (Option.some Jvm.ClassFile.FieldType.char)) { frames := 2, cells := 0, slots := 0, locals := 43 } (PcP Y (HS0 (YS Y q) M) [.ref (YA Y 19 0), .int a1]) (QiP Y r (HS0 (YS Y q) M)) 0 0 (AZ Y) := by
  refine met_mk (lv := [(0, .ref (YA Y 19 0)), (1, .int a1)]) [.ref (YA Y 19 0), .int a1] (by decide) rfl rfl (Nat.le_of_ble_eq_true rfl) (fun p e s m below meth c C0 hH ls hl => ?_)
  have hS : va_S (AZ Y) s.heap s.heap [] := va_S.rf
  obtain ⟨hx, hb, hr, hml, hown, hA, hlocks, hK, hZ⟩ := id C0
  unfold f_J5_charAt_5068e at hf
  refine lv_aload_n hx hb dJ5_charAt_5068e_0 rfl (lv_at hl 0 rfl) ?_
  refine hg_get hx hb hA hown hK hH 1 (by decide) (hA _ zt_278) rfl rfl dJ5_charAt_5068e_1 ?_
  refine lv_istore_n (lv' := [(2, .int (0 : Int32)), (0, .ref (YA Y 19 0)), (1, .int a1)]) hx hb dJ5_charAt_5068e_4 rfl hl (by decide) rfl (fun ls hl => ?_)
  refine lv_aload_n hx hb dJ5_charAt_5068e_5 rfl (lv_at hl 1 rfl) ?_
  refine hg_get hx hb hA hown hK hH 0 (by decide) (hA _ zt_277) rfl rfl dJ5_charAt_5068e_6 ?_
  refine lv_astore_n (lv' := [(3, .ref q), (2, .int (0 : Int32)), (0, .ref (YA Y 19 0)), (1, .int a1)]) hx hb dJ5_charAt_5068e_9 rfl hl (by decide) rfl (fun ls hl => ?_)
  refine lv_aload_n hx hb dJ5_charAt_5068e_10 rfl (lv_at hl 2 rfl) ?_
  refine hg_get hx hb hA hown hK hH 3 (by decide) (hA _ zt_281) rfl rfl dJ5_charAt_5068e_11 ?_
  refine lv_aload_n hx hb dJ5_charAt_5068e_14 rfl (lv_at hl 0 rfl) ?_
  refine hg_alen hx hb hK hH dJ5_charAt_5068e_15 ?_
  refine lv_iload_n hx hb dJ5_charAt_5068e_16 rfl (lv_at hl 1 rfl) ?_
  refine lv_ishr hx hb dJ5_charAt_5068e_17 ?_
  refine va_mmin hx hb (by rw [hml]; exact hl.1.symm) hown (hA _ zt_1423) (hA _ zt_613) (hA _ zt_21) (hA _ zt_614) (Nat.le_of_ble_eq_true rfl) (Nat.le_of_ble_eq_true rfl) (Nat.le_of_ble_eq_true rfl) (Nat.le_of_ble_eq_true rfl) dJ5_charAt_5068e_18 ?_
  refine lv_istore (lv' := [(4, .int (if ((nI (ix (M 34 0 100000))) >>> ((0 : Int32) &&& 31)) < (M 19 0 3) then ((nI (ix (M 34 0 100000))) >>> ((0 : Int32) &&& 31)) else (M 19 0 3))), (3, .ref q), (2, .int (0 : Int32)), (0, .ref (YA Y 19 0)), (1, .int a1)]) hx hb dJ5_charAt_5068e_21 hl (by decide) rfl (fun ls hl => ?_)
  refine lv_iload_n hx hb dJ5_charAt_5068e_23 rfl (lv_at hl 4 rfl) ?_
  refine lv_iload hx hb dJ5_charAt_5068e_24 (lv_at hl 0 rfl) ?_
  obtain ⟨_, hq7, hf⟩ := bd_o hf
  refine hs_cv (hs_runS C0 hH hS (n := 2) (As := [.int a1, .int (if ((nI (ix (M 34 0 100000))) >>> ((0 : Int32) &&& 31)) < (M 19 0 3) then ((nI (ix (M 34 0 100000))) >>> ((0 : Int32) &&& 31)) else (M 19 0 3))]) (rest := []) (c_J0_checkIndex_df160 M a1 (if ((nI (ix (M 34 0 100000))) >>> ((0 : Int32) &&& 31)) < (M 19 0 3) then ((nI (ix (M 34 0 100000))) >>> ((0 : Int32) &&& 31)) else (M 19 0 3)) hq7) ⟨⟨zt_1424, zt_1378, zt_11, zt_1379⟩, by decide, by decide, by decide +kernel⟩ ⟨rfl, rfl, Nat.le_of_ble_eq_true rfl, Nat.le_of_ble_eq_true rfl⟩ rfl rfl hl.1 (Nat.le_of_ble_eq_true rfl) ⟨Nat.le_of_ble_eq_true rfl, Nat.le_of_ble_eq_true rfl⟩ dJ5_charAt_5068e_26) hS (fun H locs hH hS => ?_)
  refine lv_iload_n hx hb dJ5_charAt_5068e_29 rfl (lv_at hl 2 rfl) ?_
  refine lv_if_ne (tgt := 42) hx hb dJ5_charAt_5068e_30 (by decide) (fun hc12 => ?_) (fun hc12 => ?_)
  · have hf := if_f hf hc12
    refine lv_aload_n hx hb dJ5_charAt_5068e_42 rfl (lv_at hl 1 rfl) ?_
    refine lv_iload_n hx hb dJ5_charAt_5068e_43 rfl (lv_at hl 4 rfl) ?_
    cases hf
  · have hf := if_t hf hc12
    refine lv_aload_n hx hb dJ5_charAt_5068e_33 rfl (lv_at hl 1 rfl) ?_
    refine lv_iload_n hx hb dJ5_charAt_5068e_34 rfl (lv_at hl 4 rfl) ?_
    obtain ⟨hg9, hf⟩ := gd_o hf
    obtain ⟨hg10, hf⟩ := gd_o hf
    refine hg_bald hx hb hK hH hg9 hg10 dJ5_charAt_5068e_35 ?_
    refine lv_sipush (v := (255 : Int32)) hx hb dJ5_charAt_5068e_36 (by decide) ?_
    refine lv_iand hx hb dJ5_charAt_5068e_39 ?_
    refine lv_i2c (v := ((((M 34 0 (ix a1)).toInt8.toInt32 &&& (255 : Int32))).toUInt32 % 65536).toInt32) hx hb dJ5_charAt_5068e_40 rfl ?_
    obtain ⟨hg11, hf⟩ := gd_o hf
    obtain rfl := Option.some.inj hf
    exact hs_cret C0 hH hS (by decide) (by decide) hg11 dJ5_charAt_5068e_41
