def f_J5_append_3fe6f_56 (M : Mem) (a1 : Int32) : Option Mem := nm (mu M 19 0 3 ((M 19 0 3) + (1 : Int32))) fun M18 => none
set_option maxHeartbeats 4000000 in
set_option maxRecDepth 100000 in
theorem w_J5_append_3fe6f_56 {Y : LY} {p : Program} {l : Launch} {e : Env} {s : State} {m : MethodId} {args : Array Value} {below : List Frame} {meth : Method} {c : Code} (C0 : BE Y p s m args meth c cJ5_append_3fe6f 2 (Option.some (Jvm.ClassFile.FieldType.object "java/lang/AbstractStringBuilder")) RJ5) {q : Nat} {MZ : Mem} : ∀ (M : Mem) (a1 : Int32), f_J5_append_3fe6f_56 M a1 = some MZ → ∀ (H : Heap) (locs : List Loc) (ls : Array Slot), HS0 (YS Y q) M H → va_S (AZ Y) s.heap H locs → lv_has ls 2 [(0, .ref (YA Y 19 0)), (1, .int a1)] → W p l e { frames := 6, cells := 1, slots := 130, locals := 182 } s m args below meth c H locs 1 130 (MQ below (QrP Y 19 0 (HS Y MZ)) args s 1 130 (AZ Y)) (F0 m 56 ls []) := by
  obtain ⟨hx, hb, hr, hml, hown, hA, hlocks, hK, hZ⟩ := id C0
  intro M a1 hf H locs ls hH hS hl
  unfold f_J5_append_3fe6f_56 at hf
  refine lv_aload_n hx hb dJ5_append_3fe6f_56 rfl (lv_at hl 0 rfl) ?_
  refine hg_get hx hb hA hown hK hH 0 (by decide) (hA _ zt_277) rfl rfl dJ5_append_3fe6f_57 ?_
  refine lv_aload_n hx hb dJ5_append_3fe6f_60 rfl (lv_at hl 0 rfl) ?_
  refine lv_dup hx hb dJ5_append_3fe6f_61 rfl ?_
  refine hg_get hx hb hA hown hK hH 3 (by decide) (hA _ zt_281) rfl rfl dJ5_append_3fe6f_62 ?_
  refine lv_dup_x1 hx hb dJ5_append_3fe6f_65 rfl rfl ?_
  refine lv_iconst (v := (1 : Int32)) hx hb dJ5_append_3fe6f_66 (by decide) ?_
  refine lv_iadd hx hb dJ5_append_3fe6f_67 ?_
  refine hg_put hx hb hA hown hK hH hS (hA _ zt_281) rfl dJ5_append_3fe6f_68 (fun H locs hH hS => ?_)
  obtain ⟨M18, eM18, hf⟩ := nm_o hf
  rw [← eM18] at hH
  refine lv_iload_n hx hb dJ5_append_3fe6f_71 rfl (lv_at hl 1 rfl) ?_
  cases hf
def f_J5_append_3fe6f_45 (M : Mem) (a1 : Int32) : Option Mem := bd (f_J5_isLatin1_aae02 M) fun r20 => (if r20 = 0 then f_J5_append_3fe6f_56 M a1 else none)
set_option maxHeartbeats 4000000 in
set_option maxRecDepth 100000 in
theorem w_J5_append_3fe6f_45 {Y : LY} {p : Program} {l : Launch} {e : Env} {s : State} {m : MethodId} {args : Array Value} {below : List Frame} {meth : Method} {c : Code} (C0 : BE Y p s m args meth c cJ5_append_3fe6f 2 (Option.some (Jvm.ClassFile.FieldType.object "java/lang/AbstractStringBuilder")) RJ5) {q : Nat} {MZ : Mem} : ∀ (M : Mem) (a1 : Int32), f_J5_append_3fe6f_45 M a1 = some MZ → ∀ (H : Heap) (locs : List Loc) (ls : Array Slot), HS0 (YS Y q) M H → va_S (AZ Y) s.heap H locs → lv_has ls 2 [(0, .ref (YA Y 19 0)), (1, .int a1)] → W p l e { frames := 6, cells := 1, slots := 130, locals := 182 } s m args below meth c H locs 1 130 (MQ below (QrP Y 19 0 (HS Y MZ)) args s 1 130 (AZ Y)) (F0 m 45 ls []) := by
  obtain ⟨hx, hb, hr, hml, hown, hA, hlocks, hK, hZ⟩ := id C0
  intro M a1 hf H locs ls hH hS hl
  unfold f_J5_append_3fe6f_45 at hf
  refine lv_aload_n hx hb dJ5_append_3fe6f_45 rfl (lv_at hl 0 rfl) ?_
  obtain ⟨r20, hq19, hf⟩ := bd_o hf
  refine hs_ci (hs_runU C0 hH hS (n := 0) (As := []) (rest := []) (c_J5_isLatin1_aae02 M hq19) ⟨⟨zt_1161, zt_1163, zt_1162, zt_9, zt_1165⟩, ⟨by decide, by decide⟩, by decide +kernel⟩ (hA _ zt_1164) ⟨rfl, rfl, Nat.le_of_ble_eq_true rfl, Nat.le_of_ble_eq_true rfl⟩ (hg_recv hK hH) rfl rfl hl.1 (Nat.le_of_ble_eq_true rfl) ⟨Nat.le_of_ble_eq_true rfl, Nat.le_of_ble_eq_true rfl⟩ dJ5_append_3fe6f_46) hS (fun H locs hH hS => ?_)
  refine lv_if_eq (tgt := 56) hx hb dJ5_append_3fe6f_49 (by decide) (fun hc21 => ?_) (fun hc21 => ?_)
  · have hf := if_t hf hc21
    exact w_J5_append_3fe6f_56 C0 M a1 hf _ _ _ hH hS (lv_sub hl [0, 1] rfl)
  · have hf := if_f hf hc21
    refine lv_aload_n hx hb dJ5_append_3fe6f_52 rfl (lv_at hl 0 rfl) ?_
    cases hf
def f_J5_append_3fe6f (M : Mem) (a1 : Int32) : Option Mem := bd (f_J5_ensureCapacityInternal_d00df M ((M 19 0 3) + (1 : Int32))) fun M23 => bd (f_J5_isLatin1_aae02 M23) fun r26 => (if r26 = 0 then f_J5_append_3fe6f_45 M23 a1 else bd (f_J1_canEncode_fc78d M23 a1) fun r28 => (if r28 = 0 then f_J5_append_3fe6f_45 M23 a1 else nm (mu M23 19 0 3 ((M23 19 0 3) + (1 : Int32))) fun M29 => if vin (M23 19 0 3) (ix (M29 34 0 100000)) then (if ix (M29 34 0 100000) ≤ 100000 then (nm (mu M29 34 0 (ix (M23 19 0 3)) a1.toInt8.toInt32) fun M32 => some M32) else none) else none))
set_option maxHeartbeats 4000000 in
set_option maxRecDepth 100000 in
theorem c_J5_append_3fe6f {Y : LY} {l : Launch} (M : Mem) (a1 : Int32) {MZ : Mem} (hf : f_J5_append_3fe6f M a1 = some MZ) : Met l yJ5_append_3fe6f (WS yJ5_append_3fe6f cJ5_append_3fe6f 2 (Option.some (Jvm.ClassFile.FieldType.object "java/lang/AbstractStringBuilder"))) { frames := 6, cells := 1, slots := 130, locals := 182 } (PcM Y M [.ref (YA Y 19 0), .int a1]) (QrP Y 19 0 (HS Y MZ)) 1 130 (AZ Y) := by
  refine met_mk (lv := [(0, .ref (YA Y 19 0)), (1, .int a1)]) [.ref (YA Y 19 0), .int a1] (by decide) rfl rfl (Nat.le_of_ble_eq_true rfl) (fun p e s m below meth c C0 hH ls hl => ?_)
  have hS : va_S (AZ Y) s.heap s.heap [] := va_S.rf
  obtain ⟨hx, hb, hr, hml, hown, hA, hlocks, hK, hZ⟩ := id C0
  obtain ⟨q, hH⟩ := hH
  unfold f_J5_append_3fe6f at hf
  refine lv_aload_n hx hb dJ5_append_3fe6f_0 rfl (lv_at hl 0 rfl) ?_
  refine lv_aload_n hx hb dJ5_append_3fe6f_1 rfl (lv_at hl 0 rfl) ?_
  refine hg_get hx hb hA hown hK hH 3 (by decide) (hA _ zt_281) rfl rfl dJ5_append_3fe6f_2 ?_
  refine lv_iconst (v := (1 : Int32)) hx hb dJ5_append_3fe6f_5 (by decide) ?_
  refine lv_iadd hx hb dJ5_append_3fe6f_6 ?_
  obtain ⟨M23, hq22, hf⟩ := bd_o hf
  refine hs_cv (hs_runU C0 (hg_mk hH) hS (n := 1) (As := [.int ((M 19 0 3) + (1 : Int32))]) (rest := []) (c_J5_ensureCapacityInternal_d00df M ((M 19 0 3) + (1 : Int32)) hq22) ⟨⟨zt_1130, zt_2070, zt_1132, zt_9, zt_1133⟩, ⟨by decide, by decide⟩, by decide +kernel⟩ (va_Nw.use rfl (hK.p _ (List.mem_of_getElem? (i := 0) rfl))) ⟨rfl, rfl, Nat.le_of_ble_eq_true rfl, Nat.le_of_ble_eq_true rfl⟩ (hg_recv hK hH) rfl rfl hl.1 (Nat.le_of_ble_eq_true rfl) ⟨Nat.le_of_ble_eq_true rfl, Nat.le_of_ble_eq_true rfl⟩ dJ5_append_3fe6f_7) hS (fun H locs hH hS => ?_)
  obtain ⟨q, hH⟩ := hH
  refine lv_aload_n hx hb dJ5_append_3fe6f_10 rfl (lv_at hl 0 rfl) ?_
  obtain ⟨r26, hq25, hf⟩ := bd_o hf
  refine hs_ci (hs_runU C0 hH hS (n := 0) (As := []) (rest := []) (c_J5_isLatin1_aae02 M23 hq25) ⟨⟨zt_1161, zt_1163, zt_1162, zt_9, zt_1165⟩, ⟨by decide, by decide⟩, by decide +kernel⟩ (hA _ zt_1164) ⟨rfl, rfl, Nat.le_of_ble_eq_true rfl, Nat.le_of_ble_eq_true rfl⟩ (hg_recv hK hH) rfl rfl hl.1 (Nat.le_of_ble_eq_true rfl) ⟨Nat.le_of_ble_eq_true rfl, Nat.le_of_ble_eq_true rfl⟩ dJ5_append_3fe6f_11) hS (fun H locs hH hS => ?_)
  refine lv_if_eq (tgt := 45) hx hb dJ5_append_3fe6f_14 (by decide) (fun hc34 => ?_) (fun hc34 => ?_)
  · have hf := if_t hf hc34
    exact w_J5_append_3fe6f_45 C0 M23 a1 hf _ _ _ hH hS (lv_sub hl [0, 1] rfl)
  · have hf := if_f hf hc34
    refine lv_iload_n hx hb dJ5_append_3fe6f_17 rfl (lv_at hl 1 rfl) ?_
    obtain ⟨r28, hq27, hf⟩ := bd_o hf
    refine hs_ci (hs_runS C0 hH hS (n := 1) (As := [.int a1]) (rest := []) (c_J1_canEncode_fc78d M23 a1 hq27) ⟨⟨zt_1368, zt_1369, zt_29, zt_1370⟩, by decide, by decide, by decide +kernel⟩ ⟨rfl, rfl, Nat.le_of_ble_eq_true rfl, Nat.le_of_ble_eq_true rfl⟩ rfl rfl hl.1 (Nat.le_of_ble_eq_true rfl) ⟨Nat.le_of_ble_eq_true rfl, Nat.le_of_ble_eq_true rfl⟩ dJ5_append_3fe6f_18) hS (fun H locs hH hS => ?_)
    refine lv_if_eq (tgt := 45) hx hb dJ5_append_3fe6f_21 (by decide) (fun hc33 => ?_) (fun hc33 => ?_)
    · have hf := if_t hf hc33
      exact w_J5_append_3fe6f_45 C0 M23 a1 hf _ _ _ hH hS (lv_sub hl [0, 1] rfl)
    · have hf := if_f hf hc33
      refine lv_aload_n hx hb dJ5_append_3fe6f_24 rfl (lv_at hl 0 rfl) ?_
      refine hg_get hx hb hA hown hK hH 0 (by decide) (hA _ zt_277) rfl rfl dJ5_append_3fe6f_25 ?_
      refine lv_aload_n hx hb dJ5_append_3fe6f_28 rfl (lv_at hl 0 rfl) ?_
      refine lv_dup hx hb dJ5_append_3fe6f_29 rfl ?_
      refine hg_get hx hb hA hown hK hH 3 (by decide) (hA _ zt_281) rfl rfl dJ5_append_3fe6f_30 ?_
      refine lv_dup_x1 hx hb dJ5_append_3fe6f_33 rfl rfl ?_
      refine lv_iconst (v := (1 : Int32)) hx hb dJ5_append_3fe6f_34 (by decide) ?_
      refine lv_iadd hx hb dJ5_append_3fe6f_35 ?_
      refine hg_put hx hb hA hown hK hH hS (hA _ zt_281) rfl dJ5_append_3fe6f_36 (fun H locs hH hS => ?_)
      obtain ⟨M29, eM29, hf⟩ := nm_o hf
      rw [← eM29] at hH
      refine lv_iload_n hx hb dJ5_append_3fe6f_39 rfl (lv_at hl 1 rfl) ?_
      refine lv_i2b (v := a1.toInt8.toInt32) hx hb dJ5_append_3fe6f_40 rfl ?_
      obtain ⟨hg30, hf⟩ := gd_o hf
      obtain ⟨hg31, hf⟩ := gd_o hf
      refine hg_bast hx hb hK hH hS hg30 hg31 dJ5_append_3fe6f_41 (fun H locs hH hS => ?_)
      obtain ⟨M32, eM32, hf⟩ := nm_o hf
      rw [← eM32] at hH
      refine lv_goto (tgt := 75) hx hb dJ5_append_3fe6f_42 (by decide) ?_
      refine lv_aload_n hx hb dJ5_append_3fe6f_75 rfl (lv_at hl 0 rfl) ?_
      obtain rfl := Option.some.inj hf
      exact hs_rret C0 (hg_mk hH) hS (by decide) (by decide) 19 (0) dJ5_append_3fe6f_76
def f_J4_append_cf468 (M : Mem) (a1 : Int32) : Option Mem := bd (f_J5_append_3fe6f M a1) fun M5 => some M5
set_option maxHeartbeats 4000000 in
set_option maxRecDepth 100000 in
theorem c_J4_append_cf468 {Y : LY} {l : Launch} (M : Mem) (a1 : Int32) {MZ : Mem} (hf : f_J4_append_cf468 M a1 = some MZ) : Met l yJ4_append_cf468 (WS yJ4_append_cf468 cJ4_append_cf468 2 (Option.some (Jvm.ClassFile.FieldType.object "java/lang/StringBuilder"))) { frames := 7, cells := 1, slots := 130, locals := 203 } (PcM Y M [.ref (YA Y 19 0), .int a1]) (QrP Y 19 0 (HS Y MZ)) 1 130 (AZ Y) := by
  refine met_mk (lv := [(0, .ref (YA Y 19 0)), (1, .int a1)]) [.ref (YA Y 19 0), .int a1] (by decide) rfl rfl (Nat.le_of_ble_eq_true rfl) (fun p e s m below meth c C0 hH ls hl => ?_)
  have hS : va_S (AZ Y) s.heap s.heap [] := va_S.rf
  obtain ⟨hx, hb, hr, hml, hown, hA, hlocks, hK, hZ⟩ := id C0
  obtain ⟨q, hH⟩ := hH
  unfold f_J4_append_cf468 at hf
  refine lv_aload_n hx hb dJ4_append_cf468_0 rfl (lv_at hl 0 rfl) ?_
  refine lv_iload_n hx hb dJ4_append_cf468_1 rfl (lv_at hl 1 rfl) ?_
  obtain ⟨M5, hq4, hf⟩ := bd_o hf
  refine hs_cr (hs_runSU C0 (hg_mk hH) hS (n := 1) (As := [.int a1]) (rest := []) (c_J5_append_3fe6f M a1 hq4) ⟨⟨zt_1365, zt_2076, zt_290, zt_1366, zt_9, zt_1367⟩, by decide, by decide +kernel⟩ ⟨rfl, rfl, Nat.le_of_ble_eq_true rfl, Nat.le_of_ble_eq_true rfl⟩ (hg_recv hK hH) rfl rfl hl.1 (Nat.le_of_ble_eq_true rfl) ⟨Nat.le_of_ble_eq_true rfl, Nat.le_of_ble_eq_true rfl⟩ dJ4_append_cf468_2) hS (fun H locs hH hS => ?_)
  obtain ⟨q, hH⟩ := hH
  refine lv_pop hx hb dJ4_append_cf468_5 rfl ?_
  refine lv_aload_n hx hb dJ4_append_cf468_6 rfl (lv_at hl 0 rfl) ?_
  obtain rfl := Option.some.inj hf
  exact hs_rret C0 (hg_mk hH) hS (by decide) (by decide) 19 (0) dJ4_append_cf468_7
def f_J5_append_c97b9_48 (M : Mem) (a3 : Int32) : Option Mem := nm (mu M 19 0 3 a3) fun M13 => some M13
set_option maxHeartbeats 4000000 in
set_option maxRecDepth 100000 in
theorem w_J5_append_c97b9_48 {Y : LY} {p : Program} {l : Launch} {e : Env} {s : State} {m : MethodId} {args : Array Value} {below : List Frame} {meth : Method} {c : Code} (C0 : BE Y p s m args meth c cJ5_append_c97b9 4 (Option.some (Jvm.ClassFile.FieldType.object "java/lang/AbstractStringBuilder")) RJ5) {q : Nat} {MZ : Mem} : ∀ (M : Mem) (a3 : Int32), f_J5_append_c97b9_48 M a3 = some MZ → ∀ (H : Heap) (locs : List Loc) (ls : Array Slot), HS0 (YS Y q) M H → va_S (AZ Y) s.heap H locs → lv_has ls 4 [(0, .ref (YA Y 19 0)), (3, .int a3)] → W p l e { frames := 6, cells := 1, slots := 130, locals := 182 } s m args below meth c H locs 1 130 (MQ below (QrP Y 19 0 (HS Y MZ)) args s 1 130 (AZ Y)) (F0 m 48 ls []) := by
  obtain ⟨hx, hb, hr, hml, hown, hA, hlocks, hK, hZ⟩ := id C0
  intro M a3 hf H locs ls hH hS hl
  unfold f_J5_append_c97b9_48 at hf
  refine lv_aload_n hx hb dJ5_append_c97b9_48 rfl (lv_at hl 0 rfl) ?_
  refine lv_iload_n hx hb dJ5_append_c97b9_49 rfl (lv_at hl 1 rfl) ?_
  refine hg_put hx hb hA hown hK hH hS (hA _ zt_281) rfl dJ5_append_c97b9_50 (fun H locs hH hS => ?_)
  obtain ⟨M13, eM13, hf⟩ := nm_o hf
  rw [← eM13] at hH
  refine lv_aload_n hx hb dJ5_append_c97b9_53 rfl (lv_at hl 0 rfl) ?_
  obtain rfl := Option.some.inj hf
  exact hs_rret C0 (hg_mk hH) hS (by decide) (by decide) 19 (0) dJ5_append_c97b9_54
def f_J5_append_c97b9 (M : Mem) (a1 : Int32) : Option Mem := bd (f_J6_stringSize_0f7a4 M a1) fun r15 => bd (f_J5_ensureCapacityInternal_d00df M ((M 19 0 3) + r15)) fun M17 => bd (f_J5_isLatin1_aae02 M17) fun r20 => (if r20 = 0 then none else bd2 (f_J6_getChars_ba4f3 M17 a1 ((M 19 0 3) + r15)) fun r23 M22 => f_J5_append_c97b9_48 M22 ((M 19 0 3) + r15))
set_option maxHeartbeats 4000000 in
set_option maxRecDepth 100000 in
theorem c_J5_append_c97b9 {Y : LY} {l : Launch} (M : Mem) (a1 : Int32) {MZ : Mem} (hf : f_J5_append_c97b9 M a1 = some MZ) : Met l yJ5_append_c97b9 (WS yJ5_append_c97b9 cJ5_append_c97b9 4 (Option.some (Jvm.ClassFile.FieldType.object "java/lang/AbstractStringBuilder"))) { frames := 6, cells := 1, slots := 130, locals := 182 } (PcM Y M [.ref (YA Y 19 0), .int a1]) (QrP Y 19 0 (HS Y MZ)) 1 130 (AZ Y) := by
  refine met_mk (lv := [(0, .ref (YA Y 19 0)), (1, .int a1)]) [.ref (YA Y 19 0), .int a1] (by decide) rfl rfl (Nat.le_of_ble_eq_true rfl) (fun p e s m below meth c C0 hH ls hl => ?_)
  have hS : va_S (AZ Y) s.heap s.heap [] := va_S.rf
  obtain ⟨hx, hb, hr, hml, hown, hA, hlocks, hK, hZ⟩ := id C0
  obtain ⟨q, hH⟩ := hH
  unfold f_J5_append_c97b9 at hf
  refine lv_aload_n hx hb dJ5_append_c97b9_0 rfl (lv_at hl 0 rfl) ?_
  refine hg_get hx hb hA hown hK hH 3 (by decide) (hA _ zt_281) rfl rfl dJ5_append_c97b9_1 ?_
  refine lv_istore_n (lv' := [(2, .int (M 19 0 3)), (0, .ref (YA Y 19 0)), (1, .int a1)]) hx hb dJ5_append_c97b9_4 rfl hl (by decide) rfl (fun ls hl => ?_)
  refine lv_iload_n hx hb dJ5_append_c97b9_5 rfl (lv_at hl 0 rfl) ?_
  refine lv_iload_n hx hb dJ5_append_c97b9_6 rfl (lv_at hl 2 rfl) ?_
  obtain ⟨r15, hq14, hf⟩ := bd_o hf
  refine hs_ci (hs_runS C0 hH hS (n := 1) (As := [.int a1]) (rest := [.int (M 19 0 3)]) (c_J6_stringSize_0f7a4 M a1 hq14) ⟨⟨zt_1242, zt_1243, zt_31, zt_1244⟩, by decide, by decide, by decide +kernel⟩ ⟨rfl, rfl, Nat.le_of_ble_eq_true rfl, Nat.le_of_ble_eq_true rfl⟩ rfl rfl hl.1 (Nat.le_of_ble_eq_true rfl) ⟨Nat.le_of_ble_eq_true rfl, Nat.le_of_ble_eq_true rfl⟩ dJ5_append_c97b9_7) hS (fun H locs hH hS => ?_)
  refine lv_iadd hx hb dJ5_append_c97b9_10 ?_
  refine lv_istore_n (lv' := [(3, .int ((M 19 0 3) + r15)), (2, .int (M 19 0 3)), (0, .ref (YA Y 19 0)), (1, .int a1)]) hx hb dJ5_append_c97b9_11 rfl hl (by decide) rfl (fun ls hl => ?_)
  refine lv_aload_n hx hb dJ5_append_c97b9_12 rfl (lv_at hl 2 rfl) ?_
  refine lv_iload_n hx hb dJ5_append_c97b9_13 rfl (lv_at hl 0 rfl) ?_
  obtain ⟨M17, hq16, hf⟩ := bd_o hf
  refine hs_cv (hs_runU C0 (hg_mk hH) hS (n := 1) (As := [.int ((M 19 0 3) + r15)]) (rest := []) (c_J5_ensureCapacityInternal_d00df M ((M 19 0 3) + r15) hq16) ⟨⟨zt_1130, zt_2070, zt_1132, zt_9, zt_1133⟩, ⟨by decide, by decide⟩, by decide +kernel⟩ (va_Nw.use rfl (hK.p _ (List.mem_of_getElem? (i := 0) rfl))) ⟨rfl, rfl, Nat.le_of_ble_eq_true rfl, Nat.le_of_ble_eq_true rfl⟩ (hg_recv hK hH) rfl rfl hl.1 (Nat.le_of_ble_eq_true rfl) ⟨Nat.le_of_ble_eq_true rfl, Nat.le_of_ble_eq_true rfl⟩ dJ5_append_c97b9_14) hS (fun H locs hH hS => ?_)
  obtain ⟨q, hH⟩ := hH
  refine lv_aload_n hx hb dJ5_append_c97b9_17 rfl (lv_at hl 2 rfl) ?_
  obtain ⟨r20, hq19, hf⟩ := bd_o hf
  refine hs_ci (hs_runU C0 hH hS (n := 0) (As := []) (rest := []) (c_J5_isLatin1_aae02 M17 hq19) ⟨⟨zt_1161, zt_1163, zt_1162, zt_9, zt_1165⟩, ⟨by decide, by decide⟩, by decide +kernel⟩ (hA _ zt_1164) ⟨rfl, rfl, Nat.le_of_ble_eq_true rfl, Nat.le_of_ble_eq_true rfl⟩ (hg_recv hK hH) rfl rfl hl.1 (Nat.le_of_ble_eq_true rfl) ⟨Nat.le_of_ble_eq_true rfl, Nat.le_of_ble_eq_true rfl⟩ dJ5_append_c97b9_18) hS (fun H locs hH hS => ?_)
  refine lv_if_eq (tgt := 37) hx hb dJ5_append_c97b9_21 (by decide) (fun hc24 => ?_) (fun hc24 => ?_)
  · have hf := if_t hf hc24
    refine lv_iload_n hx hb dJ5_append_c97b9_37 rfl (lv_at hl 3 rfl) ?_
    refine lv_iload_n hx hb dJ5_append_c97b9_38 rfl (lv_at hl 1 rfl) ?_
    refine lv_iload_n hx hb dJ5_append_c97b9_39 rfl (lv_at hl 0 rfl) ?_
    refine lv_aload_n hx hb dJ5_append_c97b9_40 rfl (lv_at hl 2 rfl) ?_
    refine hg_get hx hb hA hown hK hH 0 (by decide) (hA _ zt_277) rfl rfl dJ5_append_c97b9_41 ?_
    cases hf
  · have hf := if_f hf hc24
    refine lv_iload_n hx hb dJ5_append_c97b9_24 rfl (lv_at hl 3 rfl) ?_
    refine lv_iload_n hx hb dJ5_append_c97b9_25 rfl (lv_at hl 0 rfl) ?_
    refine lv_aload_n hx hb dJ5_append_c97b9_26 rfl (lv_at hl 2 rfl) ?_
    refine hg_get hx hb hA hown hK hH 0 (by decide) (hA _ zt_277) rfl rfl dJ5_append_c97b9_27 ?_
    obtain ⟨r23, M22, hq21, hf⟩ := bd2_o hf
    refine hs_ci (hs_runS C0 hH hS (n := 3) (As := [.int a1, .int ((M 19 0 3) + r15), .ref q]) (rest := []) (c_J6_getChars_ba4f3 M17 a1 ((M 19 0 3) + r15) hq21) ⟨⟨zt_1245, zt_1246, zt_31, zt_1247⟩, by decide, by decide, by decide +kernel⟩ ⟨rfl, rfl, Nat.le_of_ble_eq_true rfl, Nat.le_of_ble_eq_true rfl⟩ rfl rfl hl.1 (Nat.le_of_ble_eq_true rfl) ⟨Nat.le_of_ble_eq_true rfl, Nat.le_of_ble_eq_true rfl⟩ dJ5_append_c97b9_30) hS (fun H locs hH hS => ?_)
    refine lv_pop hx hb dJ5_append_c97b9_33 rfl ?_
    refine lv_goto (tgt := 48) hx hb dJ5_append_c97b9_34 (by decide) ?_
    exact w_J5_append_c97b9_48 C0 M22 ((M 19 0 3) + r15) hf _ _ _ hH hS (lv_sub hl [2, 0] rfl)
def f_J4_append_bf812 (M : Mem) (a1 : Int32) : Option Mem := bd (f_J5_append_c97b9 M a1) fun M5 => some M5
set_option maxHeartbeats 4000000 in
set_option maxRecDepth 100000 in
theorem c_J4_append_bf812 {Y : LY} {l : Launch} (M : Mem) (a1 : Int32) {MZ : Mem} (hf : f_J4_append_bf812 M a1 = some MZ) : Met l yJ4_append_bf812 (WS yJ4_append_bf812 cJ4_append_bf812 2 (Option.some (Jvm.ClassFile.FieldType.object "java/lang/StringBuilder"))) { frames := 7, cells := 1, slots := 130, locals := 205 } (PcM Y M [.ref (YA Y 19 0), .int a1]) (QrP Y 19 0 (HS Y MZ)) 1 130 (AZ Y) := by
  refine met_mk (lv := [(0, .ref (YA Y 19 0)), (1, .int a1)]) [.ref (YA Y 19 0), .int a1] (by decide) rfl rfl (Nat.le_of_ble_eq_true rfl) (fun p e s m below meth c C0 hH ls hl => ?_)
  have hS : va_S (AZ Y) s.heap s.heap [] := va_S.rf
  obtain ⟨hx, hb, hr, hml, hown, hA, hlocks, hK, hZ⟩ := id C0
  obtain ⟨q, hH⟩ := hH
  unfold f_J4_append_bf812 at hf
  refine lv_aload_n hx hb dJ4_append_bf812_0 rfl (lv_at hl 0 rfl) ?_
  refine lv_iload_n hx hb dJ4_append_bf812_1 rfl (lv_at hl 1 rfl) ?_
  obtain ⟨M5, hq4, hf⟩ := bd_o hf
  refine hs_cr (hs_runSU C0 (hg_mk hH) hS (n := 1) (As := [.int a1]) (rest := []) (c_J5_append_c97b9 M a1 hq4) ⟨⟨zt_1239, zt_2075, zt_290, zt_1240, zt_9, zt_1241⟩, by decide, by decide +kernel⟩ ⟨rfl, rfl, Nat.le_of_ble_eq_true rfl, Nat.le_of_ble_eq_true rfl⟩ (hg_recv hK hH) rfl rfl hl.1 (Nat.le_of_ble_eq_true rfl) ⟨Nat.le_of_ble_eq_true rfl, Nat.le_of_ble_eq_true rfl⟩ dJ4_append_bf812_2) hS (fun H locs hH hS => ?_)
  obtain ⟨q, hH⟩ := hH
  refine lv_pop hx hb dJ4_append_bf812_5 rfl ?_
  refine lv_aload_n hx hb dJ4_append_bf812_6 rfl (lv_at hl 0 rfl) ?_
  obtain rfl := Option.some.inj hf
  exact hs_rret C0 (hg_mk hH) hS (by decide) (by decide) 19 (0) dJ4_append_bf812_7
def f_J5_append_cf1ce (M : Mem) (i1 : Nat) : Option Mem := bd (f_J0_length_8abf5 M i1) fun r11 => bd (f_J5_ensureCapacityInternal_d00df M ((M 19 0 3) + r11)) fun M13 => bd (f_J5_putStringAt_47b60 M13 (M13 19 0 3) i1) fun M16 => nm (mu M16 19 0 3 ((M16 19 0 3) + r11)) fun M18 => some M18
set_option maxHeartbeats 4000000 in
set_option maxRecDepth 100000 in
theorem c_J5_append_cf1ce {Y : LY} {l : Launch} (M : Mem) (i1 : Nat) (hi1 : i1 < 18) {MZ : Mem} (hf : f_J5_append_cf1ce M i1 = some MZ) : Met l yJ5_append_cf1ce (WS yJ5_append_cf1ce cJ5_append_cf1ce 3 (Option.some (Jvm.ClassFile.FieldType.object "java/lang/AbstractStringBuilder"))) { frames := 6, cells := 1, slots := 130, locals := 182 } (PcM Y M [.ref (YA Y 19 0), .ref (YK Y i1)]) (QrP Y 19 0 (HS Y MZ)) 1 130 (AZ Y) := by
  refine met_mk (lv := [(0, .ref (YA Y 19 0)), (1, .ref (YK Y i1))]) [.ref (YA Y 19 0), .ref (YK Y i1)] (by decide) rfl rfl (Nat.le_of_ble_eq_true rfl) (fun p e s m below meth c C0 hH ls hl => ?_)
  have hS : va_S (AZ Y) s.heap s.heap [] := va_S.rf
  obtain ⟨hx, hb, hr, hml, hown, hA, hlocks, hK, hZ⟩ := id C0
  obtain ⟨q, hH⟩ := hH
  unfold f_J5_append_cf1ce at hf
  refine lv_aload_n hx hb dJ5_append_cf1ce_0 rfl (lv_at hl 1 rfl) ?_
  refine lv_ifnonnull (tgt := 9) hx hb dJ5_append_cf1ce_1 (by decide) ?_
  refine lv_aload_n hx hb dJ5_append_cf1ce_9 rfl (lv_at hl 1 rfl) ?_
  obtain ⟨r11, hq10, hf⟩ := bd_o hf
  refine hs_ci (hs_runV C0 hH hS (n := 0) (As := []) (rest := []) (c_J0_length_8abf5 M i1 (show i1 < 18 from by omega) hq10) ⟨⟨zt_1192, zt_1193, zt_1194, zt_11, zt_1195⟩, rfl, by decide, by decide, by decide +kernel⟩ ⟨rfl, rfl, Nat.le_of_ble_eq_true rfl, Nat.le_of_ble_eq_true rfl⟩ (vk_recv hK.s (show i1 < 18 from by omega) hS) rfl rfl hl.1 (Nat.le_of_ble_eq_true rfl) ⟨Nat.le_of_ble_eq_true rfl, Nat.le_of_ble_eq_true rfl⟩ dJ5_append_cf1ce_10) hS (fun H locs hH hS => ?_)
  refine lv_istore_n (lv' := [(2, .int r11), (0, .ref (YA Y 19 0)), (1, .ref (YK Y i1))]) hx hb dJ5_append_cf1ce_13 rfl hl (by decide) rfl (fun ls hl => ?_)
  refine lv_aload_n hx hb dJ5_append_cf1ce_14 rfl (lv_at hl 1 rfl) ?_
  refine lv_aload_n hx hb dJ5_append_cf1ce_15 rfl (lv_at hl 1 rfl) ?_
  refine hg_get hx hb hA hown hK hH 3 (by decide) (hA _ zt_281) rfl rfl dJ5_append_cf1ce_16 ?_
  refine lv_iload_n hx hb dJ5_append_cf1ce_19 rfl (lv_at hl 0 rfl) ?_
  refine lv_iadd hx hb dJ5_append_cf1ce_20 ?_
  obtain ⟨M13, hq12, hf⟩ := bd_o hf
  refine hs_cv (hs_runU C0 (hg_mk hH) hS (n := 1) (As := [.int ((M 19 0 3) + r11)]) (rest := []) (c_J5_ensureCapacityInternal_d00df M ((M 19 0 3) + r11) hq12) ⟨⟨zt_1130, zt_2070, zt_1132, zt_9, zt_1133⟩, ⟨by decide, by decide⟩, by decide +kernel⟩ (va_Nw.use rfl (hK.p _ (List.mem_of_getElem? (i := 0) rfl))) ⟨rfl, rfl, Nat.le_of_ble_eq_true rfl, Nat.le_of_ble_eq_true rfl⟩ (hg_recv hK hH) rfl rfl hl.1 (Nat.le_of_ble_eq_true rfl) ⟨Nat.le_of_ble_eq_true rfl, Nat.le_of_ble_eq_true rfl⟩ dJ5_append_cf1ce_21) hS (fun H locs hH hS => ?_)
  obtain ⟨q, hH⟩ := hH
  refine lv_aload_n hx hb dJ5_append_cf1ce_24 rfl (lv_at hl 1 rfl) ?_
  refine lv_aload_n hx hb dJ5_append_cf1ce_25 rfl (lv_at hl 1 rfl) ?_
  refine hg_get hx hb hA hown hK hH 3 (by decide) (hA _ zt_281) rfl rfl dJ5_append_cf1ce_26 ?_
  refine lv_aload_n hx hb dJ5_append_cf1ce_29 rfl (lv_at hl 2 rfl) ?_
  obtain ⟨M16, hq15, hf⟩ := bd_o hf
  refine hs_cv (hs_runU C0 hH hS (n := 2) (As := [.int (M13 19 0 3), .ref (YK Y i1)]) (rest := []) (c_J5_putStringAt_47b60 M13 (M13 19 0 3) i1 (show i1 < 18 from by omega) hq15) ⟨⟨zt_1201, zt_2072, zt_1203, zt_9, zt_1204⟩, ⟨by decide, by decide⟩, by decide +kernel⟩ (va_Nw.use rfl (hK.p _ (List.mem_of_getElem? (i := 2) rfl))) ⟨rfl, rfl, Nat.le_of_ble_eq_true rfl, Nat.le_of_ble_eq_true rfl⟩ (hg_recv hK hH) rfl rfl hl.1 (Nat.le_of_ble_eq_true rfl) ⟨Nat.le_of_ble_eq_true rfl, Nat.le_of_ble_eq_true rfl⟩ dJ5_append_cf1ce_30) hS (fun H locs hH hS => ?_)
  refine lv_aload_n hx hb dJ5_append_cf1ce_33 rfl (lv_at hl 1 rfl) ?_
  refine lv_dup hx hb dJ5_append_cf1ce_34 rfl ?_
  refine hg_get hx hb hA hown hK hH 3 (by decide) (hA _ zt_281) rfl rfl dJ5_append_cf1ce_35 ?_
  refine lv_iload_n hx hb dJ5_append_cf1ce_38 rfl (lv_at hl 0 rfl) ?_
  refine lv_iadd hx hb dJ5_append_cf1ce_39 ?_
  refine hg_put hx hb hA hown hK hH hS (hA _ zt_281) rfl dJ5_append_cf1ce_40 (fun H locs hH hS => ?_)
  obtain ⟨M18, eM18, hf⟩ := nm_o hf
  rw [← eM18] at hH
  refine lv_aload_n hx hb dJ5_append_cf1ce_43 rfl (lv_at hl 1 rfl) ?_
  obtain rfl := Option.some.inj hf
  exact hs_rret C0 (hg_mk hH) hS (by decide) (by decide) 19 (0) dJ5_append_cf1ce_44
def f_J4_append_15ec4 (M : Mem) (i1 : Nat) : Option Mem := bd (f_J5_append_cf1ce M i1) fun M5 => some M5
set_option maxHeartbeats 4000000 in
set_option maxRecDepth 100000 in
theorem c_J4_append_15ec4 {Y : LY} {l : Launch} (M : Mem) (i1 : Nat) (hi1 : i1 < 18) {MZ : Mem} (hf : f_J4_append_15ec4 M i1 = some MZ) : Met l yJ4_append_15ec4 (WS yJ4_append_15ec4 cJ4_append_15ec4 2 (Option.some (Jvm.ClassFile.FieldType.object "java/lang/StringBuilder"))) { frames := 7, cells := 1, slots := 130, locals := 204 } (PcM Y M [.ref (YA Y 19 0), .ref (YK Y i1)]) (QrP Y 19 0 (HS Y MZ)) 1 130 (AZ Y) := by
  refine met_mk (lv := [(0, .ref (YA Y 19 0)), (1, .ref (YK Y i1))]) [.ref (YA Y 19 0), .ref (YK Y i1)] (by decide) rfl rfl (Nat.le_of_ble_eq_true rfl) (fun p e s m below meth c C0 hH ls hl => ?_)
  have hS : va_S (AZ Y) s.heap s.heap [] := va_S.rf
  obtain ⟨hx, hb, hr, hml, hown, hA, hlocks, hK, hZ⟩ := id C0
  obtain ⟨q, hH⟩ := hH
  unfold f_J4_append_15ec4 at hf
  refine lv_aload_n hx hb dJ4_append_15ec4_0 rfl (lv_at hl 0 rfl) ?_
  refine lv_aload_n hx hb dJ4_append_15ec4_1 rfl (lv_at hl 1 rfl) ?_
  obtain ⟨M5, hq4, hf⟩ := bd_o hf
  refine hs_cr (hs_runSU C0 (hg_mk hH) hS (n := 1) (As := [.ref (YK Y i1)]) (rest := []) (c_J5_append_cf1ce M i1 (show i1 < 18 from by omega) hq4) ⟨⟨zt_1123, zt_2068, zt_290, zt_1124, zt_9, zt_1125⟩, by decide, by decide +kernel⟩ ⟨rfl, rfl, Nat.le_of_ble_eq_true rfl, Nat.le_of_ble_eq_true rfl⟩ (hg_recv hK hH) rfl rfl hl.1 (Nat.le_of_ble_eq_true rfl) ⟨Nat.le_of_ble_eq_true rfl, Nat.le_of_ble_eq_true rfl⟩ dJ4_append_15ec4_2) hS (fun H locs hH hS => ?_)
  obtain ⟨q, hH⟩ := hH
  refine lv_pop hx hb dJ4_append_15ec4_5 rfl ?_
  refine lv_aload_n hx hb dJ4_append_15ec4_6 rfl (lv_at hl 0 rfl) ?_
  obtain rfl := Option.some.inj hf
  exact hs_rret C0 (hg_mk hH) hS (by decide) (by decide) 19 (0) dJ4_append_15ec4_7
def f_J5_setLength_d00df_76 (M : Mem) (a1 : Int32) : Option Mem := nm (mu M 19 0 3 a1) fun M12 => some M12
set_option maxHeartbeats 4000000 in
set_option maxRecDepth 100000 in
theorem w_J5_setLength_d00df_76 {Y : LY} {p : Program} {l : Launch} {e : Env} {s : State} {m : MethodId} {args : Array Value} {below : List Frame} {meth : Method} {c : Code} (C0 : BE Y p s m args meth c cJ5_setLength_d00df 2 (Option.none : Option Jvm.ClassFile.FieldType) RJ5) {q : Nat} {MZ : Mem} : ∀ (M : Mem) (a1 : Int32), f_J5_setLength_d00df_76 M a1 = some MZ → ∀ (H : Heap) (locs : List Loc) (ls : Array Slot), HS0 (YS Y q) M H → va_S (AZ Y) s.heap H locs → lv_has ls 2 [(0, .ref (YA Y 19 0)), (1, .int a1)] → W p l e { frames := 6, cells := 1, slots := 130, locals := 182 } s m args below meth c H locs 1 130 (MQ below (QvP Y (HS Y MZ)) args s 1 130 (AZ Y)) (F0 m 76 ls []) := by
  obtain ⟨hx, hb, hr, hml, hown, hA, hlocks, hK, hZ⟩ := id C0
  intro M a1 hf H locs ls hH hS hl
  unfold f_J5_setLength_d00df_76 at hf
  refine lv_aload_n hx hb dJ5_setLength_d00df_76 rfl (lv_at hl 0 rfl) ?_
  refine lv_iload_n hx hb dJ5_setLength_d00df_77 rfl (lv_at hl 1 rfl) ?_
  refine hg_put hx hb hA hown hK hH hS (hA _ zt_281) rfl dJ5_setLength_d00df_78 (fun H locs hH hS => ?_)
  obtain ⟨M12, eM12, hf⟩ := nm_o hf
  rw [← eM12] at hH
  obtain rfl := Option.some.inj hf
  exact hs_vret C0 (hg_mk hH) hS (by decide) (by decide) dJ5_setLength_d00df_81
def f_J5_setLength_d00df (M : Mem) (a1 : Int32) : Option Mem := (if 0 ≤ a1 then bd (f_J5_ensureCapacityInternal_d00df M a1) fun M14 => (if a1 ≤ (M14 19 0 3) then (if (M14 19 0 3) ≤ a1 then f_J5_setLength_d00df_76 M14 a1 else nm (mu M14 19 0 2 (1 : Int32)) fun M16 => f_J5_setLength_d00df_76 M16 a1) else bd (f_J5_isLatin1_aae02 M14) fun r19 => (if r19 = 0 then none else none)) else none)
set_option maxHeartbeats 4000000 in
set_option maxRecDepth 100000 in
theorem c_J5_setLength_d00df {Y : LY} {l : Launch} (M : Mem) (a1 : Int32) {MZ : Mem} (hf : f_J5_setLength_d00df M a1 = some MZ) : Met l yJ5_setLength_d00df (WS yJ5_setLength_d00df cJ5_setLength_d00df 2 (Option.none : Option Jvm.ClassFile.FieldType)) { frames := 6, cells := 1, slots := 130, locals := 182 } (PcM Y M [.ref (YA Y 19 0), .int a1]) (QvP Y (HS Y MZ)) 1 130 (AZ Y) := by
  refine met_mk (lv := [(0, .ref (YA Y 19 0)), (1, .int a1)]) [.ref (YA Y 19 0), .int a1] (by decide) rfl rfl (Nat.le_of_ble_eq_true rfl) (fun p e s m below meth c C0 hH ls hl => ?_)
  have hS : va_S (AZ Y) s.heap s.heap [] := va_S.rf
  obtain ⟨hx, hb, hr, hml, hown, hA, hlocks, hK, hZ⟩ := id C0
  obtain ⟨q, hH⟩ := hH
  unfold f_J5_setLength_d00df at hf
  refine lv_iload_n hx hb dJ5_setLength_d00df_0 rfl (lv_at hl 1 rfl) ?_
  refine lv_if_ge (tgt := 13) hx hb dJ5_setLength_d00df_1 (by decide) (fun hc22 => ?_) (fun hc22 => ?_)
  · have hf := if_t hf hc22
    refine lv_aload_n hx hb dJ5_setLength_d00df_13 rfl (lv_at hl 0 rfl) ?_
    refine lv_iload_n hx hb dJ5_setLength_d00df_14 rfl (lv_at hl 1 rfl) ?_
    obtain ⟨M14, hq13, hf⟩ := bd_o hf
    refine hs_cv (hs_runU C0 (hg_mk hH) hS (n := 1) (As := [.int a1]) (rest := []) (c_J5_ensureCapacityInternal_d00df M a1 hq13) ⟨⟨zt_1130, zt_2070, zt_1132, zt_9, zt_1133⟩, ⟨by decide, by decide⟩, by decide +kernel⟩ (va_Nw.use rfl (hK.p _ (List.mem_of_getElem? (i := 0) rfl))) ⟨rfl, rfl, Nat.le_of_ble_eq_true rfl, Nat.le_of_ble_eq_true rfl⟩ (hg_recv hK hH) rfl rfl hl.1 (Nat.le_of_ble_eq_true rfl) ⟨Nat.le_of_ble_eq_true rfl, Nat.le_of_ble_eq_true rfl⟩ dJ5_setLength_d00df_15) hS (fun H locs hH hS => ?_)
    obtain ⟨q, hH⟩ := hH
    refine lv_aload_n hx hb dJ5_setLength_d00df_18 rfl (lv_at hl 0 rfl) ?_
    refine hg_get hx hb hA hown hK hH 3 (by decide) (hA _ zt_281) rfl rfl dJ5_setLength_d00df_19 ?_
    refine lv_iload_n hx hb dJ5_setLength_d00df_22 rfl (lv_at hl 1 rfl) ?_
    refine lv_icmp_ge (tgt := 63) hx hb dJ5_setLength_d00df_23 (by decide) (fun hc21 => ?_) (fun hc21 => ?_)
    · have hf := if_t hf hc21
      refine lv_aload_n hx hb dJ5_setLength_d00df_63 rfl (lv_at hl 0 rfl) ?_
      refine hg_get hx hb hA hown hK hH 3 (by decide) (hA _ zt_281) rfl rfl dJ5_setLength_d00df_64 ?_
      refine lv_iload_n hx hb dJ5_setLength_d00df_67 rfl (lv_at hl 1 rfl) ?_
      refine lv_icmp_le (tgt := 76) hx hb dJ5_setLength_d00df_68 (by decide) (fun hc17 => ?_) (fun hc17 => ?_)
      · have hf := if_t hf hc17
        exact w_J5_setLength_d00df_76 C0 M14 a1 hf _ _ _ hH hS (lv_sub hl [0, 1] rfl)
      · have hf := if_f hf hc17
        refine lv_aload_n hx hb dJ5_setLength_d00df_71 rfl (lv_at hl 0 rfl) ?_
        refine lv_iconst (v := (1 : Int32)) hx hb dJ5_setLength_d00df_72 (by decide) ?_
        refine hg_putz hx hb hA hown hK hH hS (hA _ zt_279) rfl (by decide) dJ5_setLength_d00df_73 (fun H locs hH hS => ?_)
        obtain ⟨M16, eM16, hf⟩ := nm_o hf
        rw [← eM16] at hH
        exact w_J5_setLength_d00df_76 C0 M16 a1 hf _ _ _ hH hS (lv_sub hl [0, 1] rfl)
    · have hf := if_f hf hc21
      refine lv_aload_n hx hb dJ5_setLength_d00df_26 rfl (lv_at hl 0 rfl) ?_
      obtain ⟨r19, hq18, hf⟩ := bd_o hf
      refine hs_ci (hs_runU C0 hH hS (n := 0) (As := []) (rest := []) (c_J5_isLatin1_aae02 M14 hq18) ⟨⟨zt_1161, zt_1163, zt_1162, zt_9, zt_1165⟩, ⟨by decide, by decide⟩, by decide +kernel⟩ (hA _ zt_1164) ⟨rfl, rfl, Nat.le_of_ble_eq_true rfl, Nat.le_of_ble_eq_true rfl⟩ (hg_recv hK hH) rfl rfl hl.1 (Nat.le_of_ble_eq_true rfl) ⟨Nat.le_of_ble_eq_true rfl, Nat.le_of_ble_eq_true rfl⟩ dJ5_setLength_d00df_27) hS (fun H locs hH hS => ?_)
      refine lv_if_eq (tgt := 48) hx hb dJ5_setLength_d00df_30 (by decide) (fun hc20 => ?_) (fun hc20 => ?_)
      · have hf := if_t hf hc20
        refine lv_aload_n hx hb dJ5_setLength_d00df_48 rfl (lv_at hl 0 rfl) ?_
        refine hg_get hx hb hA hown hK hH 0 (by decide) (hA _ zt_277) rfl rfl dJ5_setLength_d00df_49 ?_
        refine lv_aload_n hx hb dJ5_setLength_d00df_52 rfl (lv_at hl 0 rfl) ?_
        refine hg_get hx hb hA hown hK hH 3 (by decide) (hA _ zt_281) rfl rfl dJ5_setLength_d00df_53 ?_
        refine lv_iload_n hx hb dJ5_setLength_d00df_56 rfl (lv_at hl 1 rfl) ?_
        cases hf
      · have hf := if_f hf hc20
        refine lv_aload_n hx hb dJ5_setLength_d00df_33 rfl (lv_at hl 0 rfl) ?_
        refine hg_get hx hb hA hown hK hH 0 (by decide) (hA _ zt_277) rfl rfl dJ5_setLength_d00df_34 ?_
        refine lv_aload_n hx hb dJ5_setLength_d00df_37 rfl (lv_at hl 0 rfl) ?_
        refine hg_get hx hb hA hown hK hH 3 (by decide) (hA _ zt_281) rfl rfl dJ5_setLength_d00df_38 ?_
        refine lv_iload_n hx hb dJ5_setLength_d00df_41 rfl (lv_at hl 1 rfl) ?_
        cases hf
  · have hf := if_f hf hc22
    cases hf
def f_J4_setLength_d00df (M : Mem) (a1 : Int32) : Option Mem := bd (f_J5_setLength_d00df M a1) fun M5 => some M5
set_option maxHeartbeats 4000000 in
set_option maxRecDepth 100000 in
theorem c_J4_setLength_d00df {Y : LY} {l : Launch} (M : Mem) (a1 : Int32) {MZ : Mem} (hf : f_J4_setLength_d00df M a1 = some MZ) : Met l yJ4_setLength_d00df (WS yJ4_setLength_d00df cJ4_setLength_d00df 2 (Option.none : Option Jvm.ClassFile.FieldType)) { frames := 7, cells := 1, slots := 130, locals := 203 } (PcM Y M [.ref (YA Y 19 0), .int a1]) (QvP Y (HS Y MZ)) 1 130 (AZ Y) := by
  refine met_mk (lv := [(0, .ref (YA Y 19 0)), (1, .int a1)]) [.ref (YA Y 19 0), .int a1] (by decide) rfl rfl (Nat.le_of_ble_eq_true rfl) (fun p e s m below meth c C0 hH ls hl => ?_)
  have hS : va_S (AZ Y) s.heap s.heap [] := va_S.rf
  obtain ⟨hx, hb, hr, hml, hown, hA, hlocks, hK, hZ⟩ := id C0
  obtain ⟨q, hH⟩ := hH
  unfold f_J4_setLength_d00df at hf
  refine lv_aload_n hx hb dJ4_setLength_d00df_0 rfl (lv_at hl 0 rfl) ?_
  refine lv_iload_n hx hb dJ4_setLength_d00df_1 rfl (lv_at hl 1 rfl) ?_
  obtain ⟨M5, hq4, hf⟩ := bd_o hf
  refine hs_cv (hs_runSU C0 (hg_mk hH) hS (n := 1) (As := [.int a1]) (rest := []) (c_J5_setLength_d00df M a1 hq4) ⟨⟨zt_1108, zt_2067, zt_290, zt_1109, zt_9, zt_1110⟩, by decide, by decide +kernel⟩ ⟨rfl, rfl, Nat.le_of_ble_eq_true rfl, Nat.le_of_ble_eq_true rfl⟩ (hg_recv hK hH) rfl rfl hl.1 (Nat.le_of_ble_eq_true rfl) ⟨Nat.le_of_ble_eq_true rfl, Nat.le_of_ble_eq_true rfl⟩ dJ4_setLength_d00df_2) hS (fun H locs hH hS => ?_)
  obtain ⟨q, hH⟩ := hH
  obtain rfl := Option.some.inj hf
  exact hs_vret C0 (hg_mk hH) hS (by decide) (by decide) dJ4_setLength_d00df_5
def f_J4_length_8abf5 (M : Mem) : Option Int32 := bd (f_J5_length_8abf5 M) fun r4 => some r4
set_option maxHeartbeats 4000000 in
set_option maxRecDepth 100000 in
theorem c_J4_length_8abf5 {Y : LY} {l : Launch} (M : Mem) {r : Int32} (hf : f_J4_length_8abf5 M = some r) : Met l yJ4_length_8abf5 (WS yJ4_length_8abf5 cJ4_length_8abf5 1 (Option.some Jvm.ClassFile.FieldType.int)) { frames := 1, cells := 0, slots := 0, locals := 20 } (PcM Y M [.ref (YA Y 19 0)]) (QiP Y r (HS Y M)) 0 0 (AZ Y) := by
  refine met_mk (lv := [(0, .ref (YA Y 19 0))]) [.ref (YA Y 19 0)] (by decide) rfl rfl (Nat.le_of_ble_eq_true rfl) (fun p e s m below meth c C0 hH ls hl => ?_)
  have hS : va_S (AZ Y) s.heap s.heap [] := va_S.rf
  obtain ⟨hx, hb, hr, hml, hown, hA, hlocks, hK, hZ⟩ := id C0
  obtain ⟨q, hH⟩ := hH
  unfold f_J4_length_8abf5 at hf
  refine lv_aload_n hx hb dJ4_length_8abf5_0 rfl (lv_at hl 0 rfl) ?_
  obtain ⟨r4, hq3, hf⟩ := bd_o hf
  refine hs_ci (hs_runSU C0 hH hS (n := 0) (As := []) (rest := []) (c_J5_length_8abf5 M hq3) ⟨⟨zt_1283, zt_1279, zt_290, zt_1278, zt_9, zt_1284⟩, by decide, by decide +kernel⟩ ⟨rfl, rfl, Nat.le_of_ble_eq_true rfl, Nat.le_of_ble_eq_true rfl⟩ (hg_recv hK hH) rfl rfl hl.1 (Nat.le_of_ble_eq_true rfl) ⟨Nat.le_of_ble_eq_true rfl, Nat.le_of_ble_eq_true rfl⟩ dJ4_length_8abf5_1) hS (fun H locs hH hS => ?_)
  obtain rfl := Option.some.inj hf
  exact hs_iret C0 (hg_mk hH) hS (by decide) (by decide) dJ4_length_8abf5_4
def f_J4_charAt_5068e (M : Mem) (a1 : Int32) : Option Int32 := bd (f_J5_charAt_5068e M a1) fun r5 => if isC r5 then some r5 else none
set_option maxHeartbeats 4000000 in
set_option maxRecDepth 100000 in
theorem c_J4_charAt_5068e {Y : LY} {l : Launch} (M : Mem) (a1 : Int32) {r : Int32} (hf : f_J4_charAt_5068e M a1 = some r) : Met l yJ4_charAt_5068e (WS yJ4_charAt_5068e cJ4_charAt_5068e 2 (Option.some Jvm.ClassFile.FieldType.char)) { frames := 3, cells := 0, slots := 0, locals := 67 } (PcM Y M [.ref (YA Y 19 0), .int a1]) (QiP Y r (HS Y M)) 0 0 (AZ Y) := by
  refine met_mk (lv := [(0, .ref (YA Y 19 0)), (1, .int a1)]) [.ref (YA Y 19 0), .int a1] (by decide) rfl rfl (Nat.le_of_ble_eq_true rfl) (fun p e s m below meth c C0 hH ls hl => ?_)
  have hS : va_S (AZ Y) s.heap s.heap [] := va_S.rf
  obtain ⟨hx, hb, hr, hml, hown, hA, hlocks, hK, hZ⟩ := id C0
  obtain ⟨q, hH⟩ := hH
  unfold f_J4_charAt_5068e at hf
  refine lv_aload_n hx hb dJ4_charAt_5068e_0 rfl (lv_at hl 0 rfl) ?_
  refine lv_iload_n hx hb dJ4_charAt_5068e_1 rfl (lv_at hl 1 rfl) ?_
  obtain ⟨r5, hq4, hf⟩ := bd_o hf
  refine hs_ci (hs_runSU C0 hH hS (n := 1) (As := [.int a1]) (rest := []) (c_J5_charAt_5068e M a1 hq4) ⟨⟨zt_1420, zt_2078, zt_290, zt_1421, zt_9, zt_1422⟩, by decide, by decide +kernel⟩ ⟨rfl, rfl, Nat.le_of_ble_eq_true rfl, Nat.le_of_ble_eq_true rfl⟩ (hg_recv hK hH) rfl rfl hl.1 (Nat.le_of_ble_eq_true rfl) ⟨Nat.le_of_ble_eq_true rfl, Nat.le_of_ble_eq_true rfl⟩ dJ4_charAt_5068e_2) hS (fun H locs hH hS => ?_)
  obtain ⟨hg6, hf⟩ := gd_o hf
  obtain rfl := Option.some.inj hf
  exact hs_cret C0 (hg_mk hH) hS (by decide) (by decide) hg6 dJ4_charAt_5068e_5
