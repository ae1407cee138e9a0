def f_X1_writeTo_66 (M : Mem) (a2 : Int32) : Option Mem := (if a2 ≤ 0 then some M else bd (f_J4_append_15ec4 M 17) fun M37 => bd (f_J4_append_bf812 M37 a2) fun M40 => some M40)
set_option maxHeartbeats 4000000 in
set_option maxRecDepth 100000 in
theorem w_X1_writeTo_66 {Y : LY} {p : Program} {l : Launch} {e : Env} {s : State} {m : MethodId} {args : Array Value} {below : List Frame} {meth : Method} {c : Code} (C0 : BE Y p s m args meth c cX1_writeTo 3 (Option.none : Option Jvm.ClassFile.FieldType) RX1) {MZ : Mem} : ∀ (M : Mem) (a2 : Int32), f_X1_writeTo_66 M a2 = some MZ → ∀ (H : Heap) (locs : List Loc) (ls : Array Slot), HS Y M H → va_S (AZ Y) s.heap H locs → lv_has ls 3 [(1, .ref (YA Y 19 0)), (2, .int a2)] → W p l e { frames := 8, cells := 11, slots := 1430, locals := 226 } s m args below meth c H locs 9 1170 (MQ below (Qv Y MZ) args s 11 1430 (AZ Y)) (F0 m 66 ls []) := by
  obtain ⟨hx, hb, hr, hml, hown, hA, hlocks, hK, hZ⟩ := id C0
  intro M a2 hf H locs ls hH hS hl
  unfold f_X1_writeTo_66 at hf
  refine lv_iload_n hx hb dX1_writeTo_66 rfl (lv_at hl 1 rfl) ?_
  refine lv_if_le (tgt := 81) hx hb dX1_writeTo_67 (by decide) (fun hc42 => ?_) (fun hc42 => ?_)
  · have hf := if_t hf hc42
    cases hf
    exact hs_vret C0 hH hS (by decide) (by decide) dX1_writeTo_81
  · have hf := if_f hf hc42
    refine lv_aload_n hx hb dX1_writeTo_70 rfl (lv_at hl 0 rfl) ?_
    refine va_ldcS hx hb hown (hK.r 17 ("RiverParcelService$Link", 46, " w") rfl) dX1_writeTo_71 ?_
    obtain ⟨M37, hq36, hf⟩ := bd_o hf
    refine hs_cr (hs_runV C0 hH hS (n := 1) (As := [.ref (YK Y 17)]) (rest := []) (c_J4_append_15ec4 M 17 (by decide) hq36) ⟨⟨zt_1405, zt_1120, zt_1121, zt_10, zt_1122⟩, rfl, by decide, by decide, by decide +kernel⟩ ⟨rfl, rfl, Nat.le_of_ble_eq_true rfl, Nat.le_of_ble_eq_true rfl⟩ (hs_recvS hK hH) rfl rfl hl.1 (Nat.le_of_ble_eq_true rfl) ⟨Nat.le_of_ble_eq_true rfl, Nat.le_of_ble_eq_true rfl⟩ dX1_writeTo_73) hS (fun H locs hH hS => ?_)
    refine lv_iload_n hx hb dX1_writeTo_76 rfl (lv_at hl 1 rfl) ?_
    obtain ⟨M40, hq39, hf⟩ := bd_o hf
    refine hs_cr (hs_runV C0 hH hS (n := 1) (As := [.int a2]) (rest := []) (c_J4_append_bf812 M37 a2 hq39) ⟨⟨zt_1403, zt_1236, zt_1237, zt_10, zt_1238⟩, rfl, by decide, by decide, by decide +kernel⟩ ⟨rfl, rfl, Nat.le_of_ble_eq_true rfl, Nat.le_of_ble_eq_true rfl⟩ (hs_recvS hK hH) rfl rfl hl.1 (Nat.le_of_ble_eq_true rfl) ⟨Nat.le_of_ble_eq_true rfl, Nat.le_of_ble_eq_true rfl⟩ dX1_writeTo_77) hS (fun H locs hH hS => ?_)
    refine lv_pop hx hb dX1_writeTo_80 rfl ?_
    cases hf
    exact hs_vret C0 hH hS (by decide) (by decide) dX1_writeTo_81
def f_X1_writeTo (M : Mem) (i0 : Nat) (a2 : Int32) : Option Mem := bd (f_J4_append_cf468 M (40 : Int32)) fun M44 => bd (f_J4_append_bf812 M44 (M44 4 i0 0)) fun M47 => bd (f_J4_append_cf468 M47 (45 : Int32)) fun M50 => bd (f_J4_append_bf812 M50 (M50 4 i0 1)) fun M53 => bd (f_J4_append_15ec4 M53 14) fun M56 => bd (f_J4_append_bf812 M56 (M56 4 i0 2)) fun M59 => bd (f_J4_append_15ec4 M59 15) fun M62 => bd (f_J4_append_bf812 M62 (M62 4 i0 3)) fun M65 => (if (M65 4 i0 4) = 0 then f_X1_writeTo_66 M65 a2 else bd (f_J4_append_15ec4 M65 16) fun M68 => f_X1_writeTo_66 M68 a2)
set_option maxHeartbeats 4000000 in
set_option maxRecDepth 100000 in
theorem c_X1_writeTo {Y : LY} {l : Launch} (M : Mem) (i0 : Nat) (a2 : Int32) (hi0 : i0 < 220) {MZ : Mem} (hf : f_X1_writeTo M i0 a2 = some MZ) : Met l yX1_writeTo (WS yX1_writeTo cX1_writeTo 3 (Option.none : Option Jvm.ClassFile.FieldType)) { frames := 8, cells := 11, slots := 1430, locals := 226 } (PcM Y M [.ref (YA Y 4 i0), .ref (YA Y 19 0), .int a2]) (Qv Y MZ) 11 1430 (AZ Y) := by
  refine met_mk (lv := [(0, .ref (YA Y 4 i0)), (1, .ref (YA Y 19 0)), (2, .int a2)]) [.ref (YA Y 4 i0), .ref (YA Y 19 0), .int a2] (by decide) rfl rfl (Nat.le_of_ble_eq_true rfl) (fun p e s m below meth c C0 hH ls hl => ?_)
  have hS : va_S (AZ Y) s.heap s.heap [] := va_S.rf
  obtain ⟨hx, hb, hr, hml, hown, hA, hlocks, hK, hZ⟩ := id C0
  unfold f_X1_writeTo at hf
  refine lv_aload_n hx hb dX1_writeTo_0 rfl (lv_at hl 1 rfl) ?_
  refine lv_bipush (v := (40 : Int32)) hx hb dX1_writeTo_1 (by decide) ?_
  obtain ⟨M44, hq43, hf⟩ := bd_o hf
  refine hs_cr (hs_runV C0 hH hS (n := 1) (As := [.int (40 : Int32)]) (rest := []) (c_J4_append_cf468 M (40 : Int32) hq43) ⟨⟨zt_1402, zt_1362, zt_1363, zt_10, zt_1364⟩, rfl, by decide, by decide, by decide +kernel⟩ ⟨rfl, rfl, Nat.le_of_ble_eq_true rfl, Nat.le_of_ble_eq_true rfl⟩ (hs_recvS hK hH) rfl rfl hl.1 (Nat.le_of_ble_eq_true rfl) ⟨Nat.le_of_ble_eq_true rfl, Nat.le_of_ble_eq_true rfl⟩ dX1_writeTo_3) hS (fun H locs hH hS => ?_)
  refine lv_aload_n hx hb dX1_writeTo_6 rfl (lv_at hl 0 rfl) ?_
  refine hs_get hx hb (T := TX1) hA inAX1 hown hK hH 4 i0 (show i0 < 220 from by omega) 5 rfl rfl 0 (by decide) (hA _ zt_77) rfl rfl dX1_writeTo_7 ?_
  obtain ⟨M47, hq46, hf⟩ := bd_o hf
  refine hs_cr (hs_runV C0 hH hS (n := 1) (As := [.int (M44 4 i0 0)]) (rest := []) (c_J4_append_bf812 M44 (M44 4 i0 0) hq46) ⟨⟨zt_1403, zt_1236, zt_1237, zt_10, zt_1238⟩, rfl, by decide, by decide, by decide +kernel⟩ ⟨rfl, rfl, Nat.le_of_ble_eq_true rfl, Nat.le_of_ble_eq_true rfl⟩ (hs_recvS hK hH) rfl rfl hl.1 (Nat.le_of_ble_eq_true rfl) ⟨Nat.le_of_ble_eq_true rfl, Nat.le_of_ble_eq_true rfl⟩ dX1_writeTo_10) hS (fun H locs hH hS => ?_)
  refine lv_bipush (v := (45 : Int32)) hx hb dX1_writeTo_13 (by decide) ?_
  obtain ⟨M50, hq49, hf⟩ := bd_o hf
  refine hs_cr (hs_runV C0 hH hS (n := 1) (As := [.int (45 : Int32)]) (rest := []) (c_J4_append_cf468 M47 (45 : Int32) hq49) ⟨⟨zt_1402, zt_1362, zt_1363, zt_10, zt_1364⟩, rfl, by decide, by decide, by decide +kernel⟩ ⟨rfl, rfl, Nat.le_of_ble_eq_true rfl, Nat.le_of_ble_eq_true rfl⟩ (hs_recvS hK hH) rfl rfl hl.1 (Nat.le_of_ble_eq_true rfl) ⟨Nat.le_of_ble_eq_true rfl, Nat.le_of_ble_eq_true rfl⟩ dX1_writeTo_15) hS (fun H locs hH hS => ?_)
  refine lv_aload_n hx hb dX1_writeTo_18 rfl (lv_at hl 0 rfl) ?_
  refine hs_get hx hb (T := TX1) hA inAX1 hown hK hH 4 i0 (show i0 < 220 from by omega) 5 rfl rfl 1 (by decide) (hA _ zt_82) rfl rfl dX1_writeTo_19 ?_
  obtain ⟨M53, hq52, hf⟩ := bd_o hf
  refine hs_cr (hs_runV C0 hH hS (n := 1) (As := [.int (M50 4 i0 1)]) (rest := []) (c_J4_append_bf812 M50 (M50 4 i0 1) hq52) ⟨⟨zt_1403, zt_1236, zt_1237, zt_10, zt_1238⟩, rfl, by decide, by decide, by decide +kernel⟩ ⟨rfl, rfl, Nat.le_of_ble_eq_true rfl, Nat.le_of_ble_eq_true rfl⟩ (hs_recvS hK hH) rfl rfl hl.1 (Nat.le_of_ble_eq_true rfl) ⟨Nat.le_of_ble_eq_true rfl, Nat.le_of_ble_eq_true rfl⟩ dX1_writeTo_22) hS (fun H locs hH hS => ?_)
  refine va_ldcS hx hb hown (hK.r 14 ("RiverParcelService$Link", 37, ") ") rfl) dX1_writeTo_25 ?_
  obtain ⟨M56, hq55, hf⟩ := bd_o hf
  refine hs_cr (hs_runV C0 hH hS (n := 1) (As := [.ref (YK Y 14)]) (rest := []) (c_J4_append_15ec4 M53 14 (by decide) hq55) ⟨⟨zt_1405, zt_1120, zt_1121, zt_10, zt_1122⟩, rfl, by decide, by decide, by decide +kernel⟩ ⟨rfl, rfl, Nat.le_of_ble_eq_true rfl, Nat.le_of_ble_eq_true rfl⟩ (hs_recvS hK hH) rfl rfl hl.1 (Nat.le_of_ble_eq_true rfl) ⟨Nat.le_of_ble_eq_true rfl, Nat.le_of_ble_eq_true rfl⟩ dX1_writeTo_27) hS (fun H locs hH hS => ?_)
  refine lv_pop hx hb dX1_writeTo_30 rfl ?_
  refine lv_aload_n hx hb dX1_writeTo_31 rfl (lv_at hl 1 rfl) ?_
  refine lv_aload_n hx hb dX1_writeTo_32 rfl (lv_at hl 0 rfl) ?_
  refine hs_get hx hb (T := TX1) hA inAX1 hown hK hH 4 i0 (show i0 < 220 from by omega) 5 rfl rfl 2 (by decide) (hA _ zt_87) rfl rfl dX1_writeTo_33 ?_
  obtain ⟨M59, hq58, hf⟩ := bd_o hf
  refine hs_cr (hs_runV C0 hH hS (n := 1) (As := [.int (M56 4 i0 2)]) (rest := []) (c_J4_append_bf812 M56 (M56 4 i0 2) hq58) ⟨⟨zt_1403, zt_1236, zt_1237, zt_10, zt_1238⟩, rfl, by decide, by decide, by decide +kernel⟩ ⟨rfl, rfl, Nat.le_of_ble_eq_true rfl, Nat.le_of_ble_eq_true rfl⟩ (hs_recvS hK hH) rfl rfl hl.1 (Nat.le_of_ble_eq_true rfl) ⟨Nat.le_of_ble_eq_true rfl, Nat.le_of_ble_eq_true rfl⟩ dX1_writeTo_36) hS (fun H locs hH hS => ?_)
  refine va_ldcS hx hb hown (hK.r 15 ("RiverParcelService$Link", 42, "h/") rfl) dX1_writeTo_39 ?_
  obtain ⟨M62, hq61, hf⟩ := bd_o hf
  refine hs_cr (hs_runV C0 hH hS (n := 1) (As := [.ref (YK Y 15)]) (rest := []) (c_J4_append_15ec4 M59 15 (by decide) hq61) ⟨⟨zt_1405, zt_1120, zt_1121, zt_10, zt_1122⟩, rfl, by decide, by decide, by decide +kernel⟩ ⟨rfl, rfl, Nat.le_of_ble_eq_true rfl, Nat.le_of_ble_eq_true rfl⟩ (hs_recvS hK hH) rfl rfl hl.1 (Nat.le_of_ble_eq_true rfl) ⟨Nat.le_of_ble_eq_true rfl, Nat.le_of_ble_eq_true rfl⟩ dX1_writeTo_41) hS (fun H locs hH hS => ?_)
  refine lv_aload_n hx hb dX1_writeTo_44 rfl (lv_at hl 0 rfl) ?_
  refine hs_get hx hb (T := TX1) hA inAX1 hown hK hH 4 i0 (show i0 < 220 from by omega) 5 rfl rfl 3 (by decide) (hA _ zt_92) rfl rfl dX1_writeTo_45 ?_
  obtain ⟨M65, hq64, hf⟩ := bd_o hf
  refine hs_cr (hs_runV C0 hH hS (n := 1) (As := [.int (M62 4 i0 3)]) (rest := []) (c_J4_append_bf812 M62 (M62 4 i0 3) hq64) ⟨⟨zt_1403, zt_1236, zt_1237, zt_10, zt_1238⟩, rfl, by decide, by decide, by decide +kernel⟩ ⟨rfl, rfl, Nat.le_of_ble_eq_true rfl, Nat.le_of_ble_eq_true rfl⟩ (hs_recvS hK hH) rfl rfl hl.1 (Nat.le_of_ble_eq_true rfl) ⟨Nat.le_of_ble_eq_true rfl, Nat.le_of_ble_eq_true rfl⟩ dX1_writeTo_48) hS (fun H locs hH hS => ?_)
  refine lv_pop hx hb dX1_writeTo_51 rfl ?_
  refine lv_aload_n hx hb dX1_writeTo_52 rfl (lv_at hl 0 rfl) ?_
  refine hs_get hx hb (T := TX1) hA inAX1 hown hK hH 4 i0 (show i0 < 220 from by omega) 5 rfl rfl 4 (by decide) (hA _ zt_94) rfl rfl dX1_writeTo_53 ?_
  refine lv_if_eq (tgt := 66) hx hb dX1_writeTo_56 (by decide) (fun hc70 => ?_) (fun hc70 => ?_)
  · have hf := if_t hf hc70
    refine W.widen (k := 9) (n := 1170) (by decide) (by decide) ?_
    exact w_X1_writeTo_66 C0 M65 a2 hf _ _ _ hH hS (lv_sub hl [1, 2] rfl)
  · have hf := if_f hf hc70
    refine lv_aload_n hx hb dX1_writeTo_59 rfl (lv_at hl 1 rfl) ?_
    refine va_ldcS hx hb hown (hK.r 16 ("RiverParcelService$Link", 44, " x") rfl) dX1_writeTo_60 ?_
    obtain ⟨M68, hq67, hf⟩ := bd_o hf
    refine hs_cr (hs_runV C0 hH hS (n := 1) (As := [.ref (YK Y 16)]) (rest := []) (c_J4_append_15ec4 M65 16 (by decide) hq67) ⟨⟨zt_1405, zt_1120, zt_1121, zt_10, zt_1122⟩, rfl, by decide, by decide, by decide +kernel⟩ ⟨rfl, rfl, Nat.le_of_ble_eq_true rfl, Nat.le_of_ble_eq_true rfl⟩ (hs_recvS hK hH) rfl rfl hl.1 (Nat.le_of_ble_eq_true rfl) ⟨Nat.le_of_ble_eq_true rfl, Nat.le_of_ble_eq_true rfl⟩ dX1_writeTo_62) hS (fun H locs hH hS => ?_)
    refine lv_pop hx hb dX1_writeTo_65 rfl ?_
    exact w_X1_writeTo_66 C0 M68 a2 hf _ _ _ hH hS (lv_sub hl [1, 2] rfl)
def f_X3_writeTo_88 (M : Mem) (i0 : Nat) : Option Mem := bd (f_J4_append_15ec4 M 13) fun M47 => bd (f_J4_append_bf812 M47 (M47 6 i0 3)) fun M50 => some M50
set_option maxHeartbeats 4000000 in
set_option maxRecDepth 100000 in
theorem w_X3_writeTo_88 {Y : LY} {p : Program} {l : Launch} {e : Env} {s : State} {m : MethodId} {args : Array Value} {below : List Frame} {meth : Method} {c : Code} (C0 : BE Y p s m args meth c cX3_writeTo 2 (Option.none : Option Jvm.ClassFile.FieldType) RX3) {MZ : Mem} : ∀ (M : Mem) (i0 : Nat), i0 < 132 → f_X3_writeTo_88 M i0 = some MZ → ∀ (H : Heap) (locs : List Loc) (ls : Array Slot), HS Y M H → va_S (AZ Y) s.heap H locs → lv_has ls 2 [(0, .ref (YA Y 6 i0)), (1, .ref (YA Y 19 0))] → W p l e { frames := 8, cells := 12, slots := 1560, locals := 226 } s m args below meth c H locs 10 1300 (MQ below (Qv Y MZ) args s 12 1560 (AZ Y)) (F0 m 88 ls []) := by
  obtain ⟨hx, hb, hr, hml, hown, hA, hlocks, hK, hZ⟩ := id C0
  intro M i0 hi0 hf H locs ls hH hS hl
  unfold f_X3_writeTo_88 at hf
  refine lv_aload_n hx hb dX3_writeTo_88 rfl (lv_at hl 1 rfl) ?_
  refine va_ldcS hx hb hown (hK.r 13 ("RiverParcelService$Parcel", 53, " >") rfl) dX3_writeTo_89 ?_
  obtain ⟨M47, hq46, hf⟩ := bd_o hf
  refine hs_cr (hs_runV C0 hH hS (n := 1) (As := [.ref (YK Y 13)]) (rest := []) (c_J4_append_15ec4 M 13 (by decide) hq46) ⟨⟨zt_1386, zt_1120, zt_1121, zt_10, zt_1122⟩, rfl, by decide, by decide, by decide +kernel⟩ ⟨rfl, rfl, Nat.le_of_ble_eq_true rfl, Nat.le_of_ble_eq_true rfl⟩ (hs_recvS hK hH) rfl rfl hl.1 (Nat.le_of_ble_eq_true rfl) ⟨Nat.le_of_ble_eq_true rfl, Nat.le_of_ble_eq_true rfl⟩ dX3_writeTo_91) hS (fun H locs hH hS => ?_)
  refine lv_aload_n hx hb dX3_writeTo_94 rfl (lv_at hl 0 rfl) ?_
  refine hs_get hx hb (T := TX3) hA inAX3 hown hK hH 6 i0 (show i0 < 132 from by omega) 7 rfl rfl 3 (by decide) (hA _ zt_145) rfl rfl dX3_writeTo_95 ?_
  obtain ⟨M50, hq49, hf⟩ := bd_o hf
  refine hs_cr (hs_runV C0 hH hS (n := 1) (As := [.int (M47 6 i0 3)]) (rest := []) (c_J4_append_bf812 M47 (M47 6 i0 3) hq49) ⟨⟨zt_1383, zt_1236, zt_1237, zt_10, zt_1238⟩, rfl, by decide, by decide, by decide +kernel⟩ ⟨rfl, rfl, Nat.le_of_ble_eq_true rfl, Nat.le_of_ble_eq_true rfl⟩ (hs_recvS hK hH) rfl rfl hl.1 (Nat.le_of_ble_eq_true rfl) ⟨Nat.le_of_ble_eq_true rfl, Nat.le_of_ble_eq_true rfl⟩ dX3_writeTo_98) hS (fun H locs hH hS => ?_)
  refine lv_pop hx hb dX3_writeTo_101 rfl ?_
  cases hf
  exact hs_vret C0 hH hS (by decide) (by decide) dX3_writeTo_102
def f_X3_writeTo (M : Mem) (i0 : Nat) : Option Mem := bd (f_J4_append_cf468 M (35 : Int32)) fun M53 => bd (f_J4_append_bf812 M53 (M53 6 i0 0)) fun M56 => bd (f_J4_append_cf468 M56 (32 : Int32)) fun M59 => bd (f_J4_append_bf812 M59 (M59 6 i0 1)) fun M62 => bd (f_J4_append_cf468 M62 (42 : Int32)) fun M65 => bd (f_J4_append_bf812 M65 (M65 6 i0 2)) fun M68 => bd (f_X3_isUnderWay M68 i0) fun r71 => (if r71 = 0 then bd (f_J4_append_15ec4 M68 12) fun M73 => bd (f_J4_append_bf812 M73 (M73 6 i0 4)) fun M76 => f_X3_writeTo_88 M76 i0 else bd (f_J4_append_15ec4 M68 11) fun M79 => bd (f_J4_append_bf812 M79 (M79 6 i0 5)) fun M82 => bd (f_J4_append_cf468 M82 (58 : Int32)) fun M85 => bd (f_J4_append_bf812 M85 (M85 6 i0 6)) fun M88 => f_X3_writeTo_88 M88 i0)
set_option maxHeartbeats 4000000 in
set_option maxRecDepth 100000 in
theorem c_X3_writeTo {Y : LY} {l : Launch} (M : Mem) (i0 : Nat) (hi0 : i0 < 132) {MZ : Mem} (hf : f_X3_writeTo M i0 = some MZ) : Met l yX3_writeTo (WS yX3_writeTo cX3_writeTo 2 (Option.none : Option Jvm.ClassFile.FieldType)) { frames := 8, cells := 12, slots := 1560, locals := 226 } (PcM Y M [.ref (YA Y 6 i0), .ref (YA Y 19 0)]) (Qv Y MZ) 12 1560 (AZ Y) := by
  refine met_mk (lv := [(0, .ref (YA Y 6 i0)), (1, .ref (YA Y 19 0))]) [.ref (YA Y 6 i0), .ref (YA Y 19 0)] (by decide) rfl rfl (Nat.le_of_ble_eq_true rfl) (fun p e s m below meth c C0 hH ls hl => ?_)
  have hS : va_S (AZ Y) s.heap s.heap [] := va_S.rf
  obtain ⟨hx, hb, hr, hml, hown, hA, hlocks, hK, hZ⟩ := id C0
  unfold f_X3_writeTo at hf
  refine lv_aload_n hx hb dX3_writeTo_0 rfl (lv_at hl 1 rfl) ?_
  refine lv_bipush (v := (35 : Int32)) hx hb dX3_writeTo_1 (by decide) ?_
  obtain ⟨M53, hq52, hf⟩ := bd_o hf
  refine hs_cr (hs_runV C0 hH hS (n := 1) (As := [.int (35 : Int32)]) (rest := []) (c_J4_append_cf468 M (35 : Int32) hq52) ⟨⟨zt_1361, zt_1362, zt_1363, zt_10, zt_1364⟩, rfl, by decide, by decide, by decide +kernel⟩ ⟨rfl, rfl, Nat.le_of_ble_eq_true rfl, Nat.le_of_ble_eq_true rfl⟩ (hs_recvS hK hH) rfl rfl hl.1 (Nat.le_of_ble_eq_true rfl) ⟨Nat.le_of_ble_eq_true rfl, Nat.le_of_ble_eq_true rfl⟩ dX3_writeTo_3) hS (fun H locs hH hS => ?_)
  refine lv_aload_n hx hb dX3_writeTo_6 rfl (lv_at hl 0 rfl) ?_
  refine hs_get hx hb (T := TX3) hA inAX3 hown hK hH 6 i0 (show i0 < 132 from by omega) 7 rfl rfl 0 (by decide) (hA _ zt_136) rfl rfl dX3_writeTo_7 ?_
  obtain ⟨M56, hq55, hf⟩ := bd_o hf
  refine hs_cr (hs_runV C0 hH hS (n := 1) (As := [.int (M53 6 i0 0)]) (rest := []) (c_J4_append_bf812 M53 (M53 6 i0 0) hq55) ⟨⟨zt_1383, zt_1236, zt_1237, zt_10, zt_1238⟩, rfl, by decide, by decide, by decide +kernel⟩ ⟨rfl, rfl, Nat.le_of_ble_eq_true rfl, Nat.le_of_ble_eq_true rfl⟩ (hs_recvS hK hH) rfl rfl hl.1 (Nat.le_of_ble_eq_true rfl) ⟨Nat.le_of_ble_eq_true rfl, Nat.le_of_ble_eq_true rfl⟩ dX3_writeTo_10) hS (fun H locs hH hS => ?_)
  refine lv_bipush (v := (32 : Int32)) hx hb dX3_writeTo_13 (by decide) ?_
  obtain ⟨M59, hq58, hf⟩ := bd_o hf
  refine hs_cr (hs_runV C0 hH hS (n := 1) (As := [.int (32 : Int32)]) (rest := []) (c_J4_append_cf468 M56 (32 : Int32) hq58) ⟨⟨zt_1361, zt_1362, zt_1363, zt_10, zt_1364⟩, rfl, by decide, by decide, by decide +kernel⟩ ⟨rfl, rfl, Nat.le_of_ble_eq_true rfl, Nat.le_of_ble_eq_true rfl⟩ (hs_recvS hK hH) rfl rfl hl.1 (Nat.le_of_ble_eq_true rfl) ⟨Nat.le_of_ble_eq_true rfl, Nat.le_of_ble_eq_true rfl⟩ dX3_writeTo_15) hS (fun H locs hH hS => ?_)
  refine lv_aload_n hx hb dX3_writeTo_18 rfl (lv_at hl 0 rfl) ?_
  refine hs_get hx hb (T := TX3) hA inAX3 hown hK hH 6 i0 (show i0 < 132 from by omega) 7 rfl rfl 1 (by decide) (hA _ zt_139) rfl rfl dX3_writeTo_19 ?_
  obtain ⟨M62, hq61, hf⟩ := bd_o hf
  refine hs_cr (hs_runV C0 hH hS (n := 1) (As := [.int (M59 6 i0 1)]) (rest := []) (c_J4_append_bf812 M59 (M59 6 i0 1) hq61) ⟨⟨zt_1383, zt_1236, zt_1237, zt_10, zt_1238⟩, rfl, by decide, by decide, by decide +kernel⟩ ⟨rfl, rfl, Nat.le_of_ble_eq_true rfl, Nat.le_of_ble_eq_true rfl⟩ (hs_recvS hK hH) rfl rfl hl.1 (Nat.le_of_ble_eq_true rfl) ⟨Nat.le_of_ble_eq_true rfl, Nat.le_of_ble_eq_true rfl⟩ dX3_writeTo_22) hS (fun H locs hH hS => ?_)
  refine lv_bipush (v := (42 : Int32)) hx hb dX3_writeTo_25 (by decide) ?_
  obtain ⟨M65, hq64, hf⟩ := bd_o hf
  refine hs_cr (hs_runV C0 hH hS (n := 1) (As := [.int (42 : Int32)]) (rest := []) (c_J4_append_cf468 M62 (42 : Int32) hq64) ⟨⟨zt_1361, zt_1362, zt_1363, zt_10, zt_1364⟩, rfl, by decide, by decide, by decide +kernel⟩ ⟨rfl, rfl, Nat.le_of_ble_eq_true rfl, Nat.le_of_ble_eq_true rfl⟩ (hs_recvS hK hH) rfl rfl hl.1 (Nat.le_of_ble_eq_true rfl) ⟨Nat.le_of_ble_eq_true rfl, Nat.le_of_ble_eq_true rfl⟩ dX3_writeTo_27) hS (fun H locs hH hS => ?_)
  refine lv_aload_n hx hb dX3_writeTo_30 rfl (lv_at hl 0 rfl) ?_
  refine hs_get hx hb (T := TX3) hA inAX3 hown hK hH 6 i0 (show i0 < 132 from by omega) 7 rfl rfl 2 (by decide) (hA _ zt_142) rfl rfl dX3_writeTo_31 ?_
  obtain ⟨M68, hq67, hf⟩ := bd_o hf
  refine hs_cr (hs_runV C0 hH hS (n := 1) (As := [.int (M65 6 i0 2)]) (rest := []) (c_J4_append_bf812 M65 (M65 6 i0 2) hq67) ⟨⟨zt_1383, zt_1236, zt_1237, zt_10, zt_1238⟩, rfl, by decide, by decide, by decide +kernel⟩ ⟨rfl, rfl, Nat.le_of_ble_eq_true rfl, Nat.le_of_ble_eq_true rfl⟩ (hs_recvS hK hH) rfl rfl hl.1 (Nat.le_of_ble_eq_true rfl) ⟨Nat.le_of_ble_eq_true rfl, Nat.le_of_ble_eq_true rfl⟩ dX3_writeTo_34) hS (fun H locs hH hS => ?_)
  refine lv_pop hx hb dX3_writeTo_37 rfl ?_
  refine lv_aload_n hx hb dX3_writeTo_38 rfl (lv_at hl 0 rfl) ?_
  obtain ⟨r71, hq70, hf⟩ := bd_o hf
  refine hs_ci (hs_runV C0 hH hS (n := 0) (As := []) (rest := []) (c_X3_isUnderWay M68 i0 (show i0 < 132 from by omega) hq70) ⟨⟨zt_1384, zt_374, zt_375, zt_6, zt_376⟩, rfl, by decide, by decide, by decide +kernel⟩ ⟨rfl, rfl, Nat.le_of_ble_eq_true rfl, Nat.le_of_ble_eq_true rfl⟩ (hs_recv hK hH 6 i0 (show i0 < 132 from by omega) 7 rfl rfl) rfl rfl hl.1 (Nat.le_of_ble_eq_true rfl) ⟨Nat.le_of_ble_eq_true rfl, Nat.le_of_ble_eq_true rfl⟩ dX3_writeTo_39) hS (fun H locs hH hS => ?_)
  refine lv_if_eq (tgt := 74) hx hb dX3_writeTo_42 (by decide) (fun hc90 => ?_) (fun hc90 => ?_)
  · have hf := if_t hf hc90
    refine lv_aload_n hx hb dX3_writeTo_74 rfl (lv_at hl 1 rfl) ?_
    refine va_ldcS hx hb hown (hK.r 12 ("RiverParcelService$Parcel", 51, " @") rfl) dX3_writeTo_75 ?_
    obtain ⟨M73, hq72, hf⟩ := bd_o hf
    refine hs_cr (hs_runV C0 hH hS (n := 1) (As := [.ref (YK Y 12)]) (rest := []) (c_J4_append_15ec4 M68 12 (by decide) hq72) ⟨⟨zt_1386, zt_1120, zt_1121, zt_10, zt_1122⟩, rfl, by decide, by decide, by decide +kernel⟩ ⟨rfl, rfl, Nat.le_of_ble_eq_true rfl, Nat.le_of_ble_eq_true rfl⟩ (hs_recvS hK hH) rfl rfl hl.1 (Nat.le_of_ble_eq_true rfl) ⟨Nat.le_of_ble_eq_true rfl, Nat.le_of_ble_eq_true rfl⟩ dX3_writeTo_77) hS (fun H locs hH hS => ?_)
    refine lv_aload_n hx hb dX3_writeTo_80 rfl (lv_at hl 0 rfl) ?_
    refine hs_get hx hb (T := TX3) hA inAX3 hown hK hH 6 i0 (show i0 < 132 from by omega) 7 rfl rfl 4 (by decide) (hA _ zt_148) rfl rfl dX3_writeTo_81 ?_
    obtain ⟨M76, hq75, hf⟩ := bd_o hf
    refine hs_cr (hs_runV C0 hH hS (n := 1) (As := [.int (M73 6 i0 4)]) (rest := []) (c_J4_append_bf812 M73 (M73 6 i0 4) hq75) ⟨⟨zt_1383, zt_1236, zt_1237, zt_10, zt_1238⟩, rfl, by decide, by decide, by decide +kernel⟩ ⟨rfl, rfl, Nat.le_of_ble_eq_true rfl, Nat.le_of_ble_eq_true rfl⟩ (hs_recvS hK hH) rfl rfl hl.1 (Nat.le_of_ble_eq_true rfl) ⟨Nat.le_of_ble_eq_true rfl, Nat.le_of_ble_eq_true rfl⟩ dX3_writeTo_84) hS (fun H locs hH hS => ?_)
    refine lv_pop hx hb dX3_writeTo_87 rfl ?_
    refine W.widen (k := 10) (n := 1300) (by decide) (by decide) ?_
    exact w_X3_writeTo_88 C0 M76 i0 (show i0 < 132 from by omega) hf _ _ _ hH hS (lv_sub hl [0, 1] rfl)
  · have hf := if_f hf hc90
    refine lv_aload_n hx hb dX3_writeTo_45 rfl (lv_at hl 1 rfl) ?_
    refine va_ldcS hx hb hown (hK.r 11 ("RiverParcelService$Parcel", 46, " ~") rfl) dX3_writeTo_46 ?_
    obtain ⟨M79, hq78, hf⟩ := bd_o hf
    refine hs_cr (hs_runV C0 hH hS (n := 1) (As := [.ref (YK Y 11)]) (rest := []) (c_J4_append_15ec4 M68 11 (by decide) hq78) ⟨⟨zt_1386, zt_1120, zt_1121, zt_10, zt_1122⟩, rfl, by decide, by decide, by decide +kernel⟩ ⟨rfl, rfl, Nat.le_of_ble_eq_true rfl, Nat.le_of_ble_eq_true rfl⟩ (hs_recvS hK hH) rfl rfl hl.1 (Nat.le_of_ble_eq_true rfl) ⟨Nat.le_of_ble_eq_true rfl, Nat.le_of_ble_eq_true rfl⟩ dX3_writeTo_48) hS (fun H locs hH hS => ?_)
    refine lv_aload_n hx hb dX3_writeTo_51 rfl (lv_at hl 0 rfl) ?_
    refine hs_get hx hb (T := TX3) hA inAX3 hown hK hH 6 i0 (show i0 < 132 from by omega) 7 rfl rfl 5 (by decide) (hA _ zt_151) rfl rfl dX3_writeTo_52 ?_
    obtain ⟨M82, hq81, hf⟩ := bd_o hf
    refine hs_cr (hs_runV C0 hH hS (n := 1) (As := [.int (M79 6 i0 5)]) (rest := []) (c_J4_append_bf812 M79 (M79 6 i0 5) hq81) ⟨⟨zt_1383, zt_1236, zt_1237, zt_10, zt_1238⟩, rfl, by decide, by decide, by decide +kernel⟩ ⟨rfl, rfl, Nat.le_of_ble_eq_true rfl, Nat.le_of_ble_eq_true rfl⟩ (hs_recvS hK hH) rfl rfl hl.1 (Nat.le_of_ble_eq_true rfl) ⟨Nat.le_of_ble_eq_true rfl, Nat.le_of_ble_eq_true rfl⟩ dX3_writeTo_55) hS (fun H locs hH hS => ?_)
    refine lv_bipush (v := (58 : Int32)) hx hb dX3_writeTo_58 (by decide) ?_
    obtain ⟨M85, hq84, hf⟩ := bd_o hf
    refine hs_cr (hs_runV C0 hH hS (n := 1) (As := [.int (58 : Int32)]) (rest := []) (c_J4_append_cf468 M82 (58 : Int32) hq84) ⟨⟨zt_1361, zt_1362, zt_1363, zt_10, zt_1364⟩, rfl, by decide, by decide, by decide +kernel⟩ ⟨rfl, rfl, Nat.le_of_ble_eq_true rfl, Nat.le_of_ble_eq_true rfl⟩ (hs_recvS hK hH) rfl rfl hl.1 (Nat.le_of_ble_eq_true rfl) ⟨Nat.le_of_ble_eq_true rfl, Nat.le_of_ble_eq_true rfl⟩ dX3_writeTo_60) hS (fun H locs hH hS => ?_)
    refine lv_aload_n hx hb dX3_writeTo_63 rfl (lv_at hl 0 rfl) ?_
    refine hs_get hx hb (T := TX3) hA inAX3 hown hK hH 6 i0 (show i0 < 132 from by omega) 7 rfl rfl 6 (by decide) (hA _ zt_154) rfl rfl dX3_writeTo_64 ?_
    obtain ⟨M88, hq87, hf⟩ := bd_o hf
    refine hs_cr (hs_runV C0 hH hS (n := 1) (As := [.int (M85 6 i0 6)]) (rest := []) (c_J4_append_bf812 M85 (M85 6 i0 6) hq87) ⟨⟨zt_1383, zt_1236, zt_1237, zt_10, zt_1238⟩, rfl, by decide, by decide, by decide +kernel⟩ ⟨rfl, rfl, Nat.le_of_ble_eq_true rfl, Nat.le_of_ble_eq_true rfl⟩ (hs_recvS hK hH) rfl rfl hl.1 (Nat.le_of_ble_eq_true rfl) ⟨Nat.le_of_ble_eq_true rfl, Nat.le_of_ble_eq_true rfl⟩ dX3_writeTo_67) hS (fun H locs hH hS => ?_)
    refine lv_pop hx hb dX3_writeTo_70 rfl ?_
    refine lv_goto (tgt := 88) hx hb dX3_writeTo_71 (by decide) ?_
    exact w_X3_writeTo_88 C0 M88 i0 (show i0 < 132 from by omega) hf _ _ _ hH hS (lv_sub hl [0, 1] rfl)
def f_X4_formOf (M : Mem) (a0 : Int32) : Option Nat := (if a0 = (0 : Int32) then some 0 else (if a0 = (1 : Int32) then some 1 else (if a0 = (2 : Int32) then some 2 else (if a0 = (3 : Int32) then some 3 else (if a0 = (4 : Int32) then some 4 else (if a0 = (5 : Int32) then some 5 else (if a0 = (6 : Int32) then some 6 else (if a0 = (7 : Int32) then some 7 else (if a0 = (8 : Int32) then some 8 else (if a0 = (9 : Int32) then some 9 else some 10))))))))))
set_option maxHeartbeats 4000000 in
set_option maxRecDepth 100000 in
theorem c_X4_formOf {Y : LY} {l : Launch} (M : Mem) (a0 : Int32) {r : Nat} (hf : f_X4_formOf M a0 = some r) : Met l yX4_formOf (WS yX4_formOf cX4_formOf 1 (Option.some (Jvm.ClassFile.FieldType.object "java/lang/String"))) { frames := 0, cells := 0, slots := 0, locals := 0 } (PcM Y M [.int a0]) (QkP Y r (HS Y M)) 0 0 (AZ Y) := by
  refine met_mk (lv := [(0, .int a0)]) [.int a0] (by decide) rfl rfl (Nat.le_of_ble_eq_true rfl) (fun p e s m below meth c C0 hH ls hl => ?_)
  have hS : va_S (AZ Y) s.heap s.heap [] := va_S.rf
  obtain ⟨hx, hb, hr, hml, hown, hA, hlocks, hK, hZ⟩ := id C0
  unfold f_X4_formOf at hf
  refine lv_iload_n hx hb dX4_formOf_0 rfl (lv_at hl 0 rfl) ?_
  by_cases hw11 : a0 = (0 : Int32)
  · have hf := if_t hf hw11
    refine lv_tableIn (tgt := 56) (off := 55) hx hb dX4_formOf_1 (by rw [hw11]; decide) (by rw [hw11]; decide) (by rw [hw11]; rfl) (by decide) ?_
    refine va_ldcS hx hb hown (hK.r 0 ("RiverParcelService$Program", 61, "place") rfl) dX4_formOf_56 ?_
    cases hf
    exact hs_kret C0 hH hS (by decide) (by decide) (0) dX4_formOf_58
  have hf := if_f hf hw11
  by_cases hw12 : a0 = (1 : Int32)
  · have hf := if_t hf hw12
    refine lv_tableIn (tgt := 59) (off := 58) hx hb dX4_formOf_1 (by rw [hw12]; decide) (by rw [hw12]; decide) (by rw [hw12]; rfl) (by decide) ?_
    refine va_ldcS hx hb hown (hK.r 1 ("RiverParcelService$Program", 63, "link 99 9/9") rfl) dX4_formOf_59 ?_
    cases hf
    exact hs_kret C0 hH hS (by decide) (by decide) (1) dX4_formOf_61
  have hf := if_f hf hw12
  by_cases hw13 : a0 = (2 : Int32)
  · have hf := if_t hf hw13
    refine lv_tableIn (tgt := 62) (off := 61) hx hb dX4_formOf_1 (by rw [hw13]; decide) (by rw [hw13]; decide) (by rw [hw13]; rfl) (by decide) ?_
    refine va_ldcS hx hb hown (hK.r 2 ("RiverParcelService$Program", 65, "block #") rfl) dX4_formOf_62 ?_
    cases hf
    exact hs_kret C0 hH hS (by decide) (by decide) (2) dX4_formOf_64
  have hf := if_f hf hw13
  by_cases hw14 : a0 = (3 : Int32)
  · have hf := if_t hf hw14
    refine lv_tableIn (tgt := 65) (off := 64) hx hb dX4_formOf_1 (by rw [hw14]; decide) (by rw [hw14]; decide) (by rw [hw14]; rfl) (by decide) ?_
    refine va_ldcS hx hb hown (hK.r 3 ("RiverParcelService$Program", 67, "open #") rfl) dX4_formOf_65 ?_
    cases hf
    exact hs_kret C0 hH hS (by decide) (by decide) (3) dX4_formOf_67
  have hf := if_f hf hw14
  by_cases hw15 : a0 = (4 : Int32)
  · have hf := if_t hf hw15
    refine lv_tableIn (tgt := 68) (off := 67) hx hb dX4_formOf_1 (by rw [hw15]; decide) (by rw [hw15]; decide) (by rw [hw15]; rfl) (by decide) ?_
    refine va_ldcS hx hb hown (hK.r 4 ("RiverParcelService$Program", 69, "post 99 9*#") rfl) dX4_formOf_68 ?_
    cases hf
    exact hs_kret C0 hH hS (by decide) (by decide) (4) dX4_formOf_70
  have hf := if_f hf hw15
  by_cases hw16 : a0 = (5 : Int32)
  · have hf := if_t hf hw16
    refine lv_tableIn (tgt := 71) (off := 70) hx hb dX4_formOf_1 (by rw [hw16]; decide) (by rw [hw16]; decide) (by rw [hw16]; rfl) (by decide) ?_
    refine va_ldcS hx hb hown (hK.r 5 ("RiverParcelService$Program", 71, "send # #") rfl) dX4_formOf_71 ?_
    cases hf
    exact hs_kret C0 hH hS (by decide) (by decide) (5) dX4_formOf_73
  have hf := if_f hf hw16
  by_cases hw17 : a0 = (6 : Int32)
  · have hf := if_t hf hw17
    refine lv_tableIn (tgt := 74) (off := 73) hx hb dX4_formOf_1 (by rw [hw17]; decide) (by rw [hw17]; decide) (by rw [hw17]; rfl) (by decide) ?_
    refine va_ldcS hx hb hown (hK.r 6 ("RiverParcelService$Program", 73, "stamp # #") rfl) dX4_formOf_74 ?_
    cases hf
    exact hs_kret C0 hH hS (by decide) (by decide) (6) dX4_formOf_76
  have hf := if_f hf hw17
  by_cases hw18 : a0 = (7 : Int32)
  · have hf := if_t hf hw18
    refine lv_tableIn (tgt := 77) (off := 76) hx hb dX4_formOf_1 (by rw [hw18]; decide) (by rw [hw18]; decide) (by rw [hw18]; rfl) (by decide) ?_
    refine va_ldcS hx hb hown (hK.r 7 ("RiverParcelService$Program", 75, "return #") rfl) dX4_formOf_77 ?_
    cases hf
    exact hs_kret C0 hH hS (by decide) (by decide) (7) dX4_formOf_79
  have hf := if_f hf hw18
  by_cases hw19 : a0 = (8 : Int32)
  · have hf := if_t hf hw19
    refine lv_tableIn (tgt := 80) (off := 79) hx hb dX4_formOf_1 (by rw [hw19]; decide) (by rw [hw19]; decide) (by rw [hw19]; rfl) (by decide) ?_
    refine va_ldcS hx hb hown (hK.r 8 ("RiverParcelService$Program", 77, "dispatch") rfl) dX4_formOf_80 ?_
    cases hf
    exact hs_kret C0 hH hS (by decide) (by decide) (8) dX4_formOf_82
  have hf := if_f hf hw19
  by_cases hw20 : a0 = (9 : Int32)
  · have hf := if_t hf hw20
    refine lv_tableIn (tgt := 83) (off := 82) hx hb dX4_formOf_1 (by rw [hw20]; decide) (by rw [hw20]; decide) (by rw [hw20]; rfl) (by decide) ?_
    refine va_ldcS hx hb hown (hK.r 9 ("RiverParcelService$Program", 79, "hours #") rfl) dX4_formOf_83 ?_
    cases hf
    exact hs_kret C0 hH hS (by decide) (by decide) (9) dX4_formOf_85
  have hf := if_f hf hw20
  have ehw11 := lv_neT hw11 (show ((0 : Int32)).toInt = 0 from by decide)
  have ehw12 := lv_neT hw12 (show ((1 : Int32)).toInt = 1 from by decide)
  have ehw13 := lv_neT hw13 (show ((2 : Int32)).toInt = 2 from by decide)
  have ehw14 := lv_neT hw14 (show ((3 : Int32)).toInt = 3 from by decide)
  have ehw15 := lv_neT hw15 (show ((4 : Int32)).toInt = 4 from by decide)
  have ehw16 := lv_neT hw16 (show ((5 : Int32)).toInt = 5 from by decide)
  have ehw17 := lv_neT hw17 (show ((6 : Int32)).toInt = 6 from by decide)
  have ehw18 := lv_neT hw18 (show ((7 : Int32)).toInt = 7 from by decide)
  have ehw19 := lv_neT hw19 (show ((8 : Int32)).toInt = 8 from by decide)
  have ehw20 := lv_neT hw20 (show ((9 : Int32)).toInt = 9 from by decide)
  refine lv_tableOut (tgt := 86) hx hb dX4_formOf_1 (by omega) (by decide) ?_
  refine va_ldcS hx hb hown (hK.r 10 ("RiverParcelService$Program", 81, "hours") rfl) dX4_formOf_86 ?_
  cases hf
  exact hs_kret C0 hH hS (by decide) (by decide) (10) dX4_formOf_88
def f_X4_endOfForm_101 (k8 : Mem → Nat → Int32 → Int32 → Int32 → Option (Int32 × Mem)) (M : Mem) (i1 : Nat) (a3 : Int32) (a4 : Int32) (a5 : Int32) (a7 : Int32) : Option (Int32 × Mem) := (if a7 = a3 then nm (mu M 13 0 5 (if (M 13 0 5) < a3 then a3 else (M 13 0 5))) fun M19 => some ((-1 : Int32), M19) else k8 M i1 a7 a4 (a5 + (1 : Int32)))
set_option maxHeartbeats 4000000 in
set_option maxRecDepth 100000 in
theorem w_X4_endOfForm_101 {Y : LY} {p : Program} {l : Launch} {e : Env} {s : State} {m : MethodId} {args : Array Value} {below : List Frame} {meth : Method} {c : Code} (C0 : BE Y p s m args meth c cX4_endOfForm 8 (Option.some Jvm.ClassFile.FieldType.int) RX4) {r : Int32} {MZ : Mem} (k8 : Mem → Nat → Int32 → Int32 → Int32 → Option (Int32 × Mem)) (hk8 : ∀ (M : Mem) (i1 : Nat) (a3 : Int32) (a4 : Int32) (a5 : Int32), i1 < 18 → k8 M i1 a3 a4 a5 = some (r, MZ) → ∀ (H : Heap) (locs : List Loc) (ls : Array Slot), HS Y M H → va_S (AZ Y) s.heap H locs → lv_has ls 8 [(0, .ref (YA Y 13 0)), (1, .ref (YK Y i1)), (3, .int a3), (4, .int a4), (5, .int a5)] → W p l e { frames := 4, cells := 0, slots := 0, locals := 85 } s m args below meth c H locs 0 0 (MQ below (Qi Y r MZ) args s 0 0 (AZ Y)) (F0 m 8 ls [])) : ∀ (M : Mem) (i1 : Nat) (a3 : Int32) (a4 : Int32) (a5 : Int32) (a7 : Int32), i1 < 18 → f_X4_endOfForm_101 k8 M i1 a3 a4 a5 a7 = some (r, MZ) → ∀ (H : Heap) (locs : List Loc) (ls : Array Slot), HS Y M H → va_S (AZ Y) s.heap H locs → lv_has ls 8 [(0, .ref (YA Y 13 0)), (1, .ref (YK Y i1)), (3, .int a3), (4, .int a4), (5, .int a5), (7, .int a7)] → W p l e { frames := 4, cells := 0, slots := 0, locals := 85 } s m args below meth c H locs 0 0 (MQ below (Qi Y r MZ) args s 0 0 (AZ Y)) (F0 m 101 ls []) := by
  obtain ⟨hx, hb, hr, hml, hown, hA, hlocks, hK, hZ⟩ := id C0
  intro M i1 a3 a4 a5 a7 hi1 hf H locs ls hH hS hl
  unfold f_X4_endOfForm_101 at hf
  refine lv_iload hx hb dX4_endOfForm_101 (lv_at hl 5 rfl) ?_
  refine lv_iload_n hx hb dX4_endOfForm_103 rfl (lv_at hl 2 rfl) ?_
  refine lv_icmp_ne (tgt := 121) hx hb dX4_endOfForm_104 (by decide) (fun hc20 => ?_) (fun hc20 => ?_)
  · have hf := if_f hf hc20
    refine lv_iload hx hb dX4_endOfForm_121 (lv_at hl 5 rfl) ?_
    refine lv_istore_n (lv' := [(3, .int a7), (0, .ref (YA Y 13 0)), (1, .ref (YK Y i1)), (4, .int a4), (5, .int a5), (7, .int a7)]) hx hb dX4_endOfForm_123 rfl hl (by decide) rfl (fun ls hl => ?_)
    refine lv_iinc (v := a5 + (1 : Int32)) (lv' := [(5, .int (a5 + (1 : Int32))), (3, .int a7), (0, .ref (YA Y 13 0)), (1, .ref (YK Y i1)), (4, .int a4), (7, .int a7)]) hx hb dX4_endOfForm_124 hl (k := 4) rfl rfl (by decide) rfl (fun ls hl => ?_)
    refine lv_goto (tgt := 8) hx hb dX4_endOfForm_127 (by decide) ?_
    exact hk8 M i1 a7 a4 (a5 + (1 : Int32)) (show i1 < 18 from by omega) hf _ _ _ hH hS (lv_sub hl [2, 3, 1, 4, 0] rfl)
  · have hf := if_t hf hc20
    refine lv_aload_n hx hb dX4_endOfForm_107 rfl (lv_at hl 0 rfl) ?_
    refine lv_aload_n hx hb dX4_endOfForm_108 rfl (lv_at hl 0 rfl) ?_
    refine hs_get hx hb (T := TX4) hA inAX4 hown hK hH 13 0 (by decide) 8 rfl rfl 5 (by decide) (hA _ zt_243) rfl rfl dX4_endOfForm_109 ?_
    refine lv_iload_n hx hb dX4_endOfForm_112 rfl (lv_at hl 2 rfl) ?_
    refine va_mmax hx hb (by rw [hml]; exact hl.1.symm) hown (hA _ zt_1496) (hA _ zt_1023) (hA _ zt_21) (hA _ zt_1024) (Nat.le_of_ble_eq_true rfl) (Nat.le_of_ble_eq_true rfl) (Nat.le_of_ble_eq_true rfl) (Nat.le_of_ble_eq_true rfl) dX4_endOfForm_113 ?_
    refine hs_put hx hb (T := TX4) hA inAX4 tyX4 tyX4_ok nmX4 hown hK hH hS 13 0 (by decide) 8 rfl rfl 5 (by decide) (hA _ zt_243) rfl rfl (by decide +kernel) (Nat.le_of_ble_eq_true rfl) rfl dX4_endOfForm_116 (fun H locs hH hS => ?_)
    obtain ⟨M19, eM19, hf⟩ := nm_o hf
    rw [← eM19] at hH
    refine lv_iconst (v := (-1 : Int32)) hx hb dX4_endOfForm_119 (by decide) ?_
    cases hf
    exact hs_iret C0 hH hS (by decide) (by decide) dX4_endOfForm_120
def f_X4_endOfForm_53 (k8 : Mem → Nat → Int32 → Int32 → Int32 → Option (Int32 × Mem)) (M : Mem) (i1 : Nat) (a3 : Int32) (a4 : Int32) (a5 : Int32) (b0 : Int32) (b1 : Int32) : Option (Int32 × Mem) := bd (f_X4_endOfDigits M b1 b0) fun r22 => bd (f_X4_storeArgument M a4 a3 r22) fun M24 => f_X4_endOfForm_101 k8 M24 i1 a3 (a4 + (1 : Int32)) a5 r22
set_option maxHeartbeats 4000000 in
set_option maxRecDepth 100000 in
theorem w_X4_endOfForm_53 {Y : LY} {p : Program} {l : Launch} {e : Env} {s : State} {m : MethodId} {args : Array Value} {below : List Frame} {meth : Method} {c : Code} (C0 : BE Y p s m args meth c cX4_endOfForm 8 (Option.some Jvm.ClassFile.FieldType.int) RX4) {r : Int32} {MZ : Mem} (k8 : Mem → Nat → Int32 → Int32 → Int32 → Option (Int32 × Mem)) (hk8 : ∀ (M : Mem) (i1 : Nat) (a3 : Int32) (a4 : Int32) (a5 : Int32), i1 < 18 → k8 M i1 a3 a4 a5 = some (r, MZ) → ∀ (H : Heap) (locs : List Loc) (ls : Array Slot), HS Y M H → va_S (AZ Y) s.heap H locs → lv_has ls 8 [(0, .ref (YA Y 13 0)), (1, .ref (YK Y i1)), (3, .int a3), (4, .int a4), (5, .int a5)] → W p l e { frames := 4, cells := 0, slots := 0, locals := 85 } s m args below meth c H locs 0 0 (MQ below (Qi Y r MZ) args s 0 0 (AZ Y)) (F0 m 8 ls [])) : ∀ (M : Mem) (i1 : Nat) (a3 : Int32) (a4 : Int32) (a5 : Int32) (b0 : Int32) (b1 : Int32), i1 < 18 → f_X4_endOfForm_53 k8 M i1 a3 a4 a5 b0 b1 = some (r, MZ) → ∀ (H : Heap) (locs : List Loc) (ls : Array Slot), HS Y M H → va_S (AZ Y) s.heap H locs → lv_has ls 8 [(0, .ref (YA Y 13 0)), (1, .ref (YK Y i1)), (3, .int a3), (4, .int a4), (5, .int a5)] → W p l e { frames := 4, cells := 0, slots := 0, locals := 85 } s m args below meth c H locs 0 0 (MQ below (Qi Y r MZ) args s 0 0 (AZ Y)) (F0 m 53 ls [.int b0, .int b1, .ref (YA Y 13 0)]) := by
  obtain ⟨hx, hb, hr, hml, hown, hA, hlocks, hK, hZ⟩ := id C0
  intro M i1 a3 a4 a5 b0 b1 hi1 hf H locs ls hH hS hl
  unfold f_X4_endOfForm_53 at hf
  obtain ⟨r22, hq21, hf⟩ := bd_o hf
  refine hs_ci (hs_runV C0 hH hS (n := 2) (As := [.int b1, .int b0]) (rest := []) (c_X4_endOfDigits M b1 b0 hq21) ⟨⟨zt_1488, zt_1490, zs_30, zt_8, zt_1491⟩, rfl, by decide, by decide, by decide +kernel⟩ ⟨rfl, rfl, Nat.le_of_ble_eq_true rfl, Nat.le_of_ble_eq_true rfl⟩ (hs_recv hK hH 13 0 (by decide) 8 rfl rfl) rfl rfl hl.1 (Nat.le_of_ble_eq_true rfl) ⟨Nat.le_of_ble_eq_true rfl, Nat.le_of_ble_eq_true rfl⟩ dX4_endOfForm_53) hS (fun H locs hH hS => ?_)
  refine lv_istore (lv' := [(7, .int r22), (0, .ref (YA Y 13 0)), (1, .ref (YK Y i1)), (3, .int a3), (4, .int a4), (5, .int a5)]) hx hb dX4_endOfForm_56 hl (by decide) rfl (fun ls hl => ?_)
  refine lv_aload_n hx hb dX4_endOfForm_58 rfl (lv_at hl 1 rfl) ?_
  refine lv_iload hx hb dX4_endOfForm_59 (lv_at hl 4 rfl) ?_
  refine lv_iload_n hx hb dX4_endOfForm_61 rfl (lv_at hl 3 rfl) ?_
  refine lv_iload hx hb dX4_endOfForm_62 (lv_at hl 0 rfl) ?_
  obtain ⟨M24, hq23, hf⟩ := bd_o hf
  refine hs_cv (hs_runV C0 hH hS (n := 3) (As := [.int a4, .int a3, .int r22]) (rest := []) (c_X4_storeArgument M a4 a3 r22 hq23) ⟨⟨zt_1492, zt_1494, zs_31, zt_8, zt_1495⟩, rfl, by decide, by decide, by decide +kernel⟩ ⟨rfl, rfl, Nat.le_of_ble_eq_true rfl, Nat.le_of_ble_eq_true rfl⟩ (hs_recv hK hH 13 0 (by decide) 8 rfl rfl) rfl rfl hl.1 (Nat.le_of_ble_eq_true rfl) ⟨Nat.le_of_ble_eq_true rfl, Nat.le_of_ble_eq_true rfl⟩ dX4_endOfForm_64) hS (fun H locs hH hS => ?_)
  refine lv_iinc (v := a4 + (1 : Int32)) (lv' := [(4, .int (a4 + (1 : Int32))), (7, .int r22), (0, .ref (YA Y 13 0)), (1, .ref (YK Y i1)), (3, .int a3), (5, .int a5)]) hx hb dX4_endOfForm_67 hl (k := 4) rfl rfl (by decide) rfl (fun ls hl => ?_)
  refine lv_goto (tgt := 101) hx hb dX4_endOfForm_70 (by decide) ?_
  exact w_X4_endOfForm_101 C0 k8 hk8 M24 i1 a3 (a4 + (1 : Int32)) a5 r22 (show i1 < 18 from by omega) hf _ _ _ hH hS (lv_sub hl [2, 3, 4, 0, 5, 1] rfl)
def f_X4_endOfForm_39 (k8 : Mem → Nat → Int32 → Int32 → Int32 → Option (Int32 × Mem)) (M : Mem) (i1 : Nat) (a3 : Int32) (a4 : Int32) (a5 : Int32) (a6 : Int32) : Option (Int32 × Mem) := (if a6 = (57 : Int32) then f_X4_endOfForm_53 k8 M i1 a3 a4 a5 (1 : Int32) a3 else f_X4_endOfForm_53 k8 M i1 a3 a4 a5 (3 : Int32) a3)
set_option maxHeartbeats 4000000 in
set_option maxRecDepth 100000 in
theorem w_X4_endOfForm_39 {Y : LY} {p : Program} {l : Launch} {e : Env} {s : State} {m : MethodId} {args : Array Value} {below : List Frame} {meth : Method} {c : Code} (C0 : BE Y p s m args meth c cX4_endOfForm 8 (Option.some Jvm.ClassFile.FieldType.int) RX4) {r : Int32} {MZ : Mem} (k8 : Mem → Nat → Int32 → Int32 → Int32 → Option (Int32 × Mem)) (hk8 : ∀ (M : Mem) (i1 : Nat) (a3 : Int32) (a4 : Int32) (a5 : Int32), i1 < 18 → k8 M i1 a3 a4 a5 = some (r, MZ) → ∀ (H : Heap) (locs : List Loc) (ls : Array Slot), HS Y M H → va_S (AZ Y) s.heap H locs → lv_has ls 8 [(0, .ref (YA Y 13 0)), (1, .ref (YK Y i1)), (3, .int a3), (4, .int a4), (5, .int a5)] → W p l e { frames := 4, cells := 0, slots := 0, locals := 85 } s m args below meth c H locs 0 0 (MQ below (Qi Y r MZ) args s 0 0 (AZ Y)) (F0 m 8 ls [])) : ∀ (M : Mem) (i1 : Nat) (a3 : Int32) (a4 : Int32) (a5 : Int32) (a6 : Int32), i1 < 18 → f_X4_endOfForm_39 k8 M i1 a3 a4 a5 a6 = some (r, MZ) → ∀ (H : Heap) (locs : List Loc) (ls : Array Slot), HS Y M H → va_S (AZ Y) s.heap H locs → lv_has ls 8 [(0, .ref (YA Y 13 0)), (1, .ref (YK Y i1)), (3, .int a3), (4, .int a4), (5, .int a5), (6, .int a6)] → W p l e { frames := 4, cells := 0, slots := 0, locals := 85 } s m args below meth c H locs 0 0 (MQ below (Qi Y r MZ) args s 0 0 (AZ Y)) (F0 m 39 ls []) := by
  obtain ⟨hx, hb, hr, hml, hown, hA, hlocks, hK, hZ⟩ := id C0
  intro M i1 a3 a4 a5 a6 hi1 hf H locs ls hH hS hl
  unfold f_X4_endOfForm_39 at hf
  refine lv_aload_n hx hb dX4_endOfForm_39 rfl (lv_at hl 0 rfl) ?_
  refine lv_iload_n hx hb dX4_endOfForm_40 rfl (lv_at hl 2 rfl) ?_
  refine lv_iload hx hb dX4_endOfForm_41 (lv_at hl 5 rfl) ?_
  refine lv_bipush (v := (57 : Int32)) hx hb dX4_endOfForm_43 (by decide) ?_
  refine lv_icmp_ne (tgt := 52) hx hb dX4_endOfForm_45 (by decide) (fun hc26 => ?_) (fun hc26 => ?_)
  · have hf := if_f hf hc26
    refine lv_iconst (v := (3 : Int32)) hx hb dX4_endOfForm_52 (by decide) ?_
    exact w_X4_endOfForm_53 C0 k8 hk8 M i1 a3 a4 a5 (3 : Int32) a3 (show i1 < 18 from by omega) hf _ _ _ hH hS (lv_sub hl [0, 1, 2, 3, 4] rfl)
  · have hf := if_t hf hc26
    refine lv_iconst (v := (1 : Int32)) hx hb dX4_endOfForm_48 (by decide) ?_
    refine lv_goto (tgt := 53) hx hb dX4_endOfForm_49 (by decide) ?_
    exact w_X4_endOfForm_53 C0 k8 hk8 M i1 a3 a4 a5 (1 : Int32) a3 (show i1 < 18 from by omega) hf _ _ _ hH hS (lv_sub hl [0, 1, 2, 3, 4] rfl)
def f_X4_endOfForm_99 (k8 : Mem → Nat → Int32 → Int32 → Int32 → Option (Int32 × Mem)) (M : Mem) (i1 : Nat) (a3 : Int32) (a4 : Int32) (a5 : Int32) (b0 : Int32) : Option (Int32 × Mem) := f_X4_endOfForm_101 k8 M i1 a3 a4 a5 b0
set_option maxHeartbeats 4000000 in
set_option maxRecDepth 100000 in
theorem w_X4_endOfForm_99 {Y : LY} {p : Program} {l : Launch} {e : Env} {s : State} {m : MethodId} {args : Array Value} {below : List Frame} {meth : Method} {c : Code} (C0 : BE Y p s m args meth c cX4_endOfForm 8 (Option.some Jvm.ClassFile.FieldType.int) RX4) {r : Int32} {MZ : Mem} (k8 : Mem → Nat → Int32 → Int32 → Int32 → Option (Int32 × Mem)) (hk8 : ∀ (M : Mem) (i1 : Nat) (a3 : Int32) (a4 : Int32) (a5 : Int32), i1 < 18 → k8 M i1 a3 a4 a5 = some (r, MZ) → ∀ (H : Heap) (locs : List Loc) (ls : Array Slot), HS Y M H → va_S (AZ Y) s.heap H locs → lv_has ls 8 [(0, .ref (YA Y 13 0)), (1, .ref (YK Y i1)), (3, .int a3), (4, .int a4), (5, .int a5)] → W p l e { frames := 4, cells := 0, slots := 0, locals := 85 } s m args below meth c H locs 0 0 (MQ below (Qi Y r MZ) args s 0 0 (AZ Y)) (F0 m 8 ls [])) : ∀ (M : Mem) (i1 : Nat) (a3 : Int32) (a4 : Int32) (a5 : Int32) (b0 : Int32), i1 < 18 → f_X4_endOfForm_99 k8 M i1 a3 a4 a5 b0 = some (r, MZ) → ∀ (H : Heap) (locs : List Loc) (ls : Array Slot), HS Y M H → va_S (AZ Y) s.heap H locs → lv_has ls 8 [(0, .ref (YA Y 13 0)), (1, .ref (YK Y i1)), (3, .int a3), (4, .int a4), (5, .int a5)] → W p l e { frames := 4, cells := 0, slots := 0, locals := 85 } s m args below meth c H locs 0 0 (MQ below (Qi Y r MZ) args s 0 0 (AZ Y)) (F0 m 99 ls [.int b0]) := by
  obtain ⟨hx, hb, hr, hml, hown, hA, hlocks, hK, hZ⟩ := id C0
  intro M i1 a3 a4 a5 b0 hi1 hf H locs ls hH hS hl
  unfold f_X4_endOfForm_99 at hf
  refine lv_istore (lv' := [(7, .int b0), (0, .ref (YA Y 13 0)), (1, .ref (YK Y i1)), (3, .int a3), (4, .int a4), (5, .int a5)]) hx hb dX4_endOfForm_99 hl (by decide) rfl (fun ls hl => ?_)
  exact w_X4_endOfForm_101 C0 k8 hk8 M i1 a3 a4 a5 b0 (show i1 < 18 from by omega) hf _ _ _ hH hS (lv_sub hl [1, 2, 3, 4, 5, 0] rfl)
def f_X4_endOfForm_98 (k8 : Mem → Nat → Int32 → Int32 → Int32 → Option (Int32 × Mem)) (M : Mem) (i1 : Nat) (a3 : Int32) (a4 : Int32) (a5 : Int32) : Option (Int32 × Mem) := f_X4_endOfForm_99 k8 M i1 a3 a4 a5 a3
set_option maxHeartbeats 4000000 in
set_option maxRecDepth 100000 in
theorem w_X4_endOfForm_98 {Y : LY} {p : Program} {l : Launch} {e : Env} {s : State} {m : MethodId} {args : Array Value} {below : List Frame} {meth : Method} {c : Code} (C0 : BE Y p s m args meth c cX4_endOfForm 8 (Option.some Jvm.ClassFile.FieldType.int) RX4) {r : Int32} {MZ : Mem} (k8 : Mem → Nat → Int32 → Int32 → Int32 → Option (Int32 × Mem)) (hk8 : ∀ (M : Mem) (i1 : Nat) (a3 : Int32) (a4 : Int32) (a5 : Int32), i1 < 18 → k8 M i1 a3 a4 a5 = some (r, MZ) → ∀ (H : Heap) (locs : List Loc) (ls : Array Slot), HS Y M H → va_S (AZ Y) s.heap H locs → lv_has ls 8 [(0, .ref (YA Y 13 0)), (1, .ref (YK Y i1)), (3, .int a3), (4, .int a4), (5, .int a5)] → W p l e { frames := 4, cells := 0, slots := 0, locals := 85 } s m args below meth c H locs 0 0 (MQ below (Qi Y r MZ) args s 0 0 (AZ Y)) (F0 m 8 ls [])) : ∀ (M : Mem) (i1 : Nat) (a3 : Int32) (a4 : Int32) (a5 : Int32), i1 < 18 → f_X4_endOfForm_98 k8 M i1 a3 a4 a5 = some (r, MZ) → ∀ (H : Heap) (locs : List Loc) (ls : Array Slot), HS Y M H → va_S (AZ Y) s.heap H locs → lv_has ls 8 [(0, .ref (YA Y 13 0)), (1, .ref (YK Y i1)), (3, .int a3), (4, .int a4), (5, .int a5)] → W p l e { frames := 4, cells := 0, slots := 0, locals := 85 } s m args below meth c H locs 0 0 (MQ below (Qi Y r MZ) args s 0 0 (AZ Y)) (F0 m 98 ls []) := by
  obtain ⟨hx, hb, hr, hml, hown, hA, hlocks, hK, hZ⟩ := id C0
  intro M i1 a3 a4 a5 hi1 hf H locs ls hH hS hl
  unfold f_X4_endOfForm_98 at hf
  refine lv_iload_n hx hb dX4_endOfForm_98 rfl (lv_at hl 2 rfl) ?_
  exact w_X4_endOfForm_99 C0 k8 hk8 M i1 a3 a4 a5 a3 (show i1 < 18 from by omega) hf _ _ _ hH hS (lv_sub hl [0, 1, 2, 3, 4] rfl)
def f_X4_endOfForm_8 : Nat → Mem → Nat → Int32 → Int32 → Int32 → Option (Int32 × Mem)
  | 0, _, _, _, _, _ => none
  | n + 1, M, i1, a3, a4, a5 => bd (f_J0_length_8abf5 M i1) fun r28 => (if r28 ≤ a5 then some (a3, M) else bd (f_J0_charAt_5068e M i1 a5) fun r30 => (if r30 = (57 : Int32) then f_X4_endOfForm_39 (f_X4_endOfForm_8 n) M i1 a3 a4 a5 r30 else (if r30 = (35 : Int32) then f_X4_endOfForm_39 (f_X4_endOfForm_8 n) M i1 a3 a4 a5 r30 else (if (M 13 0 1) ≤ a3 then f_X4_endOfForm_98 (f_X4_endOfForm_8 n) M i1 a3 a4 a5 else if vin a3 60 then ((if (M 14 0 (ix a3)) = r30 then f_X4_endOfForm_99 (f_X4_endOfForm_8 n) M i1 a3 a4 a5 (a3 + (1 : Int32)) else f_X4_endOfForm_98 (f_X4_endOfForm_8 n) M i1 a3 a4 a5)) else none))))
set_option maxHeartbeats 4000000 in
set_option maxRecDepth 100000 in
theorem w_X4_endOfForm_8 {Y : LY} {p : Program} {l : Launch} {e : Env} {s : State} {m : MethodId} {args : Array Value} {below : List Frame} {meth : Method} {c : Code} (C0 : BE Y p s m args meth c cX4_endOfForm 8 (Option.some Jvm.ClassFile.FieldType.int) RX4) {r : Int32} {MZ : Mem} : ∀ (n : Nat) (M : Mem) (i1 : Nat) (a3 : Int32) (a4 : Int32) (a5 : Int32), i1 < 18 → f_X4_endOfForm_8 n M i1 a3 a4 a5 = some (r, MZ) → ∀ (H : Heap) (locs : List Loc) (ls : Array Slot), HS Y M H → va_S (AZ Y) s.heap H locs → lv_has ls 8 [(0, .ref (YA Y 13 0)), (1, .ref (YK Y i1)), (3, .int a3), (4, .int a4), (5, .int a5)] → W p l e { frames := 4, cells := 0, slots := 0, locals := 85 } s m args below meth c H locs 0 0 (MQ below (Qi Y r MZ) args s 0 0 (AZ Y)) (F0 m 8 ls []) := by
  obtain ⟨hx, hb, hr, hml, hown, hA, hlocks, hK, hZ⟩ := id C0
  intro n
  induction n with
  | zero =>
    intro M i1 a3 a4 a5 hi1 hf
    cases hf
  | succ n ih =>
    intro M i1 a3 a4 a5 hi1 hf H locs ls hH hS hl
    rw [f_X4_endOfForm_8] at hf
    refine lv_iload hx hb dX4_endOfForm_8 (lv_at hl 4 rfl) ?_
    refine lv_aload_n hx hb dX4_endOfForm_10 rfl (lv_at hl 1 rfl) ?_
    obtain ⟨r28, hq27, hf⟩ := bd_o hf
    refine hs_ci (hs_runV C0 hH hS (n := 0) (As := []) (rest := [.int a5]) (c_J0_length_8abf5 M i1 (show i1 < 18 from by omega) hq27) ⟨⟨zt_1472, zt_1193, zt_1194, zt_11, zt_1195⟩, rfl, by decide, by decide, by decide +kernel⟩ ⟨rfl, rfl, Nat.le_of_ble_eq_true rfl, Nat.le_of_ble_eq_true rfl⟩ (vk_recv hK.s (show i1 < 18 from by omega) hS) rfl rfl hl.1 (Nat.le_of_ble_eq_true rfl) ⟨Nat.le_of_ble_eq_true rfl, Nat.le_of_ble_eq_true rfl⟩ dX4_endOfForm_11) hS (fun H locs hH hS => ?_)
    refine lv_icmp_ge (tgt := 130) hx hb dX4_endOfForm_14 (by decide) (fun hc36 => ?_) (fun hc36 => ?_)
    · have hf := if_t hf hc36
      refine lv_iload_n hx hb dX4_endOfForm_130 rfl (lv_at hl 2 rfl) ?_
      cases hf
      exact hs_iret C0 hH hS (by decide) (by decide) dX4_endOfForm_131
    · have hf := if_f hf hc36
      refine lv_aload_n hx hb dX4_endOfForm_17 rfl (lv_at hl 1 rfl) ?_
      refine lv_iload hx hb dX4_endOfForm_18 (lv_at hl 4 rfl) ?_
      obtain ⟨r30, hq29, hf⟩ := bd_o hf
      refine hs_ci (hs_runV C0 hH hS (n := 1) (As := [.int a5]) (rest := []) (c_J0_charAt_5068e M i1 a5 (show i1 < 18 from by omega) hq29) ⟨⟨zt_1473, zt_1474, zt_1475, zt_11, zt_1476⟩, rfl, by decide, by decide, by decide +kernel⟩ ⟨rfl, rfl, Nat.le_of_ble_eq_true rfl, Nat.le_of_ble_eq_true rfl⟩ (vk_recv hK.s (show i1 < 18 from by omega) hS) rfl rfl hl.1 (Nat.le_of_ble_eq_true rfl) ⟨Nat.le_of_ble_eq_true rfl, Nat.le_of_ble_eq_true rfl⟩ dX4_endOfForm_20) hS (fun H locs hH hS => ?_)
      refine lv_istore (lv' := [(6, .int r30), (0, .ref (YA Y 13 0)), (1, .ref (YK Y i1)), (3, .int a3), (4, .int a4), (5, .int a5)]) hx hb dX4_endOfForm_23 hl (by decide) rfl (fun ls hl => ?_)
      refine lv_iload hx hb dX4_endOfForm_25 (lv_at hl 0 rfl) ?_
      refine lv_bipush (v := (57 : Int32)) hx hb dX4_endOfForm_27 (by decide) ?_
      refine lv_icmp_eq (tgt := 39) hx hb dX4_endOfForm_29 (by decide) (fun hc35 => ?_) (fun hc35 => ?_)
      · have hf := if_t hf hc35
        exact w_X4_endOfForm_39 C0 (f_X4_endOfForm_8 n) ih M i1 a3 a4 a5 r30 (show i1 < 18 from by omega) hf _ _ _ hH hS (lv_sub hl [1, 2, 3, 4, 5, 0] rfl)
      · have hf := if_f hf hc35
        refine lv_iload hx hb dX4_endOfForm_32 (lv_at hl 0 rfl) ?_
        refine lv_bipush (v := (35 : Int32)) hx hb dX4_endOfForm_34 (by decide) ?_
        refine lv_icmp_ne (tgt := 73) hx hb dX4_endOfForm_36 (by decide) (fun hc34 => ?_) (fun hc34 => ?_)
        · have hf := if_f hf hc34
          refine lv_iload_n hx hb dX4_endOfForm_73 rfl (lv_at hl 3 rfl) ?_
          refine lv_aload_n hx hb dX4_endOfForm_74 rfl (lv_at hl 1 rfl) ?_
          refine hs_get hx hb (T := TX4) hA inAX4 hown hK hH 13 0 (by decide) 8 rfl rfl 1 (by decide) (hA _ zt_237) rfl rfl dX4_endOfForm_75 ?_
          refine lv_icmp_ge (tgt := 98) hx hb dX4_endOfForm_78 (by decide) (fun hc33 => ?_) (fun hc33 => ?_)
          · have hf := if_t hf hc33
            exact w_X4_endOfForm_98 C0 (f_X4_endOfForm_8 n) ih M i1 a3 a4 a5 (show i1 < 18 from by omega) hf _ _ _ hH hS (lv_sub hl [1, 2, 3, 4, 5] rfl)
          · have hf := if_f hf hc33
            refine lv_aload_n hx hb dX4_endOfForm_81 rfl (lv_at hl 1 rfl) ?_
            refine hs_get hx hb (T := TX4) hA inAX4 hown hK hH 13 0 (by decide) 8 rfl rfl 0 (by decide) (hA _ zt_236) rfl rfl dX4_endOfForm_82 ?_
            refine lv_iload_n hx hb dX4_endOfForm_85 rfl (lv_at hl 3 rfl) ?_
            obtain ⟨hg31, hf⟩ := gd_o hf
            have bhg31 := vin_lt hg31
            refine hs_cald hx hb hK hH 14 0 (by decide) rfl hg31 rfl dX4_endOfForm_86 ?_
            refine lv_iload hx hb dX4_endOfForm_87 (lv_at hl 0 rfl) ?_
            refine lv_icmp_ne (tgt := 98) hx hb dX4_endOfForm_89 (by decide) (fun hc32 => ?_) (fun hc32 => ?_)
            · have hf := if_f hf hc32
              exact w_X4_endOfForm_98 C0 (f_X4_endOfForm_8 n) ih M i1 a3 a4 a5 (show i1 < 18 from by omega) hf _ _ _ hH hS (lv_sub hl [1, 2, 3, 4, 5] rfl)
            · have hf := if_t hf hc32
              refine lv_iload_n hx hb dX4_endOfForm_92 rfl (lv_at hl 3 rfl) ?_
              refine lv_iconst (v := (1 : Int32)) hx hb dX4_endOfForm_93 (by decide) ?_
              refine lv_iadd hx hb dX4_endOfForm_94 ?_
              refine lv_goto (tgt := 99) hx hb dX4_endOfForm_95 (by decide) ?_
              exact w_X4_endOfForm_99 C0 (f_X4_endOfForm_8 n) ih M i1 a3 a4 a5 (a3 + (1 : Int32)) (show i1 < 18 from by omega) hf _ _ _ hH hS (lv_sub hl [1, 2, 3, 4, 5] rfl)
        · have hf := if_t hf hc34
          exact w_X4_endOfForm_39 C0 (f_X4_endOfForm_8 n) ih M i1 a3 a4 a5 r30 (show i1 < 18 from by omega) hf _ _ _ hH hS (lv_sub hl [1, 2, 3, 4, 5, 0] rfl)
def f_X4_endOfForm (M : Mem) (i1 : Nat) (a2 : Int32) : Option (Int32 × Mem) := f_X4_endOfForm_8 FU M i1 a2 (0 : Int32) (0 : Int32)
set_option maxHeartbeats 4000000 in
set_option maxRecDepth 100000 in
theorem c_X4_endOfForm {Y : LY} {l : Launch} (M : Mem) (i1 : Nat) (a2 : Int32) (hi1 : i1 < 18) {r : Int32} {MZ : Mem} (hf : f_X4_endOfForm M i1 a2 = some (r, MZ)) : Met l yX4_endOfForm (WS yX4_endOfForm cX4_endOfForm 8 (Option.some Jvm.ClassFile.FieldType.int)) { frames := 4, cells := 0, slots := 0, locals := 85 } (PcM Y M [.ref (YA Y 13 0), .ref (YK Y i1), .int a2]) (Qi Y r MZ) 0 0 (AZ Y) := by
  refine met_mk (lv := [(0, .ref (YA Y 13 0)), (1, .ref (YK Y i1)), (2, .int a2)]) [.ref (YA Y 13 0), .ref (YK Y i1), .int a2] (by decide) rfl rfl (Nat.le_of_ble_eq_true rfl) (fun p e s m below meth c C0 hH ls hl => ?_)
  have hS : va_S (AZ Y) s.heap s.heap [] := va_S.rf
  obtain ⟨hx, hb, hr, hml, hown, hA, hlocks, hK, hZ⟩ := id C0
  unfold f_X4_endOfForm at hf
  refine lv_iload_n hx hb dX4_endOfForm_0 rfl (lv_at hl 2 rfl) ?_
  refine lv_istore_n (lv' := [(3, .int a2), (0, .ref (YA Y 13 0)), (1, .ref (YK Y i1)), (2, .int a2)]) hx hb dX4_endOfForm_1 rfl hl (by decide) rfl (fun ls hl => ?_)
  refine lv_iconst (v := (0 : Int32)) hx hb dX4_endOfForm_2 (by decide) ?_
  refine lv_istore (lv' := [(4, .int (0 : Int32)), (3, .int a2), (0, .ref (YA Y 13 0)), (1, .ref (YK Y i1)), (2, .int a2)]) hx hb dX4_endOfForm_3 hl (by decide) rfl (fun ls hl => ?_)
  refine lv_iconst (v := (0 : Int32)) hx hb dX4_endOfForm_5 (by decide) ?_
  refine lv_istore (lv' := [(5, .int (0 : Int32)), (4, .int (0 : Int32)), (3, .int a2), (0, .ref (YA Y 13 0)), (1, .ref (YK Y i1)), (2, .int a2)]) hx hb dX4_endOfForm_6 hl (by decide) rfl (fun ls hl => ?_)
  exact w_X4_endOfForm_8 C0 FU M i1 a2 (0 : Int32) (0 : Int32) (show i1 < 18 from by omega) hf _ _ _ hH hS (lv_sub hl [3, 4, 2, 1, 0] rfl)
def f_X4_endOfCommand_85 (k2 : Mem → Int32 → Int32 → Option (Int32 × Mem)) (M : Mem) (a1 : Int32) (a2 : Int32) : Option (Int32 × Mem) := k2 M a1 (a2 + (1 : Int32))
set_option maxHeartbeats 4000000 in
set_option maxRecDepth 100000 in
theorem w_X4_endOfCommand_85 {Y : LY} {p : Program} {l : Launch} {e : Env} {s : State} {m : MethodId} {args : Array Value} {below : List Frame} {meth : Method} {c : Code} (C0 : BE Y p s m args meth c cX4_endOfCommand 4 (Option.some Jvm.ClassFile.FieldType.int) RX4) {r : Int32} {MZ : Mem} (k2 : Mem → Int32 → Int32 → Option (Int32 × Mem)) (hk2 : ∀ (M : Mem) (a1 : Int32) (a2 : Int32), k2 M a1 a2 = some (r, MZ) → ∀ (H : Heap) (locs : List Loc) (ls : Array Slot), HS Y M H → va_S (AZ Y) s.heap H locs → lv_has ls 4 [(0, .ref (YA Y 13 0)), (1, .int a1), (2, .int a2)] → W p l e { frames := 5, cells := 0, slots := 0, locals := 112 } s m args below meth c H locs 0 0 (MQ below (Qi Y r MZ) args s 0 0 (AZ Y)) (F0 m 2 ls [])) : ∀ (M : Mem) (a1 : Int32) (a2 : Int32), f_X4_endOfCommand_85 k2 M a1 a2 = some (r, MZ) → ∀ (H : Heap) (locs : List Loc) (ls : Array Slot), HS Y M H → va_S (AZ Y) s.heap H locs → lv_has ls 4 [(0, .ref (YA Y 13 0)), (1, .int a1), (2, .int a2)] → W p l e { frames := 5, cells := 0, slots := 0, locals := 112 } s m args below meth c H locs 0 0 (MQ below (Qi Y r MZ) args s 0 0 (AZ Y)) (F0 m 85 ls []) := by
  obtain ⟨hx, hb, hr, hml, hown, hA, hlocks, hK, hZ⟩ := id C0
  intro M a1 a2 hf H locs ls hH hS hl
  unfold f_X4_endOfCommand_85 at hf
  refine lv_iinc (v := a2 + (1 : Int32)) (lv' := [(2, .int (a2 + (1 : Int32))), (0, .ref (YA Y 13 0)), (1, .int a1)]) hx hb dX4_endOfCommand_85 hl (k := 2) rfl rfl (by decide) rfl (fun ls hl => ?_)
  refine lv_goto (tgt := 2) hx hb dX4_endOfCommand_88 (by decide) ?_
  exact hk2 M a1 (a2 + (1 : Int32)) hf _ _ _ hH hS (lv_sub hl [1, 2, 0] rfl)
def f_X4_endOfCommand_63 (M : Mem) (a2 : Int32) (a3 : Int32) : Option (Int32 × Mem) := if vin (M 13 0 4) 10 then (nm (mu M 15 0 (ix (M 13 0 4)) a2) fun M17 => nm (mu M17 13 0 4 ((M17 13 0 4) + (1 : Int32))) fun M18 => some (a3, M18)) else none
set_option maxHeartbeats 4000000 in
set_option maxRecDepth 100000 in
theorem w_X4_endOfCommand_63 {Y : LY} {p : Program} {l : Launch} {e : Env} {s : State} {m : MethodId} {args : Array Value} {below : List Frame} {meth : Method} {c : Code} (C0 : BE Y p s m args meth c cX4_endOfCommand 4 (Option.some Jvm.ClassFile.FieldType.int) RX4) {r : Int32} {MZ : Mem} : ∀ (M : Mem) (a2 : Int32) (a3 : Int32), f_X4_endOfCommand_63 M a2 a3 = some (r, MZ) → ∀ (H : Heap) (locs : List Loc) (ls : Array Slot), HS Y M H → va_S (AZ Y) s.heap H locs → lv_has ls 4 [(0, .ref (YA Y 13 0)), (2, .int a2), (3, .int a3)] → W p l e { frames := 5, cells := 0, slots := 0, locals := 112 } s m args below meth c H locs 0 0 (MQ below (Qi Y r MZ) args s 0 0 (AZ Y)) (F0 m 63 ls []) := by
  obtain ⟨hx, hb, hr, hml, hown, hA, hlocks, hK, hZ⟩ := id C0
  intro M a2 a3 hf H locs ls hH hS hl
  unfold f_X4_endOfCommand_63 at hf
  refine lv_aload_n hx hb dX4_endOfCommand_63 rfl (lv_at hl 0 rfl) ?_
  refine hs_get hx hb (T := TX4) hA inAX4 hown hK hH 13 0 (by decide) 8 rfl rfl 2 (by decide) (hA _ zt_239) rfl rfl dX4_endOfCommand_64 ?_
  refine lv_aload_n hx hb dX4_endOfCommand_67 rfl (lv_at hl 0 rfl) ?_
  refine hs_get hx hb (T := TX4) hA inAX4 hown hK hH 13 0 (by decide) 8 rfl rfl 4 (by decide) (hA _ zt_241) rfl rfl dX4_endOfCommand_68 ?_
  refine lv_iload_n hx hb dX4_endOfCommand_71 rfl (lv_at hl 1 rfl) ?_
  obtain ⟨hg16, hf⟩ := gd_o hf
  have bhg16 := vin_lt hg16
  refine hs_iast hx hb hK hH hS 15 0 (by decide) (fun _ => rfl) hg16 rfl dX4_endOfCommand_72 (fun H locs hH hS => ?_)
  obtain ⟨M17, eM17, hf⟩ := nm_o hf
  rw [← eM17] at hH
  refine lv_aload_n hx hb dX4_endOfCommand_73 rfl (lv_at hl 0 rfl) ?_
  refine lv_dup hx hb dX4_endOfCommand_74 rfl ?_
  refine hs_get hx hb (T := TX4) hA inAX4 hown hK hH 13 0 (by decide) 8 rfl rfl 4 (by decide) (hA _ zt_241) rfl rfl dX4_endOfCommand_75 ?_
  refine lv_iconst (v := (1 : Int32)) hx hb dX4_endOfCommand_78 (by decide) ?_
  refine lv_iadd hx hb dX4_endOfCommand_79 ?_
  refine hs_put hx hb (T := TX4) hA inAX4 tyX4 tyX4_ok nmX4 hown hK hH hS 13 0 (by decide) 8 rfl rfl 4 (by decide) (hA _ zt_241) rfl rfl (by decide +kernel) (Nat.le_of_ble_eq_true rfl) rfl dX4_endOfCommand_80 (fun H locs hH hS => ?_)
  obtain ⟨M18, eM18, hf⟩ := nm_o hf
  rw [← eM18] at hH
  refine lv_iload_n hx hb dX4_endOfCommand_83 rfl (lv_at hl 2 rfl) ?_
  cases hf
  exact hs_iret C0 hH hS (by decide) (by decide) dX4_endOfCommand_84
def f_X4_endOfCommand_2 : Nat → Mem → Int32 → Int32 → Option (Int32 × Mem)
  | 0, _, _, _ => none
  | n + 1, M, a1, a2 => (if (11 : Int32) ≤ a2 then some ((-1 : Int32), M) else bd (f_X4_formOf M a2) fun r20 => if r20 < 18 then (bd2 (f_X4_endOfForm M r20 a1) fun r23 M22 => (if r23 = (-1 : Int32) then f_X4_endOfCommand_85 (f_X4_endOfCommand_2 n) M22 a1 a2 else nm (mu M22 13 0 5 (if (M22 13 0 5) < r23 then r23 else (M22 13 0 5))) fun M24 => (if (10 : Int32) ≤ (M24 13 0 4) then f_X4_endOfCommand_85 (f_X4_endOfCommand_2 n) M24 a1 a2 else (if r23 = (M24 13 0 1) then f_X4_endOfCommand_63 M24 a2 r23 else if vin r23 60 then ((if (M24 14 0 (ix r23)) = (59 : Int32) then f_X4_endOfCommand_63 M24 a2 r23 else f_X4_endOfCommand_85 (f_X4_endOfCommand_2 n) M24 a1 a2)) else none)))) else none)
set_option maxHeartbeats 4000000 in
set_option maxRecDepth 100000 in
theorem w_X4_endOfCommand_2 {Y : LY} {p : Program} {l : Launch} {e : Env} {s : State} {m : MethodId} {args : Array Value} {below : List Frame} {meth : Method} {c : Code} (C0 : BE Y p s m args meth c cX4_endOfCommand 4 (Option.some Jvm.ClassFile.FieldType.int) RX4) {r : Int32} {MZ : Mem} : ∀ (n : Nat) (M : Mem) (a1 : Int32) (a2 : Int32), f_X4_endOfCommand_2 n M a1 a2 = some (r, MZ) → ∀ (H : Heap) (locs : List Loc) (ls : Array Slot), HS Y M H → va_S (AZ Y) s.heap H locs → lv_has ls 4 [(0, .ref (YA Y 13 0)), (1, .int a1), (2, .int a2)] → W p l e { frames := 5, cells := 0, slots := 0, locals := 112 } s m args below meth c H locs 0 0 (MQ below (Qi Y r MZ) args s 0 0 (AZ Y)) (F0 m 2 ls []) := by
  obtain ⟨hx, hb, hr, hml, hown, hA, hlocks, hK, hZ⟩ := id C0
  intro n
  induction n with
  | zero =>
    intro M a1 a2 hf
    cases hf
  | succ n ih =>
    intro M a1 a2 hf H locs ls hH hS hl
    rw [f_X4_endOfCommand_2] at hf
    refine lv_iload_n hx hb dX4_endOfCommand_2 rfl (lv_at hl 2 rfl) ?_
    refine lv_bipush (v := (11 : Int32)) hx hb dX4_endOfCommand_3 (by decide) ?_
    refine lv_icmp_ge (tgt := 91) hx hb dX4_endOfCommand_5 (by decide) (fun hc30 => ?_) (fun hc30 => ?_)
    · have hf := if_t hf hc30
      refine lv_iconst (v := (-1 : Int32)) hx hb dX4_endOfCommand_91 (by decide) ?_
      cases hf
      exact hs_iret C0 hH hS (by decide) (by decide) dX4_endOfCommand_92
    · have hf := if_f hf hc30
      refine lv_aload_n hx hb dX4_endOfCommand_8 rfl (lv_at hl 0 rfl) ?_
      refine lv_iload_n hx hb dX4_endOfCommand_9 rfl (lv_at hl 2 rfl) ?_
      obtain ⟨r20, hq19, hf⟩ := bd_o hf
      refine hs_ck (hs_runS C0 hH hS (n := 1) (As := [.int a2]) (rest := [.ref (YA Y 13 0)]) (c_X4_formOf M a2 hq19) ⟨⟨zt_1454, zt_1455, zt_8, zt_1456⟩, by decide, by decide, by decide +kernel⟩ ⟨rfl, rfl, Nat.le_of_ble_eq_true rfl, Nat.le_of_ble_eq_true rfl⟩ rfl rfl hl.1 (Nat.le_of_ble_eq_true rfl) ⟨Nat.le_of_ble_eq_true rfl, Nat.le_of_ble_eq_true rfl⟩ dX4_endOfCommand_10) hS (fun H locs hH hS => ?_)
      obtain ⟨hr20, hf⟩ := gd_o hf
      refine lv_iload_n hx hb dX4_endOfCommand_13 rfl (lv_at hl 1 rfl) ?_
      obtain ⟨r23, M22, hq21, hf⟩ := bd2_o hf
      refine hs_ci (hs_runV C0 hH hS (n := 2) (As := [.ref (YK Y r20), .int a1]) (rest := []) (c_X4_endOfForm M r20 a1 (show r20 < 18 from by omega) hq21) ⟨⟨zt_1468, zt_1470, zs_29, zt_8, zt_1471⟩, rfl, by decide, by decide, by decide +kernel⟩ ⟨rfl, rfl, Nat.le_of_ble_eq_true rfl, Nat.le_of_ble_eq_true rfl⟩ (hs_recv hK hH 13 0 (by decide) 8 rfl rfl) rfl rfl hl.1 (Nat.le_of_ble_eq_true rfl) ⟨Nat.le_of_ble_eq_true rfl, Nat.le_of_ble_eq_true rfl⟩ dX4_endOfCommand_14) hS (fun H locs hH hS => ?_)
      refine lv_istore_n (lv' := [(3, .int r23), (0, .ref (YA Y 13 0)), (1, .int a1), (2, .int a2)]) hx hb dX4_endOfCommand_17 rfl hl (by decide) rfl (fun ls hl => ?_)
      refine lv_iload_n hx hb dX4_endOfCommand_18 rfl (lv_at hl 0 rfl) ?_
      refine lv_iconst (v := (-1 : Int32)) hx hb dX4_endOfCommand_19 (by decide) ?_
      refine lv_icmp_eq (tgt := 85) hx hb dX4_endOfCommand_20 (by decide) (fun hc29 => ?_) (fun hc29 => ?_)
      · have hf := if_t hf hc29
        exact w_X4_endOfCommand_85 C0 (f_X4_endOfCommand_2 n) ih M22 a1 a2 hf _ _ _ hH hS (lv_sub hl [1, 2, 3] rfl)
      · have hf := if_f hf hc29
        refine lv_aload_n hx hb dX4_endOfCommand_23 rfl (lv_at hl 1 rfl) ?_
        refine lv_aload_n hx hb dX4_endOfCommand_24 rfl (lv_at hl 1 rfl) ?_
        refine hs_get hx hb (T := TX4) hA inAX4 hown hK hH 13 0 (by decide) 8 rfl rfl 5 (by decide) (hA _ zt_243) rfl rfl dX4_endOfCommand_25 ?_
        refine lv_iload_n hx hb dX4_endOfCommand_28 rfl (lv_at hl 0 rfl) ?_
        refine va_mmax hx hb (by rw [hml]; exact hl.1.symm) hown (hA _ zt_1496) (hA _ zt_1023) (hA _ zt_21) (hA _ zt_1024) (Nat.le_of_ble_eq_true rfl) (Nat.le_of_ble_eq_true rfl) (Nat.le_of_ble_eq_true rfl) (Nat.le_of_ble_eq_true rfl) dX4_endOfCommand_29 ?_
        refine hs_put hx hb (T := TX4) hA inAX4 tyX4 tyX4_ok nmX4 hown hK hH hS 13 0 (by decide) 8 rfl rfl 5 (by decide) (hA _ zt_243) rfl rfl (by decide +kernel) (Nat.le_of_ble_eq_true rfl) rfl dX4_endOfCommand_32 (fun H locs hH hS => ?_)
        obtain ⟨M24, eM24, hf⟩ := nm_o hf
        rw [← eM24] at hH
        refine lv_aload_n hx hb dX4_endOfCommand_35 rfl (lv_at hl 1 rfl) ?_
        refine hs_get hx hb (T := TX4) hA inAX4 hown hK hH 13 0 (by decide) 8 rfl rfl 4 (by decide) (hA _ zt_241) rfl rfl dX4_endOfCommand_36 ?_
        refine lv_bipush (v := (10 : Int32)) hx hb dX4_endOfCommand_39 (by decide) ?_
        refine lv_icmp_ge (tgt := 85) hx hb dX4_endOfCommand_41 (by decide) (fun hc28 => ?_) (fun hc28 => ?_)
        · have hf := if_t hf hc28
          exact w_X4_endOfCommand_85 C0 (f_X4_endOfCommand_2 n) ih M24 a1 a2 hf _ _ _ hH hS (lv_sub hl [1, 2, 3] rfl)
        · have hf := if_f hf hc28
          refine lv_iload_n hx hb dX4_endOfCommand_44 rfl (lv_at hl 0 rfl) ?_
          refine lv_aload_n hx hb dX4_endOfCommand_45 rfl (lv_at hl 1 rfl) ?_
          refine hs_get hx hb (T := TX4) hA inAX4 hown hK hH 13 0 (by decide) 8 rfl rfl 1 (by decide) (hA _ zt_237) rfl rfl dX4_endOfCommand_46 ?_
          refine lv_icmp_eq (tgt := 63) hx hb dX4_endOfCommand_49 (by decide) (fun hc27 => ?_) (fun hc27 => ?_)
          · have hf := if_t hf hc27
            exact w_X4_endOfCommand_63 C0 M24 a2 r23 hf _ _ _ hH hS (lv_sub hl [1, 3, 0] rfl)
          · have hf := if_f hf hc27
            refine lv_aload_n hx hb dX4_endOfCommand_52 rfl (lv_at hl 1 rfl) ?_
            refine hs_get hx hb (T := TX4) hA inAX4 hown hK hH 13 0 (by decide) 8 rfl rfl 0 (by decide) (hA _ zt_236) rfl rfl dX4_endOfCommand_53 ?_
            refine lv_iload_n hx hb dX4_endOfCommand_56 rfl (lv_at hl 0 rfl) ?_
            obtain ⟨hg25, hf⟩ := gd_o hf
            have bhg25 := vin_lt hg25
            refine hs_cald hx hb hK hH 14 0 (by decide) rfl hg25 rfl dX4_endOfCommand_57 ?_
            refine lv_bipush (v := (59 : Int32)) hx hb dX4_endOfCommand_58 (by decide) ?_
            refine lv_icmp_ne (tgt := 85) hx hb dX4_endOfCommand_60 (by decide) (fun hc26 => ?_) (fun hc26 => ?_)
            · have hf := if_f hf hc26
              exact w_X4_endOfCommand_85 C0 (f_X4_endOfCommand_2 n) ih M24 a1 a2 hf _ _ _ hH hS (lv_sub hl [1, 2, 3] rfl)
            · have hf := if_t hf hc26
              exact w_X4_endOfCommand_63 C0 M24 a2 r23 hf _ _ _ hH hS (lv_sub hl [1, 3, 0] rfl)
def f_X4_endOfCommand (M : Mem) (a1 : Int32) : Option (Int32 × Mem) := f_X4_endOfCommand_2 FU M a1 (0 : Int32)
set_option maxHeartbeats 4000000 in
set_option maxRecDepth 100000 in
theorem c_X4_endOfCommand {Y : LY} {l : Launch} (M : Mem) (a1 : Int32) {r : Int32} {MZ : Mem} (hf : f_X4_endOfCommand M a1 = some (r, MZ)) : Met l yX4_endOfCommand (WS yX4_endOfCommand cX4_endOfCommand 4 (Option.some Jvm.ClassFile.FieldType.int)) { frames := 5, cells := 0, slots := 0, locals := 112 } (PcM Y M [.ref (YA Y 13 0), .int a1]) (Qi Y r MZ) 0 0 (AZ Y) := by
  refine met_mk (lv := [(0, .ref (YA Y 13 0)), (1, .int a1)]) [.ref (YA Y 13 0), .int a1] (by decide) rfl rfl (Nat.le_of_ble_eq_true rfl) (fun p e s m below meth c C0 hH ls hl => ?_)
  have hS : va_S (AZ Y) s.heap s.heap [] := va_S.rf
  obtain ⟨hx, hb, hr, hml, hown, hA, hlocks, hK, hZ⟩ := id C0
  unfold f_X4_endOfCommand at hf
  refine lv_iconst (v := (0 : Int32)) hx hb dX4_endOfCommand_0 (by decide) ?_
  refine lv_istore_n (lv' := [(2, .int (0 : Int32)), (0, .ref (YA Y 13 0)), (1, .int a1)]) hx hb dX4_endOfCommand_1 rfl hl (by decide) rfl (fun ls hl => ?_)
  exact w_X4_endOfCommand_2 C0 FU M a1 (0 : Int32) hf _ _ _ hH hS (lv_sub hl [1, 2, 0] rfl)
def f_X4_parse_14 : Nat → Mem → Int32 → Int32 → Option (Int32 × Mem)
  | 0, _, _, _ => none
  | n + 1, M, a1, a2 => (if (10 : Int32) < a2 then some ((0 : Int32), M) else bd2 (f_X4_endOfCommand M a1) fun r11 M10 => (if r11 = (-1 : Int32) then some ((0 : Int32), M10) else (if r11 = (M10 13 0 1) then some ((1 : Int32), M10) else f_X4_parse_14 n M10 (r11 + (1 : Int32)) (a2 + (1 : Int32)))))
set_option maxHeartbeats 4000000 in
set_option maxRecDepth 100000 in
theorem w_X4_parse_14 {Y : LY} {p : Program} {l : Launch} {e : Env} {s : State} {m : MethodId} {args : Array Value} {below : List Frame} {meth : Method} {c : Code} (C0 : BE Y p s m args meth c cX4_parse 4 (Option.some Jvm.ClassFile.FieldType.boolean) RX4) {r : Int32} {MZ : Mem} : ∀ (n : Nat) (M : Mem) (a1 : Int32) (a2 : Int32), f_X4_parse_14 n M a1 a2 = some (r, MZ) → ∀ (H : Heap) (locs : List Loc) (ls : Array Slot), HS Y M H → va_S (AZ Y) s.heap H locs → lv_has ls 4 [(0, .ref (YA Y 13 0)), (1, .int a1), (2, .int a2)] → W p l e { frames := 6, cells := 0, slots := 0, locals := 135 } s m args below meth c H locs 0 0 (MQ below (Qi Y r MZ) args s 0 0 (AZ Y)) (F0 m 14 ls []) := by
  obtain ⟨hx, hb, hr, hml, hown, hA, hlocks, hK, hZ⟩ := id C0
  intro n
  induction n with
  | zero =>
    intro M a1 a2 hf
    cases hf
  | succ n ih =>
    intro M a1 a2 hf H locs ls hH hS hl
    rw [f_X4_parse_14] at hf
    refine lv_iload_n hx hb dX4_parse_14 rfl (lv_at hl 2 rfl) ?_
    refine lv_bipush (v := (10 : Int32)) hx hb dX4_parse_15 (by decide) ?_
    refine lv_icmp_gt (tgt := 53) hx hb dX4_parse_17 (by decide) (fun hc14 => ?_) (fun hc14 => ?_)
    · have hf := if_t hf hc14
      refine lv_iconst (v := (0 : Int32)) hx hb dX4_parse_53 (by decide) ?_
      cases hf
      exact hs_zret C0 hH hS (by decide) (by decide) (by decide) dX4_parse_54
    · have hf := if_f hf hc14
      refine lv_aload_n hx hb dX4_parse_20 rfl (lv_at hl 0 rfl) ?_
      refine lv_iload_n hx hb dX4_parse_21 rfl (lv_at hl 1 rfl) ?_
      obtain ⟨r11, M10, hq9, hf⟩ := bd2_o hf
      refine hs_ci (hs_runV C0 hH hS (n := 1) (As := [.int a1]) (rest := []) (c_X4_endOfCommand M a1 hq9) ⟨⟨zt_1450, zt_1452, zs_28, zt_8, zt_1453⟩, rfl, by decide, by decide, by decide +kernel⟩ ⟨rfl, rfl, Nat.le_of_ble_eq_true rfl, Nat.le_of_ble_eq_true rfl⟩ (hs_recv hK hH 13 0 (by decide) 8 rfl rfl) rfl rfl hl.1 (Nat.le_of_ble_eq_true rfl) ⟨Nat.le_of_ble_eq_true rfl, Nat.le_of_ble_eq_true rfl⟩ dX4_parse_22) hS (fun H locs hH hS => ?_)
      refine lv_istore_n (lv' := [(3, .int r11), (0, .ref (YA Y 13 0)), (1, .int a1), (2, .int a2)]) hx hb dX4_parse_25 rfl hl (by decide) rfl (fun ls hl => ?_)
      refine lv_iload_n hx hb dX4_parse_26 rfl (lv_at hl 0 rfl) ?_
      refine lv_iconst (v := (-1 : Int32)) hx hb dX4_parse_27 (by decide) ?_
      refine lv_icmp_ne (tgt := 33) hx hb dX4_parse_28 (by decide) (fun hc13 => ?_) (fun hc13 => ?_)
      · have hf := if_f hf hc13
        refine lv_iload_n hx hb dX4_parse_33 rfl (lv_at hl 0 rfl) ?_
        refine lv_aload_n hx hb dX4_parse_34 rfl (lv_at hl 1 rfl) ?_
        refine hs_get hx hb (T := TX4) hA inAX4 hown hK hH 13 0 (by decide) 8 rfl rfl 1 (by decide) (hA _ zt_237) rfl rfl dX4_parse_35 ?_
        refine lv_icmp_ne (tgt := 43) hx hb dX4_parse_38 (by decide) (fun hc12 => ?_) (fun hc12 => ?_)
        · have hf := if_f hf hc12
          refine lv_iload_n hx hb dX4_parse_43 rfl (lv_at hl 0 rfl) ?_
          refine lv_iconst (v := (1 : Int32)) hx hb dX4_parse_44 (by decide) ?_
          refine lv_iadd hx hb dX4_parse_45 ?_
          refine lv_istore_n (lv' := [(1, .int (r11 + (1 : Int32))), (3, .int r11), (0, .ref (YA Y 13 0)), (2, .int a2)]) hx hb dX4_parse_46 rfl hl (by decide) rfl (fun ls hl => ?_)
          refine lv_iinc (v := a2 + (1 : Int32)) (lv' := [(2, .int (a2 + (1 : Int32))), (1, .int (r11 + (1 : Int32))), (3, .int r11), (0, .ref (YA Y 13 0))]) hx hb dX4_parse_47 hl (k := 3) rfl rfl (by decide) rfl (fun ls hl => ?_)
          refine lv_goto (tgt := 14) hx hb dX4_parse_50 (by decide) ?_
          exact ih M10 (r11 + (1 : Int32)) (a2 + (1 : Int32)) hf _ _ _ hH hS (lv_sub hl [3, 1, 0] rfl)
        · have hf := if_t hf hc12
          refine lv_iconst (v := (1 : Int32)) hx hb dX4_parse_41 (by decide) ?_
          cases hf
          exact hs_zret C0 hH hS (by decide) (by decide) (by decide) dX4_parse_42
      · have hf := if_t hf hc13
        refine lv_iconst (v := (0 : Int32)) hx hb dX4_parse_31 (by decide) ?_
        cases hf
        exact hs_zret C0 hH hS (by decide) (by decide) (by decide) dX4_parse_32
def f_X4_parse (M : Mem) : Option (Int32 × Mem) := nm (mu M 13 0 4 (0 : Int32)) fun M15 => nm (mu M15 13 0 5 (0 : Int32)) fun M16 => f_X4_parse_14 FU M16 (0 : Int32) (0 : Int32)
set_option maxHeartbeats 4000000 in
set_option maxRecDepth 100000 in
theorem c_X4_parse {Y : LY} {l : Launch} (M : Mem) {r : Int32} {MZ : Mem} (hf : f_X4_parse M = some (r, MZ)) : Met l yX4_parse (WS yX4_parse cX4_parse 4 (Option.some Jvm.ClassFile.FieldType.boolean)) { frames := 6, cells := 0, slots := 0, locals := 135 } (PcM Y M [.ref (YA Y 13 0)]) (Qi Y r MZ) 0 0 (AZ Y) := by
  refine met_mk (lv := [(0, .ref (YA Y 13 0))]) [.ref (YA Y 13 0)] (by decide) rfl rfl (Nat.le_of_ble_eq_true rfl) (fun p e s m below meth c C0 hH ls hl => ?_)
  have hS : va_S (AZ Y) s.heap s.heap [] := va_S.rf
  obtain ⟨hx, hb, hr, hml, hown, hA, hlocks, hK, hZ⟩ := id C0
  unfold f_X4_parse at hf
  refine lv_aload_n hx hb dX4_parse_0 rfl (lv_at hl 0 rfl) ?_
  refine lv_iconst (v := (0 : Int32)) hx hb dX4_parse_1 (by decide) ?_
  refine hs_put hx hb (T := TX4) hA inAX4 tyX4 tyX4_ok nmX4 hown hK hH hS 13 0 (by decide) 8 rfl rfl 4 (by decide) (hA _ zt_241) rfl rfl (by decide +kernel) (Nat.le_of_ble_eq_true rfl) rfl dX4_parse_2 (fun H locs hH hS => ?_)
  obtain ⟨M15, eM15, hf⟩ := nm_o hf
  rw [← eM15] at hH
  refine lv_aload_n hx hb dX4_parse_5 rfl (lv_at hl 0 rfl) ?_
  refine lv_iconst (v := (0 : Int32)) hx hb dX4_parse_6 (by decide) ?_
  refine hs_put hx hb (T := TX4) hA inAX4 tyX4 tyX4_ok nmX4 hown hK hH hS 13 0 (by decide) 8 rfl rfl 5 (by decide) (hA _ zt_243) rfl rfl (by decide +kernel) (Nat.le_of_ble_eq_true rfl) rfl dX4_parse_7 (fun H locs hH hS => ?_)
  obtain ⟨M16, eM16, hf⟩ := nm_o hf
  rw [← eM16] at hH
  refine lv_iconst (v := (0 : Int32)) hx hb dX4_parse_10 (by decide) ?_
  refine lv_istore_n (lv' := [(1, .int (0 : Int32)), (0, .ref (YA Y 13 0))]) hx hb dX4_parse_11 rfl hl (by decide) rfl (fun ls hl => ?_)
  refine lv_iconst (v := (0 : Int32)) hx hb dX4_parse_12 (by decide) ?_
  refine lv_istore_n (lv' := [(2, .int (0 : Int32)), (1, .int (0 : Int32)), (0, .ref (YA Y 13 0))]) hx hb dX4_parse_13 rfl hl (by decide) rfl (fun ls hl => ?_)
  exact w_X4_parse_14 C0 FU M16 (0 : Int32) (0 : Int32) hf _ _ _ hH hS (lv_sub hl [2, 1, 0] rfl)
def f_X7_formatParcel (M : Mem) (a1 : Int32) : Option ((Int32 ⊕ Nat) × Mem) := bx (f_X7_existingParcel M a1) fun (r14 : Nat) (M13 : Mem) => if r14 < 132 then (bd (f_J4_setLength_d00df M13 (0 : Int32)) fun M16 => bd (f_X3_writeTo M16 r14) fun M19 => bd (f_J4_length_8abf5 M19) fun r22 => some (.inl r22, M19)) else none
set_option maxHeartbeats 4000000 in
set_option maxRecDepth 100000 in
theorem c_X7_formatParcel {Y : LY} {l : Launch} (hl9 : l.stackTraces = false) (M : Mem) (a1 : Int32) {x : Int32 ⊕ Nat} {MZ : Mem} (hf : f_X7_formatParcel M a1 = some (x, MZ)) : vx_Met l yX7_formatParcel (WS yX7_formatParcel cX7_formatParcel 3 (Option.some Jvm.ClassFile.FieldType.int)) { frames := 9, cells := 14, slots := 1696, locals := 247 } (PcM Y M [.ref (YA Y 0 0), .int a1]) (Qxi Y x MZ) (Xx Y x MZ) 14 1696 (AZ Y) := by
  refine met_mkx (lv := [(0, .ref (YA Y 0 0)), (1, .int a1)]) [.ref (YA Y 0 0), .int a1] (by decide) rfl rfl (Nat.le_of_ble_eq_true rfl) (fun p e s m below meth c C0 hn9 hH ls hl => ?_)
  have hS : va_S (AZ Y) s.heap s.heap [] := va_S.rf
  obtain ⟨hx, hb, hr, hml, hown, hA, hlocks, hK, hZ⟩ := id C0
  unfold f_X7_formatParcel at hf
  refine lv_aload_n hx hb dX7_formatParcel_0 rfl (lv_at hl 0 rfl) ?_
  refine lv_iload_n hx hb dX7_formatParcel_1 rfl (lv_at hl 1 rfl) ?_
  obtain ⟨yr14, M13, hq12, hf⟩ := bx_o hf
  refine hx_cr (hx_runV C0 hH hS (n := 1) (As := [.int a1]) (rest := []) (c_X7_existingParcel hl9 M a1 hq12) ⟨⟨zt_870, zt_872, zs_22, zt_1, zt_873⟩, rfl, by decide, by decide, by decide +kernel⟩ ⟨rfl, rfl, Nat.le_of_ble_eq_true rfl, Nat.le_of_ble_eq_true rfl⟩ (hs_recv hK hH 0 0 (by decide) 11 rfl rfl) rfl rfl hl.1 (Nat.le_of_ble_eq_true rfl) ⟨Nat.le_of_ble_eq_true rfl, Nat.le_of_ble_eq_true rfl⟩ dX7_formatParcel_2) hS C0 hn9 (by decide) (by decide) (fun k e => by subst e; exact bx_p (HS Y) hf) (fun r14 er14 H locs hH hS => ?_)
  subst er14
  have hf := bx_v hf
  obtain ⟨hr14, hf⟩ := gd_o hf
  refine lv_astore_n (lv' := [(2, .ref (YA Y 6 r14)), (0, .ref (YA Y 0 0)), (1, .int a1)]) hx hb dX7_formatParcel_5 rfl hl (by decide) rfl (fun ls hl => ?_)
  refine lv_aload_n hx hb dX7_formatParcel_6 rfl (lv_at hl 1 rfl) ?_
  refine hs_get hx hb (T := TX7) hA inAX7 hown hK hH 0 0 (by decide) 11 rfl rfl 8 (by decide) (hA _ zt_300) rfl rfl dX7_formatParcel_7 ?_
  refine lv_iconst (v := (0 : Int32)) hx hb dX7_formatParcel_10 (by decide) ?_
  obtain ⟨M16, hq15, hf⟩ := bd_o hf
  refine hs_cv (hs_runV C0 hH hS (n := 1) (As := [.int (0 : Int32)]) (rest := []) (c_J4_setLength_d00df M13 (0 : Int32) hq15) ⟨⟨zt_1104, zt_1105, zt_1106, zt_10, zt_1107⟩, rfl, by decide, by decide, by decide +kernel⟩ ⟨rfl, rfl, Nat.le_of_ble_eq_true rfl, Nat.le_of_ble_eq_true rfl⟩ (hs_recvS hK hH) rfl rfl hl.1 (Nat.le_of_ble_eq_true rfl) ⟨Nat.le_of_ble_eq_true rfl, Nat.le_of_ble_eq_true rfl⟩ dX7_formatParcel_11) hS (fun H locs hH hS => ?_)
  refine lv_aload_n hx hb dX7_formatParcel_14 rfl (lv_at hl 0 rfl) ?_
  refine lv_aload_n hx hb dX7_formatParcel_15 rfl (lv_at hl 1 rfl) ?_
  refine hs_get hx hb (T := TX7) hA inAX7 hown hK hH 0 0 (by decide) 11 rfl rfl 8 (by decide) (hA _ zt_300) rfl rfl dX7_formatParcel_16 ?_
  obtain ⟨M19, hq18, hf⟩ := bd_o hf
  refine hs_cv (hs_runV C0 hH hS (n := 1) (As := [.ref (YA Y 19 0)]) (rest := []) (c_X3_writeTo M16 r14 (show r14 < 132 from by omega) hq18) ⟨⟨zt_1357, zt_1358, zt_1359, zt_6, zt_1360⟩, rfl, by decide, by decide, by decide +kernel⟩ ⟨rfl, rfl, Nat.le_of_ble_eq_true rfl, Nat.le_of_ble_eq_true rfl⟩ (hs_recv hK hH 6 r14 (show r14 < 132 from by omega) 7 rfl rfl) rfl rfl hl.1 (Nat.le_of_ble_eq_true rfl) ⟨Nat.le_of_ble_eq_true rfl, Nat.le_of_ble_eq_true rfl⟩ dX7_formatParcel_19) hS (fun H locs hH hS => ?_)
  refine lv_aload_n hx hb dX7_formatParcel_22 rfl (lv_at hl 1 rfl) ?_
  refine hs_get hx hb (T := TX7) hA inAX7 hown hK hH 0 0 (by decide) 11 rfl rfl 8 (by decide) (hA _ zt_300) rfl rfl dX7_formatParcel_23 ?_
  obtain ⟨r22, hq21, hf⟩ := bd_o hf
  refine hs_ci (hs_runV C0 hH hS (n := 0) (As := []) (rest := []) (c_J4_length_8abf5 M19 hq21) ⟨⟨zt_1389, zt_1281, zt_2077, zt_10, zt_1282⟩, rfl, by decide, by decide, by decide +kernel⟩ ⟨rfl, rfl, Nat.le_of_ble_eq_true rfl, Nat.le_of_ble_eq_true rfl⟩ (hs_recvS hK hH) rfl rfl hl.1 (Nat.le_of_ble_eq_true rfl) ⟨Nat.le_of_ble_eq_true rfl, Nat.le_of_ble_eq_true rfl⟩ dX7_formatParcel_26) hS (fun H locs hH hS => ?_)
  cases hf
  exact hx_iret C0 hH hS (by decide) (by decide) dX7_formatParcel_29
def f_X7_formatLink (M : Mem) (a1 : Int32) : Option ((Int32 ⊕ Nat) × Mem) := bx (f_X7_existingLink M a1) fun (r19 : Nat) (M18 : Mem) => if r19 < 220 then (bd (f_J4_setLength_d00df M18 (0 : Int32)) fun M21 => bd (f_J4_append_bf812 M21 a1) fun M24 => bd (f_X5_weightOn M24 0 a1) fun r27 => bd (f_X1_writeTo M24 r19 r27) fun M29 => bd (f_J4_length_8abf5 M29) fun r32 => some (.inl r32, M29)) else none
set_option maxHeartbeats 4000000 in
set_option maxRecDepth 100000 in
theorem c_X7_formatLink {Y : LY} {l : Launch} (hl9 : l.stackTraces = false) (M : Mem) (a1 : Int32) {x : Int32 ⊕ Nat} {MZ : Mem} (hf : f_X7_formatLink M a1 = some (x, MZ)) : vx_Met l yX7_formatLink (WS yX7_formatLink cX7_formatLink 3 (Option.some Jvm.ClassFile.FieldType.int)) { frames := 9, cells := 14, slots := 1696, locals := 248 } (PcM Y M [.ref (YA Y 0 0), .int a1]) (Qxi Y x MZ) (Xx Y x MZ) 14 1696 (AZ Y) := by
  refine met_mkx (lv := [(0, .ref (YA Y 0 0)), (1, .int a1)]) [.ref (YA Y 0 0), .int a1] (by decide) rfl rfl (Nat.le_of_ble_eq_true rfl) (fun p e s m below meth c C0 hn9 hH ls hl => ?_)
  have hS : va_S (AZ Y) s.heap s.heap [] := va_S.rf
  obtain ⟨hx, hb, hr, hml, hown, hA, hlocks, hK, hZ⟩ := id C0
  unfold f_X7_formatLink at hf
  refine lv_aload_n hx hb dX7_formatLink_0 rfl (lv_at hl 0 rfl) ?_
  refine lv_iload_n hx hb dX7_formatLink_1 rfl (lv_at hl 1 rfl) ?_
  obtain ⟨yr19, M18, hq17, hf⟩ := bx_o hf
  refine hx_cr (hx_runV C0 hH hS (n := 1) (As := [.int a1]) (rest := []) (c_X7_existingLink hl9 M a1 hq17) ⟨⟨zt_781, zt_783, zs_21, zt_1, zt_784⟩, rfl, by decide, by decide, by decide +kernel⟩ ⟨rfl, rfl, Nat.le_of_ble_eq_true rfl, Nat.le_of_ble_eq_true rfl⟩ (hs_recv hK hH 0 0 (by decide) 11 rfl rfl) rfl rfl hl.1 (Nat.le_of_ble_eq_true rfl) ⟨Nat.le_of_ble_eq_true rfl, Nat.le_of_ble_eq_true rfl⟩ dX7_formatLink_2) hS C0 hn9 (by decide) (by decide) (fun k e => by subst e; exact bx_p (HS Y) hf) (fun r19 er19 H locs hH hS => ?_)
  subst er19
  have hf := bx_v hf
  obtain ⟨hr19, hf⟩ := gd_o hf
  refine lv_astore_n (lv' := [(2, .ref (YA Y 4 r19)), (0, .ref (YA Y 0 0)), (1, .int a1)]) hx hb dX7_formatLink_5 rfl hl (by decide) rfl (fun ls hl => ?_)
  refine lv_aload_n hx hb dX7_formatLink_6 rfl (lv_at hl 1 rfl) ?_
  refine hs_get hx hb (T := TX7) hA inAX7 hown hK hH 0 0 (by decide) 11 rfl rfl 8 (by decide) (hA _ zt_300) rfl rfl dX7_formatLink_7 ?_
  refine lv_iconst (v := (0 : Int32)) hx hb dX7_formatLink_10 (by decide) ?_
  obtain ⟨M21, hq20, hf⟩ := bd_o hf
  refine hs_cv (hs_runV C0 hH hS (n := 1) (As := [.int (0 : Int32)]) (rest := []) (c_J4_setLength_d00df M18 (0 : Int32) hq20) ⟨⟨zt_1104, zt_1105, zt_1106, zt_10, zt_1107⟩, rfl, by decide, by decide, by decide +kernel⟩ ⟨rfl, rfl, Nat.le_of_ble_eq_true rfl, Nat.le_of_ble_eq_true rfl⟩ (hs_recvS hK hH) rfl rfl hl.1 (Nat.le_of_ble_eq_true rfl) ⟨Nat.le_of_ble_eq_true rfl, Nat.le_of_ble_eq_true rfl⟩ dX7_formatLink_11) hS (fun H locs hH hS => ?_)
  refine lv_aload_n hx hb dX7_formatLink_14 rfl (lv_at hl 1 rfl) ?_
  refine hs_get hx hb (T := TX7) hA inAX7 hown hK hH 0 0 (by decide) 11 rfl rfl 8 (by decide) (hA _ zt_300) rfl rfl dX7_formatLink_15 ?_
  refine lv_iload_n hx hb dX7_formatLink_18 rfl (lv_at hl 2 rfl) ?_
  obtain ⟨M24, hq23, hf⟩ := bd_o hf
  refine hs_cr (hs_runV C0 hH hS (n := 1) (As := [.int a1]) (rest := []) (c_J4_append_bf812 M21 a1 hq23) ⟨⟨zt_1397, zt_1236, zt_1237, zt_10, zt_1238⟩, rfl, by decide, by decide, by decide +kernel⟩ ⟨rfl, rfl, Nat.le_of_ble_eq_true rfl, Nat.le_of_ble_eq_true rfl⟩ (hs_recvS hK hH) rfl rfl hl.1 (Nat.le_of_ble_eq_true rfl) ⟨Nat.le_of_ble_eq_true rfl, Nat.le_of_ble_eq_true rfl⟩ dX7_formatLink_19) hS (fun H locs hH hS => ?_)
  refine lv_pop hx hb dX7_formatLink_22 rfl ?_
  refine lv_aload_n hx hb dX7_formatLink_23 rfl (lv_at hl 0 rfl) ?_
  refine lv_aload_n hx hb dX7_formatLink_24 rfl (lv_at hl 1 rfl) ?_
  refine hs_get hx hb (T := TX7) hA inAX7 hown hK hH 0 0 (by decide) 11 rfl rfl 8 (by decide) (hA _ zt_300) rfl rfl dX7_formatLink_25 ?_
  refine lv_aload_n hx hb dX7_formatLink_28 rfl (lv_at hl 1 rfl) ?_
  refine hs_get hx hb (T := TX7) hA inAX7 hown hK hH 0 0 (by decide) 11 rfl rfl 0 (by decide) (hA _ zt_292) rfl rfl dX7_formatLink_29 ?_
  refine lv_iload_n hx hb dX7_formatLink_32 rfl (lv_at hl 2 rfl) ?_
  obtain ⟨r27, hq26, hf⟩ := bd_o hf
  refine hs_ci (hs_runV C0 hH hS (n := 1) (As := [.int a1]) (rest := [.ref (YA Y 19 0), .ref (YA Y 4 r19)]) (c_X5_weightOn M24 0 a1 (by decide) hq26) ⟨⟨zt_832, zt_390, zt_391, zt_3, zt_392⟩, rfl, by decide, by decide, by decide +kernel⟩ ⟨rfl, rfl, Nat.le_of_ble_eq_true rfl, Nat.le_of_ble_eq_true rfl⟩ (hs_recv hK hH 1 0 (by decide) 9 rfl rfl) rfl rfl hl.1 (Nat.le_of_ble_eq_true rfl) ⟨Nat.le_of_ble_eq_true rfl, Nat.le_of_ble_eq_true rfl⟩ dX7_formatLink_33) hS (fun H locs hH hS => ?_)
  obtain ⟨M29, hq28, hf⟩ := bd_o hf
  refine hs_cv (hs_runV C0 hH hS (n := 2) (As := [.ref (YA Y 19 0), .int r27]) (rest := []) (c_X1_writeTo M24 r19 r27 (show r19 < 220 from by omega) hq28) ⟨⟨zt_1398, zt_1399, zt_1400, zt_5, zt_1401⟩, rfl, by decide, by decide, by decide +kernel⟩ ⟨rfl, rfl, Nat.le_of_ble_eq_true rfl, Nat.le_of_ble_eq_true rfl⟩ (hs_recv hK hH 4 r19 (show r19 < 220 from by omega) 5 rfl rfl) rfl rfl hl.1 (Nat.le_of_ble_eq_true rfl) ⟨Nat.le_of_ble_eq_true rfl, Nat.le_of_ble_eq_true rfl⟩ dX7_formatLink_36) hS (fun H locs hH hS => ?_)
  refine lv_aload_n hx hb dX7_formatLink_39 rfl (lv_at hl 1 rfl) ?_
  refine hs_get hx hb (T := TX7) hA inAX7 hown hK hH 0 0 (by decide) 11 rfl rfl 8 (by decide) (hA _ zt_300) rfl rfl dX7_formatLink_40 ?_
  obtain ⟨r32, hq31, hf⟩ := bd_o hf
  refine hs_ci (hs_runV C0 hH hS (n := 0) (As := []) (rest := []) (c_J4_length_8abf5 M29 hq31) ⟨⟨zt_1389, zt_1281, zt_2077, zt_10, zt_1282⟩, rfl, by decide, by decide, by decide +kernel⟩ ⟨rfl, rfl, Nat.le_of_ble_eq_true rfl, Nat.le_of_ble_eq_true rfl⟩ (hs_recvS hK hH) rfl rfl hl.1 (Nat.le_of_ble_eq_true rfl) ⟨Nat.le_of_ble_eq_true rfl, Nat.le_of_ble_eq_true rfl⟩ dX7_formatLink_43) hS (fun H locs hH hS => ?_)
  cases hf
  exact hx_iret C0 hH hS (by decide) (by decide) dX7_formatLink_46
def f_X7_lineChar (M : Mem) (a1 : Int32) : Option ((Int32 ⊕ Nat) × Mem) := bd (f_J4_length_8abf5 M) fun r10 => bx (f_X7_requireIndex M a1 r10) fun (r13 : Unit) (M12 : Mem) => bd (f_J4_charAt_5068e M12 a1) fun r15 => if isC r15 then some (.inl r15, M12) else none
set_option maxHeartbeats 4000000 in
set_option maxRecDepth 100000 in
theorem c_X7_lineChar {Y : LY} {l : Launch} (hl9 : l.stackTraces = false) (M : Mem) (a1 : Int32) {x : Int32 ⊕ Nat} {MZ : Mem} (hf : f_X7_lineChar M a1 = some (x, MZ)) : vx_Met l yX7_lineChar (WS yX7_lineChar cX7_lineChar 2 (Option.some Jvm.ClassFile.FieldType.char)) { frames := 7, cells := 1, slots := 6, locals := 111 } (PcM Y M [.ref (YA Y 0 0), .int a1]) (Qxi Y x MZ) (Xx Y x MZ) 1 6 (AZ Y) := by
  refine met_mkx (lv := [(0, .ref (YA Y 0 0)), (1, .int a1)]) [.ref (YA Y 0 0), .int a1] (by decide) rfl rfl (Nat.le_of_ble_eq_true rfl) (fun p e s m below meth c C0 hn9 hH ls hl => ?_)
  have hS : va_S (AZ Y) s.heap s.heap [] := va_S.rf
  obtain ⟨hx, hb, hr, hml, hown, hA, hlocks, hK, hZ⟩ := id C0
  unfold f_X7_lineChar at hf
  refine lv_iload_n hx hb dX7_lineChar_0 rfl (lv_at hl 1 rfl) ?_
  refine lv_aload_n hx hb dX7_lineChar_1 rfl (lv_at hl 0 rfl) ?_
  refine hs_get hx hb (T := TX7) hA inAX7 hown hK hH 0 0 (by decide) 11 rfl rfl 8 (by decide) (hA _ zt_300) rfl rfl dX7_lineChar_2 ?_
  obtain ⟨r10, hq9, hf⟩ := bd_o hf
  refine hs_ci (hs_runV C0 hH hS (n := 0) (As := []) (rest := [.int a1]) (c_J4_length_8abf5 M hq9) ⟨⟨zt_1389, zt_1281, zt_2077, zt_10, zt_1282⟩, rfl, by decide, by decide, by decide +kernel⟩ ⟨rfl, rfl, Nat.le_of_ble_eq_true rfl, Nat.le_of_ble_eq_true rfl⟩ (hs_recvS hK hH) rfl rfl hl.1 (Nat.le_of_ble_eq_true rfl) ⟨Nat.le_of_ble_eq_true rfl, Nat.le_of_ble_eq_true rfl⟩ dX7_lineChar_5) hS (fun H locs hH hS => ?_)
  obtain ⟨yr13, M12, hq11, hf⟩ := bx_o hf
  refine hx_cv (hx_runS C0 hH hS (n := 2) (As := [.int a1, .int r10]) (rest := []) (c_X7_requireIndex hl9 M a1 r10 hq11) ⟨⟨zt_785, zt_786, zt_1, zt_787⟩, by decide, by decide, by decide +kernel⟩ ⟨rfl, rfl, Nat.le_of_ble_eq_true rfl, Nat.le_of_ble_eq_true rfl⟩ rfl rfl hl.1 (Nat.le_of_ble_eq_true rfl) ⟨Nat.le_of_ble_eq_true rfl, Nat.le_of_ble_eq_true rfl⟩ dX7_lineChar_8) hS C0 hn9 (by decide) (by decide) (fun k e => by subst e; exact bx_p (HS Y) hf) (fun r13 er13 H locs hH hS => ?_)
  subst er13
  have hf := bx_v hf
  refine lv_aload_n hx hb dX7_lineChar_11 rfl (lv_at hl 0 rfl) ?_
  refine hs_get hx hb (T := TX7) hA inAX7 hown hK hH 0 0 (by decide) 11 rfl rfl 8 (by decide) (hA _ zt_300) rfl rfl dX7_lineChar_12 ?_
  refine lv_iload_n hx hb dX7_lineChar_15 rfl (lv_at hl 1 rfl) ?_
  obtain ⟨r15, hq14, hf⟩ := bd_o hf
  refine hs_ci (hs_runV C0 hH hS (n := 1) (As := [.int a1]) (rest := []) (c_J4_charAt_5068e M12 a1 hq14) ⟨⟨zt_1416, zt_1417, zt_1418, zt_10, zt_1419⟩, rfl, by decide, by decide, by decide +kernel⟩ ⟨rfl, rfl, Nat.le_of_ble_eq_true rfl, Nat.le_of_ble_eq_true rfl⟩ (hs_recvS hK hH) rfl rfl hl.1 (Nat.le_of_ble_eq_true rfl) ⟨Nat.le_of_ble_eq_true rfl, Nat.le_of_ble_eq_true rfl⟩ dX7_lineChar_16) hS (fun H locs hH hS => ?_)
  obtain ⟨hg16, hf⟩ := gd_o hf
  cases hf
  exact hx_cret C0 hH hS (by decide) (by decide) hg16 dX7_lineChar_19
def f_X7_run (M : Mem) : Option ((Int32 ⊕ Nat) × Mem) := bd2 (f_X4_parse M) fun r23 M22 => nm (mu M22 13 0 1 (0 : Int32)) fun M24 => (if r23 = 0 then nm (mu M24 0 0 9 (M24 13 0 5)) fun M39 => some (.inr 1, M39) else bd (f_X5_copyFrom M24 1 0) fun M26 => bd2 (f_X4_executeOn M26 1) fun r30 M29 => (if (M29 13 0 4) ≤ r30 then bd (f_X0_keep M29 0) fun M32 => bd (f_X5_copyFrom M32 0 1) fun M35 => some (.inl r30, M35) else nm (mu M29 0 0 10 r30) fun M37 => some (.inr 2, M37)))
set_option maxHeartbeats 4000000 in
set_option maxRecDepth 100000 in
theorem c_X7_run {Y : LY} {l : Launch} (hl9 : l.stackTraces = false) (M : Mem) {x : Int32 ⊕ Nat} {MZ : Mem} (hf : f_X7_run M = some (x, MZ)) : vx_Met l yX7_run (WS yX7_run cX7_run 3 (Option.some Jvm.ClassFile.FieldType.int)) { frames := 7, cells := 1, slots := 6, locals := 170 } (PcM Y M [.ref (YA Y 0 0)]) (Qxi Y x MZ) (Xx Y x MZ) 1 6 (AZ Y) := by
  refine met_mkx (lv := [(0, .ref (YA Y 0 0))]) [.ref (YA Y 0 0)] (by decide) rfl rfl (Nat.le_of_ble_eq_true rfl) (fun p e s m below meth c C0 hn9 hH ls hl => ?_)
  have hS : va_S (AZ Y) s.heap s.heap [] := va_S.rf
  obtain ⟨hx, hb, hr, hml, hown, hA, hlocks, hK, hZ⟩ := id C0
  unfold f_X7_run at hf
  refine lv_aload_n hx hb dX7_run_0 rfl (lv_at hl 0 rfl) ?_
  refine hs_get hx hb (T := TX7) hA inAX7 hown hK hH 0 0 (by decide) 11 rfl rfl 6 (by decide) (hA _ zt_298) rfl rfl dX7_run_1 ?_
  obtain ⟨r23, M22, hq21, hf⟩ := bd2_o hf
  refine hs_ci (hs_runV C0 hH hS (n := 0) (As := []) (rest := []) (c_X4_parse M hq21) ⟨⟨zt_1446, zt_1447, zt_1448, zt_8, zt_1449⟩, rfl, by decide, by decide, by decide +kernel⟩ ⟨rfl, rfl, Nat.le_of_ble_eq_true rfl, Nat.le_of_ble_eq_true rfl⟩ (hs_recv hK hH 13 0 (by decide) 8 rfl rfl) rfl rfl hl.1 (Nat.le_of_ble_eq_true rfl) ⟨Nat.le_of_ble_eq_true rfl, Nat.le_of_ble_eq_true rfl⟩ dX7_run_4) hS (fun H locs hH hS => ?_)
  refine lv_istore_n (lv' := [(1, .int r23), (0, .ref (YA Y 0 0))]) hx hb dX7_run_7 rfl hl (by decide) rfl (fun ls hl => ?_)
  refine lv_aload_n hx hb dX7_run_8 rfl (lv_at hl 1 rfl) ?_
  refine hs_get hx hb (T := TX7) hA inAX7 hown hK hH 0 0 (by decide) 11 rfl rfl 6 (by decide) (hA _ zt_298) rfl rfl dX7_run_9 ?_
  refine lv_iconst (v := (0 : Int32)) hx hb dX7_run_12 (by decide) ?_
  refine hs_put hx hb (T := TX4) hA inAX4 tyX4 tyX4_ok nmX4 hown hK hH hS 13 0 (by decide) 8 rfl rfl 1 (by decide) (hA _ zt_238) rfl rfl (by decide +kernel) (Nat.le_of_ble_eq_true rfl) rfl dX7_run_13 (fun H locs hH hS => ?_)
  obtain ⟨M24, eM24, hf⟩ := nm_o hf
  rw [← eM24] at hH
  refine lv_iload_n hx hb dX7_run_16 rfl (lv_at hl 0 rfl) ?_
  refine lv_if_ne (tgt := 42) hx hb dX7_run_17 (by decide) (fun hc40 => ?_) (fun hc40 => ?_)
  · have hf := if_f hf hc40
    refine lv_aload_n hx hb dX7_run_42 rfl (lv_at hl 1 rfl) ?_
    refine hs_get hx hb (T := TX7) hA inAX7 hown hK hH 0 0 (by decide) 11 rfl rfl 1 (by decide) (hA _ zt_293) rfl rfl dX7_run_43 ?_
    refine lv_aload_n hx hb dX7_run_46 rfl (lv_at hl 1 rfl) ?_
    refine hs_get hx hb (T := TX7) hA inAX7 hown hK hH 0 0 (by decide) 11 rfl rfl 0 (by decide) (hA _ zt_292) rfl rfl dX7_run_47 ?_
    obtain ⟨M26, hq25, hf⟩ := bd_o hf
    refine hs_cv (hs_runV C0 hH hS (n := 1) (As := [.ref (YA Y 1 0)]) (rest := []) (c_X5_copyFrom M24 1 0 (by decide) (by decide) hq25) ⟨⟨zt_686, zt_528, zt_529, zt_3, zt_530⟩, rfl, by decide, by decide, by decide +kernel⟩ ⟨rfl, rfl, Nat.le_of_ble_eq_true rfl, Nat.le_of_ble_eq_true rfl⟩ (hs_recv hK hH 1 1 (by decide) 9 rfl rfl) rfl rfl hl.1 (Nat.le_of_ble_eq_true rfl) ⟨Nat.le_of_ble_eq_true rfl, Nat.le_of_ble_eq_true rfl⟩ dX7_run_50) hS (fun H locs hH hS => ?_)
    refine lv_aload_n hx hb dX7_run_53 rfl (lv_at hl 1 rfl) ?_
    refine hs_get hx hb (T := TX7) hA inAX7 hown hK hH 0 0 (by decide) 11 rfl rfl 6 (by decide) (hA _ zt_298) rfl rfl dX7_run_54 ?_
    refine lv_aload_n hx hb dX7_run_57 rfl (lv_at hl 1 rfl) ?_
    refine hs_get hx hb (T := TX7) hA inAX7 hown hK hH 0 0 (by decide) 11 rfl rfl 1 (by decide) (hA _ zt_293) rfl rfl dX7_run_58 ?_
    obtain ⟨r30, M29, hq28, hf⟩ := bd2_o hf
    refine hs_ci (hs_runV C0 hH hS (n := 1) (As := [.ref (YA Y 1 1)]) (rest := []) (c_X4_executeOn M26 1 (by decide) hq28) ⟨⟨zt_1498, zt_1499, zt_1500, zt_8, zt_1501⟩, rfl, by decide, by decide, by decide +kernel⟩ ⟨rfl, rfl, Nat.le_of_ble_eq_true rfl, Nat.le_of_ble_eq_true rfl⟩ (hs_recv hK hH 13 0 (by decide) 8 rfl rfl) rfl rfl hl.1 (Nat.le_of_ble_eq_true rfl) ⟨Nat.le_of_ble_eq_true rfl, Nat.le_of_ble_eq_true rfl⟩ dX7_run_61) hS (fun H locs hH hS => ?_)
    refine lv_istore_n (lv' := [(2, .int r30), (1, .int r23), (0, .ref (YA Y 0 0))]) hx hb dX7_run_64 rfl hl (by decide) rfl (fun ls hl => ?_)
    refine lv_iload_n hx hb dX7_run_65 rfl (lv_at hl 0 rfl) ?_
    refine lv_aload_n hx hb dX7_run_66 rfl (lv_at hl 2 rfl) ?_
    refine hs_get hx hb (T := TX7) hA inAX7 hown hK hH 0 0 (by decide) 11 rfl rfl 6 (by decide) (hA _ zt_298) rfl rfl dX7_run_67 ?_
    refine hs_get hx hb (T := TX4) hA inAX4 hown hK hH 13 0 (by decide) 8 rfl rfl 4 (by decide) (hA _ zt_242) rfl rfl dX7_run_70 ?_
    refine lv_icmp_ge (tgt := 92) hx hb dX7_run_73 (by decide) (fun hc38 => ?_) (fun hc38 => ?_)
    · have hf := if_t hf hc38
      refine lv_aload_n hx hb dX7_run_92 rfl (lv_at hl 2 rfl) ?_
      refine hs_get hx hb (T := TX7) hA inAX7 hown hK hH 0 0 (by decide) 11 rfl rfl 5 (by decide) (hA _ zt_297) rfl rfl dX7_run_93 ?_
      refine lv_aload_n hx hb dX7_run_96 rfl (lv_at hl 2 rfl) ?_
      refine hs_get hx hb (T := TX7) hA inAX7 hown hK hH 0 0 (by decide) 11 rfl rfl 0 (by decide) (hA _ zt_292) rfl rfl dX7_run_97 ?_
      obtain ⟨M32, hq31, hf⟩ := bd_o hf
      refine hs_cv (hs_runV C0 hH hS (n := 1) (As := [.ref (YA Y 1 0)]) (rest := []) (c_X0_keep M29 0 (by decide) hq31) ⟨⟨zt_523, zt_524, zt_525, zt_7, zt_526⟩, rfl, by decide, by decide, by decide +kernel⟩ ⟨rfl, rfl, Nat.le_of_ble_eq_true rfl, Nat.le_of_ble_eq_true rfl⟩ (hs_recv hK hH 11 0 (by decide) 4 rfl rfl) rfl rfl hl.1 (Nat.le_of_ble_eq_true rfl) ⟨Nat.le_of_ble_eq_true rfl, Nat.le_of_ble_eq_true rfl⟩ dX7_run_100) hS (fun H locs hH hS => ?_)
      refine lv_aload_n hx hb dX7_run_103 rfl (lv_at hl 2 rfl) ?_
      refine hs_get hx hb (T := TX7) hA inAX7 hown hK hH 0 0 (by decide) 11 rfl rfl 0 (by decide) (hA _ zt_292) rfl rfl dX7_run_104 ?_
      refine lv_aload_n hx hb dX7_run_107 rfl (lv_at hl 2 rfl) ?_
      refine hs_get hx hb (T := TX7) hA inAX7 hown hK hH 0 0 (by decide) 11 rfl rfl 1 (by decide) (hA _ zt_293) rfl rfl dX7_run_108 ?_
      obtain ⟨M35, hq34, hf⟩ := bd_o hf
      refine hs_cv (hs_runV C0 hH hS (n := 1) (As := [.ref (YA Y 1 1)]) (rest := []) (c_X5_copyFrom M32 0 1 (by decide) (by decide) hq34) ⟨⟨zt_686, zt_528, zt_529, zt_3, zt_530⟩, rfl, by decide, by decide, by decide +kernel⟩ ⟨rfl, rfl, Nat.le_of_ble_eq_true rfl, Nat.le_of_ble_eq_true rfl⟩ (hs_recv hK hH 1 0 (by decide) 9 rfl rfl) rfl rfl hl.1 (Nat.le_of_ble_eq_true rfl) ⟨Nat.le_of_ble_eq_true rfl, Nat.le_of_ble_eq_true rfl⟩ dX7_run_111) hS (fun H locs hH hS => ?_)
      refine lv_iload_n hx hb dX7_run_114 rfl (lv_at hl 0 rfl) ?_
      cases hf
      exact hx_iret C0 hH hS (by decide) (by decide) dX7_run_115
    · have hf := if_f hf hc38
      refine lv_aload_n hx hb dX7_run_76 rfl (lv_at hl 2 rfl) ?_
      refine lv_iload_n hx hb dX7_run_77 rfl (lv_at hl 0 rfl) ?_
      refine hs_put hx hb (T := TX7) hA inAX7 tyX7 tyX7_ok nmX7 hown hK hH hS 0 0 (by decide) 11 rfl rfl 10 (by decide) (hA _ zt_302) rfl rfl (by decide +kernel) (Nat.le_of_ble_eq_true rfl) rfl dX7_run_78 (fun H locs hH hS => ?_)
      obtain ⟨M37, eM37, hf⟩ := nm_o hf
      rw [← eM37] at hH
      cases hf
      exact hx_thr2w C0 hl9 hn9 hH hS hl.1 (is := 322) (text := "a command failed") (by decide +kernel) dX7_run_81 dX7_run_84 dX7_run_85 dX7_run_88 dX7_run_91 ⟨by decide, Nat.le_of_ble_eq_true rfl, by decide, by decide⟩ (by decide) (by decide)
  · have hf := if_t hf hc40
    refine lv_aload_n hx hb dX7_run_20 rfl (lv_at hl 1 rfl) ?_
    refine lv_aload_n hx hb dX7_run_21 rfl (lv_at hl 1 rfl) ?_
    refine hs_get hx hb (T := TX7) hA inAX7 hown hK hH 0 0 (by decide) 11 rfl rfl 6 (by decide) (hA _ zt_298) rfl rfl dX7_run_22 ?_
    refine hs_get hx hb (T := TX4) hA inAX4 hown hK hH 13 0 (by decide) 8 rfl rfl 5 (by decide) (hA _ zt_244) rfl rfl dX7_run_25 ?_
    refine hs_put hx hb (T := TX7) hA inAX7 tyX7 tyX7_ok nmX7 hown hK hH hS 0 0 (by decide) 11 rfl rfl 9 (by decide) (hA _ zt_301) rfl rfl (by decide +kernel) (Nat.le_of_ble_eq_true rfl) rfl dX7_run_28 (fun H locs hH hS => ?_)
    obtain ⟨M39, eM39, hf⟩ := nm_o hf
    rw [← eM39] at hH
    cases hf
    exact hx_thr1w C0 hl9 hn9 hH hS hl.1 (is := 315) (text := "the program is malformed") (by decide +kernel) dX7_run_31 dX7_run_34 dX7_run_35 dX7_run_38 dX7_run_41 ⟨by decide, Nat.le_of_ble_eq_true rfl, by decide, by decide⟩ (by decide) (by decide)
