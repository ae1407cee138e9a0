def f_X8_stampIt (M : Mem) (a1 : Int32) (a2 : Int32) : Option (Int32 × Mem) := bd (f_X8_find M a1) fun r28 => (if r28 = (-1 : Int32) then bd2 (f_X8_throwing M (1 : Int32)) fun r51 M50 => some (r51, M50) else bd (f_X8_in M a2.toInt64 (1 : Int64) (20 : Int64)) fun r30 => (if r30 = 0 then bd2 (f_X8_throwing M (2 : Int32)) fun r47 M46 => some (r47, M46) else bd (f_X8_parcelAt M r28) fun r32 => if vin (r32 + (3 : Int32)) 192 then ((if ((M 21 0 (ix (r32 + (3 : Int32)))) + a2) ≤ (20 : Int32) then bd (f_X8_parcelAt M r28) fun r35 => if vin (r35 + (3 : Int32)) 192 then (nm (mu M 21 0 (ix (r35 + (3 : Int32))) ((M 21 0 (ix (r35 + (3 : Int32)))) + a2)) fun M37 => bd (f_X8_parcelAt M37 r28) fun r39 => if vin (r39 + (3 : Int32)) 192 then (some ((M37 21 0 (ix (r39 + (3 : Int32)))), M37)) else none) else none else bd2 (f_X8_throwing M (3 : Int32)) fun r43 M42 => some (r43, M42))) else none))
set_option maxHeartbeats 4000000 in
set_option maxRecDepth 100000 in
theorem c_X8_stampIt {Y : LY} {l : Launch} (M : Mem) (a1 : Int32) (a2 : Int32) {r : Int32} {MZ : Mem} (hf : f_X8_stampIt M a1 a2 = some (r, MZ)) : Met l yX8_stampIt (WS yX8_stampIt cX8_stampIt 4 (Option.some Jvm.ClassFile.FieldType.int)) { frames := 2, cells := 0, slots := 0, locals := 42 } (PcM Y M [.ref (YA Y 20 0), .int a1, .int a2]) (Qi Y r MZ) 0 0 (AZ Y) := by
  refine met_mk (lv := [(0, .ref (YA Y 20 0)), (1, .int a1), (2, .int a2)]) [.ref (YA Y 20 0), .int a1, .int a2] (by decide) rfl rfl (Nat.le_of_ble_eq_true rfl) (fun p e s m below meth c C0 hH ls hl => ?_)
  have hS : va_S (AZ Y) s.heap s.heap [] := va_S.rf
  obtain ⟨hx, hb, hr, hml, hown, hA, hlocks, hK, hZ⟩ := id C0
  unfold f_X8_stampIt at hf
  refine lv_aload_n hx hb dX8_stampIt_0 rfl (lv_at hl 0 rfl) ?_
  refine lv_iload_n hx hb dX8_stampIt_1 rfl (lv_at hl 1 rfl) ?_
  obtain ⟨r28, hq27, hf⟩ := bd_o hf
  refine hs_ci (hs_runV C0 hH hS (n := 1) (As := [.int a1]) (rest := []) (c_X8_find M a1 hq27) ⟨⟨zt_1705, zt_1707, zs_43, zt_13, zt_1708⟩, rfl, by decide, by decide, by decide +kernel⟩ ⟨rfl, rfl, Nat.le_of_ble_eq_true rfl, Nat.le_of_ble_eq_true rfl⟩ (hs_recv hK hH 20 0 (by decide) 12 rfl rfl) rfl rfl hl.1 (Nat.le_of_ble_eq_true rfl) ⟨Nat.le_of_ble_eq_true rfl, Nat.le_of_ble_eq_true rfl⟩ dX8_stampIt_2) hS (fun H locs hH hS => ?_)
  refine lv_istore_n (lv' := [(3, .int r28), (0, .ref (YA Y 20 0)), (1, .int a1), (2, .int a2)]) hx hb dX8_stampIt_5 rfl hl (by decide) rfl (fun ls hl => ?_)
  refine lv_iload_n hx hb dX8_stampIt_6 rfl (lv_at hl 0 rfl) ?_
  refine lv_iconst (v := (-1 : Int32)) hx hb dX8_stampIt_7 (by decide) ?_
  refine lv_icmp_ne (tgt := 17) hx hb dX8_stampIt_8 (by decide) (fun hc52 => ?_) (fun hc52 => ?_)
  · have hf := if_f hf hc52
    refine lv_iload_n hx hb dX8_stampIt_17 rfl (lv_at hl 3 rfl) ?_
    refine lv_i2l (v := a2.toInt64) hx hb dX8_stampIt_18 rfl ?_
    refine lv_lconst (v := (1 : Int64)) hx hb dX8_stampIt_19 (by decide) ?_
    refine lv_ldc2 (v := (20 : Int64)) hx hb hown (hA _ zt_1693) dX8_stampIt_20 ?_
    obtain ⟨r30, hq29, hf⟩ := bd_o hf
    refine hs_ci (hs_runS C0 hH hS (n := 3) (As := [.long a2.toInt64, .long (1 : Int64), .long (20 : Int64)]) (rest := []) (c_X8_in M a2.toInt64 (1 : Int64) (20 : Int64) hq29) ⟨⟨zt_1657, zt_1658, zt_13, zt_1659⟩, by decide, by decide, by decide +kernel⟩ ⟨rfl, rfl, Nat.le_of_ble_eq_true rfl, Nat.le_of_ble_eq_true rfl⟩ rfl rfl hl.1 (Nat.le_of_ble_eq_true rfl) ⟨Nat.le_of_ble_eq_true rfl, Nat.le_of_ble_eq_true rfl⟩ dX8_stampIt_23) hS (fun H locs hH hS => ?_)
    refine lv_if_ne (tgt := 35) hx hb dX8_stampIt_26 (by decide) (fun hc48 => ?_) (fun hc48 => ?_)
    · have hf := if_f hf hc48
      refine lv_aload_n hx hb dX8_stampIt_35 rfl (lv_at hl 1 rfl) ?_
      refine hs_get hx hb (T := TX8) hA inAX8 hown hK hH 20 0 (by decide) 12 rfl rfl 0 (by decide) (hA _ zt_1551) rfl rfl dX8_stampIt_36 ?_
      refine lv_iload_n hx hb dX8_stampIt_39 rfl (lv_at hl 0 rfl) ?_
      obtain ⟨r32, hq31, hf⟩ := bd_o hf
      refine hs_ci (hs_runS C0 hH hS (n := 1) (As := [.int r28]) (rest := [.ref (YA Y 21 0)]) (c_X8_parcelAt M r28 hq31) ⟨⟨zt_1694, zt_1695, zt_13, zt_1696⟩, by decide, by decide, by decide +kernel⟩ ⟨rfl, rfl, Nat.le_of_ble_eq_true rfl, Nat.le_of_ble_eq_true rfl⟩ rfl rfl hl.1 (Nat.le_of_ble_eq_true rfl) ⟨Nat.le_of_ble_eq_true rfl, Nat.le_of_ble_eq_true rfl⟩ dX8_stampIt_40) hS (fun H locs hH hS => ?_)
      refine lv_iconst (v := (3 : Int32)) hx hb dX8_stampIt_43 (by decide) ?_
      refine lv_iadd hx hb dX8_stampIt_44 ?_
      obtain ⟨hg33, hf⟩ := gd_o hf
      have bhg33 := vin_lt hg33
      refine hs_iald hx hb hK hH 21 0 (by decide) rfl hg33 rfl dX8_stampIt_45 ?_
      refine lv_iload_n hx hb dX8_stampIt_46 rfl (lv_at hl 3 rfl) ?_
      refine lv_iadd hx hb dX8_stampIt_47 ?_
      refine lv_bipush (v := (20 : Int32)) hx hb dX8_stampIt_48 (by decide) ?_
      refine lv_icmp_le (tgt := 59) hx hb dX8_stampIt_50 (by decide) (fun hc44 => ?_) (fun hc44 => ?_)
      · have hf := if_t hf hc44
        refine lv_aload_n hx hb dX8_stampIt_59 rfl (lv_at hl 1 rfl) ?_
        refine hs_get hx hb (T := TX8) hA inAX8 hown hK hH 20 0 (by decide) 12 rfl rfl 0 (by decide) (hA _ zt_1551) rfl rfl dX8_stampIt_60 ?_
        refine lv_iload_n hx hb dX8_stampIt_63 rfl (lv_at hl 0 rfl) ?_
        obtain ⟨r35, hq34, hf⟩ := bd_o hf
        refine hs_ci (hs_runS C0 hH hS (n := 1) (As := [.int r28]) (rest := [.ref (YA Y 21 0)]) (c_X8_parcelAt M r28 hq34) ⟨⟨zt_1694, zt_1695, zt_13, zt_1696⟩, by decide, by decide, by decide +kernel⟩ ⟨rfl, rfl, Nat.le_of_ble_eq_true rfl, Nat.le_of_ble_eq_true rfl⟩ rfl rfl hl.1 (Nat.le_of_ble_eq_true rfl) ⟨Nat.le_of_ble_eq_true rfl, Nat.le_of_ble_eq_true rfl⟩ dX8_stampIt_64) hS (fun H locs hH hS => ?_)
        refine lv_iconst (v := (3 : Int32)) hx hb dX8_stampIt_67 (by decide) ?_
        refine lv_iadd hx hb dX8_stampIt_68 ?_
        refine lv_dup2_11 hx hb dX8_stampIt_69 rfl rfl ?_
        obtain ⟨hg36, hf⟩ := gd_o hf
        have bhg36 := vin_lt hg36
        refine hs_iald hx hb hK hH 21 0 (by decide) rfl hg36 rfl dX8_stampIt_70 ?_
        refine lv_iload_n hx hb dX8_stampIt_71 rfl (lv_at hl 3 rfl) ?_
        refine lv_iadd hx hb dX8_stampIt_72 ?_
        refine hs_iast hx hb hK hH hS 21 0 (by decide) (fun _ => rfl) hg36 rfl dX8_stampIt_73 (fun H locs hH hS => ?_)
        obtain ⟨M37, eM37, hf⟩ := nm_o hf
        rw [← eM37] at hH
        refine lv_aload_n hx hb dX8_stampIt_74 rfl (lv_at hl 1 rfl) ?_
        refine hs_get hx hb (T := TX8) hA inAX8 hown hK hH 20 0 (by decide) 12 rfl rfl 0 (by decide) (hA _ zt_1551) rfl rfl dX8_stampIt_75 ?_
        refine lv_iload_n hx hb dX8_stampIt_78 rfl (lv_at hl 0 rfl) ?_
        obtain ⟨r39, hq38, hf⟩ := bd_o hf
        refine hs_ci (hs_runS C0 hH hS (n := 1) (As := [.int r28]) (rest := [.ref (YA Y 21 0)]) (c_X8_parcelAt M37 r28 hq38) ⟨⟨zt_1694, zt_1695, zt_13, zt_1696⟩, by decide, by decide, by decide +kernel⟩ ⟨rfl, rfl, Nat.le_of_ble_eq_true rfl, Nat.le_of_ble_eq_true rfl⟩ rfl rfl hl.1 (Nat.le_of_ble_eq_true rfl) ⟨Nat.le_of_ble_eq_true rfl, Nat.le_of_ble_eq_true rfl⟩ dX8_stampIt_79) hS (fun H locs hH hS => ?_)
        refine lv_iconst (v := (3 : Int32)) hx hb dX8_stampIt_82 (by decide) ?_
        refine lv_iadd hx hb dX8_stampIt_83 ?_
        obtain ⟨hg40, hf⟩ := gd_o hf
        have bhg40 := vin_lt hg40
        refine hs_iald hx hb hK hH 21 0 (by decide) rfl hg40 rfl dX8_stampIt_84 ?_
        cases hf
        exact hs_iret C0 hH hS (by decide) (by decide) dX8_stampIt_85
      · have hf := if_f hf hc44
        refine lv_aload_n hx hb dX8_stampIt_53 rfl (lv_at hl 1 rfl) ?_
        refine lv_iconst (v := (3 : Int32)) hx hb dX8_stampIt_54 (by decide) ?_
        obtain ⟨r43, M42, hq41, hf⟩ := bd2_o hf
        refine hs_ci (hs_runV C0 hH hS (n := 1) (As := [.int (3 : Int32)]) (rest := []) (c_X8_throwing M (3 : Int32) hq41) ⟨⟨zt_1637, zt_1639, zs_34, zt_13, zt_1640⟩, rfl, by decide, by decide, by decide +kernel⟩ ⟨rfl, rfl, Nat.le_of_ble_eq_true rfl, Nat.le_of_ble_eq_true rfl⟩ (hs_recv hK hH 20 0 (by decide) 12 rfl rfl) rfl rfl hl.1 (Nat.le_of_ble_eq_true rfl) ⟨Nat.le_of_ble_eq_true rfl, Nat.le_of_ble_eq_true rfl⟩ dX8_stampIt_55) hS (fun H locs hH hS => ?_)
        cases hf
        exact hs_iret C0 hH hS (by decide) (by decide) dX8_stampIt_58
    · have hf := if_t hf hc48
      refine lv_aload_n hx hb dX8_stampIt_29 rfl (lv_at hl 1 rfl) ?_
      refine lv_iconst (v := (2 : Int32)) hx hb dX8_stampIt_30 (by decide) ?_
      obtain ⟨r47, M46, hq45, hf⟩ := bd2_o hf
      refine hs_ci (hs_runV C0 hH hS (n := 1) (As := [.int (2 : Int32)]) (rest := []) (c_X8_throwing M (2 : Int32) hq45) ⟨⟨zt_1637, zt_1639, zs_34, zt_13, zt_1640⟩, rfl, by decide, by decide, by decide +kernel⟩ ⟨rfl, rfl, Nat.le_of_ble_eq_true rfl, Nat.le_of_ble_eq_true rfl⟩ (hs_recv hK hH 20 0 (by decide) 12 rfl rfl) rfl rfl hl.1 (Nat.le_of_ble_eq_true rfl) ⟨Nat.le_of_ble_eq_true rfl, Nat.le_of_ble_eq_true rfl⟩ dX8_stampIt_31) hS (fun H locs hH hS => ?_)
      cases hf
      exact hs_iret C0 hH hS (by decide) (by decide) dX8_stampIt_34
  · have hf := if_t hf hc52
    refine lv_aload_n hx hb dX8_stampIt_11 rfl (lv_at hl 1 rfl) ?_
    refine lv_iconst (v := (1 : Int32)) hx hb dX8_stampIt_12 (by decide) ?_
    obtain ⟨r51, M50, hq49, hf⟩ := bd2_o hf
    refine hs_ci (hs_runV C0 hH hS (n := 1) (As := [.int (1 : Int32)]) (rest := []) (c_X8_throwing M (1 : Int32) hq49) ⟨⟨zt_1637, zt_1639, zs_34, zt_13, zt_1640⟩, rfl, by decide, by decide, by decide +kernel⟩ ⟨rfl, rfl, Nat.le_of_ble_eq_true rfl, Nat.le_of_ble_eq_true rfl⟩ (hs_recv hK hH 20 0 (by decide) 12 rfl rfl) rfl rfl hl.1 (Nat.le_of_ble_eq_true rfl) ⟨Nat.le_of_ble_eq_true rfl, Nat.le_of_ble_eq_true rfl⟩ dX8_stampIt_13) hS (fun H locs hH hS => ?_)
    cases hf
    exact hs_iret C0 hH hS (by decide) (by decide) dX8_stampIt_16
def f_X8_addStamps (M : Mem) (a1 : Int32) (a2 : Int32) : Option (Int32 × Mem) := bd (f_X8_starts M) fun M11 => bd2 (f_X8_stampIt M11 a1 a2) fun r15 M14 => bd2 (f_X8_changed M14 r15) fun r18 M17 => some (r18, M17)
set_option maxHeartbeats 4000000 in
set_option maxRecDepth 100000 in
theorem c_X8_addStamps {Y : LY} {l : Launch} (M : Mem) (a1 : Int32) (a2 : Int32) {r : Int32} {MZ : Mem} (hf : f_X8_addStamps M a1 a2 = some (r, MZ)) : Met l yX8_addStamps (WS yX8_addStamps cX8_addStamps 3 (Option.some Jvm.ClassFile.FieldType.int)) { frames := 3, cells := 0, slots := 0, locals := 65 } (PcM Y M [.ref (YA Y 20 0), .int a1, .int a2]) (Qi Y r MZ) 0 0 (AZ Y) := by
  refine met_mk (lv := [(0, .ref (YA Y 20 0)), (1, .int a1), (2, .int a2)]) [.ref (YA Y 20 0), .int a1, .int a2] (by decide) rfl rfl (Nat.le_of_ble_eq_true rfl) (fun p e s m below meth c C0 hH ls hl => ?_)
  have hS : va_S (AZ Y) s.heap s.heap [] := va_S.rf
  obtain ⟨hx, hb, hr, hml, hown, hA, hlocks, hK, hZ⟩ := id C0
  unfold f_X8_addStamps at hf
  refine lv_aload_n hx hb dX8_addStamps_0 rfl (lv_at hl 0 rfl) ?_
  obtain ⟨M11, hq10, hf⟩ := bd_o hf
  refine hs_cv (hs_runV C0 hH hS (n := 0) (As := []) (rest := []) (c_X8_starts M hq10) ⟨⟨zt_1629, zt_1631, zs_32, zt_13, zt_1632⟩, rfl, by decide, by decide, by decide +kernel⟩ ⟨rfl, rfl, Nat.le_of_ble_eq_true rfl, Nat.le_of_ble_eq_true rfl⟩ (hs_recv hK hH 20 0 (by decide) 12 rfl rfl) rfl rfl hl.1 (Nat.le_of_ble_eq_true rfl) ⟨Nat.le_of_ble_eq_true rfl, Nat.le_of_ble_eq_true rfl⟩ dX8_addStamps_1) hS (fun H locs hH hS => ?_)
  refine lv_aload_n hx hb dX8_addStamps_4 rfl (lv_at hl 0 rfl) ?_
  refine lv_aload_n hx hb dX8_addStamps_5 rfl (lv_at hl 0 rfl) ?_
  refine lv_iload_n hx hb dX8_addStamps_6 rfl (lv_at hl 1 rfl) ?_
  refine lv_iload_n hx hb dX8_addStamps_7 rfl (lv_at hl 2 rfl) ?_
  obtain ⟨r15, M14, hq13, hf⟩ := bd2_o hf
  refine hs_ci (hs_runV C0 hH hS (n := 2) (As := [.int a1, .int a2]) (rest := [.ref (YA Y 20 0)]) (c_X8_stampIt M11 a1 a2 hq13) ⟨⟨zt_1729, zt_1731, zs_48, zt_13, zt_1732⟩, rfl, by decide, by decide, by decide +kernel⟩ ⟨rfl, rfl, Nat.le_of_ble_eq_true rfl, Nat.le_of_ble_eq_true rfl⟩ (hs_recv hK hH 20 0 (by decide) 12 rfl rfl) rfl rfl hl.1 (Nat.le_of_ble_eq_true rfl) ⟨Nat.le_of_ble_eq_true rfl, Nat.le_of_ble_eq_true rfl⟩ dX8_addStamps_8) hS (fun H locs hH hS => ?_)
  obtain ⟨r18, M17, hq16, hf⟩ := bd2_o hf
  refine hs_ci (hs_runV C0 hH hS (n := 1) (As := [.int r15]) (rest := []) (c_X8_changed M14 r15 hq16) ⟨⟨zt_1641, zt_1643, zs_35, zt_13, zt_1644⟩, rfl, by decide, by decide, by decide +kernel⟩ ⟨rfl, rfl, Nat.le_of_ble_eq_true rfl, Nat.le_of_ble_eq_true rfl⟩ (hs_recv hK hH 20 0 (by decide) 12 rfl rfl) rfl rfl hl.1 (Nat.le_of_ble_eq_true rfl) ⟨Nat.le_of_ble_eq_true rfl, Nat.le_of_ble_eq_true rfl⟩ dX8_addStamps_11) hS (fun H locs hH hS => ?_)
  cases hf
  exact hs_iret C0 hH hS (by decide) (by decide) dX8_addStamps_14
def f_X8_takeIt (M : Mem) (a1 : Int32) : Option (Int32 × Mem) := bd (f_X8_find M a1) fun r22 => (if r22 = (-1 : Int32) then bd2 (f_X8_throwing M (1 : Int32)) fun r39 M38 => some (r39, M38) else bd (f_X8_parcelAt M r22) fun r24 => if vin (r24 + (4 : Int32)) 192 then ((if (M 21 0 (ix (r24 + (4 : Int32)))) = (-1 : Int32) then bd2 (f_X8_throwing M (2 : Int32)) fun r35 M34 => some (r35, M34) else bd (f_X8_parcelAt M r22) fun r27 => if vin (r27 + (3 : Int32)) 192 then (bd (f_X8_leaves M r22) fun M30 => nm (mu M30 21 0 6 ((M30 21 0 6) + (1 : Int32))) fun M32 => some ((M 21 0 (ix (r27 + (3 : Int32)))), M32)) else none)) else none)
set_option maxHeartbeats 4000000 in
set_option maxRecDepth 100000 in
theorem c_X8_takeIt {Y : LY} {l : Launch} (M : Mem) (a1 : Int32) {r : Int32} {MZ : Mem} (hf : f_X8_takeIt M a1 = some (r, MZ)) : Met l yX8_takeIt (WS yX8_takeIt cX8_takeIt 4 (Option.some Jvm.ClassFile.FieldType.int)) { frames := 2, cells := 0, slots := 0, locals := 42 } (PcM Y M [.ref (YA Y 20 0), .int a1]) (Qi Y r MZ) 0 0 (AZ Y) := by
  refine met_mk (lv := [(0, .ref (YA Y 20 0)), (1, .int a1)]) [.ref (YA Y 20 0), .int a1] (by decide) rfl rfl (Nat.le_of_ble_eq_true rfl) (fun p e s m below meth c C0 hH ls hl => ?_)
  have hS : va_S (AZ Y) s.heap s.heap [] := va_S.rf
  obtain ⟨hx, hb, hr, hml, hown, hA, hlocks, hK, hZ⟩ := id C0
  unfold f_X8_takeIt at hf
  refine lv_aload_n hx hb dX8_takeIt_0 rfl (lv_at hl 0 rfl) ?_
  refine lv_iload_n hx hb dX8_takeIt_1 rfl (lv_at hl 1 rfl) ?_
  obtain ⟨r22, hq21, hf⟩ := bd_o hf
  refine hs_ci (hs_runV C0 hH hS (n := 1) (As := [.int a1]) (rest := []) (c_X8_find M a1 hq21) ⟨⟨zt_1705, zt_1707, zs_43, zt_13, zt_1708⟩, rfl, by decide, by decide, by decide +kernel⟩ ⟨rfl, rfl, Nat.le_of_ble_eq_true rfl, Nat.le_of_ble_eq_true rfl⟩ (hs_recv hK hH 20 0 (by decide) 12 rfl rfl) rfl rfl hl.1 (Nat.le_of_ble_eq_true rfl) ⟨Nat.le_of_ble_eq_true rfl, Nat.le_of_ble_eq_true rfl⟩ dX8_takeIt_2) hS (fun H locs hH hS => ?_)
  refine lv_istore_n (lv' := [(2, .int r22), (0, .ref (YA Y 20 0)), (1, .int a1)]) hx hb dX8_takeIt_5 rfl hl (by decide) rfl (fun ls hl => ?_)
  refine lv_iload_n hx hb dX8_takeIt_6 rfl (lv_at hl 0 rfl) ?_
  refine lv_iconst (v := (-1 : Int32)) hx hb dX8_takeIt_7 (by decide) ?_
  refine lv_icmp_ne (tgt := 17) hx hb dX8_takeIt_8 (by decide) (fun hc40 => ?_) (fun hc40 => ?_)
  · have hf := if_f hf hc40
    refine lv_aload_n hx hb dX8_takeIt_17 rfl (lv_at hl 1 rfl) ?_
    refine hs_get hx hb (T := TX8) hA inAX8 hown hK hH 20 0 (by decide) 12 rfl rfl 0 (by decide) (hA _ zt_1551) rfl rfl dX8_takeIt_18 ?_
    refine lv_iload_n hx hb dX8_takeIt_21 rfl (lv_at hl 0 rfl) ?_
    obtain ⟨r24, hq23, hf⟩ := bd_o hf
    refine hs_ci (hs_runS C0 hH hS (n := 1) (As := [.int r22]) (rest := [.ref (YA Y 21 0)]) (c_X8_parcelAt M r22 hq23) ⟨⟨zt_1694, zt_1695, zt_13, zt_1696⟩, by decide, by decide, by decide +kernel⟩ ⟨rfl, rfl, Nat.le_of_ble_eq_true rfl, Nat.le_of_ble_eq_true rfl⟩ rfl rfl hl.1 (Nat.le_of_ble_eq_true rfl) ⟨Nat.le_of_ble_eq_true rfl, Nat.le_of_ble_eq_true rfl⟩ dX8_takeIt_22) hS (fun H locs hH hS => ?_)
    refine lv_iconst (v := (4 : Int32)) hx hb dX8_takeIt_25 (by decide) ?_
    refine lv_iadd hx hb dX8_takeIt_26 ?_
    obtain ⟨hg25, hf⟩ := gd_o hf
    have bhg25 := vin_lt hg25
    refine hs_iald hx hb hK hH 21 0 (by decide) rfl hg25 rfl dX8_takeIt_27 ?_
    refine lv_iconst (v := (-1 : Int32)) hx hb dX8_takeIt_28 (by decide) ?_
    refine lv_icmp_ne (tgt := 38) hx hb dX8_takeIt_29 (by decide) (fun hc36 => ?_) (fun hc36 => ?_)
    · have hf := if_f hf hc36
      refine lv_aload_n hx hb dX8_takeIt_38 rfl (lv_at hl 1 rfl) ?_
      refine hs_get hx hb (T := TX8) hA inAX8 hown hK hH 20 0 (by decide) 12 rfl rfl 0 (by decide) (hA _ zt_1551) rfl rfl dX8_takeIt_39 ?_
      refine lv_iload_n hx hb dX8_takeIt_42 rfl (lv_at hl 0 rfl) ?_
      obtain ⟨r27, hq26, hf⟩ := bd_o hf
      refine hs_ci (hs_runS C0 hH hS (n := 1) (As := [.int r22]) (rest := [.ref (YA Y 21 0)]) (c_X8_parcelAt M r22 hq26) ⟨⟨zt_1694, zt_1695, zt_13, zt_1696⟩, by decide, by decide, by decide +kernel⟩ ⟨rfl, rfl, Nat.le_of_ble_eq_true rfl, Nat.le_of_ble_eq_true rfl⟩ rfl rfl hl.1 (Nat.le_of_ble_eq_true rfl) ⟨Nat.le_of_ble_eq_true rfl, Nat.le_of_ble_eq_true rfl⟩ dX8_takeIt_43) hS (fun H locs hH hS => ?_)
      refine lv_iconst (v := (3 : Int32)) hx hb dX8_takeIt_46 (by decide) ?_
      refine lv_iadd hx hb dX8_takeIt_47 ?_
      obtain ⟨hg28, hf⟩ := gd_o hf
      have bhg28 := vin_lt hg28
      refine hs_iald hx hb hK hH 21 0 (by decide) rfl hg28 rfl dX8_takeIt_48 ?_
      refine lv_istore_n (lv' := [(3, .int (M 21 0 (ix (r27 + (3 : Int32))))), (2, .int r22), (0, .ref (YA Y 20 0)), (1, .int a1)]) hx hb dX8_takeIt_49 rfl hl (by decide) rfl (fun ls hl => ?_)
      refine lv_aload_n hx hb dX8_takeIt_50 rfl (lv_at hl 2 rfl) ?_
      refine lv_iload_n hx hb dX8_takeIt_51 rfl (lv_at hl 1 rfl) ?_
      obtain ⟨M30, hq29, hf⟩ := bd_o hf
      refine hs_cv (hs_runV C0 hH hS (n := 1) (As := [.int r22]) (rest := []) (c_X8_leaves M r22 hq29) ⟨⟨zt_1741, zt_1743, zs_50, zt_13, zt_1744⟩, rfl, by decide, by decide, by decide +kernel⟩ ⟨rfl, rfl, Nat.le_of_ble_eq_true rfl, Nat.le_of_ble_eq_true rfl⟩ (hs_recv hK hH 20 0 (by decide) 12 rfl rfl) rfl rfl hl.1 (Nat.le_of_ble_eq_true rfl) ⟨Nat.le_of_ble_eq_true rfl, Nat.le_of_ble_eq_true rfl⟩ dX8_takeIt_52) hS (fun H locs hH hS => ?_)
      refine lv_aload_n hx hb dX8_takeIt_55 rfl (lv_at hl 2 rfl) ?_
      refine hs_get hx hb (T := TX8) hA inAX8 hown hK hH 20 0 (by decide) 12 rfl rfl 0 (by decide) (hA _ zt_1551) rfl rfl dX8_takeIt_56 ?_
      refine lv_bipush (v := (6 : Int32)) hx hb dX8_takeIt_59 (by decide) ?_
      refine lv_dup2_11 hx hb dX8_takeIt_61 rfl rfl ?_
      refine hs_iald hx hb hK hH 21 0 (by decide) rfl (show vin (6 : Int32) 192 from by decide) (show ix (6 : Int32) = 6 from by decide) dX8_takeIt_62 ?_
      refine lv_iconst (v := (1 : Int32)) hx hb dX8_takeIt_63 (by decide) ?_
      refine lv_iadd hx hb dX8_takeIt_64 ?_
      refine hs_iast hx hb hK hH hS 21 0 (by decide) (fun _ => rfl) (show vin (6 : Int32) 192 from by decide) (show ix (6 : Int32) = 6 from by decide) dX8_takeIt_65 (fun H locs hH hS => ?_)
      obtain ⟨M32, eM32, hf⟩ := nm_o hf
      rw [← eM32] at hH
      refine lv_iload_n hx hb dX8_takeIt_66 rfl (lv_at hl 0 rfl) ?_
      cases hf
      exact hs_iret C0 hH hS (by decide) (by decide) dX8_takeIt_67
    · have hf := if_t hf hc36
      refine lv_aload_n hx hb dX8_takeIt_32 rfl (lv_at hl 1 rfl) ?_
      refine lv_iconst (v := (2 : Int32)) hx hb dX8_takeIt_33 (by decide) ?_
      obtain ⟨r35, M34, hq33, hf⟩ := bd2_o hf
      refine hs_ci (hs_runV C0 hH hS (n := 1) (As := [.int (2 : Int32)]) (rest := []) (c_X8_throwing M (2 : Int32) hq33) ⟨⟨zt_1637, zt_1639, zs_34, zt_13, zt_1640⟩, rfl, by decide, by decide, by decide +kernel⟩ ⟨rfl, rfl, Nat.le_of_ble_eq_true rfl, Nat.le_of_ble_eq_true rfl⟩ (hs_recv hK hH 20 0 (by decide) 12 rfl rfl) rfl rfl hl.1 (Nat.le_of_ble_eq_true rfl) ⟨Nat.le_of_ble_eq_true rfl, Nat.le_of_ble_eq_true rfl⟩ dX8_takeIt_34) hS (fun H locs hH hS => ?_)
      cases hf
      exact hs_iret C0 hH hS (by decide) (by decide) dX8_takeIt_37
  · have hf := if_t hf hc40
    refine lv_aload_n hx hb dX8_takeIt_11 rfl (lv_at hl 1 rfl) ?_
    refine lv_iconst (v := (1 : Int32)) hx hb dX8_takeIt_12 (by decide) ?_
    obtain ⟨r39, M38, hq37, hf⟩ := bd2_o hf
    refine hs_ci (hs_runV C0 hH hS (n := 1) (As := [.int (1 : Int32)]) (rest := []) (c_X8_throwing M (1 : Int32) hq37) ⟨⟨zt_1637, zt_1639, zs_34, zt_13, zt_1640⟩, rfl, by decide, by decide, by decide +kernel⟩ ⟨rfl, rfl, Nat.le_of_ble_eq_true rfl, Nat.le_of_ble_eq_true rfl⟩ (hs_recv hK hH 20 0 (by decide) 12 rfl rfl) rfl rfl hl.1 (Nat.le_of_ble_eq_true rfl) ⟨Nat.le_of_ble_eq_true rfl, Nat.le_of_ble_eq_true rfl⟩ dX8_takeIt_13) hS (fun H locs hH hS => ?_)
    cases hf
    exact hs_iret C0 hH hS (by decide) (by decide) dX8_takeIt_16
def f_X8_takeBack (M : Mem) (a1 : Int32) : Option (Int32 × Mem) := bd (f_X8_starts M) fun M11 => bd2 (f_X8_takeIt M11 a1) fun r15 M14 => bd2 (f_X8_changed M14 r15) fun r18 M17 => some (r18, M17)
set_option maxHeartbeats 4000000 in
set_option maxRecDepth 100000 in
theorem c_X8_takeBack {Y : LY} {l : Launch} (M : Mem) (a1 : Int32) {r : Int32} {MZ : Mem} (hf : f_X8_takeBack M a1 = some (r, MZ)) : Met l yX8_takeBack (WS yX8_takeBack cX8_takeBack 2 (Option.some Jvm.ClassFile.FieldType.int)) { frames := 3, cells := 0, slots := 0, locals := 65 } (PcM Y M [.ref (YA Y 20 0), .int a1]) (Qi Y r MZ) 0 0 (AZ Y) := by
  refine met_mk (lv := [(0, .ref (YA Y 20 0)), (1, .int a1)]) [.ref (YA Y 20 0), .int a1] (by decide) rfl rfl (Nat.le_of_ble_eq_true rfl) (fun p e s m below meth c C0 hH ls hl => ?_)
  have hS : va_S (AZ Y) s.heap s.heap [] := va_S.rf
  obtain ⟨hx, hb, hr, hml, hown, hA, hlocks, hK, hZ⟩ := id C0
  unfold f_X8_takeBack at hf
  refine lv_aload_n hx hb dX8_takeBack_0 rfl (lv_at hl 0 rfl) ?_
  obtain ⟨M11, hq10, hf⟩ := bd_o hf
  refine hs_cv (hs_runV C0 hH hS (n := 0) (As := []) (rest := []) (c_X8_starts M hq10) ⟨⟨zt_1629, zt_1631, zs_32, zt_13, zt_1632⟩, rfl, by decide, by decide, by decide +kernel⟩ ⟨rfl, rfl, Nat.le_of_ble_eq_true rfl, Nat.le_of_ble_eq_true rfl⟩ (hs_recv hK hH 20 0 (by decide) 12 rfl rfl) rfl rfl hl.1 (Nat.le_of_ble_eq_true rfl) ⟨Nat.le_of_ble_eq_true rfl, Nat.le_of_ble_eq_true rfl⟩ dX8_takeBack_1) hS (fun H locs hH hS => ?_)
  refine lv_aload_n hx hb dX8_takeBack_4 rfl (lv_at hl 0 rfl) ?_
  refine lv_aload_n hx hb dX8_takeBack_5 rfl (lv_at hl 0 rfl) ?_
  refine lv_iload_n hx hb dX8_takeBack_6 rfl (lv_at hl 1 rfl) ?_
  obtain ⟨r15, M14, hq13, hf⟩ := bd2_o hf
  refine hs_ci (hs_runV C0 hH hS (n := 1) (As := [.int a1]) (rest := [.ref (YA Y 20 0)]) (c_X8_takeIt M11 a1 hq13) ⟨⟨zt_1737, zt_1739, zs_49, zt_13, zt_1740⟩, rfl, by decide, by decide, by decide +kernel⟩ ⟨rfl, rfl, Nat.le_of_ble_eq_true rfl, Nat.le_of_ble_eq_true rfl⟩ (hs_recv hK hH 20 0 (by decide) 12 rfl rfl) rfl rfl hl.1 (Nat.le_of_ble_eq_true rfl) ⟨Nat.le_of_ble_eq_true rfl, Nat.le_of_ble_eq_true rfl⟩ dX8_takeBack_7) hS (fun H locs hH hS => ?_)
  obtain ⟨r18, M17, hq16, hf⟩ := bd2_o hf
  refine hs_ci (hs_runV C0 hH hS (n := 1) (As := [.int r15]) (rest := []) (c_X8_changed M14 r15 hq16) ⟨⟨zt_1641, zt_1643, zs_35, zt_13, zt_1644⟩, rfl, by decide, by decide, by decide +kernel⟩ ⟨rfl, rfl, Nat.le_of_ble_eq_true rfl, Nat.le_of_ble_eq_true rfl⟩ (hs_recv hK hH 20 0 (by decide) 12 rfl rfl) rfl rfl hl.1 (Nat.le_of_ble_eq_true rfl) ⟨Nat.le_of_ble_eq_true rfl, Nat.le_of_ble_eq_true rfl⟩ dX8_takeBack_10) hS (fun H locs hH hS => ?_)
  cases hf
  exact hs_iret C0 hH hS (by decide) (by decide) dX8_takeBack_13
def f_X8_dispatchIt_59 (k4 : Mem → Int32 → Int32 → Option (Int32 × Mem)) (M : Mem) (a1 : Int32) (a2 : Int32) : Option (Int32 × Mem) := k4 M a1 (a2 + (1 : Int32))
set_option maxHeartbeats 4000000 in
set_option maxRecDepth 100000 in
theorem w_X8_dispatchIt_59 {Y : LY} {p : Program} {l : Launch} {e : Env} {s : State} {m : MethodId} {args : Array Value} {below : List Frame} {meth : Method} {c : Code} (C0 : BE Y p s m args meth c cX8_dispatchIt 4 (Option.some Jvm.ClassFile.FieldType.int) RX8) {r : Int32} {MZ : Mem} (k4 : Mem → Int32 → Int32 → Option (Int32 × Mem)) (hk4 : ∀ (M : Mem) (a1 : Int32) (a2 : Int32), k4 M a1 a2 = some (r, MZ) → ∀ (H : Heap) (locs : List Loc) (ls : Array Slot), HS Y M H → va_S (AZ Y) s.heap H locs → lv_has ls 4 [(0, .ref (YA Y 20 0)), (1, .int a1), (2, .int a2)] → W p l e { frames := 6, cells := 0, slots := 0, locals := 140 } s m args below meth c H locs 0 0 (MQ below (Qi Y r MZ) args s 0 0 (AZ Y)) (F0 m 4 ls [])) : ∀ (M : Mem) (a1 : Int32) (a2 : Int32), f_X8_dispatchIt_59 k4 M a1 a2 = some (r, MZ) → ∀ (H : Heap) (locs : List Loc) (ls : Array Slot), HS Y M H → va_S (AZ Y) s.heap H locs → lv_has ls 4 [(0, .ref (YA Y 20 0)), (1, .int a1), (2, .int a2)] → W p l e { frames := 6, cells := 0, slots := 0, locals := 140 } s m args below meth c H locs 0 0 (MQ below (Qi Y r MZ) args s 0 0 (AZ Y)) (F0 m 59 ls []) := by
  obtain ⟨hx, hb, hr, hml, hown, hA, hlocks, hK, hZ⟩ := id C0
  intro M a1 a2 hf H locs ls hH hS hl
  unfold f_X8_dispatchIt_59 at hf
  refine lv_iinc (v := a2 + (1 : Int32)) (lv' := [(2, .int (a2 + (1 : Int32))), (0, .ref (YA Y 20 0)), (1, .int a1)]) hx hb dX8_dispatchIt_59 hl (k := 2) rfl rfl (by decide) rfl (fun ls hl => ?_)
  refine lv_goto (tgt := 4) hx hb dX8_dispatchIt_62 (by decide) ?_
  exact hk4 M a1 (a2 + (1 : Int32)) hf _ _ _ hH hS (lv_sub hl [1, 2, 0] rfl)
def f_X8_dispatchIt_4 : Nat → Mem → Int32 → Int32 → Option (Int32 × Mem)
  | 0, _, _, _ => none
  | n + 1, M, a1, a2 => (if (M 21 0 2) ≤ a2 then some (a1, M) else bd (f_X8_parcelAt M a2) fun r17 => if vin (r17 + (4 : Int32)) 192 then ((if (M 21 0 (ix (r17 + (4 : Int32)))) = (-1 : Int32) then f_X8_dispatchIt_59 (f_X8_dispatchIt_4 n) M a1 a2 else bd2 (f_X8_next M a2) fun r21 M20 => (if r21 = (-1 : Int32) then f_X8_dispatchIt_59 (f_X8_dispatchIt_4 n) M20 a1 a2 else bd (f_X8_maySend M20 a2 r21) fun r23 => (if r23 = 0 then f_X8_dispatchIt_59 (f_X8_dispatchIt_4 n) M20 a1 a2 else bd2 (f_X8_sends M20 a2 r21) fun r26 M25 => f_X8_dispatchIt_59 (f_X8_dispatchIt_4 n) M25 (a1 + (1 : Int32)) a2)))) else none)
set_option maxHeartbeats 4000000 in
set_option maxRecDepth 100000 in
theorem w_X8_dispatchIt_4 {Y : LY} {p : Program} {l : Launch} {e : Env} {s : State} {m : MethodId} {args : Array Value} {below : List Frame} {meth : Method} {c : Code} (C0 : BE Y p s m args meth c cX8_dispatchIt 4 (Option.some Jvm.ClassFile.FieldType.int) RX8) {r : Int32} {MZ : Mem} : ∀ (n : Nat) (M : Mem) (a1 : Int32) (a2 : Int32), f_X8_dispatchIt_4 n M a1 a2 = some (r, MZ) → ∀ (H : Heap) (locs : List Loc) (ls : Array Slot), HS Y M H → va_S (AZ Y) s.heap H locs → lv_has ls 4 [(0, .ref (YA Y 20 0)), (1, .int a1), (2, .int a2)] → W p l e { frames := 6, cells := 0, slots := 0, locals := 140 } s m args below meth c H locs 0 0 (MQ below (Qi Y r MZ) args s 0 0 (AZ Y)) (F0 m 4 ls []) := by
  obtain ⟨hx, hb, hr, hml, hown, hA, hlocks, hK, hZ⟩ := id C0
  intro n
  induction n with
  | zero =>
    intro M a1 a2 hf
    cases hf
  | succ n ih =>
    intro M a1 a2 hf H locs ls hH hS hl
    rw [f_X8_dispatchIt_4] at hf
    refine lv_iload_n hx hb dX8_dispatchIt_4 rfl (lv_at hl 2 rfl) ?_
    refine lv_aload_n hx hb dX8_dispatchIt_5 rfl (lv_at hl 0 rfl) ?_
    refine hs_get hx hb (T := TX8) hA inAX8 hown hK hH 20 0 (by decide) 12 rfl rfl 0 (by decide) (hA _ zt_1551) rfl rfl dX8_dispatchIt_6 ?_
    refine lv_iconst (v := (2 : Int32)) hx hb dX8_dispatchIt_9 (by decide) ?_
    refine hs_iald hx hb hK hH 21 0 (by decide) rfl (show vin (2 : Int32) 192 from by decide) (show ix (2 : Int32) = 2 from by decide) dX8_dispatchIt_10 ?_
    refine lv_icmp_ge (tgt := 65) hx hb dX8_dispatchIt_11 (by decide) (fun hc30 => ?_) (fun hc30 => ?_)
    · have hf := if_t hf hc30
      refine lv_iload_n hx hb dX8_dispatchIt_65 rfl (lv_at hl 1 rfl) ?_
      cases hf
      exact hs_iret C0 hH hS (by decide) (by decide) dX8_dispatchIt_66
    · have hf := if_f hf hc30
      refine lv_aload_n hx hb dX8_dispatchIt_14 rfl (lv_at hl 0 rfl) ?_
      refine hs_get hx hb (T := TX8) hA inAX8 hown hK hH 20 0 (by decide) 12 rfl rfl 0 (by decide) (hA _ zt_1551) rfl rfl dX8_dispatchIt_15 ?_
      refine lv_iload_n hx hb dX8_dispatchIt_18 rfl (lv_at hl 2 rfl) ?_
      obtain ⟨r17, hq16, hf⟩ := bd_o hf
      refine hs_ci (hs_runS C0 hH hS (n := 1) (As := [.int a2]) (rest := [.ref (YA Y 21 0)]) (c_X8_parcelAt M a2 hq16) ⟨⟨zt_1694, zt_1695, zt_13, zt_1696⟩, by decide, by decide, by decide +kernel⟩ ⟨rfl, rfl, Nat.le_of_ble_eq_true rfl, Nat.le_of_ble_eq_true rfl⟩ rfl rfl hl.1 (Nat.le_of_ble_eq_true rfl) ⟨Nat.le_of_ble_eq_true rfl, Nat.le_of_ble_eq_true rfl⟩ dX8_dispatchIt_19) hS (fun H locs hH hS => ?_)
      refine lv_iconst (v := (4 : Int32)) hx hb dX8_dispatchIt_22 (by decide) ?_
      refine lv_iadd hx hb dX8_dispatchIt_23 ?_
      obtain ⟨hg18, hf⟩ := gd_o hf
      have bhg18 := vin_lt hg18
      refine hs_iald hx hb hK hH 21 0 (by decide) rfl hg18 rfl dX8_dispatchIt_24 ?_
      refine lv_iconst (v := (-1 : Int32)) hx hb dX8_dispatchIt_25 (by decide) ?_
      refine lv_icmp_eq (tgt := 59) hx hb dX8_dispatchIt_26 (by decide) (fun hc29 => ?_) (fun hc29 => ?_)
      · have hf := if_t hf hc29
        exact w_X8_dispatchIt_59 C0 (f_X8_dispatchIt_4 n) ih M a1 a2 hf _ _ _ hH hS (lv_sub hl [0, 1, 2] rfl)
      · have hf := if_f hf hc29
        refine lv_aload_n hx hb dX8_dispatchIt_29 rfl (lv_at hl 0 rfl) ?_
        refine lv_iload_n hx hb dX8_dispatchIt_30 rfl (lv_at hl 2 rfl) ?_
        obtain ⟨r21, M20, hq19, hf⟩ := bd2_o hf
        refine hs_ci (hs_runV C0 hH hS (n := 1) (As := [.int a2]) (rest := []) (c_X8_next M a2 hq19) ⟨⟨zt_1753, zt_1755, zs_52, zt_13, zt_1756⟩, rfl, by decide, by decide, by decide +kernel⟩ ⟨rfl, rfl, Nat.le_of_ble_eq_true rfl, Nat.le_of_ble_eq_true rfl⟩ (hs_recv hK hH 20 0 (by decide) 12 rfl rfl) rfl rfl hl.1 (Nat.le_of_ble_eq_true rfl) ⟨Nat.le_of_ble_eq_true rfl, Nat.le_of_ble_eq_true rfl⟩ dX8_dispatchIt_31) hS (fun H locs hH hS => ?_)
        refine lv_istore_n (lv' := [(3, .int r21), (0, .ref (YA Y 20 0)), (1, .int a1), (2, .int a2)]) hx hb dX8_dispatchIt_34 rfl hl (by decide) rfl (fun ls hl => ?_)
        refine lv_iload_n hx hb dX8_dispatchIt_35 rfl (lv_at hl 0 rfl) ?_
        refine lv_iconst (v := (-1 : Int32)) hx hb dX8_dispatchIt_36 (by decide) ?_
        refine lv_icmp_eq (tgt := 59) hx hb dX8_dispatchIt_37 (by decide) (fun hc28 => ?_) (fun hc28 => ?_)
        · have hf := if_t hf hc28
          exact w_X8_dispatchIt_59 C0 (f_X8_dispatchIt_4 n) ih M20 a1 a2 hf _ _ _ hH hS (lv_sub hl [1, 2, 3] rfl)
        · have hf := if_f hf hc28
          refine lv_aload_n hx hb dX8_dispatchIt_40 rfl (lv_at hl 1 rfl) ?_
          refine lv_iload_n hx hb dX8_dispatchIt_41 rfl (lv_at hl 3 rfl) ?_
          refine lv_iload_n hx hb dX8_dispatchIt_42 rfl (lv_at hl 0 rfl) ?_
          obtain ⟨r23, hq22, hf⟩ := bd_o hf
          refine hs_ci (hs_runV C0 hH hS (n := 2) (As := [.int a2, .int r21]) (rest := []) (c_X8_maySend M20 a2 r21 hq22) ⟨⟨zt_1709, zt_1711, zs_44, zt_13, zt_1712⟩, rfl, by decide, by decide, by decide +kernel⟩ ⟨rfl, rfl, Nat.le_of_ble_eq_true rfl, Nat.le_of_ble_eq_true rfl⟩ (hs_recv hK hH 20 0 (by decide) 12 rfl rfl) rfl rfl hl.1 (Nat.le_of_ble_eq_true rfl) ⟨Nat.le_of_ble_eq_true rfl, Nat.le_of_ble_eq_true rfl⟩ dX8_dispatchIt_43) hS (fun H locs hH hS => ?_)
          refine lv_if_eq (tgt := 59) hx hb dX8_dispatchIt_46 (by decide) (fun hc27 => ?_) (fun hc27 => ?_)
          · have hf := if_t hf hc27
            exact w_X8_dispatchIt_59 C0 (f_X8_dispatchIt_4 n) ih M20 a1 a2 hf _ _ _ hH hS (lv_sub hl [1, 2, 3] rfl)
          · have hf := if_f hf hc27
            refine lv_aload_n hx hb dX8_dispatchIt_49 rfl (lv_at hl 1 rfl) ?_
            refine lv_iload_n hx hb dX8_dispatchIt_50 rfl (lv_at hl 3 rfl) ?_
            refine lv_iload_n hx hb dX8_dispatchIt_51 rfl (lv_at hl 0 rfl) ?_
            obtain ⟨r26, M25, hq24, hf⟩ := bd2_o hf
            refine hs_ci (hs_runV C0 hH hS (n := 2) (As := [.int a2, .int r21]) (rest := []) (c_X8_sends M20 a2 r21 hq24) ⟨⟨zt_1721, zt_1723, zs_47, zt_13, zt_1724⟩, rfl, by decide, by decide, by decide +kernel⟩ ⟨rfl, rfl, Nat.le_of_ble_eq_true rfl, Nat.le_of_ble_eq_true rfl⟩ (hs_recv hK hH 20 0 (by decide) 12 rfl rfl) rfl rfl hl.1 (Nat.le_of_ble_eq_true rfl) ⟨Nat.le_of_ble_eq_true rfl, Nat.le_of_ble_eq_true rfl⟩ dX8_dispatchIt_52) hS (fun H locs hH hS => ?_)
            refine lv_pop hx hb dX8_dispatchIt_55 rfl ?_
            refine lv_iinc (v := a1 + (1 : Int32)) (lv' := [(1, .int (a1 + (1 : Int32))), (3, .int r21), (0, .ref (YA Y 20 0)), (2, .int a2)]) hx hb dX8_dispatchIt_56 hl (k := 2) rfl rfl (by decide) rfl (fun ls hl => ?_)
            exact w_X8_dispatchIt_59 C0 (f_X8_dispatchIt_4 n) ih M25 (a1 + (1 : Int32)) a2 hf _ _ _ hH hS (lv_sub hl [2, 0, 3] rfl)
def f_X8_dispatchIt (M : Mem) : Option (Int32 × Mem) := f_X8_dispatchIt_4 FU M (0 : Int32) (0 : Int32)
set_option maxHeartbeats 4000000 in
set_option maxRecDepth 100000 in
theorem c_X8_dispatchIt {Y : LY} {l : Launch} (M : Mem) {r : Int32} {MZ : Mem} (hf : f_X8_dispatchIt M = some (r, MZ)) : Met l yX8_dispatchIt (WS yX8_dispatchIt cX8_dispatchIt 4 (Option.some Jvm.ClassFile.FieldType.int)) { frames := 6, cells := 0, slots := 0, locals := 140 } (PcM Y M [.ref (YA Y 20 0)]) (Qi Y r MZ) 0 0 (AZ Y) := by
  refine met_mk (lv := [(0, .ref (YA Y 20 0))]) [.ref (YA Y 20 0)] (by decide) rfl rfl (Nat.le_of_ble_eq_true rfl) (fun p e s m below meth c C0 hH ls hl => ?_)
  have hS : va_S (AZ Y) s.heap s.heap [] := va_S.rf
  obtain ⟨hx, hb, hr, hml, hown, hA, hlocks, hK, hZ⟩ := id C0
  unfold f_X8_dispatchIt at hf
  refine lv_iconst (v := (0 : Int32)) hx hb dX8_dispatchIt_0 (by decide) ?_
  refine lv_istore_n (lv' := [(1, .int (0 : Int32)), (0, .ref (YA Y 20 0))]) hx hb dX8_dispatchIt_1 rfl hl (by decide) rfl (fun ls hl => ?_)
  refine lv_iconst (v := (0 : Int32)) hx hb dX8_dispatchIt_2 (by decide) ?_
  refine lv_istore_n (lv' := [(2, .int (0 : Int32)), (1, .int (0 : Int32)), (0, .ref (YA Y 20 0))]) hx hb dX8_dispatchIt_3 rfl hl (by decide) rfl (fun ls hl => ?_)
  exact w_X8_dispatchIt_4 C0 FU M (0 : Int32) (0 : Int32) hf _ _ _ hH hS (lv_sub hl [2, 1, 0] rfl)
def f_X8_dispatch (M : Mem) : Option (Int32 × Mem) := bd (f_X8_starts M) fun M11 => bd2 (f_X8_dispatchIt M11) fun r15 M14 => bd2 (f_X8_changed M14 r15) fun r18 M17 => some (r18, M17)
set_option maxHeartbeats 4000000 in
set_option maxRecDepth 100000 in
theorem c_X8_dispatch {Y : LY} {l : Launch} (M : Mem) {r : Int32} {MZ : Mem} (hf : f_X8_dispatch M = some (r, MZ)) : Met l yX8_dispatch (WS yX8_dispatch cX8_dispatch 1 (Option.some Jvm.ClassFile.FieldType.int)) { frames := 7, cells := 0, slots := 0, locals := 163 } (PcM Y M [.ref (YA Y 20 0)]) (Qi Y r MZ) 0 0 (AZ Y) := by
  refine met_mk (lv := [(0, .ref (YA Y 20 0))]) [.ref (YA Y 20 0)] (by decide) rfl rfl (Nat.le_of_ble_eq_true rfl) (fun p e s m below meth c C0 hH ls hl => ?_)
  have hS : va_S (AZ Y) s.heap s.heap [] := va_S.rf
  obtain ⟨hx, hb, hr, hml, hown, hA, hlocks, hK, hZ⟩ := id C0
  unfold f_X8_dispatch at hf
  refine lv_aload_n hx hb dX8_dispatch_0 rfl (lv_at hl 0 rfl) ?_
  obtain ⟨M11, hq10, hf⟩ := bd_o hf
  refine hs_cv (hs_runV C0 hH hS (n := 0) (As := []) (rest := []) (c_X8_starts M hq10) ⟨⟨zt_1629, zt_1631, zs_32, zt_13, zt_1632⟩, rfl, by decide, by decide, by decide +kernel⟩ ⟨rfl, rfl, Nat.le_of_ble_eq_true rfl, Nat.le_of_ble_eq_true rfl⟩ (hs_recv hK hH 20 0 (by decide) 12 rfl rfl) rfl rfl hl.1 (Nat.le_of_ble_eq_true rfl) ⟨Nat.le_of_ble_eq_true rfl, Nat.le_of_ble_eq_true rfl⟩ dX8_dispatch_1) hS (fun H locs hH hS => ?_)
  refine lv_aload_n hx hb dX8_dispatch_4 rfl (lv_at hl 0 rfl) ?_
  refine lv_aload_n hx hb dX8_dispatch_5 rfl (lv_at hl 0 rfl) ?_
  obtain ⟨r15, M14, hq13, hf⟩ := bd2_o hf
  refine hs_ci (hs_runV C0 hH hS (n := 0) (As := []) (rest := [.ref (YA Y 20 0)]) (c_X8_dispatchIt M11 hq13) ⟨⟨zt_1749, zt_1751, zs_51, zt_13, zt_1752⟩, rfl, by decide, by decide, by decide +kernel⟩ ⟨rfl, rfl, Nat.le_of_ble_eq_true rfl, Nat.le_of_ble_eq_true rfl⟩ (hs_recv hK hH 20 0 (by decide) 12 rfl rfl) rfl rfl hl.1 (Nat.le_of_ble_eq_true rfl) ⟨Nat.le_of_ble_eq_true rfl, Nat.le_of_ble_eq_true rfl⟩ dX8_dispatch_6) hS (fun H locs hH hS => ?_)
  obtain ⟨r18, M17, hq16, hf⟩ := bd2_o hf
  refine hs_ci (hs_runV C0 hH hS (n := 1) (As := [.int r15]) (rest := []) (c_X8_changed M14 r15 hq16) ⟨⟨zt_1641, zt_1643, zs_35, zt_13, zt_1644⟩, rfl, by decide, by decide, by decide +kernel⟩ ⟨rfl, rfl, Nat.le_of_ble_eq_true rfl, Nat.le_of_ble_eq_true rfl⟩ (hs_recv hK hH 20 0 (by decide) 12 rfl rfl) rfl rfl hl.1 (Nat.le_of_ble_eq_true rfl) ⟨Nat.le_of_ble_eq_true rfl, Nat.le_of_ble_eq_true rfl⟩ dX8_dispatch_9) hS (fun H locs hH hS => ?_)
  cases hf
  exact hs_iret C0 hH hS (by decide) (by decide) dX8_dispatch_12
def f_X8_passesHour_168 (k14 : Mem → Int32 → Int32 → Option (Int32 × Mem)) (M : Mem) (a1 : Int32) (a2 : Int32) : Option (Int32 × Mem) := k14 M a1 (a2 + (1 : Int32))
set_option maxHeartbeats 4000000 in
set_option maxRecDepth 100000 in
theorem w_X8_passesHour_168 {Y : LY} {p : Program} {l : Launch} {e : Env} {s : State} {m : MethodId} {args : Array Value} {below : List Frame} {meth : Method} {c : Code} (C0 : BE Y p s m args meth c cX8_passesHour 6 (Option.some Jvm.ClassFile.FieldType.int) RX8) {r : Int32} {MZ : Mem} (k14 : Mem → Int32 → Int32 → Option (Int32 × Mem)) (hk14 : ∀ (M : Mem) (a1 : Int32) (a2 : Int32), k14 M a1 a2 = some (r, MZ) → ∀ (H : Heap) (locs : List Loc) (ls : Array Slot), HS Y M H → va_S (AZ Y) s.heap H locs → lv_has ls 6 [(0, .ref (YA Y 20 0)), (1, .int a1), (2, .int a2)] → W p l e { frames := 2, cells := 0, slots := 0, locals := 42 } s m args below meth c H locs 0 0 (MQ below (Qi Y r MZ) args s 0 0 (AZ Y)) (F0 m 14 ls [])) : ∀ (M : Mem) (a1 : Int32) (a2 : Int32), f_X8_passesHour_168 k14 M a1 a2 = some (r, MZ) → ∀ (H : Heap) (locs : List Loc) (ls : Array Slot), HS Y M H → va_S (AZ Y) s.heap H locs → lv_has ls 6 [(0, .ref (YA Y 20 0)), (1, .int a1), (2, .int a2)] → W p l e { frames := 2, cells := 0, slots := 0, locals := 42 } s m args below meth c H locs 0 0 (MQ below (Qi Y r MZ) args s 0 0 (AZ Y)) (F0 m 168 ls []) := by
  obtain ⟨hx, hb, hr, hml, hown, hA, hlocks, hK, hZ⟩ := id C0
  intro M a1 a2 hf H locs ls hH hS hl
  unfold f_X8_passesHour_168 at hf
  refine lv_iinc (v := a2 + (1 : Int32)) (lv' := [(2, .int (a2 + (1 : Int32))), (0, .ref (YA Y 20 0)), (1, .int a1)]) hx hb dX8_passesHour_168 hl (k := 2) rfl rfl (by decide) rfl (fun ls hl => ?_)
  refine lv_goto (tgt := 14) hx hb dX8_passesHour_171 (by decide) ?_
  exact hk14 M a1 (a2 + (1 : Int32)) hf _ _ _ hH hS (lv_sub hl [1, 2, 0] rfl)
def f_X8_passesHour_134 (k14 : Mem → Int32 → Int32 → Option (Int32 × Mem)) (M : Mem) (a1 : Int32) (a2 : Int32) (a3 : Int32) (a4 : Int32) (a5 : Int32) : Option (Int32 × Mem) := (if a4 = 0 then f_X8_passesHour_168 k14 M a1 a2 else if vin (a3 + (4 : Int32)) 192 then (nm (mu M 21 0 (ix (a3 + (4 : Int32))) a5) fun M29 => if vin (a3 + (5 : Int32)) 192 then (nm (mu M29 21 0 (ix (a3 + (5 : Int32))) (-1 : Int32)) fun M31 => if vin (a3 + (6 : Int32)) 192 then (nm (mu M31 21 0 (ix (a3 + (6 : Int32))) (0 : Int32)) fun M33 => f_X8_passesHour_168 k14 M33 a1 a2) else none) else none) else none)
set_option maxHeartbeats 4000000 in
set_option maxRecDepth 100000 in
theorem w_X8_passesHour_134 {Y : LY} {p : Program} {l : Launch} {e : Env} {s : State} {m : MethodId} {args : Array Value} {below : List Frame} {meth : Method} {c : Code} (C0 : BE Y p s m args meth c cX8_passesHour 6 (Option.some Jvm.ClassFile.FieldType.int) RX8) {r : Int32} {MZ : Mem} (k14 : Mem → Int32 → Int32 → Option (Int32 × Mem)) (hk14 : ∀ (M : Mem) (a1 : Int32) (a2 : Int32), k14 M a1 a2 = some (r, MZ) → ∀ (H : Heap) (locs : List Loc) (ls : Array Slot), HS Y M H → va_S (AZ Y) s.heap H locs → lv_has ls 6 [(0, .ref (YA Y 20 0)), (1, .int a1), (2, .int a2)] → W p l e { frames := 2, cells := 0, slots := 0, locals := 42 } s m args below meth c H locs 0 0 (MQ below (Qi Y r MZ) args s 0 0 (AZ Y)) (F0 m 14 ls [])) : ∀ (M : Mem) (a1 : Int32) (a2 : Int32) (a3 : Int32) (a4 : Int32) (a5 : Int32), f_X8_passesHour_134 k14 M a1 a2 a3 a4 a5 = some (r, MZ) → ∀ (H : Heap) (locs : List Loc) (ls : Array Slot), HS Y M H → va_S (AZ Y) s.heap H locs → lv_has ls 6 [(0, .ref (YA Y 20 0)), (1, .int a1), (2, .int a2), (3, .int a3), (4, .int a4), (5, .int a5)] → W p l e { frames := 2, cells := 0, slots := 0, locals := 42 } s m args below meth c H locs 0 0 (MQ below (Qi Y r MZ) args s 0 0 (AZ Y)) (F0 m 134 ls []) := by
  obtain ⟨hx, hb, hr, hml, hown, hA, hlocks, hK, hZ⟩ := id C0
  intro M a1 a2 a3 a4 a5 hf H locs ls hH hS hl
  unfold f_X8_passesHour_134 at hf
  refine lv_iload hx hb dX8_passesHour_134 (lv_at hl 4 rfl) ?_
  refine lv_if_eq (tgt := 168) hx hb dX8_passesHour_136 (by decide) (fun hc34 => ?_) (fun hc34 => ?_)
  · have hf := if_t hf hc34
    exact w_X8_passesHour_168 C0 k14 hk14 M a1 a2 hf _ _ _ hH hS (lv_sub hl [0, 1, 2] rfl)
  · have hf := if_f hf hc34
    refine lv_aload_n hx hb dX8_passesHour_139 rfl (lv_at hl 0 rfl) ?_
    refine hs_get hx hb (T := TX8) hA inAX8 hown hK hH 20 0 (by decide) 12 rfl rfl 0 (by decide) (hA _ zt_1551) rfl rfl dX8_passesHour_140 ?_
    refine lv_iload_n hx hb dX8_passesHour_143 rfl (lv_at hl 3 rfl) ?_
    refine lv_iconst (v := (4 : Int32)) hx hb dX8_passesHour_144 (by decide) ?_
    refine lv_iadd hx hb dX8_passesHour_145 ?_
    refine lv_iload hx hb dX8_passesHour_146 (lv_at hl 5 rfl) ?_
    obtain ⟨hg28, hf⟩ := gd_o hf
    have bhg28 := vin_lt hg28
    refine hs_iast hx hb hK hH hS 21 0 (by decide) (fun _ => rfl) hg28 rfl dX8_passesHour_148 (fun H locs hH hS => ?_)
    obtain ⟨M29, eM29, hf⟩ := nm_o hf
    rw [← eM29] at hH
    refine lv_aload_n hx hb dX8_passesHour_149 rfl (lv_at hl 0 rfl) ?_
    refine hs_get hx hb (T := TX8) hA inAX8 hown hK hH 20 0 (by decide) 12 rfl rfl 0 (by decide) (hA _ zt_1551) rfl rfl dX8_passesHour_150 ?_
    refine lv_iload_n hx hb dX8_passesHour_153 rfl (lv_at hl 3 rfl) ?_
    refine lv_iconst (v := (5 : Int32)) hx hb dX8_passesHour_154 (by decide) ?_
    refine lv_iadd hx hb dX8_passesHour_155 ?_
    refine lv_iconst (v := (-1 : Int32)) hx hb dX8_passesHour_156 (by decide) ?_
    obtain ⟨hg30, hf⟩ := gd_o hf
    have bhg30 := vin_lt hg30
    refine hs_iast hx hb hK hH hS 21 0 (by decide) (fun _ => rfl) hg30 rfl dX8_passesHour_157 (fun H locs hH hS => ?_)
    obtain ⟨M31, eM31, hf⟩ := nm_o hf
    rw [← eM31] at hH
    refine lv_aload_n hx hb dX8_passesHour_158 rfl (lv_at hl 0 rfl) ?_
    refine hs_get hx hb (T := TX8) hA inAX8 hown hK hH 20 0 (by decide) 12 rfl rfl 0 (by decide) (hA _ zt_1551) rfl rfl dX8_passesHour_159 ?_
    refine lv_iload_n hx hb dX8_passesHour_162 rfl (lv_at hl 3 rfl) ?_
    refine lv_bipush (v := (6 : Int32)) hx hb dX8_passesHour_163 (by decide) ?_
    refine lv_iadd hx hb dX8_passesHour_165 ?_
    refine lv_iconst (v := (0 : Int32)) hx hb dX8_passesHour_166 (by decide) ?_
    obtain ⟨hg32, hf⟩ := gd_o hf
    have bhg32 := vin_lt hg32
    refine hs_iast hx hb hK hH hS 21 0 (by decide) (fun _ => rfl) hg32 rfl dX8_passesHour_167 (fun H locs hH hS => ?_)
    obtain ⟨M33, eM33, hf⟩ := nm_o hf
    rw [← eM33] at hH
    exact w_X8_passesHour_168 C0 k14 hk14 M33 a1 a2 hf _ _ _ hH hS (lv_sub hl [0, 1, 2] rfl)
def f_X8_passesHour_93 (k14 : Mem → Int32 → Int32 → Option (Int32 × Mem)) (M : Mem) (a1 : Int32) (a2 : Int32) (a3 : Int32) (a4 : Int32) (b0 : Int32) : Option (Int32 × Mem) := (if a4 = 0 then f_X8_passesHour_134 k14 M a1 a2 a3 a4 b0 else if vin (a3 + (1 : Int32)) 192 then ((if b0 = (M 21 0 (ix (a3 + (1 : Int32)))) then bd (f_X8_leaves M a2) fun M37 => nm (mu M37 21 0 5 ((M37 21 0 5) + (1 : Int32))) fun M39 => k14 M39 (a1 + (1 : Int32)) a2 else f_X8_passesHour_134 k14 M a1 a2 a3 a4 b0)) else none)
set_option maxHeartbeats 4000000 in
set_option maxRecDepth 100000 in
theorem w_X8_passesHour_93 {Y : LY} {p : Program} {l : Launch} {e : Env} {s : State} {m : MethodId} {args : Array Value} {below : List Frame} {meth : Method} {c : Code} (C0 : BE Y p s m args meth c cX8_passesHour 6 (Option.some Jvm.ClassFile.FieldType.int) RX8) {r : Int32} {MZ : Mem} (k14 : Mem → Int32 → Int32 → Option (Int32 × Mem)) (hk14 : ∀ (M : Mem) (a1 : Int32) (a2 : Int32), k14 M a1 a2 = some (r, MZ) → ∀ (H : Heap) (locs : List Loc) (ls : Array Slot), HS Y M H → va_S (AZ Y) s.heap H locs → lv_has ls 6 [(0, .ref (YA Y 20 0)), (1, .int a1), (2, .int a2)] → W p l e { frames := 2, cells := 0, slots := 0, locals := 42 } s m args below meth c H locs 0 0 (MQ below (Qi Y r MZ) args s 0 0 (AZ Y)) (F0 m 14 ls [])) : ∀ (M : Mem) (a1 : Int32) (a2 : Int32) (a3 : Int32) (a4 : Int32) (b0 : Int32), f_X8_passesHour_93 k14 M a1 a2 a3 a4 b0 = some (r, MZ) → ∀ (H : Heap) (locs : List Loc) (ls : Array Slot), HS Y M H → va_S (AZ Y) s.heap H locs → lv_has ls 6 [(0, .ref (YA Y 20 0)), (1, .int a1), (2, .int a2), (3, .int a3), (4, .int a4)] → W p l e { frames := 2, cells := 0, slots := 0, locals := 42 } s m args below meth c H locs 0 0 (MQ below (Qi Y r MZ) args s 0 0 (AZ Y)) (F0 m 93 ls [.int b0]) := by
  obtain ⟨hx, hb, hr, hml, hown, hA, hlocks, hK, hZ⟩ := id C0
  intro M a1 a2 a3 a4 b0 hf H locs ls hH hS hl
  unfold f_X8_passesHour_93 at hf
  refine lv_istore (lv' := [(5, .int b0), (0, .ref (YA Y 20 0)), (1, .int a1), (2, .int a2), (3, .int a3), (4, .int a4)]) hx hb dX8_passesHour_93 hl (by decide) rfl (fun ls hl => ?_)
  refine lv_iload hx hb dX8_passesHour_95 (lv_at hl 5 rfl) ?_
  refine lv_if_eq (tgt := 134) hx hb dX8_passesHour_97 (by decide) (fun hc41 => ?_) (fun hc41 => ?_)
  · have hf := if_t hf hc41
    exact w_X8_passesHour_134 C0 k14 hk14 M a1 a2 a3 a4 b0 hf _ _ _ hH hS (lv_sub hl [1, 2, 3, 4, 5, 0] rfl)
  · have hf := if_f hf hc41
    refine lv_iload hx hb dX8_passesHour_100 (lv_at hl 0 rfl) ?_
    refine lv_aload_n hx hb dX8_passesHour_102 rfl (lv_at hl 1 rfl) ?_
    refine hs_get hx hb (T := TX8) hA inAX8 hown hK hH 20 0 (by decide) 12 rfl rfl 0 (by decide) (hA _ zt_1551) rfl rfl dX8_passesHour_103 ?_
    refine lv_iload_n hx hb dX8_passesHour_106 rfl (lv_at hl 4 rfl) ?_
    refine lv_iconst (v := (1 : Int32)) hx hb dX8_passesHour_107 (by decide) ?_
    refine lv_iadd hx hb dX8_passesHour_108 ?_
    obtain ⟨hg35, hf⟩ := gd_o hf
    have bhg35 := vin_lt hg35
    refine hs_iald hx hb hK hH 21 0 (by decide) rfl hg35 rfl dX8_passesHour_109 ?_
    refine lv_icmp_ne (tgt := 134) hx hb dX8_passesHour_110 (by decide) (fun hc40 => ?_) (fun hc40 => ?_)
    · have hf := if_f hf hc40
      exact w_X8_passesHour_134 C0 k14 hk14 M a1 a2 a3 a4 b0 hf _ _ _ hH hS (lv_sub hl [1, 2, 3, 4, 5, 0] rfl)
    · have hf := if_t hf hc40
      refine lv_aload_n hx hb dX8_passesHour_113 rfl (lv_at hl 1 rfl) ?_
      refine lv_iload_n hx hb dX8_passesHour_114 rfl (lv_at hl 3 rfl) ?_
      obtain ⟨M37, hq36, hf⟩ := bd_o hf
      refine hs_cv (hs_runV C0 hH hS (n := 1) (As := [.int a2]) (rest := []) (c_X8_leaves M a2 hq36) ⟨⟨zt_1741, zt_1743, zs_50, zt_13, zt_1744⟩, rfl, by decide, by decide, by decide +kernel⟩ ⟨rfl, rfl, Nat.le_of_ble_eq_true rfl, Nat.le_of_ble_eq_true rfl⟩ (hs_recv hK hH 20 0 (by decide) 12 rfl rfl) rfl rfl hl.1 (Nat.le_of_ble_eq_true rfl) ⟨Nat.le_of_ble_eq_true rfl, Nat.le_of_ble_eq_true rfl⟩ dX8_passesHour_115) hS (fun H locs hH hS => ?_)
      refine lv_aload_n hx hb dX8_passesHour_118 rfl (lv_at hl 1 rfl) ?_
      refine hs_get hx hb (T := TX8) hA inAX8 hown hK hH 20 0 (by decide) 12 rfl rfl 0 (by decide) (hA _ zt_1551) rfl rfl dX8_passesHour_119 ?_
      refine lv_iconst (v := (5 : Int32)) hx hb dX8_passesHour_122 (by decide) ?_
      refine lv_dup2_11 hx hb dX8_passesHour_123 rfl rfl ?_
      refine hs_iald hx hb hK hH 21 0 (by decide) rfl (show vin (5 : Int32) 192 from by decide) (show ix (5 : Int32) = 5 from by decide) dX8_passesHour_124 ?_
      refine lv_iconst (v := (1 : Int32)) hx hb dX8_passesHour_125 (by decide) ?_
      refine lv_iadd hx hb dX8_passesHour_126 ?_
      refine hs_iast hx hb hK hH hS 21 0 (by decide) (fun _ => rfl) (show vin (5 : Int32) 192 from by decide) (show ix (5 : Int32) = 5 from by decide) dX8_passesHour_127 (fun H locs hH hS => ?_)
      obtain ⟨M39, eM39, hf⟩ := nm_o hf
      rw [← eM39] at hH
      refine lv_iinc (v := a1 + (1 : Int32)) (lv' := [(1, .int (a1 + (1 : Int32))), (5, .int b0), (0, .ref (YA Y 20 0)), (2, .int a2), (3, .int a3), (4, .int a4)]) hx hb dX8_passesHour_128 hl (k := 2) rfl rfl (by decide) rfl (fun ls hl => ?_)
      refine lv_goto (tgt := 171) hx hb dX8_passesHour_131 (by decide) ?_
      refine lv_goto (tgt := 14) hx hb dX8_passesHour_171 (by decide) ?_
      exact hk14 M39 (a1 + (1 : Int32)) a2 hf _ _ _ hH hS (lv_sub hl [2, 0, 3] rfl)
def f_X8_passesHour_64 (k14 : Mem → Int32 → Int32 → Option (Int32 × Mem)) (M : Mem) (a1 : Int32) (a2 : Int32) (a3 : Int32) (b0 : Int32) : Option (Int32 × Mem) := (if b0 = 0 then f_X8_passesHour_93 k14 M a1 a2 a3 b0 (-1 : Int32) else if vin (a3 + (5 : Int32)) 192 then (bd (f_X8_linkAt M (M 21 0 (ix (a3 + (5 : Int32))))) fun r44 => if vin (r44 + (1 : Int32)) 192 then (f_X8_passesHour_93 k14 M a1 a2 a3 b0 (M 21 0 (ix (r44 + (1 : Int32))))) else none) else none)
set_option maxHeartbeats 4000000 in
set_option maxRecDepth 100000 in
theorem w_X8_passesHour_64 {Y : LY} {p : Program} {l : Launch} {e : Env} {s : State} {m : MethodId} {args : Array Value} {below : List Frame} {meth : Method} {c : Code} (C0 : BE Y p s m args meth c cX8_passesHour 6 (Option.some Jvm.ClassFile.FieldType.int) RX8) {r : Int32} {MZ : Mem} (k14 : Mem → Int32 → Int32 → Option (Int32 × Mem)) (hk14 : ∀ (M : Mem) (a1 : Int32) (a2 : Int32), k14 M a1 a2 = some (r, MZ) → ∀ (H : Heap) (locs : List Loc) (ls : Array Slot), HS Y M H → va_S (AZ Y) s.heap H locs → lv_has ls 6 [(0, .ref (YA Y 20 0)), (1, .int a1), (2, .int a2)] → W p l e { frames := 2, cells := 0, slots := 0, locals := 42 } s m args below meth c H locs 0 0 (MQ below (Qi Y r MZ) args s 0 0 (AZ Y)) (F0 m 14 ls [])) : ∀ (M : Mem) (a1 : Int32) (a2 : Int32) (a3 : Int32) (b0 : Int32), f_X8_passesHour_64 k14 M a1 a2 a3 b0 = some (r, MZ) → ∀ (H : Heap) (locs : List Loc) (ls : Array Slot), HS Y M H → va_S (AZ Y) s.heap H locs → lv_has ls 6 [(0, .ref (YA Y 20 0)), (1, .int a1), (2, .int a2), (3, .int a3)] → W p l e { frames := 2, cells := 0, slots := 0, locals := 42 } s m args below meth c H locs 0 0 (MQ below (Qi Y r MZ) args s 0 0 (AZ Y)) (F0 m 64 ls [.int b0]) := by
  obtain ⟨hx, hb, hr, hml, hown, hA, hlocks, hK, hZ⟩ := id C0
  intro M a1 a2 a3 b0 hf H locs ls hH hS hl
  unfold f_X8_passesHour_64 at hf
  refine lv_istore (lv' := [(4, .int b0), (0, .ref (YA Y 20 0)), (1, .int a1), (2, .int a2), (3, .int a3)]) hx hb dX8_passesHour_64 hl (by decide) rfl (fun ls hl => ?_)
  refine lv_iload hx hb dX8_passesHour_66 (lv_at hl 0 rfl) ?_
  refine lv_if_eq (tgt := 92) hx hb dX8_passesHour_68 (by decide) (fun hc46 => ?_) (fun hc46 => ?_)
  · have hf := if_t hf hc46
    refine lv_iconst (v := (-1 : Int32)) hx hb dX8_passesHour_92 (by decide) ?_
    exact w_X8_passesHour_93 C0 k14 hk14 M a1 a2 a3 b0 (-1 : Int32) hf _ _ _ hH hS (lv_sub hl [1, 2, 3, 4, 0] rfl)
  · have hf := if_f hf hc46
    refine lv_aload_n hx hb dX8_passesHour_71 rfl (lv_at hl 1 rfl) ?_
    refine hs_get hx hb (T := TX8) hA inAX8 hown hK hH 20 0 (by decide) 12 rfl rfl 0 (by decide) (hA _ zt_1551) rfl rfl dX8_passesHour_72 ?_
    refine lv_aload_n hx hb dX8_passesHour_75 rfl (lv_at hl 1 rfl) ?_
    refine hs_get hx hb (T := TX8) hA inAX8 hown hK hH 20 0 (by decide) 12 rfl rfl 0 (by decide) (hA _ zt_1551) rfl rfl dX8_passesHour_76 ?_
    refine lv_iload_n hx hb dX8_passesHour_79 rfl (lv_at hl 4 rfl) ?_
    refine lv_iconst (v := (5 : Int32)) hx hb dX8_passesHour_80 (by decide) ?_
    refine lv_iadd hx hb dX8_passesHour_81 ?_
    obtain ⟨hg42, hf⟩ := gd_o hf
    have bhg42 := vin_lt hg42
    refine hs_iald hx hb hK hH 21 0 (by decide) rfl hg42 rfl dX8_passesHour_82 ?_
    obtain ⟨r44, hq43, hf⟩ := bd_o hf
    refine hs_ci (hs_runS C0 hH hS (n := 1) (As := [.int (M 21 0 (ix (a3 + (5 : Int32))))]) (rest := [.ref (YA Y 21 0)]) (c_X8_linkAt M (M 21 0 (ix (a3 + (5 : Int32)))) hq43) ⟨⟨zt_1662, zt_1663, zt_13, zt_1664⟩, by decide, by decide, by decide +kernel⟩ ⟨rfl, rfl, Nat.le_of_ble_eq_true rfl, Nat.le_of_ble_eq_true rfl⟩ rfl rfl hl.1 (Nat.le_of_ble_eq_true rfl) ⟨Nat.le_of_ble_eq_true rfl, Nat.le_of_ble_eq_true rfl⟩ dX8_passesHour_83) hS (fun H locs hH hS => ?_)
    refine lv_iconst (v := (1 : Int32)) hx hb dX8_passesHour_86 (by decide) ?_
    refine lv_iadd hx hb dX8_passesHour_87 ?_
    obtain ⟨hg45, hf⟩ := gd_o hf
    have bhg45 := vin_lt hg45
    refine hs_iald hx hb hK hH 21 0 (by decide) rfl hg45 rfl dX8_passesHour_88 ?_
    refine lv_goto (tgt := 93) hx hb dX8_passesHour_89 (by decide) ?_
    exact w_X8_passesHour_93 C0 k14 hk14 M a1 a2 a3 b0 (M 21 0 (ix (r44 + (1 : Int32)))) hf _ _ _ hH hS (lv_sub hl [1, 2, 3, 4, 0] rfl)
def f_X8_passesHour_63 (k14 : Mem → Int32 → Int32 → Option (Int32 × Mem)) (M : Mem) (a1 : Int32) (a2 : Int32) (a3 : Int32) : Option (Int32 × Mem) := f_X8_passesHour_64 k14 M a1 a2 a3 (0 : Int32)
set_option maxHeartbeats 4000000 in
set_option maxRecDepth 100000 in
theorem w_X8_passesHour_63 {Y : LY} {p : Program} {l : Launch} {e : Env} {s : State} {m : MethodId} {args : Array Value} {below : List Frame} {meth : Method} {c : Code} (C0 : BE Y p s m args meth c cX8_passesHour 6 (Option.some Jvm.ClassFile.FieldType.int) RX8) {r : Int32} {MZ : Mem} (k14 : Mem → Int32 → Int32 → Option (Int32 × Mem)) (hk14 : ∀ (M : Mem) (a1 : Int32) (a2 : Int32), k14 M a1 a2 = some (r, MZ) → ∀ (H : Heap) (locs : List Loc) (ls : Array Slot), HS Y M H → va_S (AZ Y) s.heap H locs → lv_has ls 6 [(0, .ref (YA Y 20 0)), (1, .int a1), (2, .int a2)] → W p l e { frames := 2, cells := 0, slots := 0, locals := 42 } s m args below meth c H locs 0 0 (MQ below (Qi Y r MZ) args s 0 0 (AZ Y)) (F0 m 14 ls [])) : ∀ (M : Mem) (a1 : Int32) (a2 : Int32) (a3 : Int32), f_X8_passesHour_63 k14 M a1 a2 a3 = some (r, MZ) → ∀ (H : Heap) (locs : List Loc) (ls : Array Slot), HS Y M H → va_S (AZ Y) s.heap H locs → lv_has ls 6 [(0, .ref (YA Y 20 0)), (1, .int a1), (2, .int a2), (3, .int a3)] → W p l e { frames := 2, cells := 0, slots := 0, locals := 42 } s m args below meth c H locs 0 0 (MQ below (Qi Y r MZ) args s 0 0 (AZ Y)) (F0 m 63 ls []) := by
  obtain ⟨hx, hb, hr, hml, hown, hA, hlocks, hK, hZ⟩ := id C0
  intro M a1 a2 a3 hf H locs ls hH hS hl
  unfold f_X8_passesHour_63 at hf
  refine lv_iconst (v := (0 : Int32)) hx hb dX8_passesHour_63 (by decide) ?_
  exact w_X8_passesHour_64 C0 k14 hk14 M a1 a2 a3 (0 : Int32) hf _ _ _ hH hS (lv_sub hl [0, 1, 2, 3] rfl)
def f_X8_passesHour_14 : Nat → Mem → Int32 → Int32 → Option (Int32 × Mem)
  | 0, _, _, _ => none
  | n + 1, M, a1, a2 => (if (M 21 0 2) ≤ a2 then some (a1, M) else bd (f_X8_parcelAt M a2) fun r48 => if vin (r48 + (4 : Int32)) 192 then ((if (M 21 0 (ix (r48 + (4 : Int32)))) = (-1 : Int32) then if vin (r48 + (6 : Int32)) 192 then ((if (M 21 0 (ix (r48 + (6 : Int32)))) = (M 21 0 4) then f_X8_passesHour_64 (f_X8_passesHour_14 n) M a1 a2 r48 (1 : Int32) else f_X8_passesHour_63 (f_X8_passesHour_14 n) M a1 a2 r48)) else none else f_X8_passesHour_63 (f_X8_passesHour_14 n) M a1 a2 r48)) else none)
set_option maxHeartbeats 4000000 in
set_option maxRecDepth 100000 in
theorem w_X8_passesHour_14 {Y : LY} {p : Program} {l : Launch} {e : Env} {s : State} {m : MethodId} {args : Array Value} {below : List Frame} {meth : Method} {c : Code} (C0 : BE Y p s m args meth c cX8_passesHour 6 (Option.some Jvm.ClassFile.FieldType.int) RX8) {r : Int32} {MZ : Mem} : ∀ (n : Nat) (M : Mem) (a1 : Int32) (a2 : Int32), f_X8_passesHour_14 n M a1 a2 = some (r, MZ) → ∀ (H : Heap) (locs : List Loc) (ls : Array Slot), HS Y M H → va_S (AZ Y) s.heap H locs → lv_has ls 6 [(0, .ref (YA Y 20 0)), (1, .int a1), (2, .int a2)] → W p l e { frames := 2, cells := 0, slots := 0, locals := 42 } s m args below meth c H locs 0 0 (MQ below (Qi Y r MZ) args s 0 0 (AZ Y)) (F0 m 14 ls []) := by
  obtain ⟨hx, hb, hr, hml, hown, hA, hlocks, hK, hZ⟩ := id C0
  intro n
  induction n with
  | zero =>
    intro M a1 a2 hf
    cases hf
  | succ n ih =>
    intro M a1 a2 hf H locs ls hH hS hl
    rw [f_X8_passesHour_14] at hf
    refine lv_iload_n hx hb dX8_passesHour_14 rfl (lv_at hl 2 rfl) ?_
    refine lv_aload_n hx hb dX8_passesHour_15 rfl (lv_at hl 0 rfl) ?_
    refine hs_get hx hb (T := TX8) hA inAX8 hown hK hH 20 0 (by decide) 12 rfl rfl 0 (by decide) (hA _ zt_1551) rfl rfl dX8_passesHour_16 ?_
    refine lv_iconst (v := (2 : Int32)) hx hb dX8_passesHour_19 (by decide) ?_
    refine hs_iald hx hb hK hH 21 0 (by decide) rfl (show vin (2 : Int32) 192 from by decide) (show ix (2 : Int32) = 2 from by decide) dX8_passesHour_20 ?_
    refine lv_icmp_ge (tgt := 174) hx hb dX8_passesHour_21 (by decide) (fun hc53 => ?_) (fun hc53 => ?_)
    · have hf := if_t hf hc53
      refine lv_iload_n hx hb dX8_passesHour_174 rfl (lv_at hl 1 rfl) ?_
      cases hf
      exact hs_iret C0 hH hS (by decide) (by decide) dX8_passesHour_175
    · have hf := if_f hf hc53
      refine lv_iload_n hx hb dX8_passesHour_24 rfl (lv_at hl 2 rfl) ?_
      obtain ⟨r48, hq47, hf⟩ := bd_o hf
      refine hs_ci (hs_runS C0 hH hS (n := 1) (As := [.int a2]) (rest := []) (c_X8_parcelAt M a2 hq47) ⟨⟨zt_1694, zt_1695, zt_13, zt_1696⟩, by decide, by decide, by decide +kernel⟩ ⟨rfl, rfl, Nat.le_of_ble_eq_true rfl, Nat.le_of_ble_eq_true rfl⟩ rfl rfl hl.1 (Nat.le_of_ble_eq_true rfl) ⟨Nat.le_of_ble_eq_true rfl, Nat.le_of_ble_eq_true rfl⟩ dX8_passesHour_25) hS (fun H locs hH hS => ?_)
      refine lv_istore_n (lv' := [(3, .int r48), (0, .ref (YA Y 20 0)), (1, .int a1), (2, .int a2)]) hx hb dX8_passesHour_28 rfl hl (by decide) rfl (fun ls hl => ?_)
      refine lv_aload_n hx hb dX8_passesHour_29 rfl (lv_at hl 1 rfl) ?_
      refine hs_get hx hb (T := TX8) hA inAX8 hown hK hH 20 0 (by decide) 12 rfl rfl 0 (by decide) (hA _ zt_1551) rfl rfl dX8_passesHour_30 ?_
      refine lv_iload_n hx hb dX8_passesHour_33 rfl (lv_at hl 0 rfl) ?_
      refine lv_iconst (v := (4 : Int32)) hx hb dX8_passesHour_34 (by decide) ?_
      refine lv_iadd hx hb dX8_passesHour_35 ?_
      obtain ⟨hg49, hf⟩ := gd_o hf
      have bhg49 := vin_lt hg49
      refine hs_iald hx hb hK hH 21 0 (by decide) rfl hg49 rfl dX8_passesHour_36 ?_
      refine lv_iconst (v := (-1 : Int32)) hx hb dX8_passesHour_37 (by decide) ?_
      refine lv_icmp_ne (tgt := 63) hx hb dX8_passesHour_38 (by decide) (fun hc52 => ?_) (fun hc52 => ?_)
      · have hf := if_f hf hc52
        exact w_X8_passesHour_63 C0 (f_X8_passesHour_14 n) ih M a1 a2 r48 hf _ _ _ hH hS (lv_sub hl [1, 2, 3, 0] rfl)
      · have hf := if_t hf hc52
        refine lv_aload_n hx hb dX8_passesHour_41 rfl (lv_at hl 1 rfl) ?_
        refine hs_get hx hb (T := TX8) hA inAX8 hown hK hH 20 0 (by decide) 12 rfl rfl 0 (by decide) (hA _ zt_1551) rfl rfl dX8_passesHour_42 ?_
        refine lv_iload_n hx hb dX8_passesHour_45 rfl (lv_at hl 0 rfl) ?_
        refine lv_bipush (v := (6 : Int32)) hx hb dX8_passesHour_46 (by decide) ?_
        refine lv_iadd hx hb dX8_passesHour_48 ?_
        obtain ⟨hg50, hf⟩ := gd_o hf
        have bhg50 := vin_lt hg50
        refine hs_iald hx hb hK hH 21 0 (by decide) rfl hg50 rfl dX8_passesHour_49 ?_
        refine lv_aload_n hx hb dX8_passesHour_50 rfl (lv_at hl 1 rfl) ?_
        refine hs_get hx hb (T := TX8) hA inAX8 hown hK hH 20 0 (by decide) 12 rfl rfl 0 (by decide) (hA _ zt_1551) rfl rfl dX8_passesHour_51 ?_
        refine lv_iconst (v := (4 : Int32)) hx hb dX8_passesHour_54 (by decide) ?_
        refine hs_iald hx hb hK hH 21 0 (by decide) rfl (show vin (4 : Int32) 192 from by decide) (show ix (4 : Int32) = 4 from by decide) dX8_passesHour_55 ?_
        refine lv_icmp_ne (tgt := 63) hx hb dX8_passesHour_56 (by decide) (fun hc51 => ?_) (fun hc51 => ?_)
        · have hf := if_f hf hc51
          exact w_X8_passesHour_63 C0 (f_X8_passesHour_14 n) ih M a1 a2 r48 hf _ _ _ hH hS (lv_sub hl [1, 2, 3, 0] rfl)
        · have hf := if_t hf hc51
          refine lv_iconst (v := (1 : Int32)) hx hb dX8_passesHour_59 (by decide) ?_
          refine lv_goto (tgt := 64) hx hb dX8_passesHour_60 (by decide) ?_
          exact w_X8_passesHour_64 C0 (f_X8_passesHour_14 n) ih M a1 a2 r48 (1 : Int32) hf _ _ _ hH hS (lv_sub hl [1, 2, 3, 0] rfl)
def f_X8_passesHour (M : Mem) : Option (Int32 × Mem) := nm (mu M 21 0 4 ((M 21 0 4) + (1 : Int32))) fun M54 => f_X8_passesHour_14 FU M54 (0 : Int32) (0 : Int32)
set_option maxHeartbeats 4000000 in
set_option maxRecDepth 100000 in
theorem c_X8_passesHour {Y : LY} {l : Launch} (M : Mem) {r : Int32} {MZ : Mem} (hf : f_X8_passesHour M = some (r, MZ)) : Met l yX8_passesHour (WS yX8_passesHour cX8_passesHour 6 (Option.some Jvm.ClassFile.FieldType.int)) { frames := 2, cells := 0, slots := 0, locals := 42 } (PcM Y M [.ref (YA Y 20 0)]) (Qi Y r MZ) 0 0 (AZ Y) := by
  refine met_mk (lv := [(0, .ref (YA Y 20 0))]) [.ref (YA Y 20 0)] (by decide) rfl rfl (Nat.le_of_ble_eq_true rfl) (fun p e s m below meth c C0 hH ls hl => ?_)
  have hS : va_S (AZ Y) s.heap s.heap [] := va_S.rf
  obtain ⟨hx, hb, hr, hml, hown, hA, hlocks, hK, hZ⟩ := id C0
  unfold f_X8_passesHour at hf
  refine lv_aload_n hx hb dX8_passesHour_0 rfl (lv_at hl 0 rfl) ?_
  refine hs_get hx hb (T := TX8) hA inAX8 hown hK hH 20 0 (by decide) 12 rfl rfl 0 (by decide) (hA _ zt_1551) rfl rfl dX8_passesHour_1 ?_
  refine lv_iconst (v := (4 : Int32)) hx hb dX8_passesHour_4 (by decide) ?_
  refine lv_dup2_11 hx hb dX8_passesHour_5 rfl rfl ?_
  refine hs_iald hx hb hK hH 21 0 (by decide) rfl (show vin (4 : Int32) 192 from by decide) (show ix (4 : Int32) = 4 from by decide) dX8_passesHour_6 ?_
  refine lv_iconst (v := (1 : Int32)) hx hb dX8_passesHour_7 (by decide) ?_
  refine lv_iadd hx hb dX8_passesHour_8 ?_
  refine hs_iast hx hb hK hH hS 21 0 (by decide) (fun _ => rfl) (show vin (4 : Int32) 192 from by decide) (show ix (4 : Int32) = 4 from by decide) dX8_passesHour_9 (fun H locs hH hS => ?_)
  obtain ⟨M54, eM54, hf⟩ := nm_o hf
  rw [← eM54] at hH
  refine lv_iconst (v := (0 : Int32)) hx hb dX8_passesHour_10 (by decide) ?_
  refine lv_istore_n (lv' := [(1, .int (0 : Int32)), (0, .ref (YA Y 20 0))]) hx hb dX8_passesHour_11 rfl hl (by decide) rfl (fun ls hl => ?_)
  refine lv_iconst (v := (0 : Int32)) hx hb dX8_passesHour_12 (by decide) ?_
  refine lv_istore_n (lv' := [(2, .int (0 : Int32)), (1, .int (0 : Int32)), (0, .ref (YA Y 20 0))]) hx hb dX8_passesHour_13 rfl hl (by decide) rfl (fun ls hl => ?_)
  exact w_X8_passesHour_14 C0 FU M54 (0 : Int32) (0 : Int32) hf _ _ _ hH hS (lv_sub hl [2, 1, 0] rfl)
def f_X8_passIt_22 : Nat → Mem → Int32 → Int32 → Int32 → Option (Int32 × Mem)
  | 0, _, _, _, _ => none
  | n + 1, M, a1, a2, a3 => (if a1 ≤ a3 then some (a2, M) else bd2 (f_X8_passesHour M) fun r13 M12 => f_X8_passIt_22 n M12 a1 (a2 + r13) (a3 + (1 : Int32)))
set_option maxHeartbeats 4000000 in
set_option maxRecDepth 100000 in
theorem w_X8_passIt_22 {Y : LY} {p : Program} {l : Launch} {e : Env} {s : State} {m : MethodId} {args : Array Value} {below : List Frame} {meth : Method} {c : Code} (C0 : BE Y p s m args meth c cX8_passIt 4 (Option.some Jvm.ClassFile.FieldType.int) RX8) {r : Int32} {MZ : Mem} : ∀ (n : Nat) (M : Mem) (a1 : Int32) (a2 : Int32) (a3 : Int32), f_X8_passIt_22 n M a1 a2 a3 = some (r, MZ) → ∀ (H : Heap) (locs : List Loc) (ls : Array Slot), HS Y M H → va_S (AZ Y) s.heap H locs → lv_has ls 4 [(0, .ref (YA Y 20 0)), (1, .int a1), (2, .int a2), (3, .int a3)] → W p l e { frames := 3, cells := 0, slots := 0, locals := 67 } s m args below meth c H locs 0 0 (MQ below (Qi Y r MZ) args s 0 0 (AZ Y)) (F0 m 22 ls []) := by
  obtain ⟨hx, hb, hr, hml, hown, hA, hlocks, hK, hZ⟩ := id C0
  intro n
  induction n with
  | zero =>
    intro M a1 a2 a3 hf
    cases hf
  | succ n ih =>
    intro M a1 a2 a3 hf H locs ls hH hS hl
    rw [f_X8_passIt_22] at hf
    refine lv_iload_n hx hb dX8_passIt_22 rfl (lv_at hl 3 rfl) ?_
    refine lv_iload_n hx hb dX8_passIt_23 rfl (lv_at hl 1 rfl) ?_
    refine lv_icmp_ge (tgt := 40) hx hb dX8_passIt_24 (by decide) (fun hc14 => ?_) (fun hc14 => ?_)
    · have hf := if_t hf hc14
      refine lv_iload_n hx hb dX8_passIt_40 rfl (lv_at hl 2 rfl) ?_
      cases hf
      exact hs_iret C0 hH hS (by decide) (by decide) dX8_passIt_41
    · have hf := if_f hf hc14
      refine lv_iload_n hx hb dX8_passIt_27 rfl (lv_at hl 2 rfl) ?_
      refine lv_aload_n hx hb dX8_passIt_28 rfl (lv_at hl 0 rfl) ?_
      obtain ⟨r13, M12, hq11, hf⟩ := bd2_o hf
      refine hs_ci (hs_runV C0 hH hS (n := 0) (As := []) (rest := [.int a2]) (c_X8_passesHour M hq11) ⟨⟨zt_1784, zt_1786, zs_58, zt_13, zt_1787⟩, rfl, by decide, by decide, by decide +kernel⟩ ⟨rfl, rfl, Nat.le_of_ble_eq_true rfl, Nat.le_of_ble_eq_true rfl⟩ (hs_recv hK hH 20 0 (by decide) 12 rfl rfl) rfl rfl hl.1 (Nat.le_of_ble_eq_true rfl) ⟨Nat.le_of_ble_eq_true rfl, Nat.le_of_ble_eq_true rfl⟩ dX8_passIt_29) hS (fun H locs hH hS => ?_)
      refine lv_iadd hx hb dX8_passIt_32 ?_
      refine lv_istore_n (lv' := [(2, .int (a2 + r13)), (0, .ref (YA Y 20 0)), (1, .int a1), (3, .int a3)]) hx hb dX8_passIt_33 rfl hl (by decide) rfl (fun ls hl => ?_)
      refine lv_iinc (v := a3 + (1 : Int32)) (lv' := [(3, .int (a3 + (1 : Int32))), (2, .int (a2 + r13)), (0, .ref (YA Y 20 0)), (1, .int a1)]) hx hb dX8_passIt_34 hl (k := 3) rfl rfl (by decide) rfl (fun ls hl => ?_)
      refine lv_goto (tgt := 22) hx hb dX8_passIt_37 (by decide) ?_
      exact ih M12 a1 (a2 + r13) (a3 + (1 : Int32)) hf _ _ _ hH hS (lv_sub hl [2, 3, 1, 0] rfl)
def f_X8_passIt (M : Mem) (a1 : Int32) : Option (Int32 × Mem) := bd (f_X8_in M a1.toInt64 (1 : Int64) (120 : Int64)) fun r16 => (if r16 = 0 then bd2 (f_X8_throwing M (1 : Int32)) fun r19 M18 => some (r19, M18) else f_X8_passIt_22 FU M a1 (0 : Int32) (0 : Int32))
set_option maxHeartbeats 4000000 in
set_option maxRecDepth 100000 in
theorem c_X8_passIt {Y : LY} {l : Launch} (M : Mem) (a1 : Int32) {r : Int32} {MZ : Mem} (hf : f_X8_passIt M a1 = some (r, MZ)) : Met l yX8_passIt (WS yX8_passIt cX8_passIt 4 (Option.some Jvm.ClassFile.FieldType.int)) { frames := 3, cells := 0, slots := 0, locals := 67 } (PcM Y M [.ref (YA Y 20 0), .int a1]) (Qi Y r MZ) 0 0 (AZ Y) := by
  refine met_mk (lv := [(0, .ref (YA Y 20 0)), (1, .int a1)]) [.ref (YA Y 20 0), .int a1] (by decide) rfl rfl (Nat.le_of_ble_eq_true rfl) (fun p e s m below meth c C0 hH ls hl => ?_)
  have hS : va_S (AZ Y) s.heap s.heap [] := va_S.rf
  obtain ⟨hx, hb, hr, hml, hown, hA, hlocks, hK, hZ⟩ := id C0
  unfold f_X8_passIt at hf
  refine lv_iload_n hx hb dX8_passIt_0 rfl (lv_at hl 1 rfl) ?_
  refine lv_i2l (v := a1.toInt64) hx hb dX8_passIt_1 rfl ?_
  refine lv_lconst (v := (1 : Int64)) hx hb dX8_passIt_2 (by decide) ?_
  refine lv_ldc2 (v := (120 : Int64)) hx hb hown (hA _ zt_1783) dX8_passIt_3 ?_
  obtain ⟨r16, hq15, hf⟩ := bd_o hf
  refine hs_ci (hs_runS C0 hH hS (n := 3) (As := [.long a1.toInt64, .long (1 : Int64), .long (120 : Int64)]) (rest := []) (c_X8_in M a1.toInt64 (1 : Int64) (120 : Int64) hq15) ⟨⟨zt_1657, zt_1658, zt_13, zt_1659⟩, by decide, by decide, by decide +kernel⟩ ⟨rfl, rfl, Nat.le_of_ble_eq_true rfl, Nat.le_of_ble_eq_true rfl⟩ rfl rfl hl.1 (Nat.le_of_ble_eq_true rfl) ⟨Nat.le_of_ble_eq_true rfl, Nat.le_of_ble_eq_true rfl⟩ dX8_passIt_6) hS (fun H locs hH hS => ?_)
  refine lv_if_ne (tgt := 18) hx hb dX8_passIt_9 (by decide) (fun hc20 => ?_) (fun hc20 => ?_)
  · have hf := if_f hf hc20
    refine lv_iconst (v := (0 : Int32)) hx hb dX8_passIt_18 (by decide) ?_
    refine lv_istore_n (lv' := [(2, .int (0 : Int32)), (0, .ref (YA Y 20 0)), (1, .int a1)]) hx hb dX8_passIt_19 rfl hl (by decide) rfl (fun ls hl => ?_)
    refine lv_iconst (v := (0 : Int32)) hx hb dX8_passIt_20 (by decide) ?_
    refine lv_istore_n (lv' := [(3, .int (0 : Int32)), (2, .int (0 : Int32)), (0, .ref (YA Y 20 0)), (1, .int a1)]) hx hb dX8_passIt_21 rfl hl (by decide) rfl (fun ls hl => ?_)
    exact w_X8_passIt_22 C0 FU M a1 (0 : Int32) (0 : Int32) hf _ _ _ hH hS (lv_sub hl [2, 3, 1, 0] rfl)
  · have hf := if_t hf hc20
    refine lv_aload_n hx hb dX8_passIt_12 rfl (lv_at hl 0 rfl) ?_
    refine lv_iconst (v := (1 : Int32)) hx hb dX8_passIt_13 (by decide) ?_
    obtain ⟨r19, M18, hq17, hf⟩ := bd2_o hf
    refine hs_ci (hs_runV C0 hH hS (n := 1) (As := [.int (1 : Int32)]) (rest := []) (c_X8_throwing M (1 : Int32) hq17) ⟨⟨zt_1637, zt_1639, zs_34, zt_13, zt_1640⟩, rfl, by decide, by decide, by decide +kernel⟩ ⟨rfl, rfl, Nat.le_of_ble_eq_true rfl, Nat.le_of_ble_eq_true rfl⟩ (hs_recv hK hH 20 0 (by decide) 12 rfl rfl) rfl rfl hl.1 (Nat.le_of_ble_eq_true rfl) ⟨Nat.le_of_ble_eq_true rfl, Nat.le_of_ble_eq_true rfl⟩ dX8_passIt_14) hS (fun H locs hH hS => ?_)
    cases hf
    exact hs_iret C0 hH hS (by decide) (by decide) dX8_passIt_17
def f_X8_pass (M : Mem) (a1 : Int32) : Option (Int32 × Mem) := bd (f_X8_starts M) fun M11 => bd2 (f_X8_passIt M11 a1) fun r15 M14 => bd2 (f_X8_changed M14 r15) fun r18 M17 => some (r18, M17)
set_option maxHeartbeats 4000000 in
set_option maxRecDepth 100000 in
theorem c_X8_pass {Y : LY} {l : Launch} (M : Mem) (a1 : Int32) {r : Int32} {MZ : Mem} (hf : f_X8_pass M a1 = some (r, MZ)) : Met l yX8_pass (WS yX8_pass cX8_pass 2 (Option.some Jvm.ClassFile.FieldType.int)) { frames := 4, cells := 0, slots := 0, locals := 90 } (PcM Y M [.ref (YA Y 20 0), .int a1]) (Qi Y r MZ) 0 0 (AZ Y) := by
  refine met_mk (lv := [(0, .ref (YA Y 20 0)), (1, .int a1)]) [.ref (YA Y 20 0), .int a1] (by decide) rfl rfl (Nat.le_of_ble_eq_true rfl) (fun p e s m below meth c C0 hH ls hl => ?_)
  have hS : va_S (AZ Y) s.heap s.heap [] := va_S.rf
  obtain ⟨hx, hb, hr, hml, hown, hA, hlocks, hK, hZ⟩ := id C0
  unfold f_X8_pass at hf
  refine lv_aload_n hx hb dX8_pass_0 rfl (lv_at hl 0 rfl) ?_
  obtain ⟨M11, hq10, hf⟩ := bd_o hf
  refine hs_cv (hs_runV C0 hH hS (n := 0) (As := []) (rest := []) (c_X8_starts M hq10) ⟨⟨zt_1629, zt_1631, zs_32, zt_13, zt_1632⟩, rfl, by decide, by decide, by decide +kernel⟩ ⟨rfl, rfl, Nat.le_of_ble_eq_true rfl, Nat.le_of_ble_eq_true rfl⟩ (hs_recv hK hH 20 0 (by decide) 12 rfl rfl) rfl rfl hl.1 (Nat.le_of_ble_eq_true rfl) ⟨Nat.le_of_ble_eq_true rfl, Nat.le_of_ble_eq_true rfl⟩ dX8_pass_1) hS (fun H locs hH hS => ?_)
  refine lv_aload_n hx hb dX8_pass_4 rfl (lv_at hl 0 rfl) ?_
  refine lv_aload_n hx hb dX8_pass_5 rfl (lv_at hl 0 rfl) ?_
  refine lv_iload_n hx hb dX8_pass_6 rfl (lv_at hl 1 rfl) ?_
  obtain ⟨r15, M14, hq13, hf⟩ := bd2_o hf
  refine hs_ci (hs_runV C0 hH hS (n := 1) (As := [.int a1]) (rest := [.ref (YA Y 20 0)]) (c_X8_passIt M11 a1 hq13) ⟨⟨zt_1779, zt_1781, zs_57, zt_13, zt_1782⟩, rfl, by decide, by decide, by decide +kernel⟩ ⟨rfl, rfl, Nat.le_of_ble_eq_true rfl, Nat.le_of_ble_eq_true rfl⟩ (hs_recv hK hH 20 0 (by decide) 12 rfl rfl) rfl rfl hl.1 (Nat.le_of_ble_eq_true rfl) ⟨Nat.le_of_ble_eq_true rfl, Nat.le_of_ble_eq_true rfl⟩ dX8_pass_7) hS (fun H locs hH hS => ?_)
  obtain ⟨r18, M17, hq16, hf⟩ := bd2_o hf
  refine hs_ci (hs_runV C0 hH hS (n := 1) (As := [.int r15]) (rest := []) (c_X8_changed M14 r15 hq16) ⟨⟨zt_1641, zt_1643, zs_35, zt_13, zt_1644⟩, rfl, by decide, by decide, by decide +kernel⟩ ⟨rfl, rfl, Nat.le_of_ble_eq_true rfl, Nat.le_of_ble_eq_true rfl⟩ (hs_recv hK hH 20 0 (by decide) 12 rfl rfl) rfl rfl hl.1 (Nat.le_of_ble_eq_true rfl) ⟨Nat.le_of_ble_eq_true rfl, Nat.le_of_ble_eq_true rfl⟩ dX8_pass_10) hS (fun H locs hH hS => ?_)
  cases hf
  exact hs_iret C0 hH hS (by decide) (by decide) dX8_pass_13
def f_X8_total (M : Mem) (a1 : Int32) : Option (Int32 × Mem) := nm (mu M 20 0 9 (0 : Int32)) fun M3 => if vin a1 192 then (some ((M3 21 0 (ix a1)), M3)) else none
set_option maxHeartbeats 4000000 in
set_option maxRecDepth 100000 in
theorem c_X8_total {Y : LY} {l : Launch} (M : Mem) (a1 : Int32) {r : Int32} {MZ : Mem} (hf : f_X8_total M a1 = some (r, MZ)) : Met l yX8_total (WS yX8_total cX8_total 2 (Option.some Jvm.ClassFile.FieldType.int)) { frames := 0, cells := 0, slots := 0, locals := 0 } (PcM Y M [.ref (YA Y 20 0), .int a1]) (Qi Y r MZ) 0 0 (AZ Y) := by
  refine met_mk (lv := [(0, .ref (YA Y 20 0)), (1, .int a1)]) [.ref (YA Y 20 0), .int a1] (by decide) rfl rfl (Nat.le_of_ble_eq_true rfl) (fun p e s m below meth c C0 hH ls hl => ?_)
  have hS : va_S (AZ Y) s.heap s.heap [] := va_S.rf
  obtain ⟨hx, hb, hr, hml, hown, hA, hlocks, hK, hZ⟩ := id C0
  unfold f_X8_total at hf
  refine lv_aload_n hx hb dX8_total_0 rfl (lv_at hl 0 rfl) ?_
  refine lv_iconst (v := (0 : Int32)) hx hb dX8_total_1 (by decide) ?_
  refine hs_put hx hb (T := TX8) hA inAX8 tyX8 tyX8_ok nmX8 hown hK hH hS 20 0 (by decide) 12 rfl rfl 9 (by decide) (hA _ zt_1560) rfl rfl (by decide +kernel) (Nat.le_of_ble_eq_true rfl) rfl dX8_total_2 (fun H locs hH hS => ?_)
  obtain ⟨M3, eM3, hf⟩ := nm_o hf
  rw [← eM3] at hH
  refine lv_aload_n hx hb dX8_total_5 rfl (lv_at hl 0 rfl) ?_
  refine hs_get hx hb (T := TX8) hA inAX8 hown hK hH 20 0 (by decide) 12 rfl rfl 0 (by decide) (hA _ zt_1551) rfl rfl dX8_total_6 ?_
  refine lv_iload_n hx hb dX8_total_9 rfl (lv_at hl 1 rfl) ?_
  obtain ⟨hg4, hf⟩ := gd_o hf
  have bhg4 := vin_lt hg4
  refine hs_iald hx hb hK hH 21 0 (by decide) rfl hg4 rfl dX8_total_10 ?_
  cases hf
  exact hs_iret C0 hH hS (by decide) (by decide) dX8_total_11
def f_X8_hour (M : Mem) : Option (Int32 × Mem) := bd2 (f_X8_total M (4 : Int32)) fun r6 M5 => some (r6, M5)
set_option maxHeartbeats 4000000 in
set_option maxRecDepth 100000 in
theorem c_X8_hour {Y : LY} {l : Launch} (M : Mem) {r : Int32} {MZ : Mem} (hf : f_X8_hour M = some (r, MZ)) : Met l yX8_hour (WS yX8_hour cX8_hour 1 (Option.some Jvm.ClassFile.FieldType.int)) { frames := 1, cells := 0, slots := 0, locals := 21 } (PcM Y M [.ref (YA Y 20 0)]) (Qi Y r MZ) 0 0 (AZ Y) := by
  refine met_mk (lv := [(0, .ref (YA Y 20 0))]) [.ref (YA Y 20 0)] (by decide) rfl rfl (Nat.le_of_ble_eq_true rfl) (fun p e s m below meth c C0 hH ls hl => ?_)
  have hS : va_S (AZ Y) s.heap s.heap [] := va_S.rf
  obtain ⟨hx, hb, hr, hml, hown, hA, hlocks, hK, hZ⟩ := id C0
  unfold f_X8_hour at hf
  refine lv_aload_n hx hb dX8_hour_0 rfl (lv_at hl 0 rfl) ?_
  refine lv_iconst (v := (4 : Int32)) hx hb dX8_hour_1 (by decide) ?_
  obtain ⟨r6, M5, hq4, hf⟩ := bd2_o hf
  refine hs_ci (hs_runV C0 hH hS (n := 1) (As := [.int (4 : Int32)]) (rest := []) (c_X8_total M (4 : Int32) hq4) ⟨⟨zt_1792, zt_1794, zs_59, zt_13, zt_1795⟩, rfl, by decide, by decide, by decide +kernel⟩ ⟨rfl, rfl, Nat.le_of_ble_eq_true rfl, Nat.le_of_ble_eq_true rfl⟩ (hs_recv hK hH 20 0 (by decide) 12 rfl rfl) rfl rfl hl.1 (Nat.le_of_ble_eq_true rfl) ⟨Nat.le_of_ble_eq_true rfl, Nat.le_of_ble_eq_true rfl⟩ dX8_hour_2) hS (fun H locs hH hS => ?_)
  cases hf
  exact hs_iret C0 hH hS (by decide) (by decide) dX8_hour_5
def f_X8_placeCount (M : Mem) : Option (Int32 × Mem) := bd2 (f_X8_total M (0 : Int32)) fun r6 M5 => some (r6, M5)
set_option maxHeartbeats 4000000 in
set_option maxRecDepth 100000 in
theorem c_X8_placeCount {Y : LY} {l : Launch} (M : Mem) {r : Int32} {MZ : Mem} (hf : f_X8_placeCount M = some (r, MZ)) : Met l yX8_placeCount (WS yX8_placeCount cX8_placeCount 1 (Option.some Jvm.ClassFile.FieldType.int)) { frames := 1, cells := 0, slots := 0, locals := 21 } (PcM Y M [.ref (YA Y 20 0)]) (Qi Y r MZ) 0 0 (AZ Y) := by
  refine met_mk (lv := [(0, .ref (YA Y 20 0))]) [.ref (YA Y 20 0)] (by decide) rfl rfl (Nat.le_of_ble_eq_true rfl) (fun p e s m below meth c C0 hH ls hl => ?_)
  have hS : va_S (AZ Y) s.heap s.heap [] := va_S.rf
  obtain ⟨hx, hb, hr, hml, hown, hA, hlocks, hK, hZ⟩ := id C0
  unfold f_X8_placeCount at hf
  refine lv_aload_n hx hb dX8_placeCount_0 rfl (lv_at hl 0 rfl) ?_
  refine lv_iconst (v := (0 : Int32)) hx hb dX8_placeCount_1 (by decide) ?_
  obtain ⟨r6, M5, hq4, hf⟩ := bd2_o hf
  refine hs_ci (hs_runV C0 hH hS (n := 1) (As := [.int (0 : Int32)]) (rest := []) (c_X8_total M (0 : Int32) hq4) ⟨⟨zt_1792, zt_1794, zs_59, zt_13, zt_1795⟩, rfl, by decide, by decide, by decide +kernel⟩ ⟨rfl, rfl, Nat.le_of_ble_eq_true rfl, Nat.le_of_ble_eq_true rfl⟩ (hs_recv hK hH 20 0 (by decide) 12 rfl rfl) rfl rfl hl.1 (Nat.le_of_ble_eq_true rfl) ⟨Nat.le_of_ble_eq_true rfl, Nat.le_of_ble_eq_true rfl⟩ dX8_placeCount_2) hS (fun H locs hH hS => ?_)
  cases hf
  exact hs_iret C0 hH hS (by decide) (by decide) dX8_placeCount_5
def f_X8_linkCount (M : Mem) : Option (Int32 × Mem) := bd2 (f_X8_total M (1 : Int32)) fun r6 M5 => some (r6, M5)
set_option maxHeartbeats 4000000 in
set_option maxRecDepth 100000 in
theorem c_X8_linkCount {Y : LY} {l : Launch} (M : Mem) {r : Int32} {MZ : Mem} (hf : f_X8_linkCount M = some (r, MZ)) : Met l yX8_linkCount (WS yX8_linkCount cX8_linkCount 1 (Option.some Jvm.ClassFile.FieldType.int)) { frames := 1, cells := 0, slots := 0, locals := 21 } (PcM Y M [.ref (YA Y 20 0)]) (Qi Y r MZ) 0 0 (AZ Y) := by
  refine met_mk (lv := [(0, .ref (YA Y 20 0))]) [.ref (YA Y 20 0)] (by decide) rfl rfl (Nat.le_of_ble_eq_true rfl) (fun p e s m below meth c C0 hH ls hl => ?_)
  have hS : va_S (AZ Y) s.heap s.heap [] := va_S.rf
  obtain ⟨hx, hb, hr, hml, hown, hA, hlocks, hK, hZ⟩ := id C0
  unfold f_X8_linkCount at hf
  refine lv_aload_n hx hb dX8_linkCount_0 rfl (lv_at hl 0 rfl) ?_
  refine lv_iconst (v := (1 : Int32)) hx hb dX8_linkCount_1 (by decide) ?_
  obtain ⟨r6, M5, hq4, hf⟩ := bd2_o hf
  refine hs_ci (hs_runV C0 hH hS (n := 1) (As := [.int (1 : Int32)]) (rest := []) (c_X8_total M (1 : Int32) hq4) ⟨⟨zt_1792, zt_1794, zs_59, zt_13, zt_1795⟩, rfl, by decide, by decide, by decide +kernel⟩ ⟨rfl, rfl, Nat.le_of_ble_eq_true rfl, Nat.le_of_ble_eq_true rfl⟩ (hs_recv hK hH 20 0 (by decide) 12 rfl rfl) rfl rfl hl.1 (Nat.le_of_ble_eq_true rfl) ⟨Nat.le_of_ble_eq_true rfl, Nat.le_of_ble_eq_true rfl⟩ dX8_linkCount_2) hS (fun H locs hH hS => ?_)
  cases hf
  exact hs_iret C0 hH hS (by decide) (by decide) dX8_linkCount_5
def f_X8_ofLink (M : Mem) (a1 : Int32) (a2 : Int32) : Option (Int32 × Mem) := nm (mu M 20 0 9 (0 : Int32)) fun M11 => bd (f_X8_isLink M11 a1) fun r13 => (if r13 = 0 then bd2 (f_X8_throwing M11 (1 : Int32)) fun r16 M15 => some (r16, M15) else bd (f_X8_linkAt M11 a1) fun r18 => if vin (r18 + a2) 192 then (some ((M11 21 0 (ix (r18 + a2))), M11)) else none)
set_option maxHeartbeats 4000000 in
set_option maxRecDepth 100000 in
theorem c_X8_ofLink {Y : LY} {l : Launch} (M : Mem) (a1 : Int32) (a2 : Int32) {r : Int32} {MZ : Mem} (hf : f_X8_ofLink M a1 a2 = some (r, MZ)) : Met l yX8_ofLink (WS yX8_ofLink cX8_ofLink 3 (Option.some Jvm.ClassFile.FieldType.int)) { frames := 2, cells := 0, slots := 0, locals := 46 } (PcM Y M [.ref (YA Y 20 0), .int a1, .int a2]) (Qi Y r MZ) 0 0 (AZ Y) := by
  refine met_mk (lv := [(0, .ref (YA Y 20 0)), (1, .int a1), (2, .int a2)]) [.ref (YA Y 20 0), .int a1, .int a2] (by decide) rfl rfl (Nat.le_of_ble_eq_true rfl) (fun p e s m below meth c C0 hH ls hl => ?_)
  have hS : va_S (AZ Y) s.heap s.heap [] := va_S.rf
  obtain ⟨hx, hb, hr, hml, hown, hA, hlocks, hK, hZ⟩ := id C0
  unfold f_X8_ofLink at hf
  refine lv_aload_n hx hb dX8_ofLink_0 rfl (lv_at hl 0 rfl) ?_
  refine lv_iconst (v := (0 : Int32)) hx hb dX8_ofLink_1 (by decide) ?_
  refine hs_put hx hb (T := TX8) hA inAX8 tyX8 tyX8_ok nmX8 hown hK hH hS 20 0 (by decide) 12 rfl rfl 9 (by decide) (hA _ zt_1560) rfl rfl (by decide +kernel) (Nat.le_of_ble_eq_true rfl) rfl dX8_ofLink_2 (fun H locs hH hS => ?_)
  obtain ⟨M11, eM11, hf⟩ := nm_o hf
  rw [← eM11] at hH
  refine lv_aload_n hx hb dX8_ofLink_5 rfl (lv_at hl 0 rfl) ?_
  refine lv_iload_n hx hb dX8_ofLink_6 rfl (lv_at hl 1 rfl) ?_
  obtain ⟨r13, hq12, hf⟩ := bd_o hf
  refine hs_ci (hs_runV C0 hH hS (n := 1) (As := [.int a1]) (rest := []) (c_X8_isLink M11 a1 hq12) ⟨⟨zt_1673, zt_1675, zs_39, zt_13, zt_1676⟩, rfl, by decide, by decide, by decide +kernel⟩ ⟨rfl, rfl, Nat.le_of_ble_eq_true rfl, Nat.le_of_ble_eq_true rfl⟩ (hs_recv hK hH 20 0 (by decide) 12 rfl rfl) rfl rfl hl.1 (Nat.le_of_ble_eq_true rfl) ⟨Nat.le_of_ble_eq_true rfl, Nat.le_of_ble_eq_true rfl⟩ dX8_ofLink_7) hS (fun H locs hH hS => ?_)
  refine lv_if_eq (tgt := 27) hx hb dX8_ofLink_10 (by decide) (fun hc20 => ?_) (fun hc20 => ?_)
  · have hf := if_t hf hc20
    refine lv_aload_n hx hb dX8_ofLink_27 rfl (lv_at hl 0 rfl) ?_
    refine lv_iconst (v := (1 : Int32)) hx hb dX8_ofLink_28 (by decide) ?_
    obtain ⟨r16, M15, hq14, hf⟩ := bd2_o hf
    refine hs_ci (hs_runV C0 hH hS (n := 1) (As := [.int (1 : Int32)]) (rest := []) (c_X8_throwing M11 (1 : Int32) hq14) ⟨⟨zt_1637, zt_1639, zs_34, zt_13, zt_1640⟩, rfl, by decide, by decide, by decide +kernel⟩ ⟨rfl, rfl, Nat.le_of_ble_eq_true rfl, Nat.le_of_ble_eq_true rfl⟩ (hs_recv hK hH 20 0 (by decide) 12 rfl rfl) rfl rfl hl.1 (Nat.le_of_ble_eq_true rfl) ⟨Nat.le_of_ble_eq_true rfl, Nat.le_of_ble_eq_true rfl⟩ dX8_ofLink_29) hS (fun H locs hH hS => ?_)
    cases hf
    exact hs_iret C0 hH hS (by decide) (by decide) dX8_ofLink_32
  · have hf := if_f hf hc20
    refine lv_aload_n hx hb dX8_ofLink_13 rfl (lv_at hl 0 rfl) ?_
    refine hs_get hx hb (T := TX8) hA inAX8 hown hK hH 20 0 (by decide) 12 rfl rfl 0 (by decide) (hA _ zt_1551) rfl rfl dX8_ofLink_14 ?_
    refine lv_iload_n hx hb dX8_ofLink_17 rfl (lv_at hl 1 rfl) ?_
    obtain ⟨r18, hq17, hf⟩ := bd_o hf
    refine hs_ci (hs_runS C0 hH hS (n := 1) (As := [.int a1]) (rest := [.ref (YA Y 21 0)]) (c_X8_linkAt M11 a1 hq17) ⟨⟨zt_1662, zt_1663, zt_13, zt_1664⟩, by decide, by decide, by decide +kernel⟩ ⟨rfl, rfl, Nat.le_of_ble_eq_true rfl, Nat.le_of_ble_eq_true rfl⟩ rfl rfl hl.1 (Nat.le_of_ble_eq_true rfl) ⟨Nat.le_of_ble_eq_true rfl, Nat.le_of_ble_eq_true rfl⟩ dX8_ofLink_18) hS (fun H locs hH hS => ?_)
    refine lv_iload_n hx hb dX8_ofLink_21 rfl (lv_at hl 2 rfl) ?_
    refine lv_iadd hx hb dX8_ofLink_22 ?_
    obtain ⟨hg19, hf⟩ := gd_o hf
    have bhg19 := vin_lt hg19
    refine hs_iald hx hb hK hH 21 0 (by decide) rfl hg19 rfl dX8_ofLink_23 ?_
    refine lv_goto (tgt := 32) hx hb dX8_ofLink_24 (by decide) ?_
    cases hf
    exact hs_iret C0 hH hS (by decide) (by decide) dX8_ofLink_32
def f_X8_linkFrom (M : Mem) (a1 : Int32) : Option (Int32 × Mem) := bd2 (f_X8_ofLink M a1 (0 : Int32)) fun r6 M5 => some (r6, M5)
set_option maxHeartbeats 4000000 in
set_option maxRecDepth 100000 in
theorem c_X8_linkFrom {Y : LY} {l : Launch} (M : Mem) (a1 : Int32) {r : Int32} {MZ : Mem} (hf : f_X8_linkFrom M a1 = some (r, MZ)) : Met l yX8_linkFrom (WS yX8_linkFrom cX8_linkFrom 2 (Option.some Jvm.ClassFile.FieldType.int)) { frames := 3, cells := 0, slots := 0, locals := 68 } (PcM Y M [.ref (YA Y 20 0), .int a1]) (Qi Y r MZ) 0 0 (AZ Y) := by
  refine met_mk (lv := [(0, .ref (YA Y 20 0)), (1, .int a1)]) [.ref (YA Y 20 0), .int a1] (by decide) rfl rfl (Nat.le_of_ble_eq_true rfl) (fun p e s m below meth c C0 hH ls hl => ?_)
  have hS : va_S (AZ Y) s.heap s.heap [] := va_S.rf
  obtain ⟨hx, hb, hr, hml, hown, hA, hlocks, hK, hZ⟩ := id C0
  unfold f_X8_linkFrom at hf
  refine lv_aload_n hx hb dX8_linkFrom_0 rfl (lv_at hl 0 rfl) ?_
  refine lv_iload_n hx hb dX8_linkFrom_1 rfl (lv_at hl 1 rfl) ?_
  refine lv_iconst (v := (0 : Int32)) hx hb dX8_linkFrom_2 (by decide) ?_
  obtain ⟨r6, M5, hq4, hf⟩ := bd2_o hf
  refine hs_ci (hs_runV C0 hH hS (n := 2) (As := [.int a1, .int (0 : Int32)]) (rest := []) (c_X8_ofLink M a1 (0 : Int32) hq4) ⟨⟨zt_1808, zt_1810, zs_60, zt_13, zt_1811⟩, rfl, by decide, by decide, by decide +kernel⟩ ⟨rfl, rfl, Nat.le_of_ble_eq_true rfl, Nat.le_of_ble_eq_true rfl⟩ (hs_recv hK hH 20 0 (by decide) 12 rfl rfl) rfl rfl hl.1 (Nat.le_of_ble_eq_true rfl) ⟨Nat.le_of_ble_eq_true rfl, Nat.le_of_ble_eq_true rfl⟩ dX8_linkFrom_3) hS (fun H locs hH hS => ?_)
  cases hf
  exact hs_iret C0 hH hS (by decide) (by decide) dX8_linkFrom_6
def f_X8_linkTo (M : Mem) (a1 : Int32) : Option (Int32 × Mem) := bd2 (f_X8_ofLink M a1 (1 : Int32)) fun r6 M5 => some (r6, M5)
set_option maxHeartbeats 4000000 in
set_option maxRecDepth 100000 in
theorem c_X8_linkTo {Y : LY} {l : Launch} (M : Mem) (a1 : Int32) {r : Int32} {MZ : Mem} (hf : f_X8_linkTo M a1 = some (r, MZ)) : Met l yX8_linkTo (WS yX8_linkTo cX8_linkTo 2 (Option.some Jvm.ClassFile.FieldType.int)) { frames := 3, cells := 0, slots := 0, locals := 68 } (PcM Y M [.ref (YA Y 20 0), .int a1]) (Qi Y r MZ) 0 0 (AZ Y) := by
  refine met_mk (lv := [(0, .ref (YA Y 20 0)), (1, .int a1)]) [.ref (YA Y 20 0), .int a1] (by decide) rfl rfl (Nat.le_of_ble_eq_true rfl) (fun p e s m below meth c C0 hH ls hl => ?_)
  have hS : va_S (AZ Y) s.heap s.heap [] := va_S.rf
  obtain ⟨hx, hb, hr, hml, hown, hA, hlocks, hK, hZ⟩ := id C0
  unfold f_X8_linkTo at hf
  refine lv_aload_n hx hb dX8_linkTo_0 rfl (lv_at hl 0 rfl) ?_
  refine lv_iload_n hx hb dX8_linkTo_1 rfl (lv_at hl 1 rfl) ?_
  refine lv_iconst (v := (1 : Int32)) hx hb dX8_linkTo_2 (by decide) ?_
  obtain ⟨r6, M5, hq4, hf⟩ := bd2_o hf
  refine hs_ci (hs_runV C0 hH hS (n := 2) (As := [.int a1, .int (1 : Int32)]) (rest := []) (c_X8_ofLink M a1 (1 : Int32) hq4) ⟨⟨zt_1808, zt_1810, zs_60, zt_13, zt_1811⟩, rfl, by decide, by decide, by decide +kernel⟩ ⟨rfl, rfl, Nat.le_of_ble_eq_true rfl, Nat.le_of_ble_eq_true rfl⟩ (hs_recv hK hH 20 0 (by decide) 12 rfl rfl) rfl rfl hl.1 (Nat.le_of_ble_eq_true rfl) ⟨Nat.le_of_ble_eq_true rfl, Nat.le_of_ble_eq_true rfl⟩ dX8_linkTo_3) hS (fun H locs hH hS => ?_)
  cases hf
  exact hs_iret C0 hH hS (by decide) (by decide) dX8_linkTo_6
def f_X8_travelTime (M : Mem) (a1 : Int32) : Option (Int32 × Mem) := bd2 (f_X8_ofLink M a1 (2 : Int32)) fun r6 M5 => some (r6, M5)
set_option maxHeartbeats 4000000 in
set_option maxRecDepth 100000 in
theorem c_X8_travelTime {Y : LY} {l : Launch} (M : Mem) (a1 : Int32) {r : Int32} {MZ : Mem} (hf : f_X8_travelTime M a1 = some (r, MZ)) : Met l yX8_travelTime (WS yX8_travelTime cX8_travelTime 2 (Option.some Jvm.ClassFile.FieldType.int)) { frames := 3, cells := 0, slots := 0, locals := 68 } (PcM Y M [.ref (YA Y 20 0), .int a1]) (Qi Y r MZ) 0 0 (AZ Y) := by
  refine met_mk (lv := [(0, .ref (YA Y 20 0)), (1, .int a1)]) [.ref (YA Y 20 0), .int a1] (by decide) rfl rfl (Nat.le_of_ble_eq_true rfl) (fun p e s m below meth c C0 hH ls hl => ?_)
  have hS : va_S (AZ Y) s.heap s.heap [] := va_S.rf
  obtain ⟨hx, hb, hr, hml, hown, hA, hlocks, hK, hZ⟩ := id C0
  unfold f_X8_travelTime at hf
  refine lv_aload_n hx hb dX8_travelTime_0 rfl (lv_at hl 0 rfl) ?_
  refine lv_iload_n hx hb dX8_travelTime_1 rfl (lv_at hl 1 rfl) ?_
  refine lv_iconst (v := (2 : Int32)) hx hb dX8_travelTime_2 (by decide) ?_
  obtain ⟨r6, M5, hq4, hf⟩ := bd2_o hf
  refine hs_ci (hs_runV C0 hH hS (n := 2) (As := [.int a1, .int (2 : Int32)]) (rest := []) (c_X8_ofLink M a1 (2 : Int32) hq4) ⟨⟨zt_1808, zt_1810, zs_60, zt_13, zt_1811⟩, rfl, by decide, by decide, by decide +kernel⟩ ⟨rfl, rfl, Nat.le_of_ble_eq_true rfl, Nat.le_of_ble_eq_true rfl⟩ (hs_recv hK hH 20 0 (by decide) 12 rfl rfl) rfl rfl hl.1 (Nat.le_of_ble_eq_true rfl) ⟨Nat.le_of_ble_eq_true rfl, Nat.le_of_ble_eq_true rfl⟩ dX8_travelTime_3) hS (fun H locs hH hS => ?_)
  cases hf
  exact hs_iret C0 hH hS (by decide) (by decide) dX8_travelTime_6
def f_X8_isBlocked (M : Mem) (a1 : Int32) : Option (Int32 × Mem) := bd2 (f_X8_ofLink M a1 (4 : Int32)) fun r7 M6 => (if r7 = (1 : Int32) then some ((1 : Int32), M6) else some ((0 : Int32), M6))
set_option maxHeartbeats 4000000 in
set_option maxRecDepth 100000 in
theorem c_X8_isBlocked {Y : LY} {l : Launch} (M : Mem) (a1 : Int32) {r : Int32} {MZ : Mem} (hf : f_X8_isBlocked M a1 = some (r, MZ)) : Met l yX8_isBlocked (WS yX8_isBlocked cX8_isBlocked 2 (Option.some Jvm.ClassFile.FieldType.boolean)) { frames := 3, cells := 0, slots := 0, locals := 68 } (PcM Y M [.ref (YA Y 20 0), .int a1]) (Qi Y r MZ) 0 0 (AZ Y) := by
  refine met_mk (lv := [(0, .ref (YA Y 20 0)), (1, .int a1)]) [.ref (YA Y 20 0), .int a1] (by decide) rfl rfl (Nat.le_of_ble_eq_true rfl) (fun p e s m below meth c C0 hH ls hl => ?_)
  have hS : va_S (AZ Y) s.heap s.heap [] := va_S.rf
  obtain ⟨hx, hb, hr, hml, hown, hA, hlocks, hK, hZ⟩ := id C0
  unfold f_X8_isBlocked at hf
  refine lv_aload_n hx hb dX8_isBlocked_0 rfl (lv_at hl 0 rfl) ?_
  refine lv_iload_n hx hb dX8_isBlocked_1 rfl (lv_at hl 1 rfl) ?_
  refine lv_iconst (v := (4 : Int32)) hx hb dX8_isBlocked_2 (by decide) ?_
  obtain ⟨r7, M6, hq5, hf⟩ := bd2_o hf
  refine hs_ci (hs_runV C0 hH hS (n := 2) (As := [.int a1, .int (4 : Int32)]) (rest := []) (c_X8_ofLink M a1 (4 : Int32) hq5) ⟨⟨zt_1808, zt_1810, zs_60, zt_13, zt_1811⟩, rfl, by decide, by decide, by decide +kernel⟩ ⟨rfl, rfl, Nat.le_of_ble_eq_true rfl, Nat.le_of_ble_eq_true rfl⟩ (hs_recv hK hH 20 0 (by decide) 12 rfl rfl) rfl rfl hl.1 (Nat.le_of_ble_eq_true rfl) ⟨Nat.le_of_ble_eq_true rfl, Nat.le_of_ble_eq_true rfl⟩ dX8_isBlocked_3) hS (fun H locs hH hS => ?_)
  refine lv_iconst (v := (1 : Int32)) hx hb dX8_isBlocked_6 (by decide) ?_
  refine lv_icmp_ne (tgt := 14) hx hb dX8_isBlocked_7 (by decide) (fun hc8 => ?_) (fun hc8 => ?_)
  · have hf := if_f hf hc8
    refine lv_iconst (v := (0 : Int32)) hx hb dX8_isBlocked_14 (by decide) ?_
    cases hf
    exact hs_zret C0 hH hS (by decide) (by decide) (by decide) dX8_isBlocked_15
  · have hf := if_t hf hc8
    refine lv_iconst (v := (1 : Int32)) hx hb dX8_isBlocked_10 (by decide) ?_
    refine lv_goto (tgt := 15) hx hb dX8_isBlocked_11 (by decide) ?_
    cases hf
    exact hs_zret C0 hH hS (by decide) (by decide) (by decide) dX8_isBlocked_15
def f_X8_isOpenAt_40 (M : Mem) (a1 : Int32) (a2 : Int32) : Option (Int32 × Mem) := (if (M 20 0 9) = 0 then bd (f_X8_isOpen M a1 a2) fun r19 => (if r19 = 0 then some ((0 : Int32), M) else some ((1 : Int32), M)) else some ((0 : Int32), M))
set_option maxHeartbeats 4000000 in
set_option maxRecDepth 100000 in
theorem w_X8_isOpenAt_40 {Y : LY} {p : Program} {l : Launch} {e : Env} {s : State} {m : MethodId} {args : Array Value} {below : List Frame} {meth : Method} {c : Code} (C0 : BE Y p s m args meth c cX8_isOpenAt 3 (Option.some Jvm.ClassFile.FieldType.boolean) RX8) {r : Int32} {MZ : Mem} : ∀ (M : Mem) (a1 : Int32) (a2 : Int32), f_X8_isOpenAt_40 M a1 a2 = some (r, MZ) → ∀ (H : Heap) (locs : List Loc) (ls : Array Slot), HS Y M H → va_S (AZ Y) s.heap H locs → lv_has ls 3 [(0, .ref (YA Y 20 0)), (1, .int a1), (2, .int a2)] → W p l e { frames := 2, cells := 0, slots := 0, locals := 46 } s m args below meth c H locs 0 0 (MQ below (Qi Y r MZ) args s 0 0 (AZ Y)) (F0 m 40 ls []) := by
  obtain ⟨hx, hb, hr, hml, hown, hA, hlocks, hK, hZ⟩ := id C0
  intro M a1 a2 hf H locs ls hH hS hl
  unfold f_X8_isOpenAt_40 at hf
  refine lv_aload_n hx hb dX8_isOpenAt_40 rfl (lv_at hl 0 rfl) ?_
  refine hs_get hx hb (T := TX8) hA inAX8 hown hK hH 20 0 (by decide) 12 rfl rfl 9 (by decide) (hA _ zt_1560) rfl rfl dX8_isOpenAt_41 ?_
  refine lv_if_ne (tgt := 60) hx hb dX8_isOpenAt_44 (by decide) (fun hc21 => ?_) (fun hc21 => ?_)
  · have hf := if_f hf hc21
    refine lv_iconst (v := (0 : Int32)) hx hb dX8_isOpenAt_60 (by decide) ?_
    cases hf
    exact hs_zret C0 hH hS (by decide) (by decide) (by decide) dX8_isOpenAt_61
  · have hf := if_t hf hc21
    refine lv_aload_n hx hb dX8_isOpenAt_47 rfl (lv_at hl 0 rfl) ?_
    refine lv_iload_n hx hb dX8_isOpenAt_48 rfl (lv_at hl 1 rfl) ?_
    refine lv_iload_n hx hb dX8_isOpenAt_49 rfl (lv_at hl 2 rfl) ?_
    obtain ⟨r19, hq18, hf⟩ := bd_o hf
    refine hs_ci (hs_runV C0 hH hS (n := 2) (As := [.int a1, .int a2]) (rest := []) (c_X8_isOpen M a1 a2 hq18) ⟨⟨zt_1713, zt_1715, zs_45, zt_13, zt_1716⟩, rfl, by decide, by decide, by decide +kernel⟩ ⟨rfl, rfl, Nat.le_of_ble_eq_true rfl, Nat.le_of_ble_eq_true rfl⟩ (hs_recv hK hH 20 0 (by decide) 12 rfl rfl) rfl rfl hl.1 (Nat.le_of_ble_eq_true rfl) ⟨Nat.le_of_ble_eq_true rfl, Nat.le_of_ble_eq_true rfl⟩ dX8_isOpenAt_50) hS (fun H locs hH hS => ?_)
    refine lv_if_eq (tgt := 60) hx hb dX8_isOpenAt_53 (by decide) (fun hc20 => ?_) (fun hc20 => ?_)
    · have hf := if_t hf hc20
      refine lv_iconst (v := (0 : Int32)) hx hb dX8_isOpenAt_60 (by decide) ?_
      cases hf
      exact hs_zret C0 hH hS (by decide) (by decide) (by decide) dX8_isOpenAt_61
    · have hf := if_f hf hc20
      refine lv_iconst (v := (1 : Int32)) hx hb dX8_isOpenAt_56 (by decide) ?_
      refine lv_goto (tgt := 61) hx hb dX8_isOpenAt_57 (by decide) ?_
      cases hf
      exact hs_zret C0 hH hS (by decide) (by decide) (by decide) dX8_isOpenAt_61
def f_X8_isOpenAt (M : Mem) (a1 : Int32) (a2 : Int32) : Option (Int32 × Mem) := nm (mu M 20 0 9 (0 : Int32)) fun M22 => bd (f_X8_isLink M22 a1) fun r24 => (if r24 = 0 then bd2 (f_X8_throwing M22 (1 : Int32)) fun r33 M32 => f_X8_isOpenAt_40 M32 a1 a2 else bd (f_X8_in M22 a2.toInt64 (0 : Int64) (9999 : Int64)) fun r26 => (if r26 = 0 then bd2 (f_X8_throwing M22 (2 : Int32)) fun r29 M28 => f_X8_isOpenAt_40 M28 a1 a2 else f_X8_isOpenAt_40 M22 a1 a2))
set_option maxHeartbeats 4000000 in
set_option maxRecDepth 100000 in
theorem c_X8_isOpenAt {Y : LY} {l : Launch} (M : Mem) (a1 : Int32) (a2 : Int32) {r : Int32} {MZ : Mem} (hf : f_X8_isOpenAt M a1 a2 = some (r, MZ)) : Met l yX8_isOpenAt (WS yX8_isOpenAt cX8_isOpenAt 3 (Option.some Jvm.ClassFile.FieldType.boolean)) { frames := 2, cells := 0, slots := 0, locals := 46 } (PcM Y M [.ref (YA Y 20 0), .int a1, .int a2]) (Qi Y r MZ) 0 0 (AZ Y) := by
  refine met_mk (lv := [(0, .ref (YA Y 20 0)), (1, .int a1), (2, .int a2)]) [.ref (YA Y 20 0), .int a1, .int a2] (by decide) rfl rfl (Nat.le_of_ble_eq_true rfl) (fun p e s m below meth c C0 hH ls hl => ?_)
  have hS : va_S (AZ Y) s.heap s.heap [] := va_S.rf
  obtain ⟨hx, hb, hr, hml, hown, hA, hlocks, hK, hZ⟩ := id C0
  unfold f_X8_isOpenAt at hf
  refine lv_aload_n hx hb dX8_isOpenAt_0 rfl (lv_at hl 0 rfl) ?_
  refine lv_iconst (v := (0 : Int32)) hx hb dX8_isOpenAt_1 (by decide) ?_
  refine hs_put hx hb (T := TX8) hA inAX8 tyX8 tyX8_ok nmX8 hown hK hH hS 20 0 (by decide) 12 rfl rfl 9 (by decide) (hA _ zt_1560) rfl rfl (by decide +kernel) (Nat.le_of_ble_eq_true rfl) rfl dX8_isOpenAt_2 (fun H locs hH hS => ?_)
  obtain ⟨M22, eM22, hf⟩ := nm_o hf
  rw [← eM22] at hH
  refine lv_aload_n hx hb dX8_isOpenAt_5 rfl (lv_at hl 0 rfl) ?_
  refine lv_iload_n hx hb dX8_isOpenAt_6 rfl (lv_at hl 1 rfl) ?_
  obtain ⟨r24, hq23, hf⟩ := bd_o hf
  refine hs_ci (hs_runV C0 hH hS (n := 1) (As := [.int a1]) (rest := []) (c_X8_isLink M22 a1 hq23) ⟨⟨zt_1673, zt_1675, zs_39, zt_13, zt_1676⟩, rfl, by decide, by decide, by decide +kernel⟩ ⟨rfl, rfl, Nat.le_of_ble_eq_true rfl, Nat.le_of_ble_eq_true rfl⟩ (hs_recv hK hH 20 0 (by decide) 12 rfl rfl) rfl rfl hl.1 (Nat.le_of_ble_eq_true rfl) ⟨Nat.le_of_ble_eq_true rfl, Nat.le_of_ble_eq_true rfl⟩ dX8_isOpenAt_7) hS (fun H locs hH hS => ?_)
  refine lv_if_ne (tgt := 22) hx hb dX8_isOpenAt_10 (by decide) (fun hc34 => ?_) (fun hc34 => ?_)
  · have hf := if_f hf hc34
    refine lv_iload_n hx hb dX8_isOpenAt_22 rfl (lv_at hl 2 rfl) ?_
    refine lv_i2l (v := a2.toInt64) hx hb dX8_isOpenAt_23 rfl ?_
    refine lv_lconst (v := (0 : Int64)) hx hb dX8_isOpenAt_24 (by decide) ?_
    refine lv_ldc2 (v := (9999 : Int64)) hx hb hown (hA _ zt_1828) dX8_isOpenAt_25 ?_
    obtain ⟨r26, hq25, hf⟩ := bd_o hf
    refine hs_ci (hs_runS C0 hH hS (n := 3) (As := [.long a2.toInt64, .long (0 : Int64), .long (9999 : Int64)]) (rest := []) (c_X8_in M22 a2.toInt64 (0 : Int64) (9999 : Int64) hq25) ⟨⟨zt_1657, zt_1658, zt_13, zt_1659⟩, by decide, by decide, by decide +kernel⟩ ⟨rfl, rfl, Nat.le_of_ble_eq_true rfl, Nat.le_of_ble_eq_true rfl⟩ rfl rfl hl.1 (Nat.le_of_ble_eq_true rfl) ⟨Nat.le_of_ble_eq_true rfl, Nat.le_of_ble_eq_true rfl⟩ dX8_isOpenAt_28) hS (fun H locs hH hS => ?_)
    refine lv_if_ne (tgt := 40) hx hb dX8_isOpenAt_31 (by decide) (fun hc30 => ?_) (fun hc30 => ?_)
    · have hf := if_f hf hc30
      exact w_X8_isOpenAt_40 C0 M22 a1 a2 hf _ _ _ hH hS (lv_sub hl [0, 1, 2] rfl)
    · have hf := if_t hf hc30
      refine lv_aload_n hx hb dX8_isOpenAt_34 rfl (lv_at hl 0 rfl) ?_
      refine lv_iconst (v := (2 : Int32)) hx hb dX8_isOpenAt_35 (by decide) ?_
      obtain ⟨r29, M28, hq27, hf⟩ := bd2_o hf
      refine hs_ci (hs_runV C0 hH hS (n := 1) (As := [.int (2 : Int32)]) (rest := []) (c_X8_throwing M22 (2 : Int32) hq27) ⟨⟨zt_1637, zt_1639, zs_34, zt_13, zt_1640⟩, rfl, by decide, by decide, by decide +kernel⟩ ⟨rfl, rfl, Nat.le_of_ble_eq_true rfl, Nat.le_of_ble_eq_true rfl⟩ (hs_recv hK hH 20 0 (by decide) 12 rfl rfl) rfl rfl hl.1 (Nat.le_of_ble_eq_true rfl) ⟨Nat.le_of_ble_eq_true rfl, Nat.le_of_ble_eq_true rfl⟩ dX8_isOpenAt_36) hS (fun H locs hH hS => ?_)
      refine lv_pop hx hb dX8_isOpenAt_39 rfl ?_
      exact w_X8_isOpenAt_40 C0 M28 a1 a2 hf _ _ _ hH hS (lv_sub hl [0, 1, 2] rfl)
  · have hf := if_t hf hc34
    refine lv_aload_n hx hb dX8_isOpenAt_13 rfl (lv_at hl 0 rfl) ?_
    refine lv_iconst (v := (1 : Int32)) hx hb dX8_isOpenAt_14 (by decide) ?_
    obtain ⟨r33, M32, hq31, hf⟩ := bd2_o hf
    refine hs_ci (hs_runV C0 hH hS (n := 1) (As := [.int (1 : Int32)]) (rest := []) (c_X8_throwing M22 (1 : Int32) hq31) ⟨⟨zt_1637, zt_1639, zs_34, zt_13, zt_1640⟩, rfl, by decide, by decide, by decide +kernel⟩ ⟨rfl, rfl, Nat.le_of_ble_eq_true rfl, Nat.le_of_ble_eq_true rfl⟩ (hs_recv hK hH 20 0 (by decide) 12 rfl rfl) rfl rfl hl.1 (Nat.le_of_ble_eq_true rfl) ⟨Nat.le_of_ble_eq_true rfl, Nat.le_of_ble_eq_true rfl⟩ dX8_isOpenAt_15) hS (fun H locs hH hS => ?_)
    refine lv_pop hx hb dX8_isOpenAt_18 rfl ?_
    refine lv_goto (tgt := 40) hx hb dX8_isOpenAt_19 (by decide) ?_
    exact w_X8_isOpenAt_40 C0 M32 a1 a2 hf _ _ _ hH hS (lv_sub hl [0, 1, 2] rfl)
def f_X8_loadOf (M : Mem) (a1 : Int32) : Option (Int32 × Mem) := nm (mu M 20 0 9 (0 : Int32)) fun M10 => bd (f_X8_isLink M10 a1) fun r12 => (if r12 = 0 then bd2 (f_X8_throwing M10 (1 : Int32)) fun r15 M14 => some (r15, M14) else bd (f_X8_load M10 a1) fun r17 => some (r17, M10))
set_option maxHeartbeats 4000000 in
set_option maxRecDepth 100000 in
theorem c_X8_loadOf {Y : LY} {l : Launch} (M : Mem) (a1 : Int32) {r : Int32} {MZ : Mem} (hf : f_X8_loadOf M a1 = some (r, MZ)) : Met l yX8_loadOf (WS yX8_loadOf cX8_loadOf 2 (Option.some Jvm.ClassFile.FieldType.int)) { frames := 2, cells := 0, slots := 0, locals := 46 } (PcM Y M [.ref (YA Y 20 0), .int a1]) (Qi Y r MZ) 0 0 (AZ Y) := by
  refine met_mk (lv := [(0, .ref (YA Y 20 0)), (1, .int a1)]) [.ref (YA Y 20 0), .int a1] (by decide) rfl rfl (Nat.le_of_ble_eq_true rfl) (fun p e s m below meth c C0 hH ls hl => ?_)
  have hS : va_S (AZ Y) s.heap s.heap [] := va_S.rf
  obtain ⟨hx, hb, hr, hml, hown, hA, hlocks, hK, hZ⟩ := id C0
  unfold f_X8_loadOf at hf
  refine lv_aload_n hx hb dX8_loadOf_0 rfl (lv_at hl 0 rfl) ?_
  refine lv_iconst (v := (0 : Int32)) hx hb dX8_loadOf_1 (by decide) ?_
  refine hs_put hx hb (T := TX8) hA inAX8 tyX8 tyX8_ok nmX8 hown hK hH hS 20 0 (by decide) 12 rfl rfl 9 (by decide) (hA _ zt_1560) rfl rfl (by decide +kernel) (Nat.le_of_ble_eq_true rfl) rfl dX8_loadOf_2 (fun H locs hH hS => ?_)
  obtain ⟨M10, eM10, hf⟩ := nm_o hf
  rw [← eM10] at hH
  refine lv_aload_n hx hb dX8_loadOf_5 rfl (lv_at hl 0 rfl) ?_
  refine lv_iload_n hx hb dX8_loadOf_6 rfl (lv_at hl 1 rfl) ?_
  obtain ⟨r12, hq11, hf⟩ := bd_o hf
  refine hs_ci (hs_runV C0 hH hS (n := 1) (As := [.int a1]) (rest := []) (c_X8_isLink M10 a1 hq11) ⟨⟨zt_1673, zt_1675, zs_39, zt_13, zt_1676⟩, rfl, by decide, by decide, by decide +kernel⟩ ⟨rfl, rfl, Nat.le_of_ble_eq_true rfl, Nat.le_of_ble_eq_true rfl⟩ (hs_recv hK hH 20 0 (by decide) 12 rfl rfl) rfl rfl hl.1 (Nat.le_of_ble_eq_true rfl) ⟨Nat.le_of_ble_eq_true rfl, Nat.le_of_ble_eq_true rfl⟩ dX8_loadOf_7) hS (fun H locs hH hS => ?_)
  refine lv_if_eq (tgt := 21) hx hb dX8_loadOf_10 (by decide) (fun hc18 => ?_) (fun hc18 => ?_)
  · have hf := if_t hf hc18
    refine lv_aload_n hx hb dX8_loadOf_21 rfl (lv_at hl 0 rfl) ?_
    refine lv_iconst (v := (1 : Int32)) hx hb dX8_loadOf_22 (by decide) ?_
    obtain ⟨r15, M14, hq13, hf⟩ := bd2_o hf
    refine hs_ci (hs_runV C0 hH hS (n := 1) (As := [.int (1 : Int32)]) (rest := []) (c_X8_throwing M10 (1 : Int32) hq13) ⟨⟨zt_1637, zt_1639, zs_34, zt_13, zt_1640⟩, rfl, by decide, by decide, by decide +kernel⟩ ⟨rfl, rfl, Nat.le_of_ble_eq_true rfl, Nat.le_of_ble_eq_true rfl⟩ (hs_recv hK hH 20 0 (by decide) 12 rfl rfl) rfl rfl hl.1 (Nat.le_of_ble_eq_true rfl) ⟨Nat.le_of_ble_eq_true rfl, Nat.le_of_ble_eq_true rfl⟩ dX8_loadOf_23) hS (fun H locs hH hS => ?_)
    cases hf
    exact hs_iret C0 hH hS (by decide) (by decide) dX8_loadOf_26
  · have hf := if_f hf hc18
    refine lv_aload_n hx hb dX8_loadOf_13 rfl (lv_at hl 0 rfl) ?_
    refine lv_iload_n hx hb dX8_loadOf_14 rfl (lv_at hl 1 rfl) ?_
    obtain ⟨r17, hq16, hf⟩ := bd_o hf
    refine hs_ci (hs_runV C0 hH hS (n := 1) (As := [.int a1]) (rest := []) (c_X8_load M10 a1 hq16) ⟨⟨zt_1717, zt_1719, zs_46, zt_13, zt_1720⟩, rfl, by decide, by decide, by decide +kernel⟩ ⟨rfl, rfl, Nat.le_of_ble_eq_true rfl, Nat.le_of_ble_eq_true rfl⟩ (hs_recv hK hH 20 0 (by decide) 12 rfl rfl) rfl rfl hl.1 (Nat.le_of_ble_eq_true rfl) ⟨Nat.le_of_ble_eq_true rfl, Nat.le_of_ble_eq_true rfl⟩ dX8_loadOf_15) hS (fun H locs hH hS => ?_)
    refine lv_goto (tgt := 26) hx hb dX8_loadOf_18 (by decide) ?_
    cases hf
    exact hs_iret C0 hH hS (by decide) (by decide) dX8_loadOf_26
def f_X8_busiestLink_52 (k24 : Mem → Int32 → Int32 → Option (Int32 × Mem)) (M : Mem) (a2 : Int32) (b0 : Int32) : Option (Int32 × Mem) := k24 M b0 (a2 + (1 : Int32))
set_option maxHeartbeats 4000000 in
set_option maxRecDepth 100000 in
theorem w_X8_busiestLink_52 {Y : LY} {p : Program} {l : Launch} {e : Env} {s : State} {m : MethodId} {args : Array Value} {below : List Frame} {meth : Method} {c : Code} (C0 : BE Y p s m args meth c cX8_busiestLink 3 (Option.some Jvm.ClassFile.FieldType.int) RX8) {r : Int32} {MZ : Mem} (k24 : Mem → Int32 → Int32 → Option (Int32 × Mem)) (hk24 : ∀ (M : Mem) (a1 : Int32) (a2 : Int32), k24 M a1 a2 = some (r, MZ) → ∀ (H : Heap) (locs : List Loc) (ls : Array Slot), HS Y M H → va_S (AZ Y) s.heap H locs → lv_has ls 3 [(0, .ref (YA Y 20 0)), (1, .int a1), (2, .int a2)] → W p l e { frames := 2, cells := 0, slots := 0, locals := 44 } s m args below meth c H locs 0 0 (MQ below (Qi Y r MZ) args s 0 0 (AZ Y)) (F0 m 24 ls [])) : ∀ (M : Mem) (a2 : Int32) (b0 : Int32), f_X8_busiestLink_52 k24 M a2 b0 = some (r, MZ) → ∀ (H : Heap) (locs : List Loc) (ls : Array Slot), HS Y M H → va_S (AZ Y) s.heap H locs → lv_has ls 3 [(0, .ref (YA Y 20 0)), (2, .int a2)] → W p l e { frames := 2, cells := 0, slots := 0, locals := 44 } s m args below meth c H locs 0 0 (MQ below (Qi Y r MZ) args s 0 0 (AZ Y)) (F0 m 52 ls [.int b0]) := by
  obtain ⟨hx, hb, hr, hml, hown, hA, hlocks, hK, hZ⟩ := id C0
  intro M a2 b0 hf H locs ls hH hS hl
  unfold f_X8_busiestLink_52 at hf
  refine lv_istore_n (lv' := [(1, .int b0), (0, .ref (YA Y 20 0)), (2, .int a2)]) hx hb dX8_busiestLink_52 rfl hl (by decide) rfl (fun ls hl => ?_)
  refine lv_iinc (v := a2 + (1 : Int32)) (lv' := [(2, .int (a2 + (1 : Int32))), (1, .int b0), (0, .ref (YA Y 20 0))]) hx hb dX8_busiestLink_53 hl (k := 2) rfl rfl (by decide) rfl (fun ls hl => ?_)
  refine lv_goto (tgt := 24) hx hb dX8_busiestLink_56 (by decide) ?_
  exact hk24 M b0 (a2 + (1 : Int32)) hf _ _ _ hH hS (lv_sub hl [2, 1, 0] rfl)
def f_X8_busiestLink_24 : Nat → Mem → Int32 → Int32 → Option (Int32 × Mem)
  | 0, _, _, _ => none
  | n + 1, M, a1, a2 => (if (M 21 0 1) ≤ a2 then some (a1, M) else bd (f_X8_load M a2) fun r13 => bd (f_X8_load M a1) fun r15 => (if r13 ≤ r15 then f_X8_busiestLink_52 (f_X8_busiestLink_24 n) M a2 a1 else f_X8_busiestLink_52 (f_X8_busiestLink_24 n) M a2 a2))
set_option maxHeartbeats 4000000 in
set_option maxRecDepth 100000 in
theorem w_X8_busiestLink_24 {Y : LY} {p : Program} {l : Launch} {e : Env} {s : State} {m : MethodId} {args : Array Value} {below : List Frame} {meth : Method} {c : Code} (C0 : BE Y p s m args meth c cX8_busiestLink 3 (Option.some Jvm.ClassFile.FieldType.int) RX8) {r : Int32} {MZ : Mem} : ∀ (n : Nat) (M : Mem) (a1 : Int32) (a2 : Int32), f_X8_busiestLink_24 n M a1 a2 = some (r, MZ) → ∀ (H : Heap) (locs : List Loc) (ls : Array Slot), HS Y M H → va_S (AZ Y) s.heap H locs → lv_has ls 3 [(0, .ref (YA Y 20 0)), (1, .int a1), (2, .int a2)] → W p l e { frames := 2, cells := 0, slots := 0, locals := 44 } s m args below meth c H locs 0 0 (MQ below (Qi Y r MZ) args s 0 0 (AZ Y)) (F0 m 24 ls []) := by
  obtain ⟨hx, hb, hr, hml, hown, hA, hlocks, hK, hZ⟩ := id C0
  intro n
  induction n with
  | zero =>
    intro M a1 a2 hf
    cases hf
  | succ n ih =>
    intro M a1 a2 hf H locs ls hH hS hl
    rw [f_X8_busiestLink_24] at hf
    refine lv_iload_n hx hb dX8_busiestLink_24 rfl (lv_at hl 2 rfl) ?_
    refine lv_aload_n hx hb dX8_busiestLink_25 rfl (lv_at hl 0 rfl) ?_
    refine hs_get hx hb (T := TX8) hA inAX8 hown hK hH 20 0 (by decide) 12 rfl rfl 0 (by decide) (hA _ zt_1551) rfl rfl dX8_busiestLink_26 ?_
    refine lv_iconst (v := (1 : Int32)) hx hb dX8_busiestLink_29 (by decide) ?_
    refine hs_iald hx hb hK hH 21 0 (by decide) rfl (show vin (1 : Int32) 192 from by decide) (show ix (1 : Int32) = 1 from by decide) dX8_busiestLink_30 ?_
    refine lv_icmp_ge (tgt := 59) hx hb dX8_busiestLink_31 (by decide) (fun hc17 => ?_) (fun hc17 => ?_)
    · have hf := if_t hf hc17
      refine lv_iload_n hx hb dX8_busiestLink_59 rfl (lv_at hl 1 rfl) ?_
      cases hf
      exact hs_iret C0 hH hS (by decide) (by decide) dX8_busiestLink_60
    · have hf := if_f hf hc17
      refine lv_aload_n hx hb dX8_busiestLink_34 rfl (lv_at hl 0 rfl) ?_
      refine lv_iload_n hx hb dX8_busiestLink_35 rfl (lv_at hl 2 rfl) ?_
      obtain ⟨r13, hq12, hf⟩ := bd_o hf
      refine hs_ci (hs_runV C0 hH hS (n := 1) (As := [.int a2]) (rest := []) (c_X8_load M a2 hq12) ⟨⟨zt_1717, zt_1719, zs_46, zt_13, zt_1720⟩, rfl, by decide, by decide, by decide +kernel⟩ ⟨rfl, rfl, Nat.le_of_ble_eq_true rfl, Nat.le_of_ble_eq_true rfl⟩ (hs_recv hK hH 20 0 (by decide) 12 rfl rfl) rfl rfl hl.1 (Nat.le_of_ble_eq_true rfl) ⟨Nat.le_of_ble_eq_true rfl, Nat.le_of_ble_eq_true rfl⟩ dX8_busiestLink_36) hS (fun H locs hH hS => ?_)
      refine lv_aload_n hx hb dX8_busiestLink_39 rfl (lv_at hl 0 rfl) ?_
      refine lv_iload_n hx hb dX8_busiestLink_40 rfl (lv_at hl 1 rfl) ?_
      obtain ⟨r15, hq14, hf⟩ := bd_o hf
      refine hs_ci (hs_runV C0 hH hS (n := 1) (As := [.int a1]) (rest := [.int r13]) (c_X8_load M a1 hq14) ⟨⟨zt_1717, zt_1719, zs_46, zt_13, zt_1720⟩, rfl, by decide, by decide, by decide +kernel⟩ ⟨rfl, rfl, Nat.le_of_ble_eq_true rfl, Nat.le_of_ble_eq_true rfl⟩ (hs_recv hK hH 20 0 (by decide) 12 rfl rfl) rfl rfl hl.1 (Nat.le_of_ble_eq_true rfl) ⟨Nat.le_of_ble_eq_true rfl, Nat.le_of_ble_eq_true rfl⟩ dX8_busiestLink_41) hS (fun H locs hH hS => ?_)
      refine lv_icmp_le (tgt := 51) hx hb dX8_busiestLink_44 (by decide) (fun hc16 => ?_) (fun hc16 => ?_)
      · have hf := if_t hf hc16
        refine lv_iload_n hx hb dX8_busiestLink_51 rfl (lv_at hl 1 rfl) ?_
        exact w_X8_busiestLink_52 C0 (f_X8_busiestLink_24 n) ih M a2 a1 hf _ _ _ hH hS (lv_sub hl [0, 2] rfl)
      · have hf := if_f hf hc16
        refine lv_iload_n hx hb dX8_busiestLink_47 rfl (lv_at hl 2 rfl) ?_
        refine lv_goto (tgt := 52) hx hb dX8_busiestLink_48 (by decide) ?_
        exact w_X8_busiestLink_52 C0 (f_X8_busiestLink_24 n) ih M a2 a2 hf _ _ _ hH hS (lv_sub hl [0, 2] rfl)
def f_X8_busiestLink (M : Mem) : Option (Int32 × Mem) := nm (mu M 20 0 9 (0 : Int32)) fun M18 => (if (M18 21 0 1) = 0 then bd2 (f_X8_throwing M18 (1 : Int32)) fun r21 M20 => some (r21, M20) else f_X8_busiestLink_24 FU M18 (0 : Int32) (1 : Int32))
set_option maxHeartbeats 4000000 in
set_option maxRecDepth 100000 in
theorem c_X8_busiestLink {Y : LY} {l : Launch} (M : Mem) {r : Int32} {MZ : Mem} (hf : f_X8_busiestLink M = some (r, MZ)) : Met l yX8_busiestLink (WS yX8_busiestLink cX8_busiestLink 3 (Option.some Jvm.ClassFile.FieldType.int)) { frames := 2, cells := 0, slots := 0, locals := 44 } (PcM Y M [.ref (YA Y 20 0)]) (Qi Y r MZ) 0 0 (AZ Y) := by
  refine met_mk (lv := [(0, .ref (YA Y 20 0))]) [.ref (YA Y 20 0)] (by decide) rfl rfl (Nat.le_of_ble_eq_true rfl) (fun p e s m below meth c C0 hH ls hl => ?_)
  have hS : va_S (AZ Y) s.heap s.heap [] := va_S.rf
  obtain ⟨hx, hb, hr, hml, hown, hA, hlocks, hK, hZ⟩ := id C0
  unfold f_X8_busiestLink at hf
  refine lv_aload_n hx hb dX8_busiestLink_0 rfl (lv_at hl 0 rfl) ?_
  refine lv_iconst (v := (0 : Int32)) hx hb dX8_busiestLink_1 (by decide) ?_
  refine hs_put hx hb (T := TX8) hA inAX8 tyX8 tyX8_ok nmX8 hown hK hH hS 20 0 (by decide) 12 rfl rfl 9 (by decide) (hA _ zt_1560) rfl rfl (by decide +kernel) (Nat.le_of_ble_eq_true rfl) rfl dX8_busiestLink_2 (fun H locs hH hS => ?_)
  obtain ⟨M18, eM18, hf⟩ := nm_o hf
  rw [← eM18] at hH
  refine lv_aload_n hx hb dX8_busiestLink_5 rfl (lv_at hl 0 rfl) ?_
  refine hs_get hx hb (T := TX8) hA inAX8 hown hK hH 20 0 (by decide) 12 rfl rfl 0 (by decide) (hA _ zt_1551) rfl rfl dX8_busiestLink_6 ?_
  refine lv_iconst (v := (1 : Int32)) hx hb dX8_busiestLink_9 (by decide) ?_
  refine hs_iald hx hb hK hH 21 0 (by decide) rfl (show vin (1 : Int32) 192 from by decide) (show ix (1 : Int32) = 1 from by decide) dX8_busiestLink_10 ?_
  refine lv_if_ne (tgt := 20) hx hb dX8_busiestLink_11 (by decide) (fun hc22 => ?_) (fun hc22 => ?_)
  · have hf := if_f hf hc22
    refine lv_iconst (v := (0 : Int32)) hx hb dX8_busiestLink_20 (by decide) ?_
    refine lv_istore_n (lv' := [(1, .int (0 : Int32)), (0, .ref (YA Y 20 0))]) hx hb dX8_busiestLink_21 rfl hl (by decide) rfl (fun ls hl => ?_)
    refine lv_iconst (v := (1 : Int32)) hx hb dX8_busiestLink_22 (by decide) ?_
    refine lv_istore_n (lv' := [(2, .int (1 : Int32)), (1, .int (0 : Int32)), (0, .ref (YA Y 20 0))]) hx hb dX8_busiestLink_23 rfl hl (by decide) rfl (fun ls hl => ?_)
    exact w_X8_busiestLink_24 C0 FU M18 (0 : Int32) (1 : Int32) hf _ _ _ hH hS (lv_sub hl [2, 1, 0] rfl)
  · have hf := if_t hf hc22
    refine lv_aload_n hx hb dX8_busiestLink_14 rfl (lv_at hl 0 rfl) ?_
    refine lv_iconst (v := (1 : Int32)) hx hb dX8_busiestLink_15 (by decide) ?_
    obtain ⟨r21, M20, hq19, hf⟩ := bd2_o hf
    refine hs_ci (hs_runV C0 hH hS (n := 1) (As := [.int (1 : Int32)]) (rest := []) (c_X8_throwing M18 (1 : Int32) hq19) ⟨⟨zt_1637, zt_1639, zs_34, zt_13, zt_1640⟩, rfl, by decide, by decide, by decide +kernel⟩ ⟨rfl, rfl, Nat.le_of_ble_eq_true rfl, Nat.le_of_ble_eq_true rfl⟩ (hs_recv hK hH 20 0 (by decide) 12 rfl rfl) rfl rfl hl.1 (Nat.le_of_ble_eq_true rfl) ⟨Nat.le_of_ble_eq_true rfl, Nat.le_of_ble_eq_true rfl⟩ dX8_busiestLink_16) hS (fun H locs hH hS => ?_)
    cases hf
    exact hs_iret C0 hH hS (by decide) (by decide) dX8_busiestLink_19
def f_X8_degree_67 (k23 : Mem → Int32 → Int32 → Int32 → Option (Int32 × Mem)) (M : Mem) (a1 : Int32) (a3 : Int32) (b0 : Int32) (b1 : Int32) : Option (Int32 × Mem) := k23 M a1 (b1 + b0) (a3 + (1 : Int32))
set_option maxHeartbeats 4000000 in
set_option maxRecDepth 100000 in
theorem w_X8_degree_67 {Y : LY} {p : Program} {l : Launch} {e : Env} {s : State} {m : MethodId} {args : Array Value} {below : List Frame} {meth : Method} {c : Code} (C0 : BE Y p s m args meth c cX8_degree 4 (Option.some Jvm.ClassFile.FieldType.int) RX8) {r : Int32} {MZ : Mem} (k23 : Mem → Int32 → Int32 → Int32 → Option (Int32 × Mem)) (hk23 : ∀ (M : Mem) (a1 : Int32) (a2 : Int32) (a3 : Int32), k23 M a1 a2 a3 = some (r, MZ) → ∀ (H : Heap) (locs : List Loc) (ls : Array Slot), HS Y M H → va_S (AZ Y) s.heap H locs → lv_has ls 4 [(0, .ref (YA Y 20 0)), (1, .int a1), (2, .int a2), (3, .int a3)] → W p l e { frames := 2, cells := 0, slots := 0, locals := 46 } s m args below meth c H locs 0 0 (MQ below (Qi Y r MZ) args s 0 0 (AZ Y)) (F0 m 23 ls [])) : ∀ (M : Mem) (a1 : Int32) (a3 : Int32) (b0 : Int32) (b1 : Int32), f_X8_degree_67 k23 M a1 a3 b0 b1 = some (r, MZ) → ∀ (H : Heap) (locs : List Loc) (ls : Array Slot), HS Y M H → va_S (AZ Y) s.heap H locs → lv_has ls 4 [(0, .ref (YA Y 20 0)), (1, .int a1), (3, .int a3)] → W p l e { frames := 2, cells := 0, slots := 0, locals := 46 } s m args below meth c H locs 0 0 (MQ below (Qi Y r MZ) args s 0 0 (AZ Y)) (F0 m 67 ls [.int b0, .int b1]) := by
  obtain ⟨hx, hb, hr, hml, hown, hA, hlocks, hK, hZ⟩ := id C0
  intro M a1 a3 b0 b1 hf H locs ls hH hS hl
  unfold f_X8_degree_67 at hf
  refine lv_iadd hx hb dX8_degree_67 ?_
  refine lv_istore_n (lv' := [(2, .int (b1 + b0)), (0, .ref (YA Y 20 0)), (1, .int a1), (3, .int a3)]) hx hb dX8_degree_68 rfl hl (by decide) rfl (fun ls hl => ?_)
  refine lv_iinc (v := a3 + (1 : Int32)) (lv' := [(3, .int (a3 + (1 : Int32))), (2, .int (b1 + b0)), (0, .ref (YA Y 20 0)), (1, .int a1)]) hx hb dX8_degree_69 hl (k := 3) rfl rfl (by decide) rfl (fun ls hl => ?_)
  refine lv_goto (tgt := 23) hx hb dX8_degree_72 (by decide) ?_
  exact hk23 M a1 (b1 + b0) (a3 + (1 : Int32)) hf _ _ _ hH hS (lv_sub hl [2, 3, 1, 0] rfl)
def f_X8_degree_62 (k23 : Mem → Int32 → Int32 → Int32 → Option (Int32 × Mem)) (M : Mem) (a1 : Int32) (a3 : Int32) (b0 : Int32) : Option (Int32 × Mem) := f_X8_degree_67 k23 M a1 a3 (1 : Int32) b0
set_option maxHeartbeats 4000000 in
set_option maxRecDepth 100000 in
theorem w_X8_degree_62 {Y : LY} {p : Program} {l : Launch} {e : Env} {s : State} {m : MethodId} {args : Array Value} {below : List Frame} {meth : Method} {c : Code} (C0 : BE Y p s m args meth c cX8_degree 4 (Option.some Jvm.ClassFile.FieldType.int) RX8) {r : Int32} {MZ : Mem} (k23 : Mem → Int32 → Int32 → Int32 → Option (Int32 × Mem)) (hk23 : ∀ (M : Mem) (a1 : Int32) (a2 : Int32) (a3 : Int32), k23 M a1 a2 a3 = some (r, MZ) → ∀ (H : Heap) (locs : List Loc) (ls : Array Slot), HS Y M H → va_S (AZ Y) s.heap H locs → lv_has ls 4 [(0, .ref (YA Y 20 0)), (1, .int a1), (2, .int a2), (3, .int a3)] → W p l e { frames := 2, cells := 0, slots := 0, locals := 46 } s m args below meth c H locs 0 0 (MQ below (Qi Y r MZ) args s 0 0 (AZ Y)) (F0 m 23 ls [])) : ∀ (M : Mem) (a1 : Int32) (a3 : Int32) (b0 : Int32), f_X8_degree_62 k23 M a1 a3 b0 = some (r, MZ) → ∀ (H : Heap) (locs : List Loc) (ls : Array Slot), HS Y M H → va_S (AZ Y) s.heap H locs → lv_has ls 4 [(0, .ref (YA Y 20 0)), (1, .int a1), (3, .int a3)] → W p l e { frames := 2, cells := 0, slots := 0, locals := 46 } s m args below meth c H locs 0 0 (MQ below (Qi Y r MZ) args s 0 0 (AZ Y)) (F0 m 62 ls [.int b0]) := by
  obtain ⟨hx, hb, hr, hml, hown, hA, hlocks, hK, hZ⟩ := id C0
  intro M a1 a3 b0 hf H locs ls hH hS hl
  unfold f_X8_degree_62 at hf
  refine lv_iconst (v := (1 : Int32)) hx hb dX8_degree_62 (by decide) ?_
  refine lv_goto (tgt := 67) hx hb dX8_degree_63 (by decide) ?_
  exact w_X8_degree_67 C0 k23 hk23 M a1 a3 (1 : Int32) b0 hf _ _ _ hH hS (lv_sub hl [0, 1, 2] rfl)
def f_X8_degree_23 : Nat → Mem → Int32 → Int32 → Int32 → Option (Int32 × Mem)
  | 0, _, _, _, _ => none
  | n + 1, M, a1, a2, a3 => (if (M 21 0 1) ≤ a3 then some (a2, M) else bd (f_X8_linkAt M a3) fun r18 => if vin r18 192 then ((if (M 21 0 (ix r18)) = a1 then f_X8_degree_62 (f_X8_degree_23 n) M a1 a3 a2 else bd (f_X8_linkAt M a3) fun r21 => if vin (r21 + (1 : Int32)) 192 then ((if (M 21 0 (ix (r21 + (1 : Int32)))) = a1 then f_X8_degree_62 (f_X8_degree_23 n) M a1 a3 a2 else f_X8_degree_67 (f_X8_degree_23 n) M a1 a3 (0 : Int32) a2)) else none)) else none)
set_option maxHeartbeats 4000000 in
set_option maxRecDepth 100000 in
theorem w_X8_degree_23 {Y : LY} {p : Program} {l : Launch} {e : Env} {s : State} {m : MethodId} {args : Array Value} {below : List Frame} {meth : Method} {c : Code} (C0 : BE Y p s m args meth c cX8_degree 4 (Option.some Jvm.ClassFile.FieldType.int) RX8) {r : Int32} {MZ : Mem} : ∀ (n : Nat) (M : Mem) (a1 : Int32) (a2 : Int32) (a3 : Int32), f_X8_degree_23 n M a1 a2 a3 = some (r, MZ) → ∀ (H : Heap) (locs : List Loc) (ls : Array Slot), HS Y M H → va_S (AZ Y) s.heap H locs → lv_has ls 4 [(0, .ref (YA Y 20 0)), (1, .int a1), (2, .int a2), (3, .int a3)] → W p l e { frames := 2, cells := 0, slots := 0, locals := 46 } s m args below meth c H locs 0 0 (MQ below (Qi Y r MZ) args s 0 0 (AZ Y)) (F0 m 23 ls []) := by
  obtain ⟨hx, hb, hr, hml, hown, hA, hlocks, hK, hZ⟩ := id C0
  intro n
  induction n with
  | zero =>
    intro M a1 a2 a3 hf
    cases hf
  | succ n ih =>
    intro M a1 a2 a3 hf H locs ls hH hS hl
    rw [f_X8_degree_23] at hf
    refine lv_iload_n hx hb dX8_degree_23 rfl (lv_at hl 3 rfl) ?_
    refine lv_aload_n hx hb dX8_degree_24 rfl (lv_at hl 0 rfl) ?_
    refine hs_get hx hb (T := TX8) hA inAX8 hown hK hH 20 0 (by decide) 12 rfl rfl 0 (by decide) (hA _ zt_1551) rfl rfl dX8_degree_25 ?_
    refine lv_iconst (v := (1 : Int32)) hx hb dX8_degree_28 (by decide) ?_
    refine hs_iald hx hb hK hH 21 0 (by decide) rfl (show vin (1 : Int32) 192 from by decide) (show ix (1 : Int32) = 1 from by decide) dX8_degree_29 ?_
    refine lv_icmp_ge (tgt := 75) hx hb dX8_degree_30 (by decide) (fun hc25 => ?_) (fun hc25 => ?_)
    · have hf := if_t hf hc25
      refine lv_iload_n hx hb dX8_degree_75 rfl (lv_at hl 2 rfl) ?_
      cases hf
      exact hs_iret C0 hH hS (by decide) (by decide) dX8_degree_76
    · have hf := if_f hf hc25
      refine lv_iload_n hx hb dX8_degree_33 rfl (lv_at hl 2 rfl) ?_
      refine lv_aload_n hx hb dX8_degree_34 rfl (lv_at hl 0 rfl) ?_
      refine hs_get hx hb (T := TX8) hA inAX8 hown hK hH 20 0 (by decide) 12 rfl rfl 0 (by decide) (hA _ zt_1551) rfl rfl dX8_degree_35 ?_
      refine lv_iload_n hx hb dX8_degree_38 rfl (lv_at hl 3 rfl) ?_
      obtain ⟨r18, hq17, hf⟩ := bd_o hf
      refine hs_ci (hs_runS C0 hH hS (n := 1) (As := [.int a3]) (rest := [.ref (YA Y 21 0), .int a2]) (c_X8_linkAt M a3 hq17) ⟨⟨zt_1662, zt_1663, zt_13, zt_1664⟩, by decide, by decide, by decide +kernel⟩ ⟨rfl, rfl, Nat.le_of_ble_eq_true rfl, Nat.le_of_ble_eq_true rfl⟩ rfl rfl hl.1 (Nat.le_of_ble_eq_true rfl) ⟨Nat.le_of_ble_eq_true rfl, Nat.le_of_ble_eq_true rfl⟩ dX8_degree_39) hS (fun H locs hH hS => ?_)
      obtain ⟨hg19, hf⟩ := gd_o hf
      have bhg19 := vin_lt hg19
      refine hs_iald hx hb hK hH 21 0 (by decide) rfl hg19 rfl dX8_degree_42 ?_
      refine lv_iload_n hx hb dX8_degree_43 rfl (lv_at hl 1 rfl) ?_
      refine lv_icmp_eq (tgt := 62) hx hb dX8_degree_44 (by decide) (fun hc24 => ?_) (fun hc24 => ?_)
      · have hf := if_t hf hc24
        exact w_X8_degree_62 C0 (f_X8_degree_23 n) ih M a1 a3 a2 hf _ _ _ hH hS (lv_sub hl [0, 1, 3] rfl)
      · have hf := if_f hf hc24
        refine lv_aload_n hx hb dX8_degree_47 rfl (lv_at hl 0 rfl) ?_
        refine hs_get hx hb (T := TX8) hA inAX8 hown hK hH 20 0 (by decide) 12 rfl rfl 0 (by decide) (hA _ zt_1551) rfl rfl dX8_degree_48 ?_
        refine lv_iload_n hx hb dX8_degree_51 rfl (lv_at hl 3 rfl) ?_
        obtain ⟨r21, hq20, hf⟩ := bd_o hf
        refine hs_ci (hs_runS C0 hH hS (n := 1) (As := [.int a3]) (rest := [.ref (YA Y 21 0), .int a2]) (c_X8_linkAt M a3 hq20) ⟨⟨zt_1662, zt_1663, zt_13, zt_1664⟩, by decide, by decide, by decide +kernel⟩ ⟨rfl, rfl, Nat.le_of_ble_eq_true rfl, Nat.le_of_ble_eq_true rfl⟩ rfl rfl hl.1 (Nat.le_of_ble_eq_true rfl) ⟨Nat.le_of_ble_eq_true rfl, Nat.le_of_ble_eq_true rfl⟩ dX8_degree_52) hS (fun H locs hH hS => ?_)
        refine lv_iconst (v := (1 : Int32)) hx hb dX8_degree_55 (by decide) ?_
        refine lv_iadd hx hb dX8_degree_56 ?_
        obtain ⟨hg22, hf⟩ := gd_o hf
        have bhg22 := vin_lt hg22
        refine hs_iald hx hb hK hH 21 0 (by decide) rfl hg22 rfl dX8_degree_57 ?_
        refine lv_iload_n hx hb dX8_degree_58 rfl (lv_at hl 1 rfl) ?_
        refine lv_icmp_ne (tgt := 66) hx hb dX8_degree_59 (by decide) (fun hc23 => ?_) (fun hc23 => ?_)
        · have hf := if_f hf hc23
          refine lv_iconst (v := (0 : Int32)) hx hb dX8_degree_66 (by decide) ?_
          exact w_X8_degree_67 C0 (f_X8_degree_23 n) ih M a1 a3 (0 : Int32) a2 hf _ _ _ hH hS (lv_sub hl [0, 1, 3] rfl)
        · have hf := if_t hf hc23
          exact w_X8_degree_62 C0 (f_X8_degree_23 n) ih M a1 a3 a2 hf _ _ _ hH hS (lv_sub hl [0, 1, 3] rfl)
def f_X8_degree (M : Mem) (a1 : Int32) : Option (Int32 × Mem) := nm (mu M 20 0 9 (0 : Int32)) fun M26 => bd (f_X8_isPlace M26 a1) fun r28 => (if r28 = 0 then bd2 (f_X8_throwing M26 (1 : Int32)) fun r31 M30 => some (r31, M30) else f_X8_degree_23 FU M26 a1 (0 : Int32) (0 : Int32))
set_option maxHeartbeats 4000000 in
set_option maxRecDepth 100000 in
theorem c_X8_degree {Y : LY} {l : Launch} (M : Mem) (a1 : Int32) {r : Int32} {MZ : Mem} (hf : f_X8_degree M a1 = some (r, MZ)) : Met l yX8_degree (WS yX8_degree cX8_degree 4 (Option.some Jvm.ClassFile.FieldType.int)) { frames := 2, cells := 0, slots := 0, locals := 46 } (PcM Y M [.ref (YA Y 20 0), .int a1]) (Qi Y r MZ) 0 0 (AZ Y) := by
  refine met_mk (lv := [(0, .ref (YA Y 20 0)), (1, .int a1)]) [.ref (YA Y 20 0), .int a1] (by decide) rfl rfl (Nat.le_of_ble_eq_true rfl) (fun p e s m below meth c C0 hH ls hl => ?_)
  have hS : va_S (AZ Y) s.heap s.heap [] := va_S.rf
  obtain ⟨hx, hb, hr, hml, hown, hA, hlocks, hK, hZ⟩ := id C0
  unfold f_X8_degree at hf
  refine lv_aload_n hx hb dX8_degree_0 rfl (lv_at hl 0 rfl) ?_
  refine lv_iconst (v := (0 : Int32)) hx hb dX8_degree_1 (by decide) ?_
  refine hs_put hx hb (T := TX8) hA inAX8 tyX8 tyX8_ok nmX8 hown hK hH hS 20 0 (by decide) 12 rfl rfl 9 (by decide) (hA _ zt_1560) rfl rfl (by decide +kernel) (Nat.le_of_ble_eq_true rfl) rfl dX8_degree_2 (fun H locs hH hS => ?_)
  obtain ⟨M26, eM26, hf⟩ := nm_o hf
  rw [← eM26] at hH
  refine lv_aload_n hx hb dX8_degree_5 rfl (lv_at hl 0 rfl) ?_
  refine lv_iload_n hx hb dX8_degree_6 rfl (lv_at hl 1 rfl) ?_
  obtain ⟨r28, hq27, hf⟩ := bd_o hf
  refine hs_ci (hs_runV C0 hH hS (n := 1) (As := [.int a1]) (rest := []) (c_X8_isPlace M26 a1 hq27) ⟨⟨zt_1653, zt_1655, zs_37, zt_13, zt_1656⟩, rfl, by decide, by decide, by decide +kernel⟩ ⟨rfl, rfl, Nat.le_of_ble_eq_true rfl, Nat.le_of_ble_eq_true rfl⟩ (hs_recv hK hH 20 0 (by decide) 12 rfl rfl) rfl rfl hl.1 (Nat.le_of_ble_eq_true rfl) ⟨Nat.le_of_ble_eq_true rfl, Nat.le_of_ble_eq_true rfl⟩ dX8_degree_7) hS (fun H locs hH hS => ?_)
  refine lv_if_ne (tgt := 19) hx hb dX8_degree_10 (by decide) (fun hc32 => ?_) (fun hc32 => ?_)
  · have hf := if_f hf hc32
    refine lv_iconst (v := (0 : Int32)) hx hb dX8_degree_19 (by decide) ?_
    refine lv_istore_n (lv' := [(2, .int (0 : Int32)), (0, .ref (YA Y 20 0)), (1, .int a1)]) hx hb dX8_degree_20 rfl hl (by decide) rfl (fun ls hl => ?_)
    refine lv_iconst (v := (0 : Int32)) hx hb dX8_degree_21 (by decide) ?_
    refine lv_istore_n (lv' := [(3, .int (0 : Int32)), (2, .int (0 : Int32)), (0, .ref (YA Y 20 0)), (1, .int a1)]) hx hb dX8_degree_22 rfl hl (by decide) rfl (fun ls hl => ?_)
    exact w_X8_degree_23 C0 FU M26 a1 (0 : Int32) (0 : Int32) hf _ _ _ hH hS (lv_sub hl [2, 3, 1, 0] rfl)
  · have hf := if_t hf hc32
    refine lv_aload_n hx hb dX8_degree_13 rfl (lv_at hl 0 rfl) ?_
    refine lv_iconst (v := (1 : Int32)) hx hb dX8_degree_14 (by decide) ?_
    obtain ⟨r31, M30, hq29, hf⟩ := bd2_o hf
    refine hs_ci (hs_runV C0 hH hS (n := 1) (As := [.int (1 : Int32)]) (rest := []) (c_X8_throwing M26 (1 : Int32) hq29) ⟨⟨zt_1637, zt_1639, zs_34, zt_13, zt_1640⟩, rfl, by decide, by decide, by decide +kernel⟩ ⟨rfl, rfl, Nat.le_of_ble_eq_true rfl, Nat.le_of_ble_eq_true rfl⟩ (hs_recv hK hH 20 0 (by decide) 12 rfl rfl) rfl rfl hl.1 (Nat.le_of_ble_eq_true rfl) ⟨Nat.le_of_ble_eq_true rfl, Nat.le_of_ble_eq_true rfl⟩ dX8_degree_15) hS (fun H locs hH hS => ?_)
    cases hf
    exact hs_iret C0 hH hS (by decide) (by decide) dX8_degree_18
def f_X8_parcelCount (M : Mem) : Option (Int32 × Mem) := bd2 (f_X8_total M (2 : Int32)) fun r6 M5 => some (r6, M5)
set_option maxHeartbeats 4000000 in
set_option maxRecDepth 100000 in
theorem c_X8_parcelCount {Y : LY} {l : Launch} (M : Mem) {r : Int32} {MZ : Mem} (hf : f_X8_parcelCount M = some (r, MZ)) : Met l yX8_parcelCount (WS yX8_parcelCount cX8_parcelCount 1 (Option.some Jvm.ClassFile.FieldType.int)) { frames := 1, cells := 0, slots := 0, locals := 21 } (PcM Y M [.ref (YA Y 20 0)]) (Qi Y r MZ) 0 0 (AZ Y) := by
  refine met_mk (lv := [(0, .ref (YA Y 20 0))]) [.ref (YA Y 20 0)] (by decide) rfl rfl (Nat.le_of_ble_eq_true rfl) (fun p e s m below meth c C0 hH ls hl => ?_)
  have hS : va_S (AZ Y) s.heap s.heap [] := va_S.rf
  obtain ⟨hx, hb, hr, hml, hown, hA, hlocks, hK, hZ⟩ := id C0
  unfold f_X8_parcelCount at hf
  refine lv_aload_n hx hb dX8_parcelCount_0 rfl (lv_at hl 0 rfl) ?_
  refine lv_iconst (v := (2 : Int32)) hx hb dX8_parcelCount_1 (by decide) ?_
  obtain ⟨r6, M5, hq4, hf⟩ := bd2_o hf
  refine hs_ci (hs_runV C0 hH hS (n := 1) (As := [.int (2 : Int32)]) (rest := []) (c_X8_total M (2 : Int32) hq4) ⟨⟨zt_1792, zt_1794, zs_59, zt_13, zt_1795⟩, rfl, by decide, by decide, by decide +kernel⟩ ⟨rfl, rfl, Nat.le_of_ble_eq_true rfl, Nat.le_of_ble_eq_true rfl⟩ (hs_recv hK hH 20 0 (by decide) 12 rfl rfl) rfl rfl hl.1 (Nat.le_of_ble_eq_true rfl) ⟨Nat.le_of_ble_eq_true rfl, Nat.le_of_ble_eq_true rfl⟩ dX8_parcelCount_2) hS (fun H locs hH hS => ?_)
  cases hf
  exact hs_iret C0 hH hS (by decide) (by decide) dX8_parcelCount_5
def f_X8_idAt (M : Mem) (a1 : Int32) : Option (Int32 × Mem) := nm (mu M 20 0 9 (0 : Int32)) fun M11 => bd (f_X8_in M11 a1.toInt64 (0 : Int64) (((M11 21 0 2) - (1 : Int32)).toInt64)) fun r13 => (if r13 = 0 then bd2 (f_X8_throwing M11 (1 : Int32)) fun r16 M15 => some (r16, M15) else bd (f_X8_parcelAt M11 a1) fun r18 => if vin r18 192 then (some ((M11 21 0 (ix r18)), M11)) else none)
set_option maxHeartbeats 4000000 in
set_option maxRecDepth 100000 in
theorem c_X8_idAt {Y : LY} {l : Launch} (M : Mem) (a1 : Int32) {r : Int32} {MZ : Mem} (hf : f_X8_idAt M a1 = some (r, MZ)) : Met l yX8_idAt (WS yX8_idAt cX8_idAt 2 (Option.some Jvm.ClassFile.FieldType.int)) { frames := 1, cells := 0, slots := 0, locals := 25 } (PcM Y M [.ref (YA Y 20 0), .int a1]) (Qi Y r MZ) 0 0 (AZ Y) := by
  refine met_mk (lv := [(0, .ref (YA Y 20 0)), (1, .int a1)]) [.ref (YA Y 20 0), .int a1] (by decide) rfl rfl (Nat.le_of_ble_eq_true rfl) (fun p e s m below meth c C0 hH ls hl => ?_)
  have hS : va_S (AZ Y) s.heap s.heap [] := va_S.rf
  obtain ⟨hx, hb, hr, hml, hown, hA, hlocks, hK, hZ⟩ := id C0
  unfold f_X8_idAt at hf
  refine lv_aload_n hx hb dX8_idAt_0 rfl (lv_at hl 0 rfl) ?_
  refine lv_iconst (v := (0 : Int32)) hx hb dX8_idAt_1 (by decide) ?_
  refine hs_put hx hb (T := TX8) hA inAX8 tyX8 tyX8_ok nmX8 hown hK hH hS 20 0 (by decide) 12 rfl rfl 9 (by decide) (hA _ zt_1560) rfl rfl (by decide +kernel) (Nat.le_of_ble_eq_true rfl) rfl dX8_idAt_2 (fun H locs hH hS => ?_)
  obtain ⟨M11, eM11, hf⟩ := nm_o hf
  rw [← eM11] at hH
  refine lv_iload_n hx hb dX8_idAt_5 rfl (lv_at hl 1 rfl) ?_
  refine lv_i2l (v := a1.toInt64) hx hb dX8_idAt_6 rfl ?_
  refine lv_lconst (v := (0 : Int64)) hx hb dX8_idAt_7 (by decide) ?_
  refine lv_aload_n hx hb dX8_idAt_8 rfl (lv_at hl 0 rfl) ?_
  refine hs_get hx hb (T := TX8) hA inAX8 hown hK hH 20 0 (by decide) 12 rfl rfl 0 (by decide) (hA _ zt_1551) rfl rfl dX8_idAt_9 ?_
  refine lv_iconst (v := (2 : Int32)) hx hb dX8_idAt_12 (by decide) ?_
  refine hs_iald hx hb hK hH 21 0 (by decide) rfl (show vin (2 : Int32) 192 from by decide) (show ix (2 : Int32) = 2 from by decide) dX8_idAt_13 ?_
  refine lv_iconst (v := (1 : Int32)) hx hb dX8_idAt_14 (by decide) ?_
  refine lv_isub hx hb dX8_idAt_15 ?_
  refine lv_i2l (v := ((M11 21 0 2) - (1 : Int32)).toInt64) hx hb dX8_idAt_16 rfl ?_
  obtain ⟨r13, hq12, hf⟩ := bd_o hf
  refine hs_ci (hs_runS C0 hH hS (n := 3) (As := [.long a1.toInt64, .long (0 : Int64), .long (((M11 21 0 2) - (1 : Int32)).toInt64)]) (rest := []) (c_X8_in M11 a1.toInt64 (0 : Int64) (((M11 21 0 2) - (1 : Int32)).toInt64) hq12) ⟨⟨zt_1657, zt_1658, zt_13, zt_1659⟩, by decide, by decide, by decide +kernel⟩ ⟨rfl, rfl, Nat.le_of_ble_eq_true rfl, Nat.le_of_ble_eq_true rfl⟩ rfl rfl hl.1 (Nat.le_of_ble_eq_true rfl) ⟨Nat.le_of_ble_eq_true rfl, Nat.le_of_ble_eq_true rfl⟩ dX8_idAt_17) hS (fun H locs hH hS => ?_)
  refine lv_if_eq (tgt := 35) hx hb dX8_idAt_20 (by decide) (fun hc20 => ?_) (fun hc20 => ?_)
  · have hf := if_t hf hc20
    refine lv_aload_n hx hb dX8_idAt_35 rfl (lv_at hl 0 rfl) ?_
    refine lv_iconst (v := (1 : Int32)) hx hb dX8_idAt_36 (by decide) ?_
    obtain ⟨r16, M15, hq14, hf⟩ := bd2_o hf
    refine hs_ci (hs_runV C0 hH hS (n := 1) (As := [.int (1 : Int32)]) (rest := []) (c_X8_throwing M11 (1 : Int32) hq14) ⟨⟨zt_1637, zt_1639, zs_34, zt_13, zt_1640⟩, rfl, by decide, by decide, by decide +kernel⟩ ⟨rfl, rfl, Nat.le_of_ble_eq_true rfl, Nat.le_of_ble_eq_true rfl⟩ (hs_recv hK hH 20 0 (by decide) 12 rfl rfl) rfl rfl hl.1 (Nat.le_of_ble_eq_true rfl) ⟨Nat.le_of_ble_eq_true rfl, Nat.le_of_ble_eq_true rfl⟩ dX8_idAt_37) hS (fun H locs hH hS => ?_)
    cases hf
    exact hs_iret C0 hH hS (by decide) (by decide) dX8_idAt_40
  · have hf := if_f hf hc20
    refine lv_aload_n hx hb dX8_idAt_23 rfl (lv_at hl 0 rfl) ?_
    refine hs_get hx hb (T := TX8) hA inAX8 hown hK hH 20 0 (by decide) 12 rfl rfl 0 (by decide) (hA _ zt_1551) rfl rfl dX8_idAt_24 ?_
    refine lv_iload_n hx hb dX8_idAt_27 rfl (lv_at hl 1 rfl) ?_
    obtain ⟨r18, hq17, hf⟩ := bd_o hf
    refine hs_ci (hs_runS C0 hH hS (n := 1) (As := [.int a1]) (rest := [.ref (YA Y 21 0)]) (c_X8_parcelAt M11 a1 hq17) ⟨⟨zt_1694, zt_1695, zt_13, zt_1696⟩, by decide, by decide, by decide +kernel⟩ ⟨rfl, rfl, Nat.le_of_ble_eq_true rfl, Nat.le_of_ble_eq_true rfl⟩ rfl rfl hl.1 (Nat.le_of_ble_eq_true rfl) ⟨Nat.le_of_ble_eq_true rfl, Nat.le_of_ble_eq_true rfl⟩ dX8_idAt_28) hS (fun H locs hH hS => ?_)
    obtain ⟨hg19, hf⟩ := gd_o hf
    have bhg19 := vin_lt hg19
    refine hs_iald hx hb hK hH 21 0 (by decide) rfl hg19 rfl dX8_idAt_31 ?_
    refine lv_goto (tgt := 40) hx hb dX8_idAt_32 (by decide) ?_
    cases hf
    exact hs_iret C0 hH hS (by decide) (by decide) dX8_idAt_40
def f_X8_ofParcel (M : Mem) (a1 : Int32) (a2 : Int32) : Option (Int32 × Mem) := nm (mu M 20 0 9 (0 : Int32)) fun M13 => bd (f_X8_find M13 a1) fun r15 => (if r15 = (-1 : Int32) then bd2 (f_X8_throwing M13 (1 : Int32)) fun r23 M22 => some (r23, M22) else bd (f_X8_find M13 a1) fun r17 => bd (f_X8_parcelAt M13 r17) fun r19 => if vin (r19 + a2) 192 then (some ((M13 21 0 (ix (r19 + a2))), M13)) else none)
set_option maxHeartbeats 4000000 in
set_option maxRecDepth 100000 in
theorem c_X8_ofParcel {Y : LY} {l : Launch} (M : Mem) (a1 : Int32) (a2 : Int32) {r : Int32} {MZ : Mem} (hf : f_X8_ofParcel M a1 a2 = some (r, MZ)) : Met l yX8_ofParcel (WS yX8_ofParcel cX8_ofParcel 3 (Option.some Jvm.ClassFile.FieldType.int)) { frames := 2, cells := 0, slots := 0, locals := 42 } (PcM Y M [.ref (YA Y 20 0), .int a1, .int a2]) (Qi Y r MZ) 0 0 (AZ Y) := by
  refine met_mk (lv := [(0, .ref (YA Y 20 0)), (1, .int a1), (2, .int a2)]) [.ref (YA Y 20 0), .int a1, .int a2] (by decide) rfl rfl (Nat.le_of_ble_eq_true rfl) (fun p e s m below meth c C0 hH ls hl => ?_)
  have hS : va_S (AZ Y) s.heap s.heap [] := va_S.rf
  obtain ⟨hx, hb, hr, hml, hown, hA, hlocks, hK, hZ⟩ := id C0
  unfold f_X8_ofParcel at hf
  refine lv_aload_n hx hb dX8_ofParcel_0 rfl (lv_at hl 0 rfl) ?_
  refine lv_iconst (v := (0 : Int32)) hx hb dX8_ofParcel_1 (by decide) ?_
  refine hs_put hx hb (T := TX8) hA inAX8 tyX8 tyX8_ok nmX8 hown hK hH hS 20 0 (by decide) 12 rfl rfl 9 (by decide) (hA _ zt_1560) rfl rfl (by decide +kernel) (Nat.le_of_ble_eq_true rfl) rfl dX8_ofParcel_2 (fun H locs hH hS => ?_)
  obtain ⟨M13, eM13, hf⟩ := nm_o hf
  rw [← eM13] at hH
  refine lv_aload_n hx hb dX8_ofParcel_5 rfl (lv_at hl 0 rfl) ?_
  refine lv_iload_n hx hb dX8_ofParcel_6 rfl (lv_at hl 1 rfl) ?_
  obtain ⟨r15, hq14, hf⟩ := bd_o hf
  refine hs_ci (hs_runV C0 hH hS (n := 1) (As := [.int a1]) (rest := []) (c_X8_find M13 a1 hq14) ⟨⟨zt_1705, zt_1707, zs_43, zt_13, zt_1708⟩, rfl, by decide, by decide, by decide +kernel⟩ ⟨rfl, rfl, Nat.le_of_ble_eq_true rfl, Nat.le_of_ble_eq_true rfl⟩ (hs_recv hK hH 20 0 (by decide) 12 rfl rfl) rfl rfl hl.1 (Nat.le_of_ble_eq_true rfl) ⟨Nat.le_of_ble_eq_true rfl, Nat.le_of_ble_eq_true rfl⟩ dX8_ofParcel_7) hS (fun H locs hH hS => ?_)
  refine lv_iconst (v := (-1 : Int32)) hx hb dX8_ofParcel_10 (by decide) ?_
  refine lv_icmp_ne (tgt := 22) hx hb dX8_ofParcel_11 (by decide) (fun hc24 => ?_) (fun hc24 => ?_)
  · have hf := if_f hf hc24
    refine lv_aload_n hx hb dX8_ofParcel_22 rfl (lv_at hl 0 rfl) ?_
    refine hs_get hx hb (T := TX8) hA inAX8 hown hK hH 20 0 (by decide) 12 rfl rfl 0 (by decide) (hA _ zt_1551) rfl rfl dX8_ofParcel_23 ?_
    refine lv_aload_n hx hb dX8_ofParcel_26 rfl (lv_at hl 0 rfl) ?_
    refine lv_iload_n hx hb dX8_ofParcel_27 rfl (lv_at hl 1 rfl) ?_
    obtain ⟨r17, hq16, hf⟩ := bd_o hf
    refine hs_ci (hs_runV C0 hH hS (n := 1) (As := [.int a1]) (rest := [.ref (YA Y 21 0)]) (c_X8_find M13 a1 hq16) ⟨⟨zt_1705, zt_1707, zs_43, zt_13, zt_1708⟩, rfl, by decide, by decide, by decide +kernel⟩ ⟨rfl, rfl, Nat.le_of_ble_eq_true rfl, Nat.le_of_ble_eq_true rfl⟩ (hs_recv hK hH 20 0 (by decide) 12 rfl rfl) rfl rfl hl.1 (Nat.le_of_ble_eq_true rfl) ⟨Nat.le_of_ble_eq_true rfl, Nat.le_of_ble_eq_true rfl⟩ dX8_ofParcel_28) hS (fun H locs hH hS => ?_)
    obtain ⟨r19, hq18, hf⟩ := bd_o hf
    refine hs_ci (hs_runS C0 hH hS (n := 1) (As := [.int r17]) (rest := [.ref (YA Y 21 0)]) (c_X8_parcelAt M13 r17 hq18) ⟨⟨zt_1694, zt_1695, zt_13, zt_1696⟩, by decide, by decide, by decide +kernel⟩ ⟨rfl, rfl, Nat.le_of_ble_eq_true rfl, Nat.le_of_ble_eq_true rfl⟩ rfl rfl hl.1 (Nat.le_of_ble_eq_true rfl) ⟨Nat.le_of_ble_eq_true rfl, Nat.le_of_ble_eq_true rfl⟩ dX8_ofParcel_31) hS (fun H locs hH hS => ?_)
    refine lv_iload_n hx hb dX8_ofParcel_34 rfl (lv_at hl 2 rfl) ?_
    refine lv_iadd hx hb dX8_ofParcel_35 ?_
    obtain ⟨hg20, hf⟩ := gd_o hf
    have bhg20 := vin_lt hg20
    refine hs_iald hx hb hK hH 21 0 (by decide) rfl hg20 rfl dX8_ofParcel_36 ?_
    cases hf
    exact hs_iret C0 hH hS (by decide) (by decide) dX8_ofParcel_37
  · have hf := if_t hf hc24
    refine lv_aload_n hx hb dX8_ofParcel_14 rfl (lv_at hl 0 rfl) ?_
    refine lv_iconst (v := (1 : Int32)) hx hb dX8_ofParcel_15 (by decide) ?_
    obtain ⟨r23, M22, hq21, hf⟩ := bd2_o hf
    refine hs_ci (hs_runV C0 hH hS (n := 1) (As := [.int (1 : Int32)]) (rest := []) (c_X8_throwing M13 (1 : Int32) hq21) ⟨⟨zt_1637, zt_1639, zs_34, zt_13, zt_1640⟩, rfl, by decide, by decide, by decide +kernel⟩ ⟨rfl, rfl, Nat.le_of_ble_eq_true rfl, Nat.le_of_ble_eq_true rfl⟩ (hs_recv hK hH 20 0 (by decide) 12 rfl rfl) rfl rfl hl.1 (Nat.le_of_ble_eq_true rfl) ⟨Nat.le_of_ble_eq_true rfl, Nat.le_of_ble_eq_true rfl⟩ dX8_ofParcel_16) hS (fun H locs hH hS => ?_)
    refine lv_goto (tgt := 37) hx hb dX8_ofParcel_19 (by decide) ?_
    cases hf
    exact hs_iret C0 hH hS (by decide) (by decide) dX8_ofParcel_37
def f_X8_isTravelling (M : Mem) (a1 : Int32) : Option (Int32 × Mem) := bd2 (f_X8_ofParcel M a1 (4 : Int32)) fun r8 M7 => (if (M7 20 0 9) = 0 then (if r8 = (-1 : Int32) then some ((1 : Int32), M7) else some ((0 : Int32), M7)) else some ((0 : Int32), M7))
set_option maxHeartbeats 4000000 in
set_option maxRecDepth 100000 in
theorem c_X8_isTravelling {Y : LY} {l : Launch} (M : Mem) (a1 : Int32) {r : Int32} {MZ : Mem} (hf : f_X8_isTravelling M a1 = some (r, MZ)) : Met l yX8_isTravelling (WS yX8_isTravelling cX8_isTravelling 3 (Option.some Jvm.ClassFile.FieldType.boolean)) { frames := 3, cells := 0, slots := 0, locals := 64 } (PcM Y M [.ref (YA Y 20 0), .int a1]) (Qi Y r MZ) 0 0 (AZ Y) := by
  refine met_mk (lv := [(0, .ref (YA Y 20 0)), (1, .int a1)]) [.ref (YA Y 20 0), .int a1] (by decide) rfl rfl (Nat.le_of_ble_eq_true rfl) (fun p e s m below meth c C0 hH ls hl => ?_)
  have hS : va_S (AZ Y) s.heap s.heap [] := va_S.rf
  obtain ⟨hx, hb, hr, hml, hown, hA, hlocks, hK, hZ⟩ := id C0
  unfold f_X8_isTravelling at hf
  refine lv_aload_n hx hb dX8_isTravelling_0 rfl (lv_at hl 0 rfl) ?_
  refine lv_iload_n hx hb dX8_isTravelling_1 rfl (lv_at hl 1 rfl) ?_
  refine lv_iconst (v := (4 : Int32)) hx hb dX8_isTravelling_2 (by decide) ?_
  obtain ⟨r8, M7, hq6, hf⟩ := bd2_o hf
  refine hs_ci (hs_runV C0 hH hS (n := 2) (As := [.int a1, .int (4 : Int32)]) (rest := []) (c_X8_ofParcel M a1 (4 : Int32) hq6) ⟨⟨zt_1853, zt_1855, zs_61, zt_13, zt_1856⟩, rfl, by decide, by decide, by decide +kernel⟩ ⟨rfl, rfl, Nat.le_of_ble_eq_true rfl, Nat.le_of_ble_eq_true rfl⟩ (hs_recv hK hH 20 0 (by decide) 12 rfl rfl) rfl rfl hl.1 (Nat.le_of_ble_eq_true rfl) ⟨Nat.le_of_ble_eq_true rfl, Nat.le_of_ble_eq_true rfl⟩ dX8_isTravelling_3) hS (fun H locs hH hS => ?_)
  refine lv_istore_n (lv' := [(2, .int r8), (0, .ref (YA Y 20 0)), (1, .int a1)]) hx hb dX8_isTravelling_6 rfl hl (by decide) rfl (fun ls hl => ?_)
  refine lv_aload_n hx hb dX8_isTravelling_7 rfl (lv_at hl 1 rfl) ?_
  refine hs_get hx hb (T := TX8) hA inAX8 hown hK hH 20 0 (by decide) 12 rfl rfl 9 (by decide) (hA _ zt_1560) rfl rfl dX8_isTravelling_8 ?_
  refine lv_if_ne (tgt := 23) hx hb dX8_isTravelling_11 (by decide) (fun hc10 => ?_) (fun hc10 => ?_)
  · have hf := if_f hf hc10
    refine lv_iconst (v := (0 : Int32)) hx hb dX8_isTravelling_23 (by decide) ?_
    cases hf
    exact hs_zret C0 hH hS (by decide) (by decide) (by decide) dX8_isTravelling_24
  · have hf := if_t hf hc10
    refine lv_iload_n hx hb dX8_isTravelling_14 rfl (lv_at hl 0 rfl) ?_
    refine lv_iconst (v := (-1 : Int32)) hx hb dX8_isTravelling_15 (by decide) ?_
    refine lv_icmp_ne (tgt := 23) hx hb dX8_isTravelling_16 (by decide) (fun hc9 => ?_) (fun hc9 => ?_)
    · have hf := if_f hf hc9
      refine lv_iconst (v := (0 : Int32)) hx hb dX8_isTravelling_23 (by decide) ?_
      cases hf
      exact hs_zret C0 hH hS (by decide) (by decide) (by decide) dX8_isTravelling_24
    · have hf := if_t hf hc9
      refine lv_iconst (v := (1 : Int32)) hx hb dX8_isTravelling_19 (by decide) ?_
      refine lv_goto (tgt := 24) hx hb dX8_isTravelling_20 (by decide) ?_
      cases hf
      exact hs_zret C0 hH hS (by decide) (by decide) (by decide) dX8_isTravelling_24
def f_X8_placeOf (M : Mem) (a1 : Int32) : Option (Int32 × Mem) := bd2 (f_X8_ofParcel M a1 (4 : Int32)) fun r11 M10 => (if (M10 20 0 9) = 0 then (if r11 = (-1 : Int32) then bd2 (f_X8_throwing M10 (1 : Int32)) fun r14 M13 => some (r14, M13) else some (r11, M10)) else some (r11, M10))
set_option maxHeartbeats 4000000 in
set_option maxRecDepth 100000 in
theorem c_X8_placeOf {Y : LY} {l : Launch} (M : Mem) (a1 : Int32) {r : Int32} {MZ : Mem} (hf : f_X8_placeOf M a1 = some (r, MZ)) : Met l yX8_placeOf (WS yX8_placeOf cX8_placeOf 3 (Option.some Jvm.ClassFile.FieldType.int)) { frames := 3, cells := 0, slots := 0, locals := 64 } (PcM Y M [.ref (YA Y 20 0), .int a1]) (Qi Y r MZ) 0 0 (AZ Y) := by
  refine met_mk (lv := [(0, .ref (YA Y 20 0)), (1, .int a1)]) [.ref (YA Y 20 0), .int a1] (by decide) rfl rfl (Nat.le_of_ble_eq_true rfl) (fun p e s m below meth c C0 hH ls hl => ?_)
  have hS : va_S (AZ Y) s.heap s.heap [] := va_S.rf
  obtain ⟨hx, hb, hr, hml, hown, hA, hlocks, hK, hZ⟩ := id C0
  unfold f_X8_placeOf at hf
  refine lv_aload_n hx hb dX8_placeOf_0 rfl (lv_at hl 0 rfl) ?_
  refine lv_iload_n hx hb dX8_placeOf_1 rfl (lv_at hl 1 rfl) ?_
  refine lv_iconst (v := (4 : Int32)) hx hb dX8_placeOf_2 (by decide) ?_
  obtain ⟨r11, M10, hq9, hf⟩ := bd2_o hf
  refine hs_ci (hs_runV C0 hH hS (n := 2) (As := [.int a1, .int (4 : Int32)]) (rest := []) (c_X8_ofParcel M a1 (4 : Int32) hq9) ⟨⟨zt_1853, zt_1855, zs_61, zt_13, zt_1856⟩, rfl, by decide, by decide, by decide +kernel⟩ ⟨rfl, rfl, Nat.le_of_ble_eq_true rfl, Nat.le_of_ble_eq_true rfl⟩ (hs_recv hK hH 20 0 (by decide) 12 rfl rfl) rfl rfl hl.1 (Nat.le_of_ble_eq_true rfl) ⟨Nat.le_of_ble_eq_true rfl, Nat.le_of_ble_eq_true rfl⟩ dX8_placeOf_3) hS (fun H locs hH hS => ?_)
  refine lv_istore_n (lv' := [(2, .int r11), (0, .ref (YA Y 20 0)), (1, .int a1)]) hx hb dX8_placeOf_6 rfl hl (by decide) rfl (fun ls hl => ?_)
  refine lv_aload_n hx hb dX8_placeOf_7 rfl (lv_at hl 1 rfl) ?_
  refine hs_get hx hb (T := TX8) hA inAX8 hown hK hH 20 0 (by decide) 12 rfl rfl 9 (by decide) (hA _ zt_1560) rfl rfl dX8_placeOf_8 ?_
  refine lv_if_ne (tgt := 27) hx hb dX8_placeOf_11 (by decide) (fun hc16 => ?_) (fun hc16 => ?_)
  · have hf := if_f hf hc16
    refine lv_iload_n hx hb dX8_placeOf_27 rfl (lv_at hl 0 rfl) ?_
    cases hf
    exact hs_iret C0 hH hS (by decide) (by decide) dX8_placeOf_28
  · have hf := if_t hf hc16
    refine lv_iload_n hx hb dX8_placeOf_14 rfl (lv_at hl 0 rfl) ?_
    refine lv_iconst (v := (-1 : Int32)) hx hb dX8_placeOf_15 (by decide) ?_
    refine lv_icmp_ne (tgt := 27) hx hb dX8_placeOf_16 (by decide) (fun hc15 => ?_) (fun hc15 => ?_)
    · have hf := if_f hf hc15
      refine lv_iload_n hx hb dX8_placeOf_27 rfl (lv_at hl 0 rfl) ?_
      cases hf
      exact hs_iret C0 hH hS (by decide) (by decide) dX8_placeOf_28
    · have hf := if_t hf hc15
      refine lv_aload_n hx hb dX8_placeOf_19 rfl (lv_at hl 1 rfl) ?_
      refine lv_iconst (v := (1 : Int32)) hx hb dX8_placeOf_20 (by decide) ?_
      obtain ⟨r14, M13, hq12, hf⟩ := bd2_o hf
      refine hs_ci (hs_runV C0 hH hS (n := 1) (As := [.int (1 : Int32)]) (rest := []) (c_X8_throwing M10 (1 : Int32) hq12) ⟨⟨zt_1637, zt_1639, zs_34, zt_13, zt_1640⟩, rfl, by decide, by decide, by decide +kernel⟩ ⟨rfl, rfl, Nat.le_of_ble_eq_true rfl, Nat.le_of_ble_eq_true rfl⟩ (hs_recv hK hH 20 0 (by decide) 12 rfl rfl) rfl rfl hl.1 (Nat.le_of_ble_eq_true rfl) ⟨Nat.le_of_ble_eq_true rfl, Nat.le_of_ble_eq_true rfl⟩ dX8_placeOf_21) hS (fun H locs hH hS => ?_)
      refine lv_goto (tgt := 28) hx hb dX8_placeOf_24 (by decide) ?_
      cases hf
      exact hs_iret C0 hH hS (by decide) (by decide) dX8_placeOf_28
def f_X8_ofTravelling_19 (M : Mem) : Option (Int32 × Mem) := bd2 (f_X8_throwing M (1 : Int32)) fun r16 M15 => some (r16, M15)
set_option maxHeartbeats 4000000 in
set_option maxRecDepth 100000 in
theorem w_X8_ofTravelling_19 {Y : LY} {p : Program} {l : Launch} {e : Env} {s : State} {m : MethodId} {args : Array Value} {below : List Frame} {meth : Method} {c : Code} (C0 : BE Y p s m args meth c cX8_ofTravelling 4 (Option.some Jvm.ClassFile.FieldType.int) RX8) {r : Int32} {MZ : Mem} : ∀ (M : Mem), f_X8_ofTravelling_19 M = some (r, MZ) → ∀ (H : Heap) (locs : List Loc) (ls : Array Slot), HS Y M H → va_S (AZ Y) s.heap H locs → lv_has ls 4 [(0, .ref (YA Y 20 0))] → W p l e { frames := 3, cells := 0, slots := 0, locals := 64 } s m args below meth c H locs 0 0 (MQ below (Qi Y r MZ) args s 0 0 (AZ Y)) (F0 m 19 ls []) := by
  obtain ⟨hx, hb, hr, hml, hown, hA, hlocks, hK, hZ⟩ := id C0
  intro M hf H locs ls hH hS hl
  unfold f_X8_ofTravelling_19 at hf
  refine lv_aload_n hx hb dX8_ofTravelling_19 rfl (lv_at hl 0 rfl) ?_
  refine lv_iconst (v := (1 : Int32)) hx hb dX8_ofTravelling_20 (by decide) ?_
  obtain ⟨r16, M15, hq14, hf⟩ := bd2_o hf
  refine hs_ci (hs_runV C0 hH hS (n := 1) (As := [.int (1 : Int32)]) (rest := []) (c_X8_throwing M (1 : Int32) hq14) ⟨⟨zt_1637, zt_1639, zs_34, zt_13, zt_1640⟩, rfl, by decide, by decide, by decide +kernel⟩ ⟨rfl, rfl, Nat.le_of_ble_eq_true rfl, Nat.le_of_ble_eq_true rfl⟩ (hs_recv hK hH 20 0 (by decide) 12 rfl rfl) rfl rfl hl.1 (Nat.le_of_ble_eq_true rfl) ⟨Nat.le_of_ble_eq_true rfl, Nat.le_of_ble_eq_true rfl⟩ dX8_ofTravelling_21) hS (fun H locs hH hS => ?_)
  refine lv_goto (tgt := 42) hx hb dX8_ofTravelling_24 (by decide) ?_
  cases hf
  exact hs_iret C0 hH hS (by decide) (by decide) dX8_ofTravelling_42
def f_X8_ofTravelling (M : Mem) (a1 : Int32) (a2 : Int32) : Option (Int32 × Mem) := bd2 (f_X8_ofParcel M a1 (4 : Int32)) fun r19 M18 => (if 0 < (M18 20 0 9) then f_X8_ofTravelling_19 M18 else (if r19 = (-1 : Int32) then bd (f_X8_find M18 a1) fun r21 => bd (f_X8_parcelAt M18 r21) fun r23 => if vin (r23 + a2) 192 then (some ((M18 21 0 (ix (r23 + a2))), M18)) else none else f_X8_ofTravelling_19 M18))
set_option maxHeartbeats 4000000 in
set_option maxRecDepth 100000 in
theorem c_X8_ofTravelling {Y : LY} {l : Launch} (M : Mem) (a1 : Int32) (a2 : Int32) {r : Int32} {MZ : Mem} (hf : f_X8_ofTravelling M a1 a2 = some (r, MZ)) : Met l yX8_ofTravelling (WS yX8_ofTravelling cX8_ofTravelling 4 (Option.some Jvm.ClassFile.FieldType.int)) { frames := 3, cells := 0, slots := 0, locals := 64 } (PcM Y M [.ref (YA Y 20 0), .int a1, .int a2]) (Qi Y r MZ) 0 0 (AZ Y) := by
  refine met_mk (lv := [(0, .ref (YA Y 20 0)), (1, .int a1), (2, .int a2)]) [.ref (YA Y 20 0), .int a1, .int a2] (by decide) rfl rfl (Nat.le_of_ble_eq_true rfl) (fun p e s m below meth c C0 hH ls hl => ?_)
  have hS : va_S (AZ Y) s.heap s.heap [] := va_S.rf
  obtain ⟨hx, hb, hr, hml, hown, hA, hlocks, hK, hZ⟩ := id C0
  unfold f_X8_ofTravelling at hf
  refine lv_aload_n hx hb dX8_ofTravelling_0 rfl (lv_at hl 0 rfl) ?_
  refine lv_iload_n hx hb dX8_ofTravelling_1 rfl (lv_at hl 1 rfl) ?_
  refine lv_iconst (v := (4 : Int32)) hx hb dX8_ofTravelling_2 (by decide) ?_
  obtain ⟨r19, M18, hq17, hf⟩ := bd2_o hf
  refine hs_ci (hs_runV C0 hH hS (n := 2) (As := [.int a1, .int (4 : Int32)]) (rest := []) (c_X8_ofParcel M a1 (4 : Int32) hq17) ⟨⟨zt_1853, zt_1855, zs_61, zt_13, zt_1856⟩, rfl, by decide, by decide, by decide +kernel⟩ ⟨rfl, rfl, Nat.le_of_ble_eq_true rfl, Nat.le_of_ble_eq_true rfl⟩ (hs_recv hK hH 20 0 (by decide) 12 rfl rfl) rfl rfl hl.1 (Nat.le_of_ble_eq_true rfl) ⟨Nat.le_of_ble_eq_true rfl, Nat.le_of_ble_eq_true rfl⟩ dX8_ofTravelling_3) hS (fun H locs hH hS => ?_)
  refine lv_istore_n (lv' := [(3, .int r19), (0, .ref (YA Y 20 0)), (1, .int a1), (2, .int a2)]) hx hb dX8_ofTravelling_6 rfl hl (by decide) rfl (fun ls hl => ?_)
  refine lv_aload_n hx hb dX8_ofTravelling_7 rfl (lv_at hl 1 rfl) ?_
  refine hs_get hx hb (T := TX8) hA inAX8 hown hK hH 20 0 (by decide) 12 rfl rfl 9 (by decide) (hA _ zt_1560) rfl rfl dX8_ofTravelling_8 ?_
  refine lv_if_gt (tgt := 19) hx hb dX8_ofTravelling_11 (by decide) (fun hc26 => ?_) (fun hc26 => ?_)
  · have hf := if_t hf hc26
    exact w_X8_ofTravelling_19 C0 M18 hf _ _ _ hH hS (lv_sub hl [1] rfl)
  · have hf := if_f hf hc26
    refine lv_iload_n hx hb dX8_ofTravelling_14 rfl (lv_at hl 0 rfl) ?_
    refine lv_iconst (v := (-1 : Int32)) hx hb dX8_ofTravelling_15 (by decide) ?_
    refine lv_icmp_eq (tgt := 27) hx hb dX8_ofTravelling_16 (by decide) (fun hc25 => ?_) (fun hc25 => ?_)
    · have hf := if_t hf hc25
      refine lv_aload_n hx hb dX8_ofTravelling_27 rfl (lv_at hl 1 rfl) ?_
      refine hs_get hx hb (T := TX8) hA inAX8 hown hK hH 20 0 (by decide) 12 rfl rfl 0 (by decide) (hA _ zt_1551) rfl rfl dX8_ofTravelling_28 ?_
      refine lv_aload_n hx hb dX8_ofTravelling_31 rfl (lv_at hl 1 rfl) ?_
      refine lv_iload_n hx hb dX8_ofTravelling_32 rfl (lv_at hl 2 rfl) ?_
      obtain ⟨r21, hq20, hf⟩ := bd_o hf
      refine hs_ci (hs_runV C0 hH hS (n := 1) (As := [.int a1]) (rest := [.ref (YA Y 21 0)]) (c_X8_find M18 a1 hq20) ⟨⟨zt_1705, zt_1707, zs_43, zt_13, zt_1708⟩, rfl, by decide, by decide, by decide +kernel⟩ ⟨rfl, rfl, Nat.le_of_ble_eq_true rfl, Nat.le_of_ble_eq_true rfl⟩ (hs_recv hK hH 20 0 (by decide) 12 rfl rfl) rfl rfl hl.1 (Nat.le_of_ble_eq_true rfl) ⟨Nat.le_of_ble_eq_true rfl, Nat.le_of_ble_eq_true rfl⟩ dX8_ofTravelling_33) hS (fun H locs hH hS => ?_)
      obtain ⟨r23, hq22, hf⟩ := bd_o hf
      refine hs_ci (hs_runS C0 hH hS (n := 1) (As := [.int r21]) (rest := [.ref (YA Y 21 0)]) (c_X8_parcelAt M18 r21 hq22) ⟨⟨zt_1694, zt_1695, zt_13, zt_1696⟩, by decide, by decide, by decide +kernel⟩ ⟨rfl, rfl, Nat.le_of_ble_eq_true rfl, Nat.le_of_ble_eq_true rfl⟩ rfl rfl hl.1 (Nat.le_of_ble_eq_true rfl) ⟨Nat.le_of_ble_eq_true rfl, Nat.le_of_ble_eq_true rfl⟩ dX8_ofTravelling_36) hS (fun H locs hH hS => ?_)
      refine lv_iload_n hx hb dX8_ofTravelling_39 rfl (lv_at hl 3 rfl) ?_
      refine lv_iadd hx hb dX8_ofTravelling_40 ?_
      obtain ⟨hg24, hf⟩ := gd_o hf
      have bhg24 := vin_lt hg24
      refine hs_iald hx hb hK hH 21 0 (by decide) rfl hg24 rfl dX8_ofTravelling_41 ?_
      cases hf
      exact hs_iret C0 hH hS (by decide) (by decide) dX8_ofTravelling_42
    · have hf := if_f hf hc25
      exact w_X8_ofTravelling_19 C0 M18 hf _ _ _ hH hS (lv_sub hl [1] rfl)
def f_X8_linkOf (M : Mem) (a1 : Int32) : Option (Int32 × Mem) := bd2 (f_X8_ofTravelling M a1 (5 : Int32)) fun r6 M5 => some (r6, M5)
set_option maxHeartbeats 4000000 in
set_option maxRecDepth 100000 in
theorem c_X8_linkOf {Y : LY} {l : Launch} (M : Mem) (a1 : Int32) {r : Int32} {MZ : Mem} (hf : f_X8_linkOf M a1 = some (r, MZ)) : Met l yX8_linkOf (WS yX8_linkOf cX8_linkOf 2 (Option.some Jvm.ClassFile.FieldType.int)) { frames := 4, cells := 0, slots := 0, locals := 87 } (PcM Y M [.ref (YA Y 20 0), .int a1]) (Qi Y r MZ) 0 0 (AZ Y) := by
  refine met_mk (lv := [(0, .ref (YA Y 20 0)), (1, .int a1)]) [.ref (YA Y 20 0), .int a1] (by decide) rfl rfl (Nat.le_of_ble_eq_true rfl) (fun p e s m below meth c C0 hH ls hl => ?_)
  have hS : va_S (AZ Y) s.heap s.heap [] := va_S.rf
  obtain ⟨hx, hb, hr, hml, hown, hA, hlocks, hK, hZ⟩ := id C0
  unfold f_X8_linkOf at hf
  refine lv_aload_n hx hb dX8_linkOf_0 rfl (lv_at hl 0 rfl) ?_
  refine lv_iload_n hx hb dX8_linkOf_1 rfl (lv_at hl 1 rfl) ?_
  refine lv_iconst (v := (5 : Int32)) hx hb dX8_linkOf_2 (by decide) ?_
  obtain ⟨r6, M5, hq4, hf⟩ := bd2_o hf
  refine hs_ci (hs_runV C0 hH hS (n := 2) (As := [.int a1, .int (5 : Int32)]) (rest := []) (c_X8_ofTravelling M a1 (5 : Int32) hq4) ⟨⟨zt_1865, zt_1867, zs_62, zt_13, zt_1868⟩, rfl, by decide, by decide, by decide +kernel⟩ ⟨rfl, rfl, Nat.le_of_ble_eq_true rfl, Nat.le_of_ble_eq_true rfl⟩ (hs_recv hK hH 20 0 (by decide) 12 rfl rfl) rfl rfl hl.1 (Nat.le_of_ble_eq_true rfl) ⟨Nat.le_of_ble_eq_true rfl, Nat.le_of_ble_eq_true rfl⟩ dX8_linkOf_3) hS (fun H locs hH hS => ?_)
  cases hf
  exact hs_iret C0 hH hS (by decide) (by decide) dX8_linkOf_6
def f_X8_arrivalOf (M : Mem) (a1 : Int32) : Option (Int32 × Mem) := bd2 (f_X8_ofTravelling M a1 (6 : Int32)) fun r6 M5 => some (r6, M5)
set_option maxHeartbeats 4000000 in
set_option maxRecDepth 100000 in
theorem c_X8_arrivalOf {Y : LY} {l : Launch} (M : Mem) (a1 : Int32) {r : Int32} {MZ : Mem} (hf : f_X8_arrivalOf M a1 = some (r, MZ)) : Met l yX8_arrivalOf (WS yX8_arrivalOf cX8_arrivalOf 2 (Option.some Jvm.ClassFile.FieldType.int)) { frames := 4, cells := 0, slots := 0, locals := 87 } (PcM Y M [.ref (YA Y 20 0), .int a1]) (Qi Y r MZ) 0 0 (AZ Y) := by
  refine met_mk (lv := [(0, .ref (YA Y 20 0)), (1, .int a1)]) [.ref (YA Y 20 0), .int a1] (by decide) rfl rfl (Nat.le_of_ble_eq_true rfl) (fun p e s m below meth c C0 hH ls hl => ?_)
  have hS : va_S (AZ Y) s.heap s.heap [] := va_S.rf
  obtain ⟨hx, hb, hr, hml, hown, hA, hlocks, hK, hZ⟩ := id C0
  unfold f_X8_arrivalOf at hf
  refine lv_aload_n hx hb dX8_arrivalOf_0 rfl (lv_at hl 0 rfl) ?_
  refine lv_iload_n hx hb dX8_arrivalOf_1 rfl (lv_at hl 1 rfl) ?_
  refine lv_bipush (v := (6 : Int32)) hx hb dX8_arrivalOf_2 (by decide) ?_
  obtain ⟨r6, M5, hq4, hf⟩ := bd2_o hf
  refine hs_ci (hs_runV C0 hH hS (n := 2) (As := [.int a1, .int (6 : Int32)]) (rest := []) (c_X8_ofTravelling M a1 (6 : Int32) hq4) ⟨⟨zt_1865, zt_1867, zs_62, zt_13, zt_1868⟩, rfl, by decide, by decide, by decide +kernel⟩ ⟨rfl, rfl, Nat.le_of_ble_eq_true rfl, Nat.le_of_ble_eq_true rfl⟩ (hs_recv hK hH 20 0 (by decide) 12 rfl rfl) rfl rfl hl.1 (Nat.le_of_ble_eq_true rfl) ⟨Nat.le_of_ble_eq_true rfl, Nat.le_of_ble_eq_true rfl⟩ dX8_arrivalOf_4) hS (fun H locs hH hS => ?_)
  cases hf
  exact hs_iret C0 hH hS (by decide) (by decide) dX8_arrivalOf_7
def f_X8_destinationOf (M : Mem) (a1 : Int32) : Option (Int32 × Mem) := bd2 (f_X8_ofParcel M a1 (1 : Int32)) fun r6 M5 => some (r6, M5)
set_option maxHeartbeats 4000000 in
set_option maxRecDepth 100000 in
theorem c_X8_destinationOf {Y : LY} {l : Launch} (M : Mem) (a1 : Int32) {r : Int32} {MZ : Mem} (hf : f_X8_destinationOf M a1 = some (r, MZ)) : Met l yX8_destinationOf (WS yX8_destinationOf cX8_destinationOf 2 (Option.some Jvm.ClassFile.FieldType.int)) { frames := 3, cells := 0, slots := 0, locals := 64 } (PcM Y M [.ref (YA Y 20 0), .int a1]) (Qi Y r MZ) 0 0 (AZ Y) := by
  refine met_mk (lv := [(0, .ref (YA Y 20 0)), (1, .int a1)]) [.ref (YA Y 20 0), .int a1] (by decide) rfl rfl (Nat.le_of_ble_eq_true rfl) (fun p e s m below meth c C0 hH ls hl => ?_)
  have hS : va_S (AZ Y) s.heap s.heap [] := va_S.rf
  obtain ⟨hx, hb, hr, hml, hown, hA, hlocks, hK, hZ⟩ := id C0
  unfold f_X8_destinationOf at hf
  refine lv_aload_n hx hb dX8_destinationOf_0 rfl (lv_at hl 0 rfl) ?_
  refine lv_iload_n hx hb dX8_destinationOf_1 rfl (lv_at hl 1 rfl) ?_
  refine lv_iconst (v := (1 : Int32)) hx hb dX8_destinationOf_2 (by decide) ?_
  obtain ⟨r6, M5, hq4, hf⟩ := bd2_o hf
  refine hs_ci (hs_runV C0 hH hS (n := 2) (As := [.int a1, .int (1 : Int32)]) (rest := []) (c_X8_ofParcel M a1 (1 : Int32) hq4) ⟨⟨zt_1853, zt_1855, zs_61, zt_13, zt_1856⟩, rfl, by decide, by decide, by decide +kernel⟩ ⟨rfl, rfl, Nat.le_of_ble_eq_true rfl, Nat.le_of_ble_eq_true rfl⟩ (hs_recv hK hH 20 0 (by decide) 12 rfl rfl) rfl rfl hl.1 (Nat.le_of_ble_eq_true rfl) ⟨Nat.le_of_ble_eq_true rfl, Nat.le_of_ble_eq_true rfl⟩ dX8_destinationOf_3) hS (fun H locs hH hS => ?_)
  cases hf
  exact hs_iret C0 hH hS (by decide) (by decide) dX8_destinationOf_6
def f_X8_weightOf (M : Mem) (a1 : Int32) : Option (Int32 × Mem) := bd2 (f_X8_ofParcel M a1 (2 : Int32)) fun r6 M5 => some (r6, M5)
set_option maxHeartbeats 4000000 in
set_option maxRecDepth 100000 in
theorem c_X8_weightOf {Y : LY} {l : Launch} (M : Mem) (a1 : Int32) {r : Int32} {MZ : Mem} (hf : f_X8_weightOf M a1 = some (r, MZ)) : Met l yX8_weightOf (WS yX8_weightOf cX8_weightOf 2 (Option.some Jvm.ClassFile.FieldType.int)) { frames := 3, cells := 0, slots := 0, locals := 64 } (PcM Y M [.ref (YA Y 20 0), .int a1]) (Qi Y r MZ) 0 0 (AZ Y) := by
  refine met_mk (lv := [(0, .ref (YA Y 20 0)), (1, .int a1)]) [.ref (YA Y 20 0), .int a1] (by decide) rfl rfl (Nat.le_of_ble_eq_true rfl) (fun p e s m below meth c C0 hH ls hl => ?_)
  have hS : va_S (AZ Y) s.heap s.heap [] := va_S.rf
  obtain ⟨hx, hb, hr, hml, hown, hA, hlocks, hK, hZ⟩ := id C0
  unfold f_X8_weightOf at hf
  refine lv_aload_n hx hb dX8_weightOf_0 rfl (lv_at hl 0 rfl) ?_
  refine lv_iload_n hx hb dX8_weightOf_1 rfl (lv_at hl 1 rfl) ?_
  refine lv_iconst (v := (2 : Int32)) hx hb dX8_weightOf_2 (by decide) ?_
  obtain ⟨r6, M5, hq4, hf⟩ := bd2_o hf
  refine hs_ci (hs_runV C0 hH hS (n := 2) (As := [.int a1, .int (2 : Int32)]) (rest := []) (c_X8_ofParcel M a1 (2 : Int32) hq4) ⟨⟨zt_1853, zt_1855, zs_61, zt_13, zt_1856⟩, rfl, by decide, by decide, by decide +kernel⟩ ⟨rfl, rfl, Nat.le_of_ble_eq_true rfl, Nat.le_of_ble_eq_true rfl⟩ (hs_recv hK hH 20 0 (by decide) 12 rfl rfl) rfl rfl hl.1 (Nat.le_of_ble_eq_true rfl) ⟨Nat.le_of_ble_eq_true rfl, Nat.le_of_ble_eq_true rfl⟩ dX8_weightOf_3) hS (fun H locs hH hS => ?_)
  cases hf
  exact hs_iret C0 hH hS (by decide) (by decide) dX8_weightOf_6
def f_X8_stampsOf (M : Mem) (a1 : Int32) : Option (Int32 × Mem) := bd2 (f_X8_ofParcel M a1 (3 : Int32)) fun r6 M5 => some (r6, M5)
set_option maxHeartbeats 4000000 in
set_option maxRecDepth 100000 in
theorem c_X8_stampsOf {Y : LY} {l : Launch} (M : Mem) (a1 : Int32) {r : Int32} {MZ : Mem} (hf : f_X8_stampsOf M a1 = some (r, MZ)) : Met l yX8_stampsOf (WS yX8_stampsOf cX8_stampsOf 2 (Option.some Jvm.ClassFile.FieldType.int)) { frames := 3, cells := 0, slots := 0, locals := 64 } (PcM Y M [.ref (YA Y 20 0), .int a1]) (Qi Y r MZ) 0 0 (AZ Y) := by
  refine met_mk (lv := [(0, .ref (YA Y 20 0)), (1, .int a1)]) [.ref (YA Y 20 0), .int a1] (by decide) rfl rfl (Nat.le_of_ble_eq_true rfl) (fun p e s m below meth c C0 hH ls hl => ?_)
  have hS : va_S (AZ Y) s.heap s.heap [] := va_S.rf
  obtain ⟨hx, hb, hr, hml, hown, hA, hlocks, hK, hZ⟩ := id C0
  unfold f_X8_stampsOf at hf
  refine lv_aload_n hx hb dX8_stampsOf_0 rfl (lv_at hl 0 rfl) ?_
  refine lv_iload_n hx hb dX8_stampsOf_1 rfl (lv_at hl 1 rfl) ?_
  refine lv_iconst (v := (3 : Int32)) hx hb dX8_stampsOf_2 (by decide) ?_
  obtain ⟨r6, M5, hq4, hf⟩ := bd2_o hf
  refine hs_ci (hs_runV C0 hH hS (n := 2) (As := [.int a1, .int (3 : Int32)]) (rest := []) (c_X8_ofParcel M a1 (3 : Int32) hq4) ⟨⟨zt_1853, zt_1855, zs_61, zt_13, zt_1856⟩, rfl, by decide, by decide, by decide +kernel⟩ ⟨rfl, rfl, Nat.le_of_ble_eq_true rfl, Nat.le_of_ble_eq_true rfl⟩ (hs_recv hK hH 20 0 (by decide) 12 rfl rfl) rfl rfl hl.1 (Nat.le_of_ble_eq_true rfl) ⟨Nat.le_of_ble_eq_true rfl, Nat.le_of_ble_eq_true rfl⟩ dX8_stampsOf_3) hS (fun H locs hH hS => ?_)
  cases hf
  exact hs_iret C0 hH hS (by decide) (by decide) dX8_stampsOf_6
def f_X8_waitingIn_54 (k23 : Mem → Int32 → Int32 → Int32 → Option (Int32 × Mem)) (M : Mem) (a1 : Int32) (a3 : Int32) (b0 : Int32) (b1 : Int32) : Option (Int32 × Mem) := k23 M a1 (b1 + b0) (a3 + (1 : Int32))
set_option maxHeartbeats 4000000 in
set_option maxRecDepth 100000 in
theorem w_X8_waitingIn_54 {Y : LY} {p : Program} {l : Launch} {e : Env} {s : State} {m : MethodId} {args : Array Value} {below : List Frame} {meth : Method} {c : Code} (C0 : BE Y p s m args meth c cX8_waitingIn 4 (Option.some Jvm.ClassFile.FieldType.int) RX8) {r : Int32} {MZ : Mem} (k23 : Mem → Int32 → Int32 → Int32 → Option (Int32 × Mem)) (hk23 : ∀ (M : Mem) (a1 : Int32) (a2 : Int32) (a3 : Int32), k23 M a1 a2 a3 = some (r, MZ) → ∀ (H : Heap) (locs : List Loc) (ls : Array Slot), HS Y M H → va_S (AZ Y) s.heap H locs → lv_has ls 4 [(0, .ref (YA Y 20 0)), (1, .int a1), (2, .int a2), (3, .int a3)] → W p l e { frames := 2, cells := 0, slots := 0, locals := 46 } s m args below meth c H locs 0 0 (MQ below (Qi Y r MZ) args s 0 0 (AZ Y)) (F0 m 23 ls [])) : ∀ (M : Mem) (a1 : Int32) (a3 : Int32) (b0 : Int32) (b1 : Int32), f_X8_waitingIn_54 k23 M a1 a3 b0 b1 = some (r, MZ) → ∀ (H : Heap) (locs : List Loc) (ls : Array Slot), HS Y M H → va_S (AZ Y) s.heap H locs → lv_has ls 4 [(0, .ref (YA Y 20 0)), (1, .int a1), (3, .int a3)] → W p l e { frames := 2, cells := 0, slots := 0, locals := 46 } s m args below meth c H locs 0 0 (MQ below (Qi Y r MZ) args s 0 0 (AZ Y)) (F0 m 54 ls [.int b0, .int b1]) := by
  obtain ⟨hx, hb, hr, hml, hown, hA, hlocks, hK, hZ⟩ := id C0
  intro M a1 a3 b0 b1 hf H locs ls hH hS hl
  unfold f_X8_waitingIn_54 at hf
  refine lv_iadd hx hb dX8_waitingIn_54 ?_
  refine lv_istore_n (lv' := [(2, .int (b1 + b0)), (0, .ref (YA Y 20 0)), (1, .int a1), (3, .int a3)]) hx hb dX8_waitingIn_55 rfl hl (by decide) rfl (fun ls hl => ?_)
  refine lv_iinc (v := a3 + (1 : Int32)) (lv' := [(3, .int (a3 + (1 : Int32))), (2, .int (b1 + b0)), (0, .ref (YA Y 20 0)), (1, .int a1)]) hx hb dX8_waitingIn_56 hl (k := 3) rfl rfl (by decide) rfl (fun ls hl => ?_)
  refine lv_goto (tgt := 23) hx hb dX8_waitingIn_59 (by decide) ?_
  exact hk23 M a1 (b1 + b0) (a3 + (1 : Int32)) hf _ _ _ hH hS (lv_sub hl [2, 3, 1, 0] rfl)
def f_X8_waitingIn_23 : Nat → Mem → Int32 → Int32 → Int32 → Option (Int32 × Mem)
  | 0, _, _, _, _ => none
  | n + 1, M, a1, a2, a3 => (if (M 21 0 2) ≤ a3 then some (a2, M) else bd (f_X8_parcelAt M a3) fun r14 => if vin (r14 + (4 : Int32)) 192 then ((if (M 21 0 (ix (r14 + (4 : Int32)))) = a1 then f_X8_waitingIn_54 (f_X8_waitingIn_23 n) M a1 a3 (1 : Int32) a2 else f_X8_waitingIn_54 (f_X8_waitingIn_23 n) M a1 a3 (0 : Int32) a2)) else none)
set_option maxHeartbeats 4000000 in
set_option maxRecDepth 100000 in
theorem w_X8_waitingIn_23 {Y : LY} {p : Program} {l : Launch} {e : Env} {s : State} {m : MethodId} {args : Array Value} {below : List Frame} {meth : Method} {c : Code} (C0 : BE Y p s m args meth c cX8_waitingIn 4 (Option.some Jvm.ClassFile.FieldType.int) RX8) {r : Int32} {MZ : Mem} : ∀ (n : Nat) (M : Mem) (a1 : Int32) (a2 : Int32) (a3 : Int32), f_X8_waitingIn_23 n M a1 a2 a3 = some (r, MZ) → ∀ (H : Heap) (locs : List Loc) (ls : Array Slot), HS Y M H → va_S (AZ Y) s.heap H locs → lv_has ls 4 [(0, .ref (YA Y 20 0)), (1, .int a1), (2, .int a2), (3, .int a3)] → W p l e { frames := 2, cells := 0, slots := 0, locals := 46 } s m args below meth c H locs 0 0 (MQ below (Qi Y r MZ) args s 0 0 (AZ Y)) (F0 m 23 ls []) := by
  obtain ⟨hx, hb, hr, hml, hown, hA, hlocks, hK, hZ⟩ := id C0
  intro n
  induction n with
  | zero =>
    intro M a1 a2 a3 hf
    cases hf
  | succ n ih =>
    intro M a1 a2 a3 hf H locs ls hH hS hl
    rw [f_X8_waitingIn_23] at hf
    refine lv_iload_n hx hb dX8_waitingIn_23 rfl (lv_at hl 3 rfl) ?_
    refine lv_aload_n hx hb dX8_waitingIn_24 rfl (lv_at hl 0 rfl) ?_
    refine hs_get hx hb (T := TX8) hA inAX8 hown hK hH 20 0 (by decide) 12 rfl rfl 0 (by decide) (hA _ zt_1551) rfl rfl dX8_waitingIn_25 ?_
    refine lv_iconst (v := (2 : Int32)) hx hb dX8_waitingIn_28 (by decide) ?_
    refine hs_iald hx hb hK hH 21 0 (by decide) rfl (show vin (2 : Int32) 192 from by decide) (show ix (2 : Int32) = 2 from by decide) dX8_waitingIn_29 ?_
    refine lv_icmp_ge (tgt := 62) hx hb dX8_waitingIn_30 (by decide) (fun hc17 => ?_) (fun hc17 => ?_)
    · have hf := if_t hf hc17
      refine lv_iload_n hx hb dX8_waitingIn_62 rfl (lv_at hl 2 rfl) ?_
      cases hf
      exact hs_iret C0 hH hS (by decide) (by decide) dX8_waitingIn_63
    · have hf := if_f hf hc17
      refine lv_iload_n hx hb dX8_waitingIn_33 rfl (lv_at hl 2 rfl) ?_
      refine lv_aload_n hx hb dX8_waitingIn_34 rfl (lv_at hl 0 rfl) ?_
      refine hs_get hx hb (T := TX8) hA inAX8 hown hK hH 20 0 (by decide) 12 rfl rfl 0 (by decide) (hA _ zt_1551) rfl rfl dX8_waitingIn_35 ?_
      refine lv_iload_n hx hb dX8_waitingIn_38 rfl (lv_at hl 3 rfl) ?_
      obtain ⟨r14, hq13, hf⟩ := bd_o hf
      refine hs_ci (hs_runS C0 hH hS (n := 1) (As := [.int a3]) (rest := [.ref (YA Y 21 0), .int a2]) (c_X8_parcelAt M a3 hq13) ⟨⟨zt_1694, zt_1695, zt_13, zt_1696⟩, by decide, by decide, by decide +kernel⟩ ⟨rfl, rfl, Nat.le_of_ble_eq_true rfl, Nat.le_of_ble_eq_true rfl⟩ rfl rfl hl.1 (Nat.le_of_ble_eq_true rfl) ⟨Nat.le_of_ble_eq_true rfl, Nat.le_of_ble_eq_true rfl⟩ dX8_waitingIn_39) hS (fun H locs hH hS => ?_)
      refine lv_iconst (v := (4 : Int32)) hx hb dX8_waitingIn_42 (by decide) ?_
      refine lv_iadd hx hb dX8_waitingIn_43 ?_
      obtain ⟨hg15, hf⟩ := gd_o hf
      have bhg15 := vin_lt hg15
      refine hs_iald hx hb hK hH 21 0 (by decide) rfl hg15 rfl dX8_waitingIn_44 ?_
      refine lv_iload_n hx hb dX8_waitingIn_45 rfl (lv_at hl 1 rfl) ?_
      refine lv_icmp_ne (tgt := 53) hx hb dX8_waitingIn_46 (by decide) (fun hc16 => ?_) (fun hc16 => ?_)
      · have hf := if_f hf hc16
        refine lv_iconst (v := (0 : Int32)) hx hb dX8_waitingIn_53 (by decide) ?_
        exact w_X8_waitingIn_54 C0 (f_X8_waitingIn_23 n) ih M a1 a3 (0 : Int32) a2 hf _ _ _ hH hS (lv_sub hl [0, 1, 3] rfl)
      · have hf := if_t hf hc16
        refine lv_iconst (v := (1 : Int32)) hx hb dX8_waitingIn_49 (by decide) ?_
        refine lv_goto (tgt := 54) hx hb dX8_waitingIn_50 (by decide) ?_
        exact w_X8_waitingIn_54 C0 (f_X8_waitingIn_23 n) ih M a1 a3 (1 : Int32) a2 hf _ _ _ hH hS (lv_sub hl [0, 1, 3] rfl)
def f_X8_waitingIn (M : Mem) (a1 : Int32) : Option (Int32 × Mem) := nm (mu M 20 0 9 (0 : Int32)) fun M18 => bd (f_X8_isPlace M18 a1) fun r20 => (if r20 = 0 then bd2 (f_X8_throwing M18 (1 : Int32)) fun r23 M22 => some (r23, M22) else f_X8_waitingIn_23 FU M18 a1 (0 : Int32) (0 : Int32))
set_option maxHeartbeats 4000000 in
set_option maxRecDepth 100000 in
theorem c_X8_waitingIn {Y : LY} {l : Launch} (M : Mem) (a1 : Int32) {r : Int32} {MZ : Mem} (hf : f_X8_waitingIn M a1 = some (r, MZ)) : Met l yX8_waitingIn (WS yX8_waitingIn cX8_waitingIn 4 (Option.some Jvm.ClassFile.FieldType.int)) { frames := 2, cells := 0, slots := 0, locals := 46 } (PcM Y M [.ref (YA Y 20 0), .int a1]) (Qi Y r MZ) 0 0 (AZ Y) := by
  refine met_mk (lv := [(0, .ref (YA Y 20 0)), (1, .int a1)]) [.ref (YA Y 20 0), .int a1] (by decide) rfl rfl (Nat.le_of_ble_eq_true rfl) (fun p e s m below meth c C0 hH ls hl => ?_)
  have hS : va_S (AZ Y) s.heap s.heap [] := va_S.rf
  obtain ⟨hx, hb, hr, hml, hown, hA, hlocks, hK, hZ⟩ := id C0
  unfold f_X8_waitingIn at hf
  refine lv_aload_n hx hb dX8_waitingIn_0 rfl (lv_at hl 0 rfl) ?_
  refine lv_iconst (v := (0 : Int32)) hx hb dX8_waitingIn_1 (by decide) ?_
  refine hs_put hx hb (T := TX8) hA inAX8 tyX8 tyX8_ok nmX8 hown hK hH hS 20 0 (by decide) 12 rfl rfl 9 (by decide) (hA _ zt_1560) rfl rfl (by decide +kernel) (Nat.le_of_ble_eq_true rfl) rfl dX8_waitingIn_2 (fun H locs hH hS => ?_)
  obtain ⟨M18, eM18, hf⟩ := nm_o hf
  rw [← eM18] at hH
  refine lv_aload_n hx hb dX8_waitingIn_5 rfl (lv_at hl 0 rfl) ?_
  refine lv_iload_n hx hb dX8_waitingIn_6 rfl (lv_at hl 1 rfl) ?_
  obtain ⟨r20, hq19, hf⟩ := bd_o hf
  refine hs_ci (hs_runV C0 hH hS (n := 1) (As := [.int a1]) (rest := []) (c_X8_isPlace M18 a1 hq19) ⟨⟨zt_1653, zt_1655, zs_37, zt_13, zt_1656⟩, rfl, by decide, by decide, by decide +kernel⟩ ⟨rfl, rfl, Nat.le_of_ble_eq_true rfl, Nat.le_of_ble_eq_true rfl⟩ (hs_recv hK hH 20 0 (by decide) 12 rfl rfl) rfl rfl hl.1 (Nat.le_of_ble_eq_true rfl) ⟨Nat.le_of_ble_eq_true rfl, Nat.le_of_ble_eq_true rfl⟩ dX8_waitingIn_7) hS (fun H locs hH hS => ?_)
  refine lv_if_ne (tgt := 19) hx hb dX8_waitingIn_10 (by decide) (fun hc24 => ?_) (fun hc24 => ?_)
  · have hf := if_f hf hc24
    refine lv_iconst (v := (0 : Int32)) hx hb dX8_waitingIn_19 (by decide) ?_
    refine lv_istore_n (lv' := [(2, .int (0 : Int32)), (0, .ref (YA Y 20 0)), (1, .int a1)]) hx hb dX8_waitingIn_20 rfl hl (by decide) rfl (fun ls hl => ?_)
    refine lv_iconst (v := (0 : Int32)) hx hb dX8_waitingIn_21 (by decide) ?_
    refine lv_istore_n (lv' := [(3, .int (0 : Int32)), (2, .int (0 : Int32)), (0, .ref (YA Y 20 0)), (1, .int a1)]) hx hb dX8_waitingIn_22 rfl hl (by decide) rfl (fun ls hl => ?_)
    exact w_X8_waitingIn_23 C0 FU M18 a1 (0 : Int32) (0 : Int32) hf _ _ _ hH hS (lv_sub hl [2, 3, 1, 0] rfl)
  · have hf := if_t hf hc24
    refine lv_aload_n hx hb dX8_waitingIn_13 rfl (lv_at hl 0 rfl) ?_
    refine lv_iconst (v := (1 : Int32)) hx hb dX8_waitingIn_14 (by decide) ?_
    obtain ⟨r23, M22, hq21, hf⟩ := bd2_o hf
    refine hs_ci (hs_runV C0 hH hS (n := 1) (As := [.int (1 : Int32)]) (rest := []) (c_X8_throwing M18 (1 : Int32) hq21) ⟨⟨zt_1637, zt_1639, zs_34, zt_13, zt_1640⟩, rfl, by decide, by decide, by decide +kernel⟩ ⟨rfl, rfl, Nat.le_of_ble_eq_true rfl, Nat.le_of_ble_eq_true rfl⟩ (hs_recv hK hH 20 0 (by decide) 12 rfl rfl) rfl rfl hl.1 (Nat.le_of_ble_eq_true rfl) ⟨Nat.le_of_ble_eq_true rfl, Nat.le_of_ble_eq_true rfl⟩ dX8_waitingIn_15) hS (fun H locs hH hS => ?_)
    cases hf
    exact hs_iret C0 hH hS (by decide) (by decide) dX8_waitingIn_18
def f_X8_earliestArrival_21 (M : Mem) : Option (Int32 × Mem) := bd2 (f_X8_throwing M (1 : Int32)) fun r26 M25 => some (r26, M25)
set_option maxHeartbeats 4000000 in
set_option maxRecDepth 100000 in
theorem w_X8_earliestArrival_21 {Y : LY} {p : Program} {l : Launch} {e : Env} {s : State} {m : MethodId} {args : Array Value} {below : List Frame} {meth : Method} {c : Code} (C0 : BE Y p s m args meth c cX8_earliestArrival 5 (Option.some Jvm.ClassFile.FieldType.int) RX8) {r : Int32} {MZ : Mem} : ∀ (M : Mem), f_X8_earliestArrival_21 M = some (r, MZ) → ∀ (H : Heap) (locs : List Loc) (ls : Array Slot), HS Y M H → va_S (AZ Y) s.heap H locs → lv_has ls 5 [(0, .ref (YA Y 20 0))] → W p l e { frames := 4, cells := 0, slots := 0, locals := 92 } s m args below meth c H locs 0 0 (MQ below (Qi Y r MZ) args s 0 0 (AZ Y)) (F0 m 21 ls []) := by
  obtain ⟨hx, hb, hr, hml, hown, hA, hlocks, hK, hZ⟩ := id C0
  intro M hf H locs ls hH hS hl
  unfold f_X8_earliestArrival_21 at hf
  refine lv_aload_n hx hb dX8_earliestArrival_21 rfl (lv_at hl 0 rfl) ?_
  refine lv_iconst (v := (1 : Int32)) hx hb dX8_earliestArrival_22 (by decide) ?_
  obtain ⟨r26, M25, hq24, hf⟩ := bd2_o hf
  refine hs_ci (hs_runV C0 hH hS (n := 1) (As := [.int (1 : Int32)]) (rest := []) (c_X8_throwing M (1 : Int32) hq24) ⟨⟨zt_1637, zt_1639, zs_34, zt_13, zt_1640⟩, rfl, by decide, by decide, by decide +kernel⟩ ⟨rfl, rfl, Nat.le_of_ble_eq_true rfl, Nat.le_of_ble_eq_true rfl⟩ (hs_recv hK hH 20 0 (by decide) 12 rfl rfl) rfl rfl hl.1 (Nat.le_of_ble_eq_true rfl) ⟨Nat.le_of_ble_eq_true rfl, Nat.le_of_ble_eq_true rfl⟩ dX8_earliestArrival_23) hS (fun H locs hH hS => ?_)
  cases hf
  exact hs_iret C0 hH hS (by decide) (by decide) dX8_earliestArrival_26
def f_X8_earliestArrival (M : Mem) (a1 : Int32) (a2 : Int32) (a3 : Int32) : Option (Int32 × Mem) := nm (mu M 20 0 9 (0 : Int32)) fun M27 => bd (f_X8_isPlace M27 a1) fun r29 => (if r29 = 0 then f_X8_earliestArrival_21 M27 else bd (f_X8_isPlace M27 a2) fun r31 => (if r31 = 0 then f_X8_earliestArrival_21 M27 else bd (f_X8_in M27 a3.toInt64 (0 : Int64) (9999 : Int64)) fun r33 => (if r33 = 0 then bd2 (f_X8_throwing M27 (2 : Int32)) fun r43 M42 => some (r43, M42) else bd2 (f_X8_earliest M27 a1 a2 a3) fun r36 M35 => (if r36 = (1000000 : Int32) then bd2 (f_X8_throwing M35 (3 : Int32)) fun r39 M38 => some (r39, M38) else some (r36, M35)))))
set_option maxHeartbeats 4000000 in
set_option maxRecDepth 100000 in
theorem c_X8_earliestArrival {Y : LY} {l : Launch} (M : Mem) (a1 : Int32) (a2 : Int32) (a3 : Int32) {r : Int32} {MZ : Mem} (hf : f_X8_earliestArrival M a1 a2 a3 = some (r, MZ)) : Met l yX8_earliestArrival (WS yX8_earliestArrival cX8_earliestArrival 5 (Option.some Jvm.ClassFile.FieldType.int)) { frames := 4, cells := 0, slots := 0, locals := 92 } (PcM Y M [.ref (YA Y 20 0), .int a1, .int a2, .int a3]) (Qi Y r MZ) 0 0 (AZ Y) := by
  refine met_mk (lv := [(0, .ref (YA Y 20 0)), (1, .int a1), (2, .int a2), (3, .int a3)]) [.ref (YA Y 20 0), .int a1, .int a2, .int a3] (by decide) rfl rfl (Nat.le_of_ble_eq_true rfl) (fun p e s m below meth c C0 hH ls hl => ?_)
  have hS : va_S (AZ Y) s.heap s.heap [] := va_S.rf
  obtain ⟨hx, hb, hr, hml, hown, hA, hlocks, hK, hZ⟩ := id C0
  unfold f_X8_earliestArrival at hf
  refine lv_aload_n hx hb dX8_earliestArrival_0 rfl (lv_at hl 0 rfl) ?_
  refine lv_iconst (v := (0 : Int32)) hx hb dX8_earliestArrival_1 (by decide) ?_
  refine hs_put hx hb (T := TX8) hA inAX8 tyX8 tyX8_ok nmX8 hown hK hH hS 20 0 (by decide) 12 rfl rfl 9 (by decide) (hA _ zt_1560) rfl rfl (by decide +kernel) (Nat.le_of_ble_eq_true rfl) rfl dX8_earliestArrival_2 (fun H locs hH hS => ?_)
  obtain ⟨M27, eM27, hf⟩ := nm_o hf
  rw [← eM27] at hH
  refine lv_aload_n hx hb dX8_earliestArrival_5 rfl (lv_at hl 0 rfl) ?_
  refine lv_iload_n hx hb dX8_earliestArrival_6 rfl (lv_at hl 1 rfl) ?_
  obtain ⟨r29, hq28, hf⟩ := bd_o hf
  refine hs_ci (hs_runV C0 hH hS (n := 1) (As := [.int a1]) (rest := []) (c_X8_isPlace M27 a1 hq28) ⟨⟨zt_1653, zt_1655, zs_37, zt_13, zt_1656⟩, rfl, by decide, by decide, by decide +kernel⟩ ⟨rfl, rfl, Nat.le_of_ble_eq_true rfl, Nat.le_of_ble_eq_true rfl⟩ (hs_recv hK hH 20 0 (by decide) 12 rfl rfl) rfl rfl hl.1 (Nat.le_of_ble_eq_true rfl) ⟨Nat.le_of_ble_eq_true rfl, Nat.le_of_ble_eq_true rfl⟩ dX8_earliestArrival_7) hS (fun H locs hH hS => ?_)
  refine lv_if_eq (tgt := 21) hx hb dX8_earliestArrival_10 (by decide) (fun hc46 => ?_) (fun hc46 => ?_)
  · have hf := if_t hf hc46
    exact w_X8_earliestArrival_21 C0 M27 hf _ _ _ hH hS (lv_sub hl [0] rfl)
  · have hf := if_f hf hc46
    refine lv_aload_n hx hb dX8_earliestArrival_13 rfl (lv_at hl 0 rfl) ?_
    refine lv_iload_n hx hb dX8_earliestArrival_14 rfl (lv_at hl 2 rfl) ?_
    obtain ⟨r31, hq30, hf⟩ := bd_o hf
    refine hs_ci (hs_runV C0 hH hS (n := 1) (As := [.int a2]) (rest := []) (c_X8_isPlace M27 a2 hq30) ⟨⟨zt_1653, zt_1655, zs_37, zt_13, zt_1656⟩, rfl, by decide, by decide, by decide +kernel⟩ ⟨rfl, rfl, Nat.le_of_ble_eq_true rfl, Nat.le_of_ble_eq_true rfl⟩ (hs_recv hK hH 20 0 (by decide) 12 rfl rfl) rfl rfl hl.1 (Nat.le_of_ble_eq_true rfl) ⟨Nat.le_of_ble_eq_true rfl, Nat.le_of_ble_eq_true rfl⟩ dX8_earliestArrival_15) hS (fun H locs hH hS => ?_)
    refine lv_if_ne (tgt := 27) hx hb dX8_earliestArrival_18 (by decide) (fun hc45 => ?_) (fun hc45 => ?_)
    · have hf := if_f hf hc45
      refine lv_iload_n hx hb dX8_earliestArrival_27 rfl (lv_at hl 3 rfl) ?_
      refine lv_i2l (v := a3.toInt64) hx hb dX8_earliestArrival_28 rfl ?_
      refine lv_lconst (v := (0 : Int64)) hx hb dX8_earliestArrival_29 (by decide) ?_
      refine lv_ldc2 (v := (9999 : Int64)) hx hb hown (hA _ zt_1828) dX8_earliestArrival_30 ?_
      obtain ⟨r33, hq32, hf⟩ := bd_o hf
      refine hs_ci (hs_runS C0 hH hS (n := 3) (As := [.long a3.toInt64, .long (0 : Int64), .long (9999 : Int64)]) (rest := []) (c_X8_in M27 a3.toInt64 (0 : Int64) (9999 : Int64) hq32) ⟨⟨zt_1657, zt_1658, zt_13, zt_1659⟩, by decide, by decide, by decide +kernel⟩ ⟨rfl, rfl, Nat.le_of_ble_eq_true rfl, Nat.le_of_ble_eq_true rfl⟩ rfl rfl hl.1 (Nat.le_of_ble_eq_true rfl) ⟨Nat.le_of_ble_eq_true rfl, Nat.le_of_ble_eq_true rfl⟩ dX8_earliestArrival_33) hS (fun H locs hH hS => ?_)
      refine lv_if_ne (tgt := 45) hx hb dX8_earliestArrival_36 (by decide) (fun hc44 => ?_) (fun hc44 => ?_)
      · have hf := if_f hf hc44
        refine lv_aload_n hx hb dX8_earliestArrival_45 rfl (lv_at hl 0 rfl) ?_
        refine lv_iload_n hx hb dX8_earliestArrival_46 rfl (lv_at hl 1 rfl) ?_
        refine lv_iload_n hx hb dX8_earliestArrival_47 rfl (lv_at hl 2 rfl) ?_
        refine lv_iload_n hx hb dX8_earliestArrival_48 rfl (lv_at hl 3 rfl) ?_
        obtain ⟨r36, M35, hq34, hf⟩ := bd2_o hf
        refine hs_ci (hs_runV C0 hH hS (n := 3) (As := [.int a1, .int a2, .int a3]) (rest := []) (c_X8_earliest M27 a1 a2 a3 hq34) ⟨⟨zt_1765, zt_1767, zs_55, zt_13, zt_1768⟩, rfl, by decide, by decide, by decide +kernel⟩ ⟨rfl, rfl, Nat.le_of_ble_eq_true rfl, Nat.le_of_ble_eq_true rfl⟩ (hs_recv hK hH 20 0 (by decide) 12 rfl rfl) rfl rfl hl.1 (Nat.le_of_ble_eq_true rfl) ⟨Nat.le_of_ble_eq_true rfl, Nat.le_of_ble_eq_true rfl⟩ dX8_earliestArrival_49) hS (fun H locs hH hS => ?_)
        refine lv_istore (lv' := [(4, .int r36), (0, .ref (YA Y 20 0)), (1, .int a1), (2, .int a2), (3, .int a3)]) hx hb dX8_earliestArrival_52 hl (by decide) rfl (fun ls hl => ?_)
        refine lv_iload hx hb dX8_earliestArrival_54 (lv_at hl 0 rfl) ?_
        refine lv_ldc (v := (1000000 : Int32)) hx hb hown (hA _ zt_1773) dX8_earliestArrival_56 ?_
        refine lv_icmp_ne (tgt := 69) hx hb dX8_earliestArrival_58 (by decide) (fun hc40 => ?_) (fun hc40 => ?_)
        · have hf := if_f hf hc40
          refine lv_iload hx hb dX8_earliestArrival_69 (lv_at hl 0 rfl) ?_
          cases hf
          exact hs_iret C0 hH hS (by decide) (by decide) dX8_earliestArrival_71
        · have hf := if_t hf hc40
          refine lv_aload_n hx hb dX8_earliestArrival_61 rfl (lv_at hl 1 rfl) ?_
          refine lv_iconst (v := (3 : Int32)) hx hb dX8_earliestArrival_62 (by decide) ?_
          obtain ⟨r39, M38, hq37, hf⟩ := bd2_o hf
          refine hs_ci (hs_runV C0 hH hS (n := 1) (As := [.int (3 : Int32)]) (rest := []) (c_X8_throwing M35 (3 : Int32) hq37) ⟨⟨zt_1637, zt_1639, zs_34, zt_13, zt_1640⟩, rfl, by decide, by decide, by decide +kernel⟩ ⟨rfl, rfl, Nat.le_of_ble_eq_true rfl, Nat.le_of_ble_eq_true rfl⟩ (hs_recv hK hH 20 0 (by decide) 12 rfl rfl) rfl rfl hl.1 (Nat.le_of_ble_eq_true rfl) ⟨Nat.le_of_ble_eq_true rfl, Nat.le_of_ble_eq_true rfl⟩ dX8_earliestArrival_63) hS (fun H locs hH hS => ?_)
          refine lv_goto (tgt := 71) hx hb dX8_earliestArrival_66 (by decide) ?_
          cases hf
          exact hs_iret C0 hH hS (by decide) (by decide) dX8_earliestArrival_71
      · have hf := if_t hf hc44
        refine lv_aload_n hx hb dX8_earliestArrival_39 rfl (lv_at hl 0 rfl) ?_
        refine lv_iconst (v := (2 : Int32)) hx hb dX8_earliestArrival_40 (by decide) ?_
        obtain ⟨r43, M42, hq41, hf⟩ := bd2_o hf
        refine hs_ci (hs_runV C0 hH hS (n := 1) (As := [.int (2 : Int32)]) (rest := []) (c_X8_throwing M27 (2 : Int32) hq41) ⟨⟨zt_1637, zt_1639, zs_34, zt_13, zt_1640⟩, rfl, by decide, by decide, by decide +kernel⟩ ⟨rfl, rfl, Nat.le_of_ble_eq_true rfl, Nat.le_of_ble_eq_true rfl⟩ (hs_recv hK hH 20 0 (by decide) 12 rfl rfl) rfl rfl hl.1 (Nat.le_of_ble_eq_true rfl) ⟨Nat.le_of_ble_eq_true rfl, Nat.le_of_ble_eq_true rfl⟩ dX8_earliestArrival_41) hS (fun H locs hH hS => ?_)
        cases hf
        exact hs_iret C0 hH hS (by decide) (by decide) dX8_earliestArrival_44
    · have hf := if_t hf hc45
      exact w_X8_earliestArrival_21 C0 M27 hf _ _ _ hH hS (lv_sub hl [0] rfl)
def f_X8_earliestArrivalByHours (M : Mem) (a1 : Int32) (a2 : Int32) (a3 : Int32) : Option (Int32 × Mem) := bd2 (f_X8_earliestArrival M a1 a2 a3) fun r6 M5 => some (r6, M5)
set_option maxHeartbeats 4000000 in
set_option maxRecDepth 100000 in
theorem c_X8_earliestArrivalByHours {Y : LY} {l : Launch} (M : Mem) (a1 : Int32) (a2 : Int32) (a3 : Int32) {r : Int32} {MZ : Mem} (hf : f_X8_earliestArrivalByHours M a1 a2 a3 = some (r, MZ)) : Met l yX8_earliestArrivalByHours (WS yX8_earliestArrivalByHours cX8_earliestArrivalByHours 4 (Option.some Jvm.ClassFile.FieldType.int)) { frames := 5, cells := 0, slots := 0, locals := 116 } (PcM Y M [.ref (YA Y 20 0), .int a1, .int a2, .int a3]) (Qi Y r MZ) 0 0 (AZ Y) := by
  refine met_mk (lv := [(0, .ref (YA Y 20 0)), (1, .int a1), (2, .int a2), (3, .int a3)]) [.ref (YA Y 20 0), .int a1, .int a2, .int a3] (by decide) rfl rfl (Nat.le_of_ble_eq_true rfl) (fun p e s m below meth c C0 hH ls hl => ?_)
  have hS : va_S (AZ Y) s.heap s.heap [] := va_S.rf
  obtain ⟨hx, hb, hr, hml, hown, hA, hlocks, hK, hZ⟩ := id C0
  unfold f_X8_earliestArrivalByHours at hf
  refine lv_aload_n hx hb dX8_earliestArrivalByHours_0 rfl (lv_at hl 0 rfl) ?_
  refine lv_iload_n hx hb dX8_earliestArrivalByHours_1 rfl (lv_at hl 1 rfl) ?_
  refine lv_iload_n hx hb dX8_earliestArrivalByHours_2 rfl (lv_at hl 2 rfl) ?_
  refine lv_iload_n hx hb dX8_earliestArrivalByHours_3 rfl (lv_at hl 3 rfl) ?_
  obtain ⟨r6, M5, hq4, hf⟩ := bd2_o hf
  refine hs_ci (hs_runV C0 hH hS (n := 3) (As := [.int a1, .int a2, .int a3]) (rest := []) (c_X8_earliestArrival M a1 a2 a3 hq4) ⟨⟨zt_1897, zt_1890, zt_1891, zt_13, zt_1892⟩, rfl, by decide, by decide, by decide +kernel⟩ ⟨rfl, rfl, Nat.le_of_ble_eq_true rfl, Nat.le_of_ble_eq_true rfl⟩ (hs_recv hK hH 20 0 (by decide) 12 rfl rfl) rfl rfl hl.1 (Nat.le_of_ble_eq_true rfl) ⟨Nat.le_of_ble_eq_true rfl, Nat.le_of_ble_eq_true rfl⟩ dX8_earliestArrivalByHours_4) hS (fun H locs hH hS => ?_)
  cases hf
  exact hs_iret C0 hH hS (by decide) (by decide) dX8_earliestArrivalByHours_7
def f_X8_fewestLinks_21 (M : Mem) : Option (Int32 × Mem) := bd2 (f_X8_throwing M (1 : Int32)) fun r20 M19 => some (r20, M19)
set_option maxHeartbeats 4000000 in
set_option maxRecDepth 100000 in
theorem w_X8_fewestLinks_21 {Y : LY} {p : Program} {l : Launch} {e : Env} {s : State} {m : MethodId} {args : Array Value} {below : List Frame} {meth : Method} {c : Code} (C0 : BE Y p s m args meth c cX8_fewestLinks 4 (Option.some Jvm.ClassFile.FieldType.int) RX8) {r : Int32} {MZ : Mem} : ∀ (M : Mem), f_X8_fewestLinks_21 M = some (r, MZ) → ∀ (H : Heap) (locs : List Loc) (ls : Array Slot), HS Y M H → va_S (AZ Y) s.heap H locs → lv_has ls 4 [(0, .ref (YA Y 20 0))] → W p l e { frames := 2, cells := 0, slots := 0, locals := 47 } s m args below meth c H locs 0 0 (MQ below (Qi Y r MZ) args s 0 0 (AZ Y)) (F0 m 21 ls []) := by
  obtain ⟨hx, hb, hr, hml, hown, hA, hlocks, hK, hZ⟩ := id C0
  intro M hf H locs ls hH hS hl
  unfold f_X8_fewestLinks_21 at hf
  refine lv_aload_n hx hb dX8_fewestLinks_21 rfl (lv_at hl 0 rfl) ?_
  refine lv_iconst (v := (1 : Int32)) hx hb dX8_fewestLinks_22 (by decide) ?_
  obtain ⟨r20, M19, hq18, hf⟩ := bd2_o hf
  refine hs_ci (hs_runV C0 hH hS (n := 1) (As := [.int (1 : Int32)]) (rest := []) (c_X8_throwing M (1 : Int32) hq18) ⟨⟨zt_1637, zt_1639, zs_34, zt_13, zt_1640⟩, rfl, by decide, by decide, by decide +kernel⟩ ⟨rfl, rfl, Nat.le_of_ble_eq_true rfl, Nat.le_of_ble_eq_true rfl⟩ (hs_recv hK hH 20 0 (by decide) 12 rfl rfl) rfl rfl hl.1 (Nat.le_of_ble_eq_true rfl) ⟨Nat.le_of_ble_eq_true rfl, Nat.le_of_ble_eq_true rfl⟩ dX8_fewestLinks_23) hS (fun H locs hH hS => ?_)
  cases hf
  exact hs_iret C0 hH hS (by decide) (by decide) dX8_fewestLinks_26
def f_X8_fewestLinks (M : Mem) (a1 : Int32) (a2 : Int32) : Option (Int32 × Mem) := nm (mu M 20 0 9 (0 : Int32)) fun M21 => bd (f_X8_isPlace M21 a1) fun r23 => (if r23 = 0 then f_X8_fewestLinks_21 M21 else bd (f_X8_isPlace M21 a2) fun r25 => (if r25 = 0 then f_X8_fewestLinks_21 M21 else bd2 (f_X8_fewest M21 a1 a2) fun r28 M27 => (if r28 < (1000000 : Int32) then some (r28, M27) else bd2 (f_X8_throwing M27 (2 : Int32)) fun r31 M30 => some (r31, M30))))
set_option maxHeartbeats 4000000 in
set_option maxRecDepth 100000 in
theorem c_X8_fewestLinks {Y : LY} {l : Launch} (M : Mem) (a1 : Int32) (a2 : Int32) {r : Int32} {MZ : Mem} (hf : f_X8_fewestLinks M a1 a2 = some (r, MZ)) : Met l yX8_fewestLinks (WS yX8_fewestLinks cX8_fewestLinks 4 (Option.some Jvm.ClassFile.FieldType.int)) { frames := 2, cells := 0, slots := 0, locals := 47 } (PcM Y M [.ref (YA Y 20 0), .int a1, .int a2]) (Qi Y r MZ) 0 0 (AZ Y) := by
  refine met_mk (lv := [(0, .ref (YA Y 20 0)), (1, .int a1), (2, .int a2)]) [.ref (YA Y 20 0), .int a1, .int a2] (by decide) rfl rfl (Nat.le_of_ble_eq_true rfl) (fun p e s m below meth c C0 hH ls hl => ?_)
  have hS : va_S (AZ Y) s.heap s.heap [] := va_S.rf
  obtain ⟨hx, hb, hr, hml, hown, hA, hlocks, hK, hZ⟩ := id C0
  unfold f_X8_fewestLinks at hf
  refine lv_aload_n hx hb dX8_fewestLinks_0 rfl (lv_at hl 0 rfl) ?_
  refine lv_iconst (v := (0 : Int32)) hx hb dX8_fewestLinks_1 (by decide) ?_
  refine hs_put hx hb (T := TX8) hA inAX8 tyX8 tyX8_ok nmX8 hown hK hH hS 20 0 (by decide) 12 rfl rfl 9 (by decide) (hA _ zt_1560) rfl rfl (by decide +kernel) (Nat.le_of_ble_eq_true rfl) rfl dX8_fewestLinks_2 (fun H locs hH hS => ?_)
  obtain ⟨M21, eM21, hf⟩ := nm_o hf
  rw [← eM21] at hH
  refine lv_aload_n hx hb dX8_fewestLinks_5 rfl (lv_at hl 0 rfl) ?_
  refine lv_iload_n hx hb dX8_fewestLinks_6 rfl (lv_at hl 1 rfl) ?_
  obtain ⟨r23, hq22, hf⟩ := bd_o hf
  refine hs_ci (hs_runV C0 hH hS (n := 1) (As := [.int a1]) (rest := []) (c_X8_isPlace M21 a1 hq22) ⟨⟨zt_1653, zt_1655, zs_37, zt_13, zt_1656⟩, rfl, by decide, by decide, by decide +kernel⟩ ⟨rfl, rfl, Nat.le_of_ble_eq_true rfl, Nat.le_of_ble_eq_true rfl⟩ (hs_recv hK hH 20 0 (by decide) 12 rfl rfl) rfl rfl hl.1 (Nat.le_of_ble_eq_true rfl) ⟨Nat.le_of_ble_eq_true rfl, Nat.le_of_ble_eq_true rfl⟩ dX8_fewestLinks_7) hS (fun H locs hH hS => ?_)
  refine lv_if_eq (tgt := 21) hx hb dX8_fewestLinks_10 (by decide) (fun hc34 => ?_) (fun hc34 => ?_)
  · have hf := if_t hf hc34
    exact w_X8_fewestLinks_21 C0 M21 hf _ _ _ hH hS (lv_sub hl [0] rfl)
  · have hf := if_f hf hc34
    refine lv_aload_n hx hb dX8_fewestLinks_13 rfl (lv_at hl 0 rfl) ?_
    refine lv_iload_n hx hb dX8_fewestLinks_14 rfl (lv_at hl 2 rfl) ?_
    obtain ⟨r25, hq24, hf⟩ := bd_o hf
    refine hs_ci (hs_runV C0 hH hS (n := 1) (As := [.int a2]) (rest := []) (c_X8_isPlace M21 a2 hq24) ⟨⟨zt_1653, zt_1655, zs_37, zt_13, zt_1656⟩, rfl, by decide, by decide, by decide +kernel⟩ ⟨rfl, rfl, Nat.le_of_ble_eq_true rfl, Nat.le_of_ble_eq_true rfl⟩ (hs_recv hK hH 20 0 (by decide) 12 rfl rfl) rfl rfl hl.1 (Nat.le_of_ble_eq_true rfl) ⟨Nat.le_of_ble_eq_true rfl, Nat.le_of_ble_eq_true rfl⟩ dX8_fewestLinks_15) hS (fun H locs hH hS => ?_)
    refine lv_if_ne (tgt := 27) hx hb dX8_fewestLinks_18 (by decide) (fun hc33 => ?_) (fun hc33 => ?_)
    · have hf := if_f hf hc33
      refine lv_aload_n hx hb dX8_fewestLinks_27 rfl (lv_at hl 0 rfl) ?_
      refine lv_iload_n hx hb dX8_fewestLinks_28 rfl (lv_at hl 1 rfl) ?_
      refine lv_iload_n hx hb dX8_fewestLinks_29 rfl (lv_at hl 2 rfl) ?_
      obtain ⟨r28, M27, hq26, hf⟩ := bd2_o hf
      refine hs_ci (hs_runV C0 hH hS (n := 2) (As := [.int a1, .int a2]) (rest := []) (c_X8_fewest M21 a1 a2 hq26) ⟨⟨zt_1902, zt_1904, zs_63, zt_13, zt_1905⟩, rfl, by decide, by decide, by decide +kernel⟩ ⟨rfl, rfl, Nat.le_of_ble_eq_true rfl, Nat.le_of_ble_eq_true rfl⟩ (hs_recv hK hH 20 0 (by decide) 12 rfl rfl) rfl rfl hl.1 (Nat.le_of_ble_eq_true rfl) ⟨Nat.le_of_ble_eq_true rfl, Nat.le_of_ble_eq_true rfl⟩ dX8_fewestLinks_30) hS (fun H locs hH hS => ?_)
      refine lv_istore_n (lv' := [(3, .int r28), (0, .ref (YA Y 20 0)), (1, .int a1), (2, .int a2)]) hx hb dX8_fewestLinks_33 rfl hl (by decide) rfl (fun ls hl => ?_)
      refine lv_iload_n hx hb dX8_fewestLinks_34 rfl (lv_at hl 0 rfl) ?_
      refine lv_ldc (v := (1000000 : Int32)) hx hb hown (hA _ zt_1773) dX8_fewestLinks_35 ?_
      refine lv_icmp_lt (tgt := 48) hx hb dX8_fewestLinks_37 (by decide) (fun hc32 => ?_) (fun hc32 => ?_)
      · have hf := if_t hf hc32
        refine lv_iload_n hx hb dX8_fewestLinks_48 rfl (lv_at hl 0 rfl) ?_
        cases hf
        exact hs_iret C0 hH hS (by decide) (by decide) dX8_fewestLinks_49
      · have hf := if_f hf hc32
        refine lv_aload_n hx hb dX8_fewestLinks_40 rfl (lv_at hl 1 rfl) ?_
        refine lv_iconst (v := (2 : Int32)) hx hb dX8_fewestLinks_41 (by decide) ?_
        obtain ⟨r31, M30, hq29, hf⟩ := bd2_o hf
        refine hs_ci (hs_runV C0 hH hS (n := 1) (As := [.int (2 : Int32)]) (rest := []) (c_X8_throwing M27 (2 : Int32) hq29) ⟨⟨zt_1637, zt_1639, zs_34, zt_13, zt_1640⟩, rfl, by decide, by decide, by decide +kernel⟩ ⟨rfl, rfl, Nat.le_of_ble_eq_true rfl, Nat.le_of_ble_eq_true rfl⟩ (hs_recv hK hH 20 0 (by decide) 12 rfl rfl) rfl rfl hl.1 (Nat.le_of_ble_eq_true rfl) ⟨Nat.le_of_ble_eq_true rfl, Nat.le_of_ble_eq_true rfl⟩ dX8_fewestLinks_42) hS (fun H locs hH hS => ?_)
        refine lv_goto (tgt := 49) hx hb dX8_fewestLinks_45 (by decide) ?_
        cases hf
        exact hs_iret C0 hH hS (by decide) (by decide) dX8_fewestLinks_49
    · have hf := if_t hf hc33
      exact w_X8_fewestLinks_21 C0 M21 hf _ _ _ hH hS (lv_sub hl [0] rfl)
def f_X8_reachable_56 (k29 : Mem → Int32 → Int32 → Option (Int32 × Mem)) (M : Mem) (a3 : Int32) (b0 : Int32) (b1 : Int32) : Option (Int32 × Mem) := k29 M (b1 + b0) (a3 + (1 : Int32))
set_option maxHeartbeats 4000000 in
set_option maxRecDepth 100000 in
theorem w_X8_reachable_56 {Y : LY} {p : Program} {l : Launch} {e : Env} {s : State} {m : MethodId} {args : Array Value} {below : List Frame} {meth : Method} {c : Code} (C0 : BE Y p s m args meth c cX8_reachable 4 (Option.some Jvm.ClassFile.FieldType.int) RX8) {r : Int32} {MZ : Mem} (k29 : Mem → Int32 → Int32 → Option (Int32 × Mem)) (hk29 : ∀ (M : Mem) (a2 : Int32) (a3 : Int32), k29 M a2 a3 = some (r, MZ) → ∀ (H : Heap) (locs : List Loc) (ls : Array Slot), HS Y M H → va_S (AZ Y) s.heap H locs → lv_has ls 4 [(0, .ref (YA Y 20 0)), (2, .int a2), (3, .int a3)] → W p l e { frames := 3, cells := 0, slots := 0, locals := 69 } s m args below meth c H locs 0 0 (MQ below (Qi Y r MZ) args s 0 0 (AZ Y)) (F0 m 29 ls [])) : ∀ (M : Mem) (a3 : Int32) (b0 : Int32) (b1 : Int32), f_X8_reachable_56 k29 M a3 b0 b1 = some (r, MZ) → ∀ (H : Heap) (locs : List Loc) (ls : Array Slot), HS Y M H → va_S (AZ Y) s.heap H locs → lv_has ls 4 [(0, .ref (YA Y 20 0)), (3, .int a3)] → W p l e { frames := 3, cells := 0, slots := 0, locals := 69 } s m args below meth c H locs 0 0 (MQ below (Qi Y r MZ) args s 0 0 (AZ Y)) (F0 m 56 ls [.int b0, .int b1]) := by
  obtain ⟨hx, hb, hr, hml, hown, hA, hlocks, hK, hZ⟩ := id C0
  intro M a3 b0 b1 hf H locs ls hH hS hl
  unfold f_X8_reachable_56 at hf
  refine lv_iadd hx hb dX8_reachable_56 ?_
  refine lv_istore_n (lv' := [(2, .int (b1 + b0)), (0, .ref (YA Y 20 0)), (3, .int a3)]) hx hb dX8_reachable_57 rfl hl (by decide) rfl (fun ls hl => ?_)
  refine lv_iinc (v := a3 + (1 : Int32)) (lv' := [(3, .int (a3 + (1 : Int32))), (2, .int (b1 + b0)), (0, .ref (YA Y 20 0))]) hx hb dX8_reachable_58 hl (k := 2) rfl rfl (by decide) rfl (fun ls hl => ?_)
  refine lv_goto (tgt := 29) hx hb dX8_reachable_61 (by decide) ?_
  exact hk29 M (b1 + b0) (a3 + (1 : Int32)) hf _ _ _ hH hS (lv_sub hl [2, 1, 0] rfl)
def f_X8_reachable_29 : Nat → Mem → Int32 → Int32 → Option (Int32 × Mem)
  | 0, _, _, _ => none
  | n + 1, M, a2, a3 => (if (M 21 0 0) ≤ a3 then some (a2, M) else if vin a3 9 then ((if (1000000 : Int32) ≤ (M 27 0 (ix a3)) then f_X8_reachable_56 (f_X8_reachable_29 n) M a3 (0 : Int32) a2 else f_X8_reachable_56 (f_X8_reachable_29 n) M a3 (1 : Int32) a2)) else none)
set_option maxHeartbeats 4000000 in
set_option maxRecDepth 100000 in
theorem w_X8_reachable_29 {Y : LY} {p : Program} {l : Launch} {e : Env} {s : State} {m : MethodId} {args : Array Value} {below : List Frame} {meth : Method} {c : Code} (C0 : BE Y p s m args meth c cX8_reachable 4 (Option.some Jvm.ClassFile.FieldType.int) RX8) {r : Int32} {MZ : Mem} : ∀ (n : Nat) (M : Mem) (a2 : Int32) (a3 : Int32), f_X8_reachable_29 n M a2 a3 = some (r, MZ) → ∀ (H : Heap) (locs : List Loc) (ls : Array Slot), HS Y M H → va_S (AZ Y) s.heap H locs → lv_has ls 4 [(0, .ref (YA Y 20 0)), (2, .int a2), (3, .int a3)] → W p l e { frames := 3, cells := 0, slots := 0, locals := 69 } s m args below meth c H locs 0 0 (MQ below (Qi Y r MZ) args s 0 0 (AZ Y)) (F0 m 29 ls []) := by
  obtain ⟨hx, hb, hr, hml, hown, hA, hlocks, hK, hZ⟩ := id C0
  intro n
  induction n with
  | zero =>
    intro M a2 a3 hf
    cases hf
  | succ n ih =>
    intro M a2 a3 hf H locs ls hH hS hl
    rw [f_X8_reachable_29] at hf
    refine lv_iload_n hx hb dX8_reachable_29 rfl (lv_at hl 2 rfl) ?_
    refine lv_aload_n hx hb dX8_reachable_30 rfl (lv_at hl 0 rfl) ?_
    refine hs_get hx hb (T := TX8) hA inAX8 hown hK hH 20 0 (by decide) 12 rfl rfl 0 (by decide) (hA _ zt_1551) rfl rfl dX8_reachable_31 ?_
    refine lv_iconst (v := (0 : Int32)) hx hb dX8_reachable_34 (by decide) ?_
    refine hs_iald hx hb hK hH 21 0 (by decide) rfl (show vin (0 : Int32) 192 from by decide) (show ix (0 : Int32) = 0 from by decide) dX8_reachable_35 ?_
    refine lv_icmp_ge (tgt := 64) hx hb dX8_reachable_36 (by decide) (fun hc16 => ?_) (fun hc16 => ?_)
    · have hf := if_t hf hc16
      refine lv_iload_n hx hb dX8_reachable_64 rfl (lv_at hl 1 rfl) ?_
      cases hf
      exact hs_iret C0 hH hS (by decide) (by decide) dX8_reachable_65
    · have hf := if_f hf hc16
      refine lv_iload_n hx hb dX8_reachable_39 rfl (lv_at hl 1 rfl) ?_
      refine lv_aload_n hx hb dX8_reachable_40 rfl (lv_at hl 0 rfl) ?_
      refine hs_get hx hb (T := TX8) hA inAX8 hown hK hH 20 0 (by decide) 12 rfl rfl 12 (by decide) (hA _ zt_1563) rfl rfl dX8_reachable_41 ?_
      refine lv_iload_n hx hb dX8_reachable_44 rfl (lv_at hl 2 rfl) ?_
      obtain ⟨hg14, hf⟩ := gd_o hf
      have bhg14 := vin_lt hg14
      refine hs_iald hx hb hK hH 27 0 (by decide) rfl hg14 rfl dX8_reachable_45 ?_
      refine lv_ldc (v := (1000000 : Int32)) hx hb hown (hA _ zt_1773) dX8_reachable_46 ?_
      refine lv_icmp_ge (tgt := 55) hx hb dX8_reachable_48 (by decide) (fun hc15 => ?_) (fun hc15 => ?_)
      · have hf := if_t hf hc15
        refine lv_iconst (v := (0 : Int32)) hx hb dX8_reachable_55 (by decide) ?_
        exact w_X8_reachable_56 C0 (f_X8_reachable_29 n) ih M a3 (0 : Int32) a2 hf _ _ _ hH hS (lv_sub hl [0, 2] rfl)
      · have hf := if_f hf hc15
        refine lv_iconst (v := (1 : Int32)) hx hb dX8_reachable_51 (by decide) ?_
        refine lv_goto (tgt := 56) hx hb dX8_reachable_52 (by decide) ?_
        exact w_X8_reachable_56 C0 (f_X8_reachable_29 n) ih M a3 (1 : Int32) a2 hf _ _ _ hH hS (lv_sub hl [0, 2] rfl)
def f_X8_reachable (M : Mem) (a1 : Int32) : Option (Int32 × Mem) := nm (mu M 20 0 9 (0 : Int32)) fun M17 => bd (f_X8_isPlace M17 a1) fun r19 => (if r19 = 0 then bd2 (f_X8_throwing M17 (1 : Int32)) fun r25 M24 => some (r25, M24) else bd (f_X8_reaches M17 a1 (0 : Int32)) fun M21 => f_X8_reachable_29 FU M21 (0 : Int32) (0 : Int32))
set_option maxHeartbeats 4000000 in
set_option maxRecDepth 100000 in
theorem c_X8_reachable {Y : LY} {l : Launch} (M : Mem) (a1 : Int32) {r : Int32} {MZ : Mem} (hf : f_X8_reachable M a1 = some (r, MZ)) : Met l yX8_reachable (WS yX8_reachable cX8_reachable 4 (Option.some Jvm.ClassFile.FieldType.int)) { frames := 3, cells := 0, slots := 0, locals := 69 } (PcM Y M [.ref (YA Y 20 0), .int a1]) (Qi Y r MZ) 0 0 (AZ Y) := by
  refine met_mk (lv := [(0, .ref (YA Y 20 0)), (1, .int a1)]) [.ref (YA Y 20 0), .int a1] (by decide) rfl rfl (Nat.le_of_ble_eq_true rfl) (fun p e s m below meth c C0 hH ls hl => ?_)
  have hS : va_S (AZ Y) s.heap s.heap [] := va_S.rf
  obtain ⟨hx, hb, hr, hml, hown, hA, hlocks, hK, hZ⟩ := id C0
  unfold f_X8_reachable at hf
  refine lv_aload_n hx hb dX8_reachable_0 rfl (lv_at hl 0 rfl) ?_
  refine lv_iconst (v := (0 : Int32)) hx hb dX8_reachable_1 (by decide) ?_
  refine hs_put hx hb (T := TX8) hA inAX8 tyX8 tyX8_ok nmX8 hown hK hH hS 20 0 (by decide) 12 rfl rfl 9 (by decide) (hA _ zt_1560) rfl rfl (by decide +kernel) (Nat.le_of_ble_eq_true rfl) rfl dX8_reachable_2 (fun H locs hH hS => ?_)
  obtain ⟨M17, eM17, hf⟩ := nm_o hf
  rw [← eM17] at hH
  refine lv_aload_n hx hb dX8_reachable_5 rfl (lv_at hl 0 rfl) ?_
  refine lv_iload_n hx hb dX8_reachable_6 rfl (lv_at hl 1 rfl) ?_
  obtain ⟨r19, hq18, hf⟩ := bd_o hf
  refine hs_ci (hs_runV C0 hH hS (n := 1) (As := [.int a1]) (rest := []) (c_X8_isPlace M17 a1 hq18) ⟨⟨zt_1653, zt_1655, zs_37, zt_13, zt_1656⟩, rfl, by decide, by decide, by decide +kernel⟩ ⟨rfl, rfl, Nat.le_of_ble_eq_true rfl, Nat.le_of_ble_eq_true rfl⟩ (hs_recv hK hH 20 0 (by decide) 12 rfl rfl) rfl rfl hl.1 (Nat.le_of_ble_eq_true rfl) ⟨Nat.le_of_ble_eq_true rfl, Nat.le_of_ble_eq_true rfl⟩ dX8_reachable_7) hS (fun H locs hH hS => ?_)
  refine lv_if_ne (tgt := 19) hx hb dX8_reachable_10 (by decide) (fun hc26 => ?_) (fun hc26 => ?_)
  · have hf := if_f hf hc26
    refine lv_aload_n hx hb dX8_reachable_19 rfl (lv_at hl 0 rfl) ?_
    refine lv_iload_n hx hb dX8_reachable_20 rfl (lv_at hl 1 rfl) ?_
    refine lv_iconst (v := (0 : Int32)) hx hb dX8_reachable_21 (by decide) ?_
    obtain ⟨M21, hq20, hf⟩ := bd_o hf
    refine hs_cv (hs_runV C0 hH hS (n := 2) (As := [.int a1, .int (0 : Int32)]) (rest := []) (c_X8_reaches M17 a1 (0 : Int32) hq20) ⟨⟨zt_1769, zt_1771, zs_56, zt_13, zt_1772⟩, rfl, by decide, by decide, by decide +kernel⟩ ⟨rfl, rfl, Nat.le_of_ble_eq_true rfl, Nat.le_of_ble_eq_true rfl⟩ (hs_recv hK hH 20 0 (by decide) 12 rfl rfl) rfl rfl hl.1 (Nat.le_of_ble_eq_true rfl) ⟨Nat.le_of_ble_eq_true rfl, Nat.le_of_ble_eq_true rfl⟩ dX8_reachable_22) hS (fun H locs hH hS => ?_)
    refine lv_iconst (v := (0 : Int32)) hx hb dX8_reachable_25 (by decide) ?_
    refine lv_istore_n (lv' := [(2, .int (0 : Int32)), (0, .ref (YA Y 20 0)), (1, .int a1)]) hx hb dX8_reachable_26 rfl hl (by decide) rfl (fun ls hl => ?_)
    refine lv_iconst (v := (0 : Int32)) hx hb dX8_reachable_27 (by decide) ?_
    refine lv_istore_n (lv' := [(3, .int (0 : Int32)), (2, .int (0 : Int32)), (0, .ref (YA Y 20 0)), (1, .int a1)]) hx hb dX8_reachable_28 rfl hl (by decide) rfl (fun ls hl => ?_)
    exact w_X8_reachable_29 C0 FU M21 (0 : Int32) (0 : Int32) hf _ _ _ hH hS (lv_sub hl [2, 1, 0] rfl)
  · have hf := if_t hf hc26
    refine lv_aload_n hx hb dX8_reachable_13 rfl (lv_at hl 0 rfl) ?_
    refine lv_iconst (v := (1 : Int32)) hx hb dX8_reachable_14 (by decide) ?_
    obtain ⟨r25, M24, hq23, hf⟩ := bd2_o hf
    refine hs_ci (hs_runV C0 hH hS (n := 1) (As := [.int (1 : Int32)]) (rest := []) (c_X8_throwing M17 (1 : Int32) hq23) ⟨⟨zt_1637, zt_1639, zs_34, zt_13, zt_1640⟩, rfl, by decide, by decide, by decide +kernel⟩ ⟨rfl, rfl, Nat.le_of_ble_eq_true rfl, Nat.le_of_ble_eq_true rfl⟩ (hs_recv hK hH 20 0 (by decide) 12 rfl rfl) rfl rfl hl.1 (Nat.le_of_ble_eq_true rfl) ⟨Nat.le_of_ble_eq_true rfl, Nat.le_of_ble_eq_true rfl⟩ dX8_reachable_15) hS (fun H locs hH hS => ?_)
    cases hf
    exact hs_iret C0 hH hS (by decide) (by decide) dX8_reachable_18
def f_X8_forecast_26 (M : Mem) (b0 : Int32) : Option (Int32 × Mem) := (if b0 = (1000000 : Int32) then bd2 (f_X8_throwing M (1 : Int32)) fun r14 M13 => some (r14, M13) else some (b0, M))
set_option maxHeartbeats 4000000 in
set_option maxRecDepth 100000 in
theorem w_X8_forecast_26 {Y : LY} {p : Program} {l : Launch} {e : Env} {s : State} {m : MethodId} {args : Array Value} {below : List Frame} {meth : Method} {c : Code} (C0 : BE Y p s m args meth c cX8_forecast 4 (Option.some Jvm.ClassFile.FieldType.int) RX8) {r : Int32} {MZ : Mem} : ∀ (M : Mem) (b0 : Int32), f_X8_forecast_26 M b0 = some (r, MZ) → ∀ (H : Heap) (locs : List Loc) (ls : Array Slot), HS Y M H → va_S (AZ Y) s.heap H locs → lv_has ls 4 [(0, .ref (YA Y 20 0))] → W p l e { frames := 5, cells := 0, slots := 0, locals := 114 } s m args below meth c H locs 0 0 (MQ below (Qi Y r MZ) args s 0 0 (AZ Y)) (F0 m 26 ls [.int b0]) := by
  obtain ⟨hx, hb, hr, hml, hown, hA, hlocks, hK, hZ⟩ := id C0
  intro M b0 hf H locs ls hH hS hl
  unfold f_X8_forecast_26 at hf
  refine lv_istore_n (lv' := [(3, .int b0), (0, .ref (YA Y 20 0))]) hx hb dX8_forecast_26 rfl hl (by decide) rfl (fun ls hl => ?_)
  refine lv_iload_n hx hb dX8_forecast_27 rfl (lv_at hl 0 rfl) ?_
  refine lv_ldc (v := (1000000 : Int32)) hx hb hown (hA _ zt_1773) dX8_forecast_28 ?_
  refine lv_icmp_ne (tgt := 41) hx hb dX8_forecast_30 (by decide) (fun hc15 => ?_) (fun hc15 => ?_)
  · have hf := if_f hf hc15
    refine lv_iload_n hx hb dX8_forecast_41 rfl (lv_at hl 0 rfl) ?_
    cases hf
    exact hs_iret C0 hH hS (by decide) (by decide) dX8_forecast_42
  · have hf := if_t hf hc15
    refine lv_aload_n hx hb dX8_forecast_33 rfl (lv_at hl 1 rfl) ?_
    refine lv_iconst (v := (1 : Int32)) hx hb dX8_forecast_34 (by decide) ?_
    obtain ⟨r14, M13, hq12, hf⟩ := bd2_o hf
    refine hs_ci (hs_runV C0 hH hS (n := 1) (As := [.int (1 : Int32)]) (rest := []) (c_X8_throwing M (1 : Int32) hq12) ⟨⟨zt_1637, zt_1639, zs_34, zt_13, zt_1640⟩, rfl, by decide, by decide, by decide +kernel⟩ ⟨rfl, rfl, Nat.le_of_ble_eq_true rfl, Nat.le_of_ble_eq_true rfl⟩ (hs_recv hK hH 20 0 (by decide) 12 rfl rfl) rfl rfl hl.1 (Nat.le_of_ble_eq_true rfl) ⟨Nat.le_of_ble_eq_true rfl, Nat.le_of_ble_eq_true rfl⟩ dX8_forecast_35) hS (fun H locs hH hS => ?_)
    refine lv_goto (tgt := 42) hx hb dX8_forecast_38 (by decide) ?_
    cases hf
    exact hs_iret C0 hH hS (by decide) (by decide) dX8_forecast_42
def f_X8_forecast (M : Mem) (a1 : Int32) : Option (Int32 × Mem) := nm (mu M 20 0 9 (0 : Int32)) fun M16 => bd (f_X8_find M16 a1) fun r18 => (if r18 = (-1 : Int32) then f_X8_forecast_26 M16 (1000000 : Int32) else bd2 (f_X8_forecastOf M16 r18) fun r21 M20 => f_X8_forecast_26 M20 r21)
set_option maxHeartbeats 4000000 in
set_option maxRecDepth 100000 in
theorem c_X8_forecast {Y : LY} {l : Launch} (M : Mem) (a1 : Int32) {r : Int32} {MZ : Mem} (hf : f_X8_forecast M a1 = some (r, MZ)) : Met l yX8_forecast (WS yX8_forecast cX8_forecast 4 (Option.some Jvm.ClassFile.FieldType.int)) { frames := 5, cells := 0, slots := 0, locals := 114 } (PcM Y M [.ref (YA Y 20 0), .int a1]) (Qi Y r MZ) 0 0 (AZ Y) := by
  refine met_mk (lv := [(0, .ref (YA Y 20 0)), (1, .int a1)]) [.ref (YA Y 20 0), .int a1] (by decide) rfl rfl (Nat.le_of_ble_eq_true rfl) (fun p e s m below meth c C0 hH ls hl => ?_)
  have hS : va_S (AZ Y) s.heap s.heap [] := va_S.rf
  obtain ⟨hx, hb, hr, hml, hown, hA, hlocks, hK, hZ⟩ := id C0
  unfold f_X8_forecast at hf
  refine lv_aload_n hx hb dX8_forecast_0 rfl (lv_at hl 0 rfl) ?_
  refine lv_iconst (v := (0 : Int32)) hx hb dX8_forecast_1 (by decide) ?_
  refine hs_put hx hb (T := TX8) hA inAX8 tyX8 tyX8_ok nmX8 hown hK hH hS 20 0 (by decide) 12 rfl rfl 9 (by decide) (hA _ zt_1560) rfl rfl (by decide +kernel) (Nat.le_of_ble_eq_true rfl) rfl dX8_forecast_2 (fun H locs hH hS => ?_)
  obtain ⟨M16, eM16, hf⟩ := nm_o hf
  rw [← eM16] at hH
  refine lv_aload_n hx hb dX8_forecast_5 rfl (lv_at hl 0 rfl) ?_
  refine lv_iload_n hx hb dX8_forecast_6 rfl (lv_at hl 1 rfl) ?_
  obtain ⟨r18, hq17, hf⟩ := bd_o hf
  refine hs_ci (hs_runV C0 hH hS (n := 1) (As := [.int a1]) (rest := []) (c_X8_find M16 a1 hq17) ⟨⟨zt_1705, zt_1707, zs_43, zt_13, zt_1708⟩, rfl, by decide, by decide, by decide +kernel⟩ ⟨rfl, rfl, Nat.le_of_ble_eq_true rfl, Nat.le_of_ble_eq_true rfl⟩ (hs_recv hK hH 20 0 (by decide) 12 rfl rfl) rfl rfl hl.1 (Nat.le_of_ble_eq_true rfl) ⟨Nat.le_of_ble_eq_true rfl, Nat.le_of_ble_eq_true rfl⟩ dX8_forecast_7) hS (fun H locs hH hS => ?_)
  refine lv_istore_n (lv' := [(2, .int r18), (0, .ref (YA Y 20 0)), (1, .int a1)]) hx hb dX8_forecast_10 rfl hl (by decide) rfl (fun ls hl => ?_)
  refine lv_iload_n hx hb dX8_forecast_11 rfl (lv_at hl 0 rfl) ?_
  refine lv_iconst (v := (-1 : Int32)) hx hb dX8_forecast_12 (by decide) ?_
  refine lv_icmp_ne (tgt := 21) hx hb dX8_forecast_13 (by decide) (fun hc22 => ?_) (fun hc22 => ?_)
  · have hf := if_f hf hc22
    refine lv_aload_n hx hb dX8_forecast_21 rfl (lv_at hl 1 rfl) ?_
    refine lv_iload_n hx hb dX8_forecast_22 rfl (lv_at hl 0 rfl) ?_
    obtain ⟨r21, M20, hq19, hf⟩ := bd2_o hf
    refine hs_ci (hs_runV C0 hH hS (n := 1) (As := [.int r18]) (rest := []) (c_X8_forecastOf M16 r18 hq19) ⟨⟨zt_1757, zt_1759, zs_53, zt_13, zt_1760⟩, rfl, by decide, by decide, by decide +kernel⟩ ⟨rfl, rfl, Nat.le_of_ble_eq_true rfl, Nat.le_of_ble_eq_true rfl⟩ (hs_recv hK hH 20 0 (by decide) 12 rfl rfl) rfl rfl hl.1 (Nat.le_of_ble_eq_true rfl) ⟨Nat.le_of_ble_eq_true rfl, Nat.le_of_ble_eq_true rfl⟩ dX8_forecast_23) hS (fun H locs hH hS => ?_)
    exact w_X8_forecast_26 C0 M20 r21 hf _ _ _ hH hS (lv_sub hl [1] rfl)
  · have hf := if_t hf hc22
    refine lv_ldc (v := (1000000 : Int32)) hx hb hown (hA _ zt_1773) dX8_forecast_16 ?_
    refine lv_goto (tgt := 26) hx hb dX8_forecast_18 (by decide) ?_
    exact w_X8_forecast_26 C0 M16 (1000000 : Int32) hf _ _ _ hH hS (lv_sub hl [1] rfl)
def f_X8_nextLink_50 (M : Mem) (b0 : Int32) : Option (Int32 × Mem) := (if b0 = (-1 : Int32) then bd2 (f_X8_throwing M (1 : Int32)) fun r19 M18 => some (r19, M18) else some (b0, M))
set_option maxHeartbeats 4000000 in
set_option maxRecDepth 100000 in
theorem w_X8_nextLink_50 {Y : LY} {p : Program} {l : Launch} {e : Env} {s : State} {m : MethodId} {args : Array Value} {below : List Frame} {meth : Method} {c : Code} (C0 : BE Y p s m args meth c cX8_nextLink 5 (Option.some Jvm.ClassFile.FieldType.int) RX8) {r : Int32} {MZ : Mem} : ∀ (M : Mem) (b0 : Int32), f_X8_nextLink_50 M b0 = some (r, MZ) → ∀ (H : Heap) (locs : List Loc) (ls : Array Slot), HS Y M H → va_S (AZ Y) s.heap H locs → lv_has ls 5 [(0, .ref (YA Y 20 0))] → W p l e { frames := 6, cells := 0, slots := 0, locals := 140 } s m args below meth c H locs 0 0 (MQ below (Qi Y r MZ) args s 0 0 (AZ Y)) (F0 m 50 ls [.int b0]) := by
  obtain ⟨hx, hb, hr, hml, hown, hA, hlocks, hK, hZ⟩ := id C0
  intro M b0 hf H locs ls hH hS hl
  unfold f_X8_nextLink_50 at hf
  refine lv_istore (lv' := [(4, .int b0), (0, .ref (YA Y 20 0))]) hx hb dX8_nextLink_50 hl (by decide) rfl (fun ls hl => ?_)
  refine lv_iload hx hb dX8_nextLink_52 (lv_at hl 0 rfl) ?_
  refine lv_iconst (v := (-1 : Int32)) hx hb dX8_nextLink_54 (by decide) ?_
  refine lv_icmp_ne (tgt := 66) hx hb dX8_nextLink_55 (by decide) (fun hc20 => ?_) (fun hc20 => ?_)
  · have hf := if_f hf hc20
    refine lv_iload hx hb dX8_nextLink_66 (lv_at hl 0 rfl) ?_
    cases hf
    exact hs_iret C0 hH hS (by decide) (by decide) dX8_nextLink_68
  · have hf := if_t hf hc20
    refine lv_aload_n hx hb dX8_nextLink_58 rfl (lv_at hl 1 rfl) ?_
    refine lv_iconst (v := (1 : Int32)) hx hb dX8_nextLink_59 (by decide) ?_
    obtain ⟨r19, M18, hq17, hf⟩ := bd2_o hf
    refine hs_ci (hs_runV C0 hH hS (n := 1) (As := [.int (1 : Int32)]) (rest := []) (c_X8_throwing M (1 : Int32) hq17) ⟨⟨zt_1637, zt_1639, zs_34, zt_13, zt_1640⟩, rfl, by decide, by decide, by decide +kernel⟩ ⟨rfl, rfl, Nat.le_of_ble_eq_true rfl, Nat.le_of_ble_eq_true rfl⟩ (hs_recv hK hH 20 0 (by decide) 12 rfl rfl) rfl rfl hl.1 (Nat.le_of_ble_eq_true rfl) ⟨Nat.le_of_ble_eq_true rfl, Nat.le_of_ble_eq_true rfl⟩ dX8_nextLink_60) hS (fun H locs hH hS => ?_)
    refine lv_goto (tgt := 68) hx hb dX8_nextLink_63 (by decide) ?_
    cases hf
    exact hs_iret C0 hH hS (by decide) (by decide) dX8_nextLink_68
def f_X8_nextLink_36 (M : Mem) (a2 : Int32) (b0 : Int32) : Option (Int32 × Mem) := (if b0 = 0 then f_X8_nextLink_50 M (-1 : Int32) else bd2 (f_X8_next M a2) fun r23 M22 => f_X8_nextLink_50 M22 r23)
set_option maxHeartbeats 4000000 in
set_option maxRecDepth 100000 in
theorem w_X8_nextLink_36 {Y : LY} {p : Program} {l : Launch} {e : Env} {s : State} {m : MethodId} {args : Array Value} {below : List Frame} {meth : Method} {c : Code} (C0 : BE Y p s m args meth c cX8_nextLink 5 (Option.some Jvm.ClassFile.FieldType.int) RX8) {r : Int32} {MZ : Mem} : ∀ (M : Mem) (a2 : Int32) (b0 : Int32), f_X8_nextLink_36 M a2 b0 = some (r, MZ) → ∀ (H : Heap) (locs : List Loc) (ls : Array Slot), HS Y M H → va_S (AZ Y) s.heap H locs → lv_has ls 5 [(0, .ref (YA Y 20 0)), (2, .int a2)] → W p l e { frames := 6, cells := 0, slots := 0, locals := 140 } s m args below meth c H locs 0 0 (MQ below (Qi Y r MZ) args s 0 0 (AZ Y)) (F0 m 36 ls [.int b0]) := by
  obtain ⟨hx, hb, hr, hml, hown, hA, hlocks, hK, hZ⟩ := id C0
  intro M a2 b0 hf H locs ls hH hS hl
  unfold f_X8_nextLink_36 at hf
  refine lv_istore_n (lv' := [(3, .int b0), (0, .ref (YA Y 20 0)), (2, .int a2)]) hx hb dX8_nextLink_36 rfl hl (by decide) rfl (fun ls hl => ?_)
  refine lv_iload_n hx hb dX8_nextLink_37 rfl (lv_at hl 0 rfl) ?_
  refine lv_if_eq (tgt := 49) hx hb dX8_nextLink_38 (by decide) (fun hc24 => ?_) (fun hc24 => ?_)
  · have hf := if_t hf hc24
    refine lv_iconst (v := (-1 : Int32)) hx hb dX8_nextLink_49 (by decide) ?_
    exact w_X8_nextLink_50 C0 M (-1 : Int32) hf _ _ _ hH hS (lv_sub hl [1] rfl)
  · have hf := if_f hf hc24
    refine lv_aload_n hx hb dX8_nextLink_41 rfl (lv_at hl 1 rfl) ?_
    refine lv_iload_n hx hb dX8_nextLink_42 rfl (lv_at hl 2 rfl) ?_
    obtain ⟨r23, M22, hq21, hf⟩ := bd2_o hf
    refine hs_ci (hs_runV C0 hH hS (n := 1) (As := [.int a2]) (rest := []) (c_X8_next M a2 hq21) ⟨⟨zt_1753, zt_1755, zs_52, zt_13, zt_1756⟩, rfl, by decide, by decide, by decide +kernel⟩ ⟨rfl, rfl, Nat.le_of_ble_eq_true rfl, Nat.le_of_ble_eq_true rfl⟩ (hs_recv hK hH 20 0 (by decide) 12 rfl rfl) rfl rfl hl.1 (Nat.le_of_ble_eq_true rfl) ⟨Nat.le_of_ble_eq_true rfl, Nat.le_of_ble_eq_true rfl⟩ dX8_nextLink_43) hS (fun H locs hH hS => ?_)
    refine lv_goto (tgt := 50) hx hb dX8_nextLink_46 (by decide) ?_
    exact w_X8_nextLink_50 C0 M22 r23 hf _ _ _ hH hS (lv_sub hl [1] rfl)
def f_X8_nextLink_35 (M : Mem) (a2 : Int32) : Option (Int32 × Mem) := f_X8_nextLink_36 M a2 (0 : Int32)
set_option maxHeartbeats 4000000 in
set_option maxRecDepth 100000 in
theorem w_X8_nextLink_35 {Y : LY} {p : Program} {l : Launch} {e : Env} {s : State} {m : MethodId} {args : Array Value} {below : List Frame} {meth : Method} {c : Code} (C0 : BE Y p s m args meth c cX8_nextLink 5 (Option.some Jvm.ClassFile.FieldType.int) RX8) {r : Int32} {MZ : Mem} : ∀ (M : Mem) (a2 : Int32), f_X8_nextLink_35 M a2 = some (r, MZ) → ∀ (H : Heap) (locs : List Loc) (ls : Array Slot), HS Y M H → va_S (AZ Y) s.heap H locs → lv_has ls 5 [(0, .ref (YA Y 20 0)), (2, .int a2)] → W p l e { frames := 6, cells := 0, slots := 0, locals := 140 } s m args below meth c H locs 0 0 (MQ below (Qi Y r MZ) args s 0 0 (AZ Y)) (F0 m 35 ls []) := by
  obtain ⟨hx, hb, hr, hml, hown, hA, hlocks, hK, hZ⟩ := id C0
  intro M a2 hf H locs ls hH hS hl
  unfold f_X8_nextLink_35 at hf
  refine lv_iconst (v := (0 : Int32)) hx hb dX8_nextLink_35 (by decide) ?_
  exact w_X8_nextLink_36 C0 M a2 (0 : Int32) hf _ _ _ hH hS (lv_sub hl [0, 1] rfl)
def f_X8_nextLink (M : Mem) (a1 : Int32) : Option (Int32 × Mem) := nm (mu M 20 0 9 (0 : Int32)) fun M25 => bd (f_X8_find M25 a1) fun r27 => (if r27 = (-1 : Int32) then f_X8_nextLink_35 M25 r27 else bd (f_X8_parcelAt M25 r27) fun r29 => if vin (r29 + (4 : Int32)) 192 then ((if (M25 21 0 (ix (r29 + (4 : Int32)))) = (-1 : Int32) then f_X8_nextLink_35 M25 r27 else f_X8_nextLink_36 M25 r27 (1 : Int32))) else none)
set_option maxHeartbeats 4000000 in
set_option maxRecDepth 100000 in
theorem c_X8_nextLink {Y : LY} {l : Launch} (M : Mem) (a1 : Int32) {r : Int32} {MZ : Mem} (hf : f_X8_nextLink M a1 = some (r, MZ)) : Met l yX8_nextLink (WS yX8_nextLink cX8_nextLink 5 (Option.some Jvm.ClassFile.FieldType.int)) { frames := 6, cells := 0, slots := 0, locals := 140 } (PcM Y M [.ref (YA Y 20 0), .int a1]) (Qi Y r MZ) 0 0 (AZ Y) := by
  refine met_mk (lv := [(0, .ref (YA Y 20 0)), (1, .int a1)]) [.ref (YA Y 20 0), .int a1] (by decide) rfl rfl (Nat.le_of_ble_eq_true rfl) (fun p e s m below meth c C0 hH ls hl => ?_)
  have hS : va_S (AZ Y) s.heap s.heap [] := va_S.rf
  obtain ⟨hx, hb, hr, hml, hown, hA, hlocks, hK, hZ⟩ := id C0
  unfold f_X8_nextLink at hf
  refine lv_aload_n hx hb dX8_nextLink_0 rfl (lv_at hl 0 rfl) ?_
  refine lv_iconst (v := (0 : Int32)) hx hb dX8_nextLink_1 (by decide) ?_
  refine hs_put hx hb (T := TX8) hA inAX8 tyX8 tyX8_ok nmX8 hown hK hH hS 20 0 (by decide) 12 rfl rfl 9 (by decide) (hA _ zt_1560) rfl rfl (by decide +kernel) (Nat.le_of_ble_eq_true rfl) rfl dX8_nextLink_2 (fun H locs hH hS => ?_)
  obtain ⟨M25, eM25, hf⟩ := nm_o hf
  rw [← eM25] at hH
  refine lv_aload_n hx hb dX8_nextLink_5 rfl (lv_at hl 0 rfl) ?_
  refine lv_iload_n hx hb dX8_nextLink_6 rfl (lv_at hl 1 rfl) ?_
  obtain ⟨r27, hq26, hf⟩ := bd_o hf
  refine hs_ci (hs_runV C0 hH hS (n := 1) (As := [.int a1]) (rest := []) (c_X8_find M25 a1 hq26) ⟨⟨zt_1705, zt_1707, zs_43, zt_13, zt_1708⟩, rfl, by decide, by decide, by decide +kernel⟩ ⟨rfl, rfl, Nat.le_of_ble_eq_true rfl, Nat.le_of_ble_eq_true rfl⟩ (hs_recv hK hH 20 0 (by decide) 12 rfl rfl) rfl rfl hl.1 (Nat.le_of_ble_eq_true rfl) ⟨Nat.le_of_ble_eq_true rfl, Nat.le_of_ble_eq_true rfl⟩ dX8_nextLink_7) hS (fun H locs hH hS => ?_)
  refine lv_istore_n (lv' := [(2, .int r27), (0, .ref (YA Y 20 0)), (1, .int a1)]) hx hb dX8_nextLink_10 rfl hl (by decide) rfl (fun ls hl => ?_)
  refine lv_iload_n hx hb dX8_nextLink_11 rfl (lv_at hl 0 rfl) ?_
  refine lv_iconst (v := (-1 : Int32)) hx hb dX8_nextLink_12 (by decide) ?_
  refine lv_icmp_eq (tgt := 35) hx hb dX8_nextLink_13 (by decide) (fun hc32 => ?_) (fun hc32 => ?_)
  · have hf := if_t hf hc32
    exact w_X8_nextLink_35 C0 M25 r27 hf _ _ _ hH hS (lv_sub hl [1, 0] rfl)
  · have hf := if_f hf hc32
    refine lv_aload_n hx hb dX8_nextLink_16 rfl (lv_at hl 1 rfl) ?_
    refine hs_get hx hb (T := TX8) hA inAX8 hown hK hH 20 0 (by decide) 12 rfl rfl 0 (by decide) (hA _ zt_1551) rfl rfl dX8_nextLink_17 ?_
    refine lv_iload_n hx hb dX8_nextLink_20 rfl (lv_at hl 0 rfl) ?_
    obtain ⟨r29, hq28, hf⟩ := bd_o hf
    refine hs_ci (hs_runS C0 hH hS (n := 1) (As := [.int r27]) (rest := [.ref (YA Y 21 0)]) (c_X8_parcelAt M25 r27 hq28) ⟨⟨zt_1694, zt_1695, zt_13, zt_1696⟩, by decide, by decide, by decide +kernel⟩ ⟨rfl, rfl, Nat.le_of_ble_eq_true rfl, Nat.le_of_ble_eq_true rfl⟩ rfl rfl hl.1 (Nat.le_of_ble_eq_true rfl) ⟨Nat.le_of_ble_eq_true rfl, Nat.le_of_ble_eq_true rfl⟩ dX8_nextLink_21) hS (fun H locs hH hS => ?_)
    refine lv_iconst (v := (4 : Int32)) hx hb dX8_nextLink_24 (by decide) ?_
    refine lv_iadd hx hb dX8_nextLink_25 ?_
    obtain ⟨hg30, hf⟩ := gd_o hf
    have bhg30 := vin_lt hg30
    refine hs_iald hx hb hK hH 21 0 (by decide) rfl hg30 rfl dX8_nextLink_26 ?_
    refine lv_iconst (v := (-1 : Int32)) hx hb dX8_nextLink_27 (by decide) ?_
    refine lv_icmp_eq (tgt := 35) hx hb dX8_nextLink_28 (by decide) (fun hc31 => ?_) (fun hc31 => ?_)
    · have hf := if_t hf hc31
      exact w_X8_nextLink_35 C0 M25 r27 hf _ _ _ hH hS (lv_sub hl [1, 0] rfl)
    · have hf := if_f hf hc31
      refine lv_iconst (v := (1 : Int32)) hx hb dX8_nextLink_31 (by decide) ?_
      refine lv_goto (tgt := 36) hx hb dX8_nextLink_32 (by decide) ?_
      exact w_X8_nextLink_36 C0 M25 r27 (1 : Int32) hf _ _ _ hH hS (lv_sub hl [1, 0] rfl)
def f_X8_canSend_39 (M : Mem) (a2 : Int32) (a3 : Int32) : Option (Int32 × Mem) := (if (M 20 0 9) = 0 then bd (f_X8_maySend M a3 a2) fun r19 => (if r19 = 0 then some ((0 : Int32), M) else some ((1 : Int32), M)) else some ((0 : Int32), M))
set_option maxHeartbeats 4000000 in
set_option maxRecDepth 100000 in
theorem w_X8_canSend_39 {Y : LY} {p : Program} {l : Launch} {e : Env} {s : State} {m : MethodId} {args : Array Value} {below : List Frame} {meth : Method} {c : Code} (C0 : BE Y p s m args meth c cX8_canSend 4 (Option.some Jvm.ClassFile.FieldType.boolean) RX8) {r : Int32} {MZ : Mem} : ∀ (M : Mem) (a2 : Int32) (a3 : Int32), f_X8_canSend_39 M a2 a3 = some (r, MZ) → ∀ (H : Heap) (locs : List Loc) (ls : Array Slot), HS Y M H → va_S (AZ Y) s.heap H locs → lv_has ls 4 [(0, .ref (YA Y 20 0)), (2, .int a2), (3, .int a3)] → W p l e { frames := 3, cells := 0, slots := 0, locals := 68 } s m args below meth c H locs 0 0 (MQ below (Qi Y r MZ) args s 0 0 (AZ Y)) (F0 m 39 ls []) := by
  obtain ⟨hx, hb, hr, hml, hown, hA, hlocks, hK, hZ⟩ := id C0
  intro M a2 a3 hf H locs ls hH hS hl
  unfold f_X8_canSend_39 at hf
  refine lv_aload_n hx hb dX8_canSend_39 rfl (lv_at hl 0 rfl) ?_
  refine hs_get hx hb (T := TX8) hA inAX8 hown hK hH 20 0 (by decide) 12 rfl rfl 9 (by decide) (hA _ zt_1560) rfl rfl dX8_canSend_40 ?_
  refine lv_if_ne (tgt := 59) hx hb dX8_canSend_43 (by decide) (fun hc21 => ?_) (fun hc21 => ?_)
  · have hf := if_f hf hc21
    refine lv_iconst (v := (0 : Int32)) hx hb dX8_canSend_59 (by decide) ?_
    cases hf
    exact hs_zret C0 hH hS (by decide) (by decide) (by decide) dX8_canSend_60
  · have hf := if_t hf hc21
    refine lv_aload_n hx hb dX8_canSend_46 rfl (lv_at hl 0 rfl) ?_
    refine lv_iload_n hx hb dX8_canSend_47 rfl (lv_at hl 2 rfl) ?_
    refine lv_iload_n hx hb dX8_canSend_48 rfl (lv_at hl 1 rfl) ?_
    obtain ⟨r19, hq18, hf⟩ := bd_o hf
    refine hs_ci (hs_runV C0 hH hS (n := 2) (As := [.int a3, .int a2]) (rest := []) (c_X8_maySend M a3 a2 hq18) ⟨⟨zt_1709, zt_1711, zs_44, zt_13, zt_1712⟩, rfl, by decide, by decide, by decide +kernel⟩ ⟨rfl, rfl, Nat.le_of_ble_eq_true rfl, Nat.le_of_ble_eq_true rfl⟩ (hs_recv hK hH 20 0 (by decide) 12 rfl rfl) rfl rfl hl.1 (Nat.le_of_ble_eq_true rfl) ⟨Nat.le_of_ble_eq_true rfl, Nat.le_of_ble_eq_true rfl⟩ dX8_canSend_49) hS (fun H locs hH hS => ?_)
    refine lv_if_eq (tgt := 59) hx hb dX8_canSend_52 (by decide) (fun hc20 => ?_) (fun hc20 => ?_)
    · have hf := if_t hf hc20
      refine lv_iconst (v := (0 : Int32)) hx hb dX8_canSend_59 (by decide) ?_
      cases hf
      exact hs_zret C0 hH hS (by decide) (by decide) (by decide) dX8_canSend_60
    · have hf := if_f hf hc20
      refine lv_iconst (v := (1 : Int32)) hx hb dX8_canSend_55 (by decide) ?_
      refine lv_goto (tgt := 60) hx hb dX8_canSend_56 (by decide) ?_
      cases hf
      exact hs_zret C0 hH hS (by decide) (by decide) (by decide) dX8_canSend_60
def f_X8_canSend (M : Mem) (a1 : Int32) (a2 : Int32) : Option (Int32 × Mem) := nm (mu M 20 0 9 (0 : Int32)) fun M22 => bd (f_X8_find M22 a1) fun r24 => (if r24 = (-1 : Int32) then bd2 (f_X8_throwing M22 (1 : Int32)) fun r33 M32 => f_X8_canSend_39 M32 a2 r24 else bd (f_X8_isLink M22 a2) fun r26 => (if r26 = 0 then bd2 (f_X8_throwing M22 (2 : Int32)) fun r29 M28 => f_X8_canSend_39 M28 a2 r24 else f_X8_canSend_39 M22 a2 r24))
set_option maxHeartbeats 4000000 in
set_option maxRecDepth 100000 in
theorem c_X8_canSend {Y : LY} {l : Launch} (M : Mem) (a1 : Int32) (a2 : Int32) {r : Int32} {MZ : Mem} (hf : f_X8_canSend M a1 a2 = some (r, MZ)) : Met l yX8_canSend (WS yX8_canSend cX8_canSend 4 (Option.some Jvm.ClassFile.FieldType.boolean)) { frames := 3, cells := 0, slots := 0, locals := 68 } (PcM Y M [.ref (YA Y 20 0), .int a1, .int a2]) (Qi Y r MZ) 0 0 (AZ Y) := by
  refine met_mk (lv := [(0, .ref (YA Y 20 0)), (1, .int a1), (2, .int a2)]) [.ref (YA Y 20 0), .int a1, .int a2] (by decide) rfl rfl (Nat.le_of_ble_eq_true rfl) (fun p e s m below meth c C0 hH ls hl => ?_)
  have hS : va_S (AZ Y) s.heap s.heap [] := va_S.rf
  obtain ⟨hx, hb, hr, hml, hown, hA, hlocks, hK, hZ⟩ := id C0
  unfold f_X8_canSend at hf
  refine lv_aload_n hx hb dX8_canSend_0 rfl (lv_at hl 0 rfl) ?_
  refine lv_iconst (v := (0 : Int32)) hx hb dX8_canSend_1 (by decide) ?_
  refine hs_put hx hb (T := TX8) hA inAX8 tyX8 tyX8_ok nmX8 hown hK hH hS 20 0 (by decide) 12 rfl rfl 9 (by decide) (hA _ zt_1560) rfl rfl (by decide +kernel) (Nat.le_of_ble_eq_true rfl) rfl dX8_canSend_2 (fun H locs hH hS => ?_)
  obtain ⟨M22, eM22, hf⟩ := nm_o hf
  rw [← eM22] at hH
  refine lv_aload_n hx hb dX8_canSend_5 rfl (lv_at hl 0 rfl) ?_
  refine lv_iload_n hx hb dX8_canSend_6 rfl (lv_at hl 1 rfl) ?_
  obtain ⟨r24, hq23, hf⟩ := bd_o hf
  refine hs_ci (hs_runV C0 hH hS (n := 1) (As := [.int a1]) (rest := []) (c_X8_find M22 a1 hq23) ⟨⟨zt_1705, zt_1707, zs_43, zt_13, zt_1708⟩, rfl, by decide, by decide, by decide +kernel⟩ ⟨rfl, rfl, Nat.le_of_ble_eq_true rfl, Nat.le_of_ble_eq_true rfl⟩ (hs_recv hK hH 20 0 (by decide) 12 rfl rfl) rfl rfl hl.1 (Nat.le_of_ble_eq_true rfl) ⟨Nat.le_of_ble_eq_true rfl, Nat.le_of_ble_eq_true rfl⟩ dX8_canSend_7) hS (fun H locs hH hS => ?_)
  refine lv_istore_n (lv' := [(3, .int r24), (0, .ref (YA Y 20 0)), (1, .int a1), (2, .int a2)]) hx hb dX8_canSend_10 rfl hl (by decide) rfl (fun ls hl => ?_)
  refine lv_iload_n hx hb dX8_canSend_11 rfl (lv_at hl 0 rfl) ?_
  refine lv_iconst (v := (-1 : Int32)) hx hb dX8_canSend_12 (by decide) ?_
  refine lv_icmp_ne (tgt := 25) hx hb dX8_canSend_13 (by decide) (fun hc34 => ?_) (fun hc34 => ?_)
  · have hf := if_f hf hc34
    refine lv_aload_n hx hb dX8_canSend_25 rfl (lv_at hl 1 rfl) ?_
    refine lv_iload_n hx hb dX8_canSend_26 rfl (lv_at hl 3 rfl) ?_
    obtain ⟨r26, hq25, hf⟩ := bd_o hf
    refine hs_ci (hs_runV C0 hH hS (n := 1) (As := [.int a2]) (rest := []) (c_X8_isLink M22 a2 hq25) ⟨⟨zt_1673, zt_1675, zs_39, zt_13, zt_1676⟩, rfl, by decide, by decide, by decide +kernel⟩ ⟨rfl, rfl, Nat.le_of_ble_eq_true rfl, Nat.le_of_ble_eq_true rfl⟩ (hs_recv hK hH 20 0 (by decide) 12 rfl rfl) rfl rfl hl.1 (Nat.le_of_ble_eq_true rfl) ⟨Nat.le_of_ble_eq_true rfl, Nat.le_of_ble_eq_true rfl⟩ dX8_canSend_27) hS (fun H locs hH hS => ?_)
    refine lv_if_ne (tgt := 39) hx hb dX8_canSend_30 (by decide) (fun hc30 => ?_) (fun hc30 => ?_)
    · have hf := if_f hf hc30
      exact w_X8_canSend_39 C0 M22 a2 r24 hf _ _ _ hH hS (lv_sub hl [1, 3, 0] rfl)
    · have hf := if_t hf hc30
      refine lv_aload_n hx hb dX8_canSend_33 rfl (lv_at hl 1 rfl) ?_
      refine lv_iconst (v := (2 : Int32)) hx hb dX8_canSend_34 (by decide) ?_
      obtain ⟨r29, M28, hq27, hf⟩ := bd2_o hf
      refine hs_ci (hs_runV C0 hH hS (n := 1) (As := [.int (2 : Int32)]) (rest := []) (c_X8_throwing M22 (2 : Int32) hq27) ⟨⟨zt_1637, zt_1639, zs_34, zt_13, zt_1640⟩, rfl, by decide, by decide, by decide +kernel⟩ ⟨rfl, rfl, Nat.le_of_ble_eq_true rfl, Nat.le_of_ble_eq_true rfl⟩ (hs_recv hK hH 20 0 (by decide) 12 rfl rfl) rfl rfl hl.1 (Nat.le_of_ble_eq_true rfl) ⟨Nat.le_of_ble_eq_true rfl, Nat.le_of_ble_eq_true rfl⟩ dX8_canSend_35) hS (fun H locs hH hS => ?_)
      refine lv_pop hx hb dX8_canSend_38 rfl ?_
      exact w_X8_canSend_39 C0 M28 a2 r24 hf _ _ _ hH hS (lv_sub hl [1, 3, 0] rfl)
  · have hf := if_t hf hc34
    refine lv_aload_n hx hb dX8_canSend_16 rfl (lv_at hl 1 rfl) ?_
    refine lv_iconst (v := (1 : Int32)) hx hb dX8_canSend_17 (by decide) ?_
    obtain ⟨r33, M32, hq31, hf⟩ := bd2_o hf
    refine hs_ci (hs_runV C0 hH hS (n := 1) (As := [.int (1 : Int32)]) (rest := []) (c_X8_throwing M22 (1 : Int32) hq31) ⟨⟨zt_1637, zt_1639, zs_34, zt_13, zt_1640⟩, rfl, by decide, by decide, by decide +kernel⟩ ⟨rfl, rfl, Nat.le_of_ble_eq_true rfl, Nat.le_of_ble_eq_true rfl⟩ (hs_recv hK hH 20 0 (by decide) 12 rfl rfl) rfl rfl hl.1 (Nat.le_of_ble_eq_true rfl) ⟨Nat.le_of_ble_eq_true rfl, Nat.le_of_ble_eq_true rfl⟩ dX8_canSend_18) hS (fun H locs hH hS => ?_)
    refine lv_pop hx hb dX8_canSend_21 rfl ?_
    refine lv_goto (tgt := 39) hx hb dX8_canSend_22 (by decide) ?_
    exact w_X8_canSend_39 C0 M32 a2 r24 hf _ _ _ hH hS (lv_sub hl [1, 3, 0] rfl)
def f_X8_stampsMissing_41 (M : Mem) (a2 : Int32) (b0 : Int32) : Option (Int32 × Mem) := (if b0 < (1000000 : Int32) then bd (f_X8_parcelAt M a2) fun r21 => if vin (r21 + (3 : Int32)) 192 then (some ((if (0 : Int32) < (b0 - (M 21 0 (ix (r21 + (3 : Int32))))) then (b0 - (M 21 0 (ix (r21 + (3 : Int32))))) else (0 : Int32)), M)) else none else bd2 (f_X8_throwing M (1 : Int32)) fun r25 M24 => some (r25, M24))
set_option maxHeartbeats 4000000 in
set_option maxRecDepth 100000 in
theorem w_X8_stampsMissing_41 {Y : LY} {p : Program} {l : Launch} {e : Env} {s : State} {m : MethodId} {args : Array Value} {below : List Frame} {meth : Method} {c : Code} (C0 : BE Y p s m args meth c cX8_stampsMissing 4 (Option.some Jvm.ClassFile.FieldType.int) RX8) {r : Int32} {MZ : Mem} : ∀ (M : Mem) (a2 : Int32) (b0 : Int32), f_X8_stampsMissing_41 M a2 b0 = some (r, MZ) → ∀ (H : Heap) (locs : List Loc) (ls : Array Slot), HS Y M H → va_S (AZ Y) s.heap H locs → lv_has ls 4 [(0, .ref (YA Y 20 0)), (2, .int a2)] → W p l e { frames := 2, cells := 0, slots := 0, locals := 47 } s m args below meth c H locs 0 0 (MQ below (Qi Y r MZ) args s 0 0 (AZ Y)) (F0 m 41 ls [.int b0]) := by
  obtain ⟨hx, hb, hr, hml, hown, hA, hlocks, hK, hZ⟩ := id C0
  intro M a2 b0 hf H locs ls hH hS hl
  unfold f_X8_stampsMissing_41 at hf
  refine lv_istore_n (lv' := [(3, .int b0), (0, .ref (YA Y 20 0)), (2, .int a2)]) hx hb dX8_stampsMissing_41 rfl hl (by decide) rfl (fun ls hl => ?_)
  refine lv_iload_n hx hb dX8_stampsMissing_42 rfl (lv_at hl 0 rfl) ?_
  refine lv_ldc (v := (1000000 : Int32)) hx hb hown (hA _ zt_1773) dX8_stampsMissing_43 ?_
  refine lv_icmp_lt (tgt := 56) hx hb dX8_stampsMissing_45 (by decide) (fun hc26 => ?_) (fun hc26 => ?_)
  · have hf := if_t hf hc26
    refine lv_iconst (v := (0 : Int32)) hx hb dX8_stampsMissing_56 (by decide) ?_
    refine lv_iload_n hx hb dX8_stampsMissing_57 rfl (lv_at hl 0 rfl) ?_
    refine lv_aload_n hx hb dX8_stampsMissing_58 rfl (lv_at hl 1 rfl) ?_
    refine hs_get hx hb (T := TX8) hA inAX8 hown hK hH 20 0 (by decide) 12 rfl rfl 0 (by decide) (hA _ zt_1551) rfl rfl dX8_stampsMissing_59 ?_
    refine lv_iload_n hx hb dX8_stampsMissing_62 rfl (lv_at hl 2 rfl) ?_
    obtain ⟨r21, hq20, hf⟩ := bd_o hf
    refine hs_ci (hs_runS C0 hH hS (n := 1) (As := [.int a2]) (rest := [.ref (YA Y 21 0), .int b0, .int (0 : Int32)]) (c_X8_parcelAt M a2 hq20) ⟨⟨zt_1694, zt_1695, zt_13, zt_1696⟩, by decide, by decide, by decide +kernel⟩ ⟨rfl, rfl, Nat.le_of_ble_eq_true rfl, Nat.le_of_ble_eq_true rfl⟩ rfl rfl hl.1 (Nat.le_of_ble_eq_true rfl) ⟨Nat.le_of_ble_eq_true rfl, Nat.le_of_ble_eq_true rfl⟩ dX8_stampsMissing_63) hS (fun H locs hH hS => ?_)
    refine lv_iconst (v := (3 : Int32)) hx hb dX8_stampsMissing_66 (by decide) ?_
    refine lv_iadd hx hb dX8_stampsMissing_67 ?_
    obtain ⟨hg22, hf⟩ := gd_o hf
    have bhg22 := vin_lt hg22
    refine hs_iald hx hb hK hH 21 0 (by decide) rfl hg22 rfl dX8_stampsMissing_68 ?_
    refine lv_isub hx hb dX8_stampsMissing_69 ?_
    refine va_mmax hx hb (by rw [hml]; exact hl.1.symm) hown (hA _ zt_1926) (hA _ zt_1023) (hA _ zt_21) (hA _ zt_1024) (Nat.le_of_ble_eq_true rfl) (Nat.le_of_ble_eq_true rfl) (Nat.le_of_ble_eq_true rfl) (Nat.le_of_ble_eq_true rfl) dX8_stampsMissing_70 ?_
    cases hf
    exact hs_iret C0 hH hS (by decide) (by decide) dX8_stampsMissing_73
  · have hf := if_f hf hc26
    refine lv_aload_n hx hb dX8_stampsMissing_48 rfl (lv_at hl 1 rfl) ?_
    refine lv_iconst (v := (1 : Int32)) hx hb dX8_stampsMissing_49 (by decide) ?_
    obtain ⟨r25, M24, hq23, hf⟩ := bd2_o hf
    refine hs_ci (hs_runV C0 hH hS (n := 1) (As := [.int (1 : Int32)]) (rest := []) (c_X8_throwing M (1 : Int32) hq23) ⟨⟨zt_1637, zt_1639, zs_34, zt_13, zt_1640⟩, rfl, by decide, by decide, by decide +kernel⟩ ⟨rfl, rfl, Nat.le_of_ble_eq_true rfl, Nat.le_of_ble_eq_true rfl⟩ (hs_recv hK hH 20 0 (by decide) 12 rfl rfl) rfl rfl hl.1 (Nat.le_of_ble_eq_true rfl) ⟨Nat.le_of_ble_eq_true rfl, Nat.le_of_ble_eq_true rfl⟩ dX8_stampsMissing_50) hS (fun H locs hH hS => ?_)
    refine lv_goto (tgt := 73) hx hb dX8_stampsMissing_53 (by decide) ?_
    cases hf
    exact hs_iret C0 hH hS (by decide) (by decide) dX8_stampsMissing_73
def f_X8_stampsMissing (M : Mem) (a1 : Int32) : Option (Int32 × Mem) := nm (mu M 20 0 9 (0 : Int32)) fun M27 => bd (f_X8_find M27 a1) fun r29 => (if r29 = (-1 : Int32) then f_X8_stampsMissing_41 M27 r29 (1000000 : Int32) else bd (f_X8_placeOfParcel M27 r29) fun r31 => bd (f_X8_parcelAt M27 r29) fun r33 => if vin (r33 + (1 : Int32)) 192 then (bd2 (f_X8_fewest M27 r31 (M27 21 0 (ix (r33 + (1 : Int32))))) fun r37 M36 => f_X8_stampsMissing_41 M36 r29 r37) else none)
set_option maxHeartbeats 4000000 in
set_option maxRecDepth 100000 in
theorem c_X8_stampsMissing {Y : LY} {l : Launch} (M : Mem) (a1 : Int32) {r : Int32} {MZ : Mem} (hf : f_X8_stampsMissing M a1 = some (r, MZ)) : Met l yX8_stampsMissing (WS yX8_stampsMissing cX8_stampsMissing 4 (Option.some Jvm.ClassFile.FieldType.int)) { frames := 2, cells := 0, slots := 0, locals := 47 } (PcM Y M [.ref (YA Y 20 0), .int a1]) (Qi Y r MZ) 0 0 (AZ Y) := by
  refine met_mk (lv := [(0, .ref (YA Y 20 0)), (1, .int a1)]) [.ref (YA Y 20 0), .int a1] (by decide) rfl rfl (Nat.le_of_ble_eq_true rfl) (fun p e s m below meth c C0 hH ls hl => ?_)
  have hS : va_S (AZ Y) s.heap s.heap [] := va_S.rf
  obtain ⟨hx, hb, hr, hml, hown, hA, hlocks, hK, hZ⟩ := id C0
  unfold f_X8_stampsMissing at hf
  refine lv_aload_n hx hb dX8_stampsMissing_0 rfl (lv_at hl 0 rfl) ?_
  refine lv_iconst (v := (0 : Int32)) hx hb dX8_stampsMissing_1 (by decide) ?_
  refine hs_put hx hb (T := TX8) hA inAX8 tyX8 tyX8_ok nmX8 hown hK hH hS 20 0 (by decide) 12 rfl rfl 9 (by decide) (hA _ zt_1560) rfl rfl (by decide +kernel) (Nat.le_of_ble_eq_true rfl) rfl dX8_stampsMissing_2 (fun H locs hH hS => ?_)
  obtain ⟨M27, eM27, hf⟩ := nm_o hf
  rw [← eM27] at hH
  refine lv_aload_n hx hb dX8_stampsMissing_5 rfl (lv_at hl 0 rfl) ?_
  refine lv_iload_n hx hb dX8_stampsMissing_6 rfl (lv_at hl 1 rfl) ?_
  obtain ⟨r29, hq28, hf⟩ := bd_o hf
  refine hs_ci (hs_runV C0 hH hS (n := 1) (As := [.int a1]) (rest := []) (c_X8_find M27 a1 hq28) ⟨⟨zt_1705, zt_1707, zs_43, zt_13, zt_1708⟩, rfl, by decide, by decide, by decide +kernel⟩ ⟨rfl, rfl, Nat.le_of_ble_eq_true rfl, Nat.le_of_ble_eq_true rfl⟩ (hs_recv hK hH 20 0 (by decide) 12 rfl rfl) rfl rfl hl.1 (Nat.le_of_ble_eq_true rfl) ⟨Nat.le_of_ble_eq_true rfl, Nat.le_of_ble_eq_true rfl⟩ dX8_stampsMissing_7) hS (fun H locs hH hS => ?_)
  refine lv_istore_n (lv' := [(2, .int r29), (0, .ref (YA Y 20 0)), (1, .int a1)]) hx hb dX8_stampsMissing_10 rfl hl (by decide) rfl (fun ls hl => ?_)
  refine lv_iload_n hx hb dX8_stampsMissing_11 rfl (lv_at hl 0 rfl) ?_
  refine lv_iconst (v := (-1 : Int32)) hx hb dX8_stampsMissing_12 (by decide) ?_
  refine lv_icmp_ne (tgt := 21) hx hb dX8_stampsMissing_13 (by decide) (fun hc38 => ?_) (fun hc38 => ?_)
  · have hf := if_f hf hc38
    refine lv_aload_n hx hb dX8_stampsMissing_21 rfl (lv_at hl 1 rfl) ?_
    refine lv_aload_n hx hb dX8_stampsMissing_22 rfl (lv_at hl 1 rfl) ?_
    refine lv_iload_n hx hb dX8_stampsMissing_23 rfl (lv_at hl 0 rfl) ?_
    obtain ⟨r31, hq30, hf⟩ := bd_o hf
    refine hs_ci (hs_runV C0 hH hS (n := 1) (As := [.int r29]) (rest := [.ref (YA Y 20 0)]) (c_X8_placeOfParcel M27 r29 hq30) ⟨⟨zt_1761, zt_1763, zs_54, zt_13, zt_1764⟩, rfl, by decide, by decide, by decide +kernel⟩ ⟨rfl, rfl, Nat.le_of_ble_eq_true rfl, Nat.le_of_ble_eq_true rfl⟩ (hs_recv hK hH 20 0 (by decide) 12 rfl rfl) rfl rfl hl.1 (Nat.le_of_ble_eq_true rfl) ⟨Nat.le_of_ble_eq_true rfl, Nat.le_of_ble_eq_true rfl⟩ dX8_stampsMissing_24) hS (fun H locs hH hS => ?_)
    refine lv_aload_n hx hb dX8_stampsMissing_27 rfl (lv_at hl 1 rfl) ?_
    refine hs_get hx hb (T := TX8) hA inAX8 hown hK hH 20 0 (by decide) 12 rfl rfl 0 (by decide) (hA _ zt_1551) rfl rfl dX8_stampsMissing_28 ?_
    refine lv_iload_n hx hb dX8_stampsMissing_31 rfl (lv_at hl 0 rfl) ?_
    obtain ⟨r33, hq32, hf⟩ := bd_o hf
    refine hs_ci (hs_runS C0 hH hS (n := 1) (As := [.int r29]) (rest := [.ref (YA Y 21 0), .int r31, .ref (YA Y 20 0)]) (c_X8_parcelAt M27 r29 hq32) ⟨⟨zt_1694, zt_1695, zt_13, zt_1696⟩, by decide, by decide, by decide +kernel⟩ ⟨rfl, rfl, Nat.le_of_ble_eq_true rfl, Nat.le_of_ble_eq_true rfl⟩ rfl rfl hl.1 (Nat.le_of_ble_eq_true rfl) ⟨Nat.le_of_ble_eq_true rfl, Nat.le_of_ble_eq_true rfl⟩ dX8_stampsMissing_32) hS (fun H locs hH hS => ?_)
    refine lv_iconst (v := (1 : Int32)) hx hb dX8_stampsMissing_35 (by decide) ?_
    refine lv_iadd hx hb dX8_stampsMissing_36 ?_
    obtain ⟨hg34, hf⟩ := gd_o hf
    have bhg34 := vin_lt hg34
    refine hs_iald hx hb hK hH 21 0 (by decide) rfl hg34 rfl dX8_stampsMissing_37 ?_
    obtain ⟨r37, M36, hq35, hf⟩ := bd2_o hf
    refine hs_ci (hs_runV C0 hH hS (n := 2) (As := [.int r31, .int (M27 21 0 (ix (r33 + (1 : Int32))))]) (rest := []) (c_X8_fewest M27 r31 (M27 21 0 (ix (r33 + (1 : Int32)))) hq35) ⟨⟨zt_1902, zt_1904, zs_63, zt_13, zt_1905⟩, rfl, by decide, by decide, by decide +kernel⟩ ⟨rfl, rfl, Nat.le_of_ble_eq_true rfl, Nat.le_of_ble_eq_true rfl⟩ (hs_recv hK hH 20 0 (by decide) 12 rfl rfl) rfl rfl hl.1 (Nat.le_of_ble_eq_true rfl) ⟨Nat.le_of_ble_eq_true rfl, Nat.le_of_ble_eq_true rfl⟩ dX8_stampsMissing_38) hS (fun H locs hH hS => ?_)
    exact w_X8_stampsMissing_41 C0 M36 r29 r37 hf _ _ _ hH hS (lv_sub hl [1, 0] rfl)
  · have hf := if_t hf hc38
    refine lv_ldc (v := (1000000 : Int32)) hx hb hown (hA _ zt_1773) dX8_stampsMissing_16 ?_
    refine lv_goto (tgt := 41) hx hb dX8_stampsMissing_18 (by decide) ?_
    exact w_X8_stampsMissing_41 C0 M27 r29 (1000000 : Int32) hf _ _ _ hH hS (lv_sub hl [1, 0] rfl)
