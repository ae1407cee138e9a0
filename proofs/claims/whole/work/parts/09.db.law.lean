def f_L_law_1471 (xs : Nat → Int32) (L : Nat) (k28 : Mem → Int32 → Option Unit) (M : Mem) (a5 : Int32) : Option Unit := if vin (a5 + (1 : Int32)) L then (bd2 (f_L_isTravelling M (xs (ix (a5 + (1 : Int32))))) fun r989 M988 => bd2 (f_X8_isTravelling M988 (xs (ix (a5 + (1 : Int32))))) fun r992 M991 => bd (f_X8_thrown M991) fun r994 => (if r994 = r989 then (if r989 = 0 then (if r992 = 0 then f_L_law_1525 xs L k28 M991 a5 (0 : Int64) ((M991 33 0 0).toInt64) else f_L_law_1525 xs L k28 M991 a5 (1 : Int64) ((M991 33 0 0).toInt64)) else f_L_law_3289 xs L k28 M991 a5) else none)) else none
set_option maxHeartbeats 8000000 in
set_option maxRecDepth 100000 in
theorem w_L_law_1471 {Y : LY} {p : Program} {l : Launch} {e : Env} {s : State} {m : MethodId} {b : Nat} {below : List Frame} {meth : Method} {c : Code} (C0 : BE Y p s m #[Value.ref b] meth c cL_law 9 ret RL) (hl9 : l.stackTraces = false) (xs : Nat → Int32) (L : Nat) (hX : va_X b L xs s s.heap) (hbl : b < YZ Y) (C S : Nat) (hC9 : C + 60 ≤ 603072) (hS9 : S + 8000 ≤ 7182442) (k28 : Mem → Int32 → Option Unit) (hk28 : ∀ (M : Mem) (a5 : Int32), k28 M a5 = some () → ∀ (H : Heap) (locs : List Loc) (ls : Array Slot), HS Y M H → va_S (AZ Y) s.heap H locs → lv_has ls 9 [(0, .ref b), (1, .ref (YA Y 0 0)), (2, .ref (YA Y 20 0)), (3, .ref (YA Y 33 0)), (4, .ref (YA Y 36 0)), (5, .int a5)] → W p l e room_1 s m #[Value.ref b] below meth c H locs (C + 60) (S + 8000) (lw_Z below #[Value.ref b] s) (F0 m 28 ls [])) : ∀ (M : Mem) (a5 : Int32), f_L_law_1471 xs L k28 M a5 = some () → ∀ (H : Heap) (locs : List Loc) (ls : Array Slot), HS Y M H → va_S (AZ Y) s.heap H locs → lv_has ls 9 [(0, .ref b), (1, .ref (YA Y 0 0)), (2, .ref (YA Y 20 0)), (3, .ref (YA Y 33 0)), (4, .ref (YA Y 36 0)), (5, .int a5)] → W p l e room_1 s m #[Value.ref b] below meth c H locs (C + 0) (S + 0) (lw_Z below #[Value.ref b] s) (F0 m 1471 ls []) := by
  obtain ⟨hx, hb, hr, hml, hown, hA, hlocks, hK, hZ⟩ := id C0
  have hR1 : room_1.cells = 603072 := rfl
  have hR2 : room_1.slots = 7182442 := rfl
  intro M a5 hf H locs ls hH hS hl
  unfold f_L_law_1471 at hf
  refine lv_aload_n hx hb dL_law_1471 rfl (lv_at hl 1 rfl) ?_
  refine lv_aload_n hx hb dL_law_1472 rfl (lv_at hl 0 rfl) ?_
  refine lv_iload hx hb dL_law_1473 (lv_at hl 5 rfl) ?_
  refine lv_iconst (v := (1 : Int32)) hx hb dL_law_1475 (by decide) ?_
  refine lv_iadd hx hb dL_law_1476 ?_
  obtain ⟨hg986, hf⟩ := gd_o hf
  refine hl_sld hx hb hX (Nat.lt_of_lt_of_le hbl hZ) (Nat.not_le.mpr hbl) hS hg986 dL_law_1477 ?_
  refine lv_aload_n hx hb dL_law_1478 rfl (lv_at hl 3 rfl) ?_
  obtain ⟨r989, M988, hq987, hf⟩ := bd2_o hf
  refine hs_ci (hs_runSX C0 hH hS (n := 3) (As := [.ref (YA Y 0 0), .int (xs (ix (a5 + (1 : Int32)))), .ref (YA Y 33 0)]) (rest := []) (c_L_isTravelling hl9 M (xs (ix (a5 + (1 : Int32)))) hq987) ⟨⟨zt_863, zt_864, zt_0, zt_865⟩, by decide, by decide, by decide +kernel⟩ ⟨rfl, rfl, Nat.le_of_ble_eq_true rfl, Nat.le_of_ble_eq_true rfl⟩ rfl rfl hl.1 (Nat.le_of_ble_eq_true rfl) ⟨by omega, by omega⟩ dL_law_1479) hS (fun H locs hH hS => ?_)
  refine lv_istore (lv' := [(6, .int r989), (0, .ref b), (1, .ref (YA Y 0 0)), (2, .ref (YA Y 20 0)), (3, .ref (YA Y 33 0)), (4, .ref (YA Y 36 0)), (5, .int a5)]) hx hb dL_law_1482 hl (by decide) rfl (fun ls hl => ?_)
  refine lv_aload_n hx hb dL_law_1484 rfl (lv_at hl 3 rfl) ?_
  refine lv_aload_n hx hb dL_law_1485 rfl (lv_at hl 1 rfl) ?_
  refine lv_iload hx hb dL_law_1486 (lv_at hl 6 rfl) ?_
  refine lv_iconst (v := (1 : Int32)) hx hb dL_law_1488 (by decide) ?_
  refine lv_iadd hx hb dL_law_1489 ?_
  refine hl_sld hx hb hX (Nat.lt_of_lt_of_le hbl hZ) (Nat.not_le.mpr hbl) hS hg986 dL_law_1490 ?_
  obtain ⟨r992, M991, hq990, hf⟩ := bd2_o hf
  refine hs_ci (hs_runV C0 hH hS (n := 1) (As := [.int (xs (ix (a5 + (1 : Int32))))]) (rest := []) (c_X8_isTravelling M988 (xs (ix (a5 + (1 : Int32)))) hq990) ⟨⟨zt_1849, zt_1850, zt_1851, zt_13, zt_1852⟩, rfl, by decide, by decide, by decide +kernel⟩ ⟨rfl, rfl, Nat.le_of_ble_eq_true rfl, Nat.le_of_ble_eq_true rfl⟩ (hs_recv hK hH 20 0 (by decide) 12 rfl rfl) rfl rfl hl.1 (Nat.le_of_ble_eq_true rfl) ⟨by omega, by omega⟩ dL_law_1491) hS (fun H locs hH hS => ?_)
  refine lv_istore (lv' := [(7, .int r992), (6, .int r989), (0, .ref b), (1, .ref (YA Y 0 0)), (2, .ref (YA Y 20 0)), (3, .ref (YA Y 33 0)), (4, .ref (YA Y 36 0)), (5, .int a5)]) hx hb dL_law_1494 hl (by decide) rfl (fun ls hl => ?_)
  refine lv_aload_n hx hb dL_law_1496 rfl (lv_at hl 4 rfl) ?_
  obtain ⟨r994, hq993, hf⟩ := bd_o hf
  refine hs_ci (hs_runV C0 hH hS (n := 0) (As := []) (rest := []) (c_X8_thrown M991 hq993) ⟨⟨zt_1621, zt_1622, zt_1623, zt_13, zt_1624⟩, rfl, by decide, by decide, by decide +kernel⟩ ⟨rfl, rfl, Nat.le_of_ble_eq_true rfl, Nat.le_of_ble_eq_true rfl⟩ (hs_recv hK hH 20 0 (by decide) 12 rfl rfl) rfl rfl hl.1 (Nat.le_of_ble_eq_true rfl) ⟨by omega, by omega⟩ dL_law_1497) hS (fun H locs hH hS => ?_)
  refine lv_iload hx hb dL_law_1500 (lv_at hl 1 rfl) ?_
  refine lv_icmp_eq (tgt := 1507) hx hb dL_law_1502 (by decide) (fun hc997 => ?_) (fun hc997 => ?_)
  · have hf := if_t hf hc997
    refine lv_iload hx hb dL_law_1507 (lv_at hl 1 rfl) ?_
    refine lv_if_ne (tgt := 1531) hx hb dL_law_1509 (by decide) (fun hc996 => ?_) (fun hc996 => ?_)
    · have hf := if_f hf hc996
      refine lv_goto (tgt := 3289) hx hb dL_law_1531 (by decide) ?_
      refine W.widen (k := C + 14) (n := S + 1696) (by omega) (by omega) ?_
      exact w_L_law_3289 C0 hl9 xs L hX hbl C S hC9 hS9 k28 hk28 M991 a5 hf _ _ _ hH hS (lv_sub hl [2, 3, 4, 5, 6, 7] rfl)
    · have hf := if_t hf hc996
      refine lv_aload_n hx hb dL_law_1512 rfl (lv_at hl 5 rfl) ?_
      refine lv_iconst (v := (0 : Int32)) hx hb dL_law_1513 (by decide) ?_
      refine hl_laload hx hb hK hH dL_law_1514 ?_
      refine lv_iload hx hb dL_law_1515 (lv_at hl 0 rfl) ?_
      refine lv_if_eq (tgt := 1524) hx hb dL_law_1517 (by decide) (fun hc995 => ?_) (fun hc995 => ?_)
      · have hf := if_t hf hc995
        refine lv_lconst (v := (0 : Int64)) hx hb dL_law_1524 (by decide) ?_
        refine W.widen (k := C + 1) (n := S + 6) (by omega) (by omega) ?_
        exact w_L_law_1525 C0 hl9 xs L hX hbl C S hC9 hS9 k28 hk28 M991 a5 (0 : Int64) ((M991 33 0 0).toInt64) hf _ _ _ hH hS (lv_sub hl [2, 3, 4, 5, 6, 7] rfl)
      · have hf := if_f hf hc995
        refine lv_lconst (v := (1 : Int64)) hx hb dL_law_1520 (by decide) ?_
        refine lv_goto (tgt := 1525) hx hb dL_law_1521 (by decide) ?_
        refine W.widen (k := C + 1) (n := S + 6) (by omega) (by omega) ?_
        exact w_L_law_1525 C0 hl9 xs L hX hbl C S hC9 hS9 k28 hk28 M991 a5 (1 : Int64) ((M991 33 0 0).toInt64) hf _ _ _ hH hS (lv_sub hl [2, 3, 4, 5, 6, 7] rfl)
  · have hf := if_f hf hc997
    refine lv_iconst (v := (0 : Int32)) hx hb dL_law_1505 (by decide) ?_
    cases hf
def f_L_law_1534 (xs : Nat → Int32) (L : Nat) (k28 : Mem → Int32 → Option Unit) (M : Mem) (a5 : Int32) : Option Unit := if vin (a5 + (1 : Int32)) L then (bd2 (f_L_placeOf M (xs (ix (a5 + (1 : Int32))))) fun r1001 M1000 => bd2 (f_X8_placeOf M1000 (xs (ix (a5 + (1 : Int32))))) fun r1004 M1003 => bd (f_X8_thrown M1003) fun r1006 => (if r1006 = r1001 then (if r1001 = 0 then (if (lg_cmp ((M1003 33 0 0).toInt64) r1004.toInt64) = 0 then f_L_law_3289 xs L k28 M1003 a5 else none) else f_L_law_3289 xs L k28 M1003 a5) else none)) else none
set_option maxHeartbeats 8000000 in
set_option maxRecDepth 100000 in
theorem w_L_law_1534 {Y : LY} {p : Program} {l : Launch} {e : Env} {s : State} {m : MethodId} {b : Nat} {below : List Frame} {meth : Method} {c : Code} (C0 : BE Y p s m #[Value.ref b] meth c cL_law 9 ret RL) (hl9 : l.stackTraces = false) (xs : Nat → Int32) (L : Nat) (hX : va_X b L xs s s.heap) (hbl : b < YZ Y) (C S : Nat) (hC9 : C + 60 ≤ 603072) (hS9 : S + 8000 ≤ 7182442) (k28 : Mem → Int32 → Option Unit) (hk28 : ∀ (M : Mem) (a5 : Int32), k28 M a5 = some () → ∀ (H : Heap) (locs : List Loc) (ls : Array Slot), HS Y M H → va_S (AZ Y) s.heap H locs → lv_has ls 9 [(0, .ref b), (1, .ref (YA Y 0 0)), (2, .ref (YA Y 20 0)), (3, .ref (YA Y 33 0)), (4, .ref (YA Y 36 0)), (5, .int a5)] → W p l e room_1 s m #[Value.ref b] below meth c H locs (C + 60) (S + 8000) (lw_Z below #[Value.ref b] s) (F0 m 28 ls [])) : ∀ (M : Mem) (a5 : Int32), f_L_law_1534 xs L k28 M a5 = some () → ∀ (H : Heap) (locs : List Loc) (ls : Array Slot), HS Y M H → va_S (AZ Y) s.heap H locs → lv_has ls 9 [(0, .ref b), (1, .ref (YA Y 0 0)), (2, .ref (YA Y 20 0)), (3, .ref (YA Y 33 0)), (4, .ref (YA Y 36 0)), (5, .int a5)] → W p l e room_1 s m #[Value.ref b] below meth c H locs (C + 0) (S + 0) (lw_Z below #[Value.ref b] s) (F0 m 1534 ls []) := by
  obtain ⟨hx, hb, hr, hml, hown, hA, hlocks, hK, hZ⟩ := id C0
  have hR1 : room_1.cells = 603072 := rfl
  have hR2 : room_1.slots = 7182442 := rfl
  intro M a5 hf H locs ls hH hS hl
  unfold f_L_law_1534 at hf
  refine lv_aload_n hx hb dL_law_1534 rfl (lv_at hl 1 rfl) ?_
  refine lv_aload_n hx hb dL_law_1535 rfl (lv_at hl 0 rfl) ?_
  refine lv_iload hx hb dL_law_1536 (lv_at hl 5 rfl) ?_
  refine lv_iconst (v := (1 : Int32)) hx hb dL_law_1538 (by decide) ?_
  refine lv_iadd hx hb dL_law_1539 ?_
  obtain ⟨hg998, hf⟩ := gd_o hf
  refine hl_sld hx hb hX (Nat.lt_of_lt_of_le hbl hZ) (Nat.not_le.mpr hbl) hS hg998 dL_law_1540 ?_
  refine lv_aload_n hx hb dL_law_1541 rfl (lv_at hl 3 rfl) ?_
  obtain ⟨r1001, M1000, hq999, hf⟩ := bd2_o hf
  refine hs_ci (hs_runSX C0 hH hS (n := 3) (As := [.ref (YA Y 0 0), .int (xs (ix (a5 + (1 : Int32)))), .ref (YA Y 33 0)]) (rest := []) (c_L_placeOf hl9 M (xs (ix (a5 + (1 : Int32)))) hq999) ⟨⟨zt_876, zt_877, zt_0, zt_878⟩, by decide, by decide, by decide +kernel⟩ ⟨rfl, rfl, Nat.le_of_ble_eq_true rfl, Nat.le_of_ble_eq_true rfl⟩ rfl rfl hl.1 (Nat.le_of_ble_eq_true rfl) ⟨by omega, by omega⟩ dL_law_1542) hS (fun H locs hH hS => ?_)
  refine lv_istore (lv' := [(6, .int r1001), (0, .ref b), (1, .ref (YA Y 0 0)), (2, .ref (YA Y 20 0)), (3, .ref (YA Y 33 0)), (4, .ref (YA Y 36 0)), (5, .int a5)]) hx hb dL_law_1545 hl (by decide) rfl (fun ls hl => ?_)
  refine lv_aload_n hx hb dL_law_1547 rfl (lv_at hl 3 rfl) ?_
  refine lv_aload_n hx hb dL_law_1548 rfl (lv_at hl 1 rfl) ?_
  refine lv_iload hx hb dL_law_1549 (lv_at hl 6 rfl) ?_
  refine lv_iconst (v := (1 : Int32)) hx hb dL_law_1551 (by decide) ?_
  refine lv_iadd hx hb dL_law_1552 ?_
  refine hl_sld hx hb hX (Nat.lt_of_lt_of_le hbl hZ) (Nat.not_le.mpr hbl) hS hg998 dL_law_1553 ?_
  obtain ⟨r1004, M1003, hq1002, hf⟩ := bd2_o hf
  refine hs_ci (hs_runV C0 hH hS (n := 1) (As := [.int (xs (ix (a5 + (1 : Int32))))]) (rest := []) (c_X8_placeOf M1000 (xs (ix (a5 + (1 : Int32)))) hq1002) ⟨⟨zt_1857, zt_1858, zt_1859, zt_13, zt_1860⟩, rfl, by decide, by decide, by decide +kernel⟩ ⟨rfl, rfl, Nat.le_of_ble_eq_true rfl, Nat.le_of_ble_eq_true rfl⟩ (hs_recv hK hH 20 0 (by decide) 12 rfl rfl) rfl rfl hl.1 (Nat.le_of_ble_eq_true rfl) ⟨by omega, by omega⟩ dL_law_1554) hS (fun H locs hH hS => ?_)
  refine lv_istore (lv' := [(7, .int r1004), (6, .int r1001), (0, .ref b), (1, .ref (YA Y 0 0)), (2, .ref (YA Y 20 0)), (3, .ref (YA Y 33 0)), (4, .ref (YA Y 36 0)), (5, .int a5)]) hx hb dL_law_1557 hl (by decide) rfl (fun ls hl => ?_)
  refine lv_aload_n hx hb dL_law_1559 rfl (lv_at hl 4 rfl) ?_
  obtain ⟨r1006, hq1005, hf⟩ := bd_o hf
  refine hs_ci (hs_runV C0 hH hS (n := 0) (As := []) (rest := []) (c_X8_thrown M1003 hq1005) ⟨⟨zt_1621, zt_1622, zt_1623, zt_13, zt_1624⟩, rfl, by decide, by decide, by decide +kernel⟩ ⟨rfl, rfl, Nat.le_of_ble_eq_true rfl, Nat.le_of_ble_eq_true rfl⟩ (hs_recv hK hH 20 0 (by decide) 12 rfl rfl) rfl rfl hl.1 (Nat.le_of_ble_eq_true rfl) ⟨by omega, by omega⟩ dL_law_1560) hS (fun H locs hH hS => ?_)
  refine lv_iload hx hb dL_law_1563 (lv_at hl 1 rfl) ?_
  refine lv_icmp_eq (tgt := 1570) hx hb dL_law_1565 (by decide) (fun hc1009 => ?_) (fun hc1009 => ?_)
  · have hf := if_t hf hc1009
    refine lv_iload hx hb dL_law_1570 (lv_at hl 1 rfl) ?_
    refine lv_if_ne (tgt := 1587) hx hb dL_law_1572 (by decide) (fun hc1008 => ?_) (fun hc1008 => ?_)
    · have hf := if_f hf hc1008
      refine lv_goto (tgt := 3289) hx hb dL_law_1587 (by decide) ?_
      refine W.widen (k := C + 14) (n := S + 1696) (by omega) (by omega) ?_
      exact w_L_law_3289 C0 hl9 xs L hX hbl C S hC9 hS9 k28 hk28 M1003 a5 hf _ _ _ hH hS (lv_sub hl [2, 3, 4, 5, 6, 7] rfl)
    · have hf := if_t hf hc1008
      refine lv_aload_n hx hb dL_law_1575 rfl (lv_at hl 5 rfl) ?_
      refine lv_iconst (v := (0 : Int32)) hx hb dL_law_1576 (by decide) ?_
      refine hl_laload hx hb hK hH dL_law_1577 ?_
      refine lv_iload hx hb dL_law_1578 (lv_at hl 0 rfl) ?_
      refine lv_i2l (v := r1004.toInt64) hx hb dL_law_1580 rfl ?_
      refine W.lcmp hx hb dL_law_1581 ?_
      refine lv_if_eq (tgt := 1587) hx hb dL_law_1582 (by decide) (fun hc1007 => ?_) (fun hc1007 => ?_)
      · have hf := if_t hf hc1007
        refine lv_goto (tgt := 3289) hx hb dL_law_1587 (by decide) ?_
        refine W.widen (k := C + 14) (n := S + 1696) (by omega) (by omega) ?_
        exact w_L_law_3289 C0 hl9 xs L hX hbl C S hC9 hS9 k28 hk28 M1003 a5 hf _ _ _ hH hS (lv_sub hl [2, 3, 4, 5, 6, 7] rfl)
      · have hf := if_f hf hc1007
        refine lv_iconst (v := (0 : Int32)) hx hb dL_law_1585 (by decide) ?_
        cases hf
  · have hf := if_f hf hc1009
    refine lv_iconst (v := (0 : Int32)) hx hb dL_law_1568 (by decide) ?_
    cases hf
def f_L_law_1590 (xs : Nat → Int32) (L : Nat) (k28 : Mem → Int32 → Option Unit) (M : Mem) (a5 : Int32) : Option Unit := if vin (a5 + (1 : Int32)) L then (bd2 (f_L_linkOf M (xs (ix (a5 + (1 : Int32))))) fun r1013 M1012 => bd2 (f_X8_linkOf M1012 (xs (ix (a5 + (1 : Int32))))) fun r1016 M1015 => bd (f_X8_thrown M1015) fun r1018 => (if r1018 = r1013 then (if r1013 = 0 then (if (lg_cmp ((M1015 33 0 0).toInt64) r1016.toInt64) = 0 then f_L_law_3289 xs L k28 M1015 a5 else none) else f_L_law_3289 xs L k28 M1015 a5) else none)) else none
set_option maxHeartbeats 8000000 in
set_option maxRecDepth 100000 in
theorem w_L_law_1590 {Y : LY} {p : Program} {l : Launch} {e : Env} {s : State} {m : MethodId} {b : Nat} {below : List Frame} {meth : Method} {c : Code} (C0 : BE Y p s m #[Value.ref b] meth c cL_law 9 ret RL) (hl9 : l.stackTraces = false) (xs : Nat → Int32) (L : Nat) (hX : va_X b L xs s s.heap) (hbl : b < YZ Y) (C S : Nat) (hC9 : C + 60 ≤ 603072) (hS9 : S + 8000 ≤ 7182442) (k28 : Mem → Int32 → Option Unit) (hk28 : ∀ (M : Mem) (a5 : Int32), k28 M a5 = some () → ∀ (H : Heap) (locs : List Loc) (ls : Array Slot), HS Y M H → va_S (AZ Y) s.heap H locs → lv_has ls 9 [(0, .ref b), (1, .ref (YA Y 0 0)), (2, .ref (YA Y 20 0)), (3, .ref (YA Y 33 0)), (4, .ref (YA Y 36 0)), (5, .int a5)] → W p l e room_1 s m #[Value.ref b] below meth c H locs (C + 60) (S + 8000) (lw_Z below #[Value.ref b] s) (F0 m 28 ls [])) : ∀ (M : Mem) (a5 : Int32), f_L_law_1590 xs L k28 M a5 = some () → ∀ (H : Heap) (locs : List Loc) (ls : Array Slot), HS Y M H → va_S (AZ Y) s.heap H locs → lv_has ls 9 [(0, .ref b), (1, .ref (YA Y 0 0)), (2, .ref (YA Y 20 0)), (3, .ref (YA Y 33 0)), (4, .ref (YA Y 36 0)), (5, .int a5)] → W p l e room_1 s m #[Value.ref b] below meth c H locs (C + 0) (S + 0) (lw_Z below #[Value.ref b] s) (F0 m 1590 ls []) := by
  obtain ⟨hx, hb, hr, hml, hown, hA, hlocks, hK, hZ⟩ := id C0
  have hR1 : room_1.cells = 603072 := rfl
  have hR2 : room_1.slots = 7182442 := rfl
  intro M a5 hf H locs ls hH hS hl
  unfold f_L_law_1590 at hf
  refine lv_aload_n hx hb dL_law_1590 rfl (lv_at hl 1 rfl) ?_
  refine lv_aload_n hx hb dL_law_1591 rfl (lv_at hl 0 rfl) ?_
  refine lv_iload hx hb dL_law_1592 (lv_at hl 5 rfl) ?_
  refine lv_iconst (v := (1 : Int32)) hx hb dL_law_1594 (by decide) ?_
  refine lv_iadd hx hb dL_law_1595 ?_
  obtain ⟨hg1010, hf⟩ := gd_o hf
  refine hl_sld hx hb hX (Nat.lt_of_lt_of_le hbl hZ) (Nat.not_le.mpr hbl) hS hg1010 dL_law_1596 ?_
  refine lv_aload_n hx hb dL_law_1597 rfl (lv_at hl 3 rfl) ?_
  obtain ⟨r1013, M1012, hq1011, hf⟩ := bd2_o hf
  refine hs_ci (hs_runSX C0 hH hS (n := 3) (As := [.ref (YA Y 0 0), .int (xs (ix (a5 + (1 : Int32)))), .ref (YA Y 33 0)]) (rest := []) (c_L_linkOf hl9 M (xs (ix (a5 + (1 : Int32)))) hq1011) ⟨⟨zt_888, zt_889, zt_0, zt_890⟩, by decide, by decide, by decide +kernel⟩ ⟨rfl, rfl, Nat.le_of_ble_eq_true rfl, Nat.le_of_ble_eq_true rfl⟩ rfl rfl hl.1 (Nat.le_of_ble_eq_true rfl) ⟨by omega, by omega⟩ dL_law_1598) hS (fun H locs hH hS => ?_)
  refine lv_istore (lv' := [(6, .int r1013), (0, .ref b), (1, .ref (YA Y 0 0)), (2, .ref (YA Y 20 0)), (3, .ref (YA Y 33 0)), (4, .ref (YA Y 36 0)), (5, .int a5)]) hx hb dL_law_1601 hl (by decide) rfl (fun ls hl => ?_)
  refine lv_aload_n hx hb dL_law_1603 rfl (lv_at hl 3 rfl) ?_
  refine lv_aload_n hx hb dL_law_1604 rfl (lv_at hl 1 rfl) ?_
  refine lv_iload hx hb dL_law_1605 (lv_at hl 6 rfl) ?_
  refine lv_iconst (v := (1 : Int32)) hx hb dL_law_1607 (by decide) ?_
  refine lv_iadd hx hb dL_law_1608 ?_
  refine hl_sld hx hb hX (Nat.lt_of_lt_of_le hbl hZ) (Nat.not_le.mpr hbl) hS hg1010 dL_law_1609 ?_
  obtain ⟨r1016, M1015, hq1014, hf⟩ := bd2_o hf
  refine hs_ci (hs_runV C0 hH hS (n := 1) (As := [.int (xs (ix (a5 + (1 : Int32))))]) (rest := []) (c_X8_linkOf M1012 (xs (ix (a5 + (1 : Int32)))) hq1014) ⟨⟨zt_1861, zt_1862, zt_1863, zt_13, zt_1864⟩, rfl, by decide, by decide, by decide +kernel⟩ ⟨rfl, rfl, Nat.le_of_ble_eq_true rfl, Nat.le_of_ble_eq_true rfl⟩ (hs_recv hK hH 20 0 (by decide) 12 rfl rfl) rfl rfl hl.1 (Nat.le_of_ble_eq_true rfl) ⟨by omega, by omega⟩ dL_law_1610) hS (fun H locs hH hS => ?_)
  refine lv_istore (lv' := [(7, .int r1016), (6, .int r1013), (0, .ref b), (1, .ref (YA Y 0 0)), (2, .ref (YA Y 20 0)), (3, .ref (YA Y 33 0)), (4, .ref (YA Y 36 0)), (5, .int a5)]) hx hb dL_law_1613 hl (by decide) rfl (fun ls hl => ?_)
  refine lv_aload_n hx hb dL_law_1615 rfl (lv_at hl 4 rfl) ?_
  obtain ⟨r1018, hq1017, hf⟩ := bd_o hf
  refine hs_ci (hs_runV C0 hH hS (n := 0) (As := []) (rest := []) (c_X8_thrown M1015 hq1017) ⟨⟨zt_1621, zt_1622, zt_1623, zt_13, zt_1624⟩, rfl, by decide, by decide, by decide +kernel⟩ ⟨rfl, rfl, Nat.le_of_ble_eq_true rfl, Nat.le_of_ble_eq_true rfl⟩ (hs_recv hK hH 20 0 (by decide) 12 rfl rfl) rfl rfl hl.1 (Nat.le_of_ble_eq_true rfl) ⟨by omega, by omega⟩ dL_law_1616) hS (fun H locs hH hS => ?_)
  refine lv_iload hx hb dL_law_1619 (lv_at hl 1 rfl) ?_
  refine lv_icmp_eq (tgt := 1626) hx hb dL_law_1621 (by decide) (fun hc1021 => ?_) (fun hc1021 => ?_)
  · have hf := if_t hf hc1021
    refine lv_iload hx hb dL_law_1626 (lv_at hl 1 rfl) ?_
    refine lv_if_ne (tgt := 1643) hx hb dL_law_1628 (by decide) (fun hc1020 => ?_) (fun hc1020 => ?_)
    · have hf := if_f hf hc1020
      refine lv_goto (tgt := 3289) hx hb dL_law_1643 (by decide) ?_
      refine W.widen (k := C + 14) (n := S + 1696) (by omega) (by omega) ?_
      exact w_L_law_3289 C0 hl9 xs L hX hbl C S hC9 hS9 k28 hk28 M1015 a5 hf _ _ _ hH hS (lv_sub hl [2, 3, 4, 5, 6, 7] rfl)
    · have hf := if_t hf hc1020
      refine lv_aload_n hx hb dL_law_1631 rfl (lv_at hl 5 rfl) ?_
      refine lv_iconst (v := (0 : Int32)) hx hb dL_law_1632 (by decide) ?_
      refine hl_laload hx hb hK hH dL_law_1633 ?_
      refine lv_iload hx hb dL_law_1634 (lv_at hl 0 rfl) ?_
      refine lv_i2l (v := r1016.toInt64) hx hb dL_law_1636 rfl ?_
      refine W.lcmp hx hb dL_law_1637 ?_
      refine lv_if_eq (tgt := 1643) hx hb dL_law_1638 (by decide) (fun hc1019 => ?_) (fun hc1019 => ?_)
      · have hf := if_t hf hc1019
        refine lv_goto (tgt := 3289) hx hb dL_law_1643 (by decide) ?_
        refine W.widen (k := C + 14) (n := S + 1696) (by omega) (by omega) ?_
        exact w_L_law_3289 C0 hl9 xs L hX hbl C S hC9 hS9 k28 hk28 M1015 a5 hf _ _ _ hH hS (lv_sub hl [2, 3, 4, 5, 6, 7] rfl)
      · have hf := if_f hf hc1019
        refine lv_iconst (v := (0 : Int32)) hx hb dL_law_1641 (by decide) ?_
        cases hf
  · have hf := if_f hf hc1021
    refine lv_iconst (v := (0 : Int32)) hx hb dL_law_1624 (by decide) ?_
    cases hf
def f_L_law_1646 (xs : Nat → Int32) (L : Nat) (k28 : Mem → Int32 → Option Unit) (M : Mem) (a5 : Int32) : Option Unit := if vin (a5 + (1 : Int32)) L then (bd2 (f_L_arrivalOf M (xs (ix (a5 + (1 : Int32))))) fun r1025 M1024 => bd2 (f_X8_arrivalOf M1024 (xs (ix (a5 + (1 : Int32))))) fun r1028 M1027 => bd (f_X8_thrown M1027) fun r1030 => (if r1030 = r1025 then (if r1025 = 0 then (if (lg_cmp ((M1027 33 0 0).toInt64) r1028.toInt64) = 0 then f_L_law_3289 xs L k28 M1027 a5 else none) else f_L_law_3289 xs L k28 M1027 a5) else none)) else none
set_option maxHeartbeats 8000000 in
set_option maxRecDepth 100000 in
theorem w_L_law_1646 {Y : LY} {p : Program} {l : Launch} {e : Env} {s : State} {m : MethodId} {b : Nat} {below : List Frame} {meth : Method} {c : Code} (C0 : BE Y p s m #[Value.ref b] meth c cL_law 9 ret RL) (hl9 : l.stackTraces = false) (xs : Nat → Int32) (L : Nat) (hX : va_X b L xs s s.heap) (hbl : b < YZ Y) (C S : Nat) (hC9 : C + 60 ≤ 603072) (hS9 : S + 8000 ≤ 7182442) (k28 : Mem → Int32 → Option Unit) (hk28 : ∀ (M : Mem) (a5 : Int32), k28 M a5 = some () → ∀ (H : Heap) (locs : List Loc) (ls : Array Slot), HS Y M H → va_S (AZ Y) s.heap H locs → lv_has ls 9 [(0, .ref b), (1, .ref (YA Y 0 0)), (2, .ref (YA Y 20 0)), (3, .ref (YA Y 33 0)), (4, .ref (YA Y 36 0)), (5, .int a5)] → W p l e room_1 s m #[Value.ref b] below meth c H locs (C + 60) (S + 8000) (lw_Z below #[Value.ref b] s) (F0 m 28 ls [])) : ∀ (M : Mem) (a5 : Int32), f_L_law_1646 xs L k28 M a5 = some () → ∀ (H : Heap) (locs : List Loc) (ls : Array Slot), HS Y M H → va_S (AZ Y) s.heap H locs → lv_has ls 9 [(0, .ref b), (1, .ref (YA Y 0 0)), (2, .ref (YA Y 20 0)), (3, .ref (YA Y 33 0)), (4, .ref (YA Y 36 0)), (5, .int a5)] → W p l e room_1 s m #[Value.ref b] below meth c H locs (C + 0) (S + 0) (lw_Z below #[Value.ref b] s) (F0 m 1646 ls []) := by
  obtain ⟨hx, hb, hr, hml, hown, hA, hlocks, hK, hZ⟩ := id C0
  have hR1 : room_1.cells = 603072 := rfl
  have hR2 : room_1.slots = 7182442 := rfl
  intro M a5 hf H locs ls hH hS hl
  unfold f_L_law_1646 at hf
  refine lv_aload_n hx hb dL_law_1646 rfl (lv_at hl 1 rfl) ?_
  refine lv_aload_n hx hb dL_law_1647 rfl (lv_at hl 0 rfl) ?_
  refine lv_iload hx hb dL_law_1648 (lv_at hl 5 rfl) ?_
  refine lv_iconst (v := (1 : Int32)) hx hb dL_law_1650 (by decide) ?_
  refine lv_iadd hx hb dL_law_1651 ?_
  obtain ⟨hg1022, hf⟩ := gd_o hf
  refine hl_sld hx hb hX (Nat.lt_of_lt_of_le hbl hZ) (Nat.not_le.mpr hbl) hS hg1022 dL_law_1652 ?_
  refine lv_aload_n hx hb dL_law_1653 rfl (lv_at hl 3 rfl) ?_
  obtain ⟨r1025, M1024, hq1023, hf⟩ := bd2_o hf
  refine hs_ci (hs_runSX C0 hH hS (n := 3) (As := [.ref (YA Y 0 0), .int (xs (ix (a5 + (1 : Int32)))), .ref (YA Y 33 0)]) (rest := []) (c_L_arrivalOf hl9 M (xs (ix (a5 + (1 : Int32)))) hq1023) ⟨⟨zt_900, zt_901, zt_0, zt_902⟩, by decide, by decide, by decide +kernel⟩ ⟨rfl, rfl, Nat.le_of_ble_eq_true rfl, Nat.le_of_ble_eq_true rfl⟩ rfl rfl hl.1 (Nat.le_of_ble_eq_true rfl) ⟨by omega, by omega⟩ dL_law_1654) hS (fun H locs hH hS => ?_)
  refine lv_istore (lv' := [(6, .int r1025), (0, .ref b), (1, .ref (YA Y 0 0)), (2, .ref (YA Y 20 0)), (3, .ref (YA Y 33 0)), (4, .ref (YA Y 36 0)), (5, .int a5)]) hx hb dL_law_1657 hl (by decide) rfl (fun ls hl => ?_)
  refine lv_aload_n hx hb dL_law_1659 rfl (lv_at hl 3 rfl) ?_
  refine lv_aload_n hx hb dL_law_1660 rfl (lv_at hl 1 rfl) ?_
  refine lv_iload hx hb dL_law_1661 (lv_at hl 6 rfl) ?_
  refine lv_iconst (v := (1 : Int32)) hx hb dL_law_1663 (by decide) ?_
  refine lv_iadd hx hb dL_law_1664 ?_
  refine hl_sld hx hb hX (Nat.lt_of_lt_of_le hbl hZ) (Nat.not_le.mpr hbl) hS hg1022 dL_law_1665 ?_
  obtain ⟨r1028, M1027, hq1026, hf⟩ := bd2_o hf
  refine hs_ci (hs_runV C0 hH hS (n := 1) (As := [.int (xs (ix (a5 + (1 : Int32))))]) (rest := []) (c_X8_arrivalOf M1024 (xs (ix (a5 + (1 : Int32)))) hq1026) ⟨⟨zt_1869, zt_1870, zt_1871, zt_13, zt_1872⟩, rfl, by decide, by decide, by decide +kernel⟩ ⟨rfl, rfl, Nat.le_of_ble_eq_true rfl, Nat.le_of_ble_eq_true rfl⟩ (hs_recv hK hH 20 0 (by decide) 12 rfl rfl) rfl rfl hl.1 (Nat.le_of_ble_eq_true rfl) ⟨by omega, by omega⟩ dL_law_1666) hS (fun H locs hH hS => ?_)
  refine lv_istore (lv' := [(7, .int r1028), (6, .int r1025), (0, .ref b), (1, .ref (YA Y 0 0)), (2, .ref (YA Y 20 0)), (3, .ref (YA Y 33 0)), (4, .ref (YA Y 36 0)), (5, .int a5)]) hx hb dL_law_1669 hl (by decide) rfl (fun ls hl => ?_)
  refine lv_aload_n hx hb dL_law_1671 rfl (lv_at hl 4 rfl) ?_
  obtain ⟨r1030, hq1029, hf⟩ := bd_o hf
  refine hs_ci (hs_runV C0 hH hS (n := 0) (As := []) (rest := []) (c_X8_thrown M1027 hq1029) ⟨⟨zt_1621, zt_1622, zt_1623, zt_13, zt_1624⟩, rfl, by decide, by decide, by decide +kernel⟩ ⟨rfl, rfl, Nat.le_of_ble_eq_true rfl, Nat.le_of_ble_eq_true rfl⟩ (hs_recv hK hH 20 0 (by decide) 12 rfl rfl) rfl rfl hl.1 (Nat.le_of_ble_eq_true rfl) ⟨by omega, by omega⟩ dL_law_1672) hS (fun H locs hH hS => ?_)
  refine lv_iload hx hb dL_law_1675 (lv_at hl 1 rfl) ?_
  refine lv_icmp_eq (tgt := 1682) hx hb dL_law_1677 (by decide) (fun hc1033 => ?_) (fun hc1033 => ?_)
  · have hf := if_t hf hc1033
    refine lv_iload hx hb dL_law_1682 (lv_at hl 1 rfl) ?_
    refine lv_if_ne (tgt := 1699) hx hb dL_law_1684 (by decide) (fun hc1032 => ?_) (fun hc1032 => ?_)
    · have hf := if_f hf hc1032
      refine lv_goto (tgt := 3289) hx hb dL_law_1699 (by decide) ?_
      refine W.widen (k := C + 14) (n := S + 1696) (by omega) (by omega) ?_
      exact w_L_law_3289 C0 hl9 xs L hX hbl C S hC9 hS9 k28 hk28 M1027 a5 hf _ _ _ hH hS (lv_sub hl [2, 3, 4, 5, 6, 7] rfl)
    · have hf := if_t hf hc1032
      refine lv_aload_n hx hb dL_law_1687 rfl (lv_at hl 5 rfl) ?_
      refine lv_iconst (v := (0 : Int32)) hx hb dL_law_1688 (by decide) ?_
      refine hl_laload hx hb hK hH dL_law_1689 ?_
      refine lv_iload hx hb dL_law_1690 (lv_at hl 0 rfl) ?_
      refine lv_i2l (v := r1028.toInt64) hx hb dL_law_1692 rfl ?_
      refine W.lcmp hx hb dL_law_1693 ?_
      refine lv_if_eq (tgt := 1699) hx hb dL_law_1694 (by decide) (fun hc1031 => ?_) (fun hc1031 => ?_)
      · have hf := if_t hf hc1031
        refine lv_goto (tgt := 3289) hx hb dL_law_1699 (by decide) ?_
        refine W.widen (k := C + 14) (n := S + 1696) (by omega) (by omega) ?_
        exact w_L_law_3289 C0 hl9 xs L hX hbl C S hC9 hS9 k28 hk28 M1027 a5 hf _ _ _ hH hS (lv_sub hl [2, 3, 4, 5, 6, 7] rfl)
      · have hf := if_f hf hc1031
        refine lv_iconst (v := (0 : Int32)) hx hb dL_law_1697 (by decide) ?_
        cases hf
  · have hf := if_f hf hc1033
    refine lv_iconst (v := (0 : Int32)) hx hb dL_law_1680 (by decide) ?_
    cases hf
def f_L_law_1702 (xs : Nat → Int32) (L : Nat) (k28 : Mem → Int32 → Option Unit) (M : Mem) (a5 : Int32) : Option Unit := if vin (a5 + (1 : Int32)) L then (bd2 (f_L_destinationOf M (xs (ix (a5 + (1 : Int32))))) fun r1037 M1036 => bd2 (f_X8_destinationOf M1036 (xs (ix (a5 + (1 : Int32))))) fun r1040 M1039 => bd (f_X8_thrown M1039) fun r1042 => (if r1042 = r1037 then (if r1037 = 0 then (if (lg_cmp ((M1039 33 0 0).toInt64) r1040.toInt64) = 0 then f_L_law_3289 xs L k28 M1039 a5 else none) else f_L_law_3289 xs L k28 M1039 a5) else none)) else none
set_option maxHeartbeats 8000000 in
set_option maxRecDepth 100000 in
theorem w_L_law_1702 {Y : LY} {p : Program} {l : Launch} {e : Env} {s : State} {m : MethodId} {b : Nat} {below : List Frame} {meth : Method} {c : Code} (C0 : BE Y p s m #[Value.ref b] meth c cL_law 9 ret RL) (hl9 : l.stackTraces = false) (xs : Nat → Int32) (L : Nat) (hX : va_X b L xs s s.heap) (hbl : b < YZ Y) (C S : Nat) (hC9 : C + 60 ≤ 603072) (hS9 : S + 8000 ≤ 7182442) (k28 : Mem → Int32 → Option Unit) (hk28 : ∀ (M : Mem) (a5 : Int32), k28 M a5 = some () → ∀ (H : Heap) (locs : List Loc) (ls : Array Slot), HS Y M H → va_S (AZ Y) s.heap H locs → lv_has ls 9 [(0, .ref b), (1, .ref (YA Y 0 0)), (2, .ref (YA Y 20 0)), (3, .ref (YA Y 33 0)), (4, .ref (YA Y 36 0)), (5, .int a5)] → W p l e room_1 s m #[Value.ref b] below meth c H locs (C + 60) (S + 8000) (lw_Z below #[Value.ref b] s) (F0 m 28 ls [])) : ∀ (M : Mem) (a5 : Int32), f_L_law_1702 xs L k28 M a5 = some () → ∀ (H : Heap) (locs : List Loc) (ls : Array Slot), HS Y M H → va_S (AZ Y) s.heap H locs → lv_has ls 9 [(0, .ref b), (1, .ref (YA Y 0 0)), (2, .ref (YA Y 20 0)), (3, .ref (YA Y 33 0)), (4, .ref (YA Y 36 0)), (5, .int a5)] → W p l e room_1 s m #[Value.ref b] below meth c H locs (C + 0) (S + 0) (lw_Z below #[Value.ref b] s) (F0 m 1702 ls []) := by
  obtain ⟨hx, hb, hr, hml, hown, hA, hlocks, hK, hZ⟩ := id C0
  have hR1 : room_1.cells = 603072 := rfl
  have hR2 : room_1.slots = 7182442 := rfl
  intro M a5 hf H locs ls hH hS hl
  unfold f_L_law_1702 at hf
  refine lv_aload_n hx hb dL_law_1702 rfl (lv_at hl 1 rfl) ?_
  refine lv_aload_n hx hb dL_law_1703 rfl (lv_at hl 0 rfl) ?_
  refine lv_iload hx hb dL_law_1704 (lv_at hl 5 rfl) ?_
  refine lv_iconst (v := (1 : Int32)) hx hb dL_law_1706 (by decide) ?_
  refine lv_iadd hx hb dL_law_1707 ?_
  obtain ⟨hg1034, hf⟩ := gd_o hf
  refine hl_sld hx hb hX (Nat.lt_of_lt_of_le hbl hZ) (Nat.not_le.mpr hbl) hS hg1034 dL_law_1708 ?_
  refine lv_aload_n hx hb dL_law_1709 rfl (lv_at hl 3 rfl) ?_
  obtain ⟨r1037, M1036, hq1035, hf⟩ := bd2_o hf
  refine hs_ci (hs_runSX C0 hH hS (n := 3) (As := [.ref (YA Y 0 0), .int (xs (ix (a5 + (1 : Int32)))), .ref (YA Y 33 0)]) (rest := []) (c_L_destinationOf hl9 M (xs (ix (a5 + (1 : Int32)))) hq1035) ⟨⟨zt_907, zt_908, zt_0, zt_909⟩, by decide, by decide, by decide +kernel⟩ ⟨rfl, rfl, Nat.le_of_ble_eq_true rfl, Nat.le_of_ble_eq_true rfl⟩ rfl rfl hl.1 (Nat.le_of_ble_eq_true rfl) ⟨by omega, by omega⟩ dL_law_1710) hS (fun H locs hH hS => ?_)
  refine lv_istore (lv' := [(6, .int r1037), (0, .ref b), (1, .ref (YA Y 0 0)), (2, .ref (YA Y 20 0)), (3, .ref (YA Y 33 0)), (4, .ref (YA Y 36 0)), (5, .int a5)]) hx hb dL_law_1713 hl (by decide) rfl (fun ls hl => ?_)
  refine lv_aload_n hx hb dL_law_1715 rfl (lv_at hl 3 rfl) ?_
  refine lv_aload_n hx hb dL_law_1716 rfl (lv_at hl 1 rfl) ?_
  refine lv_iload hx hb dL_law_1717 (lv_at hl 6 rfl) ?_
  refine lv_iconst (v := (1 : Int32)) hx hb dL_law_1719 (by decide) ?_
  refine lv_iadd hx hb dL_law_1720 ?_
  refine hl_sld hx hb hX (Nat.lt_of_lt_of_le hbl hZ) (Nat.not_le.mpr hbl) hS hg1034 dL_law_1721 ?_
  obtain ⟨r1040, M1039, hq1038, hf⟩ := bd2_o hf
  refine hs_ci (hs_runV C0 hH hS (n := 1) (As := [.int (xs (ix (a5 + (1 : Int32))))]) (rest := []) (c_X8_destinationOf M1036 (xs (ix (a5 + (1 : Int32)))) hq1038) ⟨⟨zt_1873, zt_1874, zt_1875, zt_13, zt_1876⟩, rfl, by decide, by decide, by decide +kernel⟩ ⟨rfl, rfl, Nat.le_of_ble_eq_true rfl, Nat.le_of_ble_eq_true rfl⟩ (hs_recv hK hH 20 0 (by decide) 12 rfl rfl) rfl rfl hl.1 (Nat.le_of_ble_eq_true rfl) ⟨by omega, by omega⟩ dL_law_1722) hS (fun H locs hH hS => ?_)
  refine lv_istore (lv' := [(7, .int r1040), (6, .int r1037), (0, .ref b), (1, .ref (YA Y 0 0)), (2, .ref (YA Y 20 0)), (3, .ref (YA Y 33 0)), (4, .ref (YA Y 36 0)), (5, .int a5)]) hx hb dL_law_1725 hl (by decide) rfl (fun ls hl => ?_)
  refine lv_aload_n hx hb dL_law_1727 rfl (lv_at hl 4 rfl) ?_
  obtain ⟨r1042, hq1041, hf⟩ := bd_o hf
  refine hs_ci (hs_runV C0 hH hS (n := 0) (As := []) (rest := []) (c_X8_thrown M1039 hq1041) ⟨⟨zt_1621, zt_1622, zt_1623, zt_13, zt_1624⟩, rfl, by decide, by decide, by decide +kernel⟩ ⟨rfl, rfl, Nat.le_of_ble_eq_true rfl, Nat.le_of_ble_eq_true rfl⟩ (hs_recv hK hH 20 0 (by decide) 12 rfl rfl) rfl rfl hl.1 (Nat.le_of_ble_eq_true rfl) ⟨by omega, by omega⟩ dL_law_1728) hS (fun H locs hH hS => ?_)
  refine lv_iload hx hb dL_law_1731 (lv_at hl 1 rfl) ?_
  refine lv_icmp_eq (tgt := 1738) hx hb dL_law_1733 (by decide) (fun hc1045 => ?_) (fun hc1045 => ?_)
  · have hf := if_t hf hc1045
    refine lv_iload hx hb dL_law_1738 (lv_at hl 1 rfl) ?_
    refine lv_if_ne (tgt := 1755) hx hb dL_law_1740 (by decide) (fun hc1044 => ?_) (fun hc1044 => ?_)
    · have hf := if_f hf hc1044
      refine lv_goto (tgt := 3289) hx hb dL_law_1755 (by decide) ?_
      refine W.widen (k := C + 14) (n := S + 1696) (by omega) (by omega) ?_
      exact w_L_law_3289 C0 hl9 xs L hX hbl C S hC9 hS9 k28 hk28 M1039 a5 hf _ _ _ hH hS (lv_sub hl [2, 3, 4, 5, 6, 7] rfl)
    · have hf := if_t hf hc1044
      refine lv_aload_n hx hb dL_law_1743 rfl (lv_at hl 5 rfl) ?_
      refine lv_iconst (v := (0 : Int32)) hx hb dL_law_1744 (by decide) ?_
      refine hl_laload hx hb hK hH dL_law_1745 ?_
      refine lv_iload hx hb dL_law_1746 (lv_at hl 0 rfl) ?_
      refine lv_i2l (v := r1040.toInt64) hx hb dL_law_1748 rfl ?_
      refine W.lcmp hx hb dL_law_1749 ?_
      refine lv_if_eq (tgt := 1755) hx hb dL_law_1750 (by decide) (fun hc1043 => ?_) (fun hc1043 => ?_)
      · have hf := if_t hf hc1043
        refine lv_goto (tgt := 3289) hx hb dL_law_1755 (by decide) ?_
        refine W.widen (k := C + 14) (n := S + 1696) (by omega) (by omega) ?_
        exact w_L_law_3289 C0 hl9 xs L hX hbl C S hC9 hS9 k28 hk28 M1039 a5 hf _ _ _ hH hS (lv_sub hl [2, 3, 4, 5, 6, 7] rfl)
      · have hf := if_f hf hc1043
        refine lv_iconst (v := (0 : Int32)) hx hb dL_law_1753 (by decide) ?_
        cases hf
  · have hf := if_f hf hc1045
    refine lv_iconst (v := (0 : Int32)) hx hb dL_law_1736 (by decide) ?_
    cases hf
def f_L_law_1758 (xs : Nat → Int32) (L : Nat) (k28 : Mem → Int32 → Option Unit) (M : Mem) (a5 : Int32) : Option Unit := if vin (a5 + (1 : Int32)) L then (bd2 (f_L_weightOf M (xs (ix (a5 + (1 : Int32))))) fun r1049 M1048 => bd2 (f_X8_weightOf M1048 (xs (ix (a5 + (1 : Int32))))) fun r1052 M1051 => bd (f_X8_thrown M1051) fun r1054 => (if r1054 = r1049 then (if r1049 = 0 then (if (lg_cmp ((M1051 33 0 0).toInt64) r1052.toInt64) = 0 then f_L_law_3289 xs L k28 M1051 a5 else none) else f_L_law_3289 xs L k28 M1051 a5) else none)) else none
set_option maxHeartbeats 8000000 in
set_option maxRecDepth 100000 in
theorem w_L_law_1758 {Y : LY} {p : Program} {l : Launch} {e : Env} {s : State} {m : MethodId} {b : Nat} {below : List Frame} {meth : Method} {c : Code} (C0 : BE Y p s m #[Value.ref b] meth c cL_law 9 ret RL) (hl9 : l.stackTraces = false) (xs : Nat → Int32) (L : Nat) (hX : va_X b L xs s s.heap) (hbl : b < YZ Y) (C S : Nat) (hC9 : C + 60 ≤ 603072) (hS9 : S + 8000 ≤ 7182442) (k28 : Mem → Int32 → Option Unit) (hk28 : ∀ (M : Mem) (a5 : Int32), k28 M a5 = some () → ∀ (H : Heap) (locs : List Loc) (ls : Array Slot), HS Y M H → va_S (AZ Y) s.heap H locs → lv_has ls 9 [(0, .ref b), (1, .ref (YA Y 0 0)), (2, .ref (YA Y 20 0)), (3, .ref (YA Y 33 0)), (4, .ref (YA Y 36 0)), (5, .int a5)] → W p l e room_1 s m #[Value.ref b] below meth c H locs (C + 60) (S + 8000) (lw_Z below #[Value.ref b] s) (F0 m 28 ls [])) : ∀ (M : Mem) (a5 : Int32), f_L_law_1758 xs L k28 M a5 = some () → ∀ (H : Heap) (locs : List Loc) (ls : Array Slot), HS Y M H → va_S (AZ Y) s.heap H locs → lv_has ls 9 [(0, .ref b), (1, .ref (YA Y 0 0)), (2, .ref (YA Y 20 0)), (3, .ref (YA Y 33 0)), (4, .ref (YA Y 36 0)), (5, .int a5)] → W p l e room_1 s m #[Value.ref b] below meth c H locs (C + 0) (S + 0) (lw_Z below #[Value.ref b] s) (F0 m 1758 ls []) := by
  obtain ⟨hx, hb, hr, hml, hown, hA, hlocks, hK, hZ⟩ := id C0
  have hR1 : room_1.cells = 603072 := rfl
  have hR2 : room_1.slots = 7182442 := rfl
  intro M a5 hf H locs ls hH hS hl
  unfold f_L_law_1758 at hf
  refine lv_aload_n hx hb dL_law_1758 rfl (lv_at hl 1 rfl) ?_
  refine lv_aload_n hx hb dL_law_1759 rfl (lv_at hl 0 rfl) ?_
  refine lv_iload hx hb dL_law_1760 (lv_at hl 5 rfl) ?_
  refine lv_iconst (v := (1 : Int32)) hx hb dL_law_1762 (by decide) ?_
  refine lv_iadd hx hb dL_law_1763 ?_
  obtain ⟨hg1046, hf⟩ := gd_o hf
  refine hl_sld hx hb hX (Nat.lt_of_lt_of_le hbl hZ) (Nat.not_le.mpr hbl) hS hg1046 dL_law_1764 ?_
  refine lv_aload_n hx hb dL_law_1765 rfl (lv_at hl 3 rfl) ?_
  obtain ⟨r1049, M1048, hq1047, hf⟩ := bd2_o hf
  refine hs_ci (hs_runSX C0 hH hS (n := 3) (As := [.ref (YA Y 0 0), .int (xs (ix (a5 + (1 : Int32)))), .ref (YA Y 33 0)]) (rest := []) (c_L_weightOf hl9 M (xs (ix (a5 + (1 : Int32)))) hq1047) ⟨⟨zt_914, zt_915, zt_0, zt_916⟩, by decide, by decide, by decide +kernel⟩ ⟨rfl, rfl, Nat.le_of_ble_eq_true rfl, Nat.le_of_ble_eq_true rfl⟩ rfl rfl hl.1 (Nat.le_of_ble_eq_true rfl) ⟨by omega, by omega⟩ dL_law_1766) hS (fun H locs hH hS => ?_)
  refine lv_istore (lv' := [(6, .int r1049), (0, .ref b), (1, .ref (YA Y 0 0)), (2, .ref (YA Y 20 0)), (3, .ref (YA Y 33 0)), (4, .ref (YA Y 36 0)), (5, .int a5)]) hx hb dL_law_1769 hl (by decide) rfl (fun ls hl => ?_)
  refine lv_aload_n hx hb dL_law_1771 rfl (lv_at hl 3 rfl) ?_
  refine lv_aload_n hx hb dL_law_1772 rfl (lv_at hl 1 rfl) ?_
  refine lv_iload hx hb dL_law_1773 (lv_at hl 6 rfl) ?_
  refine lv_iconst (v := (1 : Int32)) hx hb dL_law_1775 (by decide) ?_
  refine lv_iadd hx hb dL_law_1776 ?_
  refine hl_sld hx hb hX (Nat.lt_of_lt_of_le hbl hZ) (Nat.not_le.mpr hbl) hS hg1046 dL_law_1777 ?_
  obtain ⟨r1052, M1051, hq1050, hf⟩ := bd2_o hf
  refine hs_ci (hs_runV C0 hH hS (n := 1) (As := [.int (xs (ix (a5 + (1 : Int32))))]) (rest := []) (c_X8_weightOf M1048 (xs (ix (a5 + (1 : Int32)))) hq1050) ⟨⟨zt_1877, zt_1878, zt_1879, zt_13, zt_1880⟩, rfl, by decide, by decide, by decide +kernel⟩ ⟨rfl, rfl, Nat.le_of_ble_eq_true rfl, Nat.le_of_ble_eq_true rfl⟩ (hs_recv hK hH 20 0 (by decide) 12 rfl rfl) rfl rfl hl.1 (Nat.le_of_ble_eq_true rfl) ⟨by omega, by omega⟩ dL_law_1778) hS (fun H locs hH hS => ?_)
  refine lv_istore (lv' := [(7, .int r1052), (6, .int r1049), (0, .ref b), (1, .ref (YA Y 0 0)), (2, .ref (YA Y 20 0)), (3, .ref (YA Y 33 0)), (4, .ref (YA Y 36 0)), (5, .int a5)]) hx hb dL_law_1781 hl (by decide) rfl (fun ls hl => ?_)
  refine lv_aload_n hx hb dL_law_1783 rfl (lv_at hl 4 rfl) ?_
  obtain ⟨r1054, hq1053, hf⟩ := bd_o hf
  refine hs_ci (hs_runV C0 hH hS (n := 0) (As := []) (rest := []) (c_X8_thrown M1051 hq1053) ⟨⟨zt_1621, zt_1622, zt_1623, zt_13, zt_1624⟩, rfl, by decide, by decide, by decide +kernel⟩ ⟨rfl, rfl, Nat.le_of_ble_eq_true rfl, Nat.le_of_ble_eq_true rfl⟩ (hs_recv hK hH 20 0 (by decide) 12 rfl rfl) rfl rfl hl.1 (Nat.le_of_ble_eq_true rfl) ⟨by omega, by omega⟩ dL_law_1784) hS (fun H locs hH hS => ?_)
  refine lv_iload hx hb dL_law_1787 (lv_at hl 1 rfl) ?_
  refine lv_icmp_eq (tgt := 1794) hx hb dL_law_1789 (by decide) (fun hc1057 => ?_) (fun hc1057 => ?_)
  · have hf := if_t hf hc1057
    refine lv_iload hx hb dL_law_1794 (lv_at hl 1 rfl) ?_
    refine lv_if_ne (tgt := 1811) hx hb dL_law_1796 (by decide) (fun hc1056 => ?_) (fun hc1056 => ?_)
    · have hf := if_f hf hc1056
      refine lv_goto (tgt := 3289) hx hb dL_law_1811 (by decide) ?_
      refine W.widen (k := C + 14) (n := S + 1696) (by omega) (by omega) ?_
      exact w_L_law_3289 C0 hl9 xs L hX hbl C S hC9 hS9 k28 hk28 M1051 a5 hf _ _ _ hH hS (lv_sub hl [2, 3, 4, 5, 6, 7] rfl)
    · have hf := if_t hf hc1056
      refine lv_aload_n hx hb dL_law_1799 rfl (lv_at hl 5 rfl) ?_
      refine lv_iconst (v := (0 : Int32)) hx hb dL_law_1800 (by decide) ?_
      refine hl_laload hx hb hK hH dL_law_1801 ?_
      refine lv_iload hx hb dL_law_1802 (lv_at hl 0 rfl) ?_
      refine lv_i2l (v := r1052.toInt64) hx hb dL_law_1804 rfl ?_
      refine W.lcmp hx hb dL_law_1805 ?_
      refine lv_if_eq (tgt := 1811) hx hb dL_law_1806 (by decide) (fun hc1055 => ?_) (fun hc1055 => ?_)
      · have hf := if_t hf hc1055
        refine lv_goto (tgt := 3289) hx hb dL_law_1811 (by decide) ?_
        refine W.widen (k := C + 14) (n := S + 1696) (by omega) (by omega) ?_
        exact w_L_law_3289 C0 hl9 xs L hX hbl C S hC9 hS9 k28 hk28 M1051 a5 hf _ _ _ hH hS (lv_sub hl [2, 3, 4, 5, 6, 7] rfl)
      · have hf := if_f hf hc1055
        refine lv_iconst (v := (0 : Int32)) hx hb dL_law_1809 (by decide) ?_
        cases hf
  · have hf := if_f hf hc1057
    refine lv_iconst (v := (0 : Int32)) hx hb dL_law_1792 (by decide) ?_
    cases hf
def f_L_law_1814 (xs : Nat → Int32) (L : Nat) (k28 : Mem → Int32 → Option Unit) (M : Mem) (a5 : Int32) : Option Unit := if vin (a5 + (1 : Int32)) L then (bd2 (f_L_stampsOf M (xs (ix (a5 + (1 : Int32))))) fun r1061 M1060 => bd2 (f_X8_stampsOf M1060 (xs (ix (a5 + (1 : Int32))))) fun r1064 M1063 => bd (f_X8_thrown M1063) fun r1066 => (if r1066 = r1061 then (if r1061 = 0 then (if (lg_cmp ((M1063 33 0 0).toInt64) r1064.toInt64) = 0 then f_L_law_3289 xs L k28 M1063 a5 else none) else f_L_law_3289 xs L k28 M1063 a5) else none)) else none
set_option maxHeartbeats 8000000 in
set_option maxRecDepth 100000 in
theorem w_L_law_1814 {Y : LY} {p : Program} {l : Launch} {e : Env} {s : State} {m : MethodId} {b : Nat} {below : List Frame} {meth : Method} {c : Code} (C0 : BE Y p s m #[Value.ref b] meth c cL_law 9 ret RL) (hl9 : l.stackTraces = false) (xs : Nat → Int32) (L : Nat) (hX : va_X b L xs s s.heap) (hbl : b < YZ Y) (C S : Nat) (hC9 : C + 60 ≤ 603072) (hS9 : S + 8000 ≤ 7182442) (k28 : Mem → Int32 → Option Unit) (hk28 : ∀ (M : Mem) (a5 : Int32), k28 M a5 = some () → ∀ (H : Heap) (locs : List Loc) (ls : Array Slot), HS Y M H → va_S (AZ Y) s.heap H locs → lv_has ls 9 [(0, .ref b), (1, .ref (YA Y 0 0)), (2, .ref (YA Y 20 0)), (3, .ref (YA Y 33 0)), (4, .ref (YA Y 36 0)), (5, .int a5)] → W p l e room_1 s m #[Value.ref b] below meth c H locs (C + 60) (S + 8000) (lw_Z below #[Value.ref b] s) (F0 m 28 ls [])) : ∀ (M : Mem) (a5 : Int32), f_L_law_1814 xs L k28 M a5 = some () → ∀ (H : Heap) (locs : List Loc) (ls : Array Slot), HS Y M H → va_S (AZ Y) s.heap H locs → lv_has ls 9 [(0, .ref b), (1, .ref (YA Y 0 0)), (2, .ref (YA Y 20 0)), (3, .ref (YA Y 33 0)), (4, .ref (YA Y 36 0)), (5, .int a5)] → W p l e room_1 s m #[Value.ref b] below meth c H locs (C + 0) (S + 0) (lw_Z below #[Value.ref b] s) (F0 m 1814 ls []) := by
  obtain ⟨hx, hb, hr, hml, hown, hA, hlocks, hK, hZ⟩ := id C0
  have hR1 : room_1.cells = 603072 := rfl
  have hR2 : room_1.slots = 7182442 := rfl
  intro M a5 hf H locs ls hH hS hl
  unfold f_L_law_1814 at hf
  refine lv_aload_n hx hb dL_law_1814 rfl (lv_at hl 1 rfl) ?_
  refine lv_aload_n hx hb dL_law_1815 rfl (lv_at hl 0 rfl) ?_
  refine lv_iload hx hb dL_law_1816 (lv_at hl 5 rfl) ?_
  refine lv_iconst (v := (1 : Int32)) hx hb dL_law_1818 (by decide) ?_
  refine lv_iadd hx hb dL_law_1819 ?_
  obtain ⟨hg1058, hf⟩ := gd_o hf
  refine hl_sld hx hb hX (Nat.lt_of_lt_of_le hbl hZ) (Nat.not_le.mpr hbl) hS hg1058 dL_law_1820 ?_
  refine lv_aload_n hx hb dL_law_1821 rfl (lv_at hl 3 rfl) ?_
  obtain ⟨r1061, M1060, hq1059, hf⟩ := bd2_o hf
  refine hs_ci (hs_runSX C0 hH hS (n := 3) (As := [.ref (YA Y 0 0), .int (xs (ix (a5 + (1 : Int32)))), .ref (YA Y 33 0)]) (rest := []) (c_L_stampsOf hl9 M (xs (ix (a5 + (1 : Int32)))) hq1059) ⟨⟨zt_921, zt_922, zt_0, zt_923⟩, by decide, by decide, by decide +kernel⟩ ⟨rfl, rfl, Nat.le_of_ble_eq_true rfl, Nat.le_of_ble_eq_true rfl⟩ rfl rfl hl.1 (Nat.le_of_ble_eq_true rfl) ⟨by omega, by omega⟩ dL_law_1822) hS (fun H locs hH hS => ?_)
  refine lv_istore (lv' := [(6, .int r1061), (0, .ref b), (1, .ref (YA Y 0 0)), (2, .ref (YA Y 20 0)), (3, .ref (YA Y 33 0)), (4, .ref (YA Y 36 0)), (5, .int a5)]) hx hb dL_law_1825 hl (by decide) rfl (fun ls hl => ?_)
  refine lv_aload_n hx hb dL_law_1827 rfl (lv_at hl 3 rfl) ?_
  refine lv_aload_n hx hb dL_law_1828 rfl (lv_at hl 1 rfl) ?_
  refine lv_iload hx hb dL_law_1829 (lv_at hl 6 rfl) ?_
  refine lv_iconst (v := (1 : Int32)) hx hb dL_law_1831 (by decide) ?_
  refine lv_iadd hx hb dL_law_1832 ?_
  refine hl_sld hx hb hX (Nat.lt_of_lt_of_le hbl hZ) (Nat.not_le.mpr hbl) hS hg1058 dL_law_1833 ?_
  obtain ⟨r1064, M1063, hq1062, hf⟩ := bd2_o hf
  refine hs_ci (hs_runV C0 hH hS (n := 1) (As := [.int (xs (ix (a5 + (1 : Int32))))]) (rest := []) (c_X8_stampsOf M1060 (xs (ix (a5 + (1 : Int32)))) hq1062) ⟨⟨zt_1881, zt_1882, zt_1883, zt_13, zt_1884⟩, rfl, by decide, by decide, by decide +kernel⟩ ⟨rfl, rfl, Nat.le_of_ble_eq_true rfl, Nat.le_of_ble_eq_true rfl⟩ (hs_recv hK hH 20 0 (by decide) 12 rfl rfl) rfl rfl hl.1 (Nat.le_of_ble_eq_true rfl) ⟨by omega, by omega⟩ dL_law_1834) hS (fun H locs hH hS => ?_)
  refine lv_istore (lv' := [(7, .int r1064), (6, .int r1061), (0, .ref b), (1, .ref (YA Y 0 0)), (2, .ref (YA Y 20 0)), (3, .ref (YA Y 33 0)), (4, .ref (YA Y 36 0)), (5, .int a5)]) hx hb dL_law_1837 hl (by decide) rfl (fun ls hl => ?_)
  refine lv_aload_n hx hb dL_law_1839 rfl (lv_at hl 4 rfl) ?_
  obtain ⟨r1066, hq1065, hf⟩ := bd_o hf
  refine hs_ci (hs_runV C0 hH hS (n := 0) (As := []) (rest := []) (c_X8_thrown M1063 hq1065) ⟨⟨zt_1621, zt_1622, zt_1623, zt_13, zt_1624⟩, rfl, by decide, by decide, by decide +kernel⟩ ⟨rfl, rfl, Nat.le_of_ble_eq_true rfl, Nat.le_of_ble_eq_true rfl⟩ (hs_recv hK hH 20 0 (by decide) 12 rfl rfl) rfl rfl hl.1 (Nat.le_of_ble_eq_true rfl) ⟨by omega, by omega⟩ dL_law_1840) hS (fun H locs hH hS => ?_)
  refine lv_iload hx hb dL_law_1843 (lv_at hl 1 rfl) ?_
  refine lv_icmp_eq (tgt := 1850) hx hb dL_law_1845 (by decide) (fun hc1069 => ?_) (fun hc1069 => ?_)
  · have hf := if_t hf hc1069
    refine lv_iload hx hb dL_law_1850 (lv_at hl 1 rfl) ?_
    refine lv_if_ne (tgt := 1867) hx hb dL_law_1852 (by decide) (fun hc1068 => ?_) (fun hc1068 => ?_)
    · have hf := if_f hf hc1068
      refine lv_goto (tgt := 3289) hx hb dL_law_1867 (by decide) ?_
      refine W.widen (k := C + 14) (n := S + 1696) (by omega) (by omega) ?_
      exact w_L_law_3289 C0 hl9 xs L hX hbl C S hC9 hS9 k28 hk28 M1063 a5 hf _ _ _ hH hS (lv_sub hl [2, 3, 4, 5, 6, 7] rfl)
    · have hf := if_t hf hc1068
      refine lv_aload_n hx hb dL_law_1855 rfl (lv_at hl 5 rfl) ?_
      refine lv_iconst (v := (0 : Int32)) hx hb dL_law_1856 (by decide) ?_
      refine hl_laload hx hb hK hH dL_law_1857 ?_
      refine lv_iload hx hb dL_law_1858 (lv_at hl 0 rfl) ?_
      refine lv_i2l (v := r1064.toInt64) hx hb dL_law_1860 rfl ?_
      refine W.lcmp hx hb dL_law_1861 ?_
      refine lv_if_eq (tgt := 1867) hx hb dL_law_1862 (by decide) (fun hc1067 => ?_) (fun hc1067 => ?_)
      · have hf := if_t hf hc1067
        refine lv_goto (tgt := 3289) hx hb dL_law_1867 (by decide) ?_
        refine W.widen (k := C + 14) (n := S + 1696) (by omega) (by omega) ?_
        exact w_L_law_3289 C0 hl9 xs L hX hbl C S hC9 hS9 k28 hk28 M1063 a5 hf _ _ _ hH hS (lv_sub hl [2, 3, 4, 5, 6, 7] rfl)
      · have hf := if_f hf hc1067
        refine lv_iconst (v := (0 : Int32)) hx hb dL_law_1865 (by decide) ?_
        cases hf
  · have hf := if_f hf hc1069
    refine lv_iconst (v := (0 : Int32)) hx hb dL_law_1848 (by decide) ?_
    cases hf
def f_L_law_1870 (xs : Nat → Int32) (L : Nat) (k28 : Mem → Int32 → Option Unit) (M : Mem) (a5 : Int32) : Option Unit := if vin (a5 + (1 : Int32)) L then (bd2 (f_L_waitingIn M (xs (ix (a5 + (1 : Int32))))) fun r1073 M1072 => bd2 (f_X8_waitingIn M1072 (xs (ix (a5 + (1 : Int32))))) fun r1076 M1075 => bd (f_X8_thrown M1075) fun r1078 => (if r1078 = r1073 then (if r1073 = 0 then (if (lg_cmp ((M1075 33 0 0).toInt64) r1076.toInt64) = 0 then f_L_law_3289 xs L k28 M1075 a5 else none) else f_L_law_3289 xs L k28 M1075 a5) else none)) else none
set_option maxHeartbeats 8000000 in
set_option maxRecDepth 100000 in
theorem w_L_law_1870 {Y : LY} {p : Program} {l : Launch} {e : Env} {s : State} {m : MethodId} {b : Nat} {below : List Frame} {meth : Method} {c : Code} (C0 : BE Y p s m #[Value.ref b] meth c cL_law 9 ret RL) (hl9 : l.stackTraces = false) (xs : Nat → Int32) (L : Nat) (hX : va_X b L xs s s.heap) (hbl : b < YZ Y) (C S : Nat) (hC9 : C + 60 ≤ 603072) (hS9 : S + 8000 ≤ 7182442) (k28 : Mem → Int32 → Option Unit) (hk28 : ∀ (M : Mem) (a5 : Int32), k28 M a5 = some () → ∀ (H : Heap) (locs : List Loc) (ls : Array Slot), HS Y M H → va_S (AZ Y) s.heap H locs → lv_has ls 9 [(0, .ref b), (1, .ref (YA Y 0 0)), (2, .ref (YA Y 20 0)), (3, .ref (YA Y 33 0)), (4, .ref (YA Y 36 0)), (5, .int a5)] → W p l e room_1 s m #[Value.ref b] below meth c H locs (C + 60) (S + 8000) (lw_Z below #[Value.ref b] s) (F0 m 28 ls [])) : ∀ (M : Mem) (a5 : Int32), f_L_law_1870 xs L k28 M a5 = some () → ∀ (H : Heap) (locs : List Loc) (ls : Array Slot), HS Y M H → va_S (AZ Y) s.heap H locs → lv_has ls 9 [(0, .ref b), (1, .ref (YA Y 0 0)), (2, .ref (YA Y 20 0)), (3, .ref (YA Y 33 0)), (4, .ref (YA Y 36 0)), (5, .int a5)] → W p l e room_1 s m #[Value.ref b] below meth c H locs (C + 0) (S + 0) (lw_Z below #[Value.ref b] s) (F0 m 1870 ls []) := by
  obtain ⟨hx, hb, hr, hml, hown, hA, hlocks, hK, hZ⟩ := id C0
  have hR1 : room_1.cells = 603072 := rfl
  have hR2 : room_1.slots = 7182442 := rfl
  intro M a5 hf H locs ls hH hS hl
  unfold f_L_law_1870 at hf
  refine lv_aload_n hx hb dL_law_1870 rfl (lv_at hl 1 rfl) ?_
  refine lv_aload_n hx hb dL_law_1871 rfl (lv_at hl 0 rfl) ?_
  refine lv_iload hx hb dL_law_1872 (lv_at hl 5 rfl) ?_
  refine lv_iconst (v := (1 : Int32)) hx hb dL_law_1874 (by decide) ?_
  refine lv_iadd hx hb dL_law_1875 ?_
  obtain ⟨hg1070, hf⟩ := gd_o hf
  refine hl_sld hx hb hX (Nat.lt_of_lt_of_le hbl hZ) (Nat.not_le.mpr hbl) hS hg1070 dL_law_1876 ?_
  refine lv_aload_n hx hb dL_law_1877 rfl (lv_at hl 3 rfl) ?_
  obtain ⟨r1073, M1072, hq1071, hf⟩ := bd2_o hf
  refine hs_ci (hs_runSX C0 hH hS (n := 3) (As := [.ref (YA Y 0 0), .int (xs (ix (a5 + (1 : Int32)))), .ref (YA Y 33 0)]) (rest := []) (c_L_waitingIn hl9 M (xs (ix (a5 + (1 : Int32)))) hq1071) ⟨⟨zt_928, zt_929, zt_0, zt_930⟩, by decide, by decide, by decide +kernel⟩ ⟨rfl, rfl, Nat.le_of_ble_eq_true rfl, Nat.le_of_ble_eq_true rfl⟩ rfl rfl hl.1 (Nat.le_of_ble_eq_true rfl) ⟨by omega, by omega⟩ dL_law_1878) hS (fun H locs hH hS => ?_)
  refine lv_istore (lv' := [(6, .int r1073), (0, .ref b), (1, .ref (YA Y 0 0)), (2, .ref (YA Y 20 0)), (3, .ref (YA Y 33 0)), (4, .ref (YA Y 36 0)), (5, .int a5)]) hx hb dL_law_1881 hl (by decide) rfl (fun ls hl => ?_)
  refine lv_aload_n hx hb dL_law_1883 rfl (lv_at hl 3 rfl) ?_
  refine lv_aload_n hx hb dL_law_1884 rfl (lv_at hl 1 rfl) ?_
  refine lv_iload hx hb dL_law_1885 (lv_at hl 6 rfl) ?_
  refine lv_iconst (v := (1 : Int32)) hx hb dL_law_1887 (by decide) ?_
  refine lv_iadd hx hb dL_law_1888 ?_
  refine hl_sld hx hb hX (Nat.lt_of_lt_of_le hbl hZ) (Nat.not_le.mpr hbl) hS hg1070 dL_law_1889 ?_
  obtain ⟨r1076, M1075, hq1074, hf⟩ := bd2_o hf
  refine hs_ci (hs_runV C0 hH hS (n := 1) (As := [.int (xs (ix (a5 + (1 : Int32))))]) (rest := []) (c_X8_waitingIn M1072 (xs (ix (a5 + (1 : Int32)))) hq1074) ⟨⟨zt_1885, zt_1886, zt_1887, zt_13, zt_1888⟩, rfl, by decide, by decide, by decide +kernel⟩ ⟨rfl, rfl, Nat.le_of_ble_eq_true rfl, Nat.le_of_ble_eq_true rfl⟩ (hs_recv hK hH 20 0 (by decide) 12 rfl rfl) rfl rfl hl.1 (Nat.le_of_ble_eq_true rfl) ⟨by omega, by omega⟩ dL_law_1890) hS (fun H locs hH hS => ?_)
  refine lv_istore (lv' := [(7, .int r1076), (6, .int r1073), (0, .ref b), (1, .ref (YA Y 0 0)), (2, .ref (YA Y 20 0)), (3, .ref (YA Y 33 0)), (4, .ref (YA Y 36 0)), (5, .int a5)]) hx hb dL_law_1893 hl (by decide) rfl (fun ls hl => ?_)
  refine lv_aload_n hx hb dL_law_1895 rfl (lv_at hl 4 rfl) ?_
  obtain ⟨r1078, hq1077, hf⟩ := bd_o hf
  refine hs_ci (hs_runV C0 hH hS (n := 0) (As := []) (rest := []) (c_X8_thrown M1075 hq1077) ⟨⟨zt_1621, zt_1622, zt_1623, zt_13, zt_1624⟩, rfl, by decide, by decide, by decide +kernel⟩ ⟨rfl, rfl, Nat.le_of_ble_eq_true rfl, Nat.le_of_ble_eq_true rfl⟩ (hs_recv hK hH 20 0 (by decide) 12 rfl rfl) rfl rfl hl.1 (Nat.le_of_ble_eq_true rfl) ⟨by omega, by omega⟩ dL_law_1896) hS (fun H locs hH hS => ?_)
  refine lv_iload hx hb dL_law_1899 (lv_at hl 1 rfl) ?_
  refine lv_icmp_eq (tgt := 1906) hx hb dL_law_1901 (by decide) (fun hc1081 => ?_) (fun hc1081 => ?_)
  · have hf := if_t hf hc1081
    refine lv_iload hx hb dL_law_1906 (lv_at hl 1 rfl) ?_
    refine lv_if_ne (tgt := 1923) hx hb dL_law_1908 (by decide) (fun hc1080 => ?_) (fun hc1080 => ?_)
    · have hf := if_f hf hc1080
      refine lv_goto (tgt := 3289) hx hb dL_law_1923 (by decide) ?_
      refine W.widen (k := C + 14) (n := S + 1696) (by omega) (by omega) ?_
      exact w_L_law_3289 C0 hl9 xs L hX hbl C S hC9 hS9 k28 hk28 M1075 a5 hf _ _ _ hH hS (lv_sub hl [2, 3, 4, 5, 6, 7] rfl)
    · have hf := if_t hf hc1080
      refine lv_aload_n hx hb dL_law_1911 rfl (lv_at hl 5 rfl) ?_
      refine lv_iconst (v := (0 : Int32)) hx hb dL_law_1912 (by decide) ?_
      refine hl_laload hx hb hK hH dL_law_1913 ?_
      refine lv_iload hx hb dL_law_1914 (lv_at hl 0 rfl) ?_
      refine lv_i2l (v := r1076.toInt64) hx hb dL_law_1916 rfl ?_
      refine W.lcmp hx hb dL_law_1917 ?_
      refine lv_if_eq (tgt := 1923) hx hb dL_law_1918 (by decide) (fun hc1079 => ?_) (fun hc1079 => ?_)
      · have hf := if_t hf hc1079
        refine lv_goto (tgt := 3289) hx hb dL_law_1923 (by decide) ?_
        refine W.widen (k := C + 14) (n := S + 1696) (by omega) (by omega) ?_
        exact w_L_law_3289 C0 hl9 xs L hX hbl C S hC9 hS9 k28 hk28 M1075 a5 hf _ _ _ hH hS (lv_sub hl [2, 3, 4, 5, 6, 7] rfl)
      · have hf := if_f hf hc1079
        refine lv_iconst (v := (0 : Int32)) hx hb dL_law_1921 (by decide) ?_
        cases hf
  · have hf := if_f hf hc1081
    refine lv_iconst (v := (0 : Int32)) hx hb dL_law_1904 (by decide) ?_
    cases hf
def f_L_law_1926 (xs : Nat → Int32) (L : Nat) (k28 : Mem → Int32 → Option Unit) (M : Mem) (a5 : Int32) : Option Unit := if vin (a5 + (1 : Int32)) L then (if vin (a5 + (2 : Int32)) L then (if vin (a5 + (3 : Int32)) L then (bd2 (f_L_earliestArrival M (xs (ix (a5 + (1 : Int32)))) (xs (ix (a5 + (2 : Int32)))) (xs (ix (a5 + (3 : Int32))))) fun r1087 M1086 => bd2 (f_X8_earliestArrival M1086 (xs (ix (a5 + (1 : Int32)))) (xs (ix (a5 + (2 : Int32)))) (xs (ix (a5 + (3 : Int32))))) fun r1090 M1089 => bd (f_X8_thrown M1089) fun r1092 => (if r1092 = r1087 then (if r1087 = 0 then (if (lg_cmp ((M1089 33 0 0).toInt64) r1090.toInt64) = 0 then f_L_law_3289 xs L k28 M1089 a5 else none) else f_L_law_3289 xs L k28 M1089 a5) else none)) else none) else none) else none
set_option maxHeartbeats 8000000 in
set_option maxRecDepth 100000 in
theorem w_L_law_1926 {Y : LY} {p : Program} {l : Launch} {e : Env} {s : State} {m : MethodId} {b : Nat} {below : List Frame} {meth : Method} {c : Code} (C0 : BE Y p s m #[Value.ref b] meth c cL_law 9 ret RL) (hl9 : l.stackTraces = false) (xs : Nat → Int32) (L : Nat) (hX : va_X b L xs s s.heap) (hbl : b < YZ Y) (C S : Nat) (hC9 : C + 60 ≤ 603072) (hS9 : S + 8000 ≤ 7182442) (k28 : Mem → Int32 → Option Unit) (hk28 : ∀ (M : Mem) (a5 : Int32), k28 M a5 = some () → ∀ (H : Heap) (locs : List Loc) (ls : Array Slot), HS Y M H → va_S (AZ Y) s.heap H locs → lv_has ls 9 [(0, .ref b), (1, .ref (YA Y 0 0)), (2, .ref (YA Y 20 0)), (3, .ref (YA Y 33 0)), (4, .ref (YA Y 36 0)), (5, .int a5)] → W p l e room_1 s m #[Value.ref b] below meth c H locs (C + 60) (S + 8000) (lw_Z below #[Value.ref b] s) (F0 m 28 ls [])) : ∀ (M : Mem) (a5 : Int32), f_L_law_1926 xs L k28 M a5 = some () → ∀ (H : Heap) (locs : List Loc) (ls : Array Slot), HS Y M H → va_S (AZ Y) s.heap H locs → lv_has ls 9 [(0, .ref b), (1, .ref (YA Y 0 0)), (2, .ref (YA Y 20 0)), (3, .ref (YA Y 33 0)), (4, .ref (YA Y 36 0)), (5, .int a5)] → W p l e room_1 s m #[Value.ref b] below meth c H locs (C + 0) (S + 0) (lw_Z below #[Value.ref b] s) (F0 m 1926 ls []) := by
  obtain ⟨hx, hb, hr, hml, hown, hA, hlocks, hK, hZ⟩ := id C0
  have hR1 : room_1.cells = 603072 := rfl
  have hR2 : room_1.slots = 7182442 := rfl
  intro M a5 hf H locs ls hH hS hl
  unfold f_L_law_1926 at hf
  refine lv_aload_n hx hb dL_law_1926 rfl (lv_at hl 1 rfl) ?_
  refine lv_aload_n hx hb dL_law_1927 rfl (lv_at hl 0 rfl) ?_
  refine lv_iload hx hb dL_law_1928 (lv_at hl 5 rfl) ?_
  refine lv_iconst (v := (1 : Int32)) hx hb dL_law_1930 (by decide) ?_
  refine lv_iadd hx hb dL_law_1931 ?_
  obtain ⟨hg1082, hf⟩ := gd_o hf
  refine hl_sld hx hb hX (Nat.lt_of_lt_of_le hbl hZ) (Nat.not_le.mpr hbl) hS hg1082 dL_law_1932 ?_
  refine lv_aload_n hx hb dL_law_1933 rfl (lv_at hl 0 rfl) ?_
  refine lv_iload hx hb dL_law_1934 (lv_at hl 5 rfl) ?_
  refine lv_iconst (v := (2 : Int32)) hx hb dL_law_1936 (by decide) ?_
  refine lv_iadd hx hb dL_law_1937 ?_
  obtain ⟨hg1083, hf⟩ := gd_o hf
  refine hl_sld hx hb hX (Nat.lt_of_lt_of_le hbl hZ) (Nat.not_le.mpr hbl) hS hg1083 dL_law_1938 ?_
  refine lv_aload_n hx hb dL_law_1939 rfl (lv_at hl 0 rfl) ?_
  refine lv_iload hx hb dL_law_1940 (lv_at hl 5 rfl) ?_
  refine lv_iconst (v := (3 : Int32)) hx hb dL_law_1942 (by decide) ?_
  refine lv_iadd hx hb dL_law_1943 ?_
  obtain ⟨hg1084, hf⟩ := gd_o hf
  refine hl_sld hx hb hX (Nat.lt_of_lt_of_le hbl hZ) (Nat.not_le.mpr hbl) hS hg1084 dL_law_1944 ?_
  refine lv_aload_n hx hb dL_law_1945 rfl (lv_at hl 3 rfl) ?_
  obtain ⟨r1087, M1086, hq1085, hf⟩ := bd2_o hf
  refine hs_ci (hs_runSX C0 hH hS (n := 5) (As := [.ref (YA Y 0 0), .int (xs (ix (a5 + (1 : Int32)))), .int (xs (ix (a5 + (2 : Int32)))), .int (xs (ix (a5 + (3 : Int32)))), .ref (YA Y 33 0)]) (rest := []) (c_L_earliestArrival hl9 M (xs (ix (a5 + (1 : Int32)))) (xs (ix (a5 + (2 : Int32)))) (xs (ix (a5 + (3 : Int32)))) hq1085) ⟨⟨zt_939, zt_940, zt_0, zt_941⟩, by decide, by decide, by decide +kernel⟩ ⟨rfl, rfl, Nat.le_of_ble_eq_true rfl, Nat.le_of_ble_eq_true rfl⟩ rfl rfl hl.1 (Nat.le_of_ble_eq_true rfl) ⟨by omega, by omega⟩ dL_law_1946) hS (fun H locs hH hS => ?_)
  refine lv_istore (lv' := [(6, .int r1087), (0, .ref b), (1, .ref (YA Y 0 0)), (2, .ref (YA Y 20 0)), (3, .ref (YA Y 33 0)), (4, .ref (YA Y 36 0)), (5, .int a5)]) hx hb dL_law_1949 hl (by decide) rfl (fun ls hl => ?_)
  refine lv_aload_n hx hb dL_law_1951 rfl (lv_at hl 3 rfl) ?_
  refine lv_aload_n hx hb dL_law_1952 rfl (lv_at hl 1 rfl) ?_
  refine lv_iload hx hb dL_law_1953 (lv_at hl 6 rfl) ?_
  refine lv_iconst (v := (1 : Int32)) hx hb dL_law_1955 (by decide) ?_
  refine lv_iadd hx hb dL_law_1956 ?_
  refine hl_sld hx hb hX (Nat.lt_of_lt_of_le hbl hZ) (Nat.not_le.mpr hbl) hS hg1082 dL_law_1957 ?_
  refine lv_aload_n hx hb dL_law_1958 rfl (lv_at hl 1 rfl) ?_
  refine lv_iload hx hb dL_law_1959 (lv_at hl 6 rfl) ?_
  refine lv_iconst (v := (2 : Int32)) hx hb dL_law_1961 (by decide) ?_
  refine lv_iadd hx hb dL_law_1962 ?_
  refine hl_sld hx hb hX (Nat.lt_of_lt_of_le hbl hZ) (Nat.not_le.mpr hbl) hS hg1083 dL_law_1963 ?_
  refine lv_aload_n hx hb dL_law_1964 rfl (lv_at hl 1 rfl) ?_
  refine lv_iload hx hb dL_law_1965 (lv_at hl 6 rfl) ?_
  refine lv_iconst (v := (3 : Int32)) hx hb dL_law_1967 (by decide) ?_
  refine lv_iadd hx hb dL_law_1968 ?_
  refine hl_sld hx hb hX (Nat.lt_of_lt_of_le hbl hZ) (Nat.not_le.mpr hbl) hS hg1084 dL_law_1969 ?_
  obtain ⟨r1090, M1089, hq1088, hf⟩ := bd2_o hf
  refine hs_ci (hs_runV C0 hH hS (n := 3) (As := [.int (xs (ix (a5 + (1 : Int32)))), .int (xs (ix (a5 + (2 : Int32)))), .int (xs (ix (a5 + (3 : Int32))))]) (rest := []) (c_X8_earliestArrival M1086 (xs (ix (a5 + (1 : Int32)))) (xs (ix (a5 + (2 : Int32)))) (xs (ix (a5 + (3 : Int32)))) hq1088) ⟨⟨zt_1889, zt_1890, zt_1891, zt_13, zt_1892⟩, rfl, by decide, by decide, by decide +kernel⟩ ⟨rfl, rfl, Nat.le_of_ble_eq_true rfl, Nat.le_of_ble_eq_true rfl⟩ (hs_recv hK hH 20 0 (by decide) 12 rfl rfl) rfl rfl hl.1 (Nat.le_of_ble_eq_true rfl) ⟨by omega, by omega⟩ dL_law_1970) hS (fun H locs hH hS => ?_)
  refine lv_istore (lv' := [(7, .int r1090), (6, .int r1087), (0, .ref b), (1, .ref (YA Y 0 0)), (2, .ref (YA Y 20 0)), (3, .ref (YA Y 33 0)), (4, .ref (YA Y 36 0)), (5, .int a5)]) hx hb dL_law_1973 hl (by decide) rfl (fun ls hl => ?_)
  refine lv_aload_n hx hb dL_law_1975 rfl (lv_at hl 4 rfl) ?_
  obtain ⟨r1092, hq1091, hf⟩ := bd_o hf
  refine hs_ci (hs_runV C0 hH hS (n := 0) (As := []) (rest := []) (c_X8_thrown M1089 hq1091) ⟨⟨zt_1621, zt_1622, zt_1623, zt_13, zt_1624⟩, rfl, by decide, by decide, by decide +kernel⟩ ⟨rfl, rfl, Nat.le_of_ble_eq_true rfl, Nat.le_of_ble_eq_true rfl⟩ (hs_recv hK hH 20 0 (by decide) 12 rfl rfl) rfl rfl hl.1 (Nat.le_of_ble_eq_true rfl) ⟨by omega, by omega⟩ dL_law_1976) hS (fun H locs hH hS => ?_)
  refine lv_iload hx hb dL_law_1979 (lv_at hl 1 rfl) ?_
  refine lv_icmp_eq (tgt := 1986) hx hb dL_law_1981 (by decide) (fun hc1095 => ?_) (fun hc1095 => ?_)
  · have hf := if_t hf hc1095
    refine lv_iload hx hb dL_law_1986 (lv_at hl 1 rfl) ?_
    refine lv_if_ne (tgt := 2003) hx hb dL_law_1988 (by decide) (fun hc1094 => ?_) (fun hc1094 => ?_)
    · have hf := if_f hf hc1094
      refine lv_goto (tgt := 3289) hx hb dL_law_2003 (by decide) ?_
      refine W.widen (k := C + 14) (n := S + 1696) (by omega) (by omega) ?_
      exact w_L_law_3289 C0 hl9 xs L hX hbl C S hC9 hS9 k28 hk28 M1089 a5 hf _ _ _ hH hS (lv_sub hl [2, 3, 4, 5, 6, 7] rfl)
    · have hf := if_t hf hc1094
      refine lv_aload_n hx hb dL_law_1991 rfl (lv_at hl 5 rfl) ?_
      refine lv_iconst (v := (0 : Int32)) hx hb dL_law_1992 (by decide) ?_
      refine hl_laload hx hb hK hH dL_law_1993 ?_
      refine lv_iload hx hb dL_law_1994 (lv_at hl 0 rfl) ?_
      refine lv_i2l (v := r1090.toInt64) hx hb dL_law_1996 rfl ?_
      refine W.lcmp hx hb dL_law_1997 ?_
      refine lv_if_eq (tgt := 2003) hx hb dL_law_1998 (by decide) (fun hc1093 => ?_) (fun hc1093 => ?_)
      · have hf := if_t hf hc1093
        refine lv_goto (tgt := 3289) hx hb dL_law_2003 (by decide) ?_
        refine W.widen (k := C + 14) (n := S + 1696) (by omega) (by omega) ?_
        exact w_L_law_3289 C0 hl9 xs L hX hbl C S hC9 hS9 k28 hk28 M1089 a5 hf _ _ _ hH hS (lv_sub hl [2, 3, 4, 5, 6, 7] rfl)
      · have hf := if_f hf hc1093
        refine lv_iconst (v := (0 : Int32)) hx hb dL_law_2001 (by decide) ?_
        cases hf
  · have hf := if_f hf hc1095
    refine lv_iconst (v := (0 : Int32)) hx hb dL_law_1984 (by decide) ?_
    cases hf
def f_L_law_2006 (xs : Nat → Int32) (L : Nat) (k28 : Mem → Int32 → Option Unit) (M : Mem) (a5 : Int32) : Option Unit := if vin (a5 + (1 : Int32)) L then (if vin (a5 + (2 : Int32)) L then (if vin (a5 + (3 : Int32)) L then (bd2 (f_L_earliestArrivalByHours M (xs (ix (a5 + (1 : Int32)))) (xs (ix (a5 + (2 : Int32)))) (xs (ix (a5 + (3 : Int32))))) fun r1101 M1100 => bd2 (f_X8_earliestArrivalByHours M1100 (xs (ix (a5 + (1 : Int32)))) (xs (ix (a5 + (2 : Int32)))) (xs (ix (a5 + (3 : Int32))))) fun r1104 M1103 => bd (f_X8_thrown M1103) fun r1106 => (if r1106 = r1101 then (if r1101 = 0 then (if (lg_cmp ((M1103 33 0 0).toInt64) r1104.toInt64) = 0 then f_L_law_3289 xs L k28 M1103 a5 else none) else f_L_law_3289 xs L k28 M1103 a5) else none)) else none) else none) else none
set_option maxHeartbeats 8000000 in
set_option maxRecDepth 100000 in
theorem w_L_law_2006 {Y : LY} {p : Program} {l : Launch} {e : Env} {s : State} {m : MethodId} {b : Nat} {below : List Frame} {meth : Method} {c : Code} (C0 : BE Y p s m #[Value.ref b] meth c cL_law 9 ret RL) (hl9 : l.stackTraces = false) (xs : Nat → Int32) (L : Nat) (hX : va_X b L xs s s.heap) (hbl : b < YZ Y) (C S : Nat) (hC9 : C + 60 ≤ 603072) (hS9 : S + 8000 ≤ 7182442) (k28 : Mem → Int32 → Option Unit) (hk28 : ∀ (M : Mem) (a5 : Int32), k28 M a5 = some () → ∀ (H : Heap) (locs : List Loc) (ls : Array Slot), HS Y M H → va_S (AZ Y) s.heap H locs → lv_has ls 9 [(0, .ref b), (1, .ref (YA Y 0 0)), (2, .ref (YA Y 20 0)), (3, .ref (YA Y 33 0)), (4, .ref (YA Y 36 0)), (5, .int a5)] → W p l e room_1 s m #[Value.ref b] below meth c H locs (C + 60) (S + 8000) (lw_Z below #[Value.ref b] s) (F0 m 28 ls [])) : ∀ (M : Mem) (a5 : Int32), f_L_law_2006 xs L k28 M a5 = some () → ∀ (H : Heap) (locs : List Loc) (ls : Array Slot), HS Y M H → va_S (AZ Y) s.heap H locs → lv_has ls 9 [(0, .ref b), (1, .ref (YA Y 0 0)), (2, .ref (YA Y 20 0)), (3, .ref (YA Y 33 0)), (4, .ref (YA Y 36 0)), (5, .int a5)] → W p l e room_1 s m #[Value.ref b] below meth c H locs (C + 0) (S + 0) (lw_Z below #[Value.ref b] s) (F0 m 2006 ls []) := by
  obtain ⟨hx, hb, hr, hml, hown, hA, hlocks, hK, hZ⟩ := id C0
  have hR1 : room_1.cells = 603072 := rfl
  have hR2 : room_1.slots = 7182442 := rfl
  intro M a5 hf H locs ls hH hS hl
  unfold f_L_law_2006 at hf
  refine lv_aload_n hx hb dL_law_2006 rfl (lv_at hl 1 rfl) ?_
  refine lv_aload_n hx hb dL_law_2007 rfl (lv_at hl 0 rfl) ?_
  refine lv_iload hx hb dL_law_2008 (lv_at hl 5 rfl) ?_
  refine lv_iconst (v := (1 : Int32)) hx hb dL_law_2010 (by decide) ?_
  refine lv_iadd hx hb dL_law_2011 ?_
  obtain ⟨hg1096, hf⟩ := gd_o hf
  refine hl_sld hx hb hX (Nat.lt_of_lt_of_le hbl hZ) (Nat.not_le.mpr hbl) hS hg1096 dL_law_2012 ?_
  refine lv_aload_n hx hb dL_law_2013 rfl (lv_at hl 0 rfl) ?_
  refine lv_iload hx hb dL_law_2014 (lv_at hl 5 rfl) ?_
  refine lv_iconst (v := (2 : Int32)) hx hb dL_law_2016 (by decide) ?_
  refine lv_iadd hx hb dL_law_2017 ?_
  obtain ⟨hg1097, hf⟩ := gd_o hf
  refine hl_sld hx hb hX (Nat.lt_of_lt_of_le hbl hZ) (Nat.not_le.mpr hbl) hS hg1097 dL_law_2018 ?_
  refine lv_aload_n hx hb dL_law_2019 rfl (lv_at hl 0 rfl) ?_
  refine lv_iload hx hb dL_law_2020 (lv_at hl 5 rfl) ?_
  refine lv_iconst (v := (3 : Int32)) hx hb dL_law_2022 (by decide) ?_
  refine lv_iadd hx hb dL_law_2023 ?_
  obtain ⟨hg1098, hf⟩ := gd_o hf
  refine hl_sld hx hb hX (Nat.lt_of_lt_of_le hbl hZ) (Nat.not_le.mpr hbl) hS hg1098 dL_law_2024 ?_
  refine lv_aload_n hx hb dL_law_2025 rfl (lv_at hl 3 rfl) ?_
  obtain ⟨r1101, M1100, hq1099, hf⟩ := bd2_o hf
  refine hs_ci (hs_runSX C0 hH hS (n := 5) (As := [.ref (YA Y 0 0), .int (xs (ix (a5 + (1 : Int32)))), .int (xs (ix (a5 + (2 : Int32)))), .int (xs (ix (a5 + (3 : Int32)))), .ref (YA Y 33 0)]) (rest := []) (c_L_earliestArrivalByHours hl9 M (xs (ix (a5 + (1 : Int32)))) (xs (ix (a5 + (2 : Int32)))) (xs (ix (a5 + (3 : Int32)))) hq1099) ⟨⟨zt_951, zt_952, zt_0, zt_953⟩, by decide, by decide, by decide +kernel⟩ ⟨rfl, rfl, Nat.le_of_ble_eq_true rfl, Nat.le_of_ble_eq_true rfl⟩ rfl rfl hl.1 (Nat.le_of_ble_eq_true rfl) ⟨by omega, by omega⟩ dL_law_2026) hS (fun H locs hH hS => ?_)
  refine lv_istore (lv' := [(6, .int r1101), (0, .ref b), (1, .ref (YA Y 0 0)), (2, .ref (YA Y 20 0)), (3, .ref (YA Y 33 0)), (4, .ref (YA Y 36 0)), (5, .int a5)]) hx hb dL_law_2029 hl (by decide) rfl (fun ls hl => ?_)
  refine lv_aload_n hx hb dL_law_2031 rfl (lv_at hl 3 rfl) ?_
  refine lv_aload_n hx hb dL_law_2032 rfl (lv_at hl 1 rfl) ?_
  refine lv_iload hx hb dL_law_2033 (lv_at hl 6 rfl) ?_
  refine lv_iconst (v := (1 : Int32)) hx hb dL_law_2035 (by decide) ?_
  refine lv_iadd hx hb dL_law_2036 ?_
  refine hl_sld hx hb hX (Nat.lt_of_lt_of_le hbl hZ) (Nat.not_le.mpr hbl) hS hg1096 dL_law_2037 ?_
  refine lv_aload_n hx hb dL_law_2038 rfl (lv_at hl 1 rfl) ?_
  refine lv_iload hx hb dL_law_2039 (lv_at hl 6 rfl) ?_
  refine lv_iconst (v := (2 : Int32)) hx hb dL_law_2041 (by decide) ?_
  refine lv_iadd hx hb dL_law_2042 ?_
  refine hl_sld hx hb hX (Nat.lt_of_lt_of_le hbl hZ) (Nat.not_le.mpr hbl) hS hg1097 dL_law_2043 ?_
  refine lv_aload_n hx hb dL_law_2044 rfl (lv_at hl 1 rfl) ?_
  refine lv_iload hx hb dL_law_2045 (lv_at hl 6 rfl) ?_
  refine lv_iconst (v := (3 : Int32)) hx hb dL_law_2047 (by decide) ?_
  refine lv_iadd hx hb dL_law_2048 ?_
  refine hl_sld hx hb hX (Nat.lt_of_lt_of_le hbl hZ) (Nat.not_le.mpr hbl) hS hg1098 dL_law_2049 ?_
  obtain ⟨r1104, M1103, hq1102, hf⟩ := bd2_o hf
  refine hs_ci (hs_runV C0 hH hS (n := 3) (As := [.int (xs (ix (a5 + (1 : Int32)))), .int (xs (ix (a5 + (2 : Int32)))), .int (xs (ix (a5 + (3 : Int32))))]) (rest := []) (c_X8_earliestArrivalByHours M1100 (xs (ix (a5 + (1 : Int32)))) (xs (ix (a5 + (2 : Int32)))) (xs (ix (a5 + (3 : Int32)))) hq1102) ⟨⟨zt_1893, zt_1894, zt_1895, zt_13, zt_1896⟩, rfl, by decide, by decide, by decide +kernel⟩ ⟨rfl, rfl, Nat.le_of_ble_eq_true rfl, Nat.le_of_ble_eq_true rfl⟩ (hs_recv hK hH 20 0 (by decide) 12 rfl rfl) rfl rfl hl.1 (Nat.le_of_ble_eq_true rfl) ⟨by omega, by omega⟩ dL_law_2050) hS (fun H locs hH hS => ?_)
  refine lv_istore (lv' := [(7, .int r1104), (6, .int r1101), (0, .ref b), (1, .ref (YA Y 0 0)), (2, .ref (YA Y 20 0)), (3, .ref (YA Y 33 0)), (4, .ref (YA Y 36 0)), (5, .int a5)]) hx hb dL_law_2053 hl (by decide) rfl (fun ls hl => ?_)
  refine lv_aload_n hx hb dL_law_2055 rfl (lv_at hl 4 rfl) ?_
  obtain ⟨r1106, hq1105, hf⟩ := bd_o hf
  refine hs_ci (hs_runV C0 hH hS (n := 0) (As := []) (rest := []) (c_X8_thrown M1103 hq1105) ⟨⟨zt_1621, zt_1622, zt_1623, zt_13, zt_1624⟩, rfl, by decide, by decide, by decide +kernel⟩ ⟨rfl, rfl, Nat.le_of_ble_eq_true rfl, Nat.le_of_ble_eq_true rfl⟩ (hs_recv hK hH 20 0 (by decide) 12 rfl rfl) rfl rfl hl.1 (Nat.le_of_ble_eq_true rfl) ⟨by omega, by omega⟩ dL_law_2056) hS (fun H locs hH hS => ?_)
  refine lv_iload hx hb dL_law_2059 (lv_at hl 1 rfl) ?_
  refine lv_icmp_eq (tgt := 2066) hx hb dL_law_2061 (by decide) (fun hc1109 => ?_) (fun hc1109 => ?_)
  · have hf := if_t hf hc1109
    refine lv_iload hx hb dL_law_2066 (lv_at hl 1 rfl) ?_
    refine lv_if_ne (tgt := 2083) hx hb dL_law_2068 (by decide) (fun hc1108 => ?_) (fun hc1108 => ?_)
    · have hf := if_f hf hc1108
      refine lv_goto (tgt := 3289) hx hb dL_law_2083 (by decide) ?_
      refine W.widen (k := C + 14) (n := S + 1696) (by omega) (by omega) ?_
      exact w_L_law_3289 C0 hl9 xs L hX hbl C S hC9 hS9 k28 hk28 M1103 a5 hf _ _ _ hH hS (lv_sub hl [2, 3, 4, 5, 6, 7] rfl)
    · have hf := if_t hf hc1108
      refine lv_aload_n hx hb dL_law_2071 rfl (lv_at hl 5 rfl) ?_
      refine lv_iconst (v := (0 : Int32)) hx hb dL_law_2072 (by decide) ?_
      refine hl_laload hx hb hK hH dL_law_2073 ?_
      refine lv_iload hx hb dL_law_2074 (lv_at hl 0 rfl) ?_
      refine lv_i2l (v := r1104.toInt64) hx hb dL_law_2076 rfl ?_
      refine W.lcmp hx hb dL_law_2077 ?_
      refine lv_if_eq (tgt := 2083) hx hb dL_law_2078 (by decide) (fun hc1107 => ?_) (fun hc1107 => ?_)
      · have hf := if_t hf hc1107
        refine lv_goto (tgt := 3289) hx hb dL_law_2083 (by decide) ?_
        refine W.widen (k := C + 14) (n := S + 1696) (by omega) (by omega) ?_
        exact w_L_law_3289 C0 hl9 xs L hX hbl C S hC9 hS9 k28 hk28 M1103 a5 hf _ _ _ hH hS (lv_sub hl [2, 3, 4, 5, 6, 7] rfl)
      · have hf := if_f hf hc1107
        refine lv_iconst (v := (0 : Int32)) hx hb dL_law_2081 (by decide) ?_
        cases hf
  · have hf := if_f hf hc1109
    refine lv_iconst (v := (0 : Int32)) hx hb dL_law_2064 (by decide) ?_
    cases hf
def f_L_law_2086 (xs : Nat → Int32) (L : Nat) (k28 : Mem → Int32 → Option Unit) (M : Mem) (a5 : Int32) : Option Unit := if vin (a5 + (1 : Int32)) L then (if vin (a5 + (2 : Int32)) L then (bd2 (f_L_fewestLinks M (xs (ix (a5 + (1 : Int32)))) (xs (ix (a5 + (2 : Int32))))) fun r1114 M1113 => bd2 (f_X8_fewestLinks M1113 (xs (ix (a5 + (1 : Int32)))) (xs (ix (a5 + (2 : Int32))))) fun r1117 M1116 => bd (f_X8_thrown M1116) fun r1119 => (if r1119 = r1114 then (if r1114 = 0 then (if (lg_cmp ((M1116 33 0 0).toInt64) r1117.toInt64) = 0 then f_L_law_3289 xs L k28 M1116 a5 else none) else f_L_law_3289 xs L k28 M1116 a5) else none)) else none) else none
set_option maxHeartbeats 8000000 in
set_option maxRecDepth 100000 in
theorem w_L_law_2086 {Y : LY} {p : Program} {l : Launch} {e : Env} {s : State} {m : MethodId} {b : Nat} {below : List Frame} {meth : Method} {c : Code} (C0 : BE Y p s m #[Value.ref b] meth c cL_law 9 ret RL) (hl9 : l.stackTraces = false) (xs : Nat → Int32) (L : Nat) (hX : va_X b L xs s s.heap) (hbl : b < YZ Y) (C S : Nat) (hC9 : C + 60 ≤ 603072) (hS9 : S + 8000 ≤ 7182442) (k28 : Mem → Int32 → Option Unit) (hk28 : ∀ (M : Mem) (a5 : Int32), k28 M a5 = some () → ∀ (H : Heap) (locs : List Loc) (ls : Array Slot), HS Y M H → va_S (AZ Y) s.heap H locs → lv_has ls 9 [(0, .ref b), (1, .ref (YA Y 0 0)), (2, .ref (YA Y 20 0)), (3, .ref (YA Y 33 0)), (4, .ref (YA Y 36 0)), (5, .int a5)] → W p l e room_1 s m #[Value.ref b] below meth c H locs (C + 60) (S + 8000) (lw_Z below #[Value.ref b] s) (F0 m 28 ls [])) : ∀ (M : Mem) (a5 : Int32), f_L_law_2086 xs L k28 M a5 = some () → ∀ (H : Heap) (locs : List Loc) (ls : Array Slot), HS Y M H → va_S (AZ Y) s.heap H locs → lv_has ls 9 [(0, .ref b), (1, .ref (YA Y 0 0)), (2, .ref (YA Y 20 0)), (3, .ref (YA Y 33 0)), (4, .ref (YA Y 36 0)), (5, .int a5)] → W p l e room_1 s m #[Value.ref b] below meth c H locs (C + 0) (S + 0) (lw_Z below #[Value.ref b] s) (F0 m 2086 ls []) := by
  obtain ⟨hx, hb, hr, hml, hown, hA, hlocks, hK, hZ⟩ := id C0
  have hR1 : room_1.cells = 603072 := rfl
  have hR2 : room_1.slots = 7182442 := rfl
  intro M a5 hf H locs ls hH hS hl
  unfold f_L_law_2086 at hf
  refine lv_aload_n hx hb dL_law_2086 rfl (lv_at hl 1 rfl) ?_
  refine lv_aload_n hx hb dL_law_2087 rfl (lv_at hl 0 rfl) ?_
  refine lv_iload hx hb dL_law_2088 (lv_at hl 5 rfl) ?_
  refine lv_iconst (v := (1 : Int32)) hx hb dL_law_2090 (by decide) ?_
  refine lv_iadd hx hb dL_law_2091 ?_
  obtain ⟨hg1110, hf⟩ := gd_o hf
  refine hl_sld hx hb hX (Nat.lt_of_lt_of_le hbl hZ) (Nat.not_le.mpr hbl) hS hg1110 dL_law_2092 ?_
  refine lv_aload_n hx hb dL_law_2093 rfl (lv_at hl 0 rfl) ?_
  refine lv_iload hx hb dL_law_2094 (lv_at hl 5 rfl) ?_
  refine lv_iconst (v := (2 : Int32)) hx hb dL_law_2096 (by decide) ?_
  refine lv_iadd hx hb dL_law_2097 ?_
  obtain ⟨hg1111, hf⟩ := gd_o hf
  refine hl_sld hx hb hX (Nat.lt_of_lt_of_le hbl hZ) (Nat.not_le.mpr hbl) hS hg1111 dL_law_2098 ?_
  refine lv_aload_n hx hb dL_law_2099 rfl (lv_at hl 3 rfl) ?_
  obtain ⟨r1114, M1113, hq1112, hf⟩ := bd2_o hf
  refine hs_ci (hs_runSX C0 hH hS (n := 4) (As := [.ref (YA Y 0 0), .int (xs (ix (a5 + (1 : Int32)))), .int (xs (ix (a5 + (2 : Int32)))), .ref (YA Y 33 0)]) (rest := []) (c_L_fewestLinks hl9 M (xs (ix (a5 + (1 : Int32)))) (xs (ix (a5 + (2 : Int32)))) hq1112) ⟨⟨zt_958, zt_959, zt_0, zt_960⟩, by decide, by decide, by decide +kernel⟩ ⟨rfl, rfl, Nat.le_of_ble_eq_true rfl, Nat.le_of_ble_eq_true rfl⟩ rfl rfl hl.1 (Nat.le_of_ble_eq_true rfl) ⟨by omega, by omega⟩ dL_law_2100) hS (fun H locs hH hS => ?_)
  refine lv_istore (lv' := [(6, .int r1114), (0, .ref b), (1, .ref (YA Y 0 0)), (2, .ref (YA Y 20 0)), (3, .ref (YA Y 33 0)), (4, .ref (YA Y 36 0)), (5, .int a5)]) hx hb dL_law_2103 hl (by decide) rfl (fun ls hl => ?_)
  refine lv_aload_n hx hb dL_law_2105 rfl (lv_at hl 3 rfl) ?_
  refine lv_aload_n hx hb dL_law_2106 rfl (lv_at hl 1 rfl) ?_
  refine lv_iload hx hb dL_law_2107 (lv_at hl 6 rfl) ?_
  refine lv_iconst (v := (1 : Int32)) hx hb dL_law_2109 (by decide) ?_
  refine lv_iadd hx hb dL_law_2110 ?_
  refine hl_sld hx hb hX (Nat.lt_of_lt_of_le hbl hZ) (Nat.not_le.mpr hbl) hS hg1110 dL_law_2111 ?_
  refine lv_aload_n hx hb dL_law_2112 rfl (lv_at hl 1 rfl) ?_
  refine lv_iload hx hb dL_law_2113 (lv_at hl 6 rfl) ?_
  refine lv_iconst (v := (2 : Int32)) hx hb dL_law_2115 (by decide) ?_
  refine lv_iadd hx hb dL_law_2116 ?_
  refine hl_sld hx hb hX (Nat.lt_of_lt_of_le hbl hZ) (Nat.not_le.mpr hbl) hS hg1111 dL_law_2117 ?_
  obtain ⟨r1117, M1116, hq1115, hf⟩ := bd2_o hf
  refine hs_ci (hs_runV C0 hH hS (n := 2) (As := [.int (xs (ix (a5 + (1 : Int32)))), .int (xs (ix (a5 + (2 : Int32))))]) (rest := []) (c_X8_fewestLinks M1113 (xs (ix (a5 + (1 : Int32)))) (xs (ix (a5 + (2 : Int32)))) hq1115) ⟨⟨zt_1898, zt_1899, zt_1900, zt_13, zt_1901⟩, rfl, by decide, by decide, by decide +kernel⟩ ⟨rfl, rfl, Nat.le_of_ble_eq_true rfl, Nat.le_of_ble_eq_true rfl⟩ (hs_recv hK hH 20 0 (by decide) 12 rfl rfl) rfl rfl hl.1 (Nat.le_of_ble_eq_true rfl) ⟨by omega, by omega⟩ dL_law_2118) hS (fun H locs hH hS => ?_)
  refine lv_istore (lv' := [(7, .int r1117), (6, .int r1114), (0, .ref b), (1, .ref (YA Y 0 0)), (2, .ref (YA Y 20 0)), (3, .ref (YA Y 33 0)), (4, .ref (YA Y 36 0)), (5, .int a5)]) hx hb dL_law_2121 hl (by decide) rfl (fun ls hl => ?_)
  refine lv_aload_n hx hb dL_law_2123 rfl (lv_at hl 4 rfl) ?_
  obtain ⟨r1119, hq1118, hf⟩ := bd_o hf
  refine hs_ci (hs_runV C0 hH hS (n := 0) (As := []) (rest := []) (c_X8_thrown M1116 hq1118) ⟨⟨zt_1621, zt_1622, zt_1623, zt_13, zt_1624⟩, rfl, by decide, by decide, by decide +kernel⟩ ⟨rfl, rfl, Nat.le_of_ble_eq_true rfl, Nat.le_of_ble_eq_true rfl⟩ (hs_recv hK hH 20 0 (by decide) 12 rfl rfl) rfl rfl hl.1 (Nat.le_of_ble_eq_true rfl) ⟨by omega, by omega⟩ dL_law_2124) hS (fun H locs hH hS => ?_)
  refine lv_iload hx hb dL_law_2127 (lv_at hl 1 rfl) ?_
  refine lv_icmp_eq (tgt := 2134) hx hb dL_law_2129 (by decide) (fun hc1122 => ?_) (fun hc1122 => ?_)
  · have hf := if_t hf hc1122
    refine lv_iload hx hb dL_law_2134 (lv_at hl 1 rfl) ?_
    refine lv_if_ne (tgt := 2151) hx hb dL_law_2136 (by decide) (fun hc1121 => ?_) (fun hc1121 => ?_)
    · have hf := if_f hf hc1121
      refine lv_goto (tgt := 3289) hx hb dL_law_2151 (by decide) ?_
      refine W.widen (k := C + 14) (n := S + 1696) (by omega) (by omega) ?_
      exact w_L_law_3289 C0 hl9 xs L hX hbl C S hC9 hS9 k28 hk28 M1116 a5 hf _ _ _ hH hS (lv_sub hl [2, 3, 4, 5, 6, 7] rfl)
    · have hf := if_t hf hc1121
      refine lv_aload_n hx hb dL_law_2139 rfl (lv_at hl 5 rfl) ?_
      refine lv_iconst (v := (0 : Int32)) hx hb dL_law_2140 (by decide) ?_
      refine hl_laload hx hb hK hH dL_law_2141 ?_
      refine lv_iload hx hb dL_law_2142 (lv_at hl 0 rfl) ?_
      refine lv_i2l (v := r1117.toInt64) hx hb dL_law_2144 rfl ?_
      refine W.lcmp hx hb dL_law_2145 ?_
      refine lv_if_eq (tgt := 2151) hx hb dL_law_2146 (by decide) (fun hc1120 => ?_) (fun hc1120 => ?_)
      · have hf := if_t hf hc1120
        refine lv_goto (tgt := 3289) hx hb dL_law_2151 (by decide) ?_
        refine W.widen (k := C + 14) (n := S + 1696) (by omega) (by omega) ?_
        exact w_L_law_3289 C0 hl9 xs L hX hbl C S hC9 hS9 k28 hk28 M1116 a5 hf _ _ _ hH hS (lv_sub hl [2, 3, 4, 5, 6, 7] rfl)
      · have hf := if_f hf hc1120
        refine lv_iconst (v := (0 : Int32)) hx hb dL_law_2149 (by decide) ?_
        cases hf
  · have hf := if_f hf hc1122
    refine lv_iconst (v := (0 : Int32)) hx hb dL_law_2132 (by decide) ?_
    cases hf
def f_L_law_2154 (xs : Nat → Int32) (L : Nat) (k28 : Mem → Int32 → Option Unit) (M : Mem) (a5 : Int32) : Option Unit := if vin (a5 + (1 : Int32)) L then (bd2 (f_L_reachable M (xs (ix (a5 + (1 : Int32))))) fun r1126 M1125 => bd2 (f_X8_reachable M1125 (xs (ix (a5 + (1 : Int32))))) fun r1129 M1128 => bd (f_X8_thrown M1128) fun r1131 => (if r1131 = r1126 then (if r1126 = 0 then (if (lg_cmp ((M1128 33 0 0).toInt64) r1129.toInt64) = 0 then f_L_law_3289 xs L k28 M1128 a5 else none) else f_L_law_3289 xs L k28 M1128 a5) else none)) else none
set_option maxHeartbeats 8000000 in
set_option maxRecDepth 100000 in
theorem w_L_law_2154 {Y : LY} {p : Program} {l : Launch} {e : Env} {s : State} {m : MethodId} {b : Nat} {below : List Frame} {meth : Method} {c : Code} (C0 : BE Y p s m #[Value.ref b] meth c cL_law 9 ret RL) (hl9 : l.stackTraces = false) (xs : Nat → Int32) (L : Nat) (hX : va_X b L xs s s.heap) (hbl : b < YZ Y) (C S : Nat) (hC9 : C + 60 ≤ 603072) (hS9 : S + 8000 ≤ 7182442) (k28 : Mem → Int32 → Option Unit) (hk28 : ∀ (M : Mem) (a5 : Int32), k28 M a5 = some () → ∀ (H : Heap) (locs : List Loc) (ls : Array Slot), HS Y M H → va_S (AZ Y) s.heap H locs → lv_has ls 9 [(0, .ref b), (1, .ref (YA Y 0 0)), (2, .ref (YA Y 20 0)), (3, .ref (YA Y 33 0)), (4, .ref (YA Y 36 0)), (5, .int a5)] → W p l e room_1 s m #[Value.ref b] below meth c H locs (C + 60) (S + 8000) (lw_Z below #[Value.ref b] s) (F0 m 28 ls [])) : ∀ (M : Mem) (a5 : Int32), f_L_law_2154 xs L k28 M a5 = some () → ∀ (H : Heap) (locs : List Loc) (ls : Array Slot), HS Y M H → va_S (AZ Y) s.heap H locs → lv_has ls 9 [(0, .ref b), (1, .ref (YA Y 0 0)), (2, .ref (YA Y 20 0)), (3, .ref (YA Y 33 0)), (4, .ref (YA Y 36 0)), (5, .int a5)] → W p l e room_1 s m #[Value.ref b] below meth c H locs (C + 0) (S + 0) (lw_Z below #[Value.ref b] s) (F0 m 2154 ls []) := by
  obtain ⟨hx, hb, hr, hml, hown, hA, hlocks, hK, hZ⟩ := id C0
  have hR1 : room_1.cells = 603072 := rfl
  have hR2 : room_1.slots = 7182442 := rfl
  intro M a5 hf H locs ls hH hS hl
  unfold f_L_law_2154 at hf
  refine lv_aload_n hx hb dL_law_2154 rfl (lv_at hl 1 rfl) ?_
  refine lv_aload_n hx hb dL_law_2155 rfl (lv_at hl 0 rfl) ?_
  refine lv_iload hx hb dL_law_2156 (lv_at hl 5 rfl) ?_
  refine lv_iconst (v := (1 : Int32)) hx hb dL_law_2158 (by decide) ?_
  refine lv_iadd hx hb dL_law_2159 ?_
  obtain ⟨hg1123, hf⟩ := gd_o hf
  refine hl_sld hx hb hX (Nat.lt_of_lt_of_le hbl hZ) (Nat.not_le.mpr hbl) hS hg1123 dL_law_2160 ?_
  refine lv_aload_n hx hb dL_law_2161 rfl (lv_at hl 3 rfl) ?_
  obtain ⟨r1126, M1125, hq1124, hf⟩ := bd2_o hf
  refine hs_ci (hs_runSX C0 hH hS (n := 3) (As := [.ref (YA Y 0 0), .int (xs (ix (a5 + (1 : Int32)))), .ref (YA Y 33 0)]) (rest := []) (c_L_reachable hl9 M (xs (ix (a5 + (1 : Int32)))) hq1124) ⟨⟨zt_980, zt_981, zt_0, zt_982⟩, by decide, by decide, by decide +kernel⟩ ⟨rfl, rfl, Nat.le_of_ble_eq_true rfl, Nat.le_of_ble_eq_true rfl⟩ rfl rfl hl.1 (Nat.le_of_ble_eq_true rfl) ⟨by omega, by omega⟩ dL_law_2162) hS (fun H locs hH hS => ?_)
  refine lv_istore (lv' := [(6, .int r1126), (0, .ref b), (1, .ref (YA Y 0 0)), (2, .ref (YA Y 20 0)), (3, .ref (YA Y 33 0)), (4, .ref (YA Y 36 0)), (5, .int a5)]) hx hb dL_law_2165 hl (by decide) rfl (fun ls hl => ?_)
  refine lv_aload_n hx hb dL_law_2167 rfl (lv_at hl 3 rfl) ?_
  refine lv_aload_n hx hb dL_law_2168 rfl (lv_at hl 1 rfl) ?_
  refine lv_iload hx hb dL_law_2169 (lv_at hl 6 rfl) ?_
  refine lv_iconst (v := (1 : Int32)) hx hb dL_law_2171 (by decide) ?_
  refine lv_iadd hx hb dL_law_2172 ?_
  refine hl_sld hx hb hX (Nat.lt_of_lt_of_le hbl hZ) (Nat.not_le.mpr hbl) hS hg1123 dL_law_2173 ?_
  obtain ⟨r1129, M1128, hq1127, hf⟩ := bd2_o hf
  refine hs_ci (hs_runV C0 hH hS (n := 1) (As := [.int (xs (ix (a5 + (1 : Int32))))]) (rest := []) (c_X8_reachable M1125 (xs (ix (a5 + (1 : Int32)))) hq1127) ⟨⟨zt_1906, zt_1907, zt_1908, zt_13, zt_1909⟩, rfl, by decide, by decide, by decide +kernel⟩ ⟨rfl, rfl, Nat.le_of_ble_eq_true rfl, Nat.le_of_ble_eq_true rfl⟩ (hs_recv hK hH 20 0 (by decide) 12 rfl rfl) rfl rfl hl.1 (Nat.le_of_ble_eq_true rfl) ⟨by omega, by omega⟩ dL_law_2174) hS (fun H locs hH hS => ?_)
  refine lv_istore (lv' := [(7, .int r1129), (6, .int r1126), (0, .ref b), (1, .ref (YA Y 0 0)), (2, .ref (YA Y 20 0)), (3, .ref (YA Y 33 0)), (4, .ref (YA Y 36 0)), (5, .int a5)]) hx hb dL_law_2177 hl (by decide) rfl (fun ls hl => ?_)
  refine lv_aload_n hx hb dL_law_2179 rfl (lv_at hl 4 rfl) ?_
  obtain ⟨r1131, hq1130, hf⟩ := bd_o hf
  refine hs_ci (hs_runV C0 hH hS (n := 0) (As := []) (rest := []) (c_X8_thrown M1128 hq1130) ⟨⟨zt_1621, zt_1622, zt_1623, zt_13, zt_1624⟩, rfl, by decide, by decide, by decide +kernel⟩ ⟨rfl, rfl, Nat.le_of_ble_eq_true rfl, Nat.le_of_ble_eq_true rfl⟩ (hs_recv hK hH 20 0 (by decide) 12 rfl rfl) rfl rfl hl.1 (Nat.le_of_ble_eq_true rfl) ⟨by omega, by omega⟩ dL_law_2180) hS (fun H locs hH hS => ?_)
  refine lv_iload hx hb dL_law_2183 (lv_at hl 1 rfl) ?_
  refine lv_icmp_eq (tgt := 2190) hx hb dL_law_2185 (by decide) (fun hc1134 => ?_) (fun hc1134 => ?_)
  · have hf := if_t hf hc1134
    refine lv_iload hx hb dL_law_2190 (lv_at hl 1 rfl) ?_
    refine lv_if_ne (tgt := 2207) hx hb dL_law_2192 (by decide) (fun hc1133 => ?_) (fun hc1133 => ?_)
    · have hf := if_f hf hc1133
      refine lv_goto (tgt := 3289) hx hb dL_law_2207 (by decide) ?_
      refine W.widen (k := C + 14) (n := S + 1696) (by omega) (by omega) ?_
      exact w_L_law_3289 C0 hl9 xs L hX hbl C S hC9 hS9 k28 hk28 M1128 a5 hf _ _ _ hH hS (lv_sub hl [2, 3, 4, 5, 6, 7] rfl)
    · have hf := if_t hf hc1133
      refine lv_aload_n hx hb dL_law_2195 rfl (lv_at hl 5 rfl) ?_
      refine lv_iconst (v := (0 : Int32)) hx hb dL_law_2196 (by decide) ?_
      refine hl_laload hx hb hK hH dL_law_2197 ?_
      refine lv_iload hx hb dL_law_2198 (lv_at hl 0 rfl) ?_
      refine lv_i2l (v := r1129.toInt64) hx hb dL_law_2200 rfl ?_
      refine W.lcmp hx hb dL_law_2201 ?_
      refine lv_if_eq (tgt := 2207) hx hb dL_law_2202 (by decide) (fun hc1132 => ?_) (fun hc1132 => ?_)
      · have hf := if_t hf hc1132
        refine lv_goto (tgt := 3289) hx hb dL_law_2207 (by decide) ?_
        refine W.widen (k := C + 14) (n := S + 1696) (by omega) (by omega) ?_
        exact w_L_law_3289 C0 hl9 xs L hX hbl C S hC9 hS9 k28 hk28 M1128 a5 hf _ _ _ hH hS (lv_sub hl [2, 3, 4, 5, 6, 7] rfl)
      · have hf := if_f hf hc1132
        refine lv_iconst (v := (0 : Int32)) hx hb dL_law_2205 (by decide) ?_
        cases hf
  · have hf := if_f hf hc1134
    refine lv_iconst (v := (0 : Int32)) hx hb dL_law_2188 (by decide) ?_
    cases hf
def f_L_law_2210 (xs : Nat → Int32) (L : Nat) (k28 : Mem → Int32 → Option Unit) (M : Mem) (a5 : Int32) : Option Unit := if vin (a5 + (1 : Int32)) L then (bd2 (f_L_forecast M (xs (ix (a5 + (1 : Int32))))) fun r1138 M1137 => bd2 (f_X8_forecast M1137 (xs (ix (a5 + (1 : Int32))))) fun r1141 M1140 => bd (f_X8_thrown M1140) fun r1143 => (if r1143 = r1138 then (if r1138 = 0 then (if (lg_cmp ((M1140 33 0 0).toInt64) r1141.toInt64) = 0 then f_L_law_3289 xs L k28 M1140 a5 else none) else f_L_law_3289 xs L k28 M1140 a5) else none)) else none
set_option maxHeartbeats 8000000 in
set_option maxRecDepth 100000 in
theorem w_L_law_2210 {Y : LY} {p : Program} {l : Launch} {e : Env} {s : State} {m : MethodId} {b : Nat} {below : List Frame} {meth : Method} {c : Code} (C0 : BE Y p s m #[Value.ref b] meth c cL_law 9 ret RL) (hl9 : l.stackTraces = false) (xs : Nat → Int32) (L : Nat) (hX : va_X b L xs s s.heap) (hbl : b < YZ Y) (C S : Nat) (hC9 : C + 60 ≤ 603072) (hS9 : S + 8000 ≤ 7182442) (k28 : Mem → Int32 → Option Unit) (hk28 : ∀ (M : Mem) (a5 : Int32), k28 M a5 = some () → ∀ (H : Heap) (locs : List Loc) (ls : Array Slot), HS Y M H → va_S (AZ Y) s.heap H locs → lv_has ls 9 [(0, .ref b), (1, .ref (YA Y 0 0)), (2, .ref (YA Y 20 0)), (3, .ref (YA Y 33 0)), (4, .ref (YA Y 36 0)), (5, .int a5)] → W p l e room_1 s m #[Value.ref b] below meth c H locs (C + 60) (S + 8000) (lw_Z below #[Value.ref b] s) (F0 m 28 ls [])) : ∀ (M : Mem) (a5 : Int32), f_L_law_2210 xs L k28 M a5 = some () → ∀ (H : Heap) (locs : List Loc) (ls : Array Slot), HS Y M H → va_S (AZ Y) s.heap H locs → lv_has ls 9 [(0, .ref b), (1, .ref (YA Y 0 0)), (2, .ref (YA Y 20 0)), (3, .ref (YA Y 33 0)), (4, .ref (YA Y 36 0)), (5, .int a5)] → W p l e room_1 s m #[Value.ref b] below meth c H locs (C + 0) (S + 0) (lw_Z below #[Value.ref b] s) (F0 m 2210 ls []) := by
  obtain ⟨hx, hb, hr, hml, hown, hA, hlocks, hK, hZ⟩ := id C0
  have hR1 : room_1.cells = 603072 := rfl
  have hR2 : room_1.slots = 7182442 := rfl
  intro M a5 hf H locs ls hH hS hl
  unfold f_L_law_2210 at hf
  refine lv_aload_n hx hb dL_law_2210 rfl (lv_at hl 1 rfl) ?_
  refine lv_aload_n hx hb dL_law_2211 rfl (lv_at hl 0 rfl) ?_
  refine lv_iload hx hb dL_law_2212 (lv_at hl 5 rfl) ?_
  refine lv_iconst (v := (1 : Int32)) hx hb dL_law_2214 (by decide) ?_
  refine lv_iadd hx hb dL_law_2215 ?_
  obtain ⟨hg1135, hf⟩ := gd_o hf
  refine hl_sld hx hb hX (Nat.lt_of_lt_of_le hbl hZ) (Nat.not_le.mpr hbl) hS hg1135 dL_law_2216 ?_
  refine lv_aload_n hx hb dL_law_2217 rfl (lv_at hl 3 rfl) ?_
  obtain ⟨r1138, M1137, hq1136, hf⟩ := bd2_o hf
  refine hs_ci (hs_runSX C0 hH hS (n := 3) (As := [.ref (YA Y 0 0), .int (xs (ix (a5 + (1 : Int32)))), .ref (YA Y 33 0)]) (rest := []) (c_L_forecast hl9 M (xs (ix (a5 + (1 : Int32)))) hq1136) ⟨⟨zt_988, zt_989, zt_0, zt_990⟩, by decide, by decide, by decide +kernel⟩ ⟨rfl, rfl, Nat.le_of_ble_eq_true rfl, Nat.le_of_ble_eq_true rfl⟩ rfl rfl hl.1 (Nat.le_of_ble_eq_true rfl) ⟨by omega, by omega⟩ dL_law_2218) hS (fun H locs hH hS => ?_)
  refine lv_istore (lv' := [(6, .int r1138), (0, .ref b), (1, .ref (YA Y 0 0)), (2, .ref (YA Y 20 0)), (3, .ref (YA Y 33 0)), (4, .ref (YA Y 36 0)), (5, .int a5)]) hx hb dL_law_2221 hl (by decide) rfl (fun ls hl => ?_)
  refine lv_aload_n hx hb dL_law_2223 rfl (lv_at hl 3 rfl) ?_
  refine lv_aload_n hx hb dL_law_2224 rfl (lv_at hl 1 rfl) ?_
  refine lv_iload hx hb dL_law_2225 (lv_at hl 6 rfl) ?_
  refine lv_iconst (v := (1 : Int32)) hx hb dL_law_2227 (by decide) ?_
  refine lv_iadd hx hb dL_law_2228 ?_
  refine hl_sld hx hb hX (Nat.lt_of_lt_of_le hbl hZ) (Nat.not_le.mpr hbl) hS hg1135 dL_law_2229 ?_
  obtain ⟨r1141, M1140, hq1139, hf⟩ := bd2_o hf
  refine hs_ci (hs_runV C0 hH hS (n := 1) (As := [.int (xs (ix (a5 + (1 : Int32))))]) (rest := []) (c_X8_forecast M1137 (xs (ix (a5 + (1 : Int32)))) hq1139) ⟨⟨zt_1910, zt_1911, zt_1912, zt_13, zt_1913⟩, rfl, by decide, by decide, by decide +kernel⟩ ⟨rfl, rfl, Nat.le_of_ble_eq_true rfl, Nat.le_of_ble_eq_true rfl⟩ (hs_recv hK hH 20 0 (by decide) 12 rfl rfl) rfl rfl hl.1 (Nat.le_of_ble_eq_true rfl) ⟨by omega, by omega⟩ dL_law_2230) hS (fun H locs hH hS => ?_)
  refine lv_istore (lv' := [(7, .int r1141), (6, .int r1138), (0, .ref b), (1, .ref (YA Y 0 0)), (2, .ref (YA Y 20 0)), (3, .ref (YA Y 33 0)), (4, .ref (YA Y 36 0)), (5, .int a5)]) hx hb dL_law_2233 hl (by decide) rfl (fun ls hl => ?_)
  refine lv_aload_n hx hb dL_law_2235 rfl (lv_at hl 4 rfl) ?_
  obtain ⟨r1143, hq1142, hf⟩ := bd_o hf
  refine hs_ci (hs_runV C0 hH hS (n := 0) (As := []) (rest := []) (c_X8_thrown M1140 hq1142) ⟨⟨zt_1621, zt_1622, zt_1623, zt_13, zt_1624⟩, rfl, by decide, by decide, by decide +kernel⟩ ⟨rfl, rfl, Nat.le_of_ble_eq_true rfl, Nat.le_of_ble_eq_true rfl⟩ (hs_recv hK hH 20 0 (by decide) 12 rfl rfl) rfl rfl hl.1 (Nat.le_of_ble_eq_true rfl) ⟨by omega, by omega⟩ dL_law_2236) hS (fun H locs hH hS => ?_)
  refine lv_iload hx hb dL_law_2239 (lv_at hl 1 rfl) ?_
  refine lv_icmp_eq (tgt := 2246) hx hb dL_law_2241 (by decide) (fun hc1146 => ?_) (fun hc1146 => ?_)
  · have hf := if_t hf hc1146
    refine lv_iload hx hb dL_law_2246 (lv_at hl 1 rfl) ?_
    refine lv_if_ne (tgt := 2263) hx hb dL_law_2248 (by decide) (fun hc1145 => ?_) (fun hc1145 => ?_)
    · have hf := if_f hf hc1145
      refine lv_goto (tgt := 3289) hx hb dL_law_2263 (by decide) ?_
      refine W.widen (k := C + 14) (n := S + 1696) (by omega) (by omega) ?_
      exact w_L_law_3289 C0 hl9 xs L hX hbl C S hC9 hS9 k28 hk28 M1140 a5 hf _ _ _ hH hS (lv_sub hl [2, 3, 4, 5, 6, 7] rfl)
    · have hf := if_t hf hc1145
      refine lv_aload_n hx hb dL_law_2251 rfl (lv_at hl 5 rfl) ?_
      refine lv_iconst (v := (0 : Int32)) hx hb dL_law_2252 (by decide) ?_
      refine hl_laload hx hb hK hH dL_law_2253 ?_
      refine lv_iload hx hb dL_law_2254 (lv_at hl 0 rfl) ?_
      refine lv_i2l (v := r1141.toInt64) hx hb dL_law_2256 rfl ?_
      refine W.lcmp hx hb dL_law_2257 ?_
      refine lv_if_eq (tgt := 2263) hx hb dL_law_2258 (by decide) (fun hc1144 => ?_) (fun hc1144 => ?_)
      · have hf := if_t hf hc1144
        refine lv_goto (tgt := 3289) hx hb dL_law_2263 (by decide) ?_
        refine W.widen (k := C + 14) (n := S + 1696) (by omega) (by omega) ?_
        exact w_L_law_3289 C0 hl9 xs L hX hbl C S hC9 hS9 k28 hk28 M1140 a5 hf _ _ _ hH hS (lv_sub hl [2, 3, 4, 5, 6, 7] rfl)
      · have hf := if_f hf hc1144
        refine lv_iconst (v := (0 : Int32)) hx hb dL_law_2261 (by decide) ?_
        cases hf
  · have hf := if_f hf hc1146
    refine lv_iconst (v := (0 : Int32)) hx hb dL_law_2244 (by decide) ?_
    cases hf
def f_L_law_2266 (xs : Nat → Int32) (L : Nat) (k28 : Mem → Int32 → Option Unit) (M : Mem) (a5 : Int32) : Option Unit := if vin (a5 + (1 : Int32)) L then (bd2 (f_L_nextLink M (xs (ix (a5 + (1 : Int32))))) fun r1150 M1149 => bd2 (f_X8_nextLink M1149 (xs (ix (a5 + (1 : Int32))))) fun r1153 M1152 => bd (f_X8_thrown M1152) fun r1155 => (if r1155 = r1150 then (if r1150 = 0 then (if (lg_cmp ((M1152 33 0 0).toInt64) r1153.toInt64) = 0 then f_L_law_3289 xs L k28 M1152 a5 else none) else f_L_law_3289 xs L k28 M1152 a5) else none)) else none
set_option maxHeartbeats 8000000 in
set_option maxRecDepth 100000 in
theorem w_L_law_2266 {Y : LY} {p : Program} {l : Launch} {e : Env} {s : State} {m : MethodId} {b : Nat} {below : List Frame} {meth : Method} {c : Code} (C0 : BE Y p s m #[Value.ref b] meth c cL_law 9 ret RL) (hl9 : l.stackTraces = false) (xs : Nat → Int32) (L : Nat) (hX : va_X b L xs s s.heap) (hbl : b < YZ Y) (C S : Nat) (hC9 : C + 60 ≤ 603072) (hS9 : S + 8000 ≤ 7182442) (k28 : Mem → Int32 → Option Unit) (hk28 : ∀ (M : Mem) (a5 : Int32), k28 M a5 = some () → ∀ (H : Heap) (locs : List Loc) (ls : Array Slot), HS Y M H → va_S (AZ Y) s.heap H locs → lv_has ls 9 [(0, .ref b), (1, .ref (YA Y 0 0)), (2, .ref (YA Y 20 0)), (3, .ref (YA Y 33 0)), (4, .ref (YA Y 36 0)), (5, .int a5)] → W p l e room_1 s m #[Value.ref b] below meth c H locs (C + 60) (S + 8000) (lw_Z below #[Value.ref b] s) (F0 m 28 ls [])) : ∀ (M : Mem) (a5 : Int32), f_L_law_2266 xs L k28 M a5 = some () → ∀ (H : Heap) (locs : List Loc) (ls : Array Slot), HS Y M H → va_S (AZ Y) s.heap H locs → lv_has ls 9 [(0, .ref b), (1, .ref (YA Y 0 0)), (2, .ref (YA Y 20 0)), (3, .ref (YA Y 33 0)), (4, .ref (YA Y 36 0)), (5, .int a5)] → W p l e room_1 s m #[Value.ref b] below meth c H locs (C + 0) (S + 0) (lw_Z below #[Value.ref b] s) (F0 m 2266 ls []) := by
  obtain ⟨hx, hb, hr, hml, hown, hA, hlocks, hK, hZ⟩ := id C0
  have hR1 : room_1.cells = 603072 := rfl
  have hR2 : room_1.slots = 7182442 := rfl
  intro M a5 hf H locs ls hH hS hl
  unfold f_L_law_2266 at hf
  refine lv_aload_n hx hb dL_law_2266 rfl (lv_at hl 1 rfl) ?_
  refine lv_aload_n hx hb dL_law_2267 rfl (lv_at hl 0 rfl) ?_
  refine lv_iload hx hb dL_law_2268 (lv_at hl 5 rfl) ?_
  refine lv_iconst (v := (1 : Int32)) hx hb dL_law_2270 (by decide) ?_
  refine lv_iadd hx hb dL_law_2271 ?_
  obtain ⟨hg1147, hf⟩ := gd_o hf
  refine hl_sld hx hb hX (Nat.lt_of_lt_of_le hbl hZ) (Nat.not_le.mpr hbl) hS hg1147 dL_law_2272 ?_
  refine lv_aload_n hx hb dL_law_2273 rfl (lv_at hl 3 rfl) ?_
  obtain ⟨r1150, M1149, hq1148, hf⟩ := bd2_o hf
  refine hs_ci (hs_runSX C0 hH hS (n := 3) (As := [.ref (YA Y 0 0), .int (xs (ix (a5 + (1 : Int32)))), .ref (YA Y 33 0)]) (rest := []) (c_L_nextLink hl9 M (xs (ix (a5 + (1 : Int32)))) hq1148) ⟨⟨zt_999, zt_1000, zt_0, zt_1001⟩, by decide, by decide, by decide +kernel⟩ ⟨rfl, rfl, Nat.le_of_ble_eq_true rfl, Nat.le_of_ble_eq_true rfl⟩ rfl rfl hl.1 (Nat.le_of_ble_eq_true rfl) ⟨by omega, by omega⟩ dL_law_2274) hS (fun H locs hH hS => ?_)
  refine lv_istore (lv' := [(6, .int r1150), (0, .ref b), (1, .ref (YA Y 0 0)), (2, .ref (YA Y 20 0)), (3, .ref (YA Y 33 0)), (4, .ref (YA Y 36 0)), (5, .int a5)]) hx hb dL_law_2277 hl (by decide) rfl (fun ls hl => ?_)
  refine lv_aload_n hx hb dL_law_2279 rfl (lv_at hl 3 rfl) ?_
  refine lv_aload_n hx hb dL_law_2280 rfl (lv_at hl 1 rfl) ?_
  refine lv_iload hx hb dL_law_2281 (lv_at hl 6 rfl) ?_
  refine lv_iconst (v := (1 : Int32)) hx hb dL_law_2283 (by decide) ?_
  refine lv_iadd hx hb dL_law_2284 ?_
  refine hl_sld hx hb hX (Nat.lt_of_lt_of_le hbl hZ) (Nat.not_le.mpr hbl) hS hg1147 dL_law_2285 ?_
  obtain ⟨r1153, M1152, hq1151, hf⟩ := bd2_o hf
  refine hs_ci (hs_runV C0 hH hS (n := 1) (As := [.int (xs (ix (a5 + (1 : Int32))))]) (rest := []) (c_X8_nextLink M1149 (xs (ix (a5 + (1 : Int32)))) hq1151) ⟨⟨zt_1914, zt_1915, zt_1916, zt_13, zt_1917⟩, rfl, by decide, by decide, by decide +kernel⟩ ⟨rfl, rfl, Nat.le_of_ble_eq_true rfl, Nat.le_of_ble_eq_true rfl⟩ (hs_recv hK hH 20 0 (by decide) 12 rfl rfl) rfl rfl hl.1 (Nat.le_of_ble_eq_true rfl) ⟨by omega, by omega⟩ dL_law_2286) hS (fun H locs hH hS => ?_)
  refine lv_istore (lv' := [(7, .int r1153), (6, .int r1150), (0, .ref b), (1, .ref (YA Y 0 0)), (2, .ref (YA Y 20 0)), (3, .ref (YA Y 33 0)), (4, .ref (YA Y 36 0)), (5, .int a5)]) hx hb dL_law_2289 hl (by decide) rfl (fun ls hl => ?_)
  refine lv_aload_n hx hb dL_law_2291 rfl (lv_at hl 4 rfl) ?_
  obtain ⟨r1155, hq1154, hf⟩ := bd_o hf
  refine hs_ci (hs_runV C0 hH hS (n := 0) (As := []) (rest := []) (c_X8_thrown M1152 hq1154) ⟨⟨zt_1621, zt_1622, zt_1623, zt_13, zt_1624⟩, rfl, by decide, by decide, by decide +kernel⟩ ⟨rfl, rfl, Nat.le_of_ble_eq_true rfl, Nat.le_of_ble_eq_true rfl⟩ (hs_recv hK hH 20 0 (by decide) 12 rfl rfl) rfl rfl hl.1 (Nat.le_of_ble_eq_true rfl) ⟨by omega, by omega⟩ dL_law_2292) hS (fun H locs hH hS => ?_)
  refine lv_iload hx hb dL_law_2295 (lv_at hl 1 rfl) ?_
  refine lv_icmp_eq (tgt := 2302) hx hb dL_law_2297 (by decide) (fun hc1158 => ?_) (fun hc1158 => ?_)
  · have hf := if_t hf hc1158
    refine lv_iload hx hb dL_law_2302 (lv_at hl 1 rfl) ?_
    refine lv_if_ne (tgt := 2319) hx hb dL_law_2304 (by decide) (fun hc1157 => ?_) (fun hc1157 => ?_)
    · have hf := if_f hf hc1157
      refine lv_goto (tgt := 3289) hx hb dL_law_2319 (by decide) ?_
      refine W.widen (k := C + 14) (n := S + 1696) (by omega) (by omega) ?_
      exact w_L_law_3289 C0 hl9 xs L hX hbl C S hC9 hS9 k28 hk28 M1152 a5 hf _ _ _ hH hS (lv_sub hl [2, 3, 4, 5, 6, 7] rfl)
    · have hf := if_t hf hc1157
      refine lv_aload_n hx hb dL_law_2307 rfl (lv_at hl 5 rfl) ?_
      refine lv_iconst (v := (0 : Int32)) hx hb dL_law_2308 (by decide) ?_
      refine hl_laload hx hb hK hH dL_law_2309 ?_
      refine lv_iload hx hb dL_law_2310 (lv_at hl 0 rfl) ?_
      refine lv_i2l (v := r1153.toInt64) hx hb dL_law_2312 rfl ?_
      refine W.lcmp hx hb dL_law_2313 ?_
      refine lv_if_eq (tgt := 2319) hx hb dL_law_2314 (by decide) (fun hc1156 => ?_) (fun hc1156 => ?_)
      · have hf := if_t hf hc1156
        refine lv_goto (tgt := 3289) hx hb dL_law_2319 (by decide) ?_
        refine W.widen (k := C + 14) (n := S + 1696) (by omega) (by omega) ?_
        exact w_L_law_3289 C0 hl9 xs L hX hbl C S hC9 hS9 k28 hk28 M1152 a5 hf _ _ _ hH hS (lv_sub hl [2, 3, 4, 5, 6, 7] rfl)
      · have hf := if_f hf hc1156
        refine lv_iconst (v := (0 : Int32)) hx hb dL_law_2317 (by decide) ?_
        cases hf
  · have hf := if_f hf hc1158
    refine lv_iconst (v := (0 : Int32)) hx hb dL_law_2300 (by decide) ?_
    cases hf
def f_L_law_2388 (xs : Nat → Int32) (L : Nat) (k28 : Mem → Int32 → Option Unit) (M : Mem) (a5 : Int32) (b0 : Int64) (b1 : Int64) : Option Unit := (if (lg_cmp b1 b0) = 0 then f_L_law_3289 xs L k28 M a5 else none)
set_option maxHeartbeats 8000000 in
set_option maxRecDepth 100000 in
theorem w_L_law_2388 {Y : LY} {p : Program} {l : Launch} {e : Env} {s : State} {m : MethodId} {b : Nat} {below : List Frame} {meth : Method} {c : Code} (C0 : BE Y p s m #[Value.ref b] meth c cL_law 9 ret RL) (hl9 : l.stackTraces = false) (xs : Nat → Int32) (L : Nat) (hX : va_X b L xs s s.heap) (hbl : b < YZ Y) (C S : Nat) (hC9 : C + 60 ≤ 603072) (hS9 : S + 8000 ≤ 7182442) (k28 : Mem → Int32 → Option Unit) (hk28 : ∀ (M : Mem) (a5 : Int32), k28 M a5 = some () → ∀ (H : Heap) (locs : List Loc) (ls : Array Slot), HS Y M H → va_S (AZ Y) s.heap H locs → lv_has ls 9 [(0, .ref b), (1, .ref (YA Y 0 0)), (2, .ref (YA Y 20 0)), (3, .ref (YA Y 33 0)), (4, .ref (YA Y 36 0)), (5, .int a5)] → W p l e room_1 s m #[Value.ref b] below meth c H locs (C + 60) (S + 8000) (lw_Z below #[Value.ref b] s) (F0 m 28 ls [])) : ∀ (M : Mem) (a5 : Int32) (b0 : Int64) (b1 : Int64), f_L_law_2388 xs L k28 M a5 b0 b1 = some () → ∀ (H : Heap) (locs : List Loc) (ls : Array Slot), HS Y M H → va_S (AZ Y) s.heap H locs → lv_has ls 9 [(0, .ref b), (1, .ref (YA Y 0 0)), (2, .ref (YA Y 20 0)), (3, .ref (YA Y 33 0)), (4, .ref (YA Y 36 0)), (5, .int a5)] → W p l e room_1 s m #[Value.ref b] below meth c H locs (C + 1) (S + 6) (lw_Z below #[Value.ref b] s) (F0 m 2388 ls [.long b0, .long b1]) := by
  obtain ⟨hx, hb, hr, hml, hown, hA, hlocks, hK, hZ⟩ := id C0
  have hR1 : room_1.cells = 603072 := rfl
  have hR2 : room_1.slots = 7182442 := rfl
  intro M a5 b0 b1 hf H locs ls hH hS hl
  unfold f_L_law_2388 at hf
  refine W.lcmp hx hb dL_law_2388 ?_
  refine lv_if_eq (tgt := 2394) hx hb dL_law_2389 (by decide) (fun hc1159 => ?_) (fun hc1159 => ?_)
  · have hf := if_t hf hc1159
    refine lv_goto (tgt := 3289) hx hb dL_law_2394 (by decide) ?_
    refine W.widen (k := C + 14) (n := S + 1696) (by omega) (by omega) ?_
    exact w_L_law_3289 C0 hl9 xs L hX hbl C S hC9 hS9 k28 hk28 M a5 hf _ _ _ hH hS (lv_sub hl [0, 1, 2, 3, 4, 5] rfl)
  · have hf := if_f hf hc1159
    refine lv_iconst (v := (0 : Int32)) hx hb dL_law_2392 (by decide) ?_
    cases hf
def f_L_law_2322 (xs : Nat → Int32) (L : Nat) (k28 : Mem → Int32 → Option Unit) (M : Mem) (a5 : Int32) : Option Unit := if vin (a5 + (1 : Int32)) L then (if vin (a5 + (2 : Int32)) L then (bd2 (f_L_canSend M (xs (ix (a5 + (1 : Int32)))) (xs (ix (a5 + (2 : Int32))))) fun r1164 M1163 => bd2 (f_X8_canSend M1163 (xs (ix (a5 + (1 : Int32)))) (xs (ix (a5 + (2 : Int32))))) fun r1167 M1166 => bd (f_X8_thrown M1166) fun r1169 => (if r1169 = r1164 then (if r1164 = 0 then (if r1167 = 0 then f_L_law_2388 xs L k28 M1166 a5 (0 : Int64) ((M1166 33 0 0).toInt64) else f_L_law_2388 xs L k28 M1166 a5 (1 : Int64) ((M1166 33 0 0).toInt64)) else f_L_law_3289 xs L k28 M1166 a5) else none)) else none) else none
set_option maxHeartbeats 8000000 in
set_option maxRecDepth 100000 in
theorem w_L_law_2322 {Y : LY} {p : Program} {l : Launch} {e : Env} {s : State} {m : MethodId} {b : Nat} {below : List Frame} {meth : Method} {c : Code} (C0 : BE Y p s m #[Value.ref b] meth c cL_law 9 ret RL) (hl9 : l.stackTraces = false) (xs : Nat → Int32) (L : Nat) (hX : va_X b L xs s s.heap) (hbl : b < YZ Y) (C S : Nat) (hC9 : C + 60 ≤ 603072) (hS9 : S + 8000 ≤ 7182442) (k28 : Mem → Int32 → Option Unit) (hk28 : ∀ (M : Mem) (a5 : Int32), k28 M a5 = some () → ∀ (H : Heap) (locs : List Loc) (ls : Array Slot), HS Y M H → va_S (AZ Y) s.heap H locs → lv_has ls 9 [(0, .ref b), (1, .ref (YA Y 0 0)), (2, .ref (YA Y 20 0)), (3, .ref (YA Y 33 0)), (4, .ref (YA Y 36 0)), (5, .int a5)] → W p l e room_1 s m #[Value.ref b] below meth c H locs (C + 60) (S + 8000) (lw_Z below #[Value.ref b] s) (F0 m 28 ls [])) : ∀ (M : Mem) (a5 : Int32), f_L_law_2322 xs L k28 M a5 = some () → ∀ (H : Heap) (locs : List Loc) (ls : Array Slot), HS Y M H → va_S (AZ Y) s.heap H locs → lv_has ls 9 [(0, .ref b), (1, .ref (YA Y 0 0)), (2, .ref (YA Y 20 0)), (3, .ref (YA Y 33 0)), (4, .ref (YA Y 36 0)), (5, .int a5)] → W p l e room_1 s m #[Value.ref b] below meth c H locs (C + 0) (S + 0) (lw_Z below #[Value.ref b] s) (F0 m 2322 ls []) := by
  obtain ⟨hx, hb, hr, hml, hown, hA, hlocks, hK, hZ⟩ := id C0
  have hR1 : room_1.cells = 603072 := rfl
  have hR2 : room_1.slots = 7182442 := rfl
  intro M a5 hf H locs ls hH hS hl
  unfold f_L_law_2322 at hf
  refine lv_aload_n hx hb dL_law_2322 rfl (lv_at hl 1 rfl) ?_
  refine lv_aload_n hx hb dL_law_2323 rfl (lv_at hl 0 rfl) ?_
  refine lv_iload hx hb dL_law_2324 (lv_at hl 5 rfl) ?_
  refine lv_iconst (v := (1 : Int32)) hx hb dL_law_2326 (by decide) ?_
  refine lv_iadd hx hb dL_law_2327 ?_
  obtain ⟨hg1160, hf⟩ := gd_o hf
  refine hl_sld hx hb hX (Nat.lt_of_lt_of_le hbl hZ) (Nat.not_le.mpr hbl) hS hg1160 dL_law_2328 ?_
  refine lv_aload_n hx hb dL_law_2329 rfl (lv_at hl 0 rfl) ?_
  refine lv_iload hx hb dL_law_2330 (lv_at hl 5 rfl) ?_
  refine lv_iconst (v := (2 : Int32)) hx hb dL_law_2332 (by decide) ?_
  refine lv_iadd hx hb dL_law_2333 ?_
  obtain ⟨hg1161, hf⟩ := gd_o hf
  refine hl_sld hx hb hX (Nat.lt_of_lt_of_le hbl hZ) (Nat.not_le.mpr hbl) hS hg1161 dL_law_2334 ?_
  refine lv_aload_n hx hb dL_law_2335 rfl (lv_at hl 3 rfl) ?_
  obtain ⟨r1164, M1163, hq1162, hf⟩ := bd2_o hf
  refine hs_ci (hs_runSX C0 hH hS (n := 4) (As := [.ref (YA Y 0 0), .int (xs (ix (a5 + (1 : Int32)))), .int (xs (ix (a5 + (2 : Int32)))), .ref (YA Y 33 0)]) (rest := []) (c_L_canSend hl9 M (xs (ix (a5 + (1 : Int32)))) (xs (ix (a5 + (2 : Int32)))) hq1162) ⟨⟨zt_1008, zt_1009, zt_0, zt_1010⟩, by decide, by decide, by decide +kernel⟩ ⟨rfl, rfl, Nat.le_of_ble_eq_true rfl, Nat.le_of_ble_eq_true rfl⟩ rfl rfl hl.1 (Nat.le_of_ble_eq_true rfl) ⟨by omega, by omega⟩ dL_law_2336) hS (fun H locs hH hS => ?_)
  refine lv_istore (lv' := [(6, .int r1164), (0, .ref b), (1, .ref (YA Y 0 0)), (2, .ref (YA Y 20 0)), (3, .ref (YA Y 33 0)), (4, .ref (YA Y 36 0)), (5, .int a5)]) hx hb dL_law_2339 hl (by decide) rfl (fun ls hl => ?_)
  refine lv_aload_n hx hb dL_law_2341 rfl (lv_at hl 3 rfl) ?_
  refine lv_aload_n hx hb dL_law_2342 rfl (lv_at hl 1 rfl) ?_
  refine lv_iload hx hb dL_law_2343 (lv_at hl 6 rfl) ?_
  refine lv_iconst (v := (1 : Int32)) hx hb dL_law_2345 (by decide) ?_
  refine lv_iadd hx hb dL_law_2346 ?_
  refine hl_sld hx hb hX (Nat.lt_of_lt_of_le hbl hZ) (Nat.not_le.mpr hbl) hS hg1160 dL_law_2347 ?_
  refine lv_aload_n hx hb dL_law_2348 rfl (lv_at hl 1 rfl) ?_
  refine lv_iload hx hb dL_law_2349 (lv_at hl 6 rfl) ?_
  refine lv_iconst (v := (2 : Int32)) hx hb dL_law_2351 (by decide) ?_
  refine lv_iadd hx hb dL_law_2352 ?_
  refine hl_sld hx hb hX (Nat.lt_of_lt_of_le hbl hZ) (Nat.not_le.mpr hbl) hS hg1161 dL_law_2353 ?_
  obtain ⟨r1167, M1166, hq1165, hf⟩ := bd2_o hf
  refine hs_ci (hs_runV C0 hH hS (n := 2) (As := [.int (xs (ix (a5 + (1 : Int32)))), .int (xs (ix (a5 + (2 : Int32))))]) (rest := []) (c_X8_canSend M1163 (xs (ix (a5 + (1 : Int32)))) (xs (ix (a5 + (2 : Int32)))) hq1165) ⟨⟨zt_1918, zt_1919, zt_1920, zt_13, zt_1921⟩, rfl, by decide, by decide, by decide +kernel⟩ ⟨rfl, rfl, Nat.le_of_ble_eq_true rfl, Nat.le_of_ble_eq_true rfl⟩ (hs_recv hK hH 20 0 (by decide) 12 rfl rfl) rfl rfl hl.1 (Nat.le_of_ble_eq_true rfl) ⟨by omega, by omega⟩ dL_law_2354) hS (fun H locs hH hS => ?_)
  refine lv_istore (lv' := [(7, .int r1167), (6, .int r1164), (0, .ref b), (1, .ref (YA Y 0 0)), (2, .ref (YA Y 20 0)), (3, .ref (YA Y 33 0)), (4, .ref (YA Y 36 0)), (5, .int a5)]) hx hb dL_law_2357 hl (by decide) rfl (fun ls hl => ?_)
  refine lv_aload_n hx hb dL_law_2359 rfl (lv_at hl 4 rfl) ?_
  obtain ⟨r1169, hq1168, hf⟩ := bd_o hf
  refine hs_ci (hs_runV C0 hH hS (n := 0) (As := []) (rest := []) (c_X8_thrown M1166 hq1168) ⟨⟨zt_1621, zt_1622, zt_1623, zt_13, zt_1624⟩, rfl, by decide, by decide, by decide +kernel⟩ ⟨rfl, rfl, Nat.le_of_ble_eq_true rfl, Nat.le_of_ble_eq_true rfl⟩ (hs_recv hK hH 20 0 (by decide) 12 rfl rfl) rfl rfl hl.1 (Nat.le_of_ble_eq_true rfl) ⟨by omega, by omega⟩ dL_law_2360) hS (fun H locs hH hS => ?_)
  refine lv_iload hx hb dL_law_2363 (lv_at hl 1 rfl) ?_
  refine lv_icmp_eq (tgt := 2370) hx hb dL_law_2365 (by decide) (fun hc1172 => ?_) (fun hc1172 => ?_)
  · have hf := if_t hf hc1172
    refine lv_iload hx hb dL_law_2370 (lv_at hl 1 rfl) ?_
    refine lv_if_ne (tgt := 2394) hx hb dL_law_2372 (by decide) (fun hc1171 => ?_) (fun hc1171 => ?_)
    · have hf := if_f hf hc1171
      refine lv_goto (tgt := 3289) hx hb dL_law_2394 (by decide) ?_
      refine W.widen (k := C + 14) (n := S + 1696) (by omega) (by omega) ?_
      exact w_L_law_3289 C0 hl9 xs L hX hbl C S hC9 hS9 k28 hk28 M1166 a5 hf _ _ _ hH hS (lv_sub hl [2, 3, 4, 5, 6, 7] rfl)
    · have hf := if_t hf hc1171
      refine lv_aload_n hx hb dL_law_2375 rfl (lv_at hl 5 rfl) ?_
      refine lv_iconst (v := (0 : Int32)) hx hb dL_law_2376 (by decide) ?_
      refine hl_laload hx hb hK hH dL_law_2377 ?_
      refine lv_iload hx hb dL_law_2378 (lv_at hl 0 rfl) ?_
      refine lv_if_eq (tgt := 2387) hx hb dL_law_2380 (by decide) (fun hc1170 => ?_) (fun hc1170 => ?_)
      · have hf := if_t hf hc1170
        refine lv_lconst (v := (0 : Int64)) hx hb dL_law_2387 (by decide) ?_
        refine W.widen (k := C + 1) (n := S + 6) (by omega) (by omega) ?_
        exact w_L_law_2388 C0 hl9 xs L hX hbl C S hC9 hS9 k28 hk28 M1166 a5 (0 : Int64) ((M1166 33 0 0).toInt64) hf _ _ _ hH hS (lv_sub hl [2, 3, 4, 5, 6, 7] rfl)
      · have hf := if_f hf hc1170
        refine lv_lconst (v := (1 : Int64)) hx hb dL_law_2383 (by decide) ?_
        refine lv_goto (tgt := 2388) hx hb dL_law_2384 (by decide) ?_
        refine W.widen (k := C + 1) (n := S + 6) (by omega) (by omega) ?_
        exact w_L_law_2388 C0 hl9 xs L hX hbl C S hC9 hS9 k28 hk28 M1166 a5 (1 : Int64) ((M1166 33 0 0).toInt64) hf _ _ _ hH hS (lv_sub hl [2, 3, 4, 5, 6, 7] rfl)
  · have hf := if_f hf hc1172
    refine lv_iconst (v := (0 : Int32)) hx hb dL_law_2368 (by decide) ?_
    cases hf
def f_L_law_2397 (xs : Nat → Int32) (L : Nat) (k28 : Mem → Int32 → Option Unit) (M : Mem) (a5 : Int32) : Option Unit := if vin (a5 + (1 : Int32)) L then (bd2 (f_L_stampsMissing M (xs (ix (a5 + (1 : Int32))))) fun r1176 M1175 => bd2 (f_X8_stampsMissing M1175 (xs (ix (a5 + (1 : Int32))))) fun r1179 M1178 => bd (f_X8_thrown M1178) fun r1181 => (if r1181 = r1176 then (if r1176 = 0 then (if (lg_cmp ((M1178 33 0 0).toInt64) r1179.toInt64) = 0 then f_L_law_3289 xs L k28 M1178 a5 else none) else f_L_law_3289 xs L k28 M1178 a5) else none)) else none
set_option maxHeartbeats 8000000 in
set_option maxRecDepth 100000 in
theorem w_L_law_2397 {Y : LY} {p : Program} {l : Launch} {e : Env} {s : State} {m : MethodId} {b : Nat} {below : List Frame} {meth : Method} {c : Code} (C0 : BE Y p s m #[Value.ref b] meth c cL_law 9 ret RL) (hl9 : l.stackTraces = false) (xs : Nat → Int32) (L : Nat) (hX : va_X b L xs s s.heap) (hbl : b < YZ Y) (C S : Nat) (hC9 : C + 60 ≤ 603072) (hS9 : S + 8000 ≤ 7182442) (k28 : Mem → Int32 → Option Unit) (hk28 : ∀ (M : Mem) (a5 : Int32), k28 M a5 = some () → ∀ (H : Heap) (locs : List Loc) (ls : Array Slot), HS Y M H → va_S (AZ Y) s.heap H locs → lv_has ls 9 [(0, .ref b), (1, .ref (YA Y 0 0)), (2, .ref (YA Y 20 0)), (3, .ref (YA Y 33 0)), (4, .ref (YA Y 36 0)), (5, .int a5)] → W p l e room_1 s m #[Value.ref b] below meth c H locs (C + 60) (S + 8000) (lw_Z below #[Value.ref b] s) (F0 m 28 ls [])) : ∀ (M : Mem) (a5 : Int32), f_L_law_2397 xs L k28 M a5 = some () → ∀ (H : Heap) (locs : List Loc) (ls : Array Slot), HS Y M H → va_S (AZ Y) s.heap H locs → lv_has ls 9 [(0, .ref b), (1, .ref (YA Y 0 0)), (2, .ref (YA Y 20 0)), (3, .ref (YA Y 33 0)), (4, .ref (YA Y 36 0)), (5, .int a5)] → W p l e room_1 s m #[Value.ref b] below meth c H locs (C + 0) (S + 0) (lw_Z below #[Value.ref b] s) (F0 m 2397 ls []) := by
  obtain ⟨hx, hb, hr, hml, hown, hA, hlocks, hK, hZ⟩ := id C0
  have hR1 : room_1.cells = 603072 := rfl
  have hR2 : room_1.slots = 7182442 := rfl
  intro M a5 hf H locs ls hH hS hl
  unfold f_L_law_2397 at hf
  refine lv_aload_n hx hb dL_law_2397 rfl (lv_at hl 1 rfl) ?_
  refine lv_aload_n hx hb dL_law_2398 rfl (lv_at hl 0 rfl) ?_
  refine lv_iload hx hb dL_law_2399 (lv_at hl 5 rfl) ?_
  refine lv_iconst (v := (1 : Int32)) hx hb dL_law_2401 (by decide) ?_
  refine lv_iadd hx hb dL_law_2402 ?_
  obtain ⟨hg1173, hf⟩ := gd_o hf
  refine hl_sld hx hb hX (Nat.lt_of_lt_of_le hbl hZ) (Nat.not_le.mpr hbl) hS hg1173 dL_law_2403 ?_
  refine lv_aload_n hx hb dL_law_2404 rfl (lv_at hl 3 rfl) ?_
  obtain ⟨r1176, M1175, hq1174, hf⟩ := bd2_o hf
  refine hs_ci (hs_runSX C0 hH hS (n := 3) (As := [.ref (YA Y 0 0), .int (xs (ix (a5 + (1 : Int32)))), .ref (YA Y 33 0)]) (rest := []) (c_L_stampsMissing hl9 M (xs (ix (a5 + (1 : Int32)))) hq1174) ⟨⟨zt_1015, zt_1016, zt_0, zt_1017⟩, by decide, by decide, by decide +kernel⟩ ⟨rfl, rfl, Nat.le_of_ble_eq_true rfl, Nat.le_of_ble_eq_true rfl⟩ rfl rfl hl.1 (Nat.le_of_ble_eq_true rfl) ⟨by omega, by omega⟩ dL_law_2405) hS (fun H locs hH hS => ?_)
  refine lv_istore (lv' := [(6, .int r1176), (0, .ref b), (1, .ref (YA Y 0 0)), (2, .ref (YA Y 20 0)), (3, .ref (YA Y 33 0)), (4, .ref (YA Y 36 0)), (5, .int a5)]) hx hb dL_law_2408 hl (by decide) rfl (fun ls hl => ?_)
  refine lv_aload_n hx hb dL_law_2410 rfl (lv_at hl 3 rfl) ?_
  refine lv_aload_n hx hb dL_law_2411 rfl (lv_at hl 1 rfl) ?_
  refine lv_iload hx hb dL_law_2412 (lv_at hl 6 rfl) ?_
  refine lv_iconst (v := (1 : Int32)) hx hb dL_law_2414 (by decide) ?_
  refine lv_iadd hx hb dL_law_2415 ?_
  refine hl_sld hx hb hX (Nat.lt_of_lt_of_le hbl hZ) (Nat.not_le.mpr hbl) hS hg1173 dL_law_2416 ?_
  obtain ⟨r1179, M1178, hq1177, hf⟩ := bd2_o hf
  refine hs_ci (hs_runV C0 hH hS (n := 1) (As := [.int (xs (ix (a5 + (1 : Int32))))]) (rest := []) (c_X8_stampsMissing M1175 (xs (ix (a5 + (1 : Int32)))) hq1177) ⟨⟨zt_1922, zt_1923, zt_1924, zt_13, zt_1925⟩, rfl, by decide, by decide, by decide +kernel⟩ ⟨rfl, rfl, Nat.le_of_ble_eq_true rfl, Nat.le_of_ble_eq_true rfl⟩ (hs_recv hK hH 20 0 (by decide) 12 rfl rfl) rfl rfl hl.1 (Nat.le_of_ble_eq_true rfl) ⟨by omega, by omega⟩ dL_law_2417) hS (fun H locs hH hS => ?_)
  refine lv_istore (lv' := [(7, .int r1179), (6, .int r1176), (0, .ref b), (1, .ref (YA Y 0 0)), (2, .ref (YA Y 20 0)), (3, .ref (YA Y 33 0)), (4, .ref (YA Y 36 0)), (5, .int a5)]) hx hb dL_law_2420 hl (by decide) rfl (fun ls hl => ?_)
  refine lv_aload_n hx hb dL_law_2422 rfl (lv_at hl 4 rfl) ?_
  obtain ⟨r1181, hq1180, hf⟩ := bd_o hf
  refine hs_ci (hs_runV C0 hH hS (n := 0) (As := []) (rest := []) (c_X8_thrown M1178 hq1180) ⟨⟨zt_1621, zt_1622, zt_1623, zt_13, zt_1624⟩, rfl, by decide, by decide, by decide +kernel⟩ ⟨rfl, rfl, Nat.le_of_ble_eq_true rfl, Nat.le_of_ble_eq_true rfl⟩ (hs_recv hK hH 20 0 (by decide) 12 rfl rfl) rfl rfl hl.1 (Nat.le_of_ble_eq_true rfl) ⟨by omega, by omega⟩ dL_law_2423) hS (fun H locs hH hS => ?_)
  refine lv_iload hx hb dL_law_2426 (lv_at hl 1 rfl) ?_
  refine lv_icmp_eq (tgt := 2433) hx hb dL_law_2428 (by decide) (fun hc1184 => ?_) (fun hc1184 => ?_)
  · have hf := if_t hf hc1184
    refine lv_iload hx hb dL_law_2433 (lv_at hl 1 rfl) ?_
    refine lv_if_ne (tgt := 2450) hx hb dL_law_2435 (by decide) (fun hc1183 => ?_) (fun hc1183 => ?_)
    · have hf := if_f hf hc1183
      refine lv_goto (tgt := 3289) hx hb dL_law_2450 (by decide) ?_
      refine W.widen (k := C + 14) (n := S + 1696) (by omega) (by omega) ?_
      exact w_L_law_3289 C0 hl9 xs L hX hbl C S hC9 hS9 k28 hk28 M1178 a5 hf _ _ _ hH hS (lv_sub hl [2, 3, 4, 5, 6, 7] rfl)
    · have hf := if_t hf hc1183
      refine lv_aload_n hx hb dL_law_2438 rfl (lv_at hl 5 rfl) ?_
      refine lv_iconst (v := (0 : Int32)) hx hb dL_law_2439 (by decide) ?_
      refine hl_laload hx hb hK hH dL_law_2440 ?_
      refine lv_iload hx hb dL_law_2441 (lv_at hl 0 rfl) ?_
      refine lv_i2l (v := r1179.toInt64) hx hb dL_law_2443 rfl ?_
      refine W.lcmp hx hb dL_law_2444 ?_
      refine lv_if_eq (tgt := 2450) hx hb dL_law_2445 (by decide) (fun hc1182 => ?_) (fun hc1182 => ?_)
      · have hf := if_t hf hc1182
        refine lv_goto (tgt := 3289) hx hb dL_law_2450 (by decide) ?_
        refine W.widen (k := C + 14) (n := S + 1696) (by omega) (by omega) ?_
        exact w_L_law_3289 C0 hl9 xs L hX hbl C S hC9 hS9 k28 hk28 M1178 a5 hf _ _ _ hH hS (lv_sub hl [2, 3, 4, 5, 6, 7] rfl)
      · have hf := if_f hf hc1182
        refine lv_iconst (v := (0 : Int32)) hx hb dL_law_2448 (by decide) ?_
        cases hf
  · have hf := if_f hf hc1184
    refine lv_iconst (v := (0 : Int32)) hx hb dL_law_2431 (by decide) ?_
    cases hf
def f_L_law_2453 (xs : Nat → Int32) (L : Nat) (k28 : Mem → Int32 → Option Unit) (M : Mem) (a5 : Int32) : Option Unit := if vin (a5 + (1 : Int32)) L then (bd2 (f_L_parcelByForecast M (xs (ix (a5 + (1 : Int32))))) fun r1188 M1187 => bd2 (f_X8_parcelByForecast M1187 (xs (ix (a5 + (1 : Int32))))) fun r1191 M1190 => bd (f_X8_thrown M1190) fun r1193 => (if r1193 = r1188 then (if r1188 = 0 then (if (lg_cmp ((M1190 33 0 0).toInt64) r1191.toInt64) = 0 then f_L_law_3289 xs L k28 M1190 a5 else none) else f_L_law_3289 xs L k28 M1190 a5) else none)) else none
set_option maxHeartbeats 8000000 in
set_option maxRecDepth 100000 in
theorem w_L_law_2453 {Y : LY} {p : Program} {l : Launch} {e : Env} {s : State} {m : MethodId} {b : Nat} {below : List Frame} {meth : Method} {c : Code} (C0 : BE Y p s m #[Value.ref b] meth c cL_law 9 ret RL) (hl9 : l.stackTraces = false) (xs : Nat → Int32) (L : Nat) (hX : va_X b L xs s s.heap) (hbl : b < YZ Y) (C S : Nat) (hC9 : C + 60 ≤ 603072) (hS9 : S + 8000 ≤ 7182442) (k28 : Mem → Int32 → Option Unit) (hk28 : ∀ (M : Mem) (a5 : Int32), k28 M a5 = some () → ∀ (H : Heap) (locs : List Loc) (ls : Array Slot), HS Y M H → va_S (AZ Y) s.heap H locs → lv_has ls 9 [(0, .ref b), (1, .ref (YA Y 0 0)), (2, .ref (YA Y 20 0)), (3, .ref (YA Y 33 0)), (4, .ref (YA Y 36 0)), (5, .int a5)] → W p l e room_1 s m #[Value.ref b] below meth c H locs (C + 60) (S + 8000) (lw_Z below #[Value.ref b] s) (F0 m 28 ls [])) : ∀ (M : Mem) (a5 : Int32), f_L_law_2453 xs L k28 M a5 = some () → ∀ (H : Heap) (locs : List Loc) (ls : Array Slot), HS Y M H → va_S (AZ Y) s.heap H locs → lv_has ls 9 [(0, .ref b), (1, .ref (YA Y 0 0)), (2, .ref (YA Y 20 0)), (3, .ref (YA Y 33 0)), (4, .ref (YA Y 36 0)), (5, .int a5)] → W p l e room_1 s m #[Value.ref b] below meth c H locs (C + 0) (S + 0) (lw_Z below #[Value.ref b] s) (F0 m 2453 ls []) := by
  obtain ⟨hx, hb, hr, hml, hown, hA, hlocks, hK, hZ⟩ := id C0
  have hR1 : room_1.cells = 603072 := rfl
  have hR2 : room_1.slots = 7182442 := rfl
  intro M a5 hf H locs ls hH hS hl
  unfold f_L_law_2453 at hf
  refine lv_aload_n hx hb dL_law_2453 rfl (lv_at hl 1 rfl) ?_
  refine lv_aload_n hx hb dL_law_2454 rfl (lv_at hl 0 rfl) ?_
  refine lv_iload hx hb dL_law_2455 (lv_at hl 5 rfl) ?_
  refine lv_iconst (v := (1 : Int32)) hx hb dL_law_2457 (by decide) ?_
  refine lv_iadd hx hb dL_law_2458 ?_
  obtain ⟨hg1185, hf⟩ := gd_o hf
  refine hl_sld hx hb hX (Nat.lt_of_lt_of_le hbl hZ) (Nat.not_le.mpr hbl) hS hg1185 dL_law_2459 ?_
  refine lv_aload_n hx hb dL_law_2460 rfl (lv_at hl 3 rfl) ?_
  obtain ⟨r1188, M1187, hq1186, hf⟩ := bd2_o hf
  refine hs_ci (hs_runSX C0 hH hS (n := 3) (As := [.ref (YA Y 0 0), .int (xs (ix (a5 + (1 : Int32)))), .ref (YA Y 33 0)]) (rest := []) (c_L_parcelByForecast hl9 M (xs (ix (a5 + (1 : Int32)))) hq1186) ⟨⟨zt_1025, zt_1026, zt_0, zt_1027⟩, by decide, by decide, by decide +kernel⟩ ⟨rfl, rfl, Nat.le_of_ble_eq_true rfl, Nat.le_of_ble_eq_true rfl⟩ rfl rfl hl.1 (Nat.le_of_ble_eq_true rfl) ⟨by omega, by omega⟩ dL_law_2461) hS (fun H locs hH hS => ?_)
  refine lv_istore (lv' := [(6, .int r1188), (0, .ref b), (1, .ref (YA Y 0 0)), (2, .ref (YA Y 20 0)), (3, .ref (YA Y 33 0)), (4, .ref (YA Y 36 0)), (5, .int a5)]) hx hb dL_law_2464 hl (by decide) rfl (fun ls hl => ?_)
  refine lv_aload_n hx hb dL_law_2466 rfl (lv_at hl 3 rfl) ?_
  refine lv_aload_n hx hb dL_law_2467 rfl (lv_at hl 1 rfl) ?_
  refine lv_iload hx hb dL_law_2468 (lv_at hl 6 rfl) ?_
  refine lv_iconst (v := (1 : Int32)) hx hb dL_law_2470 (by decide) ?_
  refine lv_iadd hx hb dL_law_2471 ?_
  refine hl_sld hx hb hX (Nat.lt_of_lt_of_le hbl hZ) (Nat.not_le.mpr hbl) hS hg1185 dL_law_2472 ?_
  obtain ⟨r1191, M1190, hq1189, hf⟩ := bd2_o hf
  refine hs_ci (hs_runV C0 hH hS (n := 1) (As := [.int (xs (ix (a5 + (1 : Int32))))]) (rest := []) (c_X8_parcelByForecast M1187 (xs (ix (a5 + (1 : Int32)))) hq1189) ⟨⟨zt_1927, zt_1928, zt_1929, zt_13, zt_1930⟩, rfl, by decide, by decide, by decide +kernel⟩ ⟨rfl, rfl, Nat.le_of_ble_eq_true rfl, Nat.le_of_ble_eq_true rfl⟩ (hs_recv hK hH 20 0 (by decide) 12 rfl rfl) rfl rfl hl.1 (Nat.le_of_ble_eq_true rfl) ⟨by omega, by omega⟩ dL_law_2473) hS (fun H locs hH hS => ?_)
  refine lv_istore (lv' := [(7, .int r1191), (6, .int r1188), (0, .ref b), (1, .ref (YA Y 0 0)), (2, .ref (YA Y 20 0)), (3, .ref (YA Y 33 0)), (4, .ref (YA Y 36 0)), (5, .int a5)]) hx hb dL_law_2476 hl (by decide) rfl (fun ls hl => ?_)
  refine lv_aload_n hx hb dL_law_2478 rfl (lv_at hl 4 rfl) ?_
  obtain ⟨r1193, hq1192, hf⟩ := bd_o hf
  refine hs_ci (hs_runV C0 hH hS (n := 0) (As := []) (rest := []) (c_X8_thrown M1190 hq1192) ⟨⟨zt_1621, zt_1622, zt_1623, zt_13, zt_1624⟩, rfl, by decide, by decide, by decide +kernel⟩ ⟨rfl, rfl, Nat.le_of_ble_eq_true rfl, Nat.le_of_ble_eq_true rfl⟩ (hs_recv hK hH 20 0 (by decide) 12 rfl rfl) rfl rfl hl.1 (Nat.le_of_ble_eq_true rfl) ⟨by omega, by omega⟩ dL_law_2479) hS (fun H locs hH hS => ?_)
  refine lv_iload hx hb dL_law_2482 (lv_at hl 1 rfl) ?_
  refine lv_icmp_eq (tgt := 2489) hx hb dL_law_2484 (by decide) (fun hc1196 => ?_) (fun hc1196 => ?_)
  · have hf := if_t hf hc1196
    refine lv_iload hx hb dL_law_2489 (lv_at hl 1 rfl) ?_
    refine lv_if_ne (tgt := 2506) hx hb dL_law_2491 (by decide) (fun hc1195 => ?_) (fun hc1195 => ?_)
    · have hf := if_f hf hc1195
      refine lv_goto (tgt := 3289) hx hb dL_law_2506 (by decide) ?_
      refine W.widen (k := C + 14) (n := S + 1696) (by omega) (by omega) ?_
      exact w_L_law_3289 C0 hl9 xs L hX hbl C S hC9 hS9 k28 hk28 M1190 a5 hf _ _ _ hH hS (lv_sub hl [2, 3, 4, 5, 6, 7] rfl)
    · have hf := if_t hf hc1195
      refine lv_aload_n hx hb dL_law_2494 rfl (lv_at hl 5 rfl) ?_
      refine lv_iconst (v := (0 : Int32)) hx hb dL_law_2495 (by decide) ?_
      refine hl_laload hx hb hK hH dL_law_2496 ?_
      refine lv_iload hx hb dL_law_2497 (lv_at hl 0 rfl) ?_
      refine lv_i2l (v := r1191.toInt64) hx hb dL_law_2499 rfl ?_
      refine W.lcmp hx hb dL_law_2500 ?_
      refine lv_if_eq (tgt := 2506) hx hb dL_law_2501 (by decide) (fun hc1194 => ?_) (fun hc1194 => ?_)
      · have hf := if_t hf hc1194
        refine lv_goto (tgt := 3289) hx hb dL_law_2506 (by decide) ?_
        refine W.widen (k := C + 14) (n := S + 1696) (by omega) (by omega) ?_
        exact w_L_law_3289 C0 hl9 xs L hX hbl C S hC9 hS9 k28 hk28 M1190 a5 hf _ _ _ hH hS (lv_sub hl [2, 3, 4, 5, 6, 7] rfl)
      · have hf := if_f hf hc1194
        refine lv_iconst (v := (0 : Int32)) hx hb dL_law_2504 (by decide) ?_
        cases hf
  · have hf := if_f hf hc1196
    refine lv_iconst (v := (0 : Int32)) hx hb dL_law_2487 (by decide) ?_
    cases hf
def f_L_law_2509 (xs : Nat → Int32) (L : Nat) (k28 : Mem → Int32 → Option Unit) (M : Mem) (a5 : Int32) : Option Unit := if vin (a5 + (1 : Int32)) L then (bd2 (f_L_arrivalsWithin M (xs (ix (a5 + (1 : Int32))))) fun r1200 M1199 => bd2 (f_X8_arrivalsWithin M1199 (xs (ix (a5 + (1 : Int32))))) fun r1203 M1202 => bd (f_X8_thrown M1202) fun r1205 => (if r1205 = r1200 then (if r1200 = 0 then (if (lg_cmp ((M1202 33 0 0).toInt64) r1203.toInt64) = 0 then f_L_law_3289 xs L k28 M1202 a5 else none) else f_L_law_3289 xs L k28 M1202 a5) else none)) else none
set_option maxHeartbeats 8000000 in
set_option maxRecDepth 100000 in
theorem w_L_law_2509 {Y : LY} {p : Program} {l : Launch} {e : Env} {s : State} {m : MethodId} {b : Nat} {below : List Frame} {meth : Method} {c : Code} (C0 : BE Y p s m #[Value.ref b] meth c cL_law 9 ret RL) (hl9 : l.stackTraces = false) (xs : Nat → Int32) (L : Nat) (hX : va_X b L xs s s.heap) (hbl : b < YZ Y) (C S : Nat) (hC9 : C + 60 ≤ 603072) (hS9 : S + 8000 ≤ 7182442) (k28 : Mem → Int32 → Option Unit) (hk28 : ∀ (M : Mem) (a5 : Int32), k28 M a5 = some () → ∀ (H : Heap) (locs : List Loc) (ls : Array Slot), HS Y M H → va_S (AZ Y) s.heap H locs → lv_has ls 9 [(0, .ref b), (1, .ref (YA Y 0 0)), (2, .ref (YA Y 20 0)), (3, .ref (YA Y 33 0)), (4, .ref (YA Y 36 0)), (5, .int a5)] → W p l e room_1 s m #[Value.ref b] below meth c H locs (C + 60) (S + 8000) (lw_Z below #[Value.ref b] s) (F0 m 28 ls [])) : ∀ (M : Mem) (a5 : Int32), f_L_law_2509 xs L k28 M a5 = some () → ∀ (H : Heap) (locs : List Loc) (ls : Array Slot), HS Y M H → va_S (AZ Y) s.heap H locs → lv_has ls 9 [(0, .ref b), (1, .ref (YA Y 0 0)), (2, .ref (YA Y 20 0)), (3, .ref (YA Y 33 0)), (4, .ref (YA Y 36 0)), (5, .int a5)] → W p l e room_1 s m #[Value.ref b] below meth c H locs (C + 0) (S + 0) (lw_Z below #[Value.ref b] s) (F0 m 2509 ls []) := by
  obtain ⟨hx, hb, hr, hml, hown, hA, hlocks, hK, hZ⟩ := id C0
  have hR1 : room_1.cells = 603072 := rfl
  have hR2 : room_1.slots = 7182442 := rfl
  intro M a5 hf H locs ls hH hS hl
  unfold f_L_law_2509 at hf
  refine lv_aload_n hx hb dL_law_2509 rfl (lv_at hl 1 rfl) ?_
  refine lv_aload_n hx hb dL_law_2510 rfl (lv_at hl 0 rfl) ?_
  refine lv_iload hx hb dL_law_2511 (lv_at hl 5 rfl) ?_
  refine lv_iconst (v := (1 : Int32)) hx hb dL_law_2513 (by decide) ?_
  refine lv_iadd hx hb dL_law_2514 ?_
  obtain ⟨hg1197, hf⟩ := gd_o hf
  refine hl_sld hx hb hX (Nat.lt_of_lt_of_le hbl hZ) (Nat.not_le.mpr hbl) hS hg1197 dL_law_2515 ?_
  refine lv_aload_n hx hb dL_law_2516 rfl (lv_at hl 3 rfl) ?_
  obtain ⟨r1200, M1199, hq1198, hf⟩ := bd2_o hf
  refine hs_ci (hs_runSX C0 hH hS (n := 3) (As := [.ref (YA Y 0 0), .int (xs (ix (a5 + (1 : Int32)))), .ref (YA Y 33 0)]) (rest := []) (c_L_arrivalsWithin hl9 M (xs (ix (a5 + (1 : Int32)))) hq1198) ⟨⟨zt_1041, zt_1042, zt_0, zt_1043⟩, by decide, by decide, by decide +kernel⟩ ⟨rfl, rfl, Nat.le_of_ble_eq_true rfl, Nat.le_of_ble_eq_true rfl⟩ rfl rfl hl.1 (Nat.le_of_ble_eq_true rfl) ⟨by omega, by omega⟩ dL_law_2517) hS (fun H locs hH hS => ?_)
  refine lv_istore (lv' := [(6, .int r1200), (0, .ref b), (1, .ref (YA Y 0 0)), (2, .ref (YA Y 20 0)), (3, .ref (YA Y 33 0)), (4, .ref (YA Y 36 0)), (5, .int a5)]) hx hb dL_law_2520 hl (by decide) rfl (fun ls hl => ?_)
  refine lv_aload_n hx hb dL_law_2522 rfl (lv_at hl 3 rfl) ?_
  refine lv_aload_n hx hb dL_law_2523 rfl (lv_at hl 1 rfl) ?_
  refine lv_iload hx hb dL_law_2524 (lv_at hl 6 rfl) ?_
  refine lv_iconst (v := (1 : Int32)) hx hb dL_law_2526 (by decide) ?_
  refine lv_iadd hx hb dL_law_2527 ?_
  refine hl_sld hx hb hX (Nat.lt_of_lt_of_le hbl hZ) (Nat.not_le.mpr hbl) hS hg1197 dL_law_2528 ?_
  obtain ⟨r1203, M1202, hq1201, hf⟩ := bd2_o hf
  refine hs_ci (hs_runV C0 hH hS (n := 1) (As := [.int (xs (ix (a5 + (1 : Int32))))]) (rest := []) (c_X8_arrivalsWithin M1199 (xs (ix (a5 + (1 : Int32)))) hq1201) ⟨⟨zt_1931, zt_1932, zt_1933, zt_13, zt_1934⟩, rfl, by decide, by decide, by decide +kernel⟩ ⟨rfl, rfl, Nat.le_of_ble_eq_true rfl, Nat.le_of_ble_eq_true rfl⟩ (hs_recv hK hH 20 0 (by decide) 12 rfl rfl) rfl rfl hl.1 (Nat.le_of_ble_eq_true rfl) ⟨by omega, by omega⟩ dL_law_2529) hS (fun H locs hH hS => ?_)
  refine lv_istore (lv' := [(7, .int r1203), (6, .int r1200), (0, .ref b), (1, .ref (YA Y 0 0)), (2, .ref (YA Y 20 0)), (3, .ref (YA Y 33 0)), (4, .ref (YA Y 36 0)), (5, .int a5)]) hx hb dL_law_2532 hl (by decide) rfl (fun ls hl => ?_)
  refine lv_aload_n hx hb dL_law_2534 rfl (lv_at hl 4 rfl) ?_
  obtain ⟨r1205, hq1204, hf⟩ := bd_o hf
  refine hs_ci (hs_runV C0 hH hS (n := 0) (As := []) (rest := []) (c_X8_thrown M1202 hq1204) ⟨⟨zt_1621, zt_1622, zt_1623, zt_13, zt_1624⟩, rfl, by decide, by decide, by decide +kernel⟩ ⟨rfl, rfl, Nat.le_of_ble_eq_true rfl, Nat.le_of_ble_eq_true rfl⟩ (hs_recv hK hH 20 0 (by decide) 12 rfl rfl) rfl rfl hl.1 (Nat.le_of_ble_eq_true rfl) ⟨by omega, by omega⟩ dL_law_2535) hS (fun H locs hH hS => ?_)
  refine lv_iload hx hb dL_law_2538 (lv_at hl 1 rfl) ?_
  refine lv_icmp_eq (tgt := 2545) hx hb dL_law_2540 (by decide) (fun hc1208 => ?_) (fun hc1208 => ?_)
  · have hf := if_t hf hc1208
    refine lv_iload hx hb dL_law_2545 (lv_at hl 1 rfl) ?_
    refine lv_if_ne (tgt := 2562) hx hb dL_law_2547 (by decide) (fun hc1207 => ?_) (fun hc1207 => ?_)
    · have hf := if_f hf hc1207
      refine lv_goto (tgt := 3289) hx hb dL_law_2562 (by decide) ?_
      refine W.widen (k := C + 14) (n := S + 1696) (by omega) (by omega) ?_
      exact w_L_law_3289 C0 hl9 xs L hX hbl C S hC9 hS9 k28 hk28 M1202 a5 hf _ _ _ hH hS (lv_sub hl [2, 3, 4, 5, 6, 7] rfl)
    · have hf := if_t hf hc1207
      refine lv_aload_n hx hb dL_law_2550 rfl (lv_at hl 5 rfl) ?_
      refine lv_iconst (v := (0 : Int32)) hx hb dL_law_2551 (by decide) ?_
      refine hl_laload hx hb hK hH dL_law_2552 ?_
      refine lv_iload hx hb dL_law_2553 (lv_at hl 0 rfl) ?_
      refine lv_i2l (v := r1203.toInt64) hx hb dL_law_2555 rfl ?_
      refine W.lcmp hx hb dL_law_2556 ?_
      refine lv_if_eq (tgt := 2562) hx hb dL_law_2557 (by decide) (fun hc1206 => ?_) (fun hc1206 => ?_)
      · have hf := if_t hf hc1206
        refine lv_goto (tgt := 3289) hx hb dL_law_2562 (by decide) ?_
        refine W.widen (k := C + 14) (n := S + 1696) (by omega) (by omega) ?_
        exact w_L_law_3289 C0 hl9 xs L hX hbl C S hC9 hS9 k28 hk28 M1202 a5 hf _ _ _ hH hS (lv_sub hl [2, 3, 4, 5, 6, 7] rfl)
      · have hf := if_f hf hc1206
        refine lv_iconst (v := (0 : Int32)) hx hb dL_law_2560 (by decide) ?_
        cases hf
  · have hf := if_f hf hc1208
    refine lv_iconst (v := (0 : Int32)) hx hb dL_law_2543 (by decide) ?_
    cases hf
def f_L_law_2565 (xs : Nat → Int32) (L : Nat) (k28 : Mem → Int32 → Option Unit) (M : Mem) (a5 : Int32) : Option Unit := if vin (a5 + (1 : Int32)) L then (bd2 (f_L_deliveredIf M (xs (ix (a5 + (1 : Int32))))) fun r1212 M1211 => bd2 (f_X8_deliveredIf M1211 (xs (ix (a5 + (1 : Int32))))) fun r1215 M1214 => bd (f_X8_thrown M1214) fun r1217 => (if r1217 = r1212 then (if r1212 = 0 then (if (lg_cmp ((M1214 33 0 0).toInt64) r1215.toInt64) = 0 then f_L_law_3289 xs L k28 M1214 a5 else none) else f_L_law_3289 xs L k28 M1214 a5) else none)) else none
set_option maxHeartbeats 8000000 in
set_option maxRecDepth 100000 in
theorem w_L_law_2565 {Y : LY} {p : Program} {l : Launch} {e : Env} {s : State} {m : MethodId} {b : Nat} {below : List Frame} {meth : Method} {c : Code} (C0 : BE Y p s m #[Value.ref b] meth c cL_law 9 ret RL) (hl9 : l.stackTraces = false) (xs : Nat → Int32) (L : Nat) (hX : va_X b L xs s s.heap) (hbl : b < YZ Y) (C S : Nat) (hC9 : C + 60 ≤ 603072) (hS9 : S + 8000 ≤ 7182442) (k28 : Mem → Int32 → Option Unit) (hk28 : ∀ (M : Mem) (a5 : Int32), k28 M a5 = some () → ∀ (H : Heap) (locs : List Loc) (ls : Array Slot), HS Y M H → va_S (AZ Y) s.heap H locs → lv_has ls 9 [(0, .ref b), (1, .ref (YA Y 0 0)), (2, .ref (YA Y 20 0)), (3, .ref (YA Y 33 0)), (4, .ref (YA Y 36 0)), (5, .int a5)] → W p l e room_1 s m #[Value.ref b] below meth c H locs (C + 60) (S + 8000) (lw_Z below #[Value.ref b] s) (F0 m 28 ls [])) : ∀ (M : Mem) (a5 : Int32), f_L_law_2565 xs L k28 M a5 = some () → ∀ (H : Heap) (locs : List Loc) (ls : Array Slot), HS Y M H → va_S (AZ Y) s.heap H locs → lv_has ls 9 [(0, .ref b), (1, .ref (YA Y 0 0)), (2, .ref (YA Y 20 0)), (3, .ref (YA Y 33 0)), (4, .ref (YA Y 36 0)), (5, .int a5)] → W p l e room_1 s m #[Value.ref b] below meth c H locs (C + 0) (S + 0) (lw_Z below #[Value.ref b] s) (F0 m 2565 ls []) := by
  obtain ⟨hx, hb, hr, hml, hown, hA, hlocks, hK, hZ⟩ := id C0
  have hR1 : room_1.cells = 603072 := rfl
  have hR2 : room_1.slots = 7182442 := rfl
  intro M a5 hf H locs ls hH hS hl
  unfold f_L_law_2565 at hf
  refine lv_aload_n hx hb dL_law_2565 rfl (lv_at hl 1 rfl) ?_
  refine lv_aload_n hx hb dL_law_2566 rfl (lv_at hl 0 rfl) ?_
  refine lv_iload hx hb dL_law_2567 (lv_at hl 5 rfl) ?_
  refine lv_iconst (v := (1 : Int32)) hx hb dL_law_2569 (by decide) ?_
  refine lv_iadd hx hb dL_law_2570 ?_
  obtain ⟨hg1209, hf⟩ := gd_o hf
  refine hl_sld hx hb hX (Nat.lt_of_lt_of_le hbl hZ) (Nat.not_le.mpr hbl) hS hg1209 dL_law_2571 ?_
  refine lv_aload_n hx hb dL_law_2572 rfl (lv_at hl 3 rfl) ?_
  obtain ⟨r1212, M1211, hq1210, hf⟩ := bd2_o hf
  refine hs_ci (hs_runSX C0 hH hS (n := 3) (As := [.ref (YA Y 0 0), .int (xs (ix (a5 + (1 : Int32)))), .ref (YA Y 33 0)]) (rest := []) (c_L_deliveredIf hl9 M (xs (ix (a5 + (1 : Int32)))) hq1210) ⟨⟨zt_1052, zt_1053, zt_0, zt_1054⟩, by decide, by decide, by decide +kernel⟩ ⟨rfl, rfl, Nat.le_of_ble_eq_true rfl, Nat.le_of_ble_eq_true rfl⟩ rfl rfl hl.1 (Nat.le_of_ble_eq_true rfl) ⟨by omega, by omega⟩ dL_law_2573) hS (fun H locs hH hS => ?_)
  refine lv_istore (lv' := [(6, .int r1212), (0, .ref b), (1, .ref (YA Y 0 0)), (2, .ref (YA Y 20 0)), (3, .ref (YA Y 33 0)), (4, .ref (YA Y 36 0)), (5, .int a5)]) hx hb dL_law_2576 hl (by decide) rfl (fun ls hl => ?_)
  refine lv_aload_n hx hb dL_law_2578 rfl (lv_at hl 3 rfl) ?_
  refine lv_aload_n hx hb dL_law_2579 rfl (lv_at hl 1 rfl) ?_
  refine lv_iload hx hb dL_law_2580 (lv_at hl 6 rfl) ?_
  refine lv_iconst (v := (1 : Int32)) hx hb dL_law_2582 (by decide) ?_
  refine lv_iadd hx hb dL_law_2583 ?_
  refine hl_sld hx hb hX (Nat.lt_of_lt_of_le hbl hZ) (Nat.not_le.mpr hbl) hS hg1209 dL_law_2584 ?_
  obtain ⟨r1215, M1214, hq1213, hf⟩ := bd2_o hf
  refine hs_ci (hs_runV C0 hH hS (n := 1) (As := [.int (xs (ix (a5 + (1 : Int32))))]) (rest := []) (c_X8_deliveredIf M1211 (xs (ix (a5 + (1 : Int32)))) hq1213) ⟨⟨zt_1935, zt_1936, zt_1937, zt_13, zt_1938⟩, rfl, by decide, by decide, by decide +kernel⟩ ⟨rfl, rfl, Nat.le_of_ble_eq_true rfl, Nat.le_of_ble_eq_true rfl⟩ (hs_recv hK hH 20 0 (by decide) 12 rfl rfl) rfl rfl hl.1 (Nat.le_of_ble_eq_true rfl) ⟨by omega, by omega⟩ dL_law_2585) hS (fun H locs hH hS => ?_)
  refine lv_istore (lv' := [(7, .int r1215), (6, .int r1212), (0, .ref b), (1, .ref (YA Y 0 0)), (2, .ref (YA Y 20 0)), (3, .ref (YA Y 33 0)), (4, .ref (YA Y 36 0)), (5, .int a5)]) hx hb dL_law_2588 hl (by decide) rfl (fun ls hl => ?_)
  refine lv_aload_n hx hb dL_law_2590 rfl (lv_at hl 4 rfl) ?_
  obtain ⟨r1217, hq1216, hf⟩ := bd_o hf
  refine hs_ci (hs_runV C0 hH hS (n := 0) (As := []) (rest := []) (c_X8_thrown M1214 hq1216) ⟨⟨zt_1621, zt_1622, zt_1623, zt_13, zt_1624⟩, rfl, by decide, by decide, by decide +kernel⟩ ⟨rfl, rfl, Nat.le_of_ble_eq_true rfl, Nat.le_of_ble_eq_true rfl⟩ (hs_recv hK hH 20 0 (by decide) 12 rfl rfl) rfl rfl hl.1 (Nat.le_of_ble_eq_true rfl) ⟨by omega, by omega⟩ dL_law_2591) hS (fun H locs hH hS => ?_)
  refine lv_iload hx hb dL_law_2594 (lv_at hl 1 rfl) ?_
  refine lv_icmp_eq (tgt := 2601) hx hb dL_law_2596 (by decide) (fun hc1220 => ?_) (fun hc1220 => ?_)
  · have hf := if_t hf hc1220
    refine lv_iload hx hb dL_law_2601 (lv_at hl 1 rfl) ?_
    refine lv_if_ne (tgt := 2618) hx hb dL_law_2603 (by decide) (fun hc1219 => ?_) (fun hc1219 => ?_)
    · have hf := if_f hf hc1219
      refine lv_goto (tgt := 3289) hx hb dL_law_2618 (by decide) ?_
      refine W.widen (k := C + 14) (n := S + 1696) (by omega) (by omega) ?_
      exact w_L_law_3289 C0 hl9 xs L hX hbl C S hC9 hS9 k28 hk28 M1214 a5 hf _ _ _ hH hS (lv_sub hl [2, 3, 4, 5, 6, 7] rfl)
    · have hf := if_t hf hc1219
      refine lv_aload_n hx hb dL_law_2606 rfl (lv_at hl 5 rfl) ?_
      refine lv_iconst (v := (0 : Int32)) hx hb dL_law_2607 (by decide) ?_
      refine hl_laload hx hb hK hH dL_law_2608 ?_
      refine lv_iload hx hb dL_law_2609 (lv_at hl 0 rfl) ?_
      refine lv_i2l (v := r1215.toInt64) hx hb dL_law_2611 rfl ?_
      refine W.lcmp hx hb dL_law_2612 ?_
      refine lv_if_eq (tgt := 2618) hx hb dL_law_2613 (by decide) (fun hc1218 => ?_) (fun hc1218 => ?_)
      · have hf := if_t hf hc1218
        refine lv_goto (tgt := 3289) hx hb dL_law_2618 (by decide) ?_
        refine W.widen (k := C + 14) (n := S + 1696) (by omega) (by omega) ?_
        exact w_L_law_3289 C0 hl9 xs L hX hbl C S hC9 hS9 k28 hk28 M1214 a5 hf _ _ _ hH hS (lv_sub hl [2, 3, 4, 5, 6, 7] rfl)
      · have hf := if_f hf hc1218
        refine lv_iconst (v := (0 : Int32)) hx hb dL_law_2616 (by decide) ?_
        cases hf
  · have hf := if_f hf hc1220
    refine lv_iconst (v := (0 : Int32)) hx hb dL_law_2599 (by decide) ?_
    cases hf
def f_L_law_2621 (xs : Nat → Int32) (L : Nat) (k28 : Mem → Int32 → Option Unit) (M : Mem) (a5 : Int32) : Option Unit := bd (f_X7_postedTotal M) fun r1222 => bd2 (f_X8_postedTotal M) fun r1225 M1224 => (if r1222 = r1225 then f_L_law_3289 xs L k28 M1224 a5 else none)
set_option maxHeartbeats 8000000 in
set_option maxRecDepth 100000 in
theorem w_L_law_2621 {Y : LY} {p : Program} {l : Launch} {e : Env} {s : State} {m : MethodId} {b : Nat} {below : List Frame} {meth : Method} {c : Code} (C0 : BE Y p s m #[Value.ref b] meth c cL_law 9 ret RL) (hl9 : l.stackTraces = false) (xs : Nat → Int32) (L : Nat) (hX : va_X b L xs s s.heap) (hbl : b < YZ Y) (C S : Nat) (hC9 : C + 60 ≤ 603072) (hS9 : S + 8000 ≤ 7182442) (k28 : Mem → Int32 → Option Unit) (hk28 : ∀ (M : Mem) (a5 : Int32), k28 M a5 = some () → ∀ (H : Heap) (locs : List Loc) (ls : Array Slot), HS Y M H → va_S (AZ Y) s.heap H locs → lv_has ls 9 [(0, .ref b), (1, .ref (YA Y 0 0)), (2, .ref (YA Y 20 0)), (3, .ref (YA Y 33 0)), (4, .ref (YA Y 36 0)), (5, .int a5)] → W p l e room_1 s m #[Value.ref b] below meth c H locs (C + 60) (S + 8000) (lw_Z below #[Value.ref b] s) (F0 m 28 ls [])) : ∀ (M : Mem) (a5 : Int32), f_L_law_2621 xs L k28 M a5 = some () → ∀ (H : Heap) (locs : List Loc) (ls : Array Slot), HS Y M H → va_S (AZ Y) s.heap H locs → lv_has ls 9 [(0, .ref b), (1, .ref (YA Y 0 0)), (2, .ref (YA Y 20 0)), (3, .ref (YA Y 33 0)), (4, .ref (YA Y 36 0)), (5, .int a5)] → W p l e room_1 s m #[Value.ref b] below meth c H locs (C + 0) (S + 0) (lw_Z below #[Value.ref b] s) (F0 m 2621 ls []) := by
  obtain ⟨hx, hb, hr, hml, hown, hA, hlocks, hK, hZ⟩ := id C0
  have hR1 : room_1.cells = 603072 := rfl
  have hR2 : room_1.slots = 7182442 := rfl
  intro M a5 hf H locs ls hH hS hl
  unfold f_L_law_2621 at hf
  refine lv_aload_n hx hb dL_law_2621 rfl (lv_at hl 1 rfl) ?_
  obtain ⟨r1222, hq1221, hf⟩ := bd_o hf
  refine hs_ci (hs_runV C0 hH hS (n := 0) (As := []) (rest := []) (c_X7_postedTotal M hq1221) ⟨⟨zt_640, zt_641, zt_642, zt_1, zt_643⟩, rfl, by decide, by decide, by decide +kernel⟩ ⟨rfl, rfl, Nat.le_of_ble_eq_true rfl, Nat.le_of_ble_eq_true rfl⟩ (hs_recv hK hH 0 0 (by decide) 11 rfl rfl) rfl rfl hl.1 (Nat.le_of_ble_eq_true rfl) ⟨by omega, by omega⟩ dL_law_2622) hS (fun H locs hH hS => ?_)
  refine lv_aload_n hx hb dL_law_2625 rfl (lv_at hl 2 rfl) ?_
  obtain ⟨r1225, M1224, hq1223, hf⟩ := bd2_o hf
  refine hs_ci (hs_runV C0 hH hS (n := 0) (As := []) (rest := [.int r1222]) (c_X8_postedTotal M hq1223) ⟨⟨zt_1940, zt_1941, zt_1942, zt_13, zt_1943⟩, rfl, by decide, by decide, by decide +kernel⟩ ⟨rfl, rfl, Nat.le_of_ble_eq_true rfl, Nat.le_of_ble_eq_true rfl⟩ (hs_recv hK hH 20 0 (by decide) 12 rfl rfl) rfl rfl hl.1 (Nat.le_of_ble_eq_true rfl) ⟨by omega, by omega⟩ dL_law_2626) hS (fun H locs hH hS => ?_)
  refine lv_icmp_eq (tgt := 3289) hx hb dL_law_2629 (by decide) (fun hc1226 => ?_) (fun hc1226 => ?_)
  · have hf := if_t hf hc1226
    refine W.widen (k := C + 14) (n := S + 1696) (by omega) (by omega) ?_
    exact w_L_law_3289 C0 hl9 xs L hX hbl C S hC9 hS9 k28 hk28 M1224 a5 hf _ _ _ hH hS (lv_sub hl [0, 1, 2, 3, 4, 5] rfl)
  · have hf := if_f hf hc1226
    refine lv_iconst (v := (0 : Int32)) hx hb dL_law_2632 (by decide) ?_
    cases hf
def f_L_law_2634 (xs : Nat → Int32) (L : Nat) (k28 : Mem → Int32 → Option Unit) (M : Mem) (a5 : Int32) : Option Unit := bd (f_X7_deliveredTotal M) fun r1228 => bd2 (f_X8_deliveredTotal M) fun r1231 M1230 => (if r1228 = r1231 then f_L_law_3289 xs L k28 M1230 a5 else none)
set_option maxHeartbeats 8000000 in
set_option maxRecDepth 100000 in
theorem w_L_law_2634 {Y : LY} {p : Program} {l : Launch} {e : Env} {s : State} {m : MethodId} {b : Nat} {below : List Frame} {meth : Method} {c : Code} (C0 : BE Y p s m #[Value.ref b] meth c cL_law 9 ret RL) (hl9 : l.stackTraces = false) (xs : Nat → Int32) (L : Nat) (hX : va_X b L xs s s.heap) (hbl : b < YZ Y) (C S : Nat) (hC9 : C + 60 ≤ 603072) (hS9 : S + 8000 ≤ 7182442) (k28 : Mem → Int32 → Option Unit) (hk28 : ∀ (M : Mem) (a5 : Int32), k28 M a5 = some () → ∀ (H : Heap) (locs : List Loc) (ls : Array Slot), HS Y M H → va_S (AZ Y) s.heap H locs → lv_has ls 9 [(0, .ref b), (1, .ref (YA Y 0 0)), (2, .ref (YA Y 20 0)), (3, .ref (YA Y 33 0)), (4, .ref (YA Y 36 0)), (5, .int a5)] → W p l e room_1 s m #[Value.ref b] below meth c H locs (C + 60) (S + 8000) (lw_Z below #[Value.ref b] s) (F0 m 28 ls [])) : ∀ (M : Mem) (a5 : Int32), f_L_law_2634 xs L k28 M a5 = some () → ∀ (H : Heap) (locs : List Loc) (ls : Array Slot), HS Y M H → va_S (AZ Y) s.heap H locs → lv_has ls 9 [(0, .ref b), (1, .ref (YA Y 0 0)), (2, .ref (YA Y 20 0)), (3, .ref (YA Y 33 0)), (4, .ref (YA Y 36 0)), (5, .int a5)] → W p l e room_1 s m #[Value.ref b] below meth c H locs (C + 0) (S + 0) (lw_Z below #[Value.ref b] s) (F0 m 2634 ls []) := by
  obtain ⟨hx, hb, hr, hml, hown, hA, hlocks, hK, hZ⟩ := id C0
  have hR1 : room_1.cells = 603072 := rfl
  have hR2 : room_1.slots = 7182442 := rfl
  intro M a5 hf H locs ls hH hS hl
  unfold f_L_law_2634 at hf
  refine lv_aload_n hx hb dL_law_2634 rfl (lv_at hl 1 rfl) ?_
  obtain ⟨r1228, hq1227, hf⟩ := bd_o hf
  refine hs_ci (hs_runV C0 hH hS (n := 0) (As := []) (rest := []) (c_X7_deliveredTotal M hq1227) ⟨⟨zt_644, zt_645, zt_646, zt_1, zt_647⟩, rfl, by decide, by decide, by decide +kernel⟩ ⟨rfl, rfl, Nat.le_of_ble_eq_true rfl, Nat.le_of_ble_eq_true rfl⟩ (hs_recv hK hH 0 0 (by decide) 11 rfl rfl) rfl rfl hl.1 (Nat.le_of_ble_eq_true rfl) ⟨by omega, by omega⟩ dL_law_2635) hS (fun H locs hH hS => ?_)
  refine lv_aload_n hx hb dL_law_2638 rfl (lv_at hl 2 rfl) ?_
  obtain ⟨r1231, M1230, hq1229, hf⟩ := bd2_o hf
  refine hs_ci (hs_runV C0 hH hS (n := 0) (As := []) (rest := [.int r1228]) (c_X8_deliveredTotal M hq1229) ⟨⟨zt_1944, zt_1945, zt_1946, zt_13, zt_1947⟩, rfl, by decide, by decide, by decide +kernel⟩ ⟨rfl, rfl, Nat.le_of_ble_eq_true rfl, Nat.le_of_ble_eq_true rfl⟩ (hs_recv hK hH 20 0 (by decide) 12 rfl rfl) rfl rfl hl.1 (Nat.le_of_ble_eq_true rfl) ⟨by omega, by omega⟩ dL_law_2639) hS (fun H locs hH hS => ?_)
  refine lv_icmp_eq (tgt := 3289) hx hb dL_law_2642 (by decide) (fun hc1232 => ?_) (fun hc1232 => ?_)
  · have hf := if_t hf hc1232
    refine W.widen (k := C + 14) (n := S + 1696) (by omega) (by omega) ?_
    exact w_L_law_3289 C0 hl9 xs L hX hbl C S hC9 hS9 k28 hk28 M1230 a5 hf _ _ _ hH hS (lv_sub hl [0, 1, 2, 3, 4, 5] rfl)
  · have hf := if_f hf hc1232
    refine lv_iconst (v := (0 : Int32)) hx hb dL_law_2645 (by decide) ?_
    cases hf
def f_L_law_2647 (xs : Nat → Int32) (L : Nat) (k28 : Mem → Int32 → Option Unit) (M : Mem) (a5 : Int32) : Option Unit := bd (f_X7_takenBackTotal M) fun r1234 => bd2 (f_X8_takenBackTotal M) fun r1237 M1236 => (if r1234 = r1237 then f_L_law_3289 xs L k28 M1236 a5 else none)
set_option maxHeartbeats 8000000 in
set_option maxRecDepth 100000 in
theorem w_L_law_2647 {Y : LY} {p : Program} {l : Launch} {e : Env} {s : State} {m : MethodId} {b : Nat} {below : List Frame} {meth : Method} {c : Code} (C0 : BE Y p s m #[Value.ref b] meth c cL_law 9 ret RL) (hl9 : l.stackTraces = false) (xs : Nat → Int32) (L : Nat) (hX : va_X b L xs s s.heap) (hbl : b < YZ Y) (C S : Nat) (hC9 : C + 60 ≤ 603072) (hS9 : S + 8000 ≤ 7182442) (k28 : Mem → Int32 → Option Unit) (hk28 : ∀ (M : Mem) (a5 : Int32), k28 M a5 = some () → ∀ (H : Heap) (locs : List Loc) (ls : Array Slot), HS Y M H → va_S (AZ Y) s.heap H locs → lv_has ls 9 [(0, .ref b), (1, .ref (YA Y 0 0)), (2, .ref (YA Y 20 0)), (3, .ref (YA Y 33 0)), (4, .ref (YA Y 36 0)), (5, .int a5)] → W p l e room_1 s m #[Value.ref b] below meth c H locs (C + 60) (S + 8000) (lw_Z below #[Value.ref b] s) (F0 m 28 ls [])) : ∀ (M : Mem) (a5 : Int32), f_L_law_2647 xs L k28 M a5 = some () → ∀ (H : Heap) (locs : List Loc) (ls : Array Slot), HS Y M H → va_S (AZ Y) s.heap H locs → lv_has ls 9 [(0, .ref b), (1, .ref (YA Y 0 0)), (2, .ref (YA Y 20 0)), (3, .ref (YA Y 33 0)), (4, .ref (YA Y 36 0)), (5, .int a5)] → W p l e room_1 s m #[Value.ref b] below meth c H locs (C + 0) (S + 0) (lw_Z below #[Value.ref b] s) (F0 m 2647 ls []) := by
  obtain ⟨hx, hb, hr, hml, hown, hA, hlocks, hK, hZ⟩ := id C0
  have hR1 : room_1.cells = 603072 := rfl
  have hR2 : room_1.slots = 7182442 := rfl
  intro M a5 hf H locs ls hH hS hl
  unfold f_L_law_2647 at hf
  refine lv_aload_n hx hb dL_law_2647 rfl (lv_at hl 1 rfl) ?_
  obtain ⟨r1234, hq1233, hf⟩ := bd_o hf
  refine hs_ci (hs_runV C0 hH hS (n := 0) (As := []) (rest := []) (c_X7_takenBackTotal M hq1233) ⟨⟨zt_648, zt_649, zt_650, zt_1, zt_651⟩, rfl, by decide, by decide, by decide +kernel⟩ ⟨rfl, rfl, Nat.le_of_ble_eq_true rfl, Nat.le_of_ble_eq_true rfl⟩ (hs_recv hK hH 0 0 (by decide) 11 rfl rfl) rfl rfl hl.1 (Nat.le_of_ble_eq_true rfl) ⟨by omega, by omega⟩ dL_law_2648) hS (fun H locs hH hS => ?_)
  refine lv_aload_n hx hb dL_law_2651 rfl (lv_at hl 2 rfl) ?_
  obtain ⟨r1237, M1236, hq1235, hf⟩ := bd2_o hf
  refine hs_ci (hs_runV C0 hH hS (n := 0) (As := []) (rest := [.int r1234]) (c_X8_takenBackTotal M hq1235) ⟨⟨zt_1948, zt_1949, zt_1950, zt_13, zt_1951⟩, rfl, by decide, by decide, by decide +kernel⟩ ⟨rfl, rfl, Nat.le_of_ble_eq_true rfl, Nat.le_of_ble_eq_true rfl⟩ (hs_recv hK hH 20 0 (by decide) 12 rfl rfl) rfl rfl hl.1 (Nat.le_of_ble_eq_true rfl) ⟨by omega, by omega⟩ dL_law_2652) hS (fun H locs hH hS => ?_)
  refine lv_icmp_eq (tgt := 3289) hx hb dL_law_2655 (by decide) (fun hc1238 => ?_) (fun hc1238 => ?_)
  · have hf := if_t hf hc1238
    refine W.widen (k := C + 14) (n := S + 1696) (by omega) (by omega) ?_
    exact w_L_law_3289 C0 hl9 xs L hX hbl C S hC9 hS9 k28 hk28 M1236 a5 hf _ _ _ hH hS (lv_sub hl [0, 1, 2, 3, 4, 5] rfl)
  · have hf := if_f hf hc1238
    refine lv_iconst (v := (0 : Int32)) hx hb dL_law_2658 (by decide) ?_
    cases hf
def f_L_law_2660 (xs : Nat → Int32) (L : Nat) (k28 : Mem → Int32 → Option Unit) (M : Mem) (a5 : Int32) : Option Unit := bd (f_X7_usedStamps M) fun r1240 => bd2 (f_X8_usedStamps M) fun r1243 M1242 => (if r1240 = r1243 then f_L_law_3289 xs L k28 M1242 a5 else none)
set_option maxHeartbeats 8000000 in
set_option maxRecDepth 100000 in
theorem w_L_law_2660 {Y : LY} {p : Program} {l : Launch} {e : Env} {s : State} {m : MethodId} {b : Nat} {below : List Frame} {meth : Method} {c : Code} (C0 : BE Y p s m #[Value.ref b] meth c cL_law 9 ret RL) (hl9 : l.stackTraces = false) (xs : Nat → Int32) (L : Nat) (hX : va_X b L xs s s.heap) (hbl : b < YZ Y) (C S : Nat) (hC9 : C + 60 ≤ 603072) (hS9 : S + 8000 ≤ 7182442) (k28 : Mem → Int32 → Option Unit) (hk28 : ∀ (M : Mem) (a5 : Int32), k28 M a5 = some () → ∀ (H : Heap) (locs : List Loc) (ls : Array Slot), HS Y M H → va_S (AZ Y) s.heap H locs → lv_has ls 9 [(0, .ref b), (1, .ref (YA Y 0 0)), (2, .ref (YA Y 20 0)), (3, .ref (YA Y 33 0)), (4, .ref (YA Y 36 0)), (5, .int a5)] → W p l e room_1 s m #[Value.ref b] below meth c H locs (C + 60) (S + 8000) (lw_Z below #[Value.ref b] s) (F0 m 28 ls [])) : ∀ (M : Mem) (a5 : Int32), f_L_law_2660 xs L k28 M a5 = some () → ∀ (H : Heap) (locs : List Loc) (ls : Array Slot), HS Y M H → va_S (AZ Y) s.heap H locs → lv_has ls 9 [(0, .ref b), (1, .ref (YA Y 0 0)), (2, .ref (YA Y 20 0)), (3, .ref (YA Y 33 0)), (4, .ref (YA Y 36 0)), (5, .int a5)] → W p l e room_1 s m #[Value.ref b] below meth c H locs (C + 0) (S + 0) (lw_Z below #[Value.ref b] s) (F0 m 2660 ls []) := by
  obtain ⟨hx, hb, hr, hml, hown, hA, hlocks, hK, hZ⟩ := id C0
  have hR1 : room_1.cells = 603072 := rfl
  have hR2 : room_1.slots = 7182442 := rfl
  intro M a5 hf H locs ls hH hS hl
  unfold f_L_law_2660 at hf
  refine lv_aload_n hx hb dL_law_2660 rfl (lv_at hl 1 rfl) ?_
  obtain ⟨r1240, hq1239, hf⟩ := bd_o hf
  refine hs_ci (hs_runV C0 hH hS (n := 0) (As := []) (rest := []) (c_X7_usedStamps M hq1239) ⟨⟨zt_652, zt_653, zt_654, zt_1, zt_655⟩, rfl, by decide, by decide, by decide +kernel⟩ ⟨rfl, rfl, Nat.le_of_ble_eq_true rfl, Nat.le_of_ble_eq_true rfl⟩ (hs_recv hK hH 0 0 (by decide) 11 rfl rfl) rfl rfl hl.1 (Nat.le_of_ble_eq_true rfl) ⟨by omega, by omega⟩ dL_law_2661) hS (fun H locs hH hS => ?_)
  refine lv_aload_n hx hb dL_law_2664 rfl (lv_at hl 2 rfl) ?_
  obtain ⟨r1243, M1242, hq1241, hf⟩ := bd2_o hf
  refine hs_ci (hs_runV C0 hH hS (n := 0) (As := []) (rest := [.int r1240]) (c_X8_usedStamps M hq1241) ⟨⟨zt_1952, zt_1953, zt_1954, zt_13, zt_1955⟩, rfl, by decide, by decide, by decide +kernel⟩ ⟨rfl, rfl, Nat.le_of_ble_eq_true rfl, Nat.le_of_ble_eq_true rfl⟩ (hs_recv hK hH 20 0 (by decide) 12 rfl rfl) rfl rfl hl.1 (Nat.le_of_ble_eq_true rfl) ⟨by omega, by omega⟩ dL_law_2665) hS (fun H locs hH hS => ?_)
  refine lv_icmp_eq (tgt := 3289) hx hb dL_law_2668 (by decide) (fun hc1244 => ?_) (fun hc1244 => ?_)
  · have hf := if_t hf hc1244
    refine W.widen (k := C + 14) (n := S + 1696) (by omega) (by omega) ?_
    exact w_L_law_3289 C0 hl9 xs L hX hbl C S hC9 hS9 k28 hk28 M1242 a5 hf _ _ _ hH hS (lv_sub hl [0, 1, 2, 3, 4, 5] rfl)
  · have hf := if_f hf hc1244
    refine lv_iconst (v := (0 : Int32)) hx hb dL_law_2671 (by decide) ?_
    cases hf
