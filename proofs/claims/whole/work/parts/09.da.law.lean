def f_L_law_3289 (xs : Nat → Int32) (L : Nat) (k28 : Mem → Int32 → Option Unit) (M : Mem) (a5 : Int32) : Option Unit := k28 M (a5 + (5 : Int32))
set_option maxHeartbeats 8000000 in
set_option maxRecDepth 100000 in
theorem w_L_law_3289 {Y : LY} {p : Program} {l : Launch} {e : Env} {s : State} {m : MethodId} {b : Nat} {below : List Frame} {meth : Method} {c : Code} (C0 : BE Y p s m #[Value.ref b] meth c cL_law 9 ret RL) (hl9 : l.stackTraces = false) (xs : Nat → Int32) (L : Nat) (hX : va_X b L xs s s.heap) (hbl : b < YZ Y) (C S : Nat) (hC9 : C + 60 ≤ 603072) (hS9 : S + 8000 ≤ 7182442) (k28 : Mem → Int32 → Option Unit) (hk28 : ∀ (M : Mem) (a5 : Int32), k28 M a5 = some () → ∀ (H : Heap) (locs : List Loc) (ls : Array Slot), HS Y M H → va_S (AZ Y) s.heap H locs → lv_has ls 9 [(0, .ref b), (1, .ref (YA Y 0 0)), (2, .ref (YA Y 20 0)), (3, .ref (YA Y 33 0)), (4, .ref (YA Y 36 0)), (5, .int a5)] → W p l e room_1 s m #[Value.ref b] below meth c H locs (C + 60) (S + 8000) (lw_Z below #[Value.ref b] s) (F0 m 28 ls [])) : ∀ (M : Mem) (a5 : Int32), f_L_law_3289 xs L k28 M a5 = some () → ∀ (H : Heap) (locs : List Loc) (ls : Array Slot), HS Y M H → va_S (AZ Y) s.heap H locs → lv_has ls 9 [(0, .ref b), (1, .ref (YA Y 0 0)), (2, .ref (YA Y 20 0)), (3, .ref (YA Y 33 0)), (4, .ref (YA Y 36 0)), (5, .int a5)] → W p l e room_1 s m #[Value.ref b] below meth c H locs (C + 14) (S + 1696) (lw_Z below #[Value.ref b] s) (F0 m 3289 ls []) := by
  obtain ⟨hx, hb, hr, hml, hown, hA, hlocks, hK, hZ⟩ := id C0
  have hR1 : room_1.cells = 603072 := rfl
  have hR2 : room_1.slots = 7182442 := rfl
  intro M a5 hf H locs ls hH hS hl
  unfold f_L_law_3289 at hf
  refine lv_iinc (v := a5 + (5 : Int32)) (lv' := [(5, .int (a5 + (5 : Int32))), (0, .ref b), (1, .ref (YA Y 0 0)), (2, .ref (YA Y 20 0)), (3, .ref (YA Y 33 0)), (4, .ref (YA Y 36 0))]) hx hb dL_law_3289 hl (k := 5) rfl rfl (by decide) rfl (fun ls hl => ?_)
  refine lv_goto (tgt := 28) hx hb dL_law_3292 (by decide) ?_
  refine W.widen (k := C + 60) (n := S + 8000) (by omega) (by omega) ?_
  exact hk28 M (a5 + (5 : Int32)) hf _ _ _ hH hS (lv_sub hl [1, 2, 3, 4, 5, 0] rfl)
def f_L_law_300 (xs : Nat → Int32) (L : Nat) (k28 : Mem → Int32 → Option Unit) (M : Mem) (a5 : Int32) : Option Unit := bd2 (f_L_addPlace M) fun r731 M730 => bd2 (f_X8_addPlace M730) fun r734 M733 => bd (f_X8_thrown M733) fun r736 => (if r736 = r731 then (if r731 = 0 then (if (lg_cmp ((M733 33 0 0).toInt64) r734.toInt64) = 0 then f_L_law_3289 xs L k28 M733 a5 else none) else f_L_law_3289 xs L k28 M733 a5) else none)
set_option maxHeartbeats 8000000 in
set_option maxRecDepth 100000 in
theorem w_L_law_300 {Y : LY} {p : Program} {l : Launch} {e : Env} {s : State} {m : MethodId} {b : Nat} {below : List Frame} {meth : Method} {c : Code} (C0 : BE Y p s m #[Value.ref b] meth c cL_law 9 ret RL) (hl9 : l.stackTraces = false) (xs : Nat → Int32) (L : Nat) (hX : va_X b L xs s s.heap) (hbl : b < YZ Y) (C S : Nat) (hC9 : C + 60 ≤ 603072) (hS9 : S + 8000 ≤ 7182442) (k28 : Mem → Int32 → Option Unit) (hk28 : ∀ (M : Mem) (a5 : Int32), k28 M a5 = some () → ∀ (H : Heap) (locs : List Loc) (ls : Array Slot), HS Y M H → va_S (AZ Y) s.heap H locs → lv_has ls 9 [(0, .ref b), (1, .ref (YA Y 0 0)), (2, .ref (YA Y 20 0)), (3, .ref (YA Y 33 0)), (4, .ref (YA Y 36 0)), (5, .int a5)] → W p l e room_1 s m #[Value.ref b] below meth c H locs (C + 60) (S + 8000) (lw_Z below #[Value.ref b] s) (F0 m 28 ls [])) : ∀ (M : Mem) (a5 : Int32), f_L_law_300 xs L k28 M a5 = some () → ∀ (H : Heap) (locs : List Loc) (ls : Array Slot), HS Y M H → va_S (AZ Y) s.heap H locs → lv_has ls 9 [(0, .ref b), (1, .ref (YA Y 0 0)), (2, .ref (YA Y 20 0)), (3, .ref (YA Y 33 0)), (4, .ref (YA Y 36 0)), (5, .int a5)] → W p l e room_1 s m #[Value.ref b] below meth c H locs (C + 0) (S + 0) (lw_Z below #[Value.ref b] s) (F0 m 300 ls []) := by
  obtain ⟨hx, hb, hr, hml, hown, hA, hlocks, hK, hZ⟩ := id C0
  have hR1 : room_1.cells = 603072 := rfl
  have hR2 : room_1.slots = 7182442 := rfl
  intro M a5 hf H locs ls hH hS hl
  unfold f_L_law_300 at hf
  refine lv_aload_n hx hb dL_law_300 rfl (lv_at hl 1 rfl) ?_
  refine lv_aload_n hx hb dL_law_301 rfl (lv_at hl 3 rfl) ?_
  obtain ⟨r731, M730, hq729, hf⟩ := bd2_o hf
  refine hs_ci (hs_runSX C0 hH hS (n := 2) (As := [.ref (YA Y 0 0), .ref (YA Y 33 0)]) (rest := []) (c_L_addPlace hl9 M hq729) ⟨⟨zt_687, zt_688, zt_0, zt_689⟩, by decide, by decide, by decide +kernel⟩ ⟨rfl, rfl, Nat.le_of_ble_eq_true rfl, Nat.le_of_ble_eq_true rfl⟩ rfl rfl hl.1 (Nat.le_of_ble_eq_true rfl) ⟨by omega, by omega⟩ dL_law_302) hS (fun H locs hH hS => ?_)
  refine lv_istore (lv' := [(6, .int r731), (0, .ref b), (1, .ref (YA Y 0 0)), (2, .ref (YA Y 20 0)), (3, .ref (YA Y 33 0)), (4, .ref (YA Y 36 0)), (5, .int a5)]) hx hb dL_law_305 hl (by decide) rfl (fun ls hl => ?_)
  refine lv_aload_n hx hb dL_law_307 rfl (lv_at hl 3 rfl) ?_
  obtain ⟨r734, M733, hq732, hf⟩ := bd2_o hf
  refine hs_ci (hs_runV C0 hH hS (n := 0) (As := []) (rest := []) (c_X8_addPlace M730 hq732) ⟨⟨zt_1625, zt_1626, zt_1627, zt_13, zt_1628⟩, rfl, by decide, by decide, by decide +kernel⟩ ⟨rfl, rfl, Nat.le_of_ble_eq_true rfl, Nat.le_of_ble_eq_true rfl⟩ (hs_recv hK hH 20 0 (by decide) 12 rfl rfl) rfl rfl hl.1 (Nat.le_of_ble_eq_true rfl) ⟨by omega, by omega⟩ dL_law_308) hS (fun H locs hH hS => ?_)
  refine lv_istore (lv' := [(7, .int r734), (6, .int r731), (0, .ref b), (1, .ref (YA Y 0 0)), (2, .ref (YA Y 20 0)), (3, .ref (YA Y 33 0)), (4, .ref (YA Y 36 0)), (5, .int a5)]) hx hb dL_law_311 hl (by decide) rfl (fun ls hl => ?_)
  refine lv_aload_n hx hb dL_law_313 rfl (lv_at hl 4 rfl) ?_
  obtain ⟨r736, hq735, hf⟩ := bd_o hf
  refine hs_ci (hs_runV C0 hH hS (n := 0) (As := []) (rest := []) (c_X8_thrown M733 hq735) ⟨⟨zt_1621, zt_1622, zt_1623, zt_13, zt_1624⟩, rfl, by decide, by decide, by decide +kernel⟩ ⟨rfl, rfl, Nat.le_of_ble_eq_true rfl, Nat.le_of_ble_eq_true rfl⟩ (hs_recv hK hH 20 0 (by decide) 12 rfl rfl) rfl rfl hl.1 (Nat.le_of_ble_eq_true rfl) ⟨by omega, by omega⟩ dL_law_314) hS (fun H locs hH hS => ?_)
  refine lv_iload hx hb dL_law_317 (lv_at hl 1 rfl) ?_
  refine lv_icmp_eq (tgt := 324) hx hb dL_law_319 (by decide) (fun hc739 => ?_) (fun hc739 => ?_)
  · have hf := if_t hf hc739
    refine lv_iload hx hb dL_law_324 (lv_at hl 1 rfl) ?_
    refine lv_if_ne (tgt := 341) hx hb dL_law_326 (by decide) (fun hc738 => ?_) (fun hc738 => ?_)
    · have hf := if_f hf hc738
      refine lv_goto (tgt := 3289) hx hb dL_law_341 (by decide) ?_
      refine W.widen (k := C + 14) (n := S + 1696) (by omega) (by omega) ?_
      exact w_L_law_3289 C0 hl9 xs L hX hbl C S hC9 hS9 k28 hk28 M733 a5 hf _ _ _ hH hS (lv_sub hl [2, 3, 4, 5, 6, 7] rfl)
    · have hf := if_t hf hc738
      refine lv_aload_n hx hb dL_law_329 rfl (lv_at hl 5 rfl) ?_
      refine lv_iconst (v := (0 : Int32)) hx hb dL_law_330 (by decide) ?_
      refine hl_laload hx hb hK hH dL_law_331 ?_
      refine lv_iload hx hb dL_law_332 (lv_at hl 0 rfl) ?_
      refine lv_i2l (v := r734.toInt64) hx hb dL_law_334 rfl ?_
      refine W.lcmp hx hb dL_law_335 ?_
      refine lv_if_eq (tgt := 341) hx hb dL_law_336 (by decide) (fun hc737 => ?_) (fun hc737 => ?_)
      · have hf := if_t hf hc737
        refine lv_goto (tgt := 3289) hx hb dL_law_341 (by decide) ?_
        refine W.widen (k := C + 14) (n := S + 1696) (by omega) (by omega) ?_
        exact w_L_law_3289 C0 hl9 xs L hX hbl C S hC9 hS9 k28 hk28 M733 a5 hf _ _ _ hH hS (lv_sub hl [2, 3, 4, 5, 6, 7] rfl)
      · have hf := if_f hf hc737
        refine lv_iconst (v := (0 : Int32)) hx hb dL_law_339 (by decide) ?_
        cases hf
  · have hf := if_f hf hc739
    refine lv_iconst (v := (0 : Int32)) hx hb dL_law_322 (by decide) ?_
    cases hf
def f_L_law_344 (xs : Nat → Int32) (L : Nat) (k28 : Mem → Int32 → Option Unit) (M : Mem) (a5 : Int32) : Option Unit := if vin (a5 + (1 : Int32)) L then (if vin (a5 + (2 : Int32)) L then (if vin (a5 + (3 : Int32)) L then (if vin (a5 + (4 : Int32)) L then (bd2 (f_L_addLink M (xs (ix (a5 + (1 : Int32)))) (xs (ix (a5 + (2 : Int32)))) (xs (ix (a5 + (3 : Int32)))) (xs (ix (a5 + (4 : Int32))))) fun r746 M745 => bd2 (f_X8_addLink M745 (xs (ix (a5 + (1 : Int32)))) (xs (ix (a5 + (2 : Int32)))) (xs (ix (a5 + (3 : Int32)))) (xs (ix (a5 + (4 : Int32))))) fun r749 M748 => bd (f_X8_thrown M748) fun r751 => (if r751 = r746 then (if r746 = 0 then (if (lg_cmp ((M748 33 0 0).toInt64) r749.toInt64) = 0 then f_L_law_3289 xs L k28 M748 a5 else none) else f_L_law_3289 xs L k28 M748 a5) else none)) else none) else none) else none) else none
set_option maxHeartbeats 8000000 in
set_option maxRecDepth 100000 in
theorem w_L_law_344 {Y : LY} {p : Program} {l : Launch} {e : Env} {s : State} {m : MethodId} {b : Nat} {below : List Frame} {meth : Method} {c : Code} (C0 : BE Y p s m #[Value.ref b] meth c cL_law 9 ret RL) (hl9 : l.stackTraces = false) (xs : Nat → Int32) (L : Nat) (hX : va_X b L xs s s.heap) (hbl : b < YZ Y) (C S : Nat) (hC9 : C + 60 ≤ 603072) (hS9 : S + 8000 ≤ 7182442) (k28 : Mem → Int32 → Option Unit) (hk28 : ∀ (M : Mem) (a5 : Int32), k28 M a5 = some () → ∀ (H : Heap) (locs : List Loc) (ls : Array Slot), HS Y M H → va_S (AZ Y) s.heap H locs → lv_has ls 9 [(0, .ref b), (1, .ref (YA Y 0 0)), (2, .ref (YA Y 20 0)), (3, .ref (YA Y 33 0)), (4, .ref (YA Y 36 0)), (5, .int a5)] → W p l e room_1 s m #[Value.ref b] below meth c H locs (C + 60) (S + 8000) (lw_Z below #[Value.ref b] s) (F0 m 28 ls [])) : ∀ (M : Mem) (a5 : Int32), f_L_law_344 xs L k28 M a5 = some () → ∀ (H : Heap) (locs : List Loc) (ls : Array Slot), HS Y M H → va_S (AZ Y) s.heap H locs → lv_has ls 9 [(0, .ref b), (1, .ref (YA Y 0 0)), (2, .ref (YA Y 20 0)), (3, .ref (YA Y 33 0)), (4, .ref (YA Y 36 0)), (5, .int a5)] → W p l e room_1 s m #[Value.ref b] below meth c H locs (C + 0) (S + 0) (lw_Z below #[Value.ref b] s) (F0 m 344 ls []) := by
  obtain ⟨hx, hb, hr, hml, hown, hA, hlocks, hK, hZ⟩ := id C0
  have hR1 : room_1.cells = 603072 := rfl
  have hR2 : room_1.slots = 7182442 := rfl
  intro M a5 hf H locs ls hH hS hl
  unfold f_L_law_344 at hf
  refine lv_aload_n hx hb dL_law_344 rfl (lv_at hl 1 rfl) ?_
  refine lv_aload_n hx hb dL_law_345 rfl (lv_at hl 0 rfl) ?_
  refine lv_iload hx hb dL_law_346 (lv_at hl 5 rfl) ?_
  refine lv_iconst (v := (1 : Int32)) hx hb dL_law_348 (by decide) ?_
  refine lv_iadd hx hb dL_law_349 ?_
  obtain ⟨hg740, hf⟩ := gd_o hf
  refine hl_sld hx hb hX (Nat.lt_of_lt_of_le hbl hZ) (Nat.not_le.mpr hbl) hS hg740 dL_law_350 ?_
  refine lv_aload_n hx hb dL_law_351 rfl (lv_at hl 0 rfl) ?_
  refine lv_iload hx hb dL_law_352 (lv_at hl 5 rfl) ?_
  refine lv_iconst (v := (2 : Int32)) hx hb dL_law_354 (by decide) ?_
  refine lv_iadd hx hb dL_law_355 ?_
  obtain ⟨hg741, hf⟩ := gd_o hf
  refine hl_sld hx hb hX (Nat.lt_of_lt_of_le hbl hZ) (Nat.not_le.mpr hbl) hS hg741 dL_law_356 ?_
  refine lv_aload_n hx hb dL_law_357 rfl (lv_at hl 0 rfl) ?_
  refine lv_iload hx hb dL_law_358 (lv_at hl 5 rfl) ?_
  refine lv_iconst (v := (3 : Int32)) hx hb dL_law_360 (by decide) ?_
  refine lv_iadd hx hb dL_law_361 ?_
  obtain ⟨hg742, hf⟩ := gd_o hf
  refine hl_sld hx hb hX (Nat.lt_of_lt_of_le hbl hZ) (Nat.not_le.mpr hbl) hS hg742 dL_law_362 ?_
  refine lv_aload_n hx hb dL_law_363 rfl (lv_at hl 0 rfl) ?_
  refine lv_iload hx hb dL_law_364 (lv_at hl 5 rfl) ?_
  refine lv_iconst (v := (4 : Int32)) hx hb dL_law_366 (by decide) ?_
  refine lv_iadd hx hb dL_law_367 ?_
  obtain ⟨hg743, hf⟩ := gd_o hf
  refine hl_sld hx hb hX (Nat.lt_of_lt_of_le hbl hZ) (Nat.not_le.mpr hbl) hS hg743 dL_law_368 ?_
  refine lv_aload_n hx hb dL_law_369 rfl (lv_at hl 3 rfl) ?_
  obtain ⟨r746, M745, hq744, hf⟩ := bd2_o hf
  refine hs_ci (hs_runSX C0 hH hS (n := 6) (As := [.ref (YA Y 0 0), .int (xs (ix (a5 + (1 : Int32)))), .int (xs (ix (a5 + (2 : Int32)))), .int (xs (ix (a5 + (3 : Int32)))), .int (xs (ix (a5 + (4 : Int32)))), .ref (YA Y 33 0)]) (rest := []) (c_L_addLink hl9 M (xs (ix (a5 + (1 : Int32)))) (xs (ix (a5 + (2 : Int32)))) (xs (ix (a5 + (3 : Int32)))) (xs (ix (a5 + (4 : Int32)))) hq744) ⟨⟨zt_695, zt_696, zt_0, zt_697⟩, by decide, by decide, by decide +kernel⟩ ⟨rfl, rfl, Nat.le_of_ble_eq_true rfl, Nat.le_of_ble_eq_true rfl⟩ rfl rfl hl.1 (Nat.le_of_ble_eq_true rfl) ⟨by omega, by omega⟩ dL_law_370) hS (fun H locs hH hS => ?_)
  refine lv_istore (lv' := [(6, .int r746), (0, .ref b), (1, .ref (YA Y 0 0)), (2, .ref (YA Y 20 0)), (3, .ref (YA Y 33 0)), (4, .ref (YA Y 36 0)), (5, .int a5)]) hx hb dL_law_373 hl (by decide) rfl (fun ls hl => ?_)
  refine lv_aload_n hx hb dL_law_375 rfl (lv_at hl 3 rfl) ?_
  refine lv_aload_n hx hb dL_law_376 rfl (lv_at hl 1 rfl) ?_
  refine lv_iload hx hb dL_law_377 (lv_at hl 6 rfl) ?_
  refine lv_iconst (v := (1 : Int32)) hx hb dL_law_379 (by decide) ?_
  refine lv_iadd hx hb dL_law_380 ?_
  refine hl_sld hx hb hX (Nat.lt_of_lt_of_le hbl hZ) (Nat.not_le.mpr hbl) hS hg740 dL_law_381 ?_
  refine lv_aload_n hx hb dL_law_382 rfl (lv_at hl 1 rfl) ?_
  refine lv_iload hx hb dL_law_383 (lv_at hl 6 rfl) ?_
  refine lv_iconst (v := (2 : Int32)) hx hb dL_law_385 (by decide) ?_
  refine lv_iadd hx hb dL_law_386 ?_
  refine hl_sld hx hb hX (Nat.lt_of_lt_of_le hbl hZ) (Nat.not_le.mpr hbl) hS hg741 dL_law_387 ?_
  refine lv_aload_n hx hb dL_law_388 rfl (lv_at hl 1 rfl) ?_
  refine lv_iload hx hb dL_law_389 (lv_at hl 6 rfl) ?_
  refine lv_iconst (v := (3 : Int32)) hx hb dL_law_391 (by decide) ?_
  refine lv_iadd hx hb dL_law_392 ?_
  refine hl_sld hx hb hX (Nat.lt_of_lt_of_le hbl hZ) (Nat.not_le.mpr hbl) hS hg742 dL_law_393 ?_
  refine lv_aload_n hx hb dL_law_394 rfl (lv_at hl 1 rfl) ?_
  refine lv_iload hx hb dL_law_395 (lv_at hl 6 rfl) ?_
  refine lv_iconst (v := (4 : Int32)) hx hb dL_law_397 (by decide) ?_
  refine lv_iadd hx hb dL_law_398 ?_
  refine hl_sld hx hb hX (Nat.lt_of_lt_of_le hbl hZ) (Nat.not_le.mpr hbl) hS hg743 dL_law_399 ?_
  obtain ⟨r749, M748, hq747, hf⟩ := bd2_o hf
  refine hs_ci (hs_runV C0 hH hS (n := 4) (As := [.int (xs (ix (a5 + (1 : Int32)))), .int (xs (ix (a5 + (2 : Int32)))), .int (xs (ix (a5 + (3 : Int32)))), .int (xs (ix (a5 + (4 : Int32))))]) (rest := []) (c_X8_addLink M745 (xs (ix (a5 + (1 : Int32)))) (xs (ix (a5 + (2 : Int32)))) (xs (ix (a5 + (3 : Int32)))) (xs (ix (a5 + (4 : Int32)))) hq747) ⟨⟨zt_1645, zt_1646, zt_1647, zt_13, zt_1648⟩, rfl, by decide, by decide, by decide +kernel⟩ ⟨rfl, rfl, Nat.le_of_ble_eq_true rfl, Nat.le_of_ble_eq_true rfl⟩ (hs_recv hK hH 20 0 (by decide) 12 rfl rfl) rfl rfl hl.1 (Nat.le_of_ble_eq_true rfl) ⟨by omega, by omega⟩ dL_law_400) hS (fun H locs hH hS => ?_)
  refine lv_istore (lv' := [(7, .int r749), (6, .int r746), (0, .ref b), (1, .ref (YA Y 0 0)), (2, .ref (YA Y 20 0)), (3, .ref (YA Y 33 0)), (4, .ref (YA Y 36 0)), (5, .int a5)]) hx hb dL_law_403 hl (by decide) rfl (fun ls hl => ?_)
  refine lv_aload_n hx hb dL_law_405 rfl (lv_at hl 4 rfl) ?_
  obtain ⟨r751, hq750, hf⟩ := bd_o hf
  refine hs_ci (hs_runV C0 hH hS (n := 0) (As := []) (rest := []) (c_X8_thrown M748 hq750) ⟨⟨zt_1621, zt_1622, zt_1623, zt_13, zt_1624⟩, rfl, by decide, by decide, by decide +kernel⟩ ⟨rfl, rfl, Nat.le_of_ble_eq_true rfl, Nat.le_of_ble_eq_true rfl⟩ (hs_recv hK hH 20 0 (by decide) 12 rfl rfl) rfl rfl hl.1 (Nat.le_of_ble_eq_true rfl) ⟨by omega, by omega⟩ dL_law_406) hS (fun H locs hH hS => ?_)
  refine lv_iload hx hb dL_law_409 (lv_at hl 1 rfl) ?_
  refine lv_icmp_eq (tgt := 416) hx hb dL_law_411 (by decide) (fun hc754 => ?_) (fun hc754 => ?_)
  · have hf := if_t hf hc754
    refine lv_iload hx hb dL_law_416 (lv_at hl 1 rfl) ?_
    refine lv_if_ne (tgt := 433) hx hb dL_law_418 (by decide) (fun hc753 => ?_) (fun hc753 => ?_)
    · have hf := if_f hf hc753
      refine lv_goto (tgt := 3289) hx hb dL_law_433 (by decide) ?_
      refine W.widen (k := C + 14) (n := S + 1696) (by omega) (by omega) ?_
      exact w_L_law_3289 C0 hl9 xs L hX hbl C S hC9 hS9 k28 hk28 M748 a5 hf _ _ _ hH hS (lv_sub hl [2, 3, 4, 5, 6, 7] rfl)
    · have hf := if_t hf hc753
      refine lv_aload_n hx hb dL_law_421 rfl (lv_at hl 5 rfl) ?_
      refine lv_iconst (v := (0 : Int32)) hx hb dL_law_422 (by decide) ?_
      refine hl_laload hx hb hK hH dL_law_423 ?_
      refine lv_iload hx hb dL_law_424 (lv_at hl 0 rfl) ?_
      refine lv_i2l (v := r749.toInt64) hx hb dL_law_426 rfl ?_
      refine W.lcmp hx hb dL_law_427 ?_
      refine lv_if_eq (tgt := 433) hx hb dL_law_428 (by decide) (fun hc752 => ?_) (fun hc752 => ?_)
      · have hf := if_t hf hc752
        refine lv_goto (tgt := 3289) hx hb dL_law_433 (by decide) ?_
        refine W.widen (k := C + 14) (n := S + 1696) (by omega) (by omega) ?_
        exact w_L_law_3289 C0 hl9 xs L hX hbl C S hC9 hS9 k28 hk28 M748 a5 hf _ _ _ hH hS (lv_sub hl [2, 3, 4, 5, 6, 7] rfl)
      · have hf := if_f hf hc752
        refine lv_iconst (v := (0 : Int32)) hx hb dL_law_431 (by decide) ?_
        cases hf
  · have hf := if_f hf hc754
    refine lv_iconst (v := (0 : Int32)) hx hb dL_law_414 (by decide) ?_
    cases hf
def f_L_law_436 (xs : Nat → Int32) (L : Nat) (k28 : Mem → Int32 → Option Unit) (M : Mem) (a5 : Int32) : Option Unit := if vin (a5 + (1 : Int32)) L then (bd2 (f_L_block M (xs (ix (a5 + (1 : Int32))))) fun r758 M757 => bd2 (f_X8_block M757 (xs (ix (a5 + (1 : Int32))))) fun r761 M760 => bd (f_X8_thrown M760) fun r763 => (if r763 = r758 then (if r758 = 0 then (if (lg_cmp ((M760 33 0 0).toInt64) r761.toInt64) = 0 then f_L_law_3289 xs L k28 M760 a5 else none) else f_L_law_3289 xs L k28 M760 a5) else none)) else none
set_option maxHeartbeats 8000000 in
set_option maxRecDepth 100000 in
theorem w_L_law_436 {Y : LY} {p : Program} {l : Launch} {e : Env} {s : State} {m : MethodId} {b : Nat} {below : List Frame} {meth : Method} {c : Code} (C0 : BE Y p s m #[Value.ref b] meth c cL_law 9 ret RL) (hl9 : l.stackTraces = false) (xs : Nat → Int32) (L : Nat) (hX : va_X b L xs s s.heap) (hbl : b < YZ Y) (C S : Nat) (hC9 : C + 60 ≤ 603072) (hS9 : S + 8000 ≤ 7182442) (k28 : Mem → Int32 → Option Unit) (hk28 : ∀ (M : Mem) (a5 : Int32), k28 M a5 = some () → ∀ (H : Heap) (locs : List Loc) (ls : Array Slot), HS Y M H → va_S (AZ Y) s.heap H locs → lv_has ls 9 [(0, .ref b), (1, .ref (YA Y 0 0)), (2, .ref (YA Y 20 0)), (3, .ref (YA Y 33 0)), (4, .ref (YA Y 36 0)), (5, .int a5)] → W p l e room_1 s m #[Value.ref b] below meth c H locs (C + 60) (S + 8000) (lw_Z below #[Value.ref b] s) (F0 m 28 ls [])) : ∀ (M : Mem) (a5 : Int32), f_L_law_436 xs L k28 M a5 = some () → ∀ (H : Heap) (locs : List Loc) (ls : Array Slot), HS Y M H → va_S (AZ Y) s.heap H locs → lv_has ls 9 [(0, .ref b), (1, .ref (YA Y 0 0)), (2, .ref (YA Y 20 0)), (3, .ref (YA Y 33 0)), (4, .ref (YA Y 36 0)), (5, .int a5)] → W p l e room_1 s m #[Value.ref b] below meth c H locs (C + 0) (S + 0) (lw_Z below #[Value.ref b] s) (F0 m 436 ls []) := by
  obtain ⟨hx, hb, hr, hml, hown, hA, hlocks, hK, hZ⟩ := id C0
  have hR1 : room_1.cells = 603072 := rfl
  have hR2 : room_1.slots = 7182442 := rfl
  intro M a5 hf H locs ls hH hS hl
  unfold f_L_law_436 at hf
  refine lv_aload_n hx hb dL_law_436 rfl (lv_at hl 1 rfl) ?_
  refine lv_aload_n hx hb dL_law_437 rfl (lv_at hl 0 rfl) ?_
  refine lv_iload hx hb dL_law_438 (lv_at hl 5 rfl) ?_
  refine lv_iconst (v := (1 : Int32)) hx hb dL_law_440 (by decide) ?_
  refine lv_iadd hx hb dL_law_441 ?_
  obtain ⟨hg755, hf⟩ := gd_o hf
  refine hl_sld hx hb hX (Nat.lt_of_lt_of_le hbl hZ) (Nat.not_le.mpr hbl) hS hg755 dL_law_442 ?_
  refine lv_aload_n hx hb dL_law_443 rfl (lv_at hl 3 rfl) ?_
  obtain ⟨r758, M757, hq756, hf⟩ := bd2_o hf
  refine hs_ci (hs_runSX C0 hH hS (n := 3) (As := [.ref (YA Y 0 0), .int (xs (ix (a5 + (1 : Int32)))), .ref (YA Y 33 0)]) (rest := []) (c_L_block hl9 M (xs (ix (a5 + (1 : Int32)))) hq756) ⟨⟨zt_724, zt_725, zt_0, zt_726⟩, by decide, by decide, by decide +kernel⟩ ⟨rfl, rfl, Nat.le_of_ble_eq_true rfl, Nat.le_of_ble_eq_true rfl⟩ rfl rfl hl.1 (Nat.le_of_ble_eq_true rfl) ⟨by omega, by omega⟩ dL_law_444) hS (fun H locs hH hS => ?_)
  refine lv_istore (lv' := [(6, .int r758), (0, .ref b), (1, .ref (YA Y 0 0)), (2, .ref (YA Y 20 0)), (3, .ref (YA Y 33 0)), (4, .ref (YA Y 36 0)), (5, .int a5)]) hx hb dL_law_447 hl (by decide) rfl (fun ls hl => ?_)
  refine lv_aload_n hx hb dL_law_449 rfl (lv_at hl 3 rfl) ?_
  refine lv_aload_n hx hb dL_law_450 rfl (lv_at hl 1 rfl) ?_
  refine lv_iload hx hb dL_law_451 (lv_at hl 6 rfl) ?_
  refine lv_iconst (v := (1 : Int32)) hx hb dL_law_453 (by decide) ?_
  refine lv_iadd hx hb dL_law_454 ?_
  refine hl_sld hx hb hX (Nat.lt_of_lt_of_le hbl hZ) (Nat.not_le.mpr hbl) hS hg755 dL_law_455 ?_
  obtain ⟨r761, M760, hq759, hf⟩ := bd2_o hf
  refine hs_ci (hs_runV C0 hH hS (n := 1) (As := [.int (xs (ix (a5 + (1 : Int32))))]) (rest := []) (c_X8_block M757 (xs (ix (a5 + (1 : Int32)))) hq759) ⟨⟨zt_1665, zt_1666, zt_1667, zt_13, zt_1668⟩, rfl, by decide, by decide, by decide +kernel⟩ ⟨rfl, rfl, Nat.le_of_ble_eq_true rfl, Nat.le_of_ble_eq_true rfl⟩ (hs_recv hK hH 20 0 (by decide) 12 rfl rfl) rfl rfl hl.1 (Nat.le_of_ble_eq_true rfl) ⟨by omega, by omega⟩ dL_law_456) hS (fun H locs hH hS => ?_)
  refine lv_istore (lv' := [(7, .int r761), (6, .int r758), (0, .ref b), (1, .ref (YA Y 0 0)), (2, .ref (YA Y 20 0)), (3, .ref (YA Y 33 0)), (4, .ref (YA Y 36 0)), (5, .int a5)]) hx hb dL_law_459 hl (by decide) rfl (fun ls hl => ?_)
  refine lv_aload_n hx hb dL_law_461 rfl (lv_at hl 4 rfl) ?_
  obtain ⟨r763, hq762, hf⟩ := bd_o hf
  refine hs_ci (hs_runV C0 hH hS (n := 0) (As := []) (rest := []) (c_X8_thrown M760 hq762) ⟨⟨zt_1621, zt_1622, zt_1623, zt_13, zt_1624⟩, rfl, by decide, by decide, by decide +kernel⟩ ⟨rfl, rfl, Nat.le_of_ble_eq_true rfl, Nat.le_of_ble_eq_true rfl⟩ (hs_recv hK hH 20 0 (by decide) 12 rfl rfl) rfl rfl hl.1 (Nat.le_of_ble_eq_true rfl) ⟨by omega, by omega⟩ dL_law_462) hS (fun H locs hH hS => ?_)
  refine lv_iload hx hb dL_law_465 (lv_at hl 1 rfl) ?_
  refine lv_icmp_eq (tgt := 472) hx hb dL_law_467 (by decide) (fun hc766 => ?_) (fun hc766 => ?_)
  · have hf := if_t hf hc766
    refine lv_iload hx hb dL_law_472 (lv_at hl 1 rfl) ?_
    refine lv_if_ne (tgt := 489) hx hb dL_law_474 (by decide) (fun hc765 => ?_) (fun hc765 => ?_)
    · have hf := if_f hf hc765
      refine lv_goto (tgt := 3289) hx hb dL_law_489 (by decide) ?_
      refine W.widen (k := C + 14) (n := S + 1696) (by omega) (by omega) ?_
      exact w_L_law_3289 C0 hl9 xs L hX hbl C S hC9 hS9 k28 hk28 M760 a5 hf _ _ _ hH hS (lv_sub hl [2, 3, 4, 5, 6, 7] rfl)
    · have hf := if_t hf hc765
      refine lv_aload_n hx hb dL_law_477 rfl (lv_at hl 5 rfl) ?_
      refine lv_iconst (v := (0 : Int32)) hx hb dL_law_478 (by decide) ?_
      refine hl_laload hx hb hK hH dL_law_479 ?_
      refine lv_iload hx hb dL_law_480 (lv_at hl 0 rfl) ?_
      refine lv_i2l (v := r761.toInt64) hx hb dL_law_482 rfl ?_
      refine W.lcmp hx hb dL_law_483 ?_
      refine lv_if_eq (tgt := 489) hx hb dL_law_484 (by decide) (fun hc764 => ?_) (fun hc764 => ?_)
      · have hf := if_t hf hc764
        refine lv_goto (tgt := 3289) hx hb dL_law_489 (by decide) ?_
        refine W.widen (k := C + 14) (n := S + 1696) (by omega) (by omega) ?_
        exact w_L_law_3289 C0 hl9 xs L hX hbl C S hC9 hS9 k28 hk28 M760 a5 hf _ _ _ hH hS (lv_sub hl [2, 3, 4, 5, 6, 7] rfl)
      · have hf := if_f hf hc764
        refine lv_iconst (v := (0 : Int32)) hx hb dL_law_487 (by decide) ?_
        cases hf
  · have hf := if_f hf hc766
    refine lv_iconst (v := (0 : Int32)) hx hb dL_law_470 (by decide) ?_
    cases hf
def f_L_law_492 (xs : Nat → Int32) (L : Nat) (k28 : Mem → Int32 → Option Unit) (M : Mem) (a5 : Int32) : Option Unit := if vin (a5 + (1 : Int32)) L then (bd2 (f_L_open M (xs (ix (a5 + (1 : Int32))))) fun r770 M769 => bd2 (f_X8_open M769 (xs (ix (a5 + (1 : Int32))))) fun r773 M772 => bd (f_X8_thrown M772) fun r775 => (if r775 = r770 then (if r770 = 0 then (if (lg_cmp ((M772 33 0 0).toInt64) r773.toInt64) = 0 then f_L_law_3289 xs L k28 M772 a5 else none) else f_L_law_3289 xs L k28 M772 a5) else none)) else none
set_option maxHeartbeats 8000000 in
set_option maxRecDepth 100000 in
theorem w_L_law_492 {Y : LY} {p : Program} {l : Launch} {e : Env} {s : State} {m : MethodId} {b : Nat} {below : List Frame} {meth : Method} {c : Code} (C0 : BE Y p s m #[Value.ref b] meth c cL_law 9 ret RL) (hl9 : l.stackTraces = false) (xs : Nat → Int32) (L : Nat) (hX : va_X b L xs s s.heap) (hbl : b < YZ Y) (C S : Nat) (hC9 : C + 60 ≤ 603072) (hS9 : S + 8000 ≤ 7182442) (k28 : Mem → Int32 → Option Unit) (hk28 : ∀ (M : Mem) (a5 : Int32), k28 M a5 = some () → ∀ (H : Heap) (locs : List Loc) (ls : Array Slot), HS Y M H → va_S (AZ Y) s.heap H locs → lv_has ls 9 [(0, .ref b), (1, .ref (YA Y 0 0)), (2, .ref (YA Y 20 0)), (3, .ref (YA Y 33 0)), (4, .ref (YA Y 36 0)), (5, .int a5)] → W p l e room_1 s m #[Value.ref b] below meth c H locs (C + 60) (S + 8000) (lw_Z below #[Value.ref b] s) (F0 m 28 ls [])) : ∀ (M : Mem) (a5 : Int32), f_L_law_492 xs L k28 M a5 = some () → ∀ (H : Heap) (locs : List Loc) (ls : Array Slot), HS Y M H → va_S (AZ Y) s.heap H locs → lv_has ls 9 [(0, .ref b), (1, .ref (YA Y 0 0)), (2, .ref (YA Y 20 0)), (3, .ref (YA Y 33 0)), (4, .ref (YA Y 36 0)), (5, .int a5)] → W p l e room_1 s m #[Value.ref b] below meth c H locs (C + 0) (S + 0) (lw_Z below #[Value.ref b] s) (F0 m 492 ls []) := by
  obtain ⟨hx, hb, hr, hml, hown, hA, hlocks, hK, hZ⟩ := id C0
  have hR1 : room_1.cells = 603072 := rfl
  have hR2 : room_1.slots = 7182442 := rfl
  intro M a5 hf H locs ls hH hS hl
  unfold f_L_law_492 at hf
  refine lv_aload_n hx hb dL_law_492 rfl (lv_at hl 1 rfl) ?_
  refine lv_aload_n hx hb dL_law_493 rfl (lv_at hl 0 rfl) ?_
  refine lv_iload hx hb dL_law_494 (lv_at hl 5 rfl) ?_
  refine lv_iconst (v := (1 : Int32)) hx hb dL_law_496 (by decide) ?_
  refine lv_iadd hx hb dL_law_497 ?_
  obtain ⟨hg767, hf⟩ := gd_o hf
  refine hl_sld hx hb hX (Nat.lt_of_lt_of_le hbl hZ) (Nat.not_le.mpr hbl) hS hg767 dL_law_498 ?_
  refine lv_aload_n hx hb dL_law_499 rfl (lv_at hl 3 rfl) ?_
  obtain ⟨r770, M769, hq768, hf⟩ := bd2_o hf
  refine hs_ci (hs_runSX C0 hH hS (n := 3) (As := [.ref (YA Y 0 0), .int (xs (ix (a5 + (1 : Int32)))), .ref (YA Y 33 0)]) (rest := []) (c_L_open hl9 M (xs (ix (a5 + (1 : Int32)))) hq768) ⟨⟨zt_731, zt_732, zt_0, zt_733⟩, by decide, by decide, by decide +kernel⟩ ⟨rfl, rfl, Nat.le_of_ble_eq_true rfl, Nat.le_of_ble_eq_true rfl⟩ rfl rfl hl.1 (Nat.le_of_ble_eq_true rfl) ⟨by omega, by omega⟩ dL_law_500) hS (fun H locs hH hS => ?_)
  refine lv_istore (lv' := [(6, .int r770), (0, .ref b), (1, .ref (YA Y 0 0)), (2, .ref (YA Y 20 0)), (3, .ref (YA Y 33 0)), (4, .ref (YA Y 36 0)), (5, .int a5)]) hx hb dL_law_503 hl (by decide) rfl (fun ls hl => ?_)
  refine lv_aload_n hx hb dL_law_505 rfl (lv_at hl 3 rfl) ?_
  refine lv_aload_n hx hb dL_law_506 rfl (lv_at hl 1 rfl) ?_
  refine lv_iload hx hb dL_law_507 (lv_at hl 6 rfl) ?_
  refine lv_iconst (v := (1 : Int32)) hx hb dL_law_509 (by decide) ?_
  refine lv_iadd hx hb dL_law_510 ?_
  refine hl_sld hx hb hX (Nat.lt_of_lt_of_le hbl hZ) (Nat.not_le.mpr hbl) hS hg767 dL_law_511 ?_
  obtain ⟨r773, M772, hq771, hf⟩ := bd2_o hf
  refine hs_ci (hs_runV C0 hH hS (n := 1) (As := [.int (xs (ix (a5 + (1 : Int32))))]) (rest := []) (c_X8_open M769 (xs (ix (a5 + (1 : Int32)))) hq771) ⟨⟨zt_1681, zt_1682, zt_1683, zt_13, zt_1684⟩, rfl, by decide, by decide, by decide +kernel⟩ ⟨rfl, rfl, Nat.le_of_ble_eq_true rfl, Nat.le_of_ble_eq_true rfl⟩ (hs_recv hK hH 20 0 (by decide) 12 rfl rfl) rfl rfl hl.1 (Nat.le_of_ble_eq_true rfl) ⟨by omega, by omega⟩ dL_law_512) hS (fun H locs hH hS => ?_)
  refine lv_istore (lv' := [(7, .int r773), (6, .int r770), (0, .ref b), (1, .ref (YA Y 0 0)), (2, .ref (YA Y 20 0)), (3, .ref (YA Y 33 0)), (4, .ref (YA Y 36 0)), (5, .int a5)]) hx hb dL_law_515 hl (by decide) rfl (fun ls hl => ?_)
  refine lv_aload_n hx hb dL_law_517 rfl (lv_at hl 4 rfl) ?_
  obtain ⟨r775, hq774, hf⟩ := bd_o hf
  refine hs_ci (hs_runV C0 hH hS (n := 0) (As := []) (rest := []) (c_X8_thrown M772 hq774) ⟨⟨zt_1621, zt_1622, zt_1623, zt_13, zt_1624⟩, rfl, by decide, by decide, by decide +kernel⟩ ⟨rfl, rfl, Nat.le_of_ble_eq_true rfl, Nat.le_of_ble_eq_true rfl⟩ (hs_recv hK hH 20 0 (by decide) 12 rfl rfl) rfl rfl hl.1 (Nat.le_of_ble_eq_true rfl) ⟨by omega, by omega⟩ dL_law_518) hS (fun H locs hH hS => ?_)
  refine lv_iload hx hb dL_law_521 (lv_at hl 1 rfl) ?_
  refine lv_icmp_eq (tgt := 528) hx hb dL_law_523 (by decide) (fun hc778 => ?_) (fun hc778 => ?_)
  · have hf := if_t hf hc778
    refine lv_iload hx hb dL_law_528 (lv_at hl 1 rfl) ?_
    refine lv_if_ne (tgt := 545) hx hb dL_law_530 (by decide) (fun hc777 => ?_) (fun hc777 => ?_)
    · have hf := if_f hf hc777
      refine lv_goto (tgt := 3289) hx hb dL_law_545 (by decide) ?_
      refine W.widen (k := C + 14) (n := S + 1696) (by omega) (by omega) ?_
      exact w_L_law_3289 C0 hl9 xs L hX hbl C S hC9 hS9 k28 hk28 M772 a5 hf _ _ _ hH hS (lv_sub hl [2, 3, 4, 5, 6, 7] rfl)
    · have hf := if_t hf hc777
      refine lv_aload_n hx hb dL_law_533 rfl (lv_at hl 5 rfl) ?_
      refine lv_iconst (v := (0 : Int32)) hx hb dL_law_534 (by decide) ?_
      refine hl_laload hx hb hK hH dL_law_535 ?_
      refine lv_iload hx hb dL_law_536 (lv_at hl 0 rfl) ?_
      refine lv_i2l (v := r773.toInt64) hx hb dL_law_538 rfl ?_
      refine W.lcmp hx hb dL_law_539 ?_
      refine lv_if_eq (tgt := 545) hx hb dL_law_540 (by decide) (fun hc776 => ?_) (fun hc776 => ?_)
      · have hf := if_t hf hc776
        refine lv_goto (tgt := 3289) hx hb dL_law_545 (by decide) ?_
        refine W.widen (k := C + 14) (n := S + 1696) (by omega) (by omega) ?_
        exact w_L_law_3289 C0 hl9 xs L hX hbl C S hC9 hS9 k28 hk28 M772 a5 hf _ _ _ hH hS (lv_sub hl [2, 3, 4, 5, 6, 7] rfl)
      · have hf := if_f hf hc776
        refine lv_iconst (v := (0 : Int32)) hx hb dL_law_543 (by decide) ?_
        cases hf
  · have hf := if_f hf hc778
    refine lv_iconst (v := (0 : Int32)) hx hb dL_law_526 (by decide) ?_
    cases hf
def f_L_law_548 (xs : Nat → Int32) (L : Nat) (k28 : Mem → Int32 → Option Unit) (M : Mem) (a5 : Int32) : Option Unit := if vin (a5 + (1 : Int32)) L then (if vin (a5 + (2 : Int32)) L then (if vin (a5 + (3 : Int32)) L then (if vin (a5 + (4 : Int32)) L then (bd2 (f_L_post M (xs (ix (a5 + (1 : Int32)))) (xs (ix (a5 + (2 : Int32)))) (xs (ix (a5 + (3 : Int32)))) (xs (ix (a5 + (4 : Int32))))) fun r785 M784 => bd2 (f_X8_post M784 (xs (ix (a5 + (1 : Int32)))) (xs (ix (a5 + (2 : Int32)))) (xs (ix (a5 + (3 : Int32)))) (xs (ix (a5 + (4 : Int32))))) fun r788 M787 => bd (f_X8_thrown M787) fun r790 => (if r790 = r785 then (if r785 = 0 then (if (lg_cmp ((M787 33 0 0).toInt64) r788.toInt64) = 0 then f_L_law_3289 xs L k28 M787 a5 else none) else f_L_law_3289 xs L k28 M787 a5) else none)) else none) else none) else none) else none
set_option maxHeartbeats 8000000 in
set_option maxRecDepth 100000 in
theorem w_L_law_548 {Y : LY} {p : Program} {l : Launch} {e : Env} {s : State} {m : MethodId} {b : Nat} {below : List Frame} {meth : Method} {c : Code} (C0 : BE Y p s m #[Value.ref b] meth c cL_law 9 ret RL) (hl9 : l.stackTraces = false) (xs : Nat → Int32) (L : Nat) (hX : va_X b L xs s s.heap) (hbl : b < YZ Y) (C S : Nat) (hC9 : C + 60 ≤ 603072) (hS9 : S + 8000 ≤ 7182442) (k28 : Mem → Int32 → Option Unit) (hk28 : ∀ (M : Mem) (a5 : Int32), k28 M a5 = some () → ∀ (H : Heap) (locs : List Loc) (ls : Array Slot), HS Y M H → va_S (AZ Y) s.heap H locs → lv_has ls 9 [(0, .ref b), (1, .ref (YA Y 0 0)), (2, .ref (YA Y 20 0)), (3, .ref (YA Y 33 0)), (4, .ref (YA Y 36 0)), (5, .int a5)] → W p l e room_1 s m #[Value.ref b] below meth c H locs (C + 60) (S + 8000) (lw_Z below #[Value.ref b] s) (F0 m 28 ls [])) : ∀ (M : Mem) (a5 : Int32), f_L_law_548 xs L k28 M a5 = some () → ∀ (H : Heap) (locs : List Loc) (ls : Array Slot), HS Y M H → va_S (AZ Y) s.heap H locs → lv_has ls 9 [(0, .ref b), (1, .ref (YA Y 0 0)), (2, .ref (YA Y 20 0)), (3, .ref (YA Y 33 0)), (4, .ref (YA Y 36 0)), (5, .int a5)] → W p l e room_1 s m #[Value.ref b] below meth c H locs (C + 0) (S + 0) (lw_Z below #[Value.ref b] s) (F0 m 548 ls []) := by
  obtain ⟨hx, hb, hr, hml, hown, hA, hlocks, hK, hZ⟩ := id C0
  have hR1 : room_1.cells = 603072 := rfl
  have hR2 : room_1.slots = 7182442 := rfl
  intro M a5 hf H locs ls hH hS hl
  unfold f_L_law_548 at hf
  refine lv_aload_n hx hb dL_law_548 rfl (lv_at hl 1 rfl) ?_
  refine lv_aload_n hx hb dL_law_549 rfl (lv_at hl 0 rfl) ?_
  refine lv_iload hx hb dL_law_550 (lv_at hl 5 rfl) ?_
  refine lv_iconst (v := (1 : Int32)) hx hb dL_law_552 (by decide) ?_
  refine lv_iadd hx hb dL_law_553 ?_
  obtain ⟨hg779, hf⟩ := gd_o hf
  refine hl_sld hx hb hX (Nat.lt_of_lt_of_le hbl hZ) (Nat.not_le.mpr hbl) hS hg779 dL_law_554 ?_
  refine lv_aload_n hx hb dL_law_555 rfl (lv_at hl 0 rfl) ?_
  refine lv_iload hx hb dL_law_556 (lv_at hl 5 rfl) ?_
  refine lv_iconst (v := (2 : Int32)) hx hb dL_law_558 (by decide) ?_
  refine lv_iadd hx hb dL_law_559 ?_
  obtain ⟨hg780, hf⟩ := gd_o hf
  refine hl_sld hx hb hX (Nat.lt_of_lt_of_le hbl hZ) (Nat.not_le.mpr hbl) hS hg780 dL_law_560 ?_
  refine lv_aload_n hx hb dL_law_561 rfl (lv_at hl 0 rfl) ?_
  refine lv_iload hx hb dL_law_562 (lv_at hl 5 rfl) ?_
  refine lv_iconst (v := (3 : Int32)) hx hb dL_law_564 (by decide) ?_
  refine lv_iadd hx hb dL_law_565 ?_
  obtain ⟨hg781, hf⟩ := gd_o hf
  refine hl_sld hx hb hX (Nat.lt_of_lt_of_le hbl hZ) (Nat.not_le.mpr hbl) hS hg781 dL_law_566 ?_
  refine lv_aload_n hx hb dL_law_567 rfl (lv_at hl 0 rfl) ?_
  refine lv_iload hx hb dL_law_568 (lv_at hl 5 rfl) ?_
  refine lv_iconst (v := (4 : Int32)) hx hb dL_law_570 (by decide) ?_
  refine lv_iadd hx hb dL_law_571 ?_
  obtain ⟨hg782, hf⟩ := gd_o hf
  refine hl_sld hx hb hX (Nat.lt_of_lt_of_le hbl hZ) (Nat.not_le.mpr hbl) hS hg782 dL_law_572 ?_
  refine lv_aload_n hx hb dL_law_573 rfl (lv_at hl 3 rfl) ?_
  obtain ⟨r785, M784, hq783, hf⟩ := bd2_o hf
  refine hs_ci (hs_runSX C0 hH hS (n := 6) (As := [.ref (YA Y 0 0), .int (xs (ix (a5 + (1 : Int32)))), .int (xs (ix (a5 + (2 : Int32)))), .int (xs (ix (a5 + (3 : Int32)))), .int (xs (ix (a5 + (4 : Int32)))), .ref (YA Y 33 0)]) (rest := []) (c_L_post hl9 M (xs (ix (a5 + (1 : Int32)))) (xs (ix (a5 + (2 : Int32)))) (xs (ix (a5 + (3 : Int32)))) (xs (ix (a5 + (4 : Int32)))) hq783) ⟨⟨zt_738, zt_739, zt_0, zt_740⟩, by decide, by decide, by decide +kernel⟩ ⟨rfl, rfl, Nat.le_of_ble_eq_true rfl, Nat.le_of_ble_eq_true rfl⟩ rfl rfl hl.1 (Nat.le_of_ble_eq_true rfl) ⟨by omega, by omega⟩ dL_law_574) hS (fun H locs hH hS => ?_)
  refine lv_istore (lv' := [(6, .int r785), (0, .ref b), (1, .ref (YA Y 0 0)), (2, .ref (YA Y 20 0)), (3, .ref (YA Y 33 0)), (4, .ref (YA Y 36 0)), (5, .int a5)]) hx hb dL_law_577 hl (by decide) rfl (fun ls hl => ?_)
  refine lv_aload_n hx hb dL_law_579 rfl (lv_at hl 3 rfl) ?_
  refine lv_aload_n hx hb dL_law_580 rfl (lv_at hl 1 rfl) ?_
  refine lv_iload hx hb dL_law_581 (lv_at hl 6 rfl) ?_
  refine lv_iconst (v := (1 : Int32)) hx hb dL_law_583 (by decide) ?_
  refine lv_iadd hx hb dL_law_584 ?_
  refine hl_sld hx hb hX (Nat.lt_of_lt_of_le hbl hZ) (Nat.not_le.mpr hbl) hS hg779 dL_law_585 ?_
  refine lv_aload_n hx hb dL_law_586 rfl (lv_at hl 1 rfl) ?_
  refine lv_iload hx hb dL_law_587 (lv_at hl 6 rfl) ?_
  refine lv_iconst (v := (2 : Int32)) hx hb dL_law_589 (by decide) ?_
  refine lv_iadd hx hb dL_law_590 ?_
  refine hl_sld hx hb hX (Nat.lt_of_lt_of_le hbl hZ) (Nat.not_le.mpr hbl) hS hg780 dL_law_591 ?_
  refine lv_aload_n hx hb dL_law_592 rfl (lv_at hl 1 rfl) ?_
  refine lv_iload hx hb dL_law_593 (lv_at hl 6 rfl) ?_
  refine lv_iconst (v := (3 : Int32)) hx hb dL_law_595 (by decide) ?_
  refine lv_iadd hx hb dL_law_596 ?_
  refine hl_sld hx hb hX (Nat.lt_of_lt_of_le hbl hZ) (Nat.not_le.mpr hbl) hS hg781 dL_law_597 ?_
  refine lv_aload_n hx hb dL_law_598 rfl (lv_at hl 1 rfl) ?_
  refine lv_iload hx hb dL_law_599 (lv_at hl 6 rfl) ?_
  refine lv_iconst (v := (4 : Int32)) hx hb dL_law_601 (by decide) ?_
  refine lv_iadd hx hb dL_law_602 ?_
  refine hl_sld hx hb hX (Nat.lt_of_lt_of_le hbl hZ) (Nat.not_le.mpr hbl) hS hg782 dL_law_603 ?_
  obtain ⟨r788, M787, hq786, hf⟩ := bd2_o hf
  refine hs_ci (hs_runV C0 hH hS (n := 4) (As := [.int (xs (ix (a5 + (1 : Int32)))), .int (xs (ix (a5 + (2 : Int32)))), .int (xs (ix (a5 + (3 : Int32)))), .int (xs (ix (a5 + (4 : Int32))))]) (rest := []) (c_X8_post M784 (xs (ix (a5 + (1 : Int32)))) (xs (ix (a5 + (2 : Int32)))) (xs (ix (a5 + (3 : Int32)))) (xs (ix (a5 + (4 : Int32)))) hq786) ⟨⟨zt_1685, zt_1686, zt_1687, zt_13, zt_1688⟩, rfl, by decide, by decide, by decide +kernel⟩ ⟨rfl, rfl, Nat.le_of_ble_eq_true rfl, Nat.le_of_ble_eq_true rfl⟩ (hs_recv hK hH 20 0 (by decide) 12 rfl rfl) rfl rfl hl.1 (Nat.le_of_ble_eq_true rfl) ⟨by omega, by omega⟩ dL_law_604) hS (fun H locs hH hS => ?_)
  refine lv_istore (lv' := [(7, .int r788), (6, .int r785), (0, .ref b), (1, .ref (YA Y 0 0)), (2, .ref (YA Y 20 0)), (3, .ref (YA Y 33 0)), (4, .ref (YA Y 36 0)), (5, .int a5)]) hx hb dL_law_607 hl (by decide) rfl (fun ls hl => ?_)
  refine lv_aload_n hx hb dL_law_609 rfl (lv_at hl 4 rfl) ?_
  obtain ⟨r790, hq789, hf⟩ := bd_o hf
  refine hs_ci (hs_runV C0 hH hS (n := 0) (As := []) (rest := []) (c_X8_thrown M787 hq789) ⟨⟨zt_1621, zt_1622, zt_1623, zt_13, zt_1624⟩, rfl, by decide, by decide, by decide +kernel⟩ ⟨rfl, rfl, Nat.le_of_ble_eq_true rfl, Nat.le_of_ble_eq_true rfl⟩ (hs_recv hK hH 20 0 (by decide) 12 rfl rfl) rfl rfl hl.1 (Nat.le_of_ble_eq_true rfl) ⟨by omega, by omega⟩ dL_law_610) hS (fun H locs hH hS => ?_)
  refine lv_iload hx hb dL_law_613 (lv_at hl 1 rfl) ?_
  refine lv_icmp_eq (tgt := 620) hx hb dL_law_615 (by decide) (fun hc793 => ?_) (fun hc793 => ?_)
  · have hf := if_t hf hc793
    refine lv_iload hx hb dL_law_620 (lv_at hl 1 rfl) ?_
    refine lv_if_ne (tgt := 637) hx hb dL_law_622 (by decide) (fun hc792 => ?_) (fun hc792 => ?_)
    · have hf := if_f hf hc792
      refine lv_goto (tgt := 3289) hx hb dL_law_637 (by decide) ?_
      refine W.widen (k := C + 14) (n := S + 1696) (by omega) (by omega) ?_
      exact w_L_law_3289 C0 hl9 xs L hX hbl C S hC9 hS9 k28 hk28 M787 a5 hf _ _ _ hH hS (lv_sub hl [2, 3, 4, 5, 6, 7] rfl)
    · have hf := if_t hf hc792
      refine lv_aload_n hx hb dL_law_625 rfl (lv_at hl 5 rfl) ?_
      refine lv_iconst (v := (0 : Int32)) hx hb dL_law_626 (by decide) ?_
      refine hl_laload hx hb hK hH dL_law_627 ?_
      refine lv_iload hx hb dL_law_628 (lv_at hl 0 rfl) ?_
      refine lv_i2l (v := r788.toInt64) hx hb dL_law_630 rfl ?_
      refine W.lcmp hx hb dL_law_631 ?_
      refine lv_if_eq (tgt := 637) hx hb dL_law_632 (by decide) (fun hc791 => ?_) (fun hc791 => ?_)
      · have hf := if_t hf hc791
        refine lv_goto (tgt := 3289) hx hb dL_law_637 (by decide) ?_
        refine W.widen (k := C + 14) (n := S + 1696) (by omega) (by omega) ?_
        exact w_L_law_3289 C0 hl9 xs L hX hbl C S hC9 hS9 k28 hk28 M787 a5 hf _ _ _ hH hS (lv_sub hl [2, 3, 4, 5, 6, 7] rfl)
      · have hf := if_f hf hc791
        refine lv_iconst (v := (0 : Int32)) hx hb dL_law_635 (by decide) ?_
        cases hf
  · have hf := if_f hf hc793
    refine lv_iconst (v := (0 : Int32)) hx hb dL_law_618 (by decide) ?_
    cases hf
def f_L_law_640 (xs : Nat → Int32) (L : Nat) (k28 : Mem → Int32 → Option Unit) (M : Mem) (a5 : Int32) : Option Unit := if vin (a5 + (1 : Int32)) L then (if vin (a5 + (2 : Int32)) L then (bd2 (f_L_send M (xs (ix (a5 + (1 : Int32)))) (xs (ix (a5 + (2 : Int32))))) fun r798 M797 => bd2 (f_X8_send M797 (xs (ix (a5 + (1 : Int32)))) (xs (ix (a5 + (2 : Int32))))) fun r801 M800 => bd (f_X8_thrown M800) fun r803 => (if r803 = r798 then (if r798 = 0 then (if (lg_cmp ((M800 33 0 0).toInt64) r801.toInt64) = 0 then f_L_law_3289 xs L k28 M800 a5 else none) else f_L_law_3289 xs L k28 M800 a5) else none)) else none) else none
set_option maxHeartbeats 8000000 in
set_option maxRecDepth 100000 in
theorem w_L_law_640 {Y : LY} {p : Program} {l : Launch} {e : Env} {s : State} {m : MethodId} {b : Nat} {below : List Frame} {meth : Method} {c : Code} (C0 : BE Y p s m #[Value.ref b] meth c cL_law 9 ret RL) (hl9 : l.stackTraces = false) (xs : Nat → Int32) (L : Nat) (hX : va_X b L xs s s.heap) (hbl : b < YZ Y) (C S : Nat) (hC9 : C + 60 ≤ 603072) (hS9 : S + 8000 ≤ 7182442) (k28 : Mem → Int32 → Option Unit) (hk28 : ∀ (M : Mem) (a5 : Int32), k28 M a5 = some () → ∀ (H : Heap) (locs : List Loc) (ls : Array Slot), HS Y M H → va_S (AZ Y) s.heap H locs → lv_has ls 9 [(0, .ref b), (1, .ref (YA Y 0 0)), (2, .ref (YA Y 20 0)), (3, .ref (YA Y 33 0)), (4, .ref (YA Y 36 0)), (5, .int a5)] → W p l e room_1 s m #[Value.ref b] below meth c H locs (C + 60) (S + 8000) (lw_Z below #[Value.ref b] s) (F0 m 28 ls [])) : ∀ (M : Mem) (a5 : Int32), f_L_law_640 xs L k28 M a5 = some () → ∀ (H : Heap) (locs : List Loc) (ls : Array Slot), HS Y M H → va_S (AZ Y) s.heap H locs → lv_has ls 9 [(0, .ref b), (1, .ref (YA Y 0 0)), (2, .ref (YA Y 20 0)), (3, .ref (YA Y 33 0)), (4, .ref (YA Y 36 0)), (5, .int a5)] → W p l e room_1 s m #[Value.ref b] below meth c H locs (C + 0) (S + 0) (lw_Z below #[Value.ref b] s) (F0 m 640 ls []) := by
  obtain ⟨hx, hb, hr, hml, hown, hA, hlocks, hK, hZ⟩ := id C0
  have hR1 : room_1.cells = 603072 := rfl
  have hR2 : room_1.slots = 7182442 := rfl
  intro M a5 hf H locs ls hH hS hl
  unfold f_L_law_640 at hf
  refine lv_aload_n hx hb dL_law_640 rfl (lv_at hl 1 rfl) ?_
  refine lv_aload_n hx hb dL_law_641 rfl (lv_at hl 0 rfl) ?_
  refine lv_iload hx hb dL_law_642 (lv_at hl 5 rfl) ?_
  refine lv_iconst (v := (1 : Int32)) hx hb dL_law_644 (by decide) ?_
  refine lv_iadd hx hb dL_law_645 ?_
  obtain ⟨hg794, hf⟩ := gd_o hf
  refine hl_sld hx hb hX (Nat.lt_of_lt_of_le hbl hZ) (Nat.not_le.mpr hbl) hS hg794 dL_law_646 ?_
  refine lv_aload_n hx hb dL_law_647 rfl (lv_at hl 0 rfl) ?_
  refine lv_iload hx hb dL_law_648 (lv_at hl 5 rfl) ?_
  refine lv_iconst (v := (2 : Int32)) hx hb dL_law_650 (by decide) ?_
  refine lv_iadd hx hb dL_law_651 ?_
  obtain ⟨hg795, hf⟩ := gd_o hf
  refine hl_sld hx hb hX (Nat.lt_of_lt_of_le hbl hZ) (Nat.not_le.mpr hbl) hS hg795 dL_law_652 ?_
  refine lv_aload_n hx hb dL_law_653 rfl (lv_at hl 3 rfl) ?_
  obtain ⟨r798, M797, hq796, hf⟩ := bd2_o hf
  refine hs_ci (hs_runSX C0 hH hS (n := 4) (As := [.ref (YA Y 0 0), .int (xs (ix (a5 + (1 : Int32)))), .int (xs (ix (a5 + (2 : Int32)))), .ref (YA Y 33 0)]) (rest := []) (c_L_send hl9 M (xs (ix (a5 + (1 : Int32)))) (xs (ix (a5 + (2 : Int32)))) hq796) ⟨⟨zt_745, zt_746, zt_0, zt_747⟩, by decide, by decide, by decide +kernel⟩ ⟨rfl, rfl, Nat.le_of_ble_eq_true rfl, Nat.le_of_ble_eq_true rfl⟩ rfl rfl hl.1 (Nat.le_of_ble_eq_true rfl) ⟨by omega, by omega⟩ dL_law_654) hS (fun H locs hH hS => ?_)
  refine lv_istore (lv' := [(6, .int r798), (0, .ref b), (1, .ref (YA Y 0 0)), (2, .ref (YA Y 20 0)), (3, .ref (YA Y 33 0)), (4, .ref (YA Y 36 0)), (5, .int a5)]) hx hb dL_law_657 hl (by decide) rfl (fun ls hl => ?_)
  refine lv_aload_n hx hb dL_law_659 rfl (lv_at hl 3 rfl) ?_
  refine lv_aload_n hx hb dL_law_660 rfl (lv_at hl 1 rfl) ?_
  refine lv_iload hx hb dL_law_661 (lv_at hl 6 rfl) ?_
  refine lv_iconst (v := (1 : Int32)) hx hb dL_law_663 (by decide) ?_
  refine lv_iadd hx hb dL_law_664 ?_
  refine hl_sld hx hb hX (Nat.lt_of_lt_of_le hbl hZ) (Nat.not_le.mpr hbl) hS hg794 dL_law_665 ?_
  refine lv_aload_n hx hb dL_law_666 rfl (lv_at hl 1 rfl) ?_
  refine lv_iload hx hb dL_law_667 (lv_at hl 6 rfl) ?_
  refine lv_iconst (v := (2 : Int32)) hx hb dL_law_669 (by decide) ?_
  refine lv_iadd hx hb dL_law_670 ?_
  refine hl_sld hx hb hX (Nat.lt_of_lt_of_le hbl hZ) (Nat.not_le.mpr hbl) hS hg795 dL_law_671 ?_
  obtain ⟨r801, M800, hq799, hf⟩ := bd2_o hf
  refine hs_ci (hs_runV C0 hH hS (n := 2) (As := [.int (xs (ix (a5 + (1 : Int32)))), .int (xs (ix (a5 + (2 : Int32))))]) (rest := []) (c_X8_send M797 (xs (ix (a5 + (1 : Int32)))) (xs (ix (a5 + (2 : Int32)))) hq799) ⟨⟨zt_1697, zt_1698, zt_1699, zt_13, zt_1700⟩, rfl, by decide, by decide, by decide +kernel⟩ ⟨rfl, rfl, Nat.le_of_ble_eq_true rfl, Nat.le_of_ble_eq_true rfl⟩ (hs_recv hK hH 20 0 (by decide) 12 rfl rfl) rfl rfl hl.1 (Nat.le_of_ble_eq_true rfl) ⟨by omega, by omega⟩ dL_law_672) hS (fun H locs hH hS => ?_)
  refine lv_istore (lv' := [(7, .int r801), (6, .int r798), (0, .ref b), (1, .ref (YA Y 0 0)), (2, .ref (YA Y 20 0)), (3, .ref (YA Y 33 0)), (4, .ref (YA Y 36 0)), (5, .int a5)]) hx hb dL_law_675 hl (by decide) rfl (fun ls hl => ?_)
  refine lv_aload_n hx hb dL_law_677 rfl (lv_at hl 4 rfl) ?_
  obtain ⟨r803, hq802, hf⟩ := bd_o hf
  refine hs_ci (hs_runV C0 hH hS (n := 0) (As := []) (rest := []) (c_X8_thrown M800 hq802) ⟨⟨zt_1621, zt_1622, zt_1623, zt_13, zt_1624⟩, rfl, by decide, by decide, by decide +kernel⟩ ⟨rfl, rfl, Nat.le_of_ble_eq_true rfl, Nat.le_of_ble_eq_true rfl⟩ (hs_recv hK hH 20 0 (by decide) 12 rfl rfl) rfl rfl hl.1 (Nat.le_of_ble_eq_true rfl) ⟨by omega, by omega⟩ dL_law_678) hS (fun H locs hH hS => ?_)
  refine lv_iload hx hb dL_law_681 (lv_at hl 1 rfl) ?_
  refine lv_icmp_eq (tgt := 688) hx hb dL_law_683 (by decide) (fun hc806 => ?_) (fun hc806 => ?_)
  · have hf := if_t hf hc806
    refine lv_iload hx hb dL_law_688 (lv_at hl 1 rfl) ?_
    refine lv_if_ne (tgt := 705) hx hb dL_law_690 (by decide) (fun hc805 => ?_) (fun hc805 => ?_)
    · have hf := if_f hf hc805
      refine lv_goto (tgt := 3289) hx hb dL_law_705 (by decide) ?_
      refine W.widen (k := C + 14) (n := S + 1696) (by omega) (by omega) ?_
      exact w_L_law_3289 C0 hl9 xs L hX hbl C S hC9 hS9 k28 hk28 M800 a5 hf _ _ _ hH hS (lv_sub hl [2, 3, 4, 5, 6, 7] rfl)
    · have hf := if_t hf hc805
      refine lv_aload_n hx hb dL_law_693 rfl (lv_at hl 5 rfl) ?_
      refine lv_iconst (v := (0 : Int32)) hx hb dL_law_694 (by decide) ?_
      refine hl_laload hx hb hK hH dL_law_695 ?_
      refine lv_iload hx hb dL_law_696 (lv_at hl 0 rfl) ?_
      refine lv_i2l (v := r801.toInt64) hx hb dL_law_698 rfl ?_
      refine W.lcmp hx hb dL_law_699 ?_
      refine lv_if_eq (tgt := 705) hx hb dL_law_700 (by decide) (fun hc804 => ?_) (fun hc804 => ?_)
      · have hf := if_t hf hc804
        refine lv_goto (tgt := 3289) hx hb dL_law_705 (by decide) ?_
        refine W.widen (k := C + 14) (n := S + 1696) (by omega) (by omega) ?_
        exact w_L_law_3289 C0 hl9 xs L hX hbl C S hC9 hS9 k28 hk28 M800 a5 hf _ _ _ hH hS (lv_sub hl [2, 3, 4, 5, 6, 7] rfl)
      · have hf := if_f hf hc804
        refine lv_iconst (v := (0 : Int32)) hx hb dL_law_703 (by decide) ?_
        cases hf
  · have hf := if_f hf hc806
    refine lv_iconst (v := (0 : Int32)) hx hb dL_law_686 (by decide) ?_
    cases hf
def f_L_law_708 (xs : Nat → Int32) (L : Nat) (k28 : Mem → Int32 → Option Unit) (M : Mem) (a5 : Int32) : Option Unit := if vin (a5 + (1 : Int32)) L then (if vin (a5 + (2 : Int32)) L then (bd2 (f_L_addStamps M (xs (ix (a5 + (1 : Int32)))) (xs (ix (a5 + (2 : Int32))))) fun r811 M810 => bd2 (f_X8_addStamps M810 (xs (ix (a5 + (1 : Int32)))) (xs (ix (a5 + (2 : Int32))))) fun r814 M813 => bd (f_X8_thrown M813) fun r816 => (if r816 = r811 then (if r811 = 0 then (if (lg_cmp ((M813 33 0 0).toInt64) r814.toInt64) = 0 then f_L_law_3289 xs L k28 M813 a5 else none) else f_L_law_3289 xs L k28 M813 a5) else none)) else none) else none
set_option maxHeartbeats 8000000 in
set_option maxRecDepth 100000 in
theorem w_L_law_708 {Y : LY} {p : Program} {l : Launch} {e : Env} {s : State} {m : MethodId} {b : Nat} {below : List Frame} {meth : Method} {c : Code} (C0 : BE Y p s m #[Value.ref b] meth c cL_law 9 ret RL) (hl9 : l.stackTraces = false) (xs : Nat → Int32) (L : Nat) (hX : va_X b L xs s s.heap) (hbl : b < YZ Y) (C S : Nat) (hC9 : C + 60 ≤ 603072) (hS9 : S + 8000 ≤ 7182442) (k28 : Mem → Int32 → Option Unit) (hk28 : ∀ (M : Mem) (a5 : Int32), k28 M a5 = some () → ∀ (H : Heap) (locs : List Loc) (ls : Array Slot), HS Y M H → va_S (AZ Y) s.heap H locs → lv_has ls 9 [(0, .ref b), (1, .ref (YA Y 0 0)), (2, .ref (YA Y 20 0)), (3, .ref (YA Y 33 0)), (4, .ref (YA Y 36 0)), (5, .int a5)] → W p l e room_1 s m #[Value.ref b] below meth c H locs (C + 60) (S + 8000) (lw_Z below #[Value.ref b] s) (F0 m 28 ls [])) : ∀ (M : Mem) (a5 : Int32), f_L_law_708 xs L k28 M a5 = some () → ∀ (H : Heap) (locs : List Loc) (ls : Array Slot), HS Y M H → va_S (AZ Y) s.heap H locs → lv_has ls 9 [(0, .ref b), (1, .ref (YA Y 0 0)), (2, .ref (YA Y 20 0)), (3, .ref (YA Y 33 0)), (4, .ref (YA Y 36 0)), (5, .int a5)] → W p l e room_1 s m #[Value.ref b] below meth c H locs (C + 0) (S + 0) (lw_Z below #[Value.ref b] s) (F0 m 708 ls []) := by
  obtain ⟨hx, hb, hr, hml, hown, hA, hlocks, hK, hZ⟩ := id C0
  have hR1 : room_1.cells = 603072 := rfl
  have hR2 : room_1.slots = 7182442 := rfl
  intro M a5 hf H locs ls hH hS hl
  unfold f_L_law_708 at hf
  refine lv_aload_n hx hb dL_law_708 rfl (lv_at hl 1 rfl) ?_
  refine lv_aload_n hx hb dL_law_709 rfl (lv_at hl 0 rfl) ?_
  refine lv_iload hx hb dL_law_710 (lv_at hl 5 rfl) ?_
  refine lv_iconst (v := (1 : Int32)) hx hb dL_law_712 (by decide) ?_
  refine lv_iadd hx hb dL_law_713 ?_
  obtain ⟨hg807, hf⟩ := gd_o hf
  refine hl_sld hx hb hX (Nat.lt_of_lt_of_le hbl hZ) (Nat.not_le.mpr hbl) hS hg807 dL_law_714 ?_
  refine lv_aload_n hx hb dL_law_715 rfl (lv_at hl 0 rfl) ?_
  refine lv_iload hx hb dL_law_716 (lv_at hl 5 rfl) ?_
  refine lv_iconst (v := (2 : Int32)) hx hb dL_law_718 (by decide) ?_
  refine lv_iadd hx hb dL_law_719 ?_
  obtain ⟨hg808, hf⟩ := gd_o hf
  refine hl_sld hx hb hX (Nat.lt_of_lt_of_le hbl hZ) (Nat.not_le.mpr hbl) hS hg808 dL_law_720 ?_
  refine lv_aload_n hx hb dL_law_721 rfl (lv_at hl 3 rfl) ?_
  obtain ⟨r811, M810, hq809, hf⟩ := bd2_o hf
  refine hs_ci (hs_runSX C0 hH hS (n := 4) (As := [.ref (YA Y 0 0), .int (xs (ix (a5 + (1 : Int32)))), .int (xs (ix (a5 + (2 : Int32)))), .ref (YA Y 33 0)]) (rest := []) (c_L_addStamps hl9 M (xs (ix (a5 + (1 : Int32)))) (xs (ix (a5 + (2 : Int32)))) hq809) ⟨⟨zt_753, zt_754, zt_0, zt_755⟩, by decide, by decide, by decide +kernel⟩ ⟨rfl, rfl, Nat.le_of_ble_eq_true rfl, Nat.le_of_ble_eq_true rfl⟩ rfl rfl hl.1 (Nat.le_of_ble_eq_true rfl) ⟨by omega, by omega⟩ dL_law_722) hS (fun H locs hH hS => ?_)
  refine lv_istore (lv' := [(6, .int r811), (0, .ref b), (1, .ref (YA Y 0 0)), (2, .ref (YA Y 20 0)), (3, .ref (YA Y 33 0)), (4, .ref (YA Y 36 0)), (5, .int a5)]) hx hb dL_law_725 hl (by decide) rfl (fun ls hl => ?_)
  refine lv_aload_n hx hb dL_law_727 rfl (lv_at hl 3 rfl) ?_
  refine lv_aload_n hx hb dL_law_728 rfl (lv_at hl 1 rfl) ?_
  refine lv_iload hx hb dL_law_729 (lv_at hl 6 rfl) ?_
  refine lv_iconst (v := (1 : Int32)) hx hb dL_law_731 (by decide) ?_
  refine lv_iadd hx hb dL_law_732 ?_
  refine hl_sld hx hb hX (Nat.lt_of_lt_of_le hbl hZ) (Nat.not_le.mpr hbl) hS hg807 dL_law_733 ?_
  refine lv_aload_n hx hb dL_law_734 rfl (lv_at hl 1 rfl) ?_
  refine lv_iload hx hb dL_law_735 (lv_at hl 6 rfl) ?_
  refine lv_iconst (v := (2 : Int32)) hx hb dL_law_737 (by decide) ?_
  refine lv_iadd hx hb dL_law_738 ?_
  refine hl_sld hx hb hX (Nat.lt_of_lt_of_le hbl hZ) (Nat.not_le.mpr hbl) hS hg808 dL_law_739 ?_
  obtain ⟨r814, M813, hq812, hf⟩ := bd2_o hf
  refine hs_ci (hs_runV C0 hH hS (n := 2) (As := [.int (xs (ix (a5 + (1 : Int32)))), .int (xs (ix (a5 + (2 : Int32))))]) (rest := []) (c_X8_addStamps M810 (xs (ix (a5 + (1 : Int32)))) (xs (ix (a5 + (2 : Int32)))) hq812) ⟨⟨zt_1725, zt_1726, zt_1727, zt_13, zt_1728⟩, rfl, by decide, by decide, by decide +kernel⟩ ⟨rfl, rfl, Nat.le_of_ble_eq_true rfl, Nat.le_of_ble_eq_true rfl⟩ (hs_recv hK hH 20 0 (by decide) 12 rfl rfl) rfl rfl hl.1 (Nat.le_of_ble_eq_true rfl) ⟨by omega, by omega⟩ dL_law_740) hS (fun H locs hH hS => ?_)
  refine lv_istore (lv' := [(7, .int r814), (6, .int r811), (0, .ref b), (1, .ref (YA Y 0 0)), (2, .ref (YA Y 20 0)), (3, .ref (YA Y 33 0)), (4, .ref (YA Y 36 0)), (5, .int a5)]) hx hb dL_law_743 hl (by decide) rfl (fun ls hl => ?_)
  refine lv_aload_n hx hb dL_law_745 rfl (lv_at hl 4 rfl) ?_
  obtain ⟨r816, hq815, hf⟩ := bd_o hf
  refine hs_ci (hs_runV C0 hH hS (n := 0) (As := []) (rest := []) (c_X8_thrown M813 hq815) ⟨⟨zt_1621, zt_1622, zt_1623, zt_13, zt_1624⟩, rfl, by decide, by decide, by decide +kernel⟩ ⟨rfl, rfl, Nat.le_of_ble_eq_true rfl, Nat.le_of_ble_eq_true rfl⟩ (hs_recv hK hH 20 0 (by decide) 12 rfl rfl) rfl rfl hl.1 (Nat.le_of_ble_eq_true rfl) ⟨by omega, by omega⟩ dL_law_746) hS (fun H locs hH hS => ?_)
  refine lv_iload hx hb dL_law_749 (lv_at hl 1 rfl) ?_
  refine lv_icmp_eq (tgt := 756) hx hb dL_law_751 (by decide) (fun hc819 => ?_) (fun hc819 => ?_)
  · have hf := if_t hf hc819
    refine lv_iload hx hb dL_law_756 (lv_at hl 1 rfl) ?_
    refine lv_if_ne (tgt := 773) hx hb dL_law_758 (by decide) (fun hc818 => ?_) (fun hc818 => ?_)
    · have hf := if_f hf hc818
      refine lv_goto (tgt := 3289) hx hb dL_law_773 (by decide) ?_
      refine W.widen (k := C + 14) (n := S + 1696) (by omega) (by omega) ?_
      exact w_L_law_3289 C0 hl9 xs L hX hbl C S hC9 hS9 k28 hk28 M813 a5 hf _ _ _ hH hS (lv_sub hl [2, 3, 4, 5, 6, 7] rfl)
    · have hf := if_t hf hc818
      refine lv_aload_n hx hb dL_law_761 rfl (lv_at hl 5 rfl) ?_
      refine lv_iconst (v := (0 : Int32)) hx hb dL_law_762 (by decide) ?_
      refine hl_laload hx hb hK hH dL_law_763 ?_
      refine lv_iload hx hb dL_law_764 (lv_at hl 0 rfl) ?_
      refine lv_i2l (v := r814.toInt64) hx hb dL_law_766 rfl ?_
      refine W.lcmp hx hb dL_law_767 ?_
      refine lv_if_eq (tgt := 773) hx hb dL_law_768 (by decide) (fun hc817 => ?_) (fun hc817 => ?_)
      · have hf := if_t hf hc817
        refine lv_goto (tgt := 3289) hx hb dL_law_773 (by decide) ?_
        refine W.widen (k := C + 14) (n := S + 1696) (by omega) (by omega) ?_
        exact w_L_law_3289 C0 hl9 xs L hX hbl C S hC9 hS9 k28 hk28 M813 a5 hf _ _ _ hH hS (lv_sub hl [2, 3, 4, 5, 6, 7] rfl)
      · have hf := if_f hf hc817
        refine lv_iconst (v := (0 : Int32)) hx hb dL_law_771 (by decide) ?_
        cases hf
  · have hf := if_f hf hc819
    refine lv_iconst (v := (0 : Int32)) hx hb dL_law_754 (by decide) ?_
    cases hf
def f_L_law_776 (xs : Nat → Int32) (L : Nat) (k28 : Mem → Int32 → Option Unit) (M : Mem) (a5 : Int32) : Option Unit := if vin (a5 + (1 : Int32)) L then (bd2 (f_L_takeBack M (xs (ix (a5 + (1 : Int32))))) fun r823 M822 => bd2 (f_X8_takeBack M822 (xs (ix (a5 + (1 : Int32))))) fun r826 M825 => bd (f_X8_thrown M825) fun r828 => (if r828 = r823 then (if r823 = 0 then (if (lg_cmp ((M825 33 0 0).toInt64) r826.toInt64) = 0 then f_L_law_3289 xs L k28 M825 a5 else none) else f_L_law_3289 xs L k28 M825 a5) else none)) else none
set_option maxHeartbeats 8000000 in
set_option maxRecDepth 100000 in
theorem w_L_law_776 {Y : LY} {p : Program} {l : Launch} {e : Env} {s : State} {m : MethodId} {b : Nat} {below : List Frame} {meth : Method} {c : Code} (C0 : BE Y p s m #[Value.ref b] meth c cL_law 9 ret RL) (hl9 : l.stackTraces = false) (xs : Nat → Int32) (L : Nat) (hX : va_X b L xs s s.heap) (hbl : b < YZ Y) (C S : Nat) (hC9 : C + 60 ≤ 603072) (hS9 : S + 8000 ≤ 7182442) (k28 : Mem → Int32 → Option Unit) (hk28 : ∀ (M : Mem) (a5 : Int32), k28 M a5 = some () → ∀ (H : Heap) (locs : List Loc) (ls : Array Slot), HS Y M H → va_S (AZ Y) s.heap H locs → lv_has ls 9 [(0, .ref b), (1, .ref (YA Y 0 0)), (2, .ref (YA Y 20 0)), (3, .ref (YA Y 33 0)), (4, .ref (YA Y 36 0)), (5, .int a5)] → W p l e room_1 s m #[Value.ref b] below meth c H locs (C + 60) (S + 8000) (lw_Z below #[Value.ref b] s) (F0 m 28 ls [])) : ∀ (M : Mem) (a5 : Int32), f_L_law_776 xs L k28 M a5 = some () → ∀ (H : Heap) (locs : List Loc) (ls : Array Slot), HS Y M H → va_S (AZ Y) s.heap H locs → lv_has ls 9 [(0, .ref b), (1, .ref (YA Y 0 0)), (2, .ref (YA Y 20 0)), (3, .ref (YA Y 33 0)), (4, .ref (YA Y 36 0)), (5, .int a5)] → W p l e room_1 s m #[Value.ref b] below meth c H locs (C + 0) (S + 0) (lw_Z below #[Value.ref b] s) (F0 m 776 ls []) := by
  obtain ⟨hx, hb, hr, hml, hown, hA, hlocks, hK, hZ⟩ := id C0
  have hR1 : room_1.cells = 603072 := rfl
  have hR2 : room_1.slots = 7182442 := rfl
  intro M a5 hf H locs ls hH hS hl
  unfold f_L_law_776 at hf
  refine lv_aload_n hx hb dL_law_776 rfl (lv_at hl 1 rfl) ?_
  refine lv_aload_n hx hb dL_law_777 rfl (lv_at hl 0 rfl) ?_
  refine lv_iload hx hb dL_law_778 (lv_at hl 5 rfl) ?_
  refine lv_iconst (v := (1 : Int32)) hx hb dL_law_780 (by decide) ?_
  refine lv_iadd hx hb dL_law_781 ?_
  obtain ⟨hg820, hf⟩ := gd_o hf
  refine hl_sld hx hb hX (Nat.lt_of_lt_of_le hbl hZ) (Nat.not_le.mpr hbl) hS hg820 dL_law_782 ?_
  refine lv_aload_n hx hb dL_law_783 rfl (lv_at hl 3 rfl) ?_
  obtain ⟨r823, M822, hq821, hf⟩ := bd2_o hf
  refine hs_ci (hs_runSX C0 hH hS (n := 3) (As := [.ref (YA Y 0 0), .int (xs (ix (a5 + (1 : Int32)))), .ref (YA Y 33 0)]) (rest := []) (c_L_takeBack hl9 M (xs (ix (a5 + (1 : Int32)))) hq821) ⟨⟨zt_760, zt_761, zt_0, zt_762⟩, by decide, by decide, by decide +kernel⟩ ⟨rfl, rfl, Nat.le_of_ble_eq_true rfl, Nat.le_of_ble_eq_true rfl⟩ rfl rfl hl.1 (Nat.le_of_ble_eq_true rfl) ⟨by omega, by omega⟩ dL_law_784) hS (fun H locs hH hS => ?_)
  refine lv_istore (lv' := [(6, .int r823), (0, .ref b), (1, .ref (YA Y 0 0)), (2, .ref (YA Y 20 0)), (3, .ref (YA Y 33 0)), (4, .ref (YA Y 36 0)), (5, .int a5)]) hx hb dL_law_787 hl (by decide) rfl (fun ls hl => ?_)
  refine lv_aload_n hx hb dL_law_789 rfl (lv_at hl 3 rfl) ?_
  refine lv_aload_n hx hb dL_law_790 rfl (lv_at hl 1 rfl) ?_
  refine lv_iload hx hb dL_law_791 (lv_at hl 6 rfl) ?_
  refine lv_iconst (v := (1 : Int32)) hx hb dL_law_793 (by decide) ?_
  refine lv_iadd hx hb dL_law_794 ?_
  refine hl_sld hx hb hX (Nat.lt_of_lt_of_le hbl hZ) (Nat.not_le.mpr hbl) hS hg820 dL_law_795 ?_
  obtain ⟨r826, M825, hq824, hf⟩ := bd2_o hf
  refine hs_ci (hs_runV C0 hH hS (n := 1) (As := [.int (xs (ix (a5 + (1 : Int32))))]) (rest := []) (c_X8_takeBack M822 (xs (ix (a5 + (1 : Int32)))) hq824) ⟨⟨zt_1733, zt_1734, zt_1735, zt_13, zt_1736⟩, rfl, by decide, by decide, by decide +kernel⟩ ⟨rfl, rfl, Nat.le_of_ble_eq_true rfl, Nat.le_of_ble_eq_true rfl⟩ (hs_recv hK hH 20 0 (by decide) 12 rfl rfl) rfl rfl hl.1 (Nat.le_of_ble_eq_true rfl) ⟨by omega, by omega⟩ dL_law_796) hS (fun H locs hH hS => ?_)
  refine lv_istore (lv' := [(7, .int r826), (6, .int r823), (0, .ref b), (1, .ref (YA Y 0 0)), (2, .ref (YA Y 20 0)), (3, .ref (YA Y 33 0)), (4, .ref (YA Y 36 0)), (5, .int a5)]) hx hb dL_law_799 hl (by decide) rfl (fun ls hl => ?_)
  refine lv_aload_n hx hb dL_law_801 rfl (lv_at hl 4 rfl) ?_
  obtain ⟨r828, hq827, hf⟩ := bd_o hf
  refine hs_ci (hs_runV C0 hH hS (n := 0) (As := []) (rest := []) (c_X8_thrown M825 hq827) ⟨⟨zt_1621, zt_1622, zt_1623, zt_13, zt_1624⟩, rfl, by decide, by decide, by decide +kernel⟩ ⟨rfl, rfl, Nat.le_of_ble_eq_true rfl, Nat.le_of_ble_eq_true rfl⟩ (hs_recv hK hH 20 0 (by decide) 12 rfl rfl) rfl rfl hl.1 (Nat.le_of_ble_eq_true rfl) ⟨by omega, by omega⟩ dL_law_802) hS (fun H locs hH hS => ?_)
  refine lv_iload hx hb dL_law_805 (lv_at hl 1 rfl) ?_
  refine lv_icmp_eq (tgt := 812) hx hb dL_law_807 (by decide) (fun hc831 => ?_) (fun hc831 => ?_)
  · have hf := if_t hf hc831
    refine lv_iload hx hb dL_law_812 (lv_at hl 1 rfl) ?_
    refine lv_if_ne (tgt := 829) hx hb dL_law_814 (by decide) (fun hc830 => ?_) (fun hc830 => ?_)
    · have hf := if_f hf hc830
      refine lv_goto (tgt := 3289) hx hb dL_law_829 (by decide) ?_
      refine W.widen (k := C + 14) (n := S + 1696) (by omega) (by omega) ?_
      exact w_L_law_3289 C0 hl9 xs L hX hbl C S hC9 hS9 k28 hk28 M825 a5 hf _ _ _ hH hS (lv_sub hl [2, 3, 4, 5, 6, 7] rfl)
    · have hf := if_t hf hc830
      refine lv_aload_n hx hb dL_law_817 rfl (lv_at hl 5 rfl) ?_
      refine lv_iconst (v := (0 : Int32)) hx hb dL_law_818 (by decide) ?_
      refine hl_laload hx hb hK hH dL_law_819 ?_
      refine lv_iload hx hb dL_law_820 (lv_at hl 0 rfl) ?_
      refine lv_i2l (v := r826.toInt64) hx hb dL_law_822 rfl ?_
      refine W.lcmp hx hb dL_law_823 ?_
      refine lv_if_eq (tgt := 829) hx hb dL_law_824 (by decide) (fun hc829 => ?_) (fun hc829 => ?_)
      · have hf := if_t hf hc829
        refine lv_goto (tgt := 3289) hx hb dL_law_829 (by decide) ?_
        refine W.widen (k := C + 14) (n := S + 1696) (by omega) (by omega) ?_
        exact w_L_law_3289 C0 hl9 xs L hX hbl C S hC9 hS9 k28 hk28 M825 a5 hf _ _ _ hH hS (lv_sub hl [2, 3, 4, 5, 6, 7] rfl)
      · have hf := if_f hf hc829
        refine lv_iconst (v := (0 : Int32)) hx hb dL_law_827 (by decide) ?_
        cases hf
  · have hf := if_f hf hc831
    refine lv_iconst (v := (0 : Int32)) hx hb dL_law_810 (by decide) ?_
    cases hf
def f_L_law_832 (xs : Nat → Int32) (L : Nat) (k28 : Mem → Int32 → Option Unit) (M : Mem) (a5 : Int32) : Option Unit := bxh (f_X7_dispatch M) (fun (r834 : Int32) (M833 : Mem) => bd2 (f_X8_dispatch M833) fun r837 M836 => (if r834 = r837 then f_L_law_3289 xs L k28 M836 a5 else none)) (fun (e9 : Nat) (M833 : Mem) => none)
set_option maxHeartbeats 8000000 in
set_option maxRecDepth 100000 in
theorem w_L_law_832 {Y : LY} {p : Program} {l : Launch} {e : Env} {s : State} {m : MethodId} {b : Nat} {below : List Frame} {meth : Method} {c : Code} (C0 : BE Y p s m #[Value.ref b] meth c cL_law 9 ret RL) (hl9 : l.stackTraces = false) (xs : Nat → Int32) (L : Nat) (hX : va_X b L xs s s.heap) (hbl : b < YZ Y) (C S : Nat) (hC9 : C + 60 ≤ 603072) (hS9 : S + 8000 ≤ 7182442) (k28 : Mem → Int32 → Option Unit) (hk28 : ∀ (M : Mem) (a5 : Int32), k28 M a5 = some () → ∀ (H : Heap) (locs : List Loc) (ls : Array Slot), HS Y M H → va_S (AZ Y) s.heap H locs → lv_has ls 9 [(0, .ref b), (1, .ref (YA Y 0 0)), (2, .ref (YA Y 20 0)), (3, .ref (YA Y 33 0)), (4, .ref (YA Y 36 0)), (5, .int a5)] → W p l e room_1 s m #[Value.ref b] below meth c H locs (C + 60) (S + 8000) (lw_Z below #[Value.ref b] s) (F0 m 28 ls [])) : ∀ (M : Mem) (a5 : Int32), f_L_law_832 xs L k28 M a5 = some () → ∀ (H : Heap) (locs : List Loc) (ls : Array Slot), HS Y M H → va_S (AZ Y) s.heap H locs → lv_has ls 9 [(0, .ref b), (1, .ref (YA Y 0 0)), (2, .ref (YA Y 20 0)), (3, .ref (YA Y 33 0)), (4, .ref (YA Y 36 0)), (5, .int a5)] → W p l e room_1 s m #[Value.ref b] below meth c H locs (C + 0) (S + 0) (lw_Z below #[Value.ref b] s) (F0 m 832 ls []) := by
  obtain ⟨hx, hb, hr, hml, hown, hA, hlocks, hK, hZ⟩ := id C0
  have hR1 : room_1.cells = 603072 := rfl
  have hR2 : room_1.slots = 7182442 := rfl
  intro M a5 hf H locs ls hH hS hl
  unfold f_L_law_832 at hf
  refine lv_aload_n hx hb dL_law_832 rfl (lv_at hl 1 rfl) ?_
  obtain ⟨yr834, M833, hq832, hf⟩ := bxh_o hf
  refine hl_ci (hx_runV C0 hH hS (n := 0) (As := []) (rest := []) (c_X7_dispatch hl9 M hq832) ⟨⟨zt_326, zt_327, zt_328, zt_1, zt_329⟩, rfl, by decide, by decide, by decide +kernel⟩ ⟨rfl, rfl, Nat.le_of_ble_eq_true rfl, Nat.le_of_ble_eq_true rfl⟩ (hs_recv hK hH 0 0 (by decide) 11 rfl rfl) rfl rfl hl.1 (Nat.le_of_ble_eq_true rfl) ⟨by omega, by omega⟩ dL_law_833) hS (fun k9 E9 q9 ce9 H locs e9 hE hH hS h1 h2 h3 => ?_) (fun r834 er834 H locs hH hS => ?_)
  · subst e9
    have hf := bxh_x hf
    cases hf
  · subst er834
    have hf := bxh_v hf
    refine lv_aload_n hx hb dL_law_836 rfl (lv_at hl 2 rfl) ?_
    obtain ⟨r837, M836, hq835, hf⟩ := bd2_o hf
    refine hs_ci (hs_runV C0 hH hS (n := 0) (As := []) (rest := [.int r834]) (c_X8_dispatch M833 hq835) ⟨⟨zt_1745, zt_1746, zt_1747, zt_13, zt_1748⟩, rfl, by decide, by decide, by decide +kernel⟩ ⟨rfl, rfl, Nat.le_of_ble_eq_true rfl, Nat.le_of_ble_eq_true rfl⟩ (hs_recv hK hH 20 0 (by decide) 12 rfl rfl) rfl rfl hl.1 (Nat.le_of_ble_eq_true rfl) ⟨by omega, by omega⟩ dL_law_837) hS (fun H locs hH hS => ?_)
    refine lv_icmp_eq (tgt := 3289) hx hb dL_law_840 (by decide) (fun hc838 => ?_) (fun hc838 => ?_)
    · have hf := if_t hf hc838
      refine W.widen (k := C + 14) (n := S + 1696) (by omega) (by omega) ?_
      exact w_L_law_3289 C0 hl9 xs L hX hbl C S hC9 hS9 k28 hk28 M836 a5 hf _ _ _ hH hS (lv_sub hl [0, 1, 2, 3, 4, 5] rfl)
    · have hf := if_f hf hc838
      refine lv_iconst (v := (0 : Int32)) hx hb dL_law_843 (by decide) ?_
      cases hf
def f_L_law_845 (xs : Nat → Int32) (L : Nat) (k28 : Mem → Int32 → Option Unit) (M : Mem) (a5 : Int32) : Option Unit := if vin (a5 + (1 : Int32)) L then (bd2 (f_L_pass M (xs (ix (a5 + (1 : Int32))))) fun r842 M841 => bd2 (f_X8_pass M841 (xs (ix (a5 + (1 : Int32))))) fun r845 M844 => bd (f_X8_thrown M844) fun r847 => (if r847 = r842 then (if r842 = 0 then (if (lg_cmp ((M844 33 0 0).toInt64) r845.toInt64) = 0 then f_L_law_3289 xs L k28 M844 a5 else none) else f_L_law_3289 xs L k28 M844 a5) else none)) else none
set_option maxHeartbeats 8000000 in
set_option maxRecDepth 100000 in
theorem w_L_law_845 {Y : LY} {p : Program} {l : Launch} {e : Env} {s : State} {m : MethodId} {b : Nat} {below : List Frame} {meth : Method} {c : Code} (C0 : BE Y p s m #[Value.ref b] meth c cL_law 9 ret RL) (hl9 : l.stackTraces = false) (xs : Nat → Int32) (L : Nat) (hX : va_X b L xs s s.heap) (hbl : b < YZ Y) (C S : Nat) (hC9 : C + 60 ≤ 603072) (hS9 : S + 8000 ≤ 7182442) (k28 : Mem → Int32 → Option Unit) (hk28 : ∀ (M : Mem) (a5 : Int32), k28 M a5 = some () → ∀ (H : Heap) (locs : List Loc) (ls : Array Slot), HS Y M H → va_S (AZ Y) s.heap H locs → lv_has ls 9 [(0, .ref b), (1, .ref (YA Y 0 0)), (2, .ref (YA Y 20 0)), (3, .ref (YA Y 33 0)), (4, .ref (YA Y 36 0)), (5, .int a5)] → W p l e room_1 s m #[Value.ref b] below meth c H locs (C + 60) (S + 8000) (lw_Z below #[Value.ref b] s) (F0 m 28 ls [])) : ∀ (M : Mem) (a5 : Int32), f_L_law_845 xs L k28 M a5 = some () → ∀ (H : Heap) (locs : List Loc) (ls : Array Slot), HS Y M H → va_S (AZ Y) s.heap H locs → lv_has ls 9 [(0, .ref b), (1, .ref (YA Y 0 0)), (2, .ref (YA Y 20 0)), (3, .ref (YA Y 33 0)), (4, .ref (YA Y 36 0)), (5, .int a5)] → W p l e room_1 s m #[Value.ref b] below meth c H locs (C + 0) (S + 0) (lw_Z below #[Value.ref b] s) (F0 m 845 ls []) := by
  obtain ⟨hx, hb, hr, hml, hown, hA, hlocks, hK, hZ⟩ := id C0
  have hR1 : room_1.cells = 603072 := rfl
  have hR2 : room_1.slots = 7182442 := rfl
  intro M a5 hf H locs ls hH hS hl
  unfold f_L_law_845 at hf
  refine lv_aload_n hx hb dL_law_845 rfl (lv_at hl 1 rfl) ?_
  refine lv_aload_n hx hb dL_law_846 rfl (lv_at hl 0 rfl) ?_
  refine lv_iload hx hb dL_law_847 (lv_at hl 5 rfl) ?_
  refine lv_iconst (v := (1 : Int32)) hx hb dL_law_849 (by decide) ?_
  refine lv_iadd hx hb dL_law_850 ?_
  obtain ⟨hg839, hf⟩ := gd_o hf
  refine hl_sld hx hb hX (Nat.lt_of_lt_of_le hbl hZ) (Nat.not_le.mpr hbl) hS hg839 dL_law_851 ?_
  refine lv_aload_n hx hb dL_law_852 rfl (lv_at hl 3 rfl) ?_
  obtain ⟨r842, M841, hq840, hf⟩ := bd2_o hf
  refine hs_ci (hs_runSX C0 hH hS (n := 3) (As := [.ref (YA Y 0 0), .int (xs (ix (a5 + (1 : Int32)))), .ref (YA Y 33 0)]) (rest := []) (c_L_pass hl9 M (xs (ix (a5 + (1 : Int32)))) hq840) ⟨⟨zt_767, zt_768, zt_0, zt_769⟩, by decide, by decide, by decide +kernel⟩ ⟨rfl, rfl, Nat.le_of_ble_eq_true rfl, Nat.le_of_ble_eq_true rfl⟩ rfl rfl hl.1 (Nat.le_of_ble_eq_true rfl) ⟨by omega, by omega⟩ dL_law_853) hS (fun H locs hH hS => ?_)
  refine lv_istore (lv' := [(6, .int r842), (0, .ref b), (1, .ref (YA Y 0 0)), (2, .ref (YA Y 20 0)), (3, .ref (YA Y 33 0)), (4, .ref (YA Y 36 0)), (5, .int a5)]) hx hb dL_law_856 hl (by decide) rfl (fun ls hl => ?_)
  refine lv_aload_n hx hb dL_law_858 rfl (lv_at hl 3 rfl) ?_
  refine lv_aload_n hx hb dL_law_859 rfl (lv_at hl 1 rfl) ?_
  refine lv_iload hx hb dL_law_860 (lv_at hl 6 rfl) ?_
  refine lv_iconst (v := (1 : Int32)) hx hb dL_law_862 (by decide) ?_
  refine lv_iadd hx hb dL_law_863 ?_
  refine hl_sld hx hb hX (Nat.lt_of_lt_of_le hbl hZ) (Nat.not_le.mpr hbl) hS hg839 dL_law_864 ?_
  obtain ⟨r845, M844, hq843, hf⟩ := bd2_o hf
  refine hs_ci (hs_runV C0 hH hS (n := 1) (As := [.int (xs (ix (a5 + (1 : Int32))))]) (rest := []) (c_X8_pass M841 (xs (ix (a5 + (1 : Int32)))) hq843) ⟨⟨zt_1775, zt_1776, zt_1777, zt_13, zt_1778⟩, rfl, by decide, by decide, by decide +kernel⟩ ⟨rfl, rfl, Nat.le_of_ble_eq_true rfl, Nat.le_of_ble_eq_true rfl⟩ (hs_recv hK hH 20 0 (by decide) 12 rfl rfl) rfl rfl hl.1 (Nat.le_of_ble_eq_true rfl) ⟨by omega, by omega⟩ dL_law_865) hS (fun H locs hH hS => ?_)
  refine lv_istore (lv' := [(7, .int r845), (6, .int r842), (0, .ref b), (1, .ref (YA Y 0 0)), (2, .ref (YA Y 20 0)), (3, .ref (YA Y 33 0)), (4, .ref (YA Y 36 0)), (5, .int a5)]) hx hb dL_law_868 hl (by decide) rfl (fun ls hl => ?_)
  refine lv_aload_n hx hb dL_law_870 rfl (lv_at hl 4 rfl) ?_
  obtain ⟨r847, hq846, hf⟩ := bd_o hf
  refine hs_ci (hs_runV C0 hH hS (n := 0) (As := []) (rest := []) (c_X8_thrown M844 hq846) ⟨⟨zt_1621, zt_1622, zt_1623, zt_13, zt_1624⟩, rfl, by decide, by decide, by decide +kernel⟩ ⟨rfl, rfl, Nat.le_of_ble_eq_true rfl, Nat.le_of_ble_eq_true rfl⟩ (hs_recv hK hH 20 0 (by decide) 12 rfl rfl) rfl rfl hl.1 (Nat.le_of_ble_eq_true rfl) ⟨by omega, by omega⟩ dL_law_871) hS (fun H locs hH hS => ?_)
  refine lv_iload hx hb dL_law_874 (lv_at hl 1 rfl) ?_
  refine lv_icmp_eq (tgt := 881) hx hb dL_law_876 (by decide) (fun hc850 => ?_) (fun hc850 => ?_)
  · have hf := if_t hf hc850
    refine lv_iload hx hb dL_law_881 (lv_at hl 1 rfl) ?_
    refine lv_if_ne (tgt := 898) hx hb dL_law_883 (by decide) (fun hc849 => ?_) (fun hc849 => ?_)
    · have hf := if_f hf hc849
      refine lv_goto (tgt := 3289) hx hb dL_law_898 (by decide) ?_
      refine W.widen (k := C + 14) (n := S + 1696) (by omega) (by omega) ?_
      exact w_L_law_3289 C0 hl9 xs L hX hbl C S hC9 hS9 k28 hk28 M844 a5 hf _ _ _ hH hS (lv_sub hl [2, 3, 4, 5, 6, 7] rfl)
    · have hf := if_t hf hc849
      refine lv_aload_n hx hb dL_law_886 rfl (lv_at hl 5 rfl) ?_
      refine lv_iconst (v := (0 : Int32)) hx hb dL_law_887 (by decide) ?_
      refine hl_laload hx hb hK hH dL_law_888 ?_
      refine lv_iload hx hb dL_law_889 (lv_at hl 0 rfl) ?_
      refine lv_i2l (v := r845.toInt64) hx hb dL_law_891 rfl ?_
      refine W.lcmp hx hb dL_law_892 ?_
      refine lv_if_eq (tgt := 898) hx hb dL_law_893 (by decide) (fun hc848 => ?_) (fun hc848 => ?_)
      · have hf := if_t hf hc848
        refine lv_goto (tgt := 3289) hx hb dL_law_898 (by decide) ?_
        refine W.widen (k := C + 14) (n := S + 1696) (by omega) (by omega) ?_
        exact w_L_law_3289 C0 hl9 xs L hX hbl C S hC9 hS9 k28 hk28 M844 a5 hf _ _ _ hH hS (lv_sub hl [2, 3, 4, 5, 6, 7] rfl)
      · have hf := if_f hf hc848
        refine lv_iconst (v := (0 : Int32)) hx hb dL_law_896 (by decide) ?_
        cases hf
  · have hf := if_f hf hc850
    refine lv_iconst (v := (0 : Int32)) hx hb dL_law_879 (by decide) ?_
    cases hf
def f_L_law_901 (xs : Nat → Int32) (L : Nat) (k28 : Mem → Int32 → Option Unit) (M : Mem) (a5 : Int32) : Option Unit := bd (f_X7_hour M) fun r852 => bd2 (f_X8_hour M) fun r855 M854 => (if r852 = r855 then f_L_law_3289 xs L k28 M854 a5 else none)
set_option maxHeartbeats 8000000 in
set_option maxRecDepth 100000 in
theorem w_L_law_901 {Y : LY} {p : Program} {l : Launch} {e : Env} {s : State} {m : MethodId} {b : Nat} {below : List Frame} {meth : Method} {c : Code} (C0 : BE Y p s m #[Value.ref b] meth c cL_law 9 ret RL) (hl9 : l.stackTraces = false) (xs : Nat → Int32) (L : Nat) (hX : va_X b L xs s s.heap) (hbl : b < YZ Y) (C S : Nat) (hC9 : C + 60 ≤ 603072) (hS9 : S + 8000 ≤ 7182442) (k28 : Mem → Int32 → Option Unit) (hk28 : ∀ (M : Mem) (a5 : Int32), k28 M a5 = some () → ∀ (H : Heap) (locs : List Loc) (ls : Array Slot), HS Y M H → va_S (AZ Y) s.heap H locs → lv_has ls 9 [(0, .ref b), (1, .ref (YA Y 0 0)), (2, .ref (YA Y 20 0)), (3, .ref (YA Y 33 0)), (4, .ref (YA Y 36 0)), (5, .int a5)] → W p l e room_1 s m #[Value.ref b] below meth c H locs (C + 60) (S + 8000) (lw_Z below #[Value.ref b] s) (F0 m 28 ls [])) : ∀ (M : Mem) (a5 : Int32), f_L_law_901 xs L k28 M a5 = some () → ∀ (H : Heap) (locs : List Loc) (ls : Array Slot), HS Y M H → va_S (AZ Y) s.heap H locs → lv_has ls 9 [(0, .ref b), (1, .ref (YA Y 0 0)), (2, .ref (YA Y 20 0)), (3, .ref (YA Y 33 0)), (4, .ref (YA Y 36 0)), (5, .int a5)] → W p l e room_1 s m #[Value.ref b] below meth c H locs (C + 0) (S + 0) (lw_Z below #[Value.ref b] s) (F0 m 901 ls []) := by
  obtain ⟨hx, hb, hr, hml, hown, hA, hlocks, hK, hZ⟩ := id C0
  have hR1 : room_1.cells = 603072 := rfl
  have hR2 : room_1.slots = 7182442 := rfl
  intro M a5 hf H locs ls hH hS hl
  unfold f_L_law_901 at hf
  refine lv_aload_n hx hb dL_law_901 rfl (lv_at hl 1 rfl) ?_
  obtain ⟨r852, hq851, hf⟩ := bd_o hf
  refine hs_ci (hs_runV C0 hH hS (n := 0) (As := []) (rest := []) (c_X7_hour M hq851) ⟨⟨zt_624, zt_625, zt_626, zt_1, zt_627⟩, rfl, by decide, by decide, by decide +kernel⟩ ⟨rfl, rfl, Nat.le_of_ble_eq_true rfl, Nat.le_of_ble_eq_true rfl⟩ (hs_recv hK hH 0 0 (by decide) 11 rfl rfl) rfl rfl hl.1 (Nat.le_of_ble_eq_true rfl) ⟨by omega, by omega⟩ dL_law_902) hS (fun H locs hH hS => ?_)
  refine lv_aload_n hx hb dL_law_905 rfl (lv_at hl 2 rfl) ?_
  obtain ⟨r855, M854, hq853, hf⟩ := bd2_o hf
  refine hs_ci (hs_runV C0 hH hS (n := 0) (As := []) (rest := [.int r852]) (c_X8_hour M hq853) ⟨⟨zt_1788, zt_1789, zt_1790, zt_13, zt_1791⟩, rfl, by decide, by decide, by decide +kernel⟩ ⟨rfl, rfl, Nat.le_of_ble_eq_true rfl, Nat.le_of_ble_eq_true rfl⟩ (hs_recv hK hH 20 0 (by decide) 12 rfl rfl) rfl rfl hl.1 (Nat.le_of_ble_eq_true rfl) ⟨by omega, by omega⟩ dL_law_906) hS (fun H locs hH hS => ?_)
  refine lv_icmp_eq (tgt := 3289) hx hb dL_law_909 (by decide) (fun hc856 => ?_) (fun hc856 => ?_)
  · have hf := if_t hf hc856
    refine W.widen (k := C + 14) (n := S + 1696) (by omega) (by omega) ?_
    exact w_L_law_3289 C0 hl9 xs L hX hbl C S hC9 hS9 k28 hk28 M854 a5 hf _ _ _ hH hS (lv_sub hl [0, 1, 2, 3, 4, 5] rfl)
  · have hf := if_f hf hc856
    refine lv_iconst (v := (0 : Int32)) hx hb dL_law_912 (by decide) ?_
    cases hf
def f_L_law_914 (xs : Nat → Int32) (L : Nat) (k28 : Mem → Int32 → Option Unit) (M : Mem) (a5 : Int32) : Option Unit := bd (f_X7_placeCount M) fun r858 => bd2 (f_X8_placeCount M) fun r861 M860 => (if r858 = r861 then f_L_law_3289 xs L k28 M860 a5 else none)
set_option maxHeartbeats 8000000 in
set_option maxRecDepth 100000 in
theorem w_L_law_914 {Y : LY} {p : Program} {l : Launch} {e : Env} {s : State} {m : MethodId} {b : Nat} {below : List Frame} {meth : Method} {c : Code} (C0 : BE Y p s m #[Value.ref b] meth c cL_law 9 ret RL) (hl9 : l.stackTraces = false) (xs : Nat → Int32) (L : Nat) (hX : va_X b L xs s s.heap) (hbl : b < YZ Y) (C S : Nat) (hC9 : C + 60 ≤ 603072) (hS9 : S + 8000 ≤ 7182442) (k28 : Mem → Int32 → Option Unit) (hk28 : ∀ (M : Mem) (a5 : Int32), k28 M a5 = some () → ∀ (H : Heap) (locs : List Loc) (ls : Array Slot), HS Y M H → va_S (AZ Y) s.heap H locs → lv_has ls 9 [(0, .ref b), (1, .ref (YA Y 0 0)), (2, .ref (YA Y 20 0)), (3, .ref (YA Y 33 0)), (4, .ref (YA Y 36 0)), (5, .int a5)] → W p l e room_1 s m #[Value.ref b] below meth c H locs (C + 60) (S + 8000) (lw_Z below #[Value.ref b] s) (F0 m 28 ls [])) : ∀ (M : Mem) (a5 : Int32), f_L_law_914 xs L k28 M a5 = some () → ∀ (H : Heap) (locs : List Loc) (ls : Array Slot), HS Y M H → va_S (AZ Y) s.heap H locs → lv_has ls 9 [(0, .ref b), (1, .ref (YA Y 0 0)), (2, .ref (YA Y 20 0)), (3, .ref (YA Y 33 0)), (4, .ref (YA Y 36 0)), (5, .int a5)] → W p l e room_1 s m #[Value.ref b] below meth c H locs (C + 0) (S + 0) (lw_Z below #[Value.ref b] s) (F0 m 914 ls []) := by
  obtain ⟨hx, hb, hr, hml, hown, hA, hlocks, hK, hZ⟩ := id C0
  have hR1 : room_1.cells = 603072 := rfl
  have hR2 : room_1.slots = 7182442 := rfl
  intro M a5 hf H locs ls hH hS hl
  unfold f_L_law_914 at hf
  refine lv_aload_n hx hb dL_law_914 rfl (lv_at hl 1 rfl) ?_
  obtain ⟨r858, hq857, hf⟩ := bd_o hf
  refine hs_ci (hs_runV C0 hH hS (n := 0) (As := []) (rest := []) (c_X7_placeCount M hq857) ⟨⟨zt_628, zt_629, zt_630, zt_1, zt_631⟩, rfl, by decide, by decide, by decide +kernel⟩ ⟨rfl, rfl, Nat.le_of_ble_eq_true rfl, Nat.le_of_ble_eq_true rfl⟩ (hs_recv hK hH 0 0 (by decide) 11 rfl rfl) rfl rfl hl.1 (Nat.le_of_ble_eq_true rfl) ⟨by omega, by omega⟩ dL_law_915) hS (fun H locs hH hS => ?_)
  refine lv_aload_n hx hb dL_law_918 rfl (lv_at hl 2 rfl) ?_
  obtain ⟨r861, M860, hq859, hf⟩ := bd2_o hf
  refine hs_ci (hs_runV C0 hH hS (n := 0) (As := []) (rest := [.int r858]) (c_X8_placeCount M hq859) ⟨⟨zt_1796, zt_1797, zt_1798, zt_13, zt_1799⟩, rfl, by decide, by decide, by decide +kernel⟩ ⟨rfl, rfl, Nat.le_of_ble_eq_true rfl, Nat.le_of_ble_eq_true rfl⟩ (hs_recv hK hH 20 0 (by decide) 12 rfl rfl) rfl rfl hl.1 (Nat.le_of_ble_eq_true rfl) ⟨by omega, by omega⟩ dL_law_919) hS (fun H locs hH hS => ?_)
  refine lv_icmp_eq (tgt := 3289) hx hb dL_law_922 (by decide) (fun hc862 => ?_) (fun hc862 => ?_)
  · have hf := if_t hf hc862
    refine W.widen (k := C + 14) (n := S + 1696) (by omega) (by omega) ?_
    exact w_L_law_3289 C0 hl9 xs L hX hbl C S hC9 hS9 k28 hk28 M860 a5 hf _ _ _ hH hS (lv_sub hl [0, 1, 2, 3, 4, 5] rfl)
  · have hf := if_f hf hc862
    refine lv_iconst (v := (0 : Int32)) hx hb dL_law_925 (by decide) ?_
    cases hf
def f_L_law_927 (xs : Nat → Int32) (L : Nat) (k28 : Mem → Int32 → Option Unit) (M : Mem) (a5 : Int32) : Option Unit := bd (f_X7_linkCount M) fun r864 => bd2 (f_X8_linkCount M) fun r867 M866 => (if r864 = r867 then f_L_law_3289 xs L k28 M866 a5 else none)
set_option maxHeartbeats 8000000 in
set_option maxRecDepth 100000 in
theorem w_L_law_927 {Y : LY} {p : Program} {l : Launch} {e : Env} {s : State} {m : MethodId} {b : Nat} {below : List Frame} {meth : Method} {c : Code} (C0 : BE Y p s m #[Value.ref b] meth c cL_law 9 ret RL) (hl9 : l.stackTraces = false) (xs : Nat → Int32) (L : Nat) (hX : va_X b L xs s s.heap) (hbl : b < YZ Y) (C S : Nat) (hC9 : C + 60 ≤ 603072) (hS9 : S + 8000 ≤ 7182442) (k28 : Mem → Int32 → Option Unit) (hk28 : ∀ (M : Mem) (a5 : Int32), k28 M a5 = some () → ∀ (H : Heap) (locs : List Loc) (ls : Array Slot), HS Y M H → va_S (AZ Y) s.heap H locs → lv_has ls 9 [(0, .ref b), (1, .ref (YA Y 0 0)), (2, .ref (YA Y 20 0)), (3, .ref (YA Y 33 0)), (4, .ref (YA Y 36 0)), (5, .int a5)] → W p l e room_1 s m #[Value.ref b] below meth c H locs (C + 60) (S + 8000) (lw_Z below #[Value.ref b] s) (F0 m 28 ls [])) : ∀ (M : Mem) (a5 : Int32), f_L_law_927 xs L k28 M a5 = some () → ∀ (H : Heap) (locs : List Loc) (ls : Array Slot), HS Y M H → va_S (AZ Y) s.heap H locs → lv_has ls 9 [(0, .ref b), (1, .ref (YA Y 0 0)), (2, .ref (YA Y 20 0)), (3, .ref (YA Y 33 0)), (4, .ref (YA Y 36 0)), (5, .int a5)] → W p l e room_1 s m #[Value.ref b] below meth c H locs (C + 0) (S + 0) (lw_Z below #[Value.ref b] s) (F0 m 927 ls []) := by
  obtain ⟨hx, hb, hr, hml, hown, hA, hlocks, hK, hZ⟩ := id C0
  have hR1 : room_1.cells = 603072 := rfl
  have hR2 : room_1.slots = 7182442 := rfl
  intro M a5 hf H locs ls hH hS hl
  unfold f_L_law_927 at hf
  refine lv_aload_n hx hb dL_law_927 rfl (lv_at hl 1 rfl) ?_
  obtain ⟨r864, hq863, hf⟩ := bd_o hf
  refine hs_ci (hs_runV C0 hH hS (n := 0) (As := []) (rest := []) (c_X7_linkCount M hq863) ⟨⟨zt_632, zt_633, zt_634, zt_1, zt_635⟩, rfl, by decide, by decide, by decide +kernel⟩ ⟨rfl, rfl, Nat.le_of_ble_eq_true rfl, Nat.le_of_ble_eq_true rfl⟩ (hs_recv hK hH 0 0 (by decide) 11 rfl rfl) rfl rfl hl.1 (Nat.le_of_ble_eq_true rfl) ⟨by omega, by omega⟩ dL_law_928) hS (fun H locs hH hS => ?_)
  refine lv_aload_n hx hb dL_law_931 rfl (lv_at hl 2 rfl) ?_
  obtain ⟨r867, M866, hq865, hf⟩ := bd2_o hf
  refine hs_ci (hs_runV C0 hH hS (n := 0) (As := []) (rest := [.int r864]) (c_X8_linkCount M hq865) ⟨⟨zt_1800, zt_1801, zt_1802, zt_13, zt_1803⟩, rfl, by decide, by decide, by decide +kernel⟩ ⟨rfl, rfl, Nat.le_of_ble_eq_true rfl, Nat.le_of_ble_eq_true rfl⟩ (hs_recv hK hH 20 0 (by decide) 12 rfl rfl) rfl rfl hl.1 (Nat.le_of_ble_eq_true rfl) ⟨by omega, by omega⟩ dL_law_932) hS (fun H locs hH hS => ?_)
  refine lv_icmp_eq (tgt := 3289) hx hb dL_law_935 (by decide) (fun hc868 => ?_) (fun hc868 => ?_)
  · have hf := if_t hf hc868
    refine W.widen (k := C + 14) (n := S + 1696) (by omega) (by omega) ?_
    exact w_L_law_3289 C0 hl9 xs L hX hbl C S hC9 hS9 k28 hk28 M866 a5 hf _ _ _ hH hS (lv_sub hl [0, 1, 2, 3, 4, 5] rfl)
  · have hf := if_f hf hc868
    refine lv_iconst (v := (0 : Int32)) hx hb dL_law_938 (by decide) ?_
    cases hf
def f_L_law_940 (xs : Nat → Int32) (L : Nat) (k28 : Mem → Int32 → Option Unit) (M : Mem) (a5 : Int32) : Option Unit := if vin (a5 + (1 : Int32)) L then (bd2 (f_L_linkFrom M (xs (ix (a5 + (1 : Int32))))) fun r872 M871 => bd2 (f_X8_linkFrom M871 (xs (ix (a5 + (1 : Int32))))) fun r875 M874 => bd (f_X8_thrown M874) fun r877 => (if r877 = r872 then (if r872 = 0 then (if (lg_cmp ((M874 33 0 0).toInt64) r875.toInt64) = 0 then f_L_law_3289 xs L k28 M874 a5 else none) else f_L_law_3289 xs L k28 M874 a5) else none)) else none
set_option maxHeartbeats 8000000 in
set_option maxRecDepth 100000 in
theorem w_L_law_940 {Y : LY} {p : Program} {l : Launch} {e : Env} {s : State} {m : MethodId} {b : Nat} {below : List Frame} {meth : Method} {c : Code} (C0 : BE Y p s m #[Value.ref b] meth c cL_law 9 ret RL) (hl9 : l.stackTraces = false) (xs : Nat → Int32) (L : Nat) (hX : va_X b L xs s s.heap) (hbl : b < YZ Y) (C S : Nat) (hC9 : C + 60 ≤ 603072) (hS9 : S + 8000 ≤ 7182442) (k28 : Mem → Int32 → Option Unit) (hk28 : ∀ (M : Mem) (a5 : Int32), k28 M a5 = some () → ∀ (H : Heap) (locs : List Loc) (ls : Array Slot), HS Y M H → va_S (AZ Y) s.heap H locs → lv_has ls 9 [(0, .ref b), (1, .ref (YA Y 0 0)), (2, .ref (YA Y 20 0)), (3, .ref (YA Y 33 0)), (4, .ref (YA Y 36 0)), (5, .int a5)] → W p l e room_1 s m #[Value.ref b] below meth c H locs (C + 60) (S + 8000) (lw_Z below #[Value.ref b] s) (F0 m 28 ls [])) : ∀ (M : Mem) (a5 : Int32), f_L_law_940 xs L k28 M a5 = some () → ∀ (H : Heap) (locs : List Loc) (ls : Array Slot), HS Y M H → va_S (AZ Y) s.heap H locs → lv_has ls 9 [(0, .ref b), (1, .ref (YA Y 0 0)), (2, .ref (YA Y 20 0)), (3, .ref (YA Y 33 0)), (4, .ref (YA Y 36 0)), (5, .int a5)] → W p l e room_1 s m #[Value.ref b] below meth c H locs (C + 0) (S + 0) (lw_Z below #[Value.ref b] s) (F0 m 940 ls []) := by
  obtain ⟨hx, hb, hr, hml, hown, hA, hlocks, hK, hZ⟩ := id C0
  have hR1 : room_1.cells = 603072 := rfl
  have hR2 : room_1.slots = 7182442 := rfl
  intro M a5 hf H locs ls hH hS hl
  unfold f_L_law_940 at hf
  refine lv_aload_n hx hb dL_law_940 rfl (lv_at hl 1 rfl) ?_
  refine lv_aload_n hx hb dL_law_941 rfl (lv_at hl 0 rfl) ?_
  refine lv_iload hx hb dL_law_942 (lv_at hl 5 rfl) ?_
  refine lv_iconst (v := (1 : Int32)) hx hb dL_law_944 (by decide) ?_
  refine lv_iadd hx hb dL_law_945 ?_
  obtain ⟨hg869, hf⟩ := gd_o hf
  refine hl_sld hx hb hX (Nat.lt_of_lt_of_le hbl hZ) (Nat.not_le.mpr hbl) hS hg869 dL_law_946 ?_
  refine lv_aload_n hx hb dL_law_947 rfl (lv_at hl 3 rfl) ?_
  obtain ⟨r872, M871, hq870, hf⟩ := bd2_o hf
  refine hs_ci (hs_runSX C0 hH hS (n := 3) (As := [.ref (YA Y 0 0), .int (xs (ix (a5 + (1 : Int32)))), .ref (YA Y 33 0)]) (rest := []) (c_L_linkFrom hl9 M (xs (ix (a5 + (1 : Int32)))) hq870) ⟨⟨zt_774, zt_775, zt_0, zt_776⟩, by decide, by decide, by decide +kernel⟩ ⟨rfl, rfl, Nat.le_of_ble_eq_true rfl, Nat.le_of_ble_eq_true rfl⟩ rfl rfl hl.1 (Nat.le_of_ble_eq_true rfl) ⟨by omega, by omega⟩ dL_law_948) hS (fun H locs hH hS => ?_)
  refine lv_istore (lv' := [(6, .int r872), (0, .ref b), (1, .ref (YA Y 0 0)), (2, .ref (YA Y 20 0)), (3, .ref (YA Y 33 0)), (4, .ref (YA Y 36 0)), (5, .int a5)]) hx hb dL_law_951 hl (by decide) rfl (fun ls hl => ?_)
  refine lv_aload_n hx hb dL_law_953 rfl (lv_at hl 3 rfl) ?_
  refine lv_aload_n hx hb dL_law_954 rfl (lv_at hl 1 rfl) ?_
  refine lv_iload hx hb dL_law_955 (lv_at hl 6 rfl) ?_
  refine lv_iconst (v := (1 : Int32)) hx hb dL_law_957 (by decide) ?_
  refine lv_iadd hx hb dL_law_958 ?_
  refine hl_sld hx hb hX (Nat.lt_of_lt_of_le hbl hZ) (Nat.not_le.mpr hbl) hS hg869 dL_law_959 ?_
  obtain ⟨r875, M874, hq873, hf⟩ := bd2_o hf
  refine hs_ci (hs_runV C0 hH hS (n := 1) (As := [.int (xs (ix (a5 + (1 : Int32))))]) (rest := []) (c_X8_linkFrom M871 (xs (ix (a5 + (1 : Int32)))) hq873) ⟨⟨zt_1804, zt_1805, zt_1806, zt_13, zt_1807⟩, rfl, by decide, by decide, by decide +kernel⟩ ⟨rfl, rfl, Nat.le_of_ble_eq_true rfl, Nat.le_of_ble_eq_true rfl⟩ (hs_recv hK hH 20 0 (by decide) 12 rfl rfl) rfl rfl hl.1 (Nat.le_of_ble_eq_true rfl) ⟨by omega, by omega⟩ dL_law_960) hS (fun H locs hH hS => ?_)
  refine lv_istore (lv' := [(7, .int r875), (6, .int r872), (0, .ref b), (1, .ref (YA Y 0 0)), (2, .ref (YA Y 20 0)), (3, .ref (YA Y 33 0)), (4, .ref (YA Y 36 0)), (5, .int a5)]) hx hb dL_law_963 hl (by decide) rfl (fun ls hl => ?_)
  refine lv_aload_n hx hb dL_law_965 rfl (lv_at hl 4 rfl) ?_
  obtain ⟨r877, hq876, hf⟩ := bd_o hf
  refine hs_ci (hs_runV C0 hH hS (n := 0) (As := []) (rest := []) (c_X8_thrown M874 hq876) ⟨⟨zt_1621, zt_1622, zt_1623, zt_13, zt_1624⟩, rfl, by decide, by decide, by decide +kernel⟩ ⟨rfl, rfl, Nat.le_of_ble_eq_true rfl, Nat.le_of_ble_eq_true rfl⟩ (hs_recv hK hH 20 0 (by decide) 12 rfl rfl) rfl rfl hl.1 (Nat.le_of_ble_eq_true rfl) ⟨by omega, by omega⟩ dL_law_966) hS (fun H locs hH hS => ?_)
  refine lv_iload hx hb dL_law_969 (lv_at hl 1 rfl) ?_
  refine lv_icmp_eq (tgt := 976) hx hb dL_law_971 (by decide) (fun hc880 => ?_) (fun hc880 => ?_)
  · have hf := if_t hf hc880
    refine lv_iload hx hb dL_law_976 (lv_at hl 1 rfl) ?_
    refine lv_if_ne (tgt := 993) hx hb dL_law_978 (by decide) (fun hc879 => ?_) (fun hc879 => ?_)
    · have hf := if_f hf hc879
      refine lv_goto (tgt := 3289) hx hb dL_law_993 (by decide) ?_
      refine W.widen (k := C + 14) (n := S + 1696) (by omega) (by omega) ?_
      exact w_L_law_3289 C0 hl9 xs L hX hbl C S hC9 hS9 k28 hk28 M874 a5 hf _ _ _ hH hS (lv_sub hl [2, 3, 4, 5, 6, 7] rfl)
    · have hf := if_t hf hc879
      refine lv_aload_n hx hb dL_law_981 rfl (lv_at hl 5 rfl) ?_
      refine lv_iconst (v := (0 : Int32)) hx hb dL_law_982 (by decide) ?_
      refine hl_laload hx hb hK hH dL_law_983 ?_
      refine lv_iload hx hb dL_law_984 (lv_at hl 0 rfl) ?_
      refine lv_i2l (v := r875.toInt64) hx hb dL_law_986 rfl ?_
      refine W.lcmp hx hb dL_law_987 ?_
      refine lv_if_eq (tgt := 993) hx hb dL_law_988 (by decide) (fun hc878 => ?_) (fun hc878 => ?_)
      · have hf := if_t hf hc878
        refine lv_goto (tgt := 3289) hx hb dL_law_993 (by decide) ?_
        refine W.widen (k := C + 14) (n := S + 1696) (by omega) (by omega) ?_
        exact w_L_law_3289 C0 hl9 xs L hX hbl C S hC9 hS9 k28 hk28 M874 a5 hf _ _ _ hH hS (lv_sub hl [2, 3, 4, 5, 6, 7] rfl)
      · have hf := if_f hf hc878
        refine lv_iconst (v := (0 : Int32)) hx hb dL_law_991 (by decide) ?_
        cases hf
  · have hf := if_f hf hc880
    refine lv_iconst (v := (0 : Int32)) hx hb dL_law_974 (by decide) ?_
    cases hf
def f_L_law_996 (xs : Nat → Int32) (L : Nat) (k28 : Mem → Int32 → Option Unit) (M : Mem) (a5 : Int32) : Option Unit := if vin (a5 + (1 : Int32)) L then (bd2 (f_L_linkTo M (xs (ix (a5 + (1 : Int32))))) fun r884 M883 => bd2 (f_X8_linkTo M883 (xs (ix (a5 + (1 : Int32))))) fun r887 M886 => bd (f_X8_thrown M886) fun r889 => (if r889 = r884 then (if r884 = 0 then (if (lg_cmp ((M886 33 0 0).toInt64) r887.toInt64) = 0 then f_L_law_3289 xs L k28 M886 a5 else none) else f_L_law_3289 xs L k28 M886 a5) else none)) else none
set_option maxHeartbeats 8000000 in
set_option maxRecDepth 100000 in
theorem w_L_law_996 {Y : LY} {p : Program} {l : Launch} {e : Env} {s : State} {m : MethodId} {b : Nat} {below : List Frame} {meth : Method} {c : Code} (C0 : BE Y p s m #[Value.ref b] meth c cL_law 9 ret RL) (hl9 : l.stackTraces = false) (xs : Nat → Int32) (L : Nat) (hX : va_X b L xs s s.heap) (hbl : b < YZ Y) (C S : Nat) (hC9 : C + 60 ≤ 603072) (hS9 : S + 8000 ≤ 7182442) (k28 : Mem → Int32 → Option Unit) (hk28 : ∀ (M : Mem) (a5 : Int32), k28 M a5 = some () → ∀ (H : Heap) (locs : List Loc) (ls : Array Slot), HS Y M H → va_S (AZ Y) s.heap H locs → lv_has ls 9 [(0, .ref b), (1, .ref (YA Y 0 0)), (2, .ref (YA Y 20 0)), (3, .ref (YA Y 33 0)), (4, .ref (YA Y 36 0)), (5, .int a5)] → W p l e room_1 s m #[Value.ref b] below meth c H locs (C + 60) (S + 8000) (lw_Z below #[Value.ref b] s) (F0 m 28 ls [])) : ∀ (M : Mem) (a5 : Int32), f_L_law_996 xs L k28 M a5 = some () → ∀ (H : Heap) (locs : List Loc) (ls : Array Slot), HS Y M H → va_S (AZ Y) s.heap H locs → lv_has ls 9 [(0, .ref b), (1, .ref (YA Y 0 0)), (2, .ref (YA Y 20 0)), (3, .ref (YA Y 33 0)), (4, .ref (YA Y 36 0)), (5, .int a5)] → W p l e room_1 s m #[Value.ref b] below meth c H locs (C + 0) (S + 0) (lw_Z below #[Value.ref b] s) (F0 m 996 ls []) := by
  obtain ⟨hx, hb, hr, hml, hown, hA, hlocks, hK, hZ⟩ := id C0
  have hR1 : room_1.cells = 603072 := rfl
  have hR2 : room_1.slots = 7182442 := rfl
  intro M a5 hf H locs ls hH hS hl
  unfold f_L_law_996 at hf
  refine lv_aload_n hx hb dL_law_996 rfl (lv_at hl 1 rfl) ?_
  refine lv_aload_n hx hb dL_law_997 rfl (lv_at hl 0 rfl) ?_
  refine lv_iload hx hb dL_law_998 (lv_at hl 5 rfl) ?_
  refine lv_iconst (v := (1 : Int32)) hx hb dL_law_1000 (by decide) ?_
  refine lv_iadd hx hb dL_law_1001 ?_
  obtain ⟨hg881, hf⟩ := gd_o hf
  refine hl_sld hx hb hX (Nat.lt_of_lt_of_le hbl hZ) (Nat.not_le.mpr hbl) hS hg881 dL_law_1002 ?_
  refine lv_aload_n hx hb dL_law_1003 rfl (lv_at hl 3 rfl) ?_
  obtain ⟨r884, M883, hq882, hf⟩ := bd2_o hf
  refine hs_ci (hs_runSX C0 hH hS (n := 3) (As := [.ref (YA Y 0 0), .int (xs (ix (a5 + (1 : Int32)))), .ref (YA Y 33 0)]) (rest := []) (c_L_linkTo hl9 M (xs (ix (a5 + (1 : Int32)))) hq882) ⟨⟨zt_789, zt_790, zt_0, zt_791⟩, by decide, by decide, by decide +kernel⟩ ⟨rfl, rfl, Nat.le_of_ble_eq_true rfl, Nat.le_of_ble_eq_true rfl⟩ rfl rfl hl.1 (Nat.le_of_ble_eq_true rfl) ⟨by omega, by omega⟩ dL_law_1004) hS (fun H locs hH hS => ?_)
  refine lv_istore (lv' := [(6, .int r884), (0, .ref b), (1, .ref (YA Y 0 0)), (2, .ref (YA Y 20 0)), (3, .ref (YA Y 33 0)), (4, .ref (YA Y 36 0)), (5, .int a5)]) hx hb dL_law_1007 hl (by decide) rfl (fun ls hl => ?_)
  refine lv_aload_n hx hb dL_law_1009 rfl (lv_at hl 3 rfl) ?_
  refine lv_aload_n hx hb dL_law_1010 rfl (lv_at hl 1 rfl) ?_
  refine lv_iload hx hb dL_law_1011 (lv_at hl 6 rfl) ?_
  refine lv_iconst (v := (1 : Int32)) hx hb dL_law_1013 (by decide) ?_
  refine lv_iadd hx hb dL_law_1014 ?_
  refine hl_sld hx hb hX (Nat.lt_of_lt_of_le hbl hZ) (Nat.not_le.mpr hbl) hS hg881 dL_law_1015 ?_
  obtain ⟨r887, M886, hq885, hf⟩ := bd2_o hf
  refine hs_ci (hs_runV C0 hH hS (n := 1) (As := [.int (xs (ix (a5 + (1 : Int32))))]) (rest := []) (c_X8_linkTo M883 (xs (ix (a5 + (1 : Int32)))) hq885) ⟨⟨zt_1812, zt_1813, zt_1814, zt_13, zt_1815⟩, rfl, by decide, by decide, by decide +kernel⟩ ⟨rfl, rfl, Nat.le_of_ble_eq_true rfl, Nat.le_of_ble_eq_true rfl⟩ (hs_recv hK hH 20 0 (by decide) 12 rfl rfl) rfl rfl hl.1 (Nat.le_of_ble_eq_true rfl) ⟨by omega, by omega⟩ dL_law_1016) hS (fun H locs hH hS => ?_)
  refine lv_istore (lv' := [(7, .int r887), (6, .int r884), (0, .ref b), (1, .ref (YA Y 0 0)), (2, .ref (YA Y 20 0)), (3, .ref (YA Y 33 0)), (4, .ref (YA Y 36 0)), (5, .int a5)]) hx hb dL_law_1019 hl (by decide) rfl (fun ls hl => ?_)
  refine lv_aload_n hx hb dL_law_1021 rfl (lv_at hl 4 rfl) ?_
  obtain ⟨r889, hq888, hf⟩ := bd_o hf
  refine hs_ci (hs_runV C0 hH hS (n := 0) (As := []) (rest := []) (c_X8_thrown M886 hq888) ⟨⟨zt_1621, zt_1622, zt_1623, zt_13, zt_1624⟩, rfl, by decide, by decide, by decide +kernel⟩ ⟨rfl, rfl, Nat.le_of_ble_eq_true rfl, Nat.le_of_ble_eq_true rfl⟩ (hs_recv hK hH 20 0 (by decide) 12 rfl rfl) rfl rfl hl.1 (Nat.le_of_ble_eq_true rfl) ⟨by omega, by omega⟩ dL_law_1022) hS (fun H locs hH hS => ?_)
  refine lv_iload hx hb dL_law_1025 (lv_at hl 1 rfl) ?_
  refine lv_icmp_eq (tgt := 1032) hx hb dL_law_1027 (by decide) (fun hc892 => ?_) (fun hc892 => ?_)
  · have hf := if_t hf hc892
    refine lv_iload hx hb dL_law_1032 (lv_at hl 1 rfl) ?_
    refine lv_if_ne (tgt := 1049) hx hb dL_law_1034 (by decide) (fun hc891 => ?_) (fun hc891 => ?_)
    · have hf := if_f hf hc891
      refine lv_goto (tgt := 3289) hx hb dL_law_1049 (by decide) ?_
      refine W.widen (k := C + 14) (n := S + 1696) (by omega) (by omega) ?_
      exact w_L_law_3289 C0 hl9 xs L hX hbl C S hC9 hS9 k28 hk28 M886 a5 hf _ _ _ hH hS (lv_sub hl [2, 3, 4, 5, 6, 7] rfl)
    · have hf := if_t hf hc891
      refine lv_aload_n hx hb dL_law_1037 rfl (lv_at hl 5 rfl) ?_
      refine lv_iconst (v := (0 : Int32)) hx hb dL_law_1038 (by decide) ?_
      refine hl_laload hx hb hK hH dL_law_1039 ?_
      refine lv_iload hx hb dL_law_1040 (lv_at hl 0 rfl) ?_
      refine lv_i2l (v := r887.toInt64) hx hb dL_law_1042 rfl ?_
      refine W.lcmp hx hb dL_law_1043 ?_
      refine lv_if_eq (tgt := 1049) hx hb dL_law_1044 (by decide) (fun hc890 => ?_) (fun hc890 => ?_)
      · have hf := if_t hf hc890
        refine lv_goto (tgt := 3289) hx hb dL_law_1049 (by decide) ?_
        refine W.widen (k := C + 14) (n := S + 1696) (by omega) (by omega) ?_
        exact w_L_law_3289 C0 hl9 xs L hX hbl C S hC9 hS9 k28 hk28 M886 a5 hf _ _ _ hH hS (lv_sub hl [2, 3, 4, 5, 6, 7] rfl)
      · have hf := if_f hf hc890
        refine lv_iconst (v := (0 : Int32)) hx hb dL_law_1047 (by decide) ?_
        cases hf
  · have hf := if_f hf hc892
    refine lv_iconst (v := (0 : Int32)) hx hb dL_law_1030 (by decide) ?_
    cases hf
def f_L_law_1052 (xs : Nat → Int32) (L : Nat) (k28 : Mem → Int32 → Option Unit) (M : Mem) (a5 : Int32) : Option Unit := if vin (a5 + (1 : Int32)) L then (bd2 (f_L_travelTime M (xs (ix (a5 + (1 : Int32))))) fun r896 M895 => bd2 (f_X8_travelTime M895 (xs (ix (a5 + (1 : Int32))))) fun r899 M898 => bd (f_X8_thrown M898) fun r901 => (if r901 = r896 then (if r896 = 0 then (if (lg_cmp ((M898 33 0 0).toInt64) r899.toInt64) = 0 then f_L_law_3289 xs L k28 M898 a5 else none) else f_L_law_3289 xs L k28 M898 a5) else none)) else none
set_option maxHeartbeats 8000000 in
set_option maxRecDepth 100000 in
theorem w_L_law_1052 {Y : LY} {p : Program} {l : Launch} {e : Env} {s : State} {m : MethodId} {b : Nat} {below : List Frame} {meth : Method} {c : Code} (C0 : BE Y p s m #[Value.ref b] meth c cL_law 9 ret RL) (hl9 : l.stackTraces = false) (xs : Nat → Int32) (L : Nat) (hX : va_X b L xs s s.heap) (hbl : b < YZ Y) (C S : Nat) (hC9 : C + 60 ≤ 603072) (hS9 : S + 8000 ≤ 7182442) (k28 : Mem → Int32 → Option Unit) (hk28 : ∀ (M : Mem) (a5 : Int32), k28 M a5 = some () → ∀ (H : Heap) (locs : List Loc) (ls : Array Slot), HS Y M H → va_S (AZ Y) s.heap H locs → lv_has ls 9 [(0, .ref b), (1, .ref (YA Y 0 0)), (2, .ref (YA Y 20 0)), (3, .ref (YA Y 33 0)), (4, .ref (YA Y 36 0)), (5, .int a5)] → W p l e room_1 s m #[Value.ref b] below meth c H locs (C + 60) (S + 8000) (lw_Z below #[Value.ref b] s) (F0 m 28 ls [])) : ∀ (M : Mem) (a5 : Int32), f_L_law_1052 xs L k28 M a5 = some () → ∀ (H : Heap) (locs : List Loc) (ls : Array Slot), HS Y M H → va_S (AZ Y) s.heap H locs → lv_has ls 9 [(0, .ref b), (1, .ref (YA Y 0 0)), (2, .ref (YA Y 20 0)), (3, .ref (YA Y 33 0)), (4, .ref (YA Y 36 0)), (5, .int a5)] → W p l e room_1 s m #[Value.ref b] below meth c H locs (C + 0) (S + 0) (lw_Z below #[Value.ref b] s) (F0 m 1052 ls []) := by
  obtain ⟨hx, hb, hr, hml, hown, hA, hlocks, hK, hZ⟩ := id C0
  have hR1 : room_1.cells = 603072 := rfl
  have hR2 : room_1.slots = 7182442 := rfl
  intro M a5 hf H locs ls hH hS hl
  unfold f_L_law_1052 at hf
  refine lv_aload_n hx hb dL_law_1052 rfl (lv_at hl 1 rfl) ?_
  refine lv_aload_n hx hb dL_law_1053 rfl (lv_at hl 0 rfl) ?_
  refine lv_iload hx hb dL_law_1054 (lv_at hl 5 rfl) ?_
  refine lv_iconst (v := (1 : Int32)) hx hb dL_law_1056 (by decide) ?_
  refine lv_iadd hx hb dL_law_1057 ?_
  obtain ⟨hg893, hf⟩ := gd_o hf
  refine hl_sld hx hb hX (Nat.lt_of_lt_of_le hbl hZ) (Nat.not_le.mpr hbl) hS hg893 dL_law_1058 ?_
  refine lv_aload_n hx hb dL_law_1059 rfl (lv_at hl 3 rfl) ?_
  obtain ⟨r896, M895, hq894, hf⟩ := bd2_o hf
  refine hs_ci (hs_runSX C0 hH hS (n := 3) (As := [.ref (YA Y 0 0), .int (xs (ix (a5 + (1 : Int32)))), .ref (YA Y 33 0)]) (rest := []) (c_L_travelTime hl9 M (xs (ix (a5 + (1 : Int32)))) hq894) ⟨⟨zt_796, zt_797, zt_0, zt_798⟩, by decide, by decide, by decide +kernel⟩ ⟨rfl, rfl, Nat.le_of_ble_eq_true rfl, Nat.le_of_ble_eq_true rfl⟩ rfl rfl hl.1 (Nat.le_of_ble_eq_true rfl) ⟨by omega, by omega⟩ dL_law_1060) hS (fun H locs hH hS => ?_)
  refine lv_istore (lv' := [(6, .int r896), (0, .ref b), (1, .ref (YA Y 0 0)), (2, .ref (YA Y 20 0)), (3, .ref (YA Y 33 0)), (4, .ref (YA Y 36 0)), (5, .int a5)]) hx hb dL_law_1063 hl (by decide) rfl (fun ls hl => ?_)
  refine lv_aload_n hx hb dL_law_1065 rfl (lv_at hl 3 rfl) ?_
  refine lv_aload_n hx hb dL_law_1066 rfl (lv_at hl 1 rfl) ?_
  refine lv_iload hx hb dL_law_1067 (lv_at hl 6 rfl) ?_
  refine lv_iconst (v := (1 : Int32)) hx hb dL_law_1069 (by decide) ?_
  refine lv_iadd hx hb dL_law_1070 ?_
  refine hl_sld hx hb hX (Nat.lt_of_lt_of_le hbl hZ) (Nat.not_le.mpr hbl) hS hg893 dL_law_1071 ?_
  obtain ⟨r899, M898, hq897, hf⟩ := bd2_o hf
  refine hs_ci (hs_runV C0 hH hS (n := 1) (As := [.int (xs (ix (a5 + (1 : Int32))))]) (rest := []) (c_X8_travelTime M895 (xs (ix (a5 + (1 : Int32)))) hq897) ⟨⟨zt_1816, zt_1817, zt_1818, zt_13, zt_1819⟩, rfl, by decide, by decide, by decide +kernel⟩ ⟨rfl, rfl, Nat.le_of_ble_eq_true rfl, Nat.le_of_ble_eq_true rfl⟩ (hs_recv hK hH 20 0 (by decide) 12 rfl rfl) rfl rfl hl.1 (Nat.le_of_ble_eq_true rfl) ⟨by omega, by omega⟩ dL_law_1072) hS (fun H locs hH hS => ?_)
  refine lv_istore (lv' := [(7, .int r899), (6, .int r896), (0, .ref b), (1, .ref (YA Y 0 0)), (2, .ref (YA Y 20 0)), (3, .ref (YA Y 33 0)), (4, .ref (YA Y 36 0)), (5, .int a5)]) hx hb dL_law_1075 hl (by decide) rfl (fun ls hl => ?_)
  refine lv_aload_n hx hb dL_law_1077 rfl (lv_at hl 4 rfl) ?_
  obtain ⟨r901, hq900, hf⟩ := bd_o hf
  refine hs_ci (hs_runV C0 hH hS (n := 0) (As := []) (rest := []) (c_X8_thrown M898 hq900) ⟨⟨zt_1621, zt_1622, zt_1623, zt_13, zt_1624⟩, rfl, by decide, by decide, by decide +kernel⟩ ⟨rfl, rfl, Nat.le_of_ble_eq_true rfl, Nat.le_of_ble_eq_true rfl⟩ (hs_recv hK hH 20 0 (by decide) 12 rfl rfl) rfl rfl hl.1 (Nat.le_of_ble_eq_true rfl) ⟨by omega, by omega⟩ dL_law_1078) hS (fun H locs hH hS => ?_)
  refine lv_iload hx hb dL_law_1081 (lv_at hl 1 rfl) ?_
  refine lv_icmp_eq (tgt := 1088) hx hb dL_law_1083 (by decide) (fun hc904 => ?_) (fun hc904 => ?_)
  · have hf := if_t hf hc904
    refine lv_iload hx hb dL_law_1088 (lv_at hl 1 rfl) ?_
    refine lv_if_ne (tgt := 1105) hx hb dL_law_1090 (by decide) (fun hc903 => ?_) (fun hc903 => ?_)
    · have hf := if_f hf hc903
      refine lv_goto (tgt := 3289) hx hb dL_law_1105 (by decide) ?_
      refine W.widen (k := C + 14) (n := S + 1696) (by omega) (by omega) ?_
      exact w_L_law_3289 C0 hl9 xs L hX hbl C S hC9 hS9 k28 hk28 M898 a5 hf _ _ _ hH hS (lv_sub hl [2, 3, 4, 5, 6, 7] rfl)
    · have hf := if_t hf hc903
      refine lv_aload_n hx hb dL_law_1093 rfl (lv_at hl 5 rfl) ?_
      refine lv_iconst (v := (0 : Int32)) hx hb dL_law_1094 (by decide) ?_
      refine hl_laload hx hb hK hH dL_law_1095 ?_
      refine lv_iload hx hb dL_law_1096 (lv_at hl 0 rfl) ?_
      refine lv_i2l (v := r899.toInt64) hx hb dL_law_1098 rfl ?_
      refine W.lcmp hx hb dL_law_1099 ?_
      refine lv_if_eq (tgt := 1105) hx hb dL_law_1100 (by decide) (fun hc902 => ?_) (fun hc902 => ?_)
      · have hf := if_t hf hc902
        refine lv_goto (tgt := 3289) hx hb dL_law_1105 (by decide) ?_
        refine W.widen (k := C + 14) (n := S + 1696) (by omega) (by omega) ?_
        exact w_L_law_3289 C0 hl9 xs L hX hbl C S hC9 hS9 k28 hk28 M898 a5 hf _ _ _ hH hS (lv_sub hl [2, 3, 4, 5, 6, 7] rfl)
      · have hf := if_f hf hc902
        refine lv_iconst (v := (0 : Int32)) hx hb dL_law_1103 (by decide) ?_
        cases hf
  · have hf := if_f hf hc904
    refine lv_iconst (v := (0 : Int32)) hx hb dL_law_1086 (by decide) ?_
    cases hf
def f_L_law_1162 (xs : Nat → Int32) (L : Nat) (k28 : Mem → Int32 → Option Unit) (M : Mem) (a5 : Int32) (b0 : Int64) (b1 : Int64) : Option Unit := (if (lg_cmp b1 b0) = 0 then f_L_law_3289 xs L k28 M a5 else none)
set_option maxHeartbeats 8000000 in
set_option maxRecDepth 100000 in
theorem w_L_law_1162 {Y : LY} {p : Program} {l : Launch} {e : Env} {s : State} {m : MethodId} {b : Nat} {below : List Frame} {meth : Method} {c : Code} (C0 : BE Y p s m #[Value.ref b] meth c cL_law 9 ret RL) (hl9 : l.stackTraces = false) (xs : Nat → Int32) (L : Nat) (hX : va_X b L xs s s.heap) (hbl : b < YZ Y) (C S : Nat) (hC9 : C + 60 ≤ 603072) (hS9 : S + 8000 ≤ 7182442) (k28 : Mem → Int32 → Option Unit) (hk28 : ∀ (M : Mem) (a5 : Int32), k28 M a5 = some () → ∀ (H : Heap) (locs : List Loc) (ls : Array Slot), HS Y M H → va_S (AZ Y) s.heap H locs → lv_has ls 9 [(0, .ref b), (1, .ref (YA Y 0 0)), (2, .ref (YA Y 20 0)), (3, .ref (YA Y 33 0)), (4, .ref (YA Y 36 0)), (5, .int a5)] → W p l e room_1 s m #[Value.ref b] below meth c H locs (C + 60) (S + 8000) (lw_Z below #[Value.ref b] s) (F0 m 28 ls [])) : ∀ (M : Mem) (a5 : Int32) (b0 : Int64) (b1 : Int64), f_L_law_1162 xs L k28 M a5 b0 b1 = some () → ∀ (H : Heap) (locs : List Loc) (ls : Array Slot), HS Y M H → va_S (AZ Y) s.heap H locs → lv_has ls 9 [(0, .ref b), (1, .ref (YA Y 0 0)), (2, .ref (YA Y 20 0)), (3, .ref (YA Y 33 0)), (4, .ref (YA Y 36 0)), (5, .int a5)] → W p l e room_1 s m #[Value.ref b] below meth c H locs (C + 1) (S + 6) (lw_Z below #[Value.ref b] s) (F0 m 1162 ls [.long b0, .long b1]) := by
  obtain ⟨hx, hb, hr, hml, hown, hA, hlocks, hK, hZ⟩ := id C0
  have hR1 : room_1.cells = 603072 := rfl
  have hR2 : room_1.slots = 7182442 := rfl
  intro M a5 b0 b1 hf H locs ls hH hS hl
  unfold f_L_law_1162 at hf
  refine W.lcmp hx hb dL_law_1162 ?_
  refine lv_if_eq (tgt := 1168) hx hb dL_law_1163 (by decide) (fun hc905 => ?_) (fun hc905 => ?_)
  · have hf := if_t hf hc905
    refine lv_goto (tgt := 3289) hx hb dL_law_1168 (by decide) ?_
    refine W.widen (k := C + 14) (n := S + 1696) (by omega) (by omega) ?_
    exact w_L_law_3289 C0 hl9 xs L hX hbl C S hC9 hS9 k28 hk28 M a5 hf _ _ _ hH hS (lv_sub hl [0, 1, 2, 3, 4, 5] rfl)
  · have hf := if_f hf hc905
    refine lv_iconst (v := (0 : Int32)) hx hb dL_law_1166 (by decide) ?_
    cases hf
def f_L_law_1108 (xs : Nat → Int32) (L : Nat) (k28 : Mem → Int32 → Option Unit) (M : Mem) (a5 : Int32) : Option Unit := if vin (a5 + (1 : Int32)) L then (bd2 (f_L_isBlocked M (xs (ix (a5 + (1 : Int32))))) fun r909 M908 => bd2 (f_X8_isBlocked M908 (xs (ix (a5 + (1 : Int32))))) fun r912 M911 => bd (f_X8_thrown M911) fun r914 => (if r914 = r909 then (if r909 = 0 then (if r912 = 0 then f_L_law_1162 xs L k28 M911 a5 (0 : Int64) ((M911 33 0 0).toInt64) else f_L_law_1162 xs L k28 M911 a5 (1 : Int64) ((M911 33 0 0).toInt64)) else f_L_law_3289 xs L k28 M911 a5) else none)) else none
set_option maxHeartbeats 8000000 in
set_option maxRecDepth 100000 in
theorem w_L_law_1108 {Y : LY} {p : Program} {l : Launch} {e : Env} {s : State} {m : MethodId} {b : Nat} {below : List Frame} {meth : Method} {c : Code} (C0 : BE Y p s m #[Value.ref b] meth c cL_law 9 ret RL) (hl9 : l.stackTraces = false) (xs : Nat → Int32) (L : Nat) (hX : va_X b L xs s s.heap) (hbl : b < YZ Y) (C S : Nat) (hC9 : C + 60 ≤ 603072) (hS9 : S + 8000 ≤ 7182442) (k28 : Mem → Int32 → Option Unit) (hk28 : ∀ (M : Mem) (a5 : Int32), k28 M a5 = some () → ∀ (H : Heap) (locs : List Loc) (ls : Array Slot), HS Y M H → va_S (AZ Y) s.heap H locs → lv_has ls 9 [(0, .ref b), (1, .ref (YA Y 0 0)), (2, .ref (YA Y 20 0)), (3, .ref (YA Y 33 0)), (4, .ref (YA Y 36 0)), (5, .int a5)] → W p l e room_1 s m #[Value.ref b] below meth c H locs (C + 60) (S + 8000) (lw_Z below #[Value.ref b] s) (F0 m 28 ls [])) : ∀ (M : Mem) (a5 : Int32), f_L_law_1108 xs L k28 M a5 = some () → ∀ (H : Heap) (locs : List Loc) (ls : Array Slot), HS Y M H → va_S (AZ Y) s.heap H locs → lv_has ls 9 [(0, .ref b), (1, .ref (YA Y 0 0)), (2, .ref (YA Y 20 0)), (3, .ref (YA Y 33 0)), (4, .ref (YA Y 36 0)), (5, .int a5)] → W p l e room_1 s m #[Value.ref b] below meth c H locs (C + 0) (S + 0) (lw_Z below #[Value.ref b] s) (F0 m 1108 ls []) := by
  obtain ⟨hx, hb, hr, hml, hown, hA, hlocks, hK, hZ⟩ := id C0
  have hR1 : room_1.cells = 603072 := rfl
  have hR2 : room_1.slots = 7182442 := rfl
  intro M a5 hf H locs ls hH hS hl
  unfold f_L_law_1108 at hf
  refine lv_aload_n hx hb dL_law_1108 rfl (lv_at hl 1 rfl) ?_
  refine lv_aload_n hx hb dL_law_1109 rfl (lv_at hl 0 rfl) ?_
  refine lv_iload hx hb dL_law_1110 (lv_at hl 5 rfl) ?_
  refine lv_iconst (v := (1 : Int32)) hx hb dL_law_1112 (by decide) ?_
  refine lv_iadd hx hb dL_law_1113 ?_
  obtain ⟨hg906, hf⟩ := gd_o hf
  refine hl_sld hx hb hX (Nat.lt_of_lt_of_le hbl hZ) (Nat.not_le.mpr hbl) hS hg906 dL_law_1114 ?_
  refine lv_aload_n hx hb dL_law_1115 rfl (lv_at hl 3 rfl) ?_
  obtain ⟨r909, M908, hq907, hf⟩ := bd2_o hf
  refine hs_ci (hs_runSX C0 hH hS (n := 3) (As := [.ref (YA Y 0 0), .int (xs (ix (a5 + (1 : Int32)))), .ref (YA Y 33 0)]) (rest := []) (c_L_isBlocked hl9 M (xs (ix (a5 + (1 : Int32)))) hq907) ⟨⟨zt_803, zt_804, zt_0, zt_805⟩, by decide, by decide, by decide +kernel⟩ ⟨rfl, rfl, Nat.le_of_ble_eq_true rfl, Nat.le_of_ble_eq_true rfl⟩ rfl rfl hl.1 (Nat.le_of_ble_eq_true rfl) ⟨by omega, by omega⟩ dL_law_1116) hS (fun H locs hH hS => ?_)
  refine lv_istore (lv' := [(6, .int r909), (0, .ref b), (1, .ref (YA Y 0 0)), (2, .ref (YA Y 20 0)), (3, .ref (YA Y 33 0)), (4, .ref (YA Y 36 0)), (5, .int a5)]) hx hb dL_law_1119 hl (by decide) rfl (fun ls hl => ?_)
  refine lv_aload_n hx hb dL_law_1121 rfl (lv_at hl 3 rfl) ?_
  refine lv_aload_n hx hb dL_law_1122 rfl (lv_at hl 1 rfl) ?_
  refine lv_iload hx hb dL_law_1123 (lv_at hl 6 rfl) ?_
  refine lv_iconst (v := (1 : Int32)) hx hb dL_law_1125 (by decide) ?_
  refine lv_iadd hx hb dL_law_1126 ?_
  refine hl_sld hx hb hX (Nat.lt_of_lt_of_le hbl hZ) (Nat.not_le.mpr hbl) hS hg906 dL_law_1127 ?_
  obtain ⟨r912, M911, hq910, hf⟩ := bd2_o hf
  refine hs_ci (hs_runV C0 hH hS (n := 1) (As := [.int (xs (ix (a5 + (1 : Int32))))]) (rest := []) (c_X8_isBlocked M908 (xs (ix (a5 + (1 : Int32)))) hq910) ⟨⟨zt_1820, zt_1821, zt_1822, zt_13, zt_1823⟩, rfl, by decide, by decide, by decide +kernel⟩ ⟨rfl, rfl, Nat.le_of_ble_eq_true rfl, Nat.le_of_ble_eq_true rfl⟩ (hs_recv hK hH 20 0 (by decide) 12 rfl rfl) rfl rfl hl.1 (Nat.le_of_ble_eq_true rfl) ⟨by omega, by omega⟩ dL_law_1128) hS (fun H locs hH hS => ?_)
  refine lv_istore (lv' := [(7, .int r912), (6, .int r909), (0, .ref b), (1, .ref (YA Y 0 0)), (2, .ref (YA Y 20 0)), (3, .ref (YA Y 33 0)), (4, .ref (YA Y 36 0)), (5, .int a5)]) hx hb dL_law_1131 hl (by decide) rfl (fun ls hl => ?_)
  refine lv_aload_n hx hb dL_law_1133 rfl (lv_at hl 4 rfl) ?_
  obtain ⟨r914, hq913, hf⟩ := bd_o hf
  refine hs_ci (hs_runV C0 hH hS (n := 0) (As := []) (rest := []) (c_X8_thrown M911 hq913) ⟨⟨zt_1621, zt_1622, zt_1623, zt_13, zt_1624⟩, rfl, by decide, by decide, by decide +kernel⟩ ⟨rfl, rfl, Nat.le_of_ble_eq_true rfl, Nat.le_of_ble_eq_true rfl⟩ (hs_recv hK hH 20 0 (by decide) 12 rfl rfl) rfl rfl hl.1 (Nat.le_of_ble_eq_true rfl) ⟨by omega, by omega⟩ dL_law_1134) hS (fun H locs hH hS => ?_)
  refine lv_iload hx hb dL_law_1137 (lv_at hl 1 rfl) ?_
  refine lv_icmp_eq (tgt := 1144) hx hb dL_law_1139 (by decide) (fun hc917 => ?_) (fun hc917 => ?_)
  · have hf := if_t hf hc917
    refine lv_iload hx hb dL_law_1144 (lv_at hl 1 rfl) ?_
    refine lv_if_ne (tgt := 1168) hx hb dL_law_1146 (by decide) (fun hc916 => ?_) (fun hc916 => ?_)
    · have hf := if_f hf hc916
      refine lv_goto (tgt := 3289) hx hb dL_law_1168 (by decide) ?_
      refine W.widen (k := C + 14) (n := S + 1696) (by omega) (by omega) ?_
      exact w_L_law_3289 C0 hl9 xs L hX hbl C S hC9 hS9 k28 hk28 M911 a5 hf _ _ _ hH hS (lv_sub hl [2, 3, 4, 5, 6, 7] rfl)
    · have hf := if_t hf hc916
      refine lv_aload_n hx hb dL_law_1149 rfl (lv_at hl 5 rfl) ?_
      refine lv_iconst (v := (0 : Int32)) hx hb dL_law_1150 (by decide) ?_
      refine hl_laload hx hb hK hH dL_law_1151 ?_
      refine lv_iload hx hb dL_law_1152 (lv_at hl 0 rfl) ?_
      refine lv_if_eq (tgt := 1161) hx hb dL_law_1154 (by decide) (fun hc915 => ?_) (fun hc915 => ?_)
      · have hf := if_t hf hc915
        refine lv_lconst (v := (0 : Int64)) hx hb dL_law_1161 (by decide) ?_
        refine W.widen (k := C + 1) (n := S + 6) (by omega) (by omega) ?_
        exact w_L_law_1162 C0 hl9 xs L hX hbl C S hC9 hS9 k28 hk28 M911 a5 (0 : Int64) ((M911 33 0 0).toInt64) hf _ _ _ hH hS (lv_sub hl [2, 3, 4, 5, 6, 7] rfl)
      · have hf := if_f hf hc915
        refine lv_lconst (v := (1 : Int64)) hx hb dL_law_1157 (by decide) ?_
        refine lv_goto (tgt := 1162) hx hb dL_law_1158 (by decide) ?_
        refine W.widen (k := C + 1) (n := S + 6) (by omega) (by omega) ?_
        exact w_L_law_1162 C0 hl9 xs L hX hbl C S hC9 hS9 k28 hk28 M911 a5 (1 : Int64) ((M911 33 0 0).toInt64) hf _ _ _ hH hS (lv_sub hl [2, 3, 4, 5, 6, 7] rfl)
  · have hf := if_f hf hc917
    refine lv_iconst (v := (0 : Int32)) hx hb dL_law_1142 (by decide) ?_
    cases hf
def f_L_law_1237 (xs : Nat → Int32) (L : Nat) (k28 : Mem → Int32 → Option Unit) (M : Mem) (a5 : Int32) (b0 : Int64) (b1 : Int64) : Option Unit := (if (lg_cmp b1 b0) = 0 then f_L_law_3289 xs L k28 M a5 else none)
set_option maxHeartbeats 8000000 in
set_option maxRecDepth 100000 in
theorem w_L_law_1237 {Y : LY} {p : Program} {l : Launch} {e : Env} {s : State} {m : MethodId} {b : Nat} {below : List Frame} {meth : Method} {c : Code} (C0 : BE Y p s m #[Value.ref b] meth c cL_law 9 ret RL) (hl9 : l.stackTraces = false) (xs : Nat → Int32) (L : Nat) (hX : va_X b L xs s s.heap) (hbl : b < YZ Y) (C S : Nat) (hC9 : C + 60 ≤ 603072) (hS9 : S + 8000 ≤ 7182442) (k28 : Mem → Int32 → Option Unit) (hk28 : ∀ (M : Mem) (a5 : Int32), k28 M a5 = some () → ∀ (H : Heap) (locs : List Loc) (ls : Array Slot), HS Y M H → va_S (AZ Y) s.heap H locs → lv_has ls 9 [(0, .ref b), (1, .ref (YA Y 0 0)), (2, .ref (YA Y 20 0)), (3, .ref (YA Y 33 0)), (4, .ref (YA Y 36 0)), (5, .int a5)] → W p l e room_1 s m #[Value.ref b] below meth c H locs (C + 60) (S + 8000) (lw_Z below #[Value.ref b] s) (F0 m 28 ls [])) : ∀ (M : Mem) (a5 : Int32) (b0 : Int64) (b1 : Int64), f_L_law_1237 xs L k28 M a5 b0 b1 = some () → ∀ (H : Heap) (locs : List Loc) (ls : Array Slot), HS Y M H → va_S (AZ Y) s.heap H locs → lv_has ls 9 [(0, .ref b), (1, .ref (YA Y 0 0)), (2, .ref (YA Y 20 0)), (3, .ref (YA Y 33 0)), (4, .ref (YA Y 36 0)), (5, .int a5)] → W p l e room_1 s m #[Value.ref b] below meth c H locs (C + 2) (S + 12) (lw_Z below #[Value.ref b] s) (F0 m 1237 ls [.long b0, .long b1]) := by
  obtain ⟨hx, hb, hr, hml, hown, hA, hlocks, hK, hZ⟩ := id C0
  have hR1 : room_1.cells = 603072 := rfl
  have hR2 : room_1.slots = 7182442 := rfl
  intro M a5 b0 b1 hf H locs ls hH hS hl
  unfold f_L_law_1237 at hf
  refine W.lcmp hx hb dL_law_1237 ?_
  refine lv_if_eq (tgt := 1243) hx hb dL_law_1238 (by decide) (fun hc918 => ?_) (fun hc918 => ?_)
  · have hf := if_t hf hc918
    refine lv_goto (tgt := 3289) hx hb dL_law_1243 (by decide) ?_
    refine W.widen (k := C + 14) (n := S + 1696) (by omega) (by omega) ?_
    exact w_L_law_3289 C0 hl9 xs L hX hbl C S hC9 hS9 k28 hk28 M a5 hf _ _ _ hH hS (lv_sub hl [0, 1, 2, 3, 4, 5] rfl)
  · have hf := if_f hf hc918
    refine lv_iconst (v := (0 : Int32)) hx hb dL_law_1241 (by decide) ?_
    cases hf
def f_L_law_1171 (xs : Nat → Int32) (L : Nat) (k28 : Mem → Int32 → Option Unit) (M : Mem) (a5 : Int32) : Option Unit := if vin (a5 + (1 : Int32)) L then (if vin (a5 + (2 : Int32)) L then (bd2 (f_L_isOpenAt M (xs (ix (a5 + (1 : Int32)))) (xs (ix (a5 + (2 : Int32))))) fun r923 M922 => bd2 (f_X8_isOpenAt M922 (xs (ix (a5 + (1 : Int32)))) (xs (ix (a5 + (2 : Int32))))) fun r926 M925 => bd (f_X8_thrown M925) fun r928 => (if r928 = r923 then (if r923 = 0 then (if r926 = 0 then f_L_law_1237 xs L k28 M925 a5 (0 : Int64) ((M925 33 0 0).toInt64) else f_L_law_1237 xs L k28 M925 a5 (1 : Int64) ((M925 33 0 0).toInt64)) else f_L_law_3289 xs L k28 M925 a5) else none)) else none) else none
set_option maxHeartbeats 8000000 in
set_option maxRecDepth 100000 in
theorem w_L_law_1171 {Y : LY} {p : Program} {l : Launch} {e : Env} {s : State} {m : MethodId} {b : Nat} {below : List Frame} {meth : Method} {c : Code} (C0 : BE Y p s m #[Value.ref b] meth c cL_law 9 ret RL) (hl9 : l.stackTraces = false) (xs : Nat → Int32) (L : Nat) (hX : va_X b L xs s s.heap) (hbl : b < YZ Y) (C S : Nat) (hC9 : C + 60 ≤ 603072) (hS9 : S + 8000 ≤ 7182442) (k28 : Mem → Int32 → Option Unit) (hk28 : ∀ (M : Mem) (a5 : Int32), k28 M a5 = some () → ∀ (H : Heap) (locs : List Loc) (ls : Array Slot), HS Y M H → va_S (AZ Y) s.heap H locs → lv_has ls 9 [(0, .ref b), (1, .ref (YA Y 0 0)), (2, .ref (YA Y 20 0)), (3, .ref (YA Y 33 0)), (4, .ref (YA Y 36 0)), (5, .int a5)] → W p l e room_1 s m #[Value.ref b] below meth c H locs (C + 60) (S + 8000) (lw_Z below #[Value.ref b] s) (F0 m 28 ls [])) : ∀ (M : Mem) (a5 : Int32), f_L_law_1171 xs L k28 M a5 = some () → ∀ (H : Heap) (locs : List Loc) (ls : Array Slot), HS Y M H → va_S (AZ Y) s.heap H locs → lv_has ls 9 [(0, .ref b), (1, .ref (YA Y 0 0)), (2, .ref (YA Y 20 0)), (3, .ref (YA Y 33 0)), (4, .ref (YA Y 36 0)), (5, .int a5)] → W p l e room_1 s m #[Value.ref b] below meth c H locs (C + 0) (S + 0) (lw_Z below #[Value.ref b] s) (F0 m 1171 ls []) := by
  obtain ⟨hx, hb, hr, hml, hown, hA, hlocks, hK, hZ⟩ := id C0
  have hR1 : room_1.cells = 603072 := rfl
  have hR2 : room_1.slots = 7182442 := rfl
  intro M a5 hf H locs ls hH hS hl
  unfold f_L_law_1171 at hf
  refine lv_aload_n hx hb dL_law_1171 rfl (lv_at hl 1 rfl) ?_
  refine lv_aload_n hx hb dL_law_1172 rfl (lv_at hl 0 rfl) ?_
  refine lv_iload hx hb dL_law_1173 (lv_at hl 5 rfl) ?_
  refine lv_iconst (v := (1 : Int32)) hx hb dL_law_1175 (by decide) ?_
  refine lv_iadd hx hb dL_law_1176 ?_
  obtain ⟨hg919, hf⟩ := gd_o hf
  refine hl_sld hx hb hX (Nat.lt_of_lt_of_le hbl hZ) (Nat.not_le.mpr hbl) hS hg919 dL_law_1177 ?_
  refine lv_aload_n hx hb dL_law_1178 rfl (lv_at hl 0 rfl) ?_
  refine lv_iload hx hb dL_law_1179 (lv_at hl 5 rfl) ?_
  refine lv_iconst (v := (2 : Int32)) hx hb dL_law_1181 (by decide) ?_
  refine lv_iadd hx hb dL_law_1182 ?_
  obtain ⟨hg920, hf⟩ := gd_o hf
  refine hl_sld hx hb hX (Nat.lt_of_lt_of_le hbl hZ) (Nat.not_le.mpr hbl) hS hg920 dL_law_1183 ?_
  refine lv_aload_n hx hb dL_law_1184 rfl (lv_at hl 3 rfl) ?_
  obtain ⟨r923, M922, hq921, hf⟩ := bd2_o hf
  refine hs_ci (hs_runSX C0 hH hS (n := 4) (As := [.ref (YA Y 0 0), .int (xs (ix (a5 + (1 : Int32)))), .int (xs (ix (a5 + (2 : Int32)))), .ref (YA Y 33 0)]) (rest := []) (c_L_isOpenAt hl9 M (xs (ix (a5 + (1 : Int32)))) (xs (ix (a5 + (2 : Int32)))) hq921) ⟨⟨zt_810, zt_811, zt_0, zt_812⟩, by decide, by decide, by decide +kernel⟩ ⟨rfl, rfl, Nat.le_of_ble_eq_true rfl, Nat.le_of_ble_eq_true rfl⟩ rfl rfl hl.1 (Nat.le_of_ble_eq_true rfl) ⟨by omega, by omega⟩ dL_law_1185) hS (fun H locs hH hS => ?_)
  refine lv_istore (lv' := [(6, .int r923), (0, .ref b), (1, .ref (YA Y 0 0)), (2, .ref (YA Y 20 0)), (3, .ref (YA Y 33 0)), (4, .ref (YA Y 36 0)), (5, .int a5)]) hx hb dL_law_1188 hl (by decide) rfl (fun ls hl => ?_)
  refine lv_aload_n hx hb dL_law_1190 rfl (lv_at hl 3 rfl) ?_
  refine lv_aload_n hx hb dL_law_1191 rfl (lv_at hl 1 rfl) ?_
  refine lv_iload hx hb dL_law_1192 (lv_at hl 6 rfl) ?_
  refine lv_iconst (v := (1 : Int32)) hx hb dL_law_1194 (by decide) ?_
  refine lv_iadd hx hb dL_law_1195 ?_
  refine hl_sld hx hb hX (Nat.lt_of_lt_of_le hbl hZ) (Nat.not_le.mpr hbl) hS hg919 dL_law_1196 ?_
  refine lv_aload_n hx hb dL_law_1197 rfl (lv_at hl 1 rfl) ?_
  refine lv_iload hx hb dL_law_1198 (lv_at hl 6 rfl) ?_
  refine lv_iconst (v := (2 : Int32)) hx hb dL_law_1200 (by decide) ?_
  refine lv_iadd hx hb dL_law_1201 ?_
  refine hl_sld hx hb hX (Nat.lt_of_lt_of_le hbl hZ) (Nat.not_le.mpr hbl) hS hg920 dL_law_1202 ?_
  obtain ⟨r926, M925, hq924, hf⟩ := bd2_o hf
  refine hs_ci (hs_runV C0 hH hS (n := 2) (As := [.int (xs (ix (a5 + (1 : Int32)))), .int (xs (ix (a5 + (2 : Int32))))]) (rest := []) (c_X8_isOpenAt M922 (xs (ix (a5 + (1 : Int32)))) (xs (ix (a5 + (2 : Int32)))) hq924) ⟨⟨zt_1824, zt_1825, zt_1826, zt_13, zt_1827⟩, rfl, by decide, by decide, by decide +kernel⟩ ⟨rfl, rfl, Nat.le_of_ble_eq_true rfl, Nat.le_of_ble_eq_true rfl⟩ (hs_recv hK hH 20 0 (by decide) 12 rfl rfl) rfl rfl hl.1 (Nat.le_of_ble_eq_true rfl) ⟨by omega, by omega⟩ dL_law_1203) hS (fun H locs hH hS => ?_)
  refine lv_istore (lv' := [(7, .int r926), (6, .int r923), (0, .ref b), (1, .ref (YA Y 0 0)), (2, .ref (YA Y 20 0)), (3, .ref (YA Y 33 0)), (4, .ref (YA Y 36 0)), (5, .int a5)]) hx hb dL_law_1206 hl (by decide) rfl (fun ls hl => ?_)
  refine lv_aload_n hx hb dL_law_1208 rfl (lv_at hl 4 rfl) ?_
  obtain ⟨r928, hq927, hf⟩ := bd_o hf
  refine hs_ci (hs_runV C0 hH hS (n := 0) (As := []) (rest := []) (c_X8_thrown M925 hq927) ⟨⟨zt_1621, zt_1622, zt_1623, zt_13, zt_1624⟩, rfl, by decide, by decide, by decide +kernel⟩ ⟨rfl, rfl, Nat.le_of_ble_eq_true rfl, Nat.le_of_ble_eq_true rfl⟩ (hs_recv hK hH 20 0 (by decide) 12 rfl rfl) rfl rfl hl.1 (Nat.le_of_ble_eq_true rfl) ⟨by omega, by omega⟩ dL_law_1209) hS (fun H locs hH hS => ?_)
  refine lv_iload hx hb dL_law_1212 (lv_at hl 1 rfl) ?_
  refine lv_icmp_eq (tgt := 1219) hx hb dL_law_1214 (by decide) (fun hc931 => ?_) (fun hc931 => ?_)
  · have hf := if_t hf hc931
    refine lv_iload hx hb dL_law_1219 (lv_at hl 1 rfl) ?_
    refine lv_if_ne (tgt := 1243) hx hb dL_law_1221 (by decide) (fun hc930 => ?_) (fun hc930 => ?_)
    · have hf := if_f hf hc930
      refine lv_goto (tgt := 3289) hx hb dL_law_1243 (by decide) ?_
      refine W.widen (k := C + 14) (n := S + 1696) (by omega) (by omega) ?_
      exact w_L_law_3289 C0 hl9 xs L hX hbl C S hC9 hS9 k28 hk28 M925 a5 hf _ _ _ hH hS (lv_sub hl [2, 3, 4, 5, 6, 7] rfl)
    · have hf := if_t hf hc930
      refine lv_aload_n hx hb dL_law_1224 rfl (lv_at hl 5 rfl) ?_
      refine lv_iconst (v := (0 : Int32)) hx hb dL_law_1225 (by decide) ?_
      refine hl_laload hx hb hK hH dL_law_1226 ?_
      refine lv_iload hx hb dL_law_1227 (lv_at hl 0 rfl) ?_
      refine lv_if_eq (tgt := 1236) hx hb dL_law_1229 (by decide) (fun hc929 => ?_) (fun hc929 => ?_)
      · have hf := if_t hf hc929
        refine lv_lconst (v := (0 : Int64)) hx hb dL_law_1236 (by decide) ?_
        refine W.widen (k := C + 2) (n := S + 12) (by omega) (by omega) ?_
        exact w_L_law_1237 C0 hl9 xs L hX hbl C S hC9 hS9 k28 hk28 M925 a5 (0 : Int64) ((M925 33 0 0).toInt64) hf _ _ _ hH hS (lv_sub hl [2, 3, 4, 5, 6, 7] rfl)
      · have hf := if_f hf hc929
        refine lv_lconst (v := (1 : Int64)) hx hb dL_law_1232 (by decide) ?_
        refine lv_goto (tgt := 1237) hx hb dL_law_1233 (by decide) ?_
        refine W.widen (k := C + 2) (n := S + 12) (by omega) (by omega) ?_
        exact w_L_law_1237 C0 hl9 xs L hX hbl C S hC9 hS9 k28 hk28 M925 a5 (1 : Int64) ((M925 33 0 0).toInt64) hf _ _ _ hH hS (lv_sub hl [2, 3, 4, 5, 6, 7] rfl)
  · have hf := if_f hf hc931
    refine lv_iconst (v := (0 : Int32)) hx hb dL_law_1217 (by decide) ?_
    cases hf
def f_L_law_1246 (xs : Nat → Int32) (L : Nat) (k28 : Mem → Int32 → Option Unit) (M : Mem) (a5 : Int32) : Option Unit := if vin (a5 + (1 : Int32)) L then (bd2 (f_L_loadOf M (xs (ix (a5 + (1 : Int32))))) fun r935 M934 => bd2 (f_X8_loadOf M934 (xs (ix (a5 + (1 : Int32))))) fun r938 M937 => bd (f_X8_thrown M937) fun r940 => (if r940 = r935 then (if r935 = 0 then (if (lg_cmp ((M937 33 0 0).toInt64) r938.toInt64) = 0 then f_L_law_3289 xs L k28 M937 a5 else none) else f_L_law_3289 xs L k28 M937 a5) else none)) else none
set_option maxHeartbeats 8000000 in
set_option maxRecDepth 100000 in
theorem w_L_law_1246 {Y : LY} {p : Program} {l : Launch} {e : Env} {s : State} {m : MethodId} {b : Nat} {below : List Frame} {meth : Method} {c : Code} (C0 : BE Y p s m #[Value.ref b] meth c cL_law 9 ret RL) (hl9 : l.stackTraces = false) (xs : Nat → Int32) (L : Nat) (hX : va_X b L xs s s.heap) (hbl : b < YZ Y) (C S : Nat) (hC9 : C + 60 ≤ 603072) (hS9 : S + 8000 ≤ 7182442) (k28 : Mem → Int32 → Option Unit) (hk28 : ∀ (M : Mem) (a5 : Int32), k28 M a5 = some () → ∀ (H : Heap) (locs : List Loc) (ls : Array Slot), HS Y M H → va_S (AZ Y) s.heap H locs → lv_has ls 9 [(0, .ref b), (1, .ref (YA Y 0 0)), (2, .ref (YA Y 20 0)), (3, .ref (YA Y 33 0)), (4, .ref (YA Y 36 0)), (5, .int a5)] → W p l e room_1 s m #[Value.ref b] below meth c H locs (C + 60) (S + 8000) (lw_Z below #[Value.ref b] s) (F0 m 28 ls [])) : ∀ (M : Mem) (a5 : Int32), f_L_law_1246 xs L k28 M a5 = some () → ∀ (H : Heap) (locs : List Loc) (ls : Array Slot), HS Y M H → va_S (AZ Y) s.heap H locs → lv_has ls 9 [(0, .ref b), (1, .ref (YA Y 0 0)), (2, .ref (YA Y 20 0)), (3, .ref (YA Y 33 0)), (4, .ref (YA Y 36 0)), (5, .int a5)] → W p l e room_1 s m #[Value.ref b] below meth c H locs (C + 0) (S + 0) (lw_Z below #[Value.ref b] s) (F0 m 1246 ls []) := by
  obtain ⟨hx, hb, hr, hml, hown, hA, hlocks, hK, hZ⟩ := id C0
  have hR1 : room_1.cells = 603072 := rfl
  have hR2 : room_1.slots = 7182442 := rfl
  intro M a5 hf H locs ls hH hS hl
  unfold f_L_law_1246 at hf
  refine lv_aload_n hx hb dL_law_1246 rfl (lv_at hl 1 rfl) ?_
  refine lv_aload_n hx hb dL_law_1247 rfl (lv_at hl 0 rfl) ?_
  refine lv_iload hx hb dL_law_1248 (lv_at hl 5 rfl) ?_
  refine lv_iconst (v := (1 : Int32)) hx hb dL_law_1250 (by decide) ?_
  refine lv_iadd hx hb dL_law_1251 ?_
  obtain ⟨hg932, hf⟩ := gd_o hf
  refine hl_sld hx hb hX (Nat.lt_of_lt_of_le hbl hZ) (Nat.not_le.mpr hbl) hS hg932 dL_law_1252 ?_
  refine lv_aload_n hx hb dL_law_1253 rfl (lv_at hl 3 rfl) ?_
  obtain ⟨r935, M934, hq933, hf⟩ := bd2_o hf
  refine hs_ci (hs_runSX C0 hH hS (n := 3) (As := [.ref (YA Y 0 0), .int (xs (ix (a5 + (1 : Int32)))), .ref (YA Y 33 0)]) (rest := []) (c_L_loadOf hl9 M (xs (ix (a5 + (1 : Int32)))) hq933) ⟨⟨zt_825, zt_826, zt_0, zt_827⟩, by decide, by decide, by decide +kernel⟩ ⟨rfl, rfl, Nat.le_of_ble_eq_true rfl, Nat.le_of_ble_eq_true rfl⟩ rfl rfl hl.1 (Nat.le_of_ble_eq_true rfl) ⟨by omega, by omega⟩ dL_law_1254) hS (fun H locs hH hS => ?_)
  refine lv_istore (lv' := [(6, .int r935), (0, .ref b), (1, .ref (YA Y 0 0)), (2, .ref (YA Y 20 0)), (3, .ref (YA Y 33 0)), (4, .ref (YA Y 36 0)), (5, .int a5)]) hx hb dL_law_1257 hl (by decide) rfl (fun ls hl => ?_)
  refine lv_aload_n hx hb dL_law_1259 rfl (lv_at hl 3 rfl) ?_
  refine lv_aload_n hx hb dL_law_1260 rfl (lv_at hl 1 rfl) ?_
  refine lv_iload hx hb dL_law_1261 (lv_at hl 6 rfl) ?_
  refine lv_iconst (v := (1 : Int32)) hx hb dL_law_1263 (by decide) ?_
  refine lv_iadd hx hb dL_law_1264 ?_
  refine hl_sld hx hb hX (Nat.lt_of_lt_of_le hbl hZ) (Nat.not_le.mpr hbl) hS hg932 dL_law_1265 ?_
  obtain ⟨r938, M937, hq936, hf⟩ := bd2_o hf
  refine hs_ci (hs_runV C0 hH hS (n := 1) (As := [.int (xs (ix (a5 + (1 : Int32))))]) (rest := []) (c_X8_loadOf M934 (xs (ix (a5 + (1 : Int32)))) hq936) ⟨⟨zt_1829, zt_1830, zt_1831, zt_13, zt_1832⟩, rfl, by decide, by decide, by decide +kernel⟩ ⟨rfl, rfl, Nat.le_of_ble_eq_true rfl, Nat.le_of_ble_eq_true rfl⟩ (hs_recv hK hH 20 0 (by decide) 12 rfl rfl) rfl rfl hl.1 (Nat.le_of_ble_eq_true rfl) ⟨by omega, by omega⟩ dL_law_1266) hS (fun H locs hH hS => ?_)
  refine lv_istore (lv' := [(7, .int r938), (6, .int r935), (0, .ref b), (1, .ref (YA Y 0 0)), (2, .ref (YA Y 20 0)), (3, .ref (YA Y 33 0)), (4, .ref (YA Y 36 0)), (5, .int a5)]) hx hb dL_law_1269 hl (by decide) rfl (fun ls hl => ?_)
  refine lv_aload_n hx hb dL_law_1271 rfl (lv_at hl 4 rfl) ?_
  obtain ⟨r940, hq939, hf⟩ := bd_o hf
  refine hs_ci (hs_runV C0 hH hS (n := 0) (As := []) (rest := []) (c_X8_thrown M937 hq939) ⟨⟨zt_1621, zt_1622, zt_1623, zt_13, zt_1624⟩, rfl, by decide, by decide, by decide +kernel⟩ ⟨rfl, rfl, Nat.le_of_ble_eq_true rfl, Nat.le_of_ble_eq_true rfl⟩ (hs_recv hK hH 20 0 (by decide) 12 rfl rfl) rfl rfl hl.1 (Nat.le_of_ble_eq_true rfl) ⟨by omega, by omega⟩ dL_law_1272) hS (fun H locs hH hS => ?_)
  refine lv_iload hx hb dL_law_1275 (lv_at hl 1 rfl) ?_
  refine lv_icmp_eq (tgt := 1282) hx hb dL_law_1277 (by decide) (fun hc943 => ?_) (fun hc943 => ?_)
  · have hf := if_t hf hc943
    refine lv_iload hx hb dL_law_1282 (lv_at hl 1 rfl) ?_
    refine lv_if_ne (tgt := 1299) hx hb dL_law_1284 (by decide) (fun hc942 => ?_) (fun hc942 => ?_)
    · have hf := if_f hf hc942
      refine lv_goto (tgt := 3289) hx hb dL_law_1299 (by decide) ?_
      refine W.widen (k := C + 14) (n := S + 1696) (by omega) (by omega) ?_
      exact w_L_law_3289 C0 hl9 xs L hX hbl C S hC9 hS9 k28 hk28 M937 a5 hf _ _ _ hH hS (lv_sub hl [2, 3, 4, 5, 6, 7] rfl)
    · have hf := if_t hf hc942
      refine lv_aload_n hx hb dL_law_1287 rfl (lv_at hl 5 rfl) ?_
      refine lv_iconst (v := (0 : Int32)) hx hb dL_law_1288 (by decide) ?_
      refine hl_laload hx hb hK hH dL_law_1289 ?_
      refine lv_iload hx hb dL_law_1290 (lv_at hl 0 rfl) ?_
      refine lv_i2l (v := r938.toInt64) hx hb dL_law_1292 rfl ?_
      refine W.lcmp hx hb dL_law_1293 ?_
      refine lv_if_eq (tgt := 1299) hx hb dL_law_1294 (by decide) (fun hc941 => ?_) (fun hc941 => ?_)
      · have hf := if_t hf hc941
        refine lv_goto (tgt := 3289) hx hb dL_law_1299 (by decide) ?_
        refine W.widen (k := C + 14) (n := S + 1696) (by omega) (by omega) ?_
        exact w_L_law_3289 C0 hl9 xs L hX hbl C S hC9 hS9 k28 hk28 M937 a5 hf _ _ _ hH hS (lv_sub hl [2, 3, 4, 5, 6, 7] rfl)
      · have hf := if_f hf hc941
        refine lv_iconst (v := (0 : Int32)) hx hb dL_law_1297 (by decide) ?_
        cases hf
  · have hf := if_f hf hc943
    refine lv_iconst (v := (0 : Int32)) hx hb dL_law_1280 (by decide) ?_
    cases hf
def f_L_law_1302 (xs : Nat → Int32) (L : Nat) (k28 : Mem → Int32 → Option Unit) (M : Mem) (a5 : Int32) : Option Unit := bd2 (f_L_busiestLink M) fun r946 M945 => bd2 (f_X8_busiestLink M945) fun r949 M948 => bd (f_X8_thrown M948) fun r951 => (if r951 = r946 then (if r946 = 0 then (if (lg_cmp ((M948 33 0 0).toInt64) r949.toInt64) = 0 then f_L_law_3289 xs L k28 M948 a5 else none) else f_L_law_3289 xs L k28 M948 a5) else none)
set_option maxHeartbeats 8000000 in
set_option maxRecDepth 100000 in
theorem w_L_law_1302 {Y : LY} {p : Program} {l : Launch} {e : Env} {s : State} {m : MethodId} {b : Nat} {below : List Frame} {meth : Method} {c : Code} (C0 : BE Y p s m #[Value.ref b] meth c cL_law 9 ret RL) (hl9 : l.stackTraces = false) (xs : Nat → Int32) (L : Nat) (hX : va_X b L xs s s.heap) (hbl : b < YZ Y) (C S : Nat) (hC9 : C + 60 ≤ 603072) (hS9 : S + 8000 ≤ 7182442) (k28 : Mem → Int32 → Option Unit) (hk28 : ∀ (M : Mem) (a5 : Int32), k28 M a5 = some () → ∀ (H : Heap) (locs : List Loc) (ls : Array Slot), HS Y M H → va_S (AZ Y) s.heap H locs → lv_has ls 9 [(0, .ref b), (1, .ref (YA Y 0 0)), (2, .ref (YA Y 20 0)), (3, .ref (YA Y 33 0)), (4, .ref (YA Y 36 0)), (5, .int a5)] → W p l e room_1 s m #[Value.ref b] below meth c H locs (C + 60) (S + 8000) (lw_Z below #[Value.ref b] s) (F0 m 28 ls [])) : ∀ (M : Mem) (a5 : Int32), f_L_law_1302 xs L k28 M a5 = some () → ∀ (H : Heap) (locs : List Loc) (ls : Array Slot), HS Y M H → va_S (AZ Y) s.heap H locs → lv_has ls 9 [(0, .ref b), (1, .ref (YA Y 0 0)), (2, .ref (YA Y 20 0)), (3, .ref (YA Y 33 0)), (4, .ref (YA Y 36 0)), (5, .int a5)] → W p l e room_1 s m #[Value.ref b] below meth c H locs (C + 0) (S + 0) (lw_Z below #[Value.ref b] s) (F0 m 1302 ls []) := by
  obtain ⟨hx, hb, hr, hml, hown, hA, hlocks, hK, hZ⟩ := id C0
  have hR1 : room_1.cells = 603072 := rfl
  have hR2 : room_1.slots = 7182442 := rfl
  intro M a5 hf H locs ls hH hS hl
  unfold f_L_law_1302 at hf
  refine lv_aload_n hx hb dL_law_1302 rfl (lv_at hl 1 rfl) ?_
  refine lv_aload_n hx hb dL_law_1303 rfl (lv_at hl 3 rfl) ?_
  obtain ⟨r946, M945, hq944, hf⟩ := bd2_o hf
  refine hs_ci (hs_runSX C0 hH hS (n := 2) (As := [.ref (YA Y 0 0), .ref (YA Y 33 0)]) (rest := []) (c_L_busiestLink hl9 M hq944) ⟨⟨zt_833, zt_834, zt_0, zt_835⟩, by decide, by decide, by decide +kernel⟩ ⟨rfl, rfl, Nat.le_of_ble_eq_true rfl, Nat.le_of_ble_eq_true rfl⟩ rfl rfl hl.1 (Nat.le_of_ble_eq_true rfl) ⟨by omega, by omega⟩ dL_law_1304) hS (fun H locs hH hS => ?_)
  refine lv_istore (lv' := [(6, .int r946), (0, .ref b), (1, .ref (YA Y 0 0)), (2, .ref (YA Y 20 0)), (3, .ref (YA Y 33 0)), (4, .ref (YA Y 36 0)), (5, .int a5)]) hx hb dL_law_1307 hl (by decide) rfl (fun ls hl => ?_)
  refine lv_aload_n hx hb dL_law_1309 rfl (lv_at hl 3 rfl) ?_
  obtain ⟨r949, M948, hq947, hf⟩ := bd2_o hf
  refine hs_ci (hs_runV C0 hH hS (n := 0) (As := []) (rest := []) (c_X8_busiestLink M945 hq947) ⟨⟨zt_1833, zt_1834, zt_1835, zt_13, zt_1836⟩, rfl, by decide, by decide, by decide +kernel⟩ ⟨rfl, rfl, Nat.le_of_ble_eq_true rfl, Nat.le_of_ble_eq_true rfl⟩ (hs_recv hK hH 20 0 (by decide) 12 rfl rfl) rfl rfl hl.1 (Nat.le_of_ble_eq_true rfl) ⟨by omega, by omega⟩ dL_law_1310) hS (fun H locs hH hS => ?_)
  refine lv_istore (lv' := [(7, .int r949), (6, .int r946), (0, .ref b), (1, .ref (YA Y 0 0)), (2, .ref (YA Y 20 0)), (3, .ref (YA Y 33 0)), (4, .ref (YA Y 36 0)), (5, .int a5)]) hx hb dL_law_1313 hl (by decide) rfl (fun ls hl => ?_)
  refine lv_aload_n hx hb dL_law_1315 rfl (lv_at hl 4 rfl) ?_
  obtain ⟨r951, hq950, hf⟩ := bd_o hf
  refine hs_ci (hs_runV C0 hH hS (n := 0) (As := []) (rest := []) (c_X8_thrown M948 hq950) ⟨⟨zt_1621, zt_1622, zt_1623, zt_13, zt_1624⟩, rfl, by decide, by decide, by decide +kernel⟩ ⟨rfl, rfl, Nat.le_of_ble_eq_true rfl, Nat.le_of_ble_eq_true rfl⟩ (hs_recv hK hH 20 0 (by decide) 12 rfl rfl) rfl rfl hl.1 (Nat.le_of_ble_eq_true rfl) ⟨by omega, by omega⟩ dL_law_1316) hS (fun H locs hH hS => ?_)
  refine lv_iload hx hb dL_law_1319 (lv_at hl 1 rfl) ?_
  refine lv_icmp_eq (tgt := 1326) hx hb dL_law_1321 (by decide) (fun hc954 => ?_) (fun hc954 => ?_)
  · have hf := if_t hf hc954
    refine lv_iload hx hb dL_law_1326 (lv_at hl 1 rfl) ?_
    refine lv_if_ne (tgt := 1343) hx hb dL_law_1328 (by decide) (fun hc953 => ?_) (fun hc953 => ?_)
    · have hf := if_f hf hc953
      refine lv_goto (tgt := 3289) hx hb dL_law_1343 (by decide) ?_
      refine W.widen (k := C + 14) (n := S + 1696) (by omega) (by omega) ?_
      exact w_L_law_3289 C0 hl9 xs L hX hbl C S hC9 hS9 k28 hk28 M948 a5 hf _ _ _ hH hS (lv_sub hl [2, 3, 4, 5, 6, 7] rfl)
    · have hf := if_t hf hc953
      refine lv_aload_n hx hb dL_law_1331 rfl (lv_at hl 5 rfl) ?_
      refine lv_iconst (v := (0 : Int32)) hx hb dL_law_1332 (by decide) ?_
      refine hl_laload hx hb hK hH dL_law_1333 ?_
      refine lv_iload hx hb dL_law_1334 (lv_at hl 0 rfl) ?_
      refine lv_i2l (v := r949.toInt64) hx hb dL_law_1336 rfl ?_
      refine W.lcmp hx hb dL_law_1337 ?_
      refine lv_if_eq (tgt := 1343) hx hb dL_law_1338 (by decide) (fun hc952 => ?_) (fun hc952 => ?_)
      · have hf := if_t hf hc952
        refine lv_goto (tgt := 3289) hx hb dL_law_1343 (by decide) ?_
        refine W.widen (k := C + 14) (n := S + 1696) (by omega) (by omega) ?_
        exact w_L_law_3289 C0 hl9 xs L hX hbl C S hC9 hS9 k28 hk28 M948 a5 hf _ _ _ hH hS (lv_sub hl [2, 3, 4, 5, 6, 7] rfl)
      · have hf := if_f hf hc952
        refine lv_iconst (v := (0 : Int32)) hx hb dL_law_1341 (by decide) ?_
        cases hf
  · have hf := if_f hf hc954
    refine lv_iconst (v := (0 : Int32)) hx hb dL_law_1324 (by decide) ?_
    cases hf
def f_L_law_1346 (xs : Nat → Int32) (L : Nat) (k28 : Mem → Int32 → Option Unit) (M : Mem) (a5 : Int32) : Option Unit := if vin (a5 + (1 : Int32)) L then (bd2 (f_L_degree M (xs (ix (a5 + (1 : Int32))))) fun r958 M957 => bd2 (f_X8_degree M957 (xs (ix (a5 + (1 : Int32))))) fun r961 M960 => bd (f_X8_thrown M960) fun r963 => (if r963 = r958 then (if r958 = 0 then (if (lg_cmp ((M960 33 0 0).toInt64) r961.toInt64) = 0 then f_L_law_3289 xs L k28 M960 a5 else none) else f_L_law_3289 xs L k28 M960 a5) else none)) else none
set_option maxHeartbeats 8000000 in
set_option maxRecDepth 100000 in
theorem w_L_law_1346 {Y : LY} {p : Program} {l : Launch} {e : Env} {s : State} {m : MethodId} {b : Nat} {below : List Frame} {meth : Method} {c : Code} (C0 : BE Y p s m #[Value.ref b] meth c cL_law 9 ret RL) (hl9 : l.stackTraces = false) (xs : Nat → Int32) (L : Nat) (hX : va_X b L xs s s.heap) (hbl : b < YZ Y) (C S : Nat) (hC9 : C + 60 ≤ 603072) (hS9 : S + 8000 ≤ 7182442) (k28 : Mem → Int32 → Option Unit) (hk28 : ∀ (M : Mem) (a5 : Int32), k28 M a5 = some () → ∀ (H : Heap) (locs : List Loc) (ls : Array Slot), HS Y M H → va_S (AZ Y) s.heap H locs → lv_has ls 9 [(0, .ref b), (1, .ref (YA Y 0 0)), (2, .ref (YA Y 20 0)), (3, .ref (YA Y 33 0)), (4, .ref (YA Y 36 0)), (5, .int a5)] → W p l e room_1 s m #[Value.ref b] below meth c H locs (C + 60) (S + 8000) (lw_Z below #[Value.ref b] s) (F0 m 28 ls [])) : ∀ (M : Mem) (a5 : Int32), f_L_law_1346 xs L k28 M a5 = some () → ∀ (H : Heap) (locs : List Loc) (ls : Array Slot), HS Y M H → va_S (AZ Y) s.heap H locs → lv_has ls 9 [(0, .ref b), (1, .ref (YA Y 0 0)), (2, .ref (YA Y 20 0)), (3, .ref (YA Y 33 0)), (4, .ref (YA Y 36 0)), (5, .int a5)] → W p l e room_1 s m #[Value.ref b] below meth c H locs (C + 0) (S + 0) (lw_Z below #[Value.ref b] s) (F0 m 1346 ls []) := by
  obtain ⟨hx, hb, hr, hml, hown, hA, hlocks, hK, hZ⟩ := id C0
  have hR1 : room_1.cells = 603072 := rfl
  have hR2 : room_1.slots = 7182442 := rfl
  intro M a5 hf H locs ls hH hS hl
  unfold f_L_law_1346 at hf
  refine lv_aload_n hx hb dL_law_1346 rfl (lv_at hl 1 rfl) ?_
  refine lv_aload_n hx hb dL_law_1347 rfl (lv_at hl 0 rfl) ?_
  refine lv_iload hx hb dL_law_1348 (lv_at hl 5 rfl) ?_
  refine lv_iconst (v := (1 : Int32)) hx hb dL_law_1350 (by decide) ?_
  refine lv_iadd hx hb dL_law_1351 ?_
  obtain ⟨hg955, hf⟩ := gd_o hf
  refine hl_sld hx hb hX (Nat.lt_of_lt_of_le hbl hZ) (Nat.not_le.mpr hbl) hS hg955 dL_law_1352 ?_
  refine lv_aload_n hx hb dL_law_1353 rfl (lv_at hl 3 rfl) ?_
  obtain ⟨r958, M957, hq956, hf⟩ := bd2_o hf
  refine hs_ci (hs_runSX C0 hH hS (n := 3) (As := [.ref (YA Y 0 0), .int (xs (ix (a5 + (1 : Int32)))), .ref (YA Y 33 0)]) (rest := []) (c_L_degree hl9 M (xs (ix (a5 + (1 : Int32)))) hq956) ⟨⟨zt_845, zt_846, zt_0, zt_847⟩, by decide, by decide, by decide +kernel⟩ ⟨rfl, rfl, Nat.le_of_ble_eq_true rfl, Nat.le_of_ble_eq_true rfl⟩ rfl rfl hl.1 (Nat.le_of_ble_eq_true rfl) ⟨by omega, by omega⟩ dL_law_1354) hS (fun H locs hH hS => ?_)
  refine lv_istore (lv' := [(6, .int r958), (0, .ref b), (1, .ref (YA Y 0 0)), (2, .ref (YA Y 20 0)), (3, .ref (YA Y 33 0)), (4, .ref (YA Y 36 0)), (5, .int a5)]) hx hb dL_law_1357 hl (by decide) rfl (fun ls hl => ?_)
  refine lv_aload_n hx hb dL_law_1359 rfl (lv_at hl 3 rfl) ?_
  refine lv_aload_n hx hb dL_law_1360 rfl (lv_at hl 1 rfl) ?_
  refine lv_iload hx hb dL_law_1361 (lv_at hl 6 rfl) ?_
  refine lv_iconst (v := (1 : Int32)) hx hb dL_law_1363 (by decide) ?_
  refine lv_iadd hx hb dL_law_1364 ?_
  refine hl_sld hx hb hX (Nat.lt_of_lt_of_le hbl hZ) (Nat.not_le.mpr hbl) hS hg955 dL_law_1365 ?_
  obtain ⟨r961, M960, hq959, hf⟩ := bd2_o hf
  refine hs_ci (hs_runV C0 hH hS (n := 1) (As := [.int (xs (ix (a5 + (1 : Int32))))]) (rest := []) (c_X8_degree M957 (xs (ix (a5 + (1 : Int32)))) hq959) ⟨⟨zt_1837, zt_1838, zt_1839, zt_13, zt_1840⟩, rfl, by decide, by decide, by decide +kernel⟩ ⟨rfl, rfl, Nat.le_of_ble_eq_true rfl, Nat.le_of_ble_eq_true rfl⟩ (hs_recv hK hH 20 0 (by decide) 12 rfl rfl) rfl rfl hl.1 (Nat.le_of_ble_eq_true rfl) ⟨by omega, by omega⟩ dL_law_1366) hS (fun H locs hH hS => ?_)
  refine lv_istore (lv' := [(7, .int r961), (6, .int r958), (0, .ref b), (1, .ref (YA Y 0 0)), (2, .ref (YA Y 20 0)), (3, .ref (YA Y 33 0)), (4, .ref (YA Y 36 0)), (5, .int a5)]) hx hb dL_law_1369 hl (by decide) rfl (fun ls hl => ?_)
  refine lv_aload_n hx hb dL_law_1371 rfl (lv_at hl 4 rfl) ?_
  obtain ⟨r963, hq962, hf⟩ := bd_o hf
  refine hs_ci (hs_runV C0 hH hS (n := 0) (As := []) (rest := []) (c_X8_thrown M960 hq962) ⟨⟨zt_1621, zt_1622, zt_1623, zt_13, zt_1624⟩, rfl, by decide, by decide, by decide +kernel⟩ ⟨rfl, rfl, Nat.le_of_ble_eq_true rfl, Nat.le_of_ble_eq_true rfl⟩ (hs_recv hK hH 20 0 (by decide) 12 rfl rfl) rfl rfl hl.1 (Nat.le_of_ble_eq_true rfl) ⟨by omega, by omega⟩ dL_law_1372) hS (fun H locs hH hS => ?_)
  refine lv_iload hx hb dL_law_1375 (lv_at hl 1 rfl) ?_
  refine lv_icmp_eq (tgt := 1382) hx hb dL_law_1377 (by decide) (fun hc966 => ?_) (fun hc966 => ?_)
  · have hf := if_t hf hc966
    refine lv_iload hx hb dL_law_1382 (lv_at hl 1 rfl) ?_
    refine lv_if_ne (tgt := 1399) hx hb dL_law_1384 (by decide) (fun hc965 => ?_) (fun hc965 => ?_)
    · have hf := if_f hf hc965
      refine lv_goto (tgt := 3289) hx hb dL_law_1399 (by decide) ?_
      refine W.widen (k := C + 14) (n := S + 1696) (by omega) (by omega) ?_
      exact w_L_law_3289 C0 hl9 xs L hX hbl C S hC9 hS9 k28 hk28 M960 a5 hf _ _ _ hH hS (lv_sub hl [2, 3, 4, 5, 6, 7] rfl)
    · have hf := if_t hf hc965
      refine lv_aload_n hx hb dL_law_1387 rfl (lv_at hl 5 rfl) ?_
      refine lv_iconst (v := (0 : Int32)) hx hb dL_law_1388 (by decide) ?_
      refine hl_laload hx hb hK hH dL_law_1389 ?_
      refine lv_iload hx hb dL_law_1390 (lv_at hl 0 rfl) ?_
      refine lv_i2l (v := r961.toInt64) hx hb dL_law_1392 rfl ?_
      refine W.lcmp hx hb dL_law_1393 ?_
      refine lv_if_eq (tgt := 1399) hx hb dL_law_1394 (by decide) (fun hc964 => ?_) (fun hc964 => ?_)
      · have hf := if_t hf hc964
        refine lv_goto (tgt := 3289) hx hb dL_law_1399 (by decide) ?_
        refine W.widen (k := C + 14) (n := S + 1696) (by omega) (by omega) ?_
        exact w_L_law_3289 C0 hl9 xs L hX hbl C S hC9 hS9 k28 hk28 M960 a5 hf _ _ _ hH hS (lv_sub hl [2, 3, 4, 5, 6, 7] rfl)
      · have hf := if_f hf hc964
        refine lv_iconst (v := (0 : Int32)) hx hb dL_law_1397 (by decide) ?_
        cases hf
  · have hf := if_f hf hc966
    refine lv_iconst (v := (0 : Int32)) hx hb dL_law_1380 (by decide) ?_
    cases hf
def f_L_law_1402 (xs : Nat → Int32) (L : Nat) (k28 : Mem → Int32 → Option Unit) (M : Mem) (a5 : Int32) : Option Unit := bd (f_X7_parcelCount M) fun r968 => bd2 (f_X8_parcelCount M) fun r971 M970 => (if r968 = r971 then f_L_law_3289 xs L k28 M970 a5 else none)
set_option maxHeartbeats 8000000 in
set_option maxRecDepth 100000 in
theorem w_L_law_1402 {Y : LY} {p : Program} {l : Launch} {e : Env} {s : State} {m : MethodId} {b : Nat} {below : List Frame} {meth : Method} {c : Code} (C0 : BE Y p s m #[Value.ref b] meth c cL_law 9 ret RL) (hl9 : l.stackTraces = false) (xs : Nat → Int32) (L : Nat) (hX : va_X b L xs s s.heap) (hbl : b < YZ Y) (C S : Nat) (hC9 : C + 60 ≤ 603072) (hS9 : S + 8000 ≤ 7182442) (k28 : Mem → Int32 → Option Unit) (hk28 : ∀ (M : Mem) (a5 : Int32), k28 M a5 = some () → ∀ (H : Heap) (locs : List Loc) (ls : Array Slot), HS Y M H → va_S (AZ Y) s.heap H locs → lv_has ls 9 [(0, .ref b), (1, .ref (YA Y 0 0)), (2, .ref (YA Y 20 0)), (3, .ref (YA Y 33 0)), (4, .ref (YA Y 36 0)), (5, .int a5)] → W p l e room_1 s m #[Value.ref b] below meth c H locs (C + 60) (S + 8000) (lw_Z below #[Value.ref b] s) (F0 m 28 ls [])) : ∀ (M : Mem) (a5 : Int32), f_L_law_1402 xs L k28 M a5 = some () → ∀ (H : Heap) (locs : List Loc) (ls : Array Slot), HS Y M H → va_S (AZ Y) s.heap H locs → lv_has ls 9 [(0, .ref b), (1, .ref (YA Y 0 0)), (2, .ref (YA Y 20 0)), (3, .ref (YA Y 33 0)), (4, .ref (YA Y 36 0)), (5, .int a5)] → W p l e room_1 s m #[Value.ref b] below meth c H locs (C + 0) (S + 0) (lw_Z below #[Value.ref b] s) (F0 m 1402 ls []) := by
  obtain ⟨hx, hb, hr, hml, hown, hA, hlocks, hK, hZ⟩ := id C0
  have hR1 : room_1.cells = 603072 := rfl
  have hR2 : room_1.slots = 7182442 := rfl
  intro M a5 hf H locs ls hH hS hl
  unfold f_L_law_1402 at hf
  refine lv_aload_n hx hb dL_law_1402 rfl (lv_at hl 1 rfl) ?_
  obtain ⟨r968, hq967, hf⟩ := bd_o hf
  refine hs_ci (hs_runV C0 hH hS (n := 0) (As := []) (rest := []) (c_X7_parcelCount M hq967) ⟨⟨zt_636, zt_637, zt_638, zt_1, zt_639⟩, rfl, by decide, by decide, by decide +kernel⟩ ⟨rfl, rfl, Nat.le_of_ble_eq_true rfl, Nat.le_of_ble_eq_true rfl⟩ (hs_recv hK hH 0 0 (by decide) 11 rfl rfl) rfl rfl hl.1 (Nat.le_of_ble_eq_true rfl) ⟨by omega, by omega⟩ dL_law_1403) hS (fun H locs hH hS => ?_)
  refine lv_aload_n hx hb dL_law_1406 rfl (lv_at hl 2 rfl) ?_
  obtain ⟨r971, M970, hq969, hf⟩ := bd2_o hf
  refine hs_ci (hs_runV C0 hH hS (n := 0) (As := []) (rest := [.int r968]) (c_X8_parcelCount M hq969) ⟨⟨zt_1841, zt_1842, zt_1843, zt_13, zt_1844⟩, rfl, by decide, by decide, by decide +kernel⟩ ⟨rfl, rfl, Nat.le_of_ble_eq_true rfl, Nat.le_of_ble_eq_true rfl⟩ (hs_recv hK hH 20 0 (by decide) 12 rfl rfl) rfl rfl hl.1 (Nat.le_of_ble_eq_true rfl) ⟨by omega, by omega⟩ dL_law_1407) hS (fun H locs hH hS => ?_)
  refine lv_icmp_eq (tgt := 3289) hx hb dL_law_1410 (by decide) (fun hc972 => ?_) (fun hc972 => ?_)
  · have hf := if_t hf hc972
    refine W.widen (k := C + 14) (n := S + 1696) (by omega) (by omega) ?_
    exact w_L_law_3289 C0 hl9 xs L hX hbl C S hC9 hS9 k28 hk28 M970 a5 hf _ _ _ hH hS (lv_sub hl [0, 1, 2, 3, 4, 5] rfl)
  · have hf := if_f hf hc972
    refine lv_iconst (v := (0 : Int32)) hx hb dL_law_1413 (by decide) ?_
    cases hf
def f_L_law_1415 (xs : Nat → Int32) (L : Nat) (k28 : Mem → Int32 → Option Unit) (M : Mem) (a5 : Int32) : Option Unit := if vin (a5 + (1 : Int32)) L then (bd2 (f_L_idAt M (xs (ix (a5 + (1 : Int32))))) fun r976 M975 => bd2 (f_X8_idAt M975 (xs (ix (a5 + (1 : Int32))))) fun r979 M978 => bd (f_X8_thrown M978) fun r981 => (if r981 = r976 then (if r976 = 0 then (if (lg_cmp ((M978 33 0 0).toInt64) r979.toInt64) = 0 then f_L_law_3289 xs L k28 M978 a5 else none) else f_L_law_3289 xs L k28 M978 a5) else none)) else none
set_option maxHeartbeats 8000000 in
set_option maxRecDepth 100000 in
theorem w_L_law_1415 {Y : LY} {p : Program} {l : Launch} {e : Env} {s : State} {m : MethodId} {b : Nat} {below : List Frame} {meth : Method} {c : Code} (C0 : BE Y p s m #[Value.ref b] meth c cL_law 9 ret RL) (hl9 : l.stackTraces = false) (xs : Nat → Int32) (L : Nat) (hX : va_X b L xs s s.heap) (hbl : b < YZ Y) (C S : Nat) (hC9 : C + 60 ≤ 603072) (hS9 : S + 8000 ≤ 7182442) (k28 : Mem → Int32 → Option Unit) (hk28 : ∀ (M : Mem) (a5 : Int32), k28 M a5 = some () → ∀ (H : Heap) (locs : List Loc) (ls : Array Slot), HS Y M H → va_S (AZ Y) s.heap H locs → lv_has ls 9 [(0, .ref b), (1, .ref (YA Y 0 0)), (2, .ref (YA Y 20 0)), (3, .ref (YA Y 33 0)), (4, .ref (YA Y 36 0)), (5, .int a5)] → W p l e room_1 s m #[Value.ref b] below meth c H locs (C + 60) (S + 8000) (lw_Z below #[Value.ref b] s) (F0 m 28 ls [])) : ∀ (M : Mem) (a5 : Int32), f_L_law_1415 xs L k28 M a5 = some () → ∀ (H : Heap) (locs : List Loc) (ls : Array Slot), HS Y M H → va_S (AZ Y) s.heap H locs → lv_has ls 9 [(0, .ref b), (1, .ref (YA Y 0 0)), (2, .ref (YA Y 20 0)), (3, .ref (YA Y 33 0)), (4, .ref (YA Y 36 0)), (5, .int a5)] → W p l e room_1 s m #[Value.ref b] below meth c H locs (C + 0) (S + 0) (lw_Z below #[Value.ref b] s) (F0 m 1415 ls []) := by
  obtain ⟨hx, hb, hr, hml, hown, hA, hlocks, hK, hZ⟩ := id C0
  have hR1 : room_1.cells = 603072 := rfl
  have hR2 : room_1.slots = 7182442 := rfl
  intro M a5 hf H locs ls hH hS hl
  unfold f_L_law_1415 at hf
  refine lv_aload_n hx hb dL_law_1415 rfl (lv_at hl 1 rfl) ?_
  refine lv_aload_n hx hb dL_law_1416 rfl (lv_at hl 0 rfl) ?_
  refine lv_iload hx hb dL_law_1417 (lv_at hl 5 rfl) ?_
  refine lv_iconst (v := (1 : Int32)) hx hb dL_law_1419 (by decide) ?_
  refine lv_iadd hx hb dL_law_1420 ?_
  obtain ⟨hg973, hf⟩ := gd_o hf
  refine hl_sld hx hb hX (Nat.lt_of_lt_of_le hbl hZ) (Nat.not_le.mpr hbl) hS hg973 dL_law_1421 ?_
  refine lv_aload_n hx hb dL_law_1422 rfl (lv_at hl 3 rfl) ?_
  obtain ⟨r976, M975, hq974, hf⟩ := bd2_o hf
  refine hs_ci (hs_runSX C0 hH hS (n := 3) (As := [.ref (YA Y 0 0), .int (xs (ix (a5 + (1 : Int32)))), .ref (YA Y 33 0)]) (rest := []) (c_L_idAt hl9 M (xs (ix (a5 + (1 : Int32)))) hq974) ⟨⟨zt_856, zt_857, zt_0, zt_858⟩, by decide, by decide, by decide +kernel⟩ ⟨rfl, rfl, Nat.le_of_ble_eq_true rfl, Nat.le_of_ble_eq_true rfl⟩ rfl rfl hl.1 (Nat.le_of_ble_eq_true rfl) ⟨by omega, by omega⟩ dL_law_1423) hS (fun H locs hH hS => ?_)
  refine lv_istore (lv' := [(6, .int r976), (0, .ref b), (1, .ref (YA Y 0 0)), (2, .ref (YA Y 20 0)), (3, .ref (YA Y 33 0)), (4, .ref (YA Y 36 0)), (5, .int a5)]) hx hb dL_law_1426 hl (by decide) rfl (fun ls hl => ?_)
  refine lv_aload_n hx hb dL_law_1428 rfl (lv_at hl 3 rfl) ?_
  refine lv_aload_n hx hb dL_law_1429 rfl (lv_at hl 1 rfl) ?_
  refine lv_iload hx hb dL_law_1430 (lv_at hl 6 rfl) ?_
  refine lv_iconst (v := (1 : Int32)) hx hb dL_law_1432 (by decide) ?_
  refine lv_iadd hx hb dL_law_1433 ?_
  refine hl_sld hx hb hX (Nat.lt_of_lt_of_le hbl hZ) (Nat.not_le.mpr hbl) hS hg973 dL_law_1434 ?_
  obtain ⟨r979, M978, hq977, hf⟩ := bd2_o hf
  refine hs_ci (hs_runV C0 hH hS (n := 1) (As := [.int (xs (ix (a5 + (1 : Int32))))]) (rest := []) (c_X8_idAt M975 (xs (ix (a5 + (1 : Int32)))) hq977) ⟨⟨zt_1845, zt_1846, zt_1847, zt_13, zt_1848⟩, rfl, by decide, by decide, by decide +kernel⟩ ⟨rfl, rfl, Nat.le_of_ble_eq_true rfl, Nat.le_of_ble_eq_true rfl⟩ (hs_recv hK hH 20 0 (by decide) 12 rfl rfl) rfl rfl hl.1 (Nat.le_of_ble_eq_true rfl) ⟨by omega, by omega⟩ dL_law_1435) hS (fun H locs hH hS => ?_)
  refine lv_istore (lv' := [(7, .int r979), (6, .int r976), (0, .ref b), (1, .ref (YA Y 0 0)), (2, .ref (YA Y 20 0)), (3, .ref (YA Y 33 0)), (4, .ref (YA Y 36 0)), (5, .int a5)]) hx hb dL_law_1438 hl (by decide) rfl (fun ls hl => ?_)
  refine lv_aload_n hx hb dL_law_1440 rfl (lv_at hl 4 rfl) ?_
  obtain ⟨r981, hq980, hf⟩ := bd_o hf
  refine hs_ci (hs_runV C0 hH hS (n := 0) (As := []) (rest := []) (c_X8_thrown M978 hq980) ⟨⟨zt_1621, zt_1622, zt_1623, zt_13, zt_1624⟩, rfl, by decide, by decide, by decide +kernel⟩ ⟨rfl, rfl, Nat.le_of_ble_eq_true rfl, Nat.le_of_ble_eq_true rfl⟩ (hs_recv hK hH 20 0 (by decide) 12 rfl rfl) rfl rfl hl.1 (Nat.le_of_ble_eq_true rfl) ⟨by omega, by omega⟩ dL_law_1441) hS (fun H locs hH hS => ?_)
  refine lv_iload hx hb dL_law_1444 (lv_at hl 1 rfl) ?_
  refine lv_icmp_eq (tgt := 1451) hx hb dL_law_1446 (by decide) (fun hc984 => ?_) (fun hc984 => ?_)
  · have hf := if_t hf hc984
    refine lv_iload hx hb dL_law_1451 (lv_at hl 1 rfl) ?_
    refine lv_if_ne (tgt := 1468) hx hb dL_law_1453 (by decide) (fun hc983 => ?_) (fun hc983 => ?_)
    · have hf := if_f hf hc983
      refine lv_goto (tgt := 3289) hx hb dL_law_1468 (by decide) ?_
      refine W.widen (k := C + 14) (n := S + 1696) (by omega) (by omega) ?_
      exact w_L_law_3289 C0 hl9 xs L hX hbl C S hC9 hS9 k28 hk28 M978 a5 hf _ _ _ hH hS (lv_sub hl [2, 3, 4, 5, 6, 7] rfl)
    · have hf := if_t hf hc983
      refine lv_aload_n hx hb dL_law_1456 rfl (lv_at hl 5 rfl) ?_
      refine lv_iconst (v := (0 : Int32)) hx hb dL_law_1457 (by decide) ?_
      refine hl_laload hx hb hK hH dL_law_1458 ?_
      refine lv_iload hx hb dL_law_1459 (lv_at hl 0 rfl) ?_
      refine lv_i2l (v := r979.toInt64) hx hb dL_law_1461 rfl ?_
      refine W.lcmp hx hb dL_law_1462 ?_
      refine lv_if_eq (tgt := 1468) hx hb dL_law_1463 (by decide) (fun hc982 => ?_) (fun hc982 => ?_)
      · have hf := if_t hf hc982
        refine lv_goto (tgt := 3289) hx hb dL_law_1468 (by decide) ?_
        refine W.widen (k := C + 14) (n := S + 1696) (by omega) (by omega) ?_
        exact w_L_law_3289 C0 hl9 xs L hX hbl C S hC9 hS9 k28 hk28 M978 a5 hf _ _ _ hH hS (lv_sub hl [2, 3, 4, 5, 6, 7] rfl)
      · have hf := if_f hf hc982
        refine lv_iconst (v := (0 : Int32)) hx hb dL_law_1466 (by decide) ?_
        cases hf
  · have hf := if_f hf hc984
    refine lv_iconst (v := (0 : Int32)) hx hb dL_law_1449 (by decide) ?_
    cases hf
def f_L_law_1525 (xs : Nat → Int32) (L : Nat) (k28 : Mem → Int32 → Option Unit) (M : Mem) (a5 : Int32) (b0 : Int64) (b1 : Int64) : Option Unit := (if (lg_cmp b1 b0) = 0 then f_L_law_3289 xs L k28 M a5 else none)
set_option maxHeartbeats 8000000 in
set_option maxRecDepth 100000 in
theorem w_L_law_1525 {Y : LY} {p : Program} {l : Launch} {e : Env} {s : State} {m : MethodId} {b : Nat} {below : List Frame} {meth : Method} {c : Code} (C0 : BE Y p s m #[Value.ref b] meth c cL_law 9 ret RL) (hl9 : l.stackTraces = false) (xs : Nat → Int32) (L : Nat) (hX : va_X b L xs s s.heap) (hbl : b < YZ Y) (C S : Nat) (hC9 : C + 60 ≤ 603072) (hS9 : S + 8000 ≤ 7182442) (k28 : Mem → Int32 → Option Unit) (hk28 : ∀ (M : Mem) (a5 : Int32), k28 M a5 = some () → ∀ (H : Heap) (locs : List Loc) (ls : Array Slot), HS Y M H → va_S (AZ Y) s.heap H locs → lv_has ls 9 [(0, .ref b), (1, .ref (YA Y 0 0)), (2, .ref (YA Y 20 0)), (3, .ref (YA Y 33 0)), (4, .ref (YA Y 36 0)), (5, .int a5)] → W p l e room_1 s m #[Value.ref b] below meth c H locs (C + 60) (S + 8000) (lw_Z below #[Value.ref b] s) (F0 m 28 ls [])) : ∀ (M : Mem) (a5 : Int32) (b0 : Int64) (b1 : Int64), f_L_law_1525 xs L k28 M a5 b0 b1 = some () → ∀ (H : Heap) (locs : List Loc) (ls : Array Slot), HS Y M H → va_S (AZ Y) s.heap H locs → lv_has ls 9 [(0, .ref b), (1, .ref (YA Y 0 0)), (2, .ref (YA Y 20 0)), (3, .ref (YA Y 33 0)), (4, .ref (YA Y 36 0)), (5, .int a5)] → W p l e room_1 s m #[Value.ref b] below meth c H locs (C + 1) (S + 6) (lw_Z below #[Value.ref b] s) (F0 m 1525 ls [.long b0, .long b1]) := by
  obtain ⟨hx, hb, hr, hml, hown, hA, hlocks, hK, hZ⟩ := id C0
  have hR1 : room_1.cells = 603072 := rfl
  have hR2 : room_1.slots = 7182442 := rfl
  intro M a5 b0 b1 hf H locs ls hH hS hl
  unfold f_L_law_1525 at hf
  refine W.lcmp hx hb dL_law_1525 ?_
  refine lv_if_eq (tgt := 1531) hx hb dL_law_1526 (by decide) (fun hc985 => ?_) (fun hc985 => ?_)
  · have hf := if_t hf hc985
    refine lv_goto (tgt := 3289) hx hb dL_law_1531 (by decide) ?_
    refine W.widen (k := C + 14) (n := S + 1696) (by omega) (by omega) ?_
    exact w_L_law_3289 C0 hl9 xs L hX hbl C S hC9 hS9 k28 hk28 M a5 hf _ _ _ hH hS (lv_sub hl [0, 1, 2, 3, 4, 5] rfl)
  · have hf := if_f hf hc985
    refine lv_iconst (v := (0 : Int32)) hx hb dL_law_1529 (by decide) ?_
    cases hf
