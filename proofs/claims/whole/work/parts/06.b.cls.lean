def f_X5_sendAllReady_67 (k4 : Mem → Nat → Int32 → Int32 → Option (Int32 × Mem)) (M : Mem) (i0 : Nat) (a1 : Int32) (a2 : Int32) : Option (Int32 × Mem) := k4 M i0 a1 (a2 + (1 : Int32))
set_option maxHeartbeats 4000000 in
set_option maxRecDepth 100000 in
theorem w_X5_sendAllReady_67 {Y : LY} {p : Program} {l : Launch} {e : Env} {s : State} {m : MethodId} {args : Array Value} {below : List Frame} {meth : Method} {c : Code} (C0 : BE Y p s m args meth c cX5_sendAllReady 5 (Option.some Jvm.ClassFile.FieldType.int) RX5) {r : Int32} {MZ : Mem} (k4 : Mem → Nat → Int32 → Int32 → Option (Int32 × Mem)) (hk4 : ∀ (M : Mem) (i0 : Nat) (a1 : Int32) (a2 : Int32), i0 < 11 → k4 M i0 a1 a2 = some (r, MZ) → ∀ (H : Heap) (locs : List Loc) (ls : Array Slot), HS Y M H → va_S (AZ Y) s.heap H locs → lv_has ls 5 [(0, .ref (YA Y 1 i0)), (1, .int a1), (2, .int a2)] → W p l e { frames := 4, cells := 0, slots := 0, locals := 98 } s m args below meth c H locs 0 0 (MQ below (Qi Y r MZ) args s 0 0 (AZ Y)) (F0 m 4 ls [])) : ∀ (M : Mem) (i0 : Nat) (a1 : Int32) (a2 : Int32), i0 < 11 → f_X5_sendAllReady_67 k4 M i0 a1 a2 = some (r, MZ) → ∀ (H : Heap) (locs : List Loc) (ls : Array Slot), HS Y M H → va_S (AZ Y) s.heap H locs → lv_has ls 5 [(0, .ref (YA Y 1 i0)), (1, .int a1), (2, .int a2)] → W p l e { frames := 4, cells := 0, slots := 0, locals := 98 } s m args below meth c H locs 0 0 (MQ below (Qi Y r MZ) args s 0 0 (AZ Y)) (F0 m 67 ls []) := by
  obtain ⟨hx, hb, hr, hml, hown, hA, hlocks, hK, hZ⟩ := id C0
  intro M i0 a1 a2 hi0 hf H locs ls hH hS hl
  unfold f_X5_sendAllReady_67 at hf
  refine lv_iinc (v := a2 + (1 : Int32)) (lv' := [(2, .int (a2 + (1 : Int32))), (0, .ref (YA Y 1 i0)), (1, .int a1)]) hx hb dX5_sendAllReady_67 hl (k := 2) rfl rfl (by decide) rfl (fun ls hl => ?_)
  refine lv_goto (tgt := 4) hx hb dX5_sendAllReady_70 (by decide) ?_
  exact hk4 M i0 a1 (a2 + (1 : Int32)) (show i0 < 11 from by omega) hf _ _ _ hH hS (lv_sub hl [1, 2, 0] rfl)
def f_X5_sendAllReady_4 : Nat → Mem → Nat → Int32 → Int32 → Option (Int32 × Mem)
  | 0, _, _, _, _ => none
  | n + 1, M, i0, a1, a2 => (if (M 1 i0 3) ≤ a2 then some (a1, M) else if vin a2 12 then (if ix (M 5 i0 (ix a2)) < 132 then (bd (f_X3_isUnderWay M (ix (M 5 i0 (ix a2)))) fun r21 => (if r21 = 0 then (if (M 6 (ix (M 5 i0 (ix a2))) 2) ≤ 0 then f_X5_sendAllReady_67 (f_X5_sendAllReady_4 n) M i0 a1 a2 else bd2 (f_X5_nextLinkOf M i0 (ix (M 5 i0 (ix a2)))) fun r24 M23 => (if r24 = (-1 : Int32) then f_X5_sendAllReady_67 (f_X5_sendAllReady_4 n) M23 i0 a1 a2 else bd (f_X5_hasRoomFor M23 i0 (ix (M 5 i0 (ix a2))) r24) fun r26 => (if r26 = 0 then f_X5_sendAllReady_67 (f_X5_sendAllReady_4 n) M23 i0 a1 a2 else bd2 (f_X5_sendOver M23 i0 (some (ix (M 5 i0 (ix a2)))) r24) fun r29 M28 => f_X5_sendAllReady_67 (f_X5_sendAllReady_4 n) M28 i0 (a1 + (1 : Int32)) a2))) else f_X5_sendAllReady_67 (f_X5_sendAllReady_4 n) M i0 a1 a2)) else none) else none)
set_option maxHeartbeats 4000000 in
set_option maxRecDepth 100000 in
theorem w_X5_sendAllReady_4 {Y : LY} {p : Program} {l : Launch} {e : Env} {s : State} {m : MethodId} {args : Array Value} {below : List Frame} {meth : Method} {c : Code} (C0 : BE Y p s m args meth c cX5_sendAllReady 5 (Option.some Jvm.ClassFile.FieldType.int) RX5) {r : Int32} {MZ : Mem} : ∀ (n : Nat) (M : Mem) (i0 : Nat) (a1 : Int32) (a2 : Int32), i0 < 11 → f_X5_sendAllReady_4 n M i0 a1 a2 = some (r, MZ) → ∀ (H : Heap) (locs : List Loc) (ls : Array Slot), HS Y M H → va_S (AZ Y) s.heap H locs → lv_has ls 5 [(0, .ref (YA Y 1 i0)), (1, .int a1), (2, .int a2)] → W p l e { frames := 4, cells := 0, slots := 0, locals := 98 } s m args below meth c H locs 0 0 (MQ below (Qi Y r MZ) args s 0 0 (AZ Y)) (F0 m 4 ls []) := by
  obtain ⟨hx, hb, hr, hml, hown, hA, hlocks, hK, hZ⟩ := id C0
  intro n
  induction n with
  | zero =>
    intro M i0 a1 a2 hi0 hf
    cases hf
  | succ n ih =>
    intro M i0 a1 a2 hi0 hf H locs ls hH hS hl
    rw [f_X5_sendAllReady_4] at hf
    refine lv_iload_n hx hb dX5_sendAllReady_4 rfl (lv_at hl 2 rfl) ?_
    refine lv_aload_n hx hb dX5_sendAllReady_5 rfl (lv_at hl 0 rfl) ?_
    refine hs_get hx hb (T := TX5) hA inAX5 hown hK hH 1 i0 (show i0 < 11 from by omega) 9 rfl rfl 3 (by decide) (hA _ zt_177) rfl rfl dX5_sendAllReady_6 ?_
    refine lv_icmp_ge (tgt := 73) hx hb dX5_sendAllReady_9 (by decide) (fun hc34 => ?_) (fun hc34 => ?_)
    · have hf := if_t hf hc34
      refine lv_iload_n hx hb dX5_sendAllReady_73 rfl (lv_at hl 1 rfl) ?_
      cases hf
      exact hs_iret C0 hH hS (by decide) (by decide) dX5_sendAllReady_74
    · have hf := if_f hf hc34
      refine lv_aload_n hx hb dX5_sendAllReady_12 rfl (lv_at hl 0 rfl) ?_
      refine hs_get hx hb (T := TX5) hA inAX5 hown hK hH 1 i0 (show i0 < 11 from by omega) 9 rfl rfl 2 (by decide) (hA _ zt_175) rfl rfl dX5_sendAllReady_13 ?_
      refine lv_iload_n hx hb dX5_sendAllReady_16 rfl (lv_at hl 2 rfl) ?_
      obtain ⟨hg18, hf⟩ := gd_o hf
      have bhg18 := vin_lt hg18
      obtain ⟨hg19, hf⟩ := gd_o hf
      refine hs_aald hx hb hK hH 5 i0 (show i0 < 11 from by omega) 4 rfl rfl hg18 (q := YA Y 6 (ix (M 5 i0 (ix a2)))) rfl dX5_sendAllReady_17 ?_
      refine lv_astore_n (lv' := [(3, .ref (YA Y 6 (ix (M 5 i0 (ix a2))))), (0, .ref (YA Y 1 i0)), (1, .int a1), (2, .int a2)]) hx hb dX5_sendAllReady_18 rfl hl (by decide) rfl (fun ls hl => ?_)
      refine lv_aload_n hx hb dX5_sendAllReady_19 rfl (lv_at hl 0 rfl) ?_
      obtain ⟨r21, hq20, hf⟩ := bd_o hf
      refine hs_ci (hs_runV C0 hH hS (n := 0) (As := []) (rest := []) (c_X3_isUnderWay M (ix (M 5 i0 (ix a2))) (show ix (M 5 i0 (ix a2)) < 132 from by omega) hq20) ⟨⟨zt_373, zt_374, zt_375, zt_6, zt_376⟩, rfl, by decide, by decide, by decide +kernel⟩ ⟨rfl, rfl, Nat.le_of_ble_eq_true rfl, Nat.le_of_ble_eq_true rfl⟩ (hs_recv hK hH 6 (ix (M 5 i0 (ix a2))) (show ix (M 5 i0 (ix a2)) < 132 from by omega) 7 rfl rfl) rfl rfl hl.1 (Nat.le_of_ble_eq_true rfl) ⟨Nat.le_of_ble_eq_true rfl, Nat.le_of_ble_eq_true rfl⟩ dX5_sendAllReady_20) hS (fun H locs hH hS => ?_)
      refine lv_if_ne (tgt := 67) hx hb dX5_sendAllReady_23 (by decide) (fun hc33 => ?_) (fun hc33 => ?_)
      · have hf := if_f hf hc33
        exact w_X5_sendAllReady_67 C0 (f_X5_sendAllReady_4 n) ih M i0 a1 a2 (show i0 < 11 from by omega) hf _ _ _ hH hS (lv_sub hl [1, 2, 3] rfl)
      · have hf := if_t hf hc33
        refine lv_aload_n hx hb dX5_sendAllReady_26 rfl (lv_at hl 0 rfl) ?_
        refine hs_get hx hb (T := TX3) hA inAX3 hown hK hH 6 (ix (M 5 i0 (ix a2))) (show ix (M 5 i0 (ix a2)) < 132 from by omega) 7 rfl rfl 2 (by decide) (hA _ zt_143) rfl rfl dX5_sendAllReady_27 ?_
        refine lv_if_le (tgt := 67) hx hb dX5_sendAllReady_30 (by decide) (fun hc32 => ?_) (fun hc32 => ?_)
        · have hf := if_t hf hc32
          exact w_X5_sendAllReady_67 C0 (f_X5_sendAllReady_4 n) ih M i0 a1 a2 (show i0 < 11 from by omega) hf _ _ _ hH hS (lv_sub hl [1, 2, 3] rfl)
        · have hf := if_f hf hc32
          refine lv_aload_n hx hb dX5_sendAllReady_33 rfl (lv_at hl 1 rfl) ?_
          refine lv_aload_n hx hb dX5_sendAllReady_34 rfl (lv_at hl 0 rfl) ?_
          obtain ⟨r24, M23, hq22, hf⟩ := bd2_o hf
          refine hs_ci (hs_runV C0 hH hS (n := 1) (As := [.ref (YA Y 6 (ix (M 5 i0 (ix a2))))]) (rest := []) (c_X5_nextLinkOf M i0 (ix (M 5 i0 (ix a2))) (show i0 < 11 from by omega) (show ix (M 5 i0 (ix a2)) < 132 from by omega) hq22) ⟨⟨zt_587, zt_588, zt_589, zt_3, zt_590⟩, rfl, by decide, by decide, by decide +kernel⟩ ⟨rfl, rfl, Nat.le_of_ble_eq_true rfl, Nat.le_of_ble_eq_true rfl⟩ (hs_recv hK hH 1 i0 (show i0 < 11 from by omega) 9 rfl rfl) rfl rfl hl.1 (Nat.le_of_ble_eq_true rfl) ⟨Nat.le_of_ble_eq_true rfl, Nat.le_of_ble_eq_true rfl⟩ dX5_sendAllReady_35) hS (fun H locs hH hS => ?_)
          refine lv_istore (lv' := [(4, .int r24), (3, .ref (YA Y 6 (ix (M 5 i0 (ix a2))))), (0, .ref (YA Y 1 i0)), (1, .int a1), (2, .int a2)]) hx hb dX5_sendAllReady_38 hl (by decide) rfl (fun ls hl => ?_)
          refine lv_iload hx hb dX5_sendAllReady_40 (lv_at hl 0 rfl) ?_
          refine lv_iconst (v := (-1 : Int32)) hx hb dX5_sendAllReady_42 (by decide) ?_
          refine lv_icmp_eq (tgt := 67) hx hb dX5_sendAllReady_43 (by decide) (fun hc31 => ?_) (fun hc31 => ?_)
          · have hf := if_t hf hc31
            exact w_X5_sendAllReady_67 C0 (f_X5_sendAllReady_4 n) ih M23 i0 a1 a2 (show i0 < 11 from by omega) hf _ _ _ hH hS (lv_sub hl [2, 3, 4] rfl)
          · have hf := if_f hf hc31
            refine lv_aload_n hx hb dX5_sendAllReady_46 rfl (lv_at hl 2 rfl) ?_
            refine lv_aload_n hx hb dX5_sendAllReady_47 rfl (lv_at hl 1 rfl) ?_
            refine lv_iload hx hb dX5_sendAllReady_48 (lv_at hl 0 rfl) ?_
            obtain ⟨r26, hq25, hf⟩ := bd_o hf
            refine hs_ci (hs_runV C0 hH hS (n := 2) (As := [.ref (YA Y 6 (ix (M 5 i0 (ix a2)))), .int r24]) (rest := []) (c_X5_hasRoomFor M23 i0 (ix (M 5 i0 (ix a2))) r24 (show i0 < 11 from by omega) (show ix (M 5 i0 (ix a2)) < 132 from by omega) hq25) ⟨⟨zt_385, zt_387, zs_7, zt_3, zt_388⟩, rfl, by decide, by decide, by decide +kernel⟩ ⟨rfl, rfl, Nat.le_of_ble_eq_true rfl, Nat.le_of_ble_eq_true rfl⟩ (hs_recv hK hH 1 i0 (show i0 < 11 from by omega) 9 rfl rfl) rfl rfl hl.1 (Nat.le_of_ble_eq_true rfl) ⟨Nat.le_of_ble_eq_true rfl, Nat.le_of_ble_eq_true rfl⟩ dX5_sendAllReady_50) hS (fun H locs hH hS => ?_)
            refine lv_if_eq (tgt := 67) hx hb dX5_sendAllReady_53 (by decide) (fun hc30 => ?_) (fun hc30 => ?_)
            · have hf := if_t hf hc30
              exact w_X5_sendAllReady_67 C0 (f_X5_sendAllReady_4 n) ih M23 i0 a1 a2 (show i0 < 11 from by omega) hf _ _ _ hH hS (lv_sub hl [2, 3, 4] rfl)
            · have hf := if_f hf hc30
              refine lv_aload_n hx hb dX5_sendAllReady_56 rfl (lv_at hl 2 rfl) ?_
              refine lv_aload_n hx hb dX5_sendAllReady_57 rfl (lv_at hl 1 rfl) ?_
              refine lv_iload hx hb dX5_sendAllReady_58 (lv_at hl 0 rfl) ?_
              obtain ⟨r29, M28, hq27, hf⟩ := bd2_o hf
              refine hs_ci (hs_runV C0 hH hS (n := 2) (As := [.ref (YA Y 6 (ix (M 5 i0 (ix a2)))), .int r24]) (rest := []) (c_X5_sendOver_s M23 i0 r24 (ix (M 5 i0 (ix a2))) (show i0 < 11 from by omega) (show ix (M 5 i0 (ix a2)) < 132 from by omega) hq27) ⟨⟨zt_568, zt_570, zs_12, zt_3, zt_571⟩, rfl, by decide, by decide, by decide +kernel⟩ ⟨rfl, rfl, Nat.le_of_ble_eq_true rfl, Nat.le_of_ble_eq_true rfl⟩ (hs_recv hK hH 1 i0 (show i0 < 11 from by omega) 9 rfl rfl) rfl rfl hl.1 (Nat.le_of_ble_eq_true rfl) ⟨Nat.le_of_ble_eq_true rfl, Nat.le_of_ble_eq_true rfl⟩ dX5_sendAllReady_60) hS (fun H locs hH hS => ?_)
              refine lv_pop hx hb dX5_sendAllReady_63 rfl ?_
              refine lv_iinc (v := a1 + (1 : Int32)) (lv' := [(1, .int (a1 + (1 : Int32))), (4, .int r24), (3, .ref (YA Y 6 (ix (M 5 i0 (ix a2))))), (0, .ref (YA Y 1 i0)), (2, .int a2)]) hx hb dX5_sendAllReady_64 hl (k := 3) rfl rfl (by decide) rfl (fun ls hl => ?_)
              exact w_X5_sendAllReady_67 C0 (f_X5_sendAllReady_4 n) ih M28 i0 (a1 + (1 : Int32)) a2 (show i0 < 11 from by omega) hf _ _ _ hH hS (lv_sub hl [3, 0, 4] rfl)
def f_X5_sendAllReady (M : Mem) (i0 : Nat) : Option (Int32 × Mem) := f_X5_sendAllReady_4 FU M i0 (0 : Int32) (0 : Int32)
set_option maxHeartbeats 4000000 in
set_option maxRecDepth 100000 in
theorem c_X5_sendAllReady {Y : LY} {l : Launch} (M : Mem) (i0 : Nat) (hi0 : i0 < 11) {r : Int32} {MZ : Mem} (hf : f_X5_sendAllReady M i0 = some (r, MZ)) : Met l yX5_sendAllReady (WS yX5_sendAllReady cX5_sendAllReady 5 (Option.some Jvm.ClassFile.FieldType.int)) { frames := 4, cells := 0, slots := 0, locals := 98 } (PcM Y M [.ref (YA Y 1 i0)]) (Qi Y r MZ) 0 0 (AZ Y) := by
  refine met_mk (lv := [(0, .ref (YA Y 1 i0))]) [.ref (YA Y 1 i0)] (by decide) rfl rfl (Nat.le_of_ble_eq_true rfl) (fun p e s m below meth c C0 hH ls hl => ?_)
  have hS : va_S (AZ Y) s.heap s.heap [] := va_S.rf
  obtain ⟨hx, hb, hr, hml, hown, hA, hlocks, hK, hZ⟩ := id C0
  unfold f_X5_sendAllReady at hf
  refine lv_iconst (v := (0 : Int32)) hx hb dX5_sendAllReady_0 (by decide) ?_
  refine lv_istore_n (lv' := [(1, .int (0 : Int32)), (0, .ref (YA Y 1 i0))]) hx hb dX5_sendAllReady_1 rfl hl (by decide) rfl (fun ls hl => ?_)
  refine lv_iconst (v := (0 : Int32)) hx hb dX5_sendAllReady_2 (by decide) ?_
  refine lv_istore_n (lv' := [(2, .int (0 : Int32)), (1, .int (0 : Int32)), (0, .ref (YA Y 1 i0))]) hx hb dX5_sendAllReady_3 rfl hl (by decide) rfl (fun ls hl => ?_)
  exact w_X5_sendAllReady_4 C0 FU M i0 (0 : Int32) (0 : Int32) (show i0 < 11 from by omega) hf _ _ _ hH hS (lv_sub hl [2, 1, 0] rfl)
def f_X5_letHourPass_102 (k22 : Mem → Nat → Int32 → Int32 → Int32 → Option (Int32 × Mem)) (M : Mem) (i0 : Nat) (a1 : Int32) (a2 : Int32) (a3 : Int32) : Option (Int32 × Mem) := k22 M i0 a1 a2 (a3 + (-1 : Int32))
set_option maxHeartbeats 4000000 in
set_option maxRecDepth 100000 in
theorem w_X5_letHourPass_102 {Y : LY} {p : Program} {l : Launch} {e : Env} {s : State} {m : MethodId} {args : Array Value} {below : List Frame} {meth : Method} {c : Code} (C0 : BE Y p s m args meth c cX5_letHourPass 5 (Option.some Jvm.ClassFile.FieldType.int) RX5) {r : Int32} {MZ : Mem} (k22 : Mem → Nat → Int32 → Int32 → Int32 → Option (Int32 × Mem)) (hk22 : ∀ (M : Mem) (i0 : Nat) (a1 : Int32) (a2 : Int32) (a3 : Int32), i0 < 11 → k22 M i0 a1 a2 a3 = some (r, MZ) → ∀ (H : Heap) (locs : List Loc) (ls : Array Slot), HS Y M H → va_S (AZ Y) s.heap H locs → lv_has ls 5 [(0, .ref (YA Y 1 i0)), (1, .int a1), (2, .int a2), (3, .int a3)] → W p l e { frames := 1, cells := 0, slots := 0, locals := 23 } s m args below meth c H locs 0 0 (MQ below (Qi Y r MZ) args s 0 0 (AZ Y)) (F0 m 22 ls [])) : ∀ (M : Mem) (i0 : Nat) (a1 : Int32) (a2 : Int32) (a3 : Int32), i0 < 11 → f_X5_letHourPass_102 k22 M i0 a1 a2 a3 = some (r, MZ) → ∀ (H : Heap) (locs : List Loc) (ls : Array Slot), HS Y M H → va_S (AZ Y) s.heap H locs → lv_has ls 5 [(0, .ref (YA Y 1 i0)), (1, .int a1), (2, .int a2), (3, .int a3)] → W p l e { frames := 1, cells := 0, slots := 0, locals := 23 } s m args below meth c H locs 0 0 (MQ below (Qi Y r MZ) args s 0 0 (AZ Y)) (F0 m 102 ls []) := by
  obtain ⟨hx, hb, hr, hml, hown, hA, hlocks, hK, hZ⟩ := id C0
  intro M i0 a1 a2 a3 hi0 hf H locs ls hH hS hl
  unfold f_X5_letHourPass_102 at hf
  refine lv_iinc (v := a3 + (-1 : Int32)) (lv' := [(3, .int (a3 + (-1 : Int32))), (0, .ref (YA Y 1 i0)), (1, .int a1), (2, .int a2)]) hx hb dX5_letHourPass_102 hl (k := 3) rfl rfl (by decide) rfl (fun ls hl => ?_)
  refine lv_goto (tgt := 22) hx hb dX5_letHourPass_105 (by decide) ?_
  exact hk22 M i0 a1 a2 (a3 + (-1 : Int32)) (show i0 < 11 from by omega) hf _ _ _ hH hS (lv_sub hl [1, 2, 3, 0] rfl)
def f_X5_letHourPass_81 (k22 : Mem → Nat → Int32 → Int32 → Int32 → Option (Int32 × Mem)) (M : Mem) (i0 : Nat) (a1 : Int32) (a2 : Int32) (a3 : Int32) : Option (Int32 × Mem) := f_X5_letHourPass_102 k22 M i0 (a1 + (1 : Int32)) a2 a3
set_option maxHeartbeats 4000000 in
set_option maxRecDepth 100000 in
theorem w_X5_letHourPass_81 {Y : LY} {p : Program} {l : Launch} {e : Env} {s : State} {m : MethodId} {args : Array Value} {below : List Frame} {meth : Method} {c : Code} (C0 : BE Y p s m args meth c cX5_letHourPass 5 (Option.some Jvm.ClassFile.FieldType.int) RX5) {r : Int32} {MZ : Mem} (k22 : Mem → Nat → Int32 → Int32 → Int32 → Option (Int32 × Mem)) (hk22 : ∀ (M : Mem) (i0 : Nat) (a1 : Int32) (a2 : Int32) (a3 : Int32), i0 < 11 → k22 M i0 a1 a2 a3 = some (r, MZ) → ∀ (H : Heap) (locs : List Loc) (ls : Array Slot), HS Y M H → va_S (AZ Y) s.heap H locs → lv_has ls 5 [(0, .ref (YA Y 1 i0)), (1, .int a1), (2, .int a2), (3, .int a3)] → W p l e { frames := 1, cells := 0, slots := 0, locals := 23 } s m args below meth c H locs 0 0 (MQ below (Qi Y r MZ) args s 0 0 (AZ Y)) (F0 m 22 ls [])) : ∀ (M : Mem) (i0 : Nat) (a1 : Int32) (a2 : Int32) (a3 : Int32), i0 < 11 → f_X5_letHourPass_81 k22 M i0 a1 a2 a3 = some (r, MZ) → ∀ (H : Heap) (locs : List Loc) (ls : Array Slot), HS Y M H → va_S (AZ Y) s.heap H locs → lv_has ls 5 [(0, .ref (YA Y 1 i0)), (1, .int a1), (2, .int a2), (3, .int a3)] → W p l e { frames := 1, cells := 0, slots := 0, locals := 23 } s m args below meth c H locs 0 0 (MQ below (Qi Y r MZ) args s 0 0 (AZ Y)) (F0 m 81 ls []) := by
  obtain ⟨hx, hb, hr, hml, hown, hA, hlocks, hK, hZ⟩ := id C0
  intro M i0 a1 a2 a3 hi0 hf H locs ls hH hS hl
  unfold f_X5_letHourPass_81 at hf
  refine lv_iinc (v := a1 + (1 : Int32)) (lv' := [(1, .int (a1 + (1 : Int32))), (0, .ref (YA Y 1 i0)), (2, .int a2), (3, .int a3)]) hx hb dX5_letHourPass_81 hl (k := 1) rfl rfl (by decide) rfl (fun ls hl => ?_)
  refine lv_goto (tgt := 102) hx hb dX5_letHourPass_84 (by decide) ?_
  exact w_X5_letHourPass_102 C0 k22 hk22 M i0 (a1 + (1 : Int32)) a2 a3 (show i0 < 11 from by omega) hf _ _ _ hH hS (lv_sub hl [1, 0, 2, 3] rfl)
def f_X5_letHourPass_60 (k22 : Mem → Nat → Int32 → Int32 → Int32 → Option (Int32 × Mem)) (M : Mem) (i0 : Nat) (a1 : Int32) (a2 : Int32) (a3 : Int32) (i4 : Nat) : Option (Int32 × Mem) := bd (f_X3_isUnderWay M i4) fun r19 => (if r19 = 0 then (if (M 6 i4 4) = (M 6 i4 3) then bd (f_X5_removeAt M i0 a1) fun M21 => nm (mu M21 1 i0 6 ((M21 1 i0 6) + (1 : Int32))) fun M23 => f_X5_letHourPass_102 k22 M23 i0 a1 a2 a3 else f_X5_letHourPass_81 k22 M i0 a1 a2 a3) else f_X5_letHourPass_81 k22 M i0 a1 a2 a3)
set_option maxHeartbeats 4000000 in
set_option maxRecDepth 100000 in
theorem w_X5_letHourPass_60 {Y : LY} {p : Program} {l : Launch} {e : Env} {s : State} {m : MethodId} {args : Array Value} {below : List Frame} {meth : Method} {c : Code} (C0 : BE Y p s m args meth c cX5_letHourPass 5 (Option.some Jvm.ClassFile.FieldType.int) RX5) {r : Int32} {MZ : Mem} (k22 : Mem → Nat → Int32 → Int32 → Int32 → Option (Int32 × Mem)) (hk22 : ∀ (M : Mem) (i0 : Nat) (a1 : Int32) (a2 : Int32) (a3 : Int32), i0 < 11 → k22 M i0 a1 a2 a3 = some (r, MZ) → ∀ (H : Heap) (locs : List Loc) (ls : Array Slot), HS Y M H → va_S (AZ Y) s.heap H locs → lv_has ls 5 [(0, .ref (YA Y 1 i0)), (1, .int a1), (2, .int a2), (3, .int a3)] → W p l e { frames := 1, cells := 0, slots := 0, locals := 23 } s m args below meth c H locs 0 0 (MQ below (Qi Y r MZ) args s 0 0 (AZ Y)) (F0 m 22 ls [])) : ∀ (M : Mem) (i0 : Nat) (a1 : Int32) (a2 : Int32) (a3 : Int32) (i4 : Nat), i0 < 11 → i4 < 132 → f_X5_letHourPass_60 k22 M i0 a1 a2 a3 i4 = some (r, MZ) → ∀ (H : Heap) (locs : List Loc) (ls : Array Slot), HS Y M H → va_S (AZ Y) s.heap H locs → lv_has ls 5 [(0, .ref (YA Y 1 i0)), (1, .int a1), (2, .int a2), (3, .int a3), (4, .ref (YA Y 6 i4))] → W p l e { frames := 1, cells := 0, slots := 0, locals := 23 } s m args below meth c H locs 0 0 (MQ below (Qi Y r MZ) args s 0 0 (AZ Y)) (F0 m 60 ls []) := by
  obtain ⟨hx, hb, hr, hml, hown, hA, hlocks, hK, hZ⟩ := id C0
  intro M i0 a1 a2 a3 i4 hi0 hi4 hf H locs ls hH hS hl
  unfold f_X5_letHourPass_60 at hf
  refine lv_aload hx hb dX5_letHourPass_60 (lv_at hl 4 rfl) ?_
  obtain ⟨r19, hq18, hf⟩ := bd_o hf
  refine hs_ci (hs_runV C0 hH hS (n := 0) (As := []) (rest := []) (c_X3_isUnderWay M i4 (show i4 < 132 from by omega) hq18) ⟨⟨zt_373, zt_374, zt_375, zt_6, zt_376⟩, rfl, by decide, by decide, by decide +kernel⟩ ⟨rfl, rfl, Nat.le_of_ble_eq_true rfl, Nat.le_of_ble_eq_true rfl⟩ (hs_recv hK hH 6 i4 (show i4 < 132 from by omega) 7 rfl rfl) rfl rfl hl.1 (Nat.le_of_ble_eq_true rfl) ⟨Nat.le_of_ble_eq_true rfl, Nat.le_of_ble_eq_true rfl⟩ dX5_letHourPass_62) hS (fun H locs hH hS => ?_)
  refine lv_if_ne (tgt := 81) hx hb dX5_letHourPass_65 (by decide) (fun hc25 => ?_) (fun hc25 => ?_)
  · have hf := if_f hf hc25
    exact w_X5_letHourPass_81 C0 k22 hk22 M i0 a1 a2 a3 (show i0 < 11 from by omega) hf _ _ _ hH hS (lv_sub hl [0, 1, 2, 3] rfl)
  · have hf := if_t hf hc25
    refine lv_aload hx hb dX5_letHourPass_68 (lv_at hl 4 rfl) ?_
    refine hs_get hx hb (T := TX3) hA inAX3 hown hK hH 6 i4 (show i4 < 132 from by omega) 7 rfl rfl 4 (by decide) (hA _ zt_149) rfl rfl dX5_letHourPass_70 ?_
    refine lv_aload hx hb dX5_letHourPass_73 (lv_at hl 4 rfl) ?_
    refine hs_get hx hb (T := TX3) hA inAX3 hown hK hH 6 i4 (show i4 < 132 from by omega) 7 rfl rfl 3 (by decide) (hA _ zt_146) rfl rfl dX5_letHourPass_75 ?_
    refine lv_icmp_eq (tgt := 87) hx hb dX5_letHourPass_78 (by decide) (fun hc24 => ?_) (fun hc24 => ?_)
    · have hf := if_t hf hc24
      refine lv_aload_n hx hb dX5_letHourPass_87 rfl (lv_at hl 0 rfl) ?_
      refine lv_iload_n hx hb dX5_letHourPass_88 rfl (lv_at hl 1 rfl) ?_
      obtain ⟨M21, hq20, hf⟩ := bd_o hf
      refine hs_cv (hs_runV C0 hH hS (n := 1) (As := [.int a1]) (rest := []) (c_X5_removeAt M i0 a1 (show i0 < 11 from by omega) hq20) ⟨⟨zt_579, zt_581, zs_14, zt_3, zt_582⟩, rfl, by decide, by decide, by decide +kernel⟩ ⟨rfl, rfl, Nat.le_of_ble_eq_true rfl, Nat.le_of_ble_eq_true rfl⟩ (hs_recv hK hH 1 i0 (show i0 < 11 from by omega) 9 rfl rfl) rfl rfl hl.1 (Nat.le_of_ble_eq_true rfl) ⟨Nat.le_of_ble_eq_true rfl, Nat.le_of_ble_eq_true rfl⟩ dX5_letHourPass_89) hS (fun H locs hH hS => ?_)
      refine lv_aload_n hx hb dX5_letHourPass_92 rfl (lv_at hl 0 rfl) ?_
      refine lv_dup hx hb dX5_letHourPass_93 rfl ?_
      refine hs_get hx hb (T := TX5) hA inAX5 hown hK hH 1 i0 (show i0 < 11 from by omega) 9 rfl rfl 6 (by decide) (hA _ zt_183) rfl rfl dX5_letHourPass_94 ?_
      refine lv_iconst (v := (1 : Int32)) hx hb dX5_letHourPass_97 (by decide) ?_
      refine lv_iadd hx hb dX5_letHourPass_98 ?_
      refine hs_put hx hb (T := TX5) hA inAX5 tyX5 tyX5_ok nmX5 hown hK hH hS 1 i0 (show i0 < 11 from by omega) 9 rfl rfl 6 (by decide) (hA _ zt_183) rfl rfl (by decide +kernel) (Nat.le_of_ble_eq_true rfl) rfl dX5_letHourPass_99 (fun H locs hH hS => ?_)
      obtain ⟨M23, eM23, hf⟩ := nm_o hf
      rw [← eM23] at hH
      exact w_X5_letHourPass_102 C0 k22 hk22 M23 i0 a1 a2 a3 (show i0 < 11 from by omega) hf _ _ _ hH hS (lv_sub hl [0, 1, 2, 3] rfl)
    · have hf := if_f hf hc24
      exact w_X5_letHourPass_81 C0 k22 hk22 M i0 a1 a2 a3 (show i0 < 11 from by omega) hf _ _ _ hH hS (lv_sub hl [0, 1, 2, 3] rfl)
def f_X5_letHourPass_22 : Nat → Mem → Nat → Int32 → Int32 → Int32 → Option (Int32 × Mem)
  | 0, _, _, _, _, _ => none
  | n + 1, M, i0, a1, a2, a3 => (if a3 ≤ 0 then some (((M 1 i0 6) - a2), M) else if vin a1 12 then (if ix (M 5 i0 (ix a1)) < 132 then (bd (f_X3_isUnderWay M (ix (M 5 i0 (ix a1)))) fun r29 => (if r29 = 0 then f_X5_letHourPass_60 (f_X5_letHourPass_22 n) M i0 a1 a2 a3 (ix (M 5 i0 (ix a1))) else (if (M 6 (ix (M 5 i0 (ix a1))) 6) = (M 1 i0 4) then nm (mu M 6 (ix (M 5 i0 (ix a1))) 5 (-1 : Int32)) fun M30 => f_X5_letHourPass_60 (f_X5_letHourPass_22 n) M30 i0 a1 a2 a3 (ix (M 5 i0 (ix a1))) else f_X5_letHourPass_60 (f_X5_letHourPass_22 n) M i0 a1 a2 a3 (ix (M 5 i0 (ix a1)))))) else none) else none)
set_option maxHeartbeats 4000000 in
set_option maxRecDepth 100000 in
theorem w_X5_letHourPass_22 {Y : LY} {p : Program} {l : Launch} {e : Env} {s : State} {m : MethodId} {args : Array Value} {below : List Frame} {meth : Method} {c : Code} (C0 : BE Y p s m args meth c cX5_letHourPass 5 (Option.some Jvm.ClassFile.FieldType.int) RX5) {r : Int32} {MZ : Mem} : ∀ (n : Nat) (M : Mem) (i0 : Nat) (a1 : Int32) (a2 : Int32) (a3 : Int32), i0 < 11 → f_X5_letHourPass_22 n M i0 a1 a2 a3 = some (r, MZ) → ∀ (H : Heap) (locs : List Loc) (ls : Array Slot), HS Y M H → va_S (AZ Y) s.heap H locs → lv_has ls 5 [(0, .ref (YA Y 1 i0)), (1, .int a1), (2, .int a2), (3, .int a3)] → W p l e { frames := 1, cells := 0, slots := 0, locals := 23 } s m args below meth c H locs 0 0 (MQ below (Qi Y r MZ) args s 0 0 (AZ Y)) (F0 m 22 ls []) := by
  obtain ⟨hx, hb, hr, hml, hown, hA, hlocks, hK, hZ⟩ := id C0
  intro n
  induction n with
  | zero =>
    intro M i0 a1 a2 a3 hi0 hf
    cases hf
  | succ n ih =>
    intro M i0 a1 a2 a3 hi0 hf H locs ls hH hS hl
    rw [f_X5_letHourPass_22] at hf
    refine lv_iload_n hx hb dX5_letHourPass_22 rfl (lv_at hl 3 rfl) ?_
    refine lv_if_le (tgt := 108) hx hb dX5_letHourPass_23 (by decide) (fun hc33 => ?_) (fun hc33 => ?_)
    · have hf := if_t hf hc33
      refine lv_aload_n hx hb dX5_letHourPass_108 rfl (lv_at hl 0 rfl) ?_
      refine hs_get hx hb (T := TX5) hA inAX5 hown hK hH 1 i0 (show i0 < 11 from by omega) 9 rfl rfl 6 (by decide) (hA _ zt_183) rfl rfl dX5_letHourPass_109 ?_
      refine lv_iload_n hx hb dX5_letHourPass_112 rfl (lv_at hl 2 rfl) ?_
      refine lv_isub hx hb dX5_letHourPass_113 ?_
      cases hf
      exact hs_iret C0 hH hS (by decide) (by decide) dX5_letHourPass_114
    · have hf := if_f hf hc33
      refine lv_aload_n hx hb dX5_letHourPass_26 rfl (lv_at hl 0 rfl) ?_
      refine hs_get hx hb (T := TX5) hA inAX5 hown hK hH 1 i0 (show i0 < 11 from by omega) 9 rfl rfl 2 (by decide) (hA _ zt_175) rfl rfl dX5_letHourPass_27 ?_
      refine lv_iload_n hx hb dX5_letHourPass_30 rfl (lv_at hl 1 rfl) ?_
      obtain ⟨hg26, hf⟩ := gd_o hf
      have bhg26 := vin_lt hg26
      obtain ⟨hg27, hf⟩ := gd_o hf
      refine hs_aald hx hb hK hH 5 i0 (show i0 < 11 from by omega) 4 rfl rfl hg26 (q := YA Y 6 (ix (M 5 i0 (ix a1)))) rfl dX5_letHourPass_31 ?_
      refine lv_astore (lv' := [(4, .ref (YA Y 6 (ix (M 5 i0 (ix a1))))), (0, .ref (YA Y 1 i0)), (1, .int a1), (2, .int a2), (3, .int a3)]) hx hb dX5_letHourPass_32 hl (by decide) rfl (fun ls hl => ?_)
      refine lv_aload hx hb dX5_letHourPass_34 (lv_at hl 0 rfl) ?_
      obtain ⟨r29, hq28, hf⟩ := bd_o hf
      refine hs_ci (hs_runV C0 hH hS (n := 0) (As := []) (rest := []) (c_X3_isUnderWay M (ix (M 5 i0 (ix a1))) (show ix (M 5 i0 (ix a1)) < 132 from by omega) hq28) ⟨⟨zt_373, zt_374, zt_375, zt_6, zt_376⟩, rfl, by decide, by decide, by decide +kernel⟩ ⟨rfl, rfl, Nat.le_of_ble_eq_true rfl, Nat.le_of_ble_eq_true rfl⟩ (hs_recv hK hH 6 (ix (M 5 i0 (ix a1))) (show ix (M 5 i0 (ix a1)) < 132 from by omega) 7 rfl rfl) rfl rfl hl.1 (Nat.le_of_ble_eq_true rfl) ⟨Nat.le_of_ble_eq_true rfl, Nat.le_of_ble_eq_true rfl⟩ dX5_letHourPass_36) hS (fun H locs hH hS => ?_)
      refine lv_if_eq (tgt := 60) hx hb dX5_letHourPass_39 (by decide) (fun hc32 => ?_) (fun hc32 => ?_)
      · have hf := if_t hf hc32
        exact w_X5_letHourPass_60 C0 (f_X5_letHourPass_22 n) ih M i0 a1 a2 a3 (ix (M 5 i0 (ix a1))) (show i0 < 11 from by omega) (show ix (M 5 i0 (ix a1)) < 132 from by omega) hf _ _ _ hH hS (lv_sub hl [1, 2, 3, 4, 0] rfl)
      · have hf := if_f hf hc32
        refine lv_aload hx hb dX5_letHourPass_42 (lv_at hl 0 rfl) ?_
        refine hs_get hx hb (T := TX3) hA inAX3 hown hK hH 6 (ix (M 5 i0 (ix a1))) (show ix (M 5 i0 (ix a1)) < 132 from by omega) 7 rfl rfl 6 (by decide) (hA _ zt_155) rfl rfl dX5_letHourPass_44 ?_
        refine lv_aload_n hx hb dX5_letHourPass_47 rfl (lv_at hl 1 rfl) ?_
        refine hs_get hx hb (T := TX5) hA inAX5 hown hK hH 1 i0 (show i0 < 11 from by omega) 9 rfl rfl 4 (by decide) (hA _ zt_179) rfl rfl dX5_letHourPass_48 ?_
        refine lv_icmp_ne (tgt := 60) hx hb dX5_letHourPass_51 (by decide) (fun hc31 => ?_) (fun hc31 => ?_)
        · have hf := if_f hf hc31
          exact w_X5_letHourPass_60 C0 (f_X5_letHourPass_22 n) ih M i0 a1 a2 a3 (ix (M 5 i0 (ix a1))) (show i0 < 11 from by omega) (show ix (M 5 i0 (ix a1)) < 132 from by omega) hf _ _ _ hH hS (lv_sub hl [1, 2, 3, 4, 0] rfl)
        · have hf := if_t hf hc31
          refine lv_aload hx hb dX5_letHourPass_54 (lv_at hl 0 rfl) ?_
          refine lv_iconst (v := (-1 : Int32)) hx hb dX5_letHourPass_56 (by decide) ?_
          refine hs_put hx hb (T := TX3) hA inAX3 tyX3 tyX3_ok nmX3 hown hK hH hS 6 (ix (M 5 i0 (ix a1))) (show ix (M 5 i0 (ix a1)) < 132 from by omega) 7 rfl rfl 5 (by decide) (hA _ zt_152) rfl rfl (by decide +kernel) (Nat.le_of_ble_eq_true rfl) rfl dX5_letHourPass_57 (fun H locs hH hS => ?_)
          obtain ⟨M30, eM30, hf⟩ := nm_o hf
          rw [← eM30] at hH
          exact w_X5_letHourPass_60 C0 (f_X5_letHourPass_22 n) ih M30 i0 a1 a2 a3 (ix (M 5 i0 (ix a1))) (show i0 < 11 from by omega) (show ix (M 5 i0 (ix a1)) < 132 from by omega) hf _ _ _ hH hS (lv_sub hl [1, 2, 3, 4, 0] rfl)
def f_X5_letHourPass (M : Mem) (i0 : Nat) : Option (Int32 × Mem) := nm (mu M 1 i0 4 ((M 1 i0 4) + (1 : Int32))) fun M34 => f_X5_letHourPass_22 FU M34 i0 (0 : Int32) (M34 1 i0 6) (M34 1 i0 3)
set_option maxHeartbeats 4000000 in
set_option maxRecDepth 100000 in
theorem c_X5_letHourPass {Y : LY} {l : Launch} (M : Mem) (i0 : Nat) (hi0 : i0 < 11) {r : Int32} {MZ : Mem} (hf : f_X5_letHourPass M i0 = some (r, MZ)) : Met l yX5_letHourPass (WS yX5_letHourPass cX5_letHourPass 5 (Option.some Jvm.ClassFile.FieldType.int)) { frames := 1, cells := 0, slots := 0, locals := 23 } (PcM Y M [.ref (YA Y 1 i0)]) (Qi Y r MZ) 0 0 (AZ Y) := by
  refine met_mk (lv := [(0, .ref (YA Y 1 i0))]) [.ref (YA Y 1 i0)] (by decide) rfl rfl (Nat.le_of_ble_eq_true rfl) (fun p e s m below meth c C0 hH ls hl => ?_)
  have hS : va_S (AZ Y) s.heap s.heap [] := va_S.rf
  obtain ⟨hx, hb, hr, hml, hown, hA, hlocks, hK, hZ⟩ := id C0
  unfold f_X5_letHourPass at hf
  refine lv_aload_n hx hb dX5_letHourPass_0 rfl (lv_at hl 0 rfl) ?_
  refine lv_dup hx hb dX5_letHourPass_1 rfl ?_
  refine hs_get hx hb (T := TX5) hA inAX5 hown hK hH 1 i0 (show i0 < 11 from by omega) 9 rfl rfl 4 (by decide) (hA _ zt_179) rfl rfl dX5_letHourPass_2 ?_
  refine lv_iconst (v := (1 : Int32)) hx hb dX5_letHourPass_5 (by decide) ?_
  refine lv_iadd hx hb dX5_letHourPass_6 ?_
  refine hs_put hx hb (T := TX5) hA inAX5 tyX5 tyX5_ok nmX5 hown hK hH hS 1 i0 (show i0 < 11 from by omega) 9 rfl rfl 4 (by decide) (hA _ zt_179) rfl rfl (by decide +kernel) (Nat.le_of_ble_eq_true rfl) rfl dX5_letHourPass_7 (fun H locs hH hS => ?_)
  obtain ⟨M34, eM34, hf⟩ := nm_o hf
  rw [← eM34] at hH
  refine lv_iconst (v := (0 : Int32)) hx hb dX5_letHourPass_10 (by decide) ?_
  refine lv_istore_n (lv' := [(1, .int (0 : Int32)), (0, .ref (YA Y 1 i0))]) hx hb dX5_letHourPass_11 rfl hl (by decide) rfl (fun ls hl => ?_)
  refine lv_aload_n hx hb dX5_letHourPass_12 rfl (lv_at hl 1 rfl) ?_
  refine hs_get hx hb (T := TX5) hA inAX5 hown hK hH 1 i0 (show i0 < 11 from by omega) 9 rfl rfl 6 (by decide) (hA _ zt_183) rfl rfl dX5_letHourPass_13 ?_
  refine lv_istore_n (lv' := [(2, .int (M34 1 i0 6)), (1, .int (0 : Int32)), (0, .ref (YA Y 1 i0))]) hx hb dX5_letHourPass_16 rfl hl (by decide) rfl (fun ls hl => ?_)
  refine lv_aload_n hx hb dX5_letHourPass_17 rfl (lv_at hl 2 rfl) ?_
  refine hs_get hx hb (T := TX5) hA inAX5 hown hK hH 1 i0 (show i0 < 11 from by omega) 9 rfl rfl 3 (by decide) (hA _ zt_177) rfl rfl dX5_letHourPass_18 ?_
  refine lv_istore_n (lv' := [(3, .int (M34 1 i0 3)), (2, .int (M34 1 i0 6)), (1, .int (0 : Int32)), (0, .ref (YA Y 1 i0))]) hx hb dX5_letHourPass_21 rfl hl (by decide) rfl (fun ls hl => ?_)
  exact w_X5_letHourPass_22 C0 FU M34 i0 (0 : Int32) (M34 1 i0 6) (M34 1 i0 3) (show i0 < 11 from by omega) hf _ _ _ hH hS (lv_sub hl [3, 2, 1, 0] rfl)
def f_X5_letHoursPass_4 : Nat → Mem → Nat → Int32 → Int32 → Int32 → Option (Int32 × Mem)
  | 0, _, _, _, _, _ => none
  | n + 1, M, i0, a1, a2, a3 => (if a1 ≤ a3 then some (a2, M) else bd2 (f_X5_letHourPass M i0) fun r7 M6 => f_X5_letHoursPass_4 n M6 i0 a1 (a2 + r7) (a3 + (1 : Int32)))
set_option maxHeartbeats 4000000 in
set_option maxRecDepth 100000 in
theorem w_X5_letHoursPass_4 {Y : LY} {p : Program} {l : Launch} {e : Env} {s : State} {m : MethodId} {args : Array Value} {below : List Frame} {meth : Method} {c : Code} (C0 : BE Y p s m args meth c cX5_letHoursPass 4 (Option.some Jvm.ClassFile.FieldType.int) RX5) {r : Int32} {MZ : Mem} : ∀ (n : Nat) (M : Mem) (i0 : Nat) (a1 : Int32) (a2 : Int32) (a3 : Int32), i0 < 11 → f_X5_letHoursPass_4 n M i0 a1 a2 a3 = some (r, MZ) → ∀ (H : Heap) (locs : List Loc) (ls : Array Slot), HS Y M H → va_S (AZ Y) s.heap H locs → lv_has ls 4 [(0, .ref (YA Y 1 i0)), (1, .int a1), (2, .int a2), (3, .int a3)] → W p l e { frames := 2, cells := 0, slots := 0, locals := 47 } s m args below meth c H locs 0 0 (MQ below (Qi Y r MZ) args s 0 0 (AZ Y)) (F0 m 4 ls []) := by
  obtain ⟨hx, hb, hr, hml, hown, hA, hlocks, hK, hZ⟩ := id C0
  intro n
  induction n with
  | zero =>
    intro M i0 a1 a2 a3 hi0 hf
    cases hf
  | succ n ih =>
    intro M i0 a1 a2 a3 hi0 hf H locs ls hH hS hl
    rw [f_X5_letHoursPass_4] at hf
    refine lv_iload_n hx hb dX5_letHoursPass_4 rfl (lv_at hl 3 rfl) ?_
    refine lv_iload_n hx hb dX5_letHoursPass_5 rfl (lv_at hl 1 rfl) ?_
    refine lv_icmp_ge (tgt := 22) hx hb dX5_letHoursPass_6 (by decide) (fun hc8 => ?_) (fun hc8 => ?_)
    · have hf := if_t hf hc8
      refine lv_iload_n hx hb dX5_letHoursPass_22 rfl (lv_at hl 2 rfl) ?_
      cases hf
      exact hs_iret C0 hH hS (by decide) (by decide) dX5_letHoursPass_23
    · have hf := if_f hf hc8
      refine lv_iload_n hx hb dX5_letHoursPass_9 rfl (lv_at hl 2 rfl) ?_
      refine lv_aload_n hx hb dX5_letHoursPass_10 rfl (lv_at hl 0 rfl) ?_
      obtain ⟨r7, M6, hq5, hf⟩ := bd2_o hf
      refine hs_ci (hs_runV C0 hH hS (n := 0) (As := []) (rest := [.int a2]) (c_X5_letHourPass M i0 (show i0 < 11 from by omega) hq5) ⟨⟨zt_620, zt_621, zt_622, zt_3, zt_623⟩, rfl, by decide, by decide, by decide +kernel⟩ ⟨rfl, rfl, Nat.le_of_ble_eq_true rfl, Nat.le_of_ble_eq_true rfl⟩ (hs_recv hK hH 1 i0 (show i0 < 11 from by omega) 9 rfl rfl) rfl rfl hl.1 (Nat.le_of_ble_eq_true rfl) ⟨Nat.le_of_ble_eq_true rfl, Nat.le_of_ble_eq_true rfl⟩ dX5_letHoursPass_11) hS (fun H locs hH hS => ?_)
      refine lv_iadd hx hb dX5_letHoursPass_14 ?_
      refine lv_istore_n (lv' := [(2, .int (a2 + r7)), (0, .ref (YA Y 1 i0)), (1, .int a1), (3, .int a3)]) hx hb dX5_letHoursPass_15 rfl hl (by decide) rfl (fun ls hl => ?_)
      refine lv_iinc (v := a3 + (1 : Int32)) (lv' := [(3, .int (a3 + (1 : Int32))), (2, .int (a2 + r7)), (0, .ref (YA Y 1 i0)), (1, .int a1)]) hx hb dX5_letHoursPass_16 hl (k := 3) rfl rfl (by decide) rfl (fun ls hl => ?_)
      refine lv_goto (tgt := 4) hx hb dX5_letHoursPass_19 (by decide) ?_
      exact ih M6 i0 a1 (a2 + r7) (a3 + (1 : Int32)) (show i0 < 11 from by omega) hf _ _ _ hH hS (lv_sub hl [2, 3, 1, 0] rfl)
def f_X5_letHoursPass (M : Mem) (i0 : Nat) (a1 : Int32) : Option (Int32 × Mem) := f_X5_letHoursPass_4 FU M i0 a1 (0 : Int32) (0 : Int32)
set_option maxHeartbeats 4000000 in
set_option maxRecDepth 100000 in
theorem c_X5_letHoursPass {Y : LY} {l : Launch} (M : Mem) (i0 : Nat) (a1 : Int32) (hi0 : i0 < 11) {r : Int32} {MZ : Mem} (hf : f_X5_letHoursPass M i0 a1 = some (r, MZ)) : Met l yX5_letHoursPass (WS yX5_letHoursPass cX5_letHoursPass 4 (Option.some Jvm.ClassFile.FieldType.int)) { frames := 2, cells := 0, slots := 0, locals := 47 } (PcM Y M [.ref (YA Y 1 i0), .int a1]) (Qi Y r MZ) 0 0 (AZ Y) := by
  refine met_mk (lv := [(0, .ref (YA Y 1 i0)), (1, .int a1)]) [.ref (YA Y 1 i0), .int a1] (by decide) rfl rfl (Nat.le_of_ble_eq_true rfl) (fun p e s m below meth c C0 hH ls hl => ?_)
  have hS : va_S (AZ Y) s.heap s.heap [] := va_S.rf
  obtain ⟨hx, hb, hr, hml, hown, hA, hlocks, hK, hZ⟩ := id C0
  unfold f_X5_letHoursPass at hf
  refine lv_iconst (v := (0 : Int32)) hx hb dX5_letHoursPass_0 (by decide) ?_
  refine lv_istore_n (lv' := [(2, .int (0 : Int32)), (0, .ref (YA Y 1 i0)), (1, .int a1)]) hx hb dX5_letHoursPass_1 rfl hl (by decide) rfl (fun ls hl => ?_)
  refine lv_iconst (v := (0 : Int32)) hx hb dX5_letHoursPass_2 (by decide) ?_
  refine lv_istore_n (lv' := [(3, .int (0 : Int32)), (2, .int (0 : Int32)), (0, .ref (YA Y 1 i0)), (1, .int a1)]) hx hb dX5_letHoursPass_3 rfl hl (by decide) rfl (fun ls hl => ?_)
  exact w_X5_letHoursPass_4 C0 FU M i0 a1 (0 : Int32) (0 : Int32) (show i0 < 11 from by omega) hf _ _ _ hH hS (lv_sub hl [2, 3, 1, 0] rfl)
def f_X5_carryOut (M : Mem) (i0 : Nat) (a1 : Int32) (a2 : Int32) (a3 : Int32) (a4 : Int32) (a5 : Int32) : Option (Int32 × Mem) := (if a1 = (0 : Int32) then bd2 (f_X2_putPlace M i0) fun r58 M57 => some (r58, M57) else (if a1 = (1 : Int32) then bd2 (f_X2_putLink M i0 a2 a3 a4 a5) fun r62 M61 => some (r62, M61) else (if a1 = (2 : Int32) then bd2 (f_X2_setBlocked M i0 a2 (1 : Int32)) fun r66 M65 => some (r66, M65) else (if a1 = (3 : Int32) then bd2 (f_X2_setBlocked M i0 a2 (0 : Int32)) fun r70 M69 => some (r70, M69) else (if a1 = (4 : Int32) then bd2 (f_X5_putParcel M i0 a2 a3 a4 a5) fun r74 M73 => some (r74, M73) else (if a1 = (5 : Int32) then bd (f_X5_find M i0 a2) fun r77 => on r77 (bd2 (f_X5_sendOver M i0 none a3) fun r81 M80 => some (r81, M80)) fun q78 => if q78 < 132 then (bd2 (f_X5_sendOver M i0 (some q78) a3) fun r84 M83 => some (r84, M83)) else none else (if a1 = (6 : Int32) then bd (f_X5_find M i0 a2) fun r87 => on r87 (bd2 (f_X5_putStamps M none a3) fun r91 M90 => some (r91, M90)) fun q88 => if q88 < 132 then (bd2 (f_X5_putStamps M (some q88) a3) fun r94 M93 => some (r94, M93)) else none else (if a1 = (7 : Int32) then bd2 (f_X5_giveBack M i0 a2) fun r98 M97 => some (r98, M97) else (if a1 = (8 : Int32) then bd2 (f_X5_sendAllReady M i0) fun r102 M101 => some (r102, M101) else (if a1 = (9 : Int32) then bd2 (f_X5_letHoursPass M i0 a2) fun r106 M105 => some (r106, M105) else bd2 (f_X5_letHourPass M i0) fun r110 M109 => some (r110, M109)))))))))))
set_option maxHeartbeats 4000000 in
set_option maxRecDepth 100000 in
theorem c_X5_carryOut {Y : LY} {l : Launch} (M : Mem) (i0 : Nat) (a1 : Int32) (a2 : Int32) (a3 : Int32) (a4 : Int32) (a5 : Int32) (hi0 : i0 < 11) {r : Int32} {MZ : Mem} (hf : f_X5_carryOut M i0 a1 a2 a3 a4 a5 = some (r, MZ)) : Met l yX5_carryOut (WS yX5_carryOut cX5_carryOut 6 (Option.some Jvm.ClassFile.FieldType.int)) { frames := 5, cells := 0, slots := 0, locals := 122 } (PcM Y M [.ref (YA Y 1 i0), .int a1, .int a2, .int a3, .int a4, .int a5]) (Qi Y r MZ) 0 0 (AZ Y) := by
  refine met_mk (lv := [(0, .ref (YA Y 1 i0)), (1, .int a1), (2, .int a2), (3, .int a3), (4, .int a4), (5, .int a5)]) [.ref (YA Y 1 i0), .int a1, .int a2, .int a3, .int a4, .int a5] (by decide) rfl rfl (Nat.le_of_ble_eq_true rfl) (fun p e s m below meth c C0 hH ls hl => ?_)
  have hS : va_S (AZ Y) s.heap s.heap [] := va_S.rf
  obtain ⟨hx, hb, hr, hml, hown, hA, hlocks, hK, hZ⟩ := id C0
  unfold f_X5_carryOut at hf
  refine lv_iload_n hx hb dX5_carryOut_0 rfl (lv_at hl 1 rfl) ?_
  by_cases hw59 : a1 = (0 : Int32)
  · have hf := if_t hf hw59
    refine lv_tableIn (tgt := 56) (off := 55) hx hb dX5_carryOut_1 (by rw [hw59]; decide) (by rw [hw59]; decide) (by rw [hw59]; rfl) (by decide) ?_
    refine lv_aload_n hx hb dX5_carryOut_56 rfl (lv_at hl 0 rfl) ?_
    refine hs_get hx hb (T := TX5) hA inAX5 hown hK hH 1 i0 (show i0 < 11 from by omega) 9 rfl rfl 1 (by decide) (hA _ zt_173) rfl rfl dX5_carryOut_57 ?_
    obtain ⟨r58, M57, hq56, hf⟩ := bd2_o hf
    refine hs_ci (hs_runV C0 hH hS (n := 0) (As := []) (rest := []) (c_X2_putPlace M i0 (show i0 < 11 from by omega) hq56) ⟨⟨zt_547, zt_548, zt_549, zt_4, zt_550⟩, rfl, by decide, by decide, by decide +kernel⟩ ⟨rfl, rfl, Nat.le_of_ble_eq_true rfl, Nat.le_of_ble_eq_true rfl⟩ (hs_recv hK hH 2 i0 (show i0 < 11 from by omega) 6 rfl rfl) rfl rfl hl.1 (Nat.le_of_ble_eq_true rfl) ⟨Nat.le_of_ble_eq_true rfl, Nat.le_of_ble_eq_true rfl⟩ dX5_carryOut_60) hS (fun H locs hH hS => ?_)
    cases hf
    exact hs_iret C0 hH hS (by decide) (by decide) dX5_carryOut_63
  have hf := if_f hf hw59
  by_cases hw63 : a1 = (1 : Int32)
  · have hf := if_t hf hw63
    refine lv_tableIn (tgt := 64) (off := 63) hx hb dX5_carryOut_1 (by rw [hw63]; decide) (by rw [hw63]; decide) (by rw [hw63]; rfl) (by decide) ?_
    refine lv_aload_n hx hb dX5_carryOut_64 rfl (lv_at hl 0 rfl) ?_
    refine hs_get hx hb (T := TX5) hA inAX5 hown hK hH 1 i0 (show i0 < 11 from by omega) 9 rfl rfl 1 (by decide) (hA _ zt_173) rfl rfl dX5_carryOut_65 ?_
    refine lv_iload_n hx hb dX5_carryOut_68 rfl (lv_at hl 2 rfl) ?_
    refine lv_iload_n hx hb dX5_carryOut_69 rfl (lv_at hl 3 rfl) ?_
    refine lv_iload hx hb dX5_carryOut_70 (lv_at hl 4 rfl) ?_
    refine lv_iload hx hb dX5_carryOut_72 (lv_at hl 5 rfl) ?_
    obtain ⟨r62, M61, hq60, hf⟩ := bd2_o hf
    refine hs_ci (hs_runV C0 hH hS (n := 4) (As := [.int a2, .int a3, .int a4, .int a5]) (rest := []) (c_X2_putLink M i0 a2 a3 a4 a5 (show i0 < 11 from by omega) hq60) ⟨⟨zt_551, zt_552, zt_553, zt_4, zt_554⟩, rfl, by decide, by decide, by decide +kernel⟩ ⟨rfl, rfl, Nat.le_of_ble_eq_true rfl, Nat.le_of_ble_eq_true rfl⟩ (hs_recv hK hH 2 i0 (show i0 < 11 from by omega) 6 rfl rfl) rfl rfl hl.1 (Nat.le_of_ble_eq_true rfl) ⟨Nat.le_of_ble_eq_true rfl, Nat.le_of_ble_eq_true rfl⟩ dX5_carryOut_74) hS (fun H locs hH hS => ?_)
    cases hf
    exact hs_iret C0 hH hS (by decide) (by decide) dX5_carryOut_77
  have hf := if_f hf hw63
  by_cases hw67 : a1 = (2 : Int32)
  · have hf := if_t hf hw67
    refine lv_tableIn (tgt := 78) (off := 77) hx hb dX5_carryOut_1 (by rw [hw67]; decide) (by rw [hw67]; decide) (by rw [hw67]; rfl) (by decide) ?_
    refine lv_aload_n hx hb dX5_carryOut_78 rfl (lv_at hl 0 rfl) ?_
    refine hs_get hx hb (T := TX5) hA inAX5 hown hK hH 1 i0 (show i0 < 11 from by omega) 9 rfl rfl 1 (by decide) (hA _ zt_173) rfl rfl dX5_carryOut_79 ?_
    refine lv_iload_n hx hb dX5_carryOut_82 rfl (lv_at hl 2 rfl) ?_
    refine lv_iconst (v := (1 : Int32)) hx hb dX5_carryOut_83 (by decide) ?_
    obtain ⟨r66, M65, hq64, hf⟩ := bd2_o hf
    refine hs_ci (hs_runV C0 hH hS (n := 2) (As := [.int a2, .int (1 : Int32)]) (rest := []) (c_X2_setBlocked M i0 a2 (1 : Int32) (show i0 < 11 from by omega) hq64) ⟨⟨zt_555, zt_556, zt_557, zt_4, zt_558⟩, rfl, by decide, by decide, by decide +kernel⟩ ⟨rfl, rfl, Nat.le_of_ble_eq_true rfl, Nat.le_of_ble_eq_true rfl⟩ (hs_recv hK hH 2 i0 (show i0 < 11 from by omega) 6 rfl rfl) rfl rfl hl.1 (Nat.le_of_ble_eq_true rfl) ⟨Nat.le_of_ble_eq_true rfl, Nat.le_of_ble_eq_true rfl⟩ dX5_carryOut_84) hS (fun H locs hH hS => ?_)
    cases hf
    exact hs_iret C0 hH hS (by decide) (by decide) dX5_carryOut_87
  have hf := if_f hf hw67
  by_cases hw71 : a1 = (3 : Int32)
  · have hf := if_t hf hw71
    refine lv_tableIn (tgt := 88) (off := 87) hx hb dX5_carryOut_1 (by rw [hw71]; decide) (by rw [hw71]; decide) (by rw [hw71]; rfl) (by decide) ?_
    refine lv_aload_n hx hb dX5_carryOut_88 rfl (lv_at hl 0 rfl) ?_
    refine hs_get hx hb (T := TX5) hA inAX5 hown hK hH 1 i0 (show i0 < 11 from by omega) 9 rfl rfl 1 (by decide) (hA _ zt_173) rfl rfl dX5_carryOut_89 ?_
    refine lv_iload_n hx hb dX5_carryOut_92 rfl (lv_at hl 2 rfl) ?_
    refine lv_iconst (v := (0 : Int32)) hx hb dX5_carryOut_93 (by decide) ?_
    obtain ⟨r70, M69, hq68, hf⟩ := bd2_o hf
    refine hs_ci (hs_runV C0 hH hS (n := 2) (As := [.int a2, .int (0 : Int32)]) (rest := []) (c_X2_setBlocked M i0 a2 (0 : Int32) (show i0 < 11 from by omega) hq68) ⟨⟨zt_555, zt_556, zt_557, zt_4, zt_558⟩, rfl, by decide, by decide, by decide +kernel⟩ ⟨rfl, rfl, Nat.le_of_ble_eq_true rfl, Nat.le_of_ble_eq_true rfl⟩ (hs_recv hK hH 2 i0 (show i0 < 11 from by omega) 6 rfl rfl) rfl rfl hl.1 (Nat.le_of_ble_eq_true rfl) ⟨Nat.le_of_ble_eq_true rfl, Nat.le_of_ble_eq_true rfl⟩ dX5_carryOut_94) hS (fun H locs hH hS => ?_)
    cases hf
    exact hs_iret C0 hH hS (by decide) (by decide) dX5_carryOut_97
  have hf := if_f hf hw71
  by_cases hw75 : a1 = (4 : Int32)
  · have hf := if_t hf hw75
    refine lv_tableIn (tgt := 98) (off := 97) hx hb dX5_carryOut_1 (by rw [hw75]; decide) (by rw [hw75]; decide) (by rw [hw75]; rfl) (by decide) ?_
    refine lv_aload_n hx hb dX5_carryOut_98 rfl (lv_at hl 0 rfl) ?_
    refine lv_iload_n hx hb dX5_carryOut_99 rfl (lv_at hl 2 rfl) ?_
    refine lv_iload_n hx hb dX5_carryOut_100 rfl (lv_at hl 3 rfl) ?_
    refine lv_iload hx hb dX5_carryOut_101 (lv_at hl 4 rfl) ?_
    refine lv_iload hx hb dX5_carryOut_103 (lv_at hl 5 rfl) ?_
    obtain ⟨r74, M73, hq72, hf⟩ := bd2_o hf
    refine hs_ci (hs_runV C0 hH hS (n := 4) (As := [.int a2, .int a3, .int a4, .int a5]) (rest := []) (c_X5_putParcel M i0 a2 a3 a4 a5 (show i0 < 11 from by omega) hq72) ⟨⟨zt_564, zt_566, zs_11, zt_3, zt_567⟩, rfl, by decide, by decide, by decide +kernel⟩ ⟨rfl, rfl, Nat.le_of_ble_eq_true rfl, Nat.le_of_ble_eq_true rfl⟩ (hs_recv hK hH 1 i0 (show i0 < 11 from by omega) 9 rfl rfl) rfl rfl hl.1 (Nat.le_of_ble_eq_true rfl) ⟨Nat.le_of_ble_eq_true rfl, Nat.le_of_ble_eq_true rfl⟩ dX5_carryOut_105) hS (fun H locs hH hS => ?_)
    cases hf
    exact hs_iret C0 hH hS (by decide) (by decide) dX5_carryOut_108
  have hf := if_f hf hw75
  by_cases hw85 : a1 = (5 : Int32)
  · have hf := if_t hf hw85
    refine lv_tableIn (tgt := 109) (off := 108) hx hb dX5_carryOut_1 (by rw [hw85]; decide) (by rw [hw85]; decide) (by rw [hw85]; rfl) (by decide) ?_
    refine lv_aload_n hx hb dX5_carryOut_109 rfl (lv_at hl 0 rfl) ?_
    refine lv_aload_n hx hb dX5_carryOut_110 rfl (lv_at hl 0 rfl) ?_
    refine lv_iload_n hx hb dX5_carryOut_111 rfl (lv_at hl 2 rfl) ?_
    obtain ⟨r77, hq76, hf⟩ := bd_o hf
    refine hs_cq (hs_runV C0 hH hS (n := 1) (As := [.int a2]) (rest := [.ref (YA Y 1 i0)]) (c_X5_find M i0 a2 (show i0 < 11 from by omega) hq76) ⟨⟨zt_365, zt_366, zt_367, zt_3, zt_368⟩, rfl, by decide, by decide, by decide +kernel⟩ ⟨rfl, rfl, Nat.le_of_ble_eq_true rfl, Nat.le_of_ble_eq_true rfl⟩ (hs_recv hK hH 1 i0 (show i0 < 11 from by omega) 9 rfl rfl) rfl rfl hl.1 (Nat.le_of_ble_eq_true rfl) ⟨Nat.le_of_ble_eq_true rfl, Nat.le_of_ble_eq_true rfl⟩ dX5_carryOut_112) hS (fun er77 H locs hH hS => ?_) (fun q78 er77 H locs hH hS => ?_)
    · subst er77
      have hf := on_n hf
      refine lv_iload_n hx hb dX5_carryOut_115 rfl (lv_at hl 3 rfl) ?_
      obtain ⟨r81, M80, hq79, hf⟩ := bd2_o hf
      refine hs_ci (hs_runV C0 hH hS (n := 2) (As := [.null, .int a3]) (rest := []) (c_X5_sendOver_n M i0 a3 (show i0 < 11 from by omega) hq79) ⟨⟨zt_568, zt_570, zs_12, zt_3, zt_571⟩, rfl, by decide, by decide, by decide +kernel⟩ ⟨rfl, rfl, Nat.le_of_ble_eq_true rfl, Nat.le_of_ble_eq_true rfl⟩ (hs_recv hK hH 1 i0 (show i0 < 11 from by omega) 9 rfl rfl) rfl rfl hl.1 (Nat.le_of_ble_eq_true rfl) ⟨Nat.le_of_ble_eq_true rfl, Nat.le_of_ble_eq_true rfl⟩ dX5_carryOut_116) hS (fun H locs hH hS => ?_)
      cases hf
      exact hs_iret C0 hH hS (by decide) (by decide) dX5_carryOut_119
    · subst er77
      obtain ⟨hq78, hf⟩ := gd_o (on_s hf)
      refine lv_iload_n hx hb dX5_carryOut_115 rfl (lv_at hl 3 rfl) ?_
      obtain ⟨r84, M83, hq82, hf⟩ := bd2_o hf
      refine hs_ci (hs_runV C0 hH hS (n := 2) (As := [.ref (YA Y 6 q78), .int a3]) (rest := []) (c_X5_sendOver_s M i0 a3 q78 (show i0 < 11 from by omega) (show q78 < 132 from by omega) hq82) ⟨⟨zt_568, zt_570, zs_12, zt_3, zt_571⟩, rfl, by decide, by decide, by decide +kernel⟩ ⟨rfl, rfl, Nat.le_of_ble_eq_true rfl, Nat.le_of_ble_eq_true rfl⟩ (hs_recv hK hH 1 i0 (show i0 < 11 from by omega) 9 rfl rfl) rfl rfl hl.1 (Nat.le_of_ble_eq_true rfl) ⟨Nat.le_of_ble_eq_true rfl, Nat.le_of_ble_eq_true rfl⟩ dX5_carryOut_116) hS (fun H locs hH hS => ?_)
      cases hf
      exact hs_iret C0 hH hS (by decide) (by decide) dX5_carryOut_119
  have hf := if_f hf hw85
  by_cases hw95 : a1 = (6 : Int32)
  · have hf := if_t hf hw95
    refine lv_tableIn (tgt := 120) (off := 119) hx hb dX5_carryOut_1 (by rw [hw95]; decide) (by rw [hw95]; decide) (by rw [hw95]; rfl) (by decide) ?_
    refine lv_aload_n hx hb dX5_carryOut_120 rfl (lv_at hl 0 rfl) ?_
    refine lv_iload_n hx hb dX5_carryOut_121 rfl (lv_at hl 2 rfl) ?_
    obtain ⟨r87, hq86, hf⟩ := bd_o hf
    refine hs_cq (hs_runV C0 hH hS (n := 1) (As := [.int a2]) (rest := []) (c_X5_find M i0 a2 (show i0 < 11 from by omega) hq86) ⟨⟨zt_365, zt_366, zt_367, zt_3, zt_368⟩, rfl, by decide, by decide, by decide +kernel⟩ ⟨rfl, rfl, Nat.le_of_ble_eq_true rfl, Nat.le_of_ble_eq_true rfl⟩ (hs_recv hK hH 1 i0 (show i0 < 11 from by omega) 9 rfl rfl) rfl rfl hl.1 (Nat.le_of_ble_eq_true rfl) ⟨Nat.le_of_ble_eq_true rfl, Nat.le_of_ble_eq_true rfl⟩ dX5_carryOut_122) hS (fun er87 H locs hH hS => ?_) (fun q88 er87 H locs hH hS => ?_)
    · subst er87
      have hf := on_n hf
      refine lv_iload_n hx hb dX5_carryOut_125 rfl (lv_at hl 3 rfl) ?_
      obtain ⟨r91, M90, hq89, hf⟩ := bd2_o hf
      refine hs_ci (hs_runS C0 hH hS (n := 2) (As := [.null, .int a3]) (rest := []) (c_X5_putStamps_n M a3 hq89) ⟨⟨zt_572, zt_573, zt_3, zt_574⟩, by decide, by decide, by decide +kernel⟩ ⟨rfl, rfl, Nat.le_of_ble_eq_true rfl, Nat.le_of_ble_eq_true rfl⟩ rfl rfl hl.1 (Nat.le_of_ble_eq_true rfl) ⟨Nat.le_of_ble_eq_true rfl, Nat.le_of_ble_eq_true rfl⟩ dX5_carryOut_126) hS (fun H locs hH hS => ?_)
      cases hf
      exact hs_iret C0 hH hS (by decide) (by decide) dX5_carryOut_129
    · subst er87
      obtain ⟨hq88, hf⟩ := gd_o (on_s hf)
      refine lv_iload_n hx hb dX5_carryOut_125 rfl (lv_at hl 3 rfl) ?_
      obtain ⟨r94, M93, hq92, hf⟩ := bd2_o hf
      refine hs_ci (hs_runS C0 hH hS (n := 2) (As := [.ref (YA Y 6 q88), .int a3]) (rest := []) (c_X5_putStamps_s M a3 q88 (show q88 < 132 from by omega) hq92) ⟨⟨zt_572, zt_573, zt_3, zt_574⟩, by decide, by decide, by decide +kernel⟩ ⟨rfl, rfl, Nat.le_of_ble_eq_true rfl, Nat.le_of_ble_eq_true rfl⟩ rfl rfl hl.1 (Nat.le_of_ble_eq_true rfl) ⟨Nat.le_of_ble_eq_true rfl, Nat.le_of_ble_eq_true rfl⟩ dX5_carryOut_126) hS (fun H locs hH hS => ?_)
      cases hf
      exact hs_iret C0 hH hS (by decide) (by decide) dX5_carryOut_129
  have hf := if_f hf hw95
  by_cases hw99 : a1 = (7 : Int32)
  · have hf := if_t hf hw99
    refine lv_tableIn (tgt := 130) (off := 129) hx hb dX5_carryOut_1 (by rw [hw99]; decide) (by rw [hw99]; decide) (by rw [hw99]; rfl) (by decide) ?_
    refine lv_aload_n hx hb dX5_carryOut_130 rfl (lv_at hl 0 rfl) ?_
    refine lv_iload_n hx hb dX5_carryOut_131 rfl (lv_at hl 2 rfl) ?_
    obtain ⟨r98, M97, hq96, hf⟩ := bd2_o hf
    refine hs_ci (hs_runV C0 hH hS (n := 1) (As := [.int a2]) (rest := []) (c_X5_giveBack M i0 a2 (show i0 < 11 from by omega) hq96) ⟨⟨zt_575, zt_577, zs_13, zt_3, zt_578⟩, rfl, by decide, by decide, by decide +kernel⟩ ⟨rfl, rfl, Nat.le_of_ble_eq_true rfl, Nat.le_of_ble_eq_true rfl⟩ (hs_recv hK hH 1 i0 (show i0 < 11 from by omega) 9 rfl rfl) rfl rfl hl.1 (Nat.le_of_ble_eq_true rfl) ⟨Nat.le_of_ble_eq_true rfl, Nat.le_of_ble_eq_true rfl⟩ dX5_carryOut_132) hS (fun H locs hH hS => ?_)
    cases hf
    exact hs_iret C0 hH hS (by decide) (by decide) dX5_carryOut_135
  have hf := if_f hf hw99
  by_cases hw103 : a1 = (8 : Int32)
  · have hf := if_t hf hw103
    refine lv_tableIn (tgt := 136) (off := 135) hx hb dX5_carryOut_1 (by rw [hw103]; decide) (by rw [hw103]; decide) (by rw [hw103]; rfl) (by decide) ?_
    refine lv_aload_n hx hb dX5_carryOut_136 rfl (lv_at hl 0 rfl) ?_
    obtain ⟨r102, M101, hq100, hf⟩ := bd2_o hf
    refine hs_ci (hs_runV C0 hH hS (n := 0) (As := []) (rest := []) (c_X5_sendAllReady M i0 (show i0 < 11 from by omega) hq100) ⟨⟨zt_583, zt_584, zt_585, zt_3, zt_586⟩, rfl, by decide, by decide, by decide +kernel⟩ ⟨rfl, rfl, Nat.le_of_ble_eq_true rfl, Nat.le_of_ble_eq_true rfl⟩ (hs_recv hK hH 1 i0 (show i0 < 11 from by omega) 9 rfl rfl) rfl rfl hl.1 (Nat.le_of_ble_eq_true rfl) ⟨Nat.le_of_ble_eq_true rfl, Nat.le_of_ble_eq_true rfl⟩ dX5_carryOut_137) hS (fun H locs hH hS => ?_)
    cases hf
    exact hs_iret C0 hH hS (by decide) (by decide) dX5_carryOut_140
  have hf := if_f hf hw103
  by_cases hw107 : a1 = (9 : Int32)
  · have hf := if_t hf hw107
    refine lv_tableIn (tgt := 141) (off := 140) hx hb dX5_carryOut_1 (by rw [hw107]; decide) (by rw [hw107]; decide) (by rw [hw107]; rfl) (by decide) ?_
    refine lv_aload_n hx hb dX5_carryOut_141 rfl (lv_at hl 0 rfl) ?_
    refine lv_iload_n hx hb dX5_carryOut_142 rfl (lv_at hl 2 rfl) ?_
    obtain ⟨r106, M105, hq104, hf⟩ := bd2_o hf
    refine hs_ci (hs_runV C0 hH hS (n := 1) (As := [.int a2]) (rest := []) (c_X5_letHoursPass M i0 a2 (show i0 < 11 from by omega) hq104) ⟨⟨zt_616, zt_618, zs_18, zt_3, zt_619⟩, rfl, by decide, by decide, by decide +kernel⟩ ⟨rfl, rfl, Nat.le_of_ble_eq_true rfl, Nat.le_of_ble_eq_true rfl⟩ (hs_recv hK hH 1 i0 (show i0 < 11 from by omega) 9 rfl rfl) rfl rfl hl.1 (Nat.le_of_ble_eq_true rfl) ⟨Nat.le_of_ble_eq_true rfl, Nat.le_of_ble_eq_true rfl⟩ dX5_carryOut_143) hS (fun H locs hH hS => ?_)
    cases hf
    exact hs_iret C0 hH hS (by decide) (by decide) dX5_carryOut_146
  have hf := if_f hf hw107
  have ehw59 := lv_neT hw59 (show ((0 : Int32)).toInt = 0 from by decide)
  have ehw63 := lv_neT hw63 (show ((1 : Int32)).toInt = 1 from by decide)
  have ehw67 := lv_neT hw67 (show ((2 : Int32)).toInt = 2 from by decide)
  have ehw71 := lv_neT hw71 (show ((3 : Int32)).toInt = 3 from by decide)
  have ehw75 := lv_neT hw75 (show ((4 : Int32)).toInt = 4 from by decide)
  have ehw85 := lv_neT hw85 (show ((5 : Int32)).toInt = 5 from by decide)
  have ehw95 := lv_neT hw95 (show ((6 : Int32)).toInt = 6 from by decide)
  have ehw99 := lv_neT hw99 (show ((7 : Int32)).toInt = 7 from by decide)
  have ehw103 := lv_neT hw103 (show ((8 : Int32)).toInt = 8 from by decide)
  have ehw107 := lv_neT hw107 (show ((9 : Int32)).toInt = 9 from by decide)
  refine lv_tableOut (tgt := 147) hx hb dX5_carryOut_1 (by omega) (by decide) ?_
  refine lv_aload_n hx hb dX5_carryOut_147 rfl (lv_at hl 0 rfl) ?_
  obtain ⟨r110, M109, hq108, hf⟩ := bd2_o hf
  refine hs_ci (hs_runV C0 hH hS (n := 0) (As := []) (rest := []) (c_X5_letHourPass M i0 (show i0 < 11 from by omega) hq108) ⟨⟨zt_620, zt_621, zt_622, zt_3, zt_623⟩, rfl, by decide, by decide, by decide +kernel⟩ ⟨rfl, rfl, Nat.le_of_ble_eq_true rfl, Nat.le_of_ble_eq_true rfl⟩ (hs_recv hK hH 1 i0 (show i0 < 11 from by omega) 9 rfl rfl) rfl rfl hl.1 (Nat.le_of_ble_eq_true rfl) ⟨Nat.le_of_ble_eq_true rfl, Nat.le_of_ble_eq_true rfl⟩ dX5_carryOut_148) hS (fun H locs hH hS => ?_)
  cases hf
  exact hs_iret C0 hH hS (by decide) (by decide) dX5_carryOut_151
def f_X4_executeOn_2 : Nat → Mem → Nat → Int32 → Option (Int32 × Mem)
  | 0, _, _, _ => none
  | n + 1, M, i1, a2 => (if (M 13 0 4) ≤ a2 then some ((M 13 0 4), M) else if vin a2 10 then (bd (f_X5_refusalOf M i1 (M 15 0 (ix a2)) (M 17 (ix a2) 0) (M 17 (ix a2) 1) (M 17 (ix a2) 2) (M 17 (ix a2) 3)) fun r11 => (if r11 = 0 then bd2 (f_X5_carryOut M i1 (M 15 0 (ix a2)) (M 17 (ix a2) 0) (M 17 (ix a2) 1) (M 17 (ix a2) 2) (M 17 (ix a2) 3)) fun r14 M13 => f_X4_executeOn_2 n M13 i1 (a2 + (1 : Int32)) else some (a2, M))) else none)
set_option maxHeartbeats 4000000 in
set_option maxRecDepth 100000 in
theorem w_X4_executeOn_2 {Y : LY} {p : Program} {l : Launch} {e : Env} {s : State} {m : MethodId} {args : Array Value} {below : List Frame} {meth : Method} {c : Code} (C0 : BE Y p s m args meth c cX4_executeOn 4 (Option.some Jvm.ClassFile.FieldType.int) RX4) {r : Int32} {MZ : Mem} : ∀ (n : Nat) (M : Mem) (i1 : Nat) (a2 : Int32), i1 < 11 → f_X4_executeOn_2 n M i1 a2 = some (r, MZ) → ∀ (H : Heap) (locs : List Loc) (ls : Array Slot), HS Y M H → va_S (AZ Y) s.heap H locs → lv_has ls 4 [(0, .ref (YA Y 13 0)), (1, .ref (YA Y 1 i1)), (2, .int a2)] → W p l e { frames := 6, cells := 0, slots := 0, locals := 147 } s m args below meth c H locs 0 0 (MQ below (Qi Y r MZ) args s 0 0 (AZ Y)) (F0 m 2 ls []) := by
  obtain ⟨hx, hb, hr, hml, hown, hA, hlocks, hK, hZ⟩ := id C0
  intro n
  induction n with
  | zero =>
    intro M i1 a2 hi1 hf
    cases hf
  | succ n ih =>
    intro M i1 a2 hi1 hf H locs ls hH hS hl
    rw [f_X4_executeOn_2] at hf
    refine lv_iload_n hx hb dX4_executeOn_2 rfl (lv_at hl 2 rfl) ?_
    refine lv_aload_n hx hb dX4_executeOn_3 rfl (lv_at hl 0 rfl) ?_
    refine hs_get hx hb (T := TX4) hA inAX4 hown hK hH 13 0 (by decide) 8 rfl rfl 4 (by decide) (hA _ zt_241) rfl rfl dX4_executeOn_4 ?_
    refine lv_icmp_ge (tgt := 73) hx hb dX4_executeOn_7 (by decide) (fun hc16 => ?_) (fun hc16 => ?_)
    · have hf := if_t hf hc16
      refine lv_aload_n hx hb dX4_executeOn_73 rfl (lv_at hl 0 rfl) ?_
      refine hs_get hx hb (T := TX4) hA inAX4 hown hK hH 13 0 (by decide) 8 rfl rfl 4 (by decide) (hA _ zt_241) rfl rfl dX4_executeOn_74 ?_
      cases hf
      exact hs_iret C0 hH hS (by decide) (by decide) dX4_executeOn_77
    · have hf := if_f hf hc16
      refine lv_aload_n hx hb dX4_executeOn_10 rfl (lv_at hl 0 rfl) ?_
      refine hs_get hx hb (T := TX4) hA inAX4 hown hK hH 13 0 (by decide) 8 rfl rfl 3 (by decide) (hA _ zt_240) rfl rfl dX4_executeOn_11 ?_
      refine lv_iload_n hx hb dX4_executeOn_14 rfl (lv_at hl 2 rfl) ?_
      obtain ⟨hg9, hf⟩ := gd_o hf
      have bhg9 := vin_lt hg9
      refine hs_aald2 hx hb hK hH 16 0 (by decide) rfl hg9 (q := YA Y 17 (ix a2)) rfl dX4_executeOn_15 ?_
      refine lv_astore_n (lv' := [(3, .ref (YA Y 17 (ix a2))), (0, .ref (YA Y 13 0)), (1, .ref (YA Y 1 i1)), (2, .int a2)]) hx hb dX4_executeOn_16 rfl hl (by decide) rfl (fun ls hl => ?_)
      refine lv_aload_n hx hb dX4_executeOn_17 rfl (lv_at hl 2 rfl) ?_
      refine lv_aload_n hx hb dX4_executeOn_18 rfl (lv_at hl 1 rfl) ?_
      refine hs_get hx hb (T := TX4) hA inAX4 hown hK hH 13 0 (by decide) 8 rfl rfl 2 (by decide) (hA _ zt_239) rfl rfl dX4_executeOn_19 ?_
      refine lv_iload_n hx hb dX4_executeOn_22 rfl (lv_at hl 3 rfl) ?_
      refine hs_iald hx hb hK hH 15 0 (by decide) rfl hg9 rfl dX4_executeOn_23 ?_
      refine lv_aload_n hx hb dX4_executeOn_24 rfl (lv_at hl 0 rfl) ?_
      refine lv_iconst (v := (0 : Int32)) hx hb dX4_executeOn_25 (by decide) ?_
      refine hs_iald hx hb hK hH 17 (ix a2) (show ix a2 < 10 from by omega) rfl (show vin (0 : Int32) 4 from by decide) (show ix (0 : Int32) = 0 from by decide) dX4_executeOn_26 ?_
      refine lv_aload_n hx hb dX4_executeOn_27 rfl (lv_at hl 0 rfl) ?_
      refine lv_iconst (v := (1 : Int32)) hx hb dX4_executeOn_28 (by decide) ?_
      refine hs_iald hx hb hK hH 17 (ix a2) (show ix a2 < 10 from by omega) rfl (show vin (1 : Int32) 4 from by decide) (show ix (1 : Int32) = 1 from by decide) dX4_executeOn_29 ?_
      refine lv_aload_n hx hb dX4_executeOn_30 rfl (lv_at hl 0 rfl) ?_
      refine lv_iconst (v := (2 : Int32)) hx hb dX4_executeOn_31 (by decide) ?_
      refine hs_iald hx hb hK hH 17 (ix a2) (show ix a2 < 10 from by omega) rfl (show vin (2 : Int32) 4 from by decide) (show ix (2 : Int32) = 2 from by decide) dX4_executeOn_32 ?_
      refine lv_aload_n hx hb dX4_executeOn_33 rfl (lv_at hl 0 rfl) ?_
      refine lv_iconst (v := (3 : Int32)) hx hb dX4_executeOn_34 (by decide) ?_
      refine hs_iald hx hb hK hH 17 (ix a2) (show ix a2 < 10 from by omega) rfl (show vin (3 : Int32) 4 from by decide) (show ix (3 : Int32) = 3 from by decide) dX4_executeOn_35 ?_
      obtain ⟨r11, hq10, hf⟩ := bd_o hf
      refine hs_ci (hs_runV C0 hH hS (n := 5) (As := [.int (M 15 0 (ix a2)), .int (M 17 (ix a2) 0), .int (M 17 (ix a2) 1), .int (M 17 (ix a2) 2), .int (M 17 (ix a2) 3)]) (rest := []) (c_X5_refusalOf M i1 (M 15 0 (ix a2)) (M 17 (ix a2) 0) (M 17 (ix a2) 1) (M 17 (ix a2) 2) (M 17 (ix a2) 3) (show i1 < 11 from by omega) hq10) ⟨⟨zt_1502, zt_335, zt_336, zt_3, zt_337⟩, rfl, by decide, by decide, by decide +kernel⟩ ⟨rfl, rfl, Nat.le_of_ble_eq_true rfl, Nat.le_of_ble_eq_true rfl⟩ (hs_recv hK hH 1 i1 (show i1 < 11 from by omega) 9 rfl rfl) rfl rfl hl.1 (Nat.le_of_ble_eq_true rfl) ⟨Nat.le_of_ble_eq_true rfl, Nat.le_of_ble_eq_true rfl⟩ dX4_executeOn_36) hS (fun H locs hH hS => ?_)
      refine lv_if_eq (tgt := 44) hx hb dX4_executeOn_39 (by decide) (fun hc15 => ?_) (fun hc15 => ?_)
      · have hf := if_t hf hc15
        refine lv_aload_n hx hb dX4_executeOn_44 rfl (lv_at hl 2 rfl) ?_
        refine lv_aload_n hx hb dX4_executeOn_45 rfl (lv_at hl 1 rfl) ?_
        refine hs_get hx hb (T := TX4) hA inAX4 hown hK hH 13 0 (by decide) 8 rfl rfl 2 (by decide) (hA _ zt_239) rfl rfl dX4_executeOn_46 ?_
        refine lv_iload_n hx hb dX4_executeOn_49 rfl (lv_at hl 3 rfl) ?_
        refine hs_iald hx hb hK hH 15 0 (by decide) rfl hg9 rfl dX4_executeOn_50 ?_
        refine lv_aload_n hx hb dX4_executeOn_51 rfl (lv_at hl 0 rfl) ?_
        refine lv_iconst (v := (0 : Int32)) hx hb dX4_executeOn_52 (by decide) ?_
        refine hs_iald hx hb hK hH 17 (ix a2) (show ix a2 < 10 from by omega) rfl (show vin (0 : Int32) 4 from by decide) (show ix (0 : Int32) = 0 from by decide) dX4_executeOn_53 ?_
        refine lv_aload_n hx hb dX4_executeOn_54 rfl (lv_at hl 0 rfl) ?_
        refine lv_iconst (v := (1 : Int32)) hx hb dX4_executeOn_55 (by decide) ?_
        refine hs_iald hx hb hK hH 17 (ix a2) (show ix a2 < 10 from by omega) rfl (show vin (1 : Int32) 4 from by decide) (show ix (1 : Int32) = 1 from by decide) dX4_executeOn_56 ?_
        refine lv_aload_n hx hb dX4_executeOn_57 rfl (lv_at hl 0 rfl) ?_
        refine lv_iconst (v := (2 : Int32)) hx hb dX4_executeOn_58 (by decide) ?_
        refine hs_iald hx hb hK hH 17 (ix a2) (show ix a2 < 10 from by omega) rfl (show vin (2 : Int32) 4 from by decide) (show ix (2 : Int32) = 2 from by decide) dX4_executeOn_59 ?_
        refine lv_aload_n hx hb dX4_executeOn_60 rfl (lv_at hl 0 rfl) ?_
        refine lv_iconst (v := (3 : Int32)) hx hb dX4_executeOn_61 (by decide) ?_
        refine hs_iald hx hb hK hH 17 (ix a2) (show ix a2 < 10 from by omega) rfl (show vin (3 : Int32) 4 from by decide) (show ix (3 : Int32) = 3 from by decide) dX4_executeOn_62 ?_
        obtain ⟨r14, M13, hq12, hf⟩ := bd2_o hf
        refine hs_ci (hs_runV C0 hH hS (n := 5) (As := [.int (M 15 0 (ix a2)), .int (M 17 (ix a2) 0), .int (M 17 (ix a2) 1), .int (M 17 (ix a2) 2), .int (M 17 (ix a2) 3)]) (rest := []) (c_X5_carryOut M i1 (M 15 0 (ix a2)) (M 17 (ix a2) 0) (M 17 (ix a2) 1) (M 17 (ix a2) 2) (M 17 (ix a2) 3) (show i1 < 11 from by omega) hq12) ⟨⟨zt_1503, zt_544, zt_545, zt_3, zt_546⟩, rfl, by decide, by decide, by decide +kernel⟩ ⟨rfl, rfl, Nat.le_of_ble_eq_true rfl, Nat.le_of_ble_eq_true rfl⟩ (hs_recv hK hH 1 i1 (show i1 < 11 from by omega) 9 rfl rfl) rfl rfl hl.1 (Nat.le_of_ble_eq_true rfl) ⟨Nat.le_of_ble_eq_true rfl, Nat.le_of_ble_eq_true rfl⟩ dX4_executeOn_63) hS (fun H locs hH hS => ?_)
        refine lv_pop hx hb dX4_executeOn_66 rfl ?_
        refine lv_iinc (v := a2 + (1 : Int32)) (lv' := [(2, .int (a2 + (1 : Int32))), (3, .ref (YA Y 17 (ix a2))), (0, .ref (YA Y 13 0)), (1, .ref (YA Y 1 i1))]) hx hb dX4_executeOn_67 hl (k := 3) rfl rfl (by decide) rfl (fun ls hl => ?_)
        refine lv_goto (tgt := 2) hx hb dX4_executeOn_70 (by decide) ?_
        exact ih M13 i1 (a2 + (1 : Int32)) (show i1 < 11 from by omega) hf _ _ _ hH hS (lv_sub hl [2, 3, 0] rfl)
      · have hf := if_f hf hc15
        refine lv_iload_n hx hb dX4_executeOn_42 rfl (lv_at hl 3 rfl) ?_
        cases hf
        exact hs_iret C0 hH hS (by decide) (by decide) dX4_executeOn_43
def f_X4_executeOn (M : Mem) (i1 : Nat) : Option (Int32 × Mem) := f_X4_executeOn_2 FU M i1 (0 : Int32)
set_option maxHeartbeats 4000000 in
set_option maxRecDepth 100000 in
theorem c_X4_executeOn {Y : LY} {l : Launch} (M : Mem) (i1 : Nat) (hi1 : i1 < 11) {r : Int32} {MZ : Mem} (hf : f_X4_executeOn M i1 = some (r, MZ)) : Met l yX4_executeOn (WS yX4_executeOn cX4_executeOn 4 (Option.some Jvm.ClassFile.FieldType.int)) { frames := 6, cells := 0, slots := 0, locals := 147 } (PcM Y M [.ref (YA Y 13 0), .ref (YA Y 1 i1)]) (Qi Y r MZ) 0 0 (AZ Y) := by
  refine met_mk (lv := [(0, .ref (YA Y 13 0)), (1, .ref (YA Y 1 i1))]) [.ref (YA Y 13 0), .ref (YA Y 1 i1)] (by decide) rfl rfl (Nat.le_of_ble_eq_true rfl) (fun p e s m below meth c C0 hH ls hl => ?_)
  have hS : va_S (AZ Y) s.heap s.heap [] := va_S.rf
  obtain ⟨hx, hb, hr, hml, hown, hA, hlocks, hK, hZ⟩ := id C0
  unfold f_X4_executeOn at hf
  refine lv_iconst (v := (0 : Int32)) hx hb dX4_executeOn_0 (by decide) ?_
  refine lv_istore_n (lv' := [(2, .int (0 : Int32)), (0, .ref (YA Y 13 0)), (1, .ref (YA Y 1 i1))]) hx hb dX4_executeOn_1 rfl hl (by decide) rfl (fun ls hl => ?_)
  exact w_X4_executeOn_2 C0 FU M i1 (0 : Int32) (show i1 < 11 from by omega) hf _ _ _ hH hS (lv_sub hl [1, 2, 0] rfl)
def f_X4_endOfDigits_5 (M : Mem) : Nat → Int32 → Int32 → Int32 → Option Int32
  | 0, _, _, _ => none
  | n + 1, a2, a3, a4 => (if a2 ≤ a4 then some a3 else (if (M 13 0 1) ≤ a3 then some a3 else if vin a3 60 then ((if (M 14 0 (ix a3)) < (48 : Int32) then some a3 else (if (M 14 0 (ix a3)) ≤ (57 : Int32) then f_X4_endOfDigits_5 M n a2 (a3 + (1 : Int32)) (a4 + (1 : Int32)) else some a3))) else none))
set_option maxHeartbeats 4000000 in
set_option maxRecDepth 100000 in
theorem w_X4_endOfDigits_5 {Y : LY} {p : Program} {l : Launch} {e : Env} {s : State} {m : MethodId} {args : Array Value} {below : List Frame} {meth : Method} {c : Code} (C0 : BE Y p s m args meth c cX4_endOfDigits 5 (Option.some Jvm.ClassFile.FieldType.int) RX4) {r : Int32} (M : Mem) : ∀ (n : Nat) (a2 : Int32) (a3 : Int32) (a4 : Int32), f_X4_endOfDigits_5 M n a2 a3 a4 = some r → ∀ (H : Heap) (locs : List Loc) (ls : Array Slot), HS Y M H → va_S (AZ Y) s.heap H locs → lv_has ls 5 [(0, .ref (YA Y 13 0)), (2, .int a2), (3, .int a3), (4, .int a4)] → W p l e { frames := 0, cells := 0, slots := 0, locals := 0 } s m args below meth c H locs 0 0 (MQ below (Qi Y r M) args s 0 0 (AZ Y)) (F0 m 5 ls []) := by
  obtain ⟨hx, hb, hr, hml, hown, hA, hlocks, hK, hZ⟩ := id C0
  intro n
  induction n with
  | zero =>
    intro a2 a3 a4 hf
    cases hf
  | succ n ih =>
    intro a2 a3 a4 hf H locs ls hH hS hl
    rw [f_X4_endOfDigits_5] at hf
    refine lv_iload hx hb dX4_endOfDigits_5 (lv_at hl 3 rfl) ?_
    refine lv_iload_n hx hb dX4_endOfDigits_7 rfl (lv_at hl 1 rfl) ?_
    refine lv_icmp_ge (tgt := 53) hx hb dX4_endOfDigits_8 (by decide) (fun hc10 => ?_) (fun hc10 => ?_)
    · have hf := if_t hf hc10
      refine lv_iload_n hx hb dX4_endOfDigits_53 rfl (lv_at hl 2 rfl) ?_
      cases hf
      exact hs_iret C0 hH hS (by decide) (by decide) dX4_endOfDigits_54
    · have hf := if_f hf hc10
      refine lv_iload_n hx hb dX4_endOfDigits_11 rfl (lv_at hl 2 rfl) ?_
      refine lv_aload_n hx hb dX4_endOfDigits_12 rfl (lv_at hl 0 rfl) ?_
      refine hs_get hx hb (T := TX4) hA inAX4 hown hK hH 13 0 (by decide) 8 rfl rfl 1 (by decide) (hA _ zt_237) rfl rfl dX4_endOfDigits_13 ?_
      refine lv_icmp_ge (tgt := 53) hx hb dX4_endOfDigits_16 (by decide) (fun hc9 => ?_) (fun hc9 => ?_)
      · have hf := if_t hf hc9
        refine lv_iload_n hx hb dX4_endOfDigits_53 rfl (lv_at hl 2 rfl) ?_
        cases hf
        exact hs_iret C0 hH hS (by decide) (by decide) dX4_endOfDigits_54
      · have hf := if_f hf hc9
        refine lv_aload_n hx hb dX4_endOfDigits_19 rfl (lv_at hl 0 rfl) ?_
        refine hs_get hx hb (T := TX4) hA inAX4 hown hK hH 13 0 (by decide) 8 rfl rfl 0 (by decide) (hA _ zt_236) rfl rfl dX4_endOfDigits_20 ?_
        refine lv_iload_n hx hb dX4_endOfDigits_23 rfl (lv_at hl 2 rfl) ?_
        obtain ⟨hg6, hf⟩ := gd_o hf
        have bhg6 := vin_lt hg6
        refine hs_cald hx hb hK hH 14 0 (by decide) rfl hg6 rfl dX4_endOfDigits_24 ?_
        refine lv_bipush (v := (48 : Int32)) hx hb dX4_endOfDigits_25 (by decide) ?_
        refine lv_icmp_lt (tgt := 53) hx hb dX4_endOfDigits_27 (by decide) (fun hc8 => ?_) (fun hc8 => ?_)
        · have hf := if_t hf hc8
          refine lv_iload_n hx hb dX4_endOfDigits_53 rfl (lv_at hl 2 rfl) ?_
          cases hf
          exact hs_iret C0 hH hS (by decide) (by decide) dX4_endOfDigits_54
        · have hf := if_f hf hc8
          refine lv_aload_n hx hb dX4_endOfDigits_30 rfl (lv_at hl 0 rfl) ?_
          refine hs_get hx hb (T := TX4) hA inAX4 hown hK hH 13 0 (by decide) 8 rfl rfl 0 (by decide) (hA _ zt_236) rfl rfl dX4_endOfDigits_31 ?_
          refine lv_iload_n hx hb dX4_endOfDigits_34 rfl (lv_at hl 2 rfl) ?_
          refine hs_cald hx hb hK hH 14 0 (by decide) rfl hg6 rfl dX4_endOfDigits_35 ?_
          refine lv_bipush (v := (57 : Int32)) hx hb dX4_endOfDigits_36 (by decide) ?_
          refine lv_icmp_le (tgt := 44) hx hb dX4_endOfDigits_38 (by decide) (fun hc7 => ?_) (fun hc7 => ?_)
          · have hf := if_t hf hc7
            refine lv_iinc (v := a3 + (1 : Int32)) (lv' := [(3, .int (a3 + (1 : Int32))), (0, .ref (YA Y 13 0)), (2, .int a2), (4, .int a4)]) hx hb dX4_endOfDigits_44 hl (k := 2) rfl rfl (by decide) rfl (fun ls hl => ?_)
            refine lv_iinc (v := a4 + (1 : Int32)) (lv' := [(4, .int (a4 + (1 : Int32))), (3, .int (a3 + (1 : Int32))), (0, .ref (YA Y 13 0)), (2, .int a2)]) hx hb dX4_endOfDigits_47 hl (k := 3) rfl rfl (by decide) rfl (fun ls hl => ?_)
            refine lv_goto (tgt := 5) hx hb dX4_endOfDigits_50 (by decide) ?_
            exact ih a2 (a3 + (1 : Int32)) (a4 + (1 : Int32)) hf _ _ _ hH hS (lv_sub hl [2, 3, 1, 0] rfl)
          · have hf := if_f hf hc7
            refine lv_goto (tgt := 53) hx hb dX4_endOfDigits_41 (by decide) ?_
            refine lv_iload_n hx hb dX4_endOfDigits_53 rfl (lv_at hl 2 rfl) ?_
            cases hf
            exact hs_iret C0 hH hS (by decide) (by decide) dX4_endOfDigits_54
def f_X4_endOfDigits (M : Mem) (a1 : Int32) (a2 : Int32) : Option Int32 := f_X4_endOfDigits_5 M FU a2 a1 (0 : Int32)
set_option maxHeartbeats 4000000 in
set_option maxRecDepth 100000 in
theorem c_X4_endOfDigits {Y : LY} {l : Launch} (M : Mem) (a1 : Int32) (a2 : Int32) {r : Int32} (hf : f_X4_endOfDigits M a1 a2 = some r) : Met l yX4_endOfDigits (WS yX4_endOfDigits cX4_endOfDigits 5 (Option.some Jvm.ClassFile.FieldType.int)) { frames := 0, cells := 0, slots := 0, locals := 0 } (PcM Y M [.ref (YA Y 13 0), .int a1, .int a2]) (Qi Y r M) 0 0 (AZ Y) := by
  refine met_mk (lv := [(0, .ref (YA Y 13 0)), (1, .int a1), (2, .int a2)]) [.ref (YA Y 13 0), .int a1, .int a2] (by decide) rfl rfl (Nat.le_of_ble_eq_true rfl) (fun p e s m below meth c C0 hH ls hl => ?_)
  have hS : va_S (AZ Y) s.heap s.heap [] := va_S.rf
  obtain ⟨hx, hb, hr, hml, hown, hA, hlocks, hK, hZ⟩ := id C0
  unfold f_X4_endOfDigits at hf
  refine lv_iload_n hx hb dX4_endOfDigits_0 rfl (lv_at hl 1 rfl) ?_
  refine lv_istore_n (lv' := [(3, .int a1), (0, .ref (YA Y 13 0)), (1, .int a1), (2, .int a2)]) hx hb dX4_endOfDigits_1 rfl hl (by decide) rfl (fun ls hl => ?_)
  refine lv_iconst (v := (0 : Int32)) hx hb dX4_endOfDigits_2 (by decide) ?_
  refine lv_istore (lv' := [(4, .int (0 : Int32)), (3, .int a1), (0, .ref (YA Y 13 0)), (1, .int a1), (2, .int a2)]) hx hb dX4_endOfDigits_3 hl (by decide) rfl (fun ls hl => ?_)
  exact w_X4_endOfDigits_5 C0 M FU a2 a1 (0 : Int32) hf _ _ _ hH hS (lv_sub hl [2, 4, 1, 0] rfl)
def f_X4_storeArgument_6 : Nat → Mem → Int32 → Int32 → Int32 → Int32 → Option Mem
  | 0, _, _, _, _, _ => none
  | n + 1, M, a1, a3, a4, a5 => (if a3 ≤ a5 then (if (10 : Int32) ≤ (M 13 0 4) then some M else (if (4 : Int32) ≤ a1 then some M else if vin (M 13 0 4) 10 then (if vin a1 4 then (nm (mu M 17 (ix (M 13 0 4)) (ix a1) a4) fun M10 => some M10) else none) else none)) else if vin a5 60 then (f_X4_storeArgument_6 n M a1 a3 ((a4 * (10 : Int32)) + ((M 14 0 (ix a5)) - (48 : Int32))) (a5 + (1 : Int32))) else none)
set_option maxHeartbeats 4000000 in
set_option maxRecDepth 100000 in
theorem w_X4_storeArgument_6 {Y : LY} {p : Program} {l : Launch} {e : Env} {s : State} {m : MethodId} {args : Array Value} {below : List Frame} {meth : Method} {c : Code} (C0 : BE Y p s m args meth c cX4_storeArgument 6 (Option.none : Option Jvm.ClassFile.FieldType) RX4) {MZ : Mem} : ∀ (n : Nat) (M : Mem) (a1 : Int32) (a3 : Int32) (a4 : Int32) (a5 : Int32), f_X4_storeArgument_6 n M a1 a3 a4 a5 = some MZ → ∀ (H : Heap) (locs : List Loc) (ls : Array Slot), HS Y M H → va_S (AZ Y) s.heap H locs → lv_has ls 6 [(0, .ref (YA Y 13 0)), (1, .int a1), (3, .int a3), (4, .int a4), (5, .int a5)] → W p l e { frames := 0, cells := 0, slots := 0, locals := 0 } s m args below meth c H locs 0 0 (MQ below (Qv Y MZ) args s 0 0 (AZ Y)) (F0 m 6 ls []) := by
  obtain ⟨hx, hb, hr, hml, hown, hA, hlocks, hK, hZ⟩ := id C0
  intro n
  induction n with
  | zero =>
    intro M a1 a3 a4 a5 hf
    cases hf
  | succ n ih =>
    intro M a1 a3 a4 a5 hf H locs ls hH hS hl
    rw [f_X4_storeArgument_6] at hf
    refine lv_iload hx hb dX4_storeArgument_6 (lv_at hl 4 rfl) ?_
    refine lv_iload_n hx hb dX4_storeArgument_8 rfl (lv_at hl 2 rfl) ?_
    refine lv_icmp_ge (tgt := 36) hx hb dX4_storeArgument_9 (by decide) (fun hc14 => ?_) (fun hc14 => ?_)
    · have hf := if_t hf hc14
      refine lv_aload_n hx hb dX4_storeArgument_36 rfl (lv_at hl 0 rfl) ?_
      refine hs_get hx hb (T := TX4) hA inAX4 hown hK hH 13 0 (by decide) 8 rfl rfl 4 (by decide) (hA _ zt_241) rfl rfl dX4_storeArgument_37 ?_
      refine lv_bipush (v := (10 : Int32)) hx hb dX4_storeArgument_40 (by decide) ?_
      refine lv_icmp_ge (tgt := 63) hx hb dX4_storeArgument_42 (by decide) (fun hc12 => ?_) (fun hc12 => ?_)
      · have hf := if_t hf hc12
        cases hf
        exact hs_vret C0 hH hS (by decide) (by decide) dX4_storeArgument_63
      · have hf := if_f hf hc12
        refine lv_iload_n hx hb dX4_storeArgument_45 rfl (lv_at hl 1 rfl) ?_
        refine lv_iconst (v := (4 : Int32)) hx hb dX4_storeArgument_46 (by decide) ?_
        refine lv_icmp_ge (tgt := 63) hx hb dX4_storeArgument_47 (by decide) (fun hc11 => ?_) (fun hc11 => ?_)
        · have hf := if_t hf hc11
          cases hf
          exact hs_vret C0 hH hS (by decide) (by decide) dX4_storeArgument_63
        · have hf := if_f hf hc11
          refine lv_aload_n hx hb dX4_storeArgument_50 rfl (lv_at hl 0 rfl) ?_
          refine hs_get hx hb (T := TX4) hA inAX4 hown hK hH 13 0 (by decide) 8 rfl rfl 3 (by decide) (hA _ zt_240) rfl rfl dX4_storeArgument_51 ?_
          refine lv_aload_n hx hb dX4_storeArgument_54 rfl (lv_at hl 0 rfl) ?_
          refine hs_get hx hb (T := TX4) hA inAX4 hown hK hH 13 0 (by decide) 8 rfl rfl 4 (by decide) (hA _ zt_241) rfl rfl dX4_storeArgument_55 ?_
          obtain ⟨hg8, hf⟩ := gd_o hf
          have bhg8 := vin_lt hg8
          refine hs_aald2 hx hb hK hH 16 0 (by decide) rfl hg8 (q := YA Y 17 (ix (M 13 0 4))) rfl dX4_storeArgument_58 ?_
          refine lv_iload_n hx hb dX4_storeArgument_59 rfl (lv_at hl 1 rfl) ?_
          refine lv_iload hx hb dX4_storeArgument_60 (lv_at hl 3 rfl) ?_
          obtain ⟨hg9, hf⟩ := gd_o hf
          have bhg9 := vin_lt hg9
          refine hs_iast hx hb hK hH hS 17 (ix (M 13 0 4)) (show ix (M 13 0 4) < 10 from by omega) (fun _ => rfl) hg9 rfl dX4_storeArgument_62 (fun H locs hH hS => ?_)
          obtain ⟨M10, eM10, hf⟩ := nm_o hf
          rw [← eM10] at hH
          cases hf
          exact hs_vret C0 hH hS (by decide) (by decide) dX4_storeArgument_63
    · have hf := if_f hf hc14
      refine lv_iload hx hb dX4_storeArgument_12 (lv_at hl 3 rfl) ?_
      refine lv_bipush (v := (10 : Int32)) hx hb dX4_storeArgument_14 (by decide) ?_
      refine lv_imul hx hb dX4_storeArgument_16 ?_
      refine lv_aload_n hx hb dX4_storeArgument_17 rfl (lv_at hl 0 rfl) ?_
      refine hs_get hx hb (T := TX4) hA inAX4 hown hK hH 13 0 (by decide) 8 rfl rfl 0 (by decide) (hA _ zt_236) rfl rfl dX4_storeArgument_18 ?_
      refine lv_iload hx hb dX4_storeArgument_21 (lv_at hl 4 rfl) ?_
      obtain ⟨hg13, hf⟩ := gd_o hf
      have bhg13 := vin_lt hg13
      refine hs_cald hx hb hK hH 14 0 (by decide) rfl hg13 rfl dX4_storeArgument_23 ?_
      refine lv_bipush (v := (48 : Int32)) hx hb dX4_storeArgument_24 (by decide) ?_
      refine lv_isub hx hb dX4_storeArgument_26 ?_
      refine lv_iadd hx hb dX4_storeArgument_27 ?_
      refine lv_istore (lv' := [(4, .int ((a4 * (10 : Int32)) + ((M 14 0 (ix a5)) - (48 : Int32)))), (0, .ref (YA Y 13 0)), (1, .int a1), (3, .int a3), (5, .int a5)]) hx hb dX4_storeArgument_28 hl (by decide) rfl (fun ls hl => ?_)
      refine lv_iinc (v := a5 + (1 : Int32)) (lv' := [(5, .int (a5 + (1 : Int32))), (4, .int ((a4 * (10 : Int32)) + ((M 14 0 (ix a5)) - (48 : Int32)))), (0, .ref (YA Y 13 0)), (1, .int a1), (3, .int a3)]) hx hb dX4_storeArgument_30 hl (k := 4) rfl rfl (by decide) rfl (fun ls hl => ?_)
      refine lv_goto (tgt := 6) hx hb dX4_storeArgument_33 (by decide) ?_
      exact ih M a1 a3 ((a4 * (10 : Int32)) + ((M 14 0 (ix a5)) - (48 : Int32))) (a5 + (1 : Int32)) hf _ _ _ hH hS (lv_sub hl [2, 3, 4, 1, 0] rfl)
def f_X4_storeArgument (M : Mem) (a1 : Int32) (a2 : Int32) (a3 : Int32) : Option Mem := f_X4_storeArgument_6 FU M a1 a3 (0 : Int32) a2
set_option maxHeartbeats 4000000 in
set_option maxRecDepth 100000 in
theorem c_X4_storeArgument {Y : LY} {l : Launch} (M : Mem) (a1 : Int32) (a2 : Int32) (a3 : Int32) {MZ : Mem} (hf : f_X4_storeArgument M a1 a2 a3 = some MZ) : Met l yX4_storeArgument (WS yX4_storeArgument cX4_storeArgument 6 (Option.none : Option Jvm.ClassFile.FieldType)) { frames := 0, cells := 0, slots := 0, locals := 0 } (PcM Y M [.ref (YA Y 13 0), .int a1, .int a2, .int a3]) (Qv Y MZ) 0 0 (AZ Y) := by
  refine met_mk (lv := [(0, .ref (YA Y 13 0)), (1, .int a1), (2, .int a2), (3, .int a3)]) [.ref (YA Y 13 0), .int a1, .int a2, .int a3] (by decide) rfl rfl (Nat.le_of_ble_eq_true rfl) (fun p e s m below meth c C0 hH ls hl => ?_)
  have hS : va_S (AZ Y) s.heap s.heap [] := va_S.rf
  obtain ⟨hx, hb, hr, hml, hown, hA, hlocks, hK, hZ⟩ := id C0
  unfold f_X4_storeArgument at hf
  refine lv_iconst (v := (0 : Int32)) hx hb dX4_storeArgument_0 (by decide) ?_
  refine lv_istore (lv' := [(4, .int (0 : Int32)), (0, .ref (YA Y 13 0)), (1, .int a1), (2, .int a2), (3, .int a3)]) hx hb dX4_storeArgument_1 hl (by decide) rfl (fun ls hl => ?_)
  refine lv_iload_n hx hb dX4_storeArgument_3 rfl (lv_at hl 3 rfl) ?_
  refine lv_istore (lv' := [(5, .int a2), (4, .int (0 : Int32)), (0, .ref (YA Y 13 0)), (1, .int a1), (2, .int a2), (3, .int a3)]) hx hb dX4_storeArgument_4 hl (by decide) rfl (fun ls hl => ?_)
  exact w_X4_storeArgument_6 C0 FU M a1 a3 (0 : Int32) a2 hf _ _ _ hH hS (lv_sub hl [2, 3, 5, 1, 0] rfl)
def f_X5_heaviestLink_35 (M : Mem) (k6 : Nat → Int32 → Int32 → Int32 → Option Int32) (i0 : Nat) (a1 : Int32) (a2 : Int32) (a3 : Int32) : Option Int32 := k6 i0 a1 a2 (a3 + (1 : Int32))
set_option maxHeartbeats 4000000 in
set_option maxRecDepth 100000 in
theorem w_X5_heaviestLink_35 {Y : LY} {p : Program} {l : Launch} {e : Env} {s : State} {m : MethodId} {args : Array Value} {below : List Frame} {meth : Method} {c : Code} (C0 : BE Y p s m args meth c cX5_heaviestLink 5 (Option.some Jvm.ClassFile.FieldType.int) RX5) {r : Int32} (M : Mem) (k6 : Nat → Int32 → Int32 → Int32 → Option Int32) (hk6 : ∀ (i0 : Nat) (a1 : Int32) (a2 : Int32) (a3 : Int32), i0 < 11 → k6 i0 a1 a2 a3 = some r → ∀ (H : Heap) (locs : List Loc) (ls : Array Slot), HS Y M H → va_S (AZ Y) s.heap H locs → lv_has ls 5 [(0, .ref (YA Y 1 i0)), (1, .int a1), (2, .int a2), (3, .int a3)] → W p l e { frames := 1, cells := 0, slots := 0, locals := 23 } s m args below meth c H locs 0 0 (MQ below (Qi Y r M) args s 0 0 (AZ Y)) (F0 m 6 ls [])) : ∀ (i0 : Nat) (a1 : Int32) (a2 : Int32) (a3 : Int32), i0 < 11 → f_X5_heaviestLink_35 M k6 i0 a1 a2 a3 = some r → ∀ (H : Heap) (locs : List Loc) (ls : Array Slot), HS Y M H → va_S (AZ Y) s.heap H locs → lv_has ls 5 [(0, .ref (YA Y 1 i0)), (1, .int a1), (2, .int a2), (3, .int a3)] → W p l e { frames := 1, cells := 0, slots := 0, locals := 23 } s m args below meth c H locs 0 0 (MQ below (Qi Y r M) args s 0 0 (AZ Y)) (F0 m 35 ls []) := by
  obtain ⟨hx, hb, hr, hml, hown, hA, hlocks, hK, hZ⟩ := id C0
  intro i0 a1 a2 a3 hi0 hf H locs ls hH hS hl
  unfold f_X5_heaviestLink_35 at hf
  refine lv_iinc (v := a3 + (1 : Int32)) (lv' := [(3, .int (a3 + (1 : Int32))), (0, .ref (YA Y 1 i0)), (1, .int a1), (2, .int a2)]) hx hb dX5_heaviestLink_35 hl (k := 3) rfl rfl (by decide) rfl (fun ls hl => ?_)
  refine lv_goto (tgt := 6) hx hb dX5_heaviestLink_38 (by decide) ?_
  exact hk6 i0 a1 a2 (a3 + (1 : Int32)) (show i0 < 11 from by omega) hf _ _ _ hH hS (lv_sub hl [1, 2, 3, 0] rfl)
def f_X5_heaviestLink_6 (M : Mem) : Nat → Nat → Int32 → Int32 → Int32 → Option Int32
  | 0, _, _, _, _ => none
  | n + 1, i0, a1, a2, a3 => (if (M 2 i0 2) ≤ a3 then some a1 else bd (f_X5_weightOn M i0 a3) fun r6 => (if r6 ≤ a2 then f_X5_heaviestLink_35 M (f_X5_heaviestLink_6 M n) i0 a1 a2 a3 else f_X5_heaviestLink_35 M (f_X5_heaviestLink_6 M n) i0 a3 r6 a3))
set_option maxHeartbeats 4000000 in
set_option maxRecDepth 100000 in
theorem w_X5_heaviestLink_6 {Y : LY} {p : Program} {l : Launch} {e : Env} {s : State} {m : MethodId} {args : Array Value} {below : List Frame} {meth : Method} {c : Code} (C0 : BE Y p s m args meth c cX5_heaviestLink 5 (Option.some Jvm.ClassFile.FieldType.int) RX5) {r : Int32} (M : Mem) : ∀ (n : Nat) (i0 : Nat) (a1 : Int32) (a2 : Int32) (a3 : Int32), i0 < 11 → f_X5_heaviestLink_6 M n i0 a1 a2 a3 = some r → ∀ (H : Heap) (locs : List Loc) (ls : Array Slot), HS Y M H → va_S (AZ Y) s.heap H locs → lv_has ls 5 [(0, .ref (YA Y 1 i0)), (1, .int a1), (2, .int a2), (3, .int a3)] → W p l e { frames := 1, cells := 0, slots := 0, locals := 23 } s m args below meth c H locs 0 0 (MQ below (Qi Y r M) args s 0 0 (AZ Y)) (F0 m 6 ls []) := by
  obtain ⟨hx, hb, hr, hml, hown, hA, hlocks, hK, hZ⟩ := id C0
  intro n
  induction n with
  | zero =>
    intro i0 a1 a2 a3 hi0 hf
    cases hf
  | succ n ih =>
    intro i0 a1 a2 a3 hi0 hf H locs ls hH hS hl
    rw [f_X5_heaviestLink_6] at hf
    refine lv_iload_n hx hb dX5_heaviestLink_6 rfl (lv_at hl 3 rfl) ?_
    refine lv_aload_n hx hb dX5_heaviestLink_7 rfl (lv_at hl 0 rfl) ?_
    refine hs_get hx hb (T := TX5) hA inAX5 hown hK hH 1 i0 (show i0 < 11 from by omega) 9 rfl rfl 1 (by decide) (hA _ zt_173) rfl rfl dX5_heaviestLink_8 ?_
    refine hs_get hx hb (T := TX2) hA inAX2 hown hK hH 2 i0 (show i0 < 11 from by omega) 6 rfl rfl 2 (by decide) (hA _ zt_119) rfl rfl dX5_heaviestLink_11 ?_
    refine lv_icmp_ge (tgt := 41) hx hb dX5_heaviestLink_14 (by decide) (fun hc8 => ?_) (fun hc8 => ?_)
    · have hf := if_t hf hc8
      refine lv_iload_n hx hb dX5_heaviestLink_41 rfl (lv_at hl 1 rfl) ?_
      cases hf
      exact hs_iret C0 hH hS (by decide) (by decide) dX5_heaviestLink_42
    · have hf := if_f hf hc8
      refine lv_aload_n hx hb dX5_heaviestLink_17 rfl (lv_at hl 0 rfl) ?_
      refine lv_iload_n hx hb dX5_heaviestLink_18 rfl (lv_at hl 3 rfl) ?_
      obtain ⟨r6, hq5, hf⟩ := bd_o hf
      refine hs_ci (hs_runV C0 hH hS (n := 1) (As := [.int a3]) (rest := []) (c_X5_weightOn M i0 a3 (show i0 < 11 from by omega) hq5) ⟨⟨zt_389, zt_390, zt_391, zt_3, zt_392⟩, rfl, by decide, by decide, by decide +kernel⟩ ⟨rfl, rfl, Nat.le_of_ble_eq_true rfl, Nat.le_of_ble_eq_true rfl⟩ (hs_recv hK hH 1 i0 (show i0 < 11 from by omega) 9 rfl rfl) rfl rfl hl.1 (Nat.le_of_ble_eq_true rfl) ⟨Nat.le_of_ble_eq_true rfl, Nat.le_of_ble_eq_true rfl⟩ dX5_heaviestLink_19) hS (fun H locs hH hS => ?_)
      refine lv_istore (lv' := [(4, .int r6), (0, .ref (YA Y 1 i0)), (1, .int a1), (2, .int a2), (3, .int a3)]) hx hb dX5_heaviestLink_22 hl (by decide) rfl (fun ls hl => ?_)
      refine lv_iload hx hb dX5_heaviestLink_24 (lv_at hl 0 rfl) ?_
      refine lv_iload_n hx hb dX5_heaviestLink_26 rfl (lv_at hl 3 rfl) ?_
      refine lv_icmp_le (tgt := 35) hx hb dX5_heaviestLink_27 (by decide) (fun hc7 => ?_) (fun hc7 => ?_)
      · have hf := if_t hf hc7
        exact w_X5_heaviestLink_35 C0 M (f_X5_heaviestLink_6 M n) ih i0 a1 a2 a3 (show i0 < 11 from by omega) hf _ _ _ hH hS (lv_sub hl [1, 2, 3, 4] rfl)
      · have hf := if_f hf hc7
        refine lv_iload_n hx hb dX5_heaviestLink_30 rfl (lv_at hl 4 rfl) ?_
        refine lv_istore_n (lv' := [(1, .int a3), (4, .int r6), (0, .ref (YA Y 1 i0)), (2, .int a2), (3, .int a3)]) hx hb dX5_heaviestLink_31 rfl hl (by decide) rfl (fun ls hl => ?_)
        refine lv_iload hx hb dX5_heaviestLink_32 (lv_at hl 1 rfl) ?_
        refine lv_istore_n (lv' := [(2, .int r6), (1, .int a3), (4, .int r6), (0, .ref (YA Y 1 i0)), (3, .int a3)]) hx hb dX5_heaviestLink_34 rfl hl (by decide) rfl (fun ls hl => ?_)
        exact w_X5_heaviestLink_35 C0 M (f_X5_heaviestLink_6 M n) ih i0 a3 r6 a3 (show i0 < 11 from by omega) hf _ _ _ hH hS (lv_sub hl [3, 1, 0, 4] rfl)
def f_X5_heaviestLink (M : Mem) (i0 : Nat) : Option Int32 := f_X5_heaviestLink_6 M FU i0 (0 : Int32) (0 : Int32) (0 : Int32)
set_option maxHeartbeats 4000000 in
set_option maxRecDepth 100000 in
theorem c_X5_heaviestLink {Y : LY} {l : Launch} (M : Mem) (i0 : Nat) (hi0 : i0 < 11) {r : Int32} (hf : f_X5_heaviestLink M i0 = some r) : Met l yX5_heaviestLink (WS yX5_heaviestLink cX5_heaviestLink 5 (Option.some Jvm.ClassFile.FieldType.int)) { frames := 1, cells := 0, slots := 0, locals := 23 } (PcM Y M [.ref (YA Y 1 i0)]) (Qi Y r M) 0 0 (AZ Y) := by
  refine met_mk (lv := [(0, .ref (YA Y 1 i0))]) [.ref (YA Y 1 i0)] (by decide) rfl rfl (Nat.le_of_ble_eq_true rfl) (fun p e s m below meth c C0 hH ls hl => ?_)
  have hS : va_S (AZ Y) s.heap s.heap [] := va_S.rf
  obtain ⟨hx, hb, hr, hml, hown, hA, hlocks, hK, hZ⟩ := id C0
  unfold f_X5_heaviestLink at hf
  refine lv_iconst (v := (0 : Int32)) hx hb dX5_heaviestLink_0 (by decide) ?_
  refine lv_istore_n (lv' := [(1, .int (0 : Int32)), (0, .ref (YA Y 1 i0))]) hx hb dX5_heaviestLink_1 rfl hl (by decide) rfl (fun ls hl => ?_)
  refine lv_iconst (v := (0 : Int32)) hx hb dX5_heaviestLink_2 (by decide) ?_
  refine lv_istore_n (lv' := [(2, .int (0 : Int32)), (1, .int (0 : Int32)), (0, .ref (YA Y 1 i0))]) hx hb dX5_heaviestLink_3 rfl hl (by decide) rfl (fun ls hl => ?_)
  refine lv_iconst (v := (0 : Int32)) hx hb dX5_heaviestLink_4 (by decide) ?_
  refine lv_istore_n (lv' := [(3, .int (0 : Int32)), (2, .int (0 : Int32)), (1, .int (0 : Int32)), (0, .ref (YA Y 1 i0))]) hx hb dX5_heaviestLink_5 rfl hl (by decide) rfl (fun ls hl => ?_)
  exact w_X5_heaviestLink_6 C0 M FU i0 (0 : Int32) (0 : Int32) (0 : Int32) (show i0 < 11 from by omega) hf _ _ _ hH hS (lv_sub hl [3, 2, 1, 0] rfl)
def f_X5_noLinkIsOverloaded_2 (M : Mem) : Nat → Nat → Int32 → Option Int32
  | 0, _, _ => none
  | n + 1, i0, a1 => (if (M 2 i0 2) ≤ a1 then some (1 : Int32) else bd (f_X5_weightOn M i0 a1) fun r6 => (if r6 ≤ (10 : Int32) then f_X5_noLinkIsOverloaded_2 M n i0 (a1 + (1 : Int32)) else some (0 : Int32)))
set_option maxHeartbeats 4000000 in
set_option maxRecDepth 100000 in
theorem w_X5_noLinkIsOverloaded_2 {Y : LY} {p : Program} {l : Launch} {e : Env} {s : State} {m : MethodId} {args : Array Value} {below : List Frame} {meth : Method} {c : Code} (C0 : BE Y p s m args meth c cX5_noLinkIsOverloaded 2 (Option.some Jvm.ClassFile.FieldType.boolean) RX5) {r : Int32} (M : Mem) : ∀ (n : Nat) (i0 : Nat) (a1 : Int32), i0 < 11 → f_X5_noLinkIsOverloaded_2 M n i0 a1 = some r → ∀ (H : Heap) (locs : List Loc) (ls : Array Slot), HS Y M H → va_S (AZ Y) s.heap H locs → lv_has ls 2 [(0, .ref (YA Y 1 i0)), (1, .int a1)] → W p l e { frames := 1, cells := 0, slots := 0, locals := 23 } s m args below meth c H locs 0 0 (MQ below (Qi Y r M) args s 0 0 (AZ Y)) (F0 m 2 ls []) := by
  obtain ⟨hx, hb, hr, hml, hown, hA, hlocks, hK, hZ⟩ := id C0
  intro n
  induction n with
  | zero =>
    intro i0 a1 hi0 hf
    cases hf
  | succ n ih =>
    intro i0 a1 hi0 hf H locs ls hH hS hl
    rw [f_X5_noLinkIsOverloaded_2] at hf
    refine lv_iload_n hx hb dX5_noLinkIsOverloaded_2 rfl (lv_at hl 1 rfl) ?_
    refine lv_aload_n hx hb dX5_noLinkIsOverloaded_3 rfl (lv_at hl 0 rfl) ?_
    refine hs_get hx hb (T := TX5) hA inAX5 hown hK hH 1 i0 (show i0 < 11 from by omega) 9 rfl rfl 1 (by decide) (hA _ zt_173) rfl rfl dX5_noLinkIsOverloaded_4 ?_
    refine hs_get hx hb (T := TX2) hA inAX2 hown hK hH 2 i0 (show i0 < 11 from by omega) 6 rfl rfl 2 (by decide) (hA _ zt_119) rfl rfl dX5_noLinkIsOverloaded_7 ?_
    refine lv_icmp_ge (tgt := 31) hx hb dX5_noLinkIsOverloaded_10 (by decide) (fun hc8 => ?_) (fun hc8 => ?_)
    · have hf := if_t hf hc8
      refine lv_iconst (v := (1 : Int32)) hx hb dX5_noLinkIsOverloaded_31 (by decide) ?_
      cases hf
      exact hs_zret C0 hH hS (by decide) (by decide) (by decide) dX5_noLinkIsOverloaded_32
    · have hf := if_f hf hc8
      refine lv_aload_n hx hb dX5_noLinkIsOverloaded_13 rfl (lv_at hl 0 rfl) ?_
      refine lv_iload_n hx hb dX5_noLinkIsOverloaded_14 rfl (lv_at hl 1 rfl) ?_
      obtain ⟨r6, hq5, hf⟩ := bd_o hf
      refine hs_ci (hs_runV C0 hH hS (n := 1) (As := [.int a1]) (rest := []) (c_X5_weightOn M i0 a1 (show i0 < 11 from by omega) hq5) ⟨⟨zt_389, zt_390, zt_391, zt_3, zt_392⟩, rfl, by decide, by decide, by decide +kernel⟩ ⟨rfl, rfl, Nat.le_of_ble_eq_true rfl, Nat.le_of_ble_eq_true rfl⟩ (hs_recv hK hH 1 i0 (show i0 < 11 from by omega) 9 rfl rfl) rfl rfl hl.1 (Nat.le_of_ble_eq_true rfl) ⟨Nat.le_of_ble_eq_true rfl, Nat.le_of_ble_eq_true rfl⟩ dX5_noLinkIsOverloaded_15) hS (fun H locs hH hS => ?_)
      refine lv_bipush (v := (10 : Int32)) hx hb dX5_noLinkIsOverloaded_18 (by decide) ?_
      refine lv_icmp_le (tgt := 25) hx hb dX5_noLinkIsOverloaded_20 (by decide) (fun hc7 => ?_) (fun hc7 => ?_)
      · have hf := if_t hf hc7
        refine lv_iinc (v := a1 + (1 : Int32)) (lv' := [(1, .int (a1 + (1 : Int32))), (0, .ref (YA Y 1 i0))]) hx hb dX5_noLinkIsOverloaded_25 hl (k := 1) rfl rfl (by decide) rfl (fun ls hl => ?_)
        refine lv_goto (tgt := 2) hx hb dX5_noLinkIsOverloaded_28 (by decide) ?_
        exact ih i0 (a1 + (1 : Int32)) (show i0 < 11 from by omega) hf _ _ _ hH hS (lv_sub hl [1, 0] rfl)
      · have hf := if_f hf hc7
        refine lv_iconst (v := (0 : Int32)) hx hb dX5_noLinkIsOverloaded_23 (by decide) ?_
        cases hf
        exact hs_zret C0 hH hS (by decide) (by decide) (by decide) dX5_noLinkIsOverloaded_24
def f_X5_noLinkIsOverloaded (M : Mem) (i0 : Nat) : Option Int32 := f_X5_noLinkIsOverloaded_2 M FU i0 (0 : Int32)
set_option maxHeartbeats 4000000 in
set_option maxRecDepth 100000 in
theorem c_X5_noLinkIsOverloaded {Y : LY} {l : Launch} (M : Mem) (i0 : Nat) (hi0 : i0 < 11) {r : Int32} (hf : f_X5_noLinkIsOverloaded M i0 = some r) : Met l yX5_noLinkIsOverloaded (WS yX5_noLinkIsOverloaded cX5_noLinkIsOverloaded 2 (Option.some Jvm.ClassFile.FieldType.boolean)) { frames := 1, cells := 0, slots := 0, locals := 23 } (PcM Y M [.ref (YA Y 1 i0)]) (Qi Y r M) 0 0 (AZ Y) := by
  refine met_mk (lv := [(0, .ref (YA Y 1 i0))]) [.ref (YA Y 1 i0)] (by decide) rfl rfl (Nat.le_of_ble_eq_true rfl) (fun p e s m below meth c C0 hH ls hl => ?_)
  have hS : va_S (AZ Y) s.heap s.heap [] := va_S.rf
  obtain ⟨hx, hb, hr, hml, hown, hA, hlocks, hK, hZ⟩ := id C0
  unfold f_X5_noLinkIsOverloaded at hf
  refine lv_iconst (v := (0 : Int32)) hx hb dX5_noLinkIsOverloaded_0 (by decide) ?_
  refine lv_istore_n (lv' := [(1, .int (0 : Int32)), (0, .ref (YA Y 1 i0))]) hx hb dX5_noLinkIsOverloaded_1 rfl hl (by decide) rfl (fun ls hl => ?_)
  exact w_X5_noLinkIsOverloaded_2 C0 M FU i0 (0 : Int32) (show i0 < 11 from by omega) hf _ _ _ hH hS (lv_sub hl [1, 0] rfl)
def f_X5_parcelsWaitingIn_40 (M : Mem) (k4 : Nat → Int32 → Int32 → Int32 → Option Int32) (i0 : Nat) (a1 : Int32) (a2 : Int32) (a3 : Int32) : Option Int32 := k4 i0 a1 a2 (a3 + (1 : Int32))
set_option maxHeartbeats 4000000 in
set_option maxRecDepth 100000 in
theorem w_X5_parcelsWaitingIn_40 {Y : LY} {p : Program} {l : Launch} {e : Env} {s : State} {m : MethodId} {args : Array Value} {below : List Frame} {meth : Method} {c : Code} (C0 : BE Y p s m args meth c cX5_parcelsWaitingIn 4 (Option.some Jvm.ClassFile.FieldType.int) RX5) {r : Int32} (M : Mem) (k4 : Nat → Int32 → Int32 → Int32 → Option Int32) (hk4 : ∀ (i0 : Nat) (a1 : Int32) (a2 : Int32) (a3 : Int32), i0 < 11 → k4 i0 a1 a2 a3 = some r → ∀ (H : Heap) (locs : List Loc) (ls : Array Slot), HS Y M H → va_S (AZ Y) s.heap H locs → lv_has ls 4 [(0, .ref (YA Y 1 i0)), (1, .int a1), (2, .int a2), (3, .int a3)] → W p l e { frames := 1, cells := 0, slots := 0, locals := 20 } s m args below meth c H locs 0 0 (MQ below (Qi Y r M) args s 0 0 (AZ Y)) (F0 m 4 ls [])) : ∀ (i0 : Nat) (a1 : Int32) (a2 : Int32) (a3 : Int32), i0 < 11 → f_X5_parcelsWaitingIn_40 M k4 i0 a1 a2 a3 = some r → ∀ (H : Heap) (locs : List Loc) (ls : Array Slot), HS Y M H → va_S (AZ Y) s.heap H locs → lv_has ls 4 [(0, .ref (YA Y 1 i0)), (1, .int a1), (2, .int a2), (3, .int a3)] → W p l e { frames := 1, cells := 0, slots := 0, locals := 20 } s m args below meth c H locs 0 0 (MQ below (Qi Y r M) args s 0 0 (AZ Y)) (F0 m 40 ls []) := by
  obtain ⟨hx, hb, hr, hml, hown, hA, hlocks, hK, hZ⟩ := id C0
  intro i0 a1 a2 a3 hi0 hf H locs ls hH hS hl
  unfold f_X5_parcelsWaitingIn_40 at hf
  refine lv_iinc (v := a3 + (1 : Int32)) (lv' := [(3, .int (a3 + (1 : Int32))), (0, .ref (YA Y 1 i0)), (1, .int a1), (2, .int a2)]) hx hb dX5_parcelsWaitingIn_40 hl (k := 3) rfl rfl (by decide) rfl (fun ls hl => ?_)
  refine lv_goto (tgt := 4) hx hb dX5_parcelsWaitingIn_43 (by decide) ?_
  exact hk4 i0 a1 a2 (a3 + (1 : Int32)) (show i0 < 11 from by omega) hf _ _ _ hH hS (lv_sub hl [1, 2, 3, 0] rfl)
def f_X5_parcelsWaitingIn_4 (M : Mem) : Nat → Nat → Int32 → Int32 → Int32 → Option Int32
  | 0, _, _, _, _ => none
  | n + 1, i0, a1, a2, a3 => (if (M 1 i0 3) ≤ a3 then some a2 else if vin a3 12 then (if ix (M 5 i0 (ix a3)) < 132 then (bd (f_X3_isUnderWay M (ix (M 5 i0 (ix a3)))) fun r11 => (if r11 = 0 then (if (M 6 (ix (M 5 i0 (ix a3))) 4) = a1 then f_X5_parcelsWaitingIn_40 M (f_X5_parcelsWaitingIn_4 M n) i0 a1 (a2 + (1 : Int32)) a3 else f_X5_parcelsWaitingIn_40 M (f_X5_parcelsWaitingIn_4 M n) i0 a1 a2 a3) else f_X5_parcelsWaitingIn_40 M (f_X5_parcelsWaitingIn_4 M n) i0 a1 a2 a3)) else none) else none)
set_option maxHeartbeats 4000000 in
set_option maxRecDepth 100000 in
theorem w_X5_parcelsWaitingIn_4 {Y : LY} {p : Program} {l : Launch} {e : Env} {s : State} {m : MethodId} {args : Array Value} {below : List Frame} {meth : Method} {c : Code} (C0 : BE Y p s m args meth c cX5_parcelsWaitingIn 4 (Option.some Jvm.ClassFile.FieldType.int) RX5) {r : Int32} (M : Mem) : ∀ (n : Nat) (i0 : Nat) (a1 : Int32) (a2 : Int32) (a3 : Int32), i0 < 11 → f_X5_parcelsWaitingIn_4 M n i0 a1 a2 a3 = some r → ∀ (H : Heap) (locs : List Loc) (ls : Array Slot), HS Y M H → va_S (AZ Y) s.heap H locs → lv_has ls 4 [(0, .ref (YA Y 1 i0)), (1, .int a1), (2, .int a2), (3, .int a3)] → W p l e { frames := 1, cells := 0, slots := 0, locals := 20 } s m args below meth c H locs 0 0 (MQ below (Qi Y r M) args s 0 0 (AZ Y)) (F0 m 4 ls []) := by
  obtain ⟨hx, hb, hr, hml, hown, hA, hlocks, hK, hZ⟩ := id C0
  intro n
  induction n with
  | zero =>
    intro i0 a1 a2 a3 hi0 hf
    cases hf
  | succ n ih =>
    intro i0 a1 a2 a3 hi0 hf H locs ls hH hS hl
    rw [f_X5_parcelsWaitingIn_4] at hf
    refine lv_iload_n hx hb dX5_parcelsWaitingIn_4 rfl (lv_at hl 3 rfl) ?_
    refine lv_aload_n hx hb dX5_parcelsWaitingIn_5 rfl (lv_at hl 0 rfl) ?_
    refine hs_get hx hb (T := TX5) hA inAX5 hown hK hH 1 i0 (show i0 < 11 from by omega) 9 rfl rfl 3 (by decide) (hA _ zt_177) rfl rfl dX5_parcelsWaitingIn_6 ?_
    refine lv_icmp_ge (tgt := 46) hx hb dX5_parcelsWaitingIn_9 (by decide) (fun hc14 => ?_) (fun hc14 => ?_)
    · have hf := if_t hf hc14
      refine lv_iload_n hx hb dX5_parcelsWaitingIn_46 rfl (lv_at hl 2 rfl) ?_
      cases hf
      exact hs_iret C0 hH hS (by decide) (by decide) dX5_parcelsWaitingIn_47
    · have hf := if_f hf hc14
      refine lv_aload_n hx hb dX5_parcelsWaitingIn_12 rfl (lv_at hl 0 rfl) ?_
      refine hs_get hx hb (T := TX5) hA inAX5 hown hK hH 1 i0 (show i0 < 11 from by omega) 9 rfl rfl 2 (by decide) (hA _ zt_175) rfl rfl dX5_parcelsWaitingIn_13 ?_
      refine lv_iload_n hx hb dX5_parcelsWaitingIn_16 rfl (lv_at hl 3 rfl) ?_
      obtain ⟨hg8, hf⟩ := gd_o hf
      have bhg8 := vin_lt hg8
      obtain ⟨hg9, hf⟩ := gd_o hf
      refine hs_aald hx hb hK hH 5 i0 (show i0 < 11 from by omega) 4 rfl rfl hg8 (q := YA Y 6 (ix (M 5 i0 (ix a3)))) rfl dX5_parcelsWaitingIn_17 ?_
      obtain ⟨r11, hq10, hf⟩ := bd_o hf
      refine hs_ci (hs_runV C0 hH hS (n := 0) (As := []) (rest := []) (c_X3_isUnderWay M (ix (M 5 i0 (ix a3))) (show ix (M 5 i0 (ix a3)) < 132 from by omega) hq10) ⟨⟨zt_373, zt_374, zt_375, zt_6, zt_376⟩, rfl, by decide, by decide, by decide +kernel⟩ ⟨rfl, rfl, Nat.le_of_ble_eq_true rfl, Nat.le_of_ble_eq_true rfl⟩ (hs_recv hK hH 6 (ix (M 5 i0 (ix a3))) (show ix (M 5 i0 (ix a3)) < 132 from by omega) 7 rfl rfl) rfl rfl hl.1 (Nat.le_of_ble_eq_true rfl) ⟨Nat.le_of_ble_eq_true rfl, Nat.le_of_ble_eq_true rfl⟩ dX5_parcelsWaitingIn_18) hS (fun H locs hH hS => ?_)
      refine lv_if_ne (tgt := 40) hx hb dX5_parcelsWaitingIn_21 (by decide) (fun hc13 => ?_) (fun hc13 => ?_)
      · have hf := if_f hf hc13
        exact w_X5_parcelsWaitingIn_40 C0 M (f_X5_parcelsWaitingIn_4 M n) ih i0 a1 a2 a3 (show i0 < 11 from by omega) hf _ _ _ hH hS (lv_sub hl [0, 1, 2, 3] rfl)
      · have hf := if_t hf hc13
        refine lv_aload_n hx hb dX5_parcelsWaitingIn_24 rfl (lv_at hl 0 rfl) ?_
        refine hs_get hx hb (T := TX5) hA inAX5 hown hK hH 1 i0 (show i0 < 11 from by omega) 9 rfl rfl 2 (by decide) (hA _ zt_175) rfl rfl dX5_parcelsWaitingIn_25 ?_
        refine lv_iload_n hx hb dX5_parcelsWaitingIn_28 rfl (lv_at hl 3 rfl) ?_
        refine hs_aald hx hb hK hH 5 i0 (show i0 < 11 from by omega) 4 rfl rfl hg8 (q := YA Y 6 (ix (M 5 i0 (ix a3)))) rfl dX5_parcelsWaitingIn_29 ?_
        refine hs_get hx hb (T := TX3) hA inAX3 hown hK hH 6 (ix (M 5 i0 (ix a3))) (show ix (M 5 i0 (ix a3)) < 132 from by omega) 7 rfl rfl 4 (by decide) (hA _ zt_149) rfl rfl dX5_parcelsWaitingIn_30 ?_
        refine lv_iload_n hx hb dX5_parcelsWaitingIn_33 rfl (lv_at hl 1 rfl) ?_
        refine lv_icmp_ne (tgt := 40) hx hb dX5_parcelsWaitingIn_34 (by decide) (fun hc12 => ?_) (fun hc12 => ?_)
        · have hf := if_f hf hc12
          exact w_X5_parcelsWaitingIn_40 C0 M (f_X5_parcelsWaitingIn_4 M n) ih i0 a1 a2 a3 (show i0 < 11 from by omega) hf _ _ _ hH hS (lv_sub hl [0, 1, 2, 3] rfl)
        · have hf := if_t hf hc12
          refine lv_iinc (v := a2 + (1 : Int32)) (lv' := [(2, .int (a2 + (1 : Int32))), (0, .ref (YA Y 1 i0)), (1, .int a1), (3, .int a3)]) hx hb dX5_parcelsWaitingIn_37 hl (k := 2) rfl rfl (by decide) rfl (fun ls hl => ?_)
          exact w_X5_parcelsWaitingIn_40 C0 M (f_X5_parcelsWaitingIn_4 M n) ih i0 a1 (a2 + (1 : Int32)) a3 (show i0 < 11 from by omega) hf _ _ _ hH hS (lv_sub hl [1, 2, 0, 3] rfl)
def f_X5_parcelsWaitingIn (M : Mem) (i0 : Nat) (a1 : Int32) : Option Int32 := f_X5_parcelsWaitingIn_4 M FU i0 a1 (0 : Int32) (0 : Int32)
set_option maxHeartbeats 4000000 in
set_option maxRecDepth 100000 in
theorem c_X5_parcelsWaitingIn {Y : LY} {l : Launch} (M : Mem) (i0 : Nat) (a1 : Int32) (hi0 : i0 < 11) {r : Int32} (hf : f_X5_parcelsWaitingIn M i0 a1 = some r) : Met l yX5_parcelsWaitingIn (WS yX5_parcelsWaitingIn cX5_parcelsWaitingIn 4 (Option.some Jvm.ClassFile.FieldType.int)) { frames := 1, cells := 0, slots := 0, locals := 20 } (PcM Y M [.ref (YA Y 1 i0), .int a1]) (Qi Y r M) 0 0 (AZ Y) := by
  refine met_mk (lv := [(0, .ref (YA Y 1 i0)), (1, .int a1)]) [.ref (YA Y 1 i0), .int a1] (by decide) rfl rfl (Nat.le_of_ble_eq_true rfl) (fun p e s m below meth c C0 hH ls hl => ?_)
  have hS : va_S (AZ Y) s.heap s.heap [] := va_S.rf
  obtain ⟨hx, hb, hr, hml, hown, hA, hlocks, hK, hZ⟩ := id C0
  unfold f_X5_parcelsWaitingIn at hf
  refine lv_iconst (v := (0 : Int32)) hx hb dX5_parcelsWaitingIn_0 (by decide) ?_
  refine lv_istore_n (lv' := [(2, .int (0 : Int32)), (0, .ref (YA Y 1 i0)), (1, .int a1)]) hx hb dX5_parcelsWaitingIn_1 rfl hl (by decide) rfl (fun ls hl => ?_)
  refine lv_iconst (v := (0 : Int32)) hx hb dX5_parcelsWaitingIn_2 (by decide) ?_
  refine lv_istore_n (lv' := [(3, .int (0 : Int32)), (2, .int (0 : Int32)), (0, .ref (YA Y 1 i0)), (1, .int a1)]) hx hb dX5_parcelsWaitingIn_3 rfl hl (by decide) rfl (fun ls hl => ?_)
  exact w_X5_parcelsWaitingIn_4 C0 M FU i0 a1 (0 : Int32) (0 : Int32) (show i0 < 11 from by omega) hf _ _ _ hH hS (lv_sub hl [2, 3, 1, 0] rfl)
def f_X5_parcelsArrivingWithin_45 (M : Mem) (k4 : Nat → Int32 → Int32 → Int32 → Option Int32) (i0 : Nat) (a1 : Int32) (a2 : Int32) (a3 : Int32) : Option Int32 := k4 i0 a1 a2 (a3 + (1 : Int32))
set_option maxHeartbeats 4000000 in
set_option maxRecDepth 100000 in
theorem w_X5_parcelsArrivingWithin_45 {Y : LY} {p : Program} {l : Launch} {e : Env} {s : State} {m : MethodId} {args : Array Value} {below : List Frame} {meth : Method} {c : Code} (C0 : BE Y p s m args meth c cX5_parcelsArrivingWithin 4 (Option.some Jvm.ClassFile.FieldType.int) RX5) {r : Int32} (M : Mem) (k4 : Nat → Int32 → Int32 → Int32 → Option Int32) (hk4 : ∀ (i0 : Nat) (a1 : Int32) (a2 : Int32) (a3 : Int32), i0 < 11 → k4 i0 a1 a2 a3 = some r → ∀ (H : Heap) (locs : List Loc) (ls : Array Slot), HS Y M H → va_S (AZ Y) s.heap H locs → lv_has ls 4 [(0, .ref (YA Y 1 i0)), (1, .int a1), (2, .int a2), (3, .int a3)] → W p l e { frames := 1, cells := 0, slots := 0, locals := 20 } s m args below meth c H locs 0 0 (MQ below (Qi Y r M) args s 0 0 (AZ Y)) (F0 m 4 ls [])) : ∀ (i0 : Nat) (a1 : Int32) (a2 : Int32) (a3 : Int32), i0 < 11 → f_X5_parcelsArrivingWithin_45 M k4 i0 a1 a2 a3 = some r → ∀ (H : Heap) (locs : List Loc) (ls : Array Slot), HS Y M H → va_S (AZ Y) s.heap H locs → lv_has ls 4 [(0, .ref (YA Y 1 i0)), (1, .int a1), (2, .int a2), (3, .int a3)] → W p l e { frames := 1, cells := 0, slots := 0, locals := 20 } s m args below meth c H locs 0 0 (MQ below (Qi Y r M) args s 0 0 (AZ Y)) (F0 m 45 ls []) := by
  obtain ⟨hx, hb, hr, hml, hown, hA, hlocks, hK, hZ⟩ := id C0
  intro i0 a1 a2 a3 hi0 hf H locs ls hH hS hl
  unfold f_X5_parcelsArrivingWithin_45 at hf
  refine lv_iinc (v := a3 + (1 : Int32)) (lv' := [(3, .int (a3 + (1 : Int32))), (0, .ref (YA Y 1 i0)), (1, .int a1), (2, .int a2)]) hx hb dX5_parcelsArrivingWithin_45 hl (k := 3) rfl rfl (by decide) rfl (fun ls hl => ?_)
  refine lv_goto (tgt := 4) hx hb dX5_parcelsArrivingWithin_48 (by decide) ?_
  exact hk4 i0 a1 a2 (a3 + (1 : Int32)) (show i0 < 11 from by omega) hf _ _ _ hH hS (lv_sub hl [1, 2, 3, 0] rfl)
def f_X5_parcelsArrivingWithin_4 (M : Mem) : Nat → Nat → Int32 → Int32 → Int32 → Option Int32
  | 0, _, _, _, _ => none
  | n + 1, i0, a1, a2, a3 => (if (M 1 i0 3) ≤ a3 then some a2 else if vin a3 12 then (if ix (M 5 i0 (ix a3)) < 132 then (bd (f_X3_isUnderWay M (ix (M 5 i0 (ix a3)))) fun r11 => (if r11 = 0 then f_X5_parcelsArrivingWithin_45 M (f_X5_parcelsArrivingWithin_4 M n) i0 a1 a2 a3 else (if ((M 1 i0 4) + a1) < (M 6 (ix (M 5 i0 (ix a3))) 6) then f_X5_parcelsArrivingWithin_45 M (f_X5_parcelsArrivingWithin_4 M n) i0 a1 a2 a3 else f_X5_parcelsArrivingWithin_45 M (f_X5_parcelsArrivingWithin_4 M n) i0 a1 (a2 + (1 : Int32)) a3))) else none) else none)
set_option maxHeartbeats 4000000 in
set_option maxRecDepth 100000 in
theorem w_X5_parcelsArrivingWithin_4 {Y : LY} {p : Program} {l : Launch} {e : Env} {s : State} {m : MethodId} {args : Array Value} {below : List Frame} {meth : Method} {c : Code} (C0 : BE Y p s m args meth c cX5_parcelsArrivingWithin 4 (Option.some Jvm.ClassFile.FieldType.int) RX5) {r : Int32} (M : Mem) : ∀ (n : Nat) (i0 : Nat) (a1 : Int32) (a2 : Int32) (a3 : Int32), i0 < 11 → f_X5_parcelsArrivingWithin_4 M n i0 a1 a2 a3 = some r → ∀ (H : Heap) (locs : List Loc) (ls : Array Slot), HS Y M H → va_S (AZ Y) s.heap H locs → lv_has ls 4 [(0, .ref (YA Y 1 i0)), (1, .int a1), (2, .int a2), (3, .int a3)] → W p l e { frames := 1, cells := 0, slots := 0, locals := 20 } s m args below meth c H locs 0 0 (MQ below (Qi Y r M) args s 0 0 (AZ Y)) (F0 m 4 ls []) := by
  obtain ⟨hx, hb, hr, hml, hown, hA, hlocks, hK, hZ⟩ := id C0
  intro n
  induction n with
  | zero =>
    intro i0 a1 a2 a3 hi0 hf
    cases hf
  | succ n ih =>
    intro i0 a1 a2 a3 hi0 hf H locs ls hH hS hl
    rw [f_X5_parcelsArrivingWithin_4] at hf
    refine lv_iload_n hx hb dX5_parcelsArrivingWithin_4 rfl (lv_at hl 3 rfl) ?_
    refine lv_aload_n hx hb dX5_parcelsArrivingWithin_5 rfl (lv_at hl 0 rfl) ?_
    refine hs_get hx hb (T := TX5) hA inAX5 hown hK hH 1 i0 (show i0 < 11 from by omega) 9 rfl rfl 3 (by decide) (hA _ zt_177) rfl rfl dX5_parcelsArrivingWithin_6 ?_
    refine lv_icmp_ge (tgt := 51) hx hb dX5_parcelsArrivingWithin_9 (by decide) (fun hc14 => ?_) (fun hc14 => ?_)
    · have hf := if_t hf hc14
      refine lv_iload_n hx hb dX5_parcelsArrivingWithin_51 rfl (lv_at hl 2 rfl) ?_
      cases hf
      exact hs_iret C0 hH hS (by decide) (by decide) dX5_parcelsArrivingWithin_52
    · have hf := if_f hf hc14
      refine lv_aload_n hx hb dX5_parcelsArrivingWithin_12 rfl (lv_at hl 0 rfl) ?_
      refine hs_get hx hb (T := TX5) hA inAX5 hown hK hH 1 i0 (show i0 < 11 from by omega) 9 rfl rfl 2 (by decide) (hA _ zt_175) rfl rfl dX5_parcelsArrivingWithin_13 ?_
      refine lv_iload_n hx hb dX5_parcelsArrivingWithin_16 rfl (lv_at hl 3 rfl) ?_
      obtain ⟨hg8, hf⟩ := gd_o hf
      have bhg8 := vin_lt hg8
      obtain ⟨hg9, hf⟩ := gd_o hf
      refine hs_aald hx hb hK hH 5 i0 (show i0 < 11 from by omega) 4 rfl rfl hg8 (q := YA Y 6 (ix (M 5 i0 (ix a3)))) rfl dX5_parcelsArrivingWithin_17 ?_
      obtain ⟨r11, hq10, hf⟩ := bd_o hf
      refine hs_ci (hs_runV C0 hH hS (n := 0) (As := []) (rest := []) (c_X3_isUnderWay M (ix (M 5 i0 (ix a3))) (show ix (M 5 i0 (ix a3)) < 132 from by omega) hq10) ⟨⟨zt_373, zt_374, zt_375, zt_6, zt_376⟩, rfl, by decide, by decide, by decide +kernel⟩ ⟨rfl, rfl, Nat.le_of_ble_eq_true rfl, Nat.le_of_ble_eq_true rfl⟩ (hs_recv hK hH 6 (ix (M 5 i0 (ix a3))) (show ix (M 5 i0 (ix a3)) < 132 from by omega) 7 rfl rfl) rfl rfl hl.1 (Nat.le_of_ble_eq_true rfl) ⟨Nat.le_of_ble_eq_true rfl, Nat.le_of_ble_eq_true rfl⟩ dX5_parcelsArrivingWithin_18) hS (fun H locs hH hS => ?_)
      refine lv_if_eq (tgt := 45) hx hb dX5_parcelsArrivingWithin_21 (by decide) (fun hc13 => ?_) (fun hc13 => ?_)
      · have hf := if_t hf hc13
        exact w_X5_parcelsArrivingWithin_45 C0 M (f_X5_parcelsArrivingWithin_4 M n) ih i0 a1 a2 a3 (show i0 < 11 from by omega) hf _ _ _ hH hS (lv_sub hl [0, 1, 2, 3] rfl)
      · have hf := if_f hf hc13
        refine lv_aload_n hx hb dX5_parcelsArrivingWithin_24 rfl (lv_at hl 0 rfl) ?_
        refine hs_get hx hb (T := TX5) hA inAX5 hown hK hH 1 i0 (show i0 < 11 from by omega) 9 rfl rfl 2 (by decide) (hA _ zt_175) rfl rfl dX5_parcelsArrivingWithin_25 ?_
        refine lv_iload_n hx hb dX5_parcelsArrivingWithin_28 rfl (lv_at hl 3 rfl) ?_
        refine hs_aald hx hb hK hH 5 i0 (show i0 < 11 from by omega) 4 rfl rfl hg8 (q := YA Y 6 (ix (M 5 i0 (ix a3)))) rfl dX5_parcelsArrivingWithin_29 ?_
        refine hs_get hx hb (T := TX3) hA inAX3 hown hK hH 6 (ix (M 5 i0 (ix a3))) (show ix (M 5 i0 (ix a3)) < 132 from by omega) 7 rfl rfl 6 (by decide) (hA _ zt_155) rfl rfl dX5_parcelsArrivingWithin_30 ?_
        refine lv_aload_n hx hb dX5_parcelsArrivingWithin_33 rfl (lv_at hl 0 rfl) ?_
        refine hs_get hx hb (T := TX5) hA inAX5 hown hK hH 1 i0 (show i0 < 11 from by omega) 9 rfl rfl 4 (by decide) (hA _ zt_179) rfl rfl dX5_parcelsArrivingWithin_34 ?_
        refine lv_iload_n hx hb dX5_parcelsArrivingWithin_37 rfl (lv_at hl 1 rfl) ?_
        refine lv_iadd hx hb dX5_parcelsArrivingWithin_38 ?_
        refine lv_icmp_gt (tgt := 45) hx hb dX5_parcelsArrivingWithin_39 (by decide) (fun hc12 => ?_) (fun hc12 => ?_)
        · have hf := if_t hf hc12
          exact w_X5_parcelsArrivingWithin_45 C0 M (f_X5_parcelsArrivingWithin_4 M n) ih i0 a1 a2 a3 (show i0 < 11 from by omega) hf _ _ _ hH hS (lv_sub hl [0, 1, 2, 3] rfl)
        · have hf := if_f hf hc12
          refine lv_iinc (v := a2 + (1 : Int32)) (lv' := [(2, .int (a2 + (1 : Int32))), (0, .ref (YA Y 1 i0)), (1, .int a1), (3, .int a3)]) hx hb dX5_parcelsArrivingWithin_42 hl (k := 2) rfl rfl (by decide) rfl (fun ls hl => ?_)
          exact w_X5_parcelsArrivingWithin_45 C0 M (f_X5_parcelsArrivingWithin_4 M n) ih i0 a1 (a2 + (1 : Int32)) a3 (show i0 < 11 from by omega) hf _ _ _ hH hS (lv_sub hl [1, 2, 0, 3] rfl)
def f_X5_parcelsArrivingWithin (M : Mem) (i0 : Nat) (a1 : Int32) : Option Int32 := f_X5_parcelsArrivingWithin_4 M FU i0 a1 (0 : Int32) (0 : Int32)
set_option maxHeartbeats 4000000 in
set_option maxRecDepth 100000 in
theorem c_X5_parcelsArrivingWithin {Y : LY} {l : Launch} (M : Mem) (i0 : Nat) (a1 : Int32) (hi0 : i0 < 11) {r : Int32} (hf : f_X5_parcelsArrivingWithin M i0 a1 = some r) : Met l yX5_parcelsArrivingWithin (WS yX5_parcelsArrivingWithin cX5_parcelsArrivingWithin 4 (Option.some Jvm.ClassFile.FieldType.int)) { frames := 1, cells := 0, slots := 0, locals := 20 } (PcM Y M [.ref (YA Y 1 i0), .int a1]) (Qi Y r M) 0 0 (AZ Y) := by
  refine met_mk (lv := [(0, .ref (YA Y 1 i0)), (1, .int a1)]) [.ref (YA Y 1 i0), .int a1] (by decide) rfl rfl (Nat.le_of_ble_eq_true rfl) (fun p e s m below meth c C0 hH ls hl => ?_)
  have hS : va_S (AZ Y) s.heap s.heap [] := va_S.rf
  obtain ⟨hx, hb, hr, hml, hown, hA, hlocks, hK, hZ⟩ := id C0
  unfold f_X5_parcelsArrivingWithin at hf
  refine lv_iconst (v := (0 : Int32)) hx hb dX5_parcelsArrivingWithin_0 (by decide) ?_
  refine lv_istore_n (lv' := [(2, .int (0 : Int32)), (0, .ref (YA Y 1 i0)), (1, .int a1)]) hx hb dX5_parcelsArrivingWithin_1 rfl hl (by decide) rfl (fun ls hl => ?_)
  refine lv_iconst (v := (0 : Int32)) hx hb dX5_parcelsArrivingWithin_2 (by decide) ?_
  refine lv_istore_n (lv' := [(3, .int (0 : Int32)), (2, .int (0 : Int32)), (0, .ref (YA Y 1 i0)), (1, .int a1)]) hx hb dX5_parcelsArrivingWithin_3 rfl hl (by decide) rfl (fun ls hl => ?_)
  exact w_X5_parcelsArrivingWithin_4 C0 M FU i0 a1 (0 : Int32) (0 : Int32) (show i0 < 11 from by omega) hf _ _ _ hH hS (lv_sub hl [2, 3, 1, 0] rfl)
def f_X5_sumOfStamps_4 (M : Mem) : Nat → Nat → Int32 → Int32 → Option Int32
  | 0, _, _, _ => none
  | n + 1, i0, a1, a2 => (if (M 1 i0 3) ≤ a2 then some a1 else if vin a2 12 then (if ix (M 5 i0 (ix a2)) < 132 then (f_X5_sumOfStamps_4 M n i0 (a1 + (M 6 (ix (M 5 i0 (ix a2))) 2)) (a2 + (1 : Int32))) else none) else none)
set_option maxHeartbeats 4000000 in
set_option maxRecDepth 100000 in
theorem w_X5_sumOfStamps_4 {Y : LY} {p : Program} {l : Launch} {e : Env} {s : State} {m : MethodId} {args : Array Value} {below : List Frame} {meth : Method} {c : Code} (C0 : BE Y p s m args meth c cX5_sumOfStamps 3 (Option.some Jvm.ClassFile.FieldType.int) RX5) {r : Int32} (M : Mem) : ∀ (n : Nat) (i0 : Nat) (a1 : Int32) (a2 : Int32), i0 < 11 → f_X5_sumOfStamps_4 M n i0 a1 a2 = some r → ∀ (H : Heap) (locs : List Loc) (ls : Array Slot), HS Y M H → va_S (AZ Y) s.heap H locs → lv_has ls 3 [(0, .ref (YA Y 1 i0)), (1, .int a1), (2, .int a2)] → W p l e { frames := 0, cells := 0, slots := 0, locals := 0 } s m args below meth c H locs 0 0 (MQ below (Qi Y r M) args s 0 0 (AZ Y)) (F0 m 4 ls []) := by
  obtain ⟨hx, hb, hr, hml, hown, hA, hlocks, hK, hZ⟩ := id C0
  intro n
  induction n with
  | zero =>
    intro i0 a1 a2 hi0 hf
    cases hf
  | succ n ih =>
    intro i0 a1 a2 hi0 hf H locs ls hH hS hl
    rw [f_X5_sumOfStamps_4] at hf
    refine lv_iload_n hx hb dX5_sumOfStamps_4 rfl (lv_at hl 2 rfl) ?_
    refine lv_aload_n hx hb dX5_sumOfStamps_5 rfl (lv_at hl 0 rfl) ?_
    refine hs_get hx hb (T := TX5) hA inAX5 hown hK hH 1 i0 (show i0 < 11 from by omega) 9 rfl rfl 3 (by decide) (hA _ zt_177) rfl rfl dX5_sumOfStamps_6 ?_
    refine lv_icmp_ge (tgt := 30) hx hb dX5_sumOfStamps_9 (by decide) (fun hc6 => ?_) (fun hc6 => ?_)
    · have hf := if_t hf hc6
      refine lv_iload_n hx hb dX5_sumOfStamps_30 rfl (lv_at hl 1 rfl) ?_
      cases hf
      exact hs_iret C0 hH hS (by decide) (by decide) dX5_sumOfStamps_31
    · have hf := if_f hf hc6
      refine lv_iload_n hx hb dX5_sumOfStamps_12 rfl (lv_at hl 1 rfl) ?_
      refine lv_aload_n hx hb dX5_sumOfStamps_13 rfl (lv_at hl 0 rfl) ?_
      refine hs_get hx hb (T := TX5) hA inAX5 hown hK hH 1 i0 (show i0 < 11 from by omega) 9 rfl rfl 2 (by decide) (hA _ zt_175) rfl rfl dX5_sumOfStamps_14 ?_
      refine lv_iload_n hx hb dX5_sumOfStamps_17 rfl (lv_at hl 2 rfl) ?_
      obtain ⟨hg4, hf⟩ := gd_o hf
      have bhg4 := vin_lt hg4
      obtain ⟨hg5, hf⟩ := gd_o hf
      refine hs_aald hx hb hK hH 5 i0 (show i0 < 11 from by omega) 4 rfl rfl hg4 (q := YA Y 6 (ix (M 5 i0 (ix a2)))) rfl dX5_sumOfStamps_18 ?_
      refine hs_get hx hb (T := TX3) hA inAX3 hown hK hH 6 (ix (M 5 i0 (ix a2))) (show ix (M 5 i0 (ix a2)) < 132 from by omega) 7 rfl rfl 2 (by decide) (hA _ zt_143) rfl rfl dX5_sumOfStamps_19 ?_
      refine lv_iadd hx hb dX5_sumOfStamps_22 ?_
      refine lv_istore_n (lv' := [(1, .int (a1 + (M 6 (ix (M 5 i0 (ix a2))) 2))), (0, .ref (YA Y 1 i0)), (2, .int a2)]) hx hb dX5_sumOfStamps_23 rfl hl (by decide) rfl (fun ls hl => ?_)
      refine lv_iinc (v := a2 + (1 : Int32)) (lv' := [(2, .int (a2 + (1 : Int32))), (1, .int (a1 + (M 6 (ix (M 5 i0 (ix a2))) 2))), (0, .ref (YA Y 1 i0))]) hx hb dX5_sumOfStamps_24 hl (k := 2) rfl rfl (by decide) rfl (fun ls hl => ?_)
      refine lv_goto (tgt := 4) hx hb dX5_sumOfStamps_27 (by decide) ?_
      exact ih i0 (a1 + (M 6 (ix (M 5 i0 (ix a2))) 2)) (a2 + (1 : Int32)) (show i0 < 11 from by omega) hf _ _ _ hH hS (lv_sub hl [2, 1, 0] rfl)
def f_X5_sumOfStamps (M : Mem) (i0 : Nat) : Option Int32 := f_X5_sumOfStamps_4 M FU i0 (0 : Int32) (0 : Int32)
set_option maxHeartbeats 4000000 in
set_option maxRecDepth 100000 in
theorem c_X5_sumOfStamps {Y : LY} {l : Launch} (M : Mem) (i0 : Nat) (hi0 : i0 < 11) {r : Int32} (hf : f_X5_sumOfStamps M i0 = some r) : Met l yX5_sumOfStamps (WS yX5_sumOfStamps cX5_sumOfStamps 3 (Option.some Jvm.ClassFile.FieldType.int)) { frames := 0, cells := 0, slots := 0, locals := 0 } (PcM Y M [.ref (YA Y 1 i0)]) (Qi Y r M) 0 0 (AZ Y) := by
  refine met_mk (lv := [(0, .ref (YA Y 1 i0))]) [.ref (YA Y 1 i0)] (by decide) rfl rfl (Nat.le_of_ble_eq_true rfl) (fun p e s m below meth c C0 hH ls hl => ?_)
  have hS : va_S (AZ Y) s.heap s.heap [] := va_S.rf
  obtain ⟨hx, hb, hr, hml, hown, hA, hlocks, hK, hZ⟩ := id C0
  unfold f_X5_sumOfStamps at hf
  refine lv_iconst (v := (0 : Int32)) hx hb dX5_sumOfStamps_0 (by decide) ?_
  refine lv_istore_n (lv' := [(1, .int (0 : Int32)), (0, .ref (YA Y 1 i0))]) hx hb dX5_sumOfStamps_1 rfl hl (by decide) rfl (fun ls hl => ?_)
  refine lv_iconst (v := (0 : Int32)) hx hb dX5_sumOfStamps_2 (by decide) ?_
  refine lv_istore_n (lv' := [(2, .int (0 : Int32)), (1, .int (0 : Int32)), (0, .ref (YA Y 1 i0))]) hx hb dX5_sumOfStamps_3 rfl hl (by decide) rfl (fun ls hl => ?_)
  exact w_X5_sumOfStamps_4 C0 M FU i0 (0 : Int32) (0 : Int32) (show i0 < 11 from by omega) hf _ _ _ hH hS (lv_sub hl [2, 1, 0] rfl)
def f_X5_forecastOf_18 (M : Mem) (i0 : Nat) (i1 : Nat) (b0 : Int32) : Option (Int32 × Mem) := bd2 (f_X6_arrivalBySettling M i0 (M 6 i1 4) (M 6 i1 3) b0) fun r9 M8 => some (r9, M8)
set_option maxHeartbeats 4000000 in
set_option maxRecDepth 100000 in
theorem w_X5_forecastOf_18 {Y : LY} {p : Program} {l : Launch} {e : Env} {s : State} {m : MethodId} {args : Array Value} {below : List Frame} {meth : Method} {c : Code} (C0 : BE Y p s m args meth c cX5_forecastOf 3 (Option.some Jvm.ClassFile.FieldType.int) RX5) {r : Int32} {MZ : Mem} : ∀ (M : Mem) (i0 : Nat) (i1 : Nat) (b0 : Int32), i0 < 11 → i1 < 132 → f_X5_forecastOf_18 M i0 i1 b0 = some (r, MZ) → ∀ (H : Heap) (locs : List Loc) (ls : Array Slot), HS Y M H → va_S (AZ Y) s.heap H locs → lv_has ls 3 [(0, .ref (YA Y 1 i0)), (1, .ref (YA Y 6 i1))] → W p l e { frames := 3, cells := 0, slots := 0, locals := 73 } s m args below meth c H locs 0 0 (MQ below (Qi Y r MZ) args s 0 0 (AZ Y)) (F0 m 18 ls [.int b0]) := by
  obtain ⟨hx, hb, hr, hml, hown, hA, hlocks, hK, hZ⟩ := id C0
  intro M i0 i1 b0 hi0 hi1 hf H locs ls hH hS hl
  unfold f_X5_forecastOf_18 at hf
  refine lv_istore_n (lv' := [(2, .int b0), (0, .ref (YA Y 1 i0)), (1, .ref (YA Y 6 i1))]) hx hb dX5_forecastOf_18 rfl hl (by decide) rfl (fun ls hl => ?_)
  refine lv_aload_n hx hb dX5_forecastOf_19 rfl (lv_at hl 1 rfl) ?_
  refine hs_get hx hb (T := TX5) hA inAX5 hown hK hH 1 i0 (show i0 < 11 from by omega) 9 rfl rfl 0 (by decide) (hA _ zt_172) rfl rfl dX5_forecastOf_20 ?_
  refine lv_aload_n hx hb dX5_forecastOf_23 rfl (lv_at hl 1 rfl) ?_
  refine hs_get hx hb (T := TX5) hA inAX5 hown hK hH 1 i0 (show i0 < 11 from by omega) 9 rfl rfl 1 (by decide) (hA _ zt_173) rfl rfl dX5_forecastOf_24 ?_
  refine lv_aload_n hx hb dX5_forecastOf_27 rfl (lv_at hl 2 rfl) ?_
  refine hs_get hx hb (T := TX3) hA inAX3 hown hK hH 6 i1 (show i1 < 132 from by omega) 7 rfl rfl 4 (by decide) (hA _ zt_149) rfl rfl dX5_forecastOf_28 ?_
  refine lv_aload_n hx hb dX5_forecastOf_31 rfl (lv_at hl 2 rfl) ?_
  refine hs_get hx hb (T := TX3) hA inAX3 hown hK hH 6 i1 (show i1 < 132 from by omega) 7 rfl rfl 3 (by decide) (hA _ zt_146) rfl rfl dX5_forecastOf_32 ?_
  refine lv_iload_n hx hb dX5_forecastOf_35 rfl (lv_at hl 0 rfl) ?_
  obtain ⟨r9, M8, hq7, hf⟩ := bd2_o hf
  refine hs_ci (hs_runV C0 hH hS (n := 4) (As := [.ref (YA Y 2 i0), .int (M 6 i1 4), .int (M 6 i1 3), .int b0]) (rest := []) (c_X6_arrivalBySettling M i0 (M 6 i1 4) (M 6 i1 3) b0 (show i0 < 11 from by omega) hq7) ⟨⟨zt_591, zt_592, zt_593, zt_2, zt_594⟩, rfl, by decide, by decide, by decide +kernel⟩ ⟨rfl, rfl, Nat.le_of_ble_eq_true rfl, Nat.le_of_ble_eq_true rfl⟩ (hs_recv hK hH 7 0 (by decide) 10 rfl rfl) rfl rfl hl.1 (Nat.le_of_ble_eq_true rfl) ⟨Nat.le_of_ble_eq_true rfl, Nat.le_of_ble_eq_true rfl⟩ dX5_forecastOf_36) hS (fun H locs hH hS => ?_)
  cases hf
  exact hs_iret C0 hH hS (by decide) (by decide) dX5_forecastOf_39
def f_X5_forecastOf (M : Mem) (i0 : Nat) (i1 : Nat) : Option (Int32 × Mem) := bd (f_X3_isUnderWay M i1) fun r11 => (if r11 = 0 then f_X5_forecastOf_18 M i0 i1 (M 1 i0 4) else f_X5_forecastOf_18 M i0 i1 (M 6 i1 6))
set_option maxHeartbeats 4000000 in
set_option maxRecDepth 100000 in
theorem c_X5_forecastOf {Y : LY} {l : Launch} (M : Mem) (i0 : Nat) (i1 : Nat) (hi0 : i0 < 11) (hi1 : i1 < 132) {r : Int32} {MZ : Mem} (hf : f_X5_forecastOf M i0 i1 = some (r, MZ)) : Met l yX5_forecastOf (WS yX5_forecastOf cX5_forecastOf 3 (Option.some Jvm.ClassFile.FieldType.int)) { frames := 3, cells := 0, slots := 0, locals := 73 } (PcM Y M [.ref (YA Y 1 i0), .ref (YA Y 6 i1)]) (Qi Y r MZ) 0 0 (AZ Y) := by
  refine met_mk (lv := [(0, .ref (YA Y 1 i0)), (1, .ref (YA Y 6 i1))]) [.ref (YA Y 1 i0), .ref (YA Y 6 i1)] (by decide) rfl rfl (Nat.le_of_ble_eq_true rfl) (fun p e s m below meth c C0 hH ls hl => ?_)
  have hS : va_S (AZ Y) s.heap s.heap [] := va_S.rf
  obtain ⟨hx, hb, hr, hml, hown, hA, hlocks, hK, hZ⟩ := id C0
  unfold f_X5_forecastOf at hf
  refine lv_aload_n hx hb dX5_forecastOf_0 rfl (lv_at hl 1 rfl) ?_
  obtain ⟨r11, hq10, hf⟩ := bd_o hf
  refine hs_ci (hs_runV C0 hH hS (n := 0) (As := []) (rest := []) (c_X3_isUnderWay M i1 (show i1 < 132 from by omega) hq10) ⟨⟨zt_373, zt_374, zt_375, zt_6, zt_376⟩, rfl, by decide, by decide, by decide +kernel⟩ ⟨rfl, rfl, Nat.le_of_ble_eq_true rfl, Nat.le_of_ble_eq_true rfl⟩ (hs_recv hK hH 6 i1 (show i1 < 132 from by omega) 7 rfl rfl) rfl rfl hl.1 (Nat.le_of_ble_eq_true rfl) ⟨Nat.le_of_ble_eq_true rfl, Nat.le_of_ble_eq_true rfl⟩ dX5_forecastOf_1) hS (fun H locs hH hS => ?_)
  refine lv_if_eq (tgt := 14) hx hb dX5_forecastOf_4 (by decide) (fun hc12 => ?_) (fun hc12 => ?_)
  · have hf := if_t hf hc12
    refine lv_aload_n hx hb dX5_forecastOf_14 rfl (lv_at hl 0 rfl) ?_
    refine hs_get hx hb (T := TX5) hA inAX5 hown hK hH 1 i0 (show i0 < 11 from by omega) 9 rfl rfl 4 (by decide) (hA _ zt_179) rfl rfl dX5_forecastOf_15 ?_
    exact w_X5_forecastOf_18 C0 M i0 i1 (M 1 i0 4) (show i0 < 11 from by omega) (show i1 < 132 from by omega) hf _ _ _ hH hS (lv_sub hl [0, 1] rfl)
  · have hf := if_f hf hc12
    refine lv_aload_n hx hb dX5_forecastOf_7 rfl (lv_at hl 1 rfl) ?_
    refine hs_get hx hb (T := TX3) hA inAX3 hown hK hH 6 i1 (show i1 < 132 from by omega) 7 rfl rfl 6 (by decide) (hA _ zt_155) rfl rfl dX5_forecastOf_8 ?_
    refine lv_goto (tgt := 18) hx hb dX5_forecastOf_11 (by decide) ?_
    exact w_X5_forecastOf_18 C0 M i0 i1 (M 6 i1 6) (show i0 < 11 from by omega) (show i1 < 132 from by omega) hf _ _ _ hH hS (lv_sub hl [0, 1] rfl)
def f_X6_leaveAllAt_71 (k2 : Mem → Nat → Int32 → Int32 → Option Mem) (M : Mem) (i1 : Nat) (a2 : Int32) (a3 : Int32) : Option Mem := k2 M i1 a2 (a3 + (1 : Int32))
set_option maxHeartbeats 4000000 in
set_option maxRecDepth 100000 in
theorem w_X6_leaveAllAt_71 {Y : LY} {p : Program} {l : Launch} {e : Env} {s : State} {m : MethodId} {args : Array Value} {below : List Frame} {meth : Method} {c : Code} (C0 : BE Y p s m args meth c cX6_leaveAllAt 5 (Option.none : Option Jvm.ClassFile.FieldType) RX6) {MZ : Mem} (k2 : Mem → Nat → Int32 → Int32 → Option Mem) (hk2 : ∀ (M : Mem) (i1 : Nat) (a2 : Int32) (a3 : Int32), i1 < 11 → k2 M i1 a2 a3 = some MZ → ∀ (H : Heap) (locs : List Loc) (ls : Array Slot), HS Y M H → va_S (AZ Y) s.heap H locs → lv_has ls 5 [(0, .ref (YA Y 7 0)), (1, .ref (YA Y 2 i1)), (2, .int a2), (3, .int a3)] → W p l e { frames := 1, cells := 0, slots := 0, locals := 21 } s m args below meth c H locs 0 0 (MQ below (Qv Y MZ) args s 0 0 (AZ Y)) (F0 m 2 ls [])) : ∀ (M : Mem) (i1 : Nat) (a2 : Int32) (a3 : Int32), i1 < 11 → f_X6_leaveAllAt_71 k2 M i1 a2 a3 = some MZ → ∀ (H : Heap) (locs : List Loc) (ls : Array Slot), HS Y M H → va_S (AZ Y) s.heap H locs → lv_has ls 5 [(0, .ref (YA Y 7 0)), (1, .ref (YA Y 2 i1)), (2, .int a2), (3, .int a3)] → W p l e { frames := 1, cells := 0, slots := 0, locals := 21 } s m args below meth c H locs 0 0 (MQ below (Qv Y MZ) args s 0 0 (AZ Y)) (F0 m 71 ls []) := by
  obtain ⟨hx, hb, hr, hml, hown, hA, hlocks, hK, hZ⟩ := id C0
  intro M i1 a2 a3 hi1 hf H locs ls hH hS hl
  unfold f_X6_leaveAllAt_71 at hf
  refine lv_iinc (v := a3 + (1 : Int32)) (lv' := [(3, .int (a3 + (1 : Int32))), (0, .ref (YA Y 7 0)), (1, .ref (YA Y 2 i1)), (2, .int a2)]) hx hb dX6_leaveAllAt_71 hl (k := 3) rfl rfl (by decide) rfl (fun ls hl => ?_)
  refine lv_goto (tgt := 2) hx hb dX6_leaveAllAt_74 (by decide) ?_
  exact hk2 M i1 a2 (a3 + (1 : Int32)) (show i1 < 11 from by omega) hf _ _ _ hH hS (lv_sub hl [1, 2, 3, 0] rfl)
def f_X6_leaveAllAt_2 : Nat → Mem → Nat → Int32 → Int32 → Option Mem
  | 0, _, _, _, _ => none
  | n + 1, M, i1, a2, a3 => (if (M 2 i1 2) ≤ a3 then some M else if vin a3 20 then (if vin (M 4 (20 * i1 + (ix a3)) 0) 9 then ((if a2 < (M 8 0 (ix (M 4 (20 * i1 + (ix a3)) 0))) then f_X6_leaveAllAt_71 (f_X6_leaveAllAt_2 n) M i1 a2 a3 else bd (f_X1_canLeaveAt M (20 * i1 + (ix a3)) a2) fun r13 => (if r13 = 0 then f_X6_leaveAllAt_71 (f_X6_leaveAllAt_2 n) M i1 a2 a3 else if vin (M 4 (20 * i1 + (ix a3)) 1) 9 then (nm (mu M 8 0 (ix (M 4 (20 * i1 + (ix a3)) 1)) (if (a2 + (M 4 (20 * i1 + (ix a3)) 2)) < (M 8 0 (ix (M 4 (20 * i1 + (ix a3)) 1))) then (a2 + (M 4 (20 * i1 + (ix a3)) 2)) else (M 8 0 (ix (M 4 (20 * i1 + (ix a3)) 1))))) fun M15 => f_X6_leaveAllAt_71 (f_X6_leaveAllAt_2 n) M15 i1 a2 a3) else none))) else none) else none)
set_option maxHeartbeats 4000000 in
set_option maxRecDepth 100000 in
theorem w_X6_leaveAllAt_2 {Y : LY} {p : Program} {l : Launch} {e : Env} {s : State} {m : MethodId} {args : Array Value} {below : List Frame} {meth : Method} {c : Code} (C0 : BE Y p s m args meth c cX6_leaveAllAt 5 (Option.none : Option Jvm.ClassFile.FieldType) RX6) {MZ : Mem} : ∀ (n : Nat) (M : Mem) (i1 : Nat) (a2 : Int32) (a3 : Int32), i1 < 11 → f_X6_leaveAllAt_2 n M i1 a2 a3 = some MZ → ∀ (H : Heap) (locs : List Loc) (ls : Array Slot), HS Y M H → va_S (AZ Y) s.heap H locs → lv_has ls 5 [(0, .ref (YA Y 7 0)), (1, .ref (YA Y 2 i1)), (2, .int a2), (3, .int a3)] → W p l e { frames := 1, cells := 0, slots := 0, locals := 21 } s m args below meth c H locs 0 0 (MQ below (Qv Y MZ) args s 0 0 (AZ Y)) (F0 m 2 ls []) := by
  obtain ⟨hx, hb, hr, hml, hown, hA, hlocks, hK, hZ⟩ := id C0
  intro n
  induction n with
  | zero =>
    intro M i1 a2 a3 hi1 hf
    cases hf
  | succ n ih =>
    intro M i1 a2 a3 hi1 hf H locs ls hH hS hl
    rw [f_X6_leaveAllAt_2] at hf
    refine lv_iload_n hx hb dX6_leaveAllAt_2 rfl (lv_at hl 3 rfl) ?_
    refine lv_aload_n hx hb dX6_leaveAllAt_3 rfl (lv_at hl 1 rfl) ?_
    refine hs_get hx hb (T := TX2) hA inAX2 hown hK hH 2 i1 (show i1 < 11 from by omega) 6 rfl rfl 2 (by decide) (hA _ zt_120) rfl rfl dX6_leaveAllAt_4 ?_
    refine lv_icmp_ge (tgt := 77) hx hb dX6_leaveAllAt_7 (by decide) (fun hc18 => ?_) (fun hc18 => ?_)
    · have hf := if_t hf hc18
      cases hf
      exact hs_vret C0 hH hS (by decide) (by decide) dX6_leaveAllAt_77
    · have hf := if_f hf hc18
      refine lv_aload_n hx hb dX6_leaveAllAt_10 rfl (lv_at hl 1 rfl) ?_
      refine hs_get hx hb (T := TX2) hA inAX2 hown hK hH 2 i1 (show i1 < 11 from by omega) 6 rfl rfl 0 (by decide) (hA _ zt_111) rfl rfl dX6_leaveAllAt_11 ?_
      refine lv_iload_n hx hb dX6_leaveAllAt_14 rfl (lv_at hl 3 rfl) ?_
      obtain ⟨hg10, hf⟩ := gd_o hf
      have bhg10 := vin_lt hg10
      refine hs_aald hx hb hK hH 3 i1 (show i1 < 11 from by omega) 3 rfl rfl hg10 (q := YA Y 4 (20 * i1 + (ix a3))) rfl dX6_leaveAllAt_15 ?_
      refine lv_astore (lv' := [(4, .ref (YA Y 4 (20 * i1 + (ix a3)))), (0, .ref (YA Y 7 0)), (1, .ref (YA Y 2 i1)), (2, .int a2), (3, .int a3)]) hx hb dX6_leaveAllAt_16 hl (by decide) rfl (fun ls hl => ?_)
      refine lv_aload_n hx hb dX6_leaveAllAt_18 rfl (lv_at hl 1 rfl) ?_
      refine hs_get hx hb (T := TX6) hA inAX6 hown hK hH 7 0 (by decide) 10 rfl rfl 0 (by decide) (hA _ zt_46) rfl rfl dX6_leaveAllAt_19 ?_
      refine lv_aload hx hb dX6_leaveAllAt_22 (lv_at hl 0 rfl) ?_
      refine hs_get hx hb (T := TX1) hA inAX1 hown hK hH 4 (20 * i1 + (ix a3)) (show 20 * i1 + (ix a3) < 220 from by omega) 5 rfl rfl 0 (by decide) (hA _ zt_79) rfl rfl dX6_leaveAllAt_24 ?_
      obtain ⟨hg11, hf⟩ := gd_o hf
      have bhg11 := vin_lt hg11
      refine hs_iald hx hb hK hH 8 0 (by decide) rfl hg11 rfl dX6_leaveAllAt_27 ?_
      refine lv_iload_n hx hb dX6_leaveAllAt_28 rfl (lv_at hl 3 rfl) ?_
      refine lv_icmp_gt (tgt := 71) hx hb dX6_leaveAllAt_29 (by decide) (fun hc17 => ?_) (fun hc17 => ?_)
      · have hf := if_t hf hc17
        exact w_X6_leaveAllAt_71 C0 (f_X6_leaveAllAt_2 n) ih M i1 a2 a3 (show i1 < 11 from by omega) hf _ _ _ hH hS (lv_sub hl [1, 2, 3, 4] rfl)
      · have hf := if_f hf hc17
        refine lv_aload hx hb dX6_leaveAllAt_32 (lv_at hl 0 rfl) ?_
        refine lv_iload_n hx hb dX6_leaveAllAt_34 rfl (lv_at hl 3 rfl) ?_
        obtain ⟨r13, hq12, hf⟩ := bd_o hf
        refine hs_ci (hs_runV C0 hH hS (n := 1) (As := [.int a2]) (rest := []) (c_X1_canLeaveAt M (20 * i1 + (ix a3)) a2 (show 20 * i1 + (ix a3) < 220 from by omega) hq12) ⟨⟨zt_673, zt_382, zt_383, zt_5, zt_384⟩, rfl, by decide, by decide, by decide +kernel⟩ ⟨rfl, rfl, Nat.le_of_ble_eq_true rfl, Nat.le_of_ble_eq_true rfl⟩ (hs_recv hK hH 4 (20 * i1 + (ix a3)) (show 20 * i1 + (ix a3) < 220 from by omega) 5 rfl rfl) rfl rfl hl.1 (Nat.le_of_ble_eq_true rfl) ⟨Nat.le_of_ble_eq_true rfl, Nat.le_of_ble_eq_true rfl⟩ dX6_leaveAllAt_35) hS (fun H locs hH hS => ?_)
        refine lv_if_eq (tgt := 71) hx hb dX6_leaveAllAt_38 (by decide) (fun hc16 => ?_) (fun hc16 => ?_)
        · have hf := if_t hf hc16
          exact w_X6_leaveAllAt_71 C0 (f_X6_leaveAllAt_2 n) ih M i1 a2 a3 (show i1 < 11 from by omega) hf _ _ _ hH hS (lv_sub hl [1, 2, 3, 4] rfl)
        · have hf := if_f hf hc16
          refine lv_aload_n hx hb dX6_leaveAllAt_41 rfl (lv_at hl 1 rfl) ?_
          refine hs_get hx hb (T := TX6) hA inAX6 hown hK hH 7 0 (by decide) 10 rfl rfl 0 (by decide) (hA _ zt_46) rfl rfl dX6_leaveAllAt_42 ?_
          refine lv_aload hx hb dX6_leaveAllAt_45 (lv_at hl 0 rfl) ?_
          refine hs_get hx hb (T := TX1) hA inAX1 hown hK hH 4 (20 * i1 + (ix a3)) (show 20 * i1 + (ix a3) < 220 from by omega) 5 rfl rfl 1 (by decide) (hA _ zt_84) rfl rfl dX6_leaveAllAt_47 ?_
          refine lv_aload_n hx hb dX6_leaveAllAt_50 rfl (lv_at hl 1 rfl) ?_
          refine hs_get hx hb (T := TX6) hA inAX6 hown hK hH 7 0 (by decide) 10 rfl rfl 0 (by decide) (hA _ zt_46) rfl rfl dX6_leaveAllAt_51 ?_
          refine lv_aload hx hb dX6_leaveAllAt_54 (lv_at hl 0 rfl) ?_
          refine hs_get hx hb (T := TX1) hA inAX1 hown hK hH 4 (20 * i1 + (ix a3)) (show 20 * i1 + (ix a3) < 220 from by omega) 5 rfl rfl 1 (by decide) (hA _ zt_84) rfl rfl dX6_leaveAllAt_56 ?_
          obtain ⟨hg14, hf⟩ := gd_o hf
          have bhg14 := vin_lt hg14
          refine hs_iald hx hb hK hH 8 0 (by decide) rfl hg14 rfl dX6_leaveAllAt_59 ?_
          refine lv_iload_n hx hb dX6_leaveAllAt_60 rfl (lv_at hl 3 rfl) ?_
          refine lv_aload hx hb dX6_leaveAllAt_61 (lv_at hl 0 rfl) ?_
          refine hs_get hx hb (T := TX1) hA inAX1 hown hK hH 4 (20 * i1 + (ix a3)) (show 20 * i1 + (ix a3) < 220 from by omega) 5 rfl rfl 2 (by decide) (hA _ zt_89) rfl rfl dX6_leaveAllAt_63 ?_
          refine lv_iadd hx hb dX6_leaveAllAt_66 ?_
          refine va_mmin hx hb (by rw [hml]; exact hl.1.symm) hown (hA _ zt_612) (hA _ zt_613) (hA _ zt_21) (hA _ zt_614) (Nat.le_of_ble_eq_true rfl) (Nat.le_of_ble_eq_true rfl) (Nat.le_of_ble_eq_true rfl) (Nat.le_of_ble_eq_true rfl) dX6_leaveAllAt_67 ?_
          refine hs_iast hx hb hK hH hS 8 0 (by decide) (fun _ => rfl) hg14 rfl dX6_leaveAllAt_70 (fun H locs hH hS => ?_)
          obtain ⟨M15, eM15, hf⟩ := nm_o hf
          rw [← eM15] at hH
          exact w_X6_leaveAllAt_71 C0 (f_X6_leaveAllAt_2 n) ih M15 i1 a2 a3 (show i1 < 11 from by omega) hf _ _ _ hH hS (lv_sub hl [1, 2, 3, 4] rfl)
def f_X6_leaveAllAt (M : Mem) (i1 : Nat) (a2 : Int32) : Option Mem := f_X6_leaveAllAt_2 FU M i1 a2 (0 : Int32)
set_option maxHeartbeats 4000000 in
set_option maxRecDepth 100000 in
theorem c_X6_leaveAllAt {Y : LY} {l : Launch} (M : Mem) (i1 : Nat) (a2 : Int32) (hi1 : i1 < 11) {MZ : Mem} (hf : f_X6_leaveAllAt M i1 a2 = some MZ) : Met l yX6_leaveAllAt (WS yX6_leaveAllAt cX6_leaveAllAt 5 (Option.none : Option Jvm.ClassFile.FieldType)) { frames := 1, cells := 0, slots := 0, locals := 21 } (PcM Y M [.ref (YA Y 7 0), .ref (YA Y 2 i1), .int a2]) (Qv Y MZ) 0 0 (AZ Y) := by
  refine met_mk (lv := [(0, .ref (YA Y 7 0)), (1, .ref (YA Y 2 i1)), (2, .int a2)]) [.ref (YA Y 7 0), .ref (YA Y 2 i1), .int a2] (by decide) rfl rfl (Nat.le_of_ble_eq_true rfl) (fun p e s m below meth c C0 hH ls hl => ?_)
  have hS : va_S (AZ Y) s.heap s.heap [] := va_S.rf
  obtain ⟨hx, hb, hr, hml, hown, hA, hlocks, hK, hZ⟩ := id C0
  unfold f_X6_leaveAllAt at hf
  refine lv_iconst (v := (0 : Int32)) hx hb dX6_leaveAllAt_0 (by decide) ?_
  refine lv_istore_n (lv' := [(3, .int (0 : Int32)), (0, .ref (YA Y 7 0)), (1, .ref (YA Y 2 i1)), (2, .int a2)]) hx hb dX6_leaveAllAt_1 rfl hl (by decide) rfl (fun ls hl => ?_)
  exact w_X6_leaveAllAt_2 C0 FU M i1 a2 (0 : Int32) (show i1 < 11 from by omega) hf _ _ _ hH hS (lv_sub hl [1, 2, 3, 0] rfl)
def f_X6_arrivalHourByHour_10 : Nat → Mem → Nat → Int32 → Int32 → Int32 → Option (Int32 × Mem)
  | 0, _, _, _, _, _ => none
  | n + 1, M, i1, a3, a4, a5 => (if (80 : Int32) < a5 then some ((2147483647 : Int32), M) else if vin a3 9 then ((if (M 8 0 (ix a3)) = (a4 + a5) then some ((M 8 0 (ix a3)), M) else bd (f_X6_leaveAllAt M i1 (a4 + a5)) fun M12 => f_X6_arrivalHourByHour_10 n M12 i1 a3 a4 (a5 + (1 : Int32)))) else none)
set_option maxHeartbeats 4000000 in
set_option maxRecDepth 100000 in
theorem w_X6_arrivalHourByHour_10 {Y : LY} {p : Program} {l : Launch} {e : Env} {s : State} {m : MethodId} {args : Array Value} {below : List Frame} {meth : Method} {c : Code} (C0 : BE Y p s m args meth c cX6_arrivalHourByHour 6 (Option.some Jvm.ClassFile.FieldType.int) RX6) {r : Int32} {MZ : Mem} : ∀ (n : Nat) (M : Mem) (i1 : Nat) (a3 : Int32) (a4 : Int32) (a5 : Int32), i1 < 11 → f_X6_arrivalHourByHour_10 n M i1 a3 a4 a5 = some (r, MZ) → ∀ (H : Heap) (locs : List Loc) (ls : Array Slot), HS Y M H → va_S (AZ Y) s.heap H locs → lv_has ls 6 [(0, .ref (YA Y 7 0)), (1, .ref (YA Y 2 i1)), (3, .int a3), (4, .int a4), (5, .int a5)] → W p l e { frames := 2, cells := 0, slots := 0, locals := 45 } s m args below meth c H locs 0 0 (MQ below (Qi Y r MZ) args s 0 0 (AZ Y)) (F0 m 10 ls []) := by
  obtain ⟨hx, hb, hr, hml, hown, hA, hlocks, hK, hZ⟩ := id C0
  intro n
  induction n with
  | zero =>
    intro M i1 a3 a4 a5 hi1 hf
    cases hf
  | succ n ih =>
    intro M i1 a3 a4 a5 hi1 hf H locs ls hH hS hl
    rw [f_X6_arrivalHourByHour_10] at hf
    refine lv_iload hx hb dX6_arrivalHourByHour_10 (lv_at hl 4 rfl) ?_
    refine lv_bipush (v := (80 : Int32)) hx hb dX6_arrivalHourByHour_12 (by decide) ?_
    refine lv_icmp_gt (tgt := 54) hx hb dX6_arrivalHourByHour_14 (by decide) (fun hc15 => ?_) (fun hc15 => ?_)
    · have hf := if_t hf hc15
      refine lv_ldc (v := (2147483647 : Int32)) hx hb hown (hA _ zt_599) dX6_arrivalHourByHour_54 ?_
      cases hf
      exact hs_iret C0 hH hS (by decide) (by decide) dX6_arrivalHourByHour_56
    · have hf := if_f hf hc15
      refine lv_aload_n hx hb dX6_arrivalHourByHour_17 rfl (lv_at hl 0 rfl) ?_
      refine hs_get hx hb (T := TX6) hA inAX6 hown hK hH 7 0 (by decide) 10 rfl rfl 0 (by decide) (hA _ zt_46) rfl rfl dX6_arrivalHourByHour_18 ?_
      refine lv_iload_n hx hb dX6_arrivalHourByHour_21 rfl (lv_at hl 2 rfl) ?_
      obtain ⟨hg10, hf⟩ := gd_o hf
      have bhg10 := vin_lt hg10
      refine hs_iald hx hb hK hH 8 0 (by decide) rfl hg10 rfl dX6_arrivalHourByHour_22 ?_
      refine lv_iload hx hb dX6_arrivalHourByHour_23 (lv_at hl 3 rfl) ?_
      refine lv_iload hx hb dX6_arrivalHourByHour_25 (lv_at hl 4 rfl) ?_
      refine lv_iadd hx hb dX6_arrivalHourByHour_27 ?_
      refine lv_icmp_ne (tgt := 38) hx hb dX6_arrivalHourByHour_28 (by decide) (fun hc14 => ?_) (fun hc14 => ?_)
      · have hf := if_f hf hc14
        refine lv_aload_n hx hb dX6_arrivalHourByHour_38 rfl (lv_at hl 0 rfl) ?_
        refine lv_aload_n hx hb dX6_arrivalHourByHour_39 rfl (lv_at hl 1 rfl) ?_
        refine lv_iload hx hb dX6_arrivalHourByHour_40 (lv_at hl 3 rfl) ?_
        refine lv_iload hx hb dX6_arrivalHourByHour_42 (lv_at hl 4 rfl) ?_
        refine lv_iadd hx hb dX6_arrivalHourByHour_44 ?_
        obtain ⟨M12, hq11, hf⟩ := bd_o hf
        refine hs_cv (hs_runV C0 hH hS (n := 2) (As := [.ref (YA Y 2 i1), .int (a4 + a5)]) (rest := []) (c_X6_leaveAllAt M i1 (a4 + a5) (show i1 < 11 from by omega) hq11) ⟨⟨zt_669, zt_671, zs_20, zt_2, zt_672⟩, rfl, by decide, by decide, by decide +kernel⟩ ⟨rfl, rfl, Nat.le_of_ble_eq_true rfl, Nat.le_of_ble_eq_true rfl⟩ (hs_recv hK hH 7 0 (by decide) 10 rfl rfl) rfl rfl hl.1 (Nat.le_of_ble_eq_true rfl) ⟨Nat.le_of_ble_eq_true rfl, Nat.le_of_ble_eq_true rfl⟩ dX6_arrivalHourByHour_45) hS (fun H locs hH hS => ?_)
        refine lv_iinc (v := a5 + (1 : Int32)) (lv' := [(5, .int (a5 + (1 : Int32))), (0, .ref (YA Y 7 0)), (1, .ref (YA Y 2 i1)), (3, .int a3), (4, .int a4)]) hx hb dX6_arrivalHourByHour_48 hl (k := 4) rfl rfl (by decide) rfl (fun ls hl => ?_)
        refine lv_goto (tgt := 10) hx hb dX6_arrivalHourByHour_51 (by decide) ?_
        exact ih M12 i1 a3 a4 (a5 + (1 : Int32)) (show i1 < 11 from by omega) hf _ _ _ hH hS (lv_sub hl [1, 2, 3, 4, 0] rfl)
      · have hf := if_t hf hc14
        refine lv_aload_n hx hb dX6_arrivalHourByHour_31 rfl (lv_at hl 0 rfl) ?_
        refine hs_get hx hb (T := TX6) hA inAX6 hown hK hH 7 0 (by decide) 10 rfl rfl 0 (by decide) (hA _ zt_46) rfl rfl dX6_arrivalHourByHour_32 ?_
        refine lv_iload_n hx hb dX6_arrivalHourByHour_35 rfl (lv_at hl 2 rfl) ?_
        refine hs_iald hx hb hK hH 8 0 (by decide) rfl hg10 rfl dX6_arrivalHourByHour_36 ?_
        cases hf
        exact hs_iret C0 hH hS (by decide) (by decide) dX6_arrivalHourByHour_37
def f_X6_arrivalHourByHour (M : Mem) (i1 : Nat) (a2 : Int32) (a3 : Int32) (a4 : Int32) : Option (Int32 × Mem) := bd (f_X6_startIn M a2 a4) fun M17 => f_X6_arrivalHourByHour_10 FU M17 i1 a3 a4 (0 : Int32)
set_option maxHeartbeats 4000000 in
set_option maxRecDepth 100000 in
theorem c_X6_arrivalHourByHour {Y : LY} {l : Launch} (M : Mem) (i1 : Nat) (a2 : Int32) (a3 : Int32) (a4 : Int32) (hi1 : i1 < 11) {r : Int32} {MZ : Mem} (hf : f_X6_arrivalHourByHour M i1 a2 a3 a4 = some (r, MZ)) : Met l yX6_arrivalHourByHour (WS yX6_arrivalHourByHour cX6_arrivalHourByHour 6 (Option.some Jvm.ClassFile.FieldType.int)) { frames := 2, cells := 0, slots := 0, locals := 45 } (PcM Y M [.ref (YA Y 7 0), .ref (YA Y 2 i1), .int a2, .int a3, .int a4]) (Qi Y r MZ) 0 0 (AZ Y) := by
  refine met_mk (lv := [(0, .ref (YA Y 7 0)), (1, .ref (YA Y 2 i1)), (2, .int a2), (3, .int a3), (4, .int a4)]) [.ref (YA Y 7 0), .ref (YA Y 2 i1), .int a2, .int a3, .int a4] (by decide) rfl rfl (Nat.le_of_ble_eq_true rfl) (fun p e s m below meth c C0 hH ls hl => ?_)
  have hS : va_S (AZ Y) s.heap s.heap [] := va_S.rf
  obtain ⟨hx, hb, hr, hml, hown, hA, hlocks, hK, hZ⟩ := id C0
  unfold f_X6_arrivalHourByHour at hf
  refine lv_aload_n hx hb dX6_arrivalHourByHour_0 rfl (lv_at hl 0 rfl) ?_
  refine lv_iload_n hx hb dX6_arrivalHourByHour_1 rfl (lv_at hl 2 rfl) ?_
  refine lv_iload hx hb dX6_arrivalHourByHour_2 (lv_at hl 4 rfl) ?_
  obtain ⟨M17, hq16, hf⟩ := bd_o hf
  refine hs_cv (hs_runV C0 hH hS (n := 2) (As := [.int a2, .int a4]) (rest := []) (c_X6_startIn M a2 a4 hq16) ⟨⟨zt_595, zt_597, zs_15, zt_2, zt_598⟩, rfl, by decide, by decide, by decide +kernel⟩ ⟨rfl, rfl, Nat.le_of_ble_eq_true rfl, Nat.le_of_ble_eq_true rfl⟩ (hs_recv hK hH 7 0 (by decide) 10 rfl rfl) rfl rfl hl.1 (Nat.le_of_ble_eq_true rfl) ⟨Nat.le_of_ble_eq_true rfl, Nat.le_of_ble_eq_true rfl⟩ dX6_arrivalHourByHour_4) hS (fun H locs hH hS => ?_)
  refine lv_iconst (v := (0 : Int32)) hx hb dX6_arrivalHourByHour_7 (by decide) ?_
  refine lv_istore (lv' := [(5, .int (0 : Int32)), (0, .ref (YA Y 7 0)), (1, .ref (YA Y 2 i1)), (2, .int a2), (3, .int a3), (4, .int a4)]) hx hb dX6_arrivalHourByHour_8 hl (by decide) rfl (fun ls hl => ?_)
  exact w_X6_arrivalHourByHour_10 C0 FU M17 i1 a3 a4 (0 : Int32) (show i1 < 11 from by omega) hf _ _ _ hH hS (lv_sub hl [1, 2, 4, 5, 0] rfl)
def f_X6_placesFirstReachedIn_75 (k5 : Mem → Nat → Int32 → Int32 → Int32 → Option (Int32 × Mem)) (M : Mem) (i1 : Nat) (a2 : Int32) (a3 : Int32) (a4 : Int32) : Option (Int32 × Mem) := k5 M i1 a2 a3 (a4 + (1 : Int32))
set_option maxHeartbeats 4000000 in
set_option maxRecDepth 100000 in
theorem w_X6_placesFirstReachedIn_75 {Y : LY} {p : Program} {l : Launch} {e : Env} {s : State} {m : MethodId} {args : Array Value} {below : List Frame} {meth : Method} {c : Code} (C0 : BE Y p s m args meth c cX6_placesFirstReachedIn 6 (Option.some Jvm.ClassFile.FieldType.int) RX6) {r : Int32} {MZ : Mem} (k5 : Mem → Nat → Int32 → Int32 → Int32 → Option (Int32 × Mem)) (hk5 : ∀ (M : Mem) (i1 : Nat) (a2 : Int32) (a3 : Int32) (a4 : Int32), i1 < 11 → k5 M i1 a2 a3 a4 = some (r, MZ) → ∀ (H : Heap) (locs : List Loc) (ls : Array Slot), HS Y M H → va_S (AZ Y) s.heap H locs → lv_has ls 6 [(0, .ref (YA Y 7 0)), (1, .ref (YA Y 2 i1)), (2, .int a2), (3, .int a3), (4, .int a4)] → W p l e { frames := 0, cells := 0, slots := 0, locals := 0 } s m args below meth c H locs 0 0 (MQ below (Qi Y r MZ) args s 0 0 (AZ Y)) (F0 m 5 ls [])) : ∀ (M : Mem) (i1 : Nat) (a2 : Int32) (a3 : Int32) (a4 : Int32), i1 < 11 → f_X6_placesFirstReachedIn_75 k5 M i1 a2 a3 a4 = some (r, MZ) → ∀ (H : Heap) (locs : List Loc) (ls : Array Slot), HS Y M H → va_S (AZ Y) s.heap H locs → lv_has ls 6 [(0, .ref (YA Y 7 0)), (1, .ref (YA Y 2 i1)), (2, .int a2), (3, .int a3), (4, .int a4)] → W p l e { frames := 0, cells := 0, slots := 0, locals := 0 } s m args below meth c H locs 0 0 (MQ below (Qi Y r MZ) args s 0 0 (AZ Y)) (F0 m 75 ls []) := by
  obtain ⟨hx, hb, hr, hml, hown, hA, hlocks, hK, hZ⟩ := id C0
  intro M i1 a2 a3 a4 hi1 hf H locs ls hH hS hl
  unfold f_X6_placesFirstReachedIn_75 at hf
  refine lv_iinc (v := a4 + (1 : Int32)) (lv' := [(4, .int (a4 + (1 : Int32))), (0, .ref (YA Y 7 0)), (1, .ref (YA Y 2 i1)), (2, .int a2), (3, .int a3)]) hx hb dX6_placesFirstReachedIn_75 hl (k := 4) rfl rfl (by decide) rfl (fun ls hl => ?_)
  refine lv_goto (tgt := 5) hx hb dX6_placesFirstReachedIn_78 (by decide) ?_
  exact hk5 M i1 a2 a3 (a4 + (1 : Int32)) (show i1 < 11 from by omega) hf _ _ _ hH hS (lv_sub hl [1, 2, 3, 4, 0] rfl)
def f_X6_placesFirstReachedIn_5 : Nat → Mem → Nat → Int32 → Int32 → Int32 → Option (Int32 × Mem)
  | 0, _, _, _, _, _ => none
  | n + 1, M, i1, a2, a3, a4 => (if (M 2 i1 2) ≤ a4 then some (a3, M) else if vin a4 20 then ((if (M 4 (20 * i1 + (ix a4)) 4) = 0 then if vin (M 4 (20 * i1 + (ix a4)) 0) 9 then ((if (M 10 0 (ix (M 4 (20 * i1 + (ix a4)) 0))) = (a2 - (1 : Int32)) then if vin (M 4 (20 * i1 + (ix a4)) 1) 9 then ((if (M 10 0 (ix (M 4 (20 * i1 + (ix a4)) 1))) = (-1 : Int32) then nm (mu M 10 0 (ix (M 4 (20 * i1 + (ix a4)) 1)) a2) fun M12 => f_X6_placesFirstReachedIn_75 (f_X6_placesFirstReachedIn_5 n) M12 i1 a2 (a3 + (1 : Int32)) a4 else f_X6_placesFirstReachedIn_75 (f_X6_placesFirstReachedIn_5 n) M i1 a2 a3 a4)) else none else f_X6_placesFirstReachedIn_75 (f_X6_placesFirstReachedIn_5 n) M i1 a2 a3 a4)) else none else f_X6_placesFirstReachedIn_75 (f_X6_placesFirstReachedIn_5 n) M i1 a2 a3 a4)) else none)
set_option maxHeartbeats 4000000 in
set_option maxRecDepth 100000 in
theorem w_X6_placesFirstReachedIn_5 {Y : LY} {p : Program} {l : Launch} {e : Env} {s : State} {m : MethodId} {args : Array Value} {below : List Frame} {meth : Method} {c : Code} (C0 : BE Y p s m args meth c cX6_placesFirstReachedIn 6 (Option.some Jvm.ClassFile.FieldType.int) RX6) {r : Int32} {MZ : Mem} : ∀ (n : Nat) (M : Mem) (i1 : Nat) (a2 : Int32) (a3 : Int32) (a4 : Int32), i1 < 11 → f_X6_placesFirstReachedIn_5 n M i1 a2 a3 a4 = some (r, MZ) → ∀ (H : Heap) (locs : List Loc) (ls : Array Slot), HS Y M H → va_S (AZ Y) s.heap H locs → lv_has ls 6 [(0, .ref (YA Y 7 0)), (1, .ref (YA Y 2 i1)), (2, .int a2), (3, .int a3), (4, .int a4)] → W p l e { frames := 0, cells := 0, slots := 0, locals := 0 } s m args below meth c H locs 0 0 (MQ below (Qi Y r MZ) args s 0 0 (AZ Y)) (F0 m 5 ls []) := by
  obtain ⟨hx, hb, hr, hml, hown, hA, hlocks, hK, hZ⟩ := id C0
  intro n
  induction n with
  | zero =>
    intro M i1 a2 a3 a4 hi1 hf
    cases hf
  | succ n ih =>
    intro M i1 a2 a3 a4 hi1 hf H locs ls hH hS hl
    rw [f_X6_placesFirstReachedIn_5] at hf
    refine lv_iload hx hb dX6_placesFirstReachedIn_5 (lv_at hl 4 rfl) ?_
    refine lv_aload_n hx hb dX6_placesFirstReachedIn_7 rfl (lv_at hl 1 rfl) ?_
    refine hs_get hx hb (T := TX2) hA inAX2 hown hK hH 2 i1 (show i1 < 11 from by omega) 6 rfl rfl 2 (by decide) (hA _ zt_120) rfl rfl dX6_placesFirstReachedIn_8 ?_
    refine lv_icmp_ge (tgt := 81) hx hb dX6_placesFirstReachedIn_11 (by decide) (fun hc16 => ?_) (fun hc16 => ?_)
    · have hf := if_t hf hc16
      refine lv_iload_n hx hb dX6_placesFirstReachedIn_81 rfl (lv_at hl 3 rfl) ?_
      cases hf
      exact hs_iret C0 hH hS (by decide) (by decide) dX6_placesFirstReachedIn_82
    · have hf := if_f hf hc16
      refine lv_aload_n hx hb dX6_placesFirstReachedIn_14 rfl (lv_at hl 1 rfl) ?_
      refine hs_get hx hb (T := TX2) hA inAX2 hown hK hH 2 i1 (show i1 < 11 from by omega) 6 rfl rfl 0 (by decide) (hA _ zt_111) rfl rfl dX6_placesFirstReachedIn_15 ?_
      refine lv_iload hx hb dX6_placesFirstReachedIn_18 (lv_at hl 4 rfl) ?_
      obtain ⟨hg9, hf⟩ := gd_o hf
      have bhg9 := vin_lt hg9
      refine hs_aald hx hb hK hH 3 i1 (show i1 < 11 from by omega) 3 rfl rfl hg9 (q := YA Y 4 (20 * i1 + (ix a4))) rfl dX6_placesFirstReachedIn_20 ?_
      refine lv_astore (lv' := [(5, .ref (YA Y 4 (20 * i1 + (ix a4)))), (0, .ref (YA Y 7 0)), (1, .ref (YA Y 2 i1)), (2, .int a2), (3, .int a3), (4, .int a4)]) hx hb dX6_placesFirstReachedIn_21 hl (by decide) rfl (fun ls hl => ?_)
      refine lv_aload hx hb dX6_placesFirstReachedIn_23 (lv_at hl 0 rfl) ?_
      refine hs_get hx hb (T := TX1) hA inAX1 hown hK hH 4 (20 * i1 + (ix a4)) (show 20 * i1 + (ix a4) < 220 from by omega) 5 rfl rfl 4 (by decide) (hA _ zt_96) rfl rfl dX6_placesFirstReachedIn_25 ?_
      refine lv_if_ne (tgt := 75) hx hb dX6_placesFirstReachedIn_28 (by decide) (fun hc15 => ?_) (fun hc15 => ?_)
      · have hf := if_f hf hc15
        exact w_X6_placesFirstReachedIn_75 C0 (f_X6_placesFirstReachedIn_5 n) ih M i1 a2 a3 a4 (show i1 < 11 from by omega) hf _ _ _ hH hS (lv_sub hl [1, 2, 3, 4, 5] rfl)
      · have hf := if_t hf hc15
        refine lv_aload_n hx hb dX6_placesFirstReachedIn_31 rfl (lv_at hl 1 rfl) ?_
        refine hs_get hx hb (T := TX6) hA inAX6 hown hK hH 7 0 (by decide) 10 rfl rfl 2 (by decide) (hA _ zt_48) rfl rfl dX6_placesFirstReachedIn_32 ?_
        refine lv_aload hx hb dX6_placesFirstReachedIn_35 (lv_at hl 0 rfl) ?_
        refine hs_get hx hb (T := TX1) hA inAX1 hown hK hH 4 (20 * i1 + (ix a4)) (show 20 * i1 + (ix a4) < 220 from by omega) 5 rfl rfl 0 (by decide) (hA _ zt_79) rfl rfl dX6_placesFirstReachedIn_37 ?_
        obtain ⟨hg10, hf⟩ := gd_o hf
        have bhg10 := vin_lt hg10
        refine hs_iald hx hb hK hH 10 0 (by decide) rfl hg10 rfl dX6_placesFirstReachedIn_40 ?_
        refine lv_iload_n hx hb dX6_placesFirstReachedIn_41 rfl (lv_at hl 3 rfl) ?_
        refine lv_iconst (v := (1 : Int32)) hx hb dX6_placesFirstReachedIn_42 (by decide) ?_
        refine lv_isub hx hb dX6_placesFirstReachedIn_43 ?_
        refine lv_icmp_ne (tgt := 75) hx hb dX6_placesFirstReachedIn_44 (by decide) (fun hc14 => ?_) (fun hc14 => ?_)
        · have hf := if_f hf hc14
          exact w_X6_placesFirstReachedIn_75 C0 (f_X6_placesFirstReachedIn_5 n) ih M i1 a2 a3 a4 (show i1 < 11 from by omega) hf _ _ _ hH hS (lv_sub hl [1, 2, 3, 4, 5] rfl)
        · have hf := if_t hf hc14
          refine lv_aload_n hx hb dX6_placesFirstReachedIn_47 rfl (lv_at hl 1 rfl) ?_
          refine hs_get hx hb (T := TX6) hA inAX6 hown hK hH 7 0 (by decide) 10 rfl rfl 2 (by decide) (hA _ zt_48) rfl rfl dX6_placesFirstReachedIn_48 ?_
          refine lv_aload hx hb dX6_placesFirstReachedIn_51 (lv_at hl 0 rfl) ?_
          refine hs_get hx hb (T := TX1) hA inAX1 hown hK hH 4 (20 * i1 + (ix a4)) (show 20 * i1 + (ix a4) < 220 from by omega) 5 rfl rfl 1 (by decide) (hA _ zt_84) rfl rfl dX6_placesFirstReachedIn_53 ?_
          obtain ⟨hg11, hf⟩ := gd_o hf
          have bhg11 := vin_lt hg11
          refine hs_iald hx hb hK hH 10 0 (by decide) rfl hg11 rfl dX6_placesFirstReachedIn_56 ?_
          refine lv_iconst (v := (-1 : Int32)) hx hb dX6_placesFirstReachedIn_57 (by decide) ?_
          refine lv_icmp_ne (tgt := 75) hx hb dX6_placesFirstReachedIn_58 (by decide) (fun hc13 => ?_) (fun hc13 => ?_)
          · have hf := if_f hf hc13
            exact w_X6_placesFirstReachedIn_75 C0 (f_X6_placesFirstReachedIn_5 n) ih M i1 a2 a3 a4 (show i1 < 11 from by omega) hf _ _ _ hH hS (lv_sub hl [1, 2, 3, 4, 5] rfl)
          · have hf := if_t hf hc13
            refine lv_aload_n hx hb dX6_placesFirstReachedIn_61 rfl (lv_at hl 1 rfl) ?_
            refine hs_get hx hb (T := TX6) hA inAX6 hown hK hH 7 0 (by decide) 10 rfl rfl 2 (by decide) (hA _ zt_48) rfl rfl dX6_placesFirstReachedIn_62 ?_
            refine lv_aload hx hb dX6_placesFirstReachedIn_65 (lv_at hl 0 rfl) ?_
            refine hs_get hx hb (T := TX1) hA inAX1 hown hK hH 4 (20 * i1 + (ix a4)) (show 20 * i1 + (ix a4) < 220 from by omega) 5 rfl rfl 1 (by decide) (hA _ zt_84) rfl rfl dX6_placesFirstReachedIn_67 ?_
            refine lv_iload_n hx hb dX6_placesFirstReachedIn_70 rfl (lv_at hl 3 rfl) ?_
            refine hs_iast hx hb hK hH hS 10 0 (by decide) (fun _ => rfl) hg11 rfl dX6_placesFirstReachedIn_71 (fun H locs hH hS => ?_)
            obtain ⟨M12, eM12, hf⟩ := nm_o hf
            rw [← eM12] at hH
            refine lv_iinc (v := a3 + (1 : Int32)) (lv' := [(3, .int (a3 + (1 : Int32))), (5, .ref (YA Y 4 (20 * i1 + (ix a4)))), (0, .ref (YA Y 7 0)), (1, .ref (YA Y 2 i1)), (2, .int a2), (4, .int a4)]) hx hb dX6_placesFirstReachedIn_72 hl (k := 4) rfl rfl (by decide) rfl (fun ls hl => ?_)
            exact w_X6_placesFirstReachedIn_75 C0 (f_X6_placesFirstReachedIn_5 n) ih M12 i1 a2 (a3 + (1 : Int32)) a4 (show i1 < 11 from by omega) hf _ _ _ hH hS (lv_sub hl [2, 3, 4, 0, 5] rfl)
def f_X6_placesFirstReachedIn (M : Mem) (i1 : Nat) (a2 : Int32) : Option (Int32 × Mem) := f_X6_placesFirstReachedIn_5 FU M i1 a2 (0 : Int32) (0 : Int32)
set_option maxHeartbeats 4000000 in
set_option maxRecDepth 100000 in
theorem c_X6_placesFirstReachedIn {Y : LY} {l : Launch} (M : Mem) (i1 : Nat) (a2 : Int32) (hi1 : i1 < 11) {r : Int32} {MZ : Mem} (hf : f_X6_placesFirstReachedIn M i1 a2 = some (r, MZ)) : Met l yX6_placesFirstReachedIn (WS yX6_placesFirstReachedIn cX6_placesFirstReachedIn 6 (Option.some Jvm.ClassFile.FieldType.int)) { frames := 0, cells := 0, slots := 0, locals := 0 } (PcM Y M [.ref (YA Y 7 0), .ref (YA Y 2 i1), .int a2]) (Qi Y r MZ) 0 0 (AZ Y) := by
  refine met_mk (lv := [(0, .ref (YA Y 7 0)), (1, .ref (YA Y 2 i1)), (2, .int a2)]) [.ref (YA Y 7 0), .ref (YA Y 2 i1), .int a2] (by decide) rfl rfl (Nat.le_of_ble_eq_true rfl) (fun p e s m below meth c C0 hH ls hl => ?_)
  have hS : va_S (AZ Y) s.heap s.heap [] := va_S.rf
  obtain ⟨hx, hb, hr, hml, hown, hA, hlocks, hK, hZ⟩ := id C0
  unfold f_X6_placesFirstReachedIn at hf
  refine lv_iconst (v := (0 : Int32)) hx hb dX6_placesFirstReachedIn_0 (by decide) ?_
  refine lv_istore_n (lv' := [(3, .int (0 : Int32)), (0, .ref (YA Y 7 0)), (1, .ref (YA Y 2 i1)), (2, .int a2)]) hx hb dX6_placesFirstReachedIn_1 rfl hl (by decide) rfl (fun ls hl => ?_)
  refine lv_iconst (v := (0 : Int32)) hx hb dX6_placesFirstReachedIn_2 (by decide) ?_
  refine lv_istore (lv' := [(4, .int (0 : Int32)), (3, .int (0 : Int32)), (0, .ref (YA Y 7 0)), (1, .ref (YA Y 2 i1)), (2, .int a2)]) hx hb dX6_placesFirstReachedIn_3 hl (by decide) rfl (fun ls hl => ?_)
  exact w_X6_placesFirstReachedIn_5 C0 FU M i1 a2 (0 : Int32) (0 : Int32) (show i1 < 11 from by omega) hf _ _ _ hH hS (lv_sub hl [2, 3, 4, 1, 0] rfl)
def f_X6_spreadFrom_33 : Nat → Mem → Nat → Int32 → Int32 → Option (Int32 × Mem)
  | 0, _, _, _, _ => none
  | n + 1, M, i1, a3, a4 => (if (M 2 i1 1) ≤ a4 then some (a3, M) else bd2 (f_X6_placesFirstReachedIn M i1 a4) fun r12 M11 => f_X6_spreadFrom_33 n M11 i1 (a3 + r12) (a4 + (1 : Int32)))
set_option maxHeartbeats 4000000 in
set_option maxRecDepth 100000 in
theorem w_X6_spreadFrom_33 {Y : LY} {p : Program} {l : Launch} {e : Env} {s : State} {m : MethodId} {args : Array Value} {below : List Frame} {meth : Method} {c : Code} (C0 : BE Y p s m args meth c cX6_spreadFrom 5 (Option.some Jvm.ClassFile.FieldType.int) RX6) {r : Int32} {MZ : Mem} : ∀ (n : Nat) (M : Mem) (i1 : Nat) (a3 : Int32) (a4 : Int32), i1 < 11 → f_X6_spreadFrom_33 n M i1 a3 a4 = some (r, MZ) → ∀ (H : Heap) (locs : List Loc) (ls : Array Slot), HS Y M H → va_S (AZ Y) s.heap H locs → lv_has ls 5 [(0, .ref (YA Y 7 0)), (1, .ref (YA Y 2 i1)), (3, .int a3), (4, .int a4)] → W p l e { frames := 1, cells := 0, slots := 0, locals := 25 } s m args below meth c H locs 0 0 (MQ below (Qi Y r MZ) args s 0 0 (AZ Y)) (F0 m 33 ls []) := by
  obtain ⟨hx, hb, hr, hml, hown, hA, hlocks, hK, hZ⟩ := id C0
  intro n
  induction n with
  | zero =>
    intro M i1 a3 a4 hi1 hf
    cases hf
  | succ n ih =>
    intro M i1 a3 a4 hi1 hf H locs ls hH hS hl
    rw [f_X6_spreadFrom_33] at hf
    refine lv_iload hx hb dX6_spreadFrom_33 (lv_at hl 3 rfl) ?_
    refine lv_aload_n hx hb dX6_spreadFrom_35 rfl (lv_at hl 1 rfl) ?_
    refine hs_get hx hb (T := TX2) hA inAX2 hown hK hH 2 i1 (show i1 < 11 from by omega) 6 rfl rfl 1 (by decide) (hA _ zt_115) rfl rfl dX6_spreadFrom_36 ?_
    refine lv_icmp_ge (tgt := 58) hx hb dX6_spreadFrom_39 (by decide) (fun hc13 => ?_) (fun hc13 => ?_)
    · have hf := if_t hf hc13
      refine lv_iload_n hx hb dX6_spreadFrom_58 rfl (lv_at hl 2 rfl) ?_
      cases hf
      exact hs_iret C0 hH hS (by decide) (by decide) dX6_spreadFrom_59
    · have hf := if_f hf hc13
      refine lv_iload_n hx hb dX6_spreadFrom_42 rfl (lv_at hl 2 rfl) ?_
      refine lv_aload_n hx hb dX6_spreadFrom_43 rfl (lv_at hl 0 rfl) ?_
      refine lv_aload_n hx hb dX6_spreadFrom_44 rfl (lv_at hl 1 rfl) ?_
      refine lv_iload hx hb dX6_spreadFrom_45 (lv_at hl 3 rfl) ?_
      obtain ⟨r12, M11, hq10, hf⟩ := bd2_o hf
      refine hs_ci (hs_runV C0 hH hS (n := 2) (As := [.ref (YA Y 2 i1), .int a4]) (rest := [.int a3]) (c_X6_placesFirstReachedIn M i1 a4 (show i1 < 11 from by omega) hq10) ⟨⟨zt_973, zt_975, zs_25, zt_2, zt_976⟩, rfl, by decide, by decide, by decide +kernel⟩ ⟨rfl, rfl, Nat.le_of_ble_eq_true rfl, Nat.le_of_ble_eq_true rfl⟩ (hs_recv hK hH 7 0 (by decide) 10 rfl rfl) rfl rfl hl.1 (Nat.le_of_ble_eq_true rfl) ⟨Nat.le_of_ble_eq_true rfl, Nat.le_of_ble_eq_true rfl⟩ dX6_spreadFrom_47) hS (fun H locs hH hS => ?_)
      refine lv_iadd hx hb dX6_spreadFrom_50 ?_
      refine lv_istore_n (lv' := [(3, .int (a3 + r12)), (0, .ref (YA Y 7 0)), (1, .ref (YA Y 2 i1)), (4, .int a4)]) hx hb dX6_spreadFrom_51 rfl hl (by decide) rfl (fun ls hl => ?_)
      refine lv_iinc (v := a4 + (1 : Int32)) (lv' := [(4, .int (a4 + (1 : Int32))), (3, .int (a3 + r12)), (0, .ref (YA Y 7 0)), (1, .ref (YA Y 2 i1))]) hx hb dX6_spreadFrom_52 hl (k := 3) rfl rfl (by decide) rfl (fun ls hl => ?_)
      refine lv_goto (tgt := 33) hx hb dX6_spreadFrom_55 (by decide) ?_
      exact ih M11 i1 (a3 + r12) (a4 + (1 : Int32)) (show i1 < 11 from by omega) hf _ _ _ hH hS (lv_sub hl [2, 3, 1, 0] rfl)
def f_X6_spreadFrom_2 : Nat → Mem → Nat → Int32 → Int32 → Option (Int32 × Mem)
  | 0, _, _, _, _ => none
  | n + 1, M, i1, a2, a3 => (if (9 : Int32) ≤ a3 then if vin a2 9 then (nm (mu M 10 0 (ix a2) (0 : Int32)) fun M15 => f_X6_spreadFrom_33 FU M15 i1 (1 : Int32) (1 : Int32)) else none else if vin a3 9 then (nm (mu M 10 0 (ix a3) (-1 : Int32)) fun M17 => f_X6_spreadFrom_2 n M17 i1 a2 (a3 + (1 : Int32))) else none)
set_option maxHeartbeats 4000000 in
set_option maxRecDepth 100000 in
theorem w_X6_spreadFrom_2 {Y : LY} {p : Program} {l : Launch} {e : Env} {s : State} {m : MethodId} {args : Array Value} {below : List Frame} {meth : Method} {c : Code} (C0 : BE Y p s m args meth c cX6_spreadFrom 5 (Option.some Jvm.ClassFile.FieldType.int) RX6) {r : Int32} {MZ : Mem} : ∀ (n : Nat) (M : Mem) (i1 : Nat) (a2 : Int32) (a3 : Int32), i1 < 11 → f_X6_spreadFrom_2 n M i1 a2 a3 = some (r, MZ) → ∀ (H : Heap) (locs : List Loc) (ls : Array Slot), HS Y M H → va_S (AZ Y) s.heap H locs → lv_has ls 5 [(0, .ref (YA Y 7 0)), (1, .ref (YA Y 2 i1)), (2, .int a2), (3, .int a3)] → W p l e { frames := 1, cells := 0, slots := 0, locals := 25 } s m args below meth c H locs 0 0 (MQ below (Qi Y r MZ) args s 0 0 (AZ Y)) (F0 m 2 ls []) := by
  obtain ⟨hx, hb, hr, hml, hown, hA, hlocks, hK, hZ⟩ := id C0
  intro n
  induction n with
  | zero =>
    intro M i1 a2 a3 hi1 hf
    cases hf
  | succ n ih =>
    intro M i1 a2 a3 hi1 hf H locs ls hH hS hl
    rw [f_X6_spreadFrom_2] at hf
    refine lv_iload_n hx hb dX6_spreadFrom_2 rfl (lv_at hl 3 rfl) ?_
    refine lv_bipush (v := (9 : Int32)) hx hb dX6_spreadFrom_3 (by decide) ?_
    refine lv_icmp_ge (tgt := 21) hx hb dX6_spreadFrom_5 (by decide) (fun hc18 => ?_) (fun hc18 => ?_)
    · have hf := if_t hf hc18
      refine lv_aload_n hx hb dX6_spreadFrom_21 rfl (lv_at hl 0 rfl) ?_
      refine hs_get hx hb (T := TX6) hA inAX6 hown hK hH 7 0 (by decide) 10 rfl rfl 2 (by decide) (hA _ zt_48) rfl rfl dX6_spreadFrom_22 ?_
      refine lv_iload_n hx hb dX6_spreadFrom_25 rfl (lv_at hl 2 rfl) ?_
      refine lv_iconst (v := (0 : Int32)) hx hb dX6_spreadFrom_26 (by decide) ?_
      obtain ⟨hg14, hf⟩ := gd_o hf
      have bhg14 := vin_lt hg14
      refine hs_iast hx hb hK hH hS 10 0 (by decide) (fun _ => rfl) hg14 rfl dX6_spreadFrom_27 (fun H locs hH hS => ?_)
      obtain ⟨M15, eM15, hf⟩ := nm_o hf
      rw [← eM15] at hH
      refine lv_iconst (v := (1 : Int32)) hx hb dX6_spreadFrom_28 (by decide) ?_
      refine lv_istore_n (lv' := [(3, .int (1 : Int32)), (0, .ref (YA Y 7 0)), (1, .ref (YA Y 2 i1)), (2, .int a2)]) hx hb dX6_spreadFrom_29 rfl hl (by decide) rfl (fun ls hl => ?_)
      refine lv_iconst (v := (1 : Int32)) hx hb dX6_spreadFrom_30 (by decide) ?_
      refine lv_istore (lv' := [(4, .int (1 : Int32)), (3, .int (1 : Int32)), (0, .ref (YA Y 7 0)), (1, .ref (YA Y 2 i1)), (2, .int a2)]) hx hb dX6_spreadFrom_31 hl (by decide) rfl (fun ls hl => ?_)
      exact w_X6_spreadFrom_33 C0 FU M15 i1 (1 : Int32) (1 : Int32) (show i1 < 11 from by omega) hf _ _ _ hH hS (lv_sub hl [2, 3, 1, 0] rfl)
    · have hf := if_f hf hc18
      refine lv_aload_n hx hb dX6_spreadFrom_8 rfl (lv_at hl 0 rfl) ?_
      refine hs_get hx hb (T := TX6) hA inAX6 hown hK hH 7 0 (by decide) 10 rfl rfl 2 (by decide) (hA _ zt_48) rfl rfl dX6_spreadFrom_9 ?_
      refine lv_iload_n hx hb dX6_spreadFrom_12 rfl (lv_at hl 3 rfl) ?_
      refine lv_iconst (v := (-1 : Int32)) hx hb dX6_spreadFrom_13 (by decide) ?_
      obtain ⟨hg16, hf⟩ := gd_o hf
      have bhg16 := vin_lt hg16
      refine hs_iast hx hb hK hH hS 10 0 (by decide) (fun _ => rfl) hg16 rfl dX6_spreadFrom_14 (fun H locs hH hS => ?_)
      obtain ⟨M17, eM17, hf⟩ := nm_o hf
      rw [← eM17] at hH
      refine lv_iinc (v := a3 + (1 : Int32)) (lv' := [(3, .int (a3 + (1 : Int32))), (0, .ref (YA Y 7 0)), (1, .ref (YA Y 2 i1)), (2, .int a2)]) hx hb dX6_spreadFrom_15 hl (k := 3) rfl rfl (by decide) rfl (fun ls hl => ?_)
      refine lv_goto (tgt := 2) hx hb dX6_spreadFrom_18 (by decide) ?_
      exact ih M17 i1 a2 (a3 + (1 : Int32)) (show i1 < 11 from by omega) hf _ _ _ hH hS (lv_sub hl [1, 2, 3, 0] rfl)
def f_X6_spreadFrom (M : Mem) (i1 : Nat) (a2 : Int32) : Option (Int32 × Mem) := f_X6_spreadFrom_2 FU M i1 a2 (0 : Int32)
set_option maxHeartbeats 4000000 in
set_option maxRecDepth 100000 in
theorem c_X6_spreadFrom {Y : LY} {l : Launch} (M : Mem) (i1 : Nat) (a2 : Int32) (hi1 : i1 < 11) {r : Int32} {MZ : Mem} (hf : f_X6_spreadFrom M i1 a2 = some (r, MZ)) : Met l yX6_spreadFrom (WS yX6_spreadFrom cX6_spreadFrom 5 (Option.some Jvm.ClassFile.FieldType.int)) { frames := 1, cells := 0, slots := 0, locals := 25 } (PcM Y M [.ref (YA Y 7 0), .ref (YA Y 2 i1), .int a2]) (Qi Y r MZ) 0 0 (AZ Y) := by
  refine met_mk (lv := [(0, .ref (YA Y 7 0)), (1, .ref (YA Y 2 i1)), (2, .int a2)]) [.ref (YA Y 7 0), .ref (YA Y 2 i1), .int a2] (by decide) rfl rfl (Nat.le_of_ble_eq_true rfl) (fun p e s m below meth c C0 hH ls hl => ?_)
  have hS : va_S (AZ Y) s.heap s.heap [] := va_S.rf
  obtain ⟨hx, hb, hr, hml, hown, hA, hlocks, hK, hZ⟩ := id C0
  unfold f_X6_spreadFrom at hf
  refine lv_iconst (v := (0 : Int32)) hx hb dX6_spreadFrom_0 (by decide) ?_
  refine lv_istore_n (lv' := [(3, .int (0 : Int32)), (0, .ref (YA Y 7 0)), (1, .ref (YA Y 2 i1)), (2, .int a2)]) hx hb dX6_spreadFrom_1 rfl hl (by decide) rfl (fun ls hl => ?_)
  exact w_X6_spreadFrom_2 C0 FU M i1 a2 (0 : Int32) (show i1 < 11 from by omega) hf _ _ _ hH hS (lv_sub hl [1, 2, 3, 0] rfl)
def f_X6_stepsBetween (M : Mem) (i1 : Nat) (a2 : Int32) (a3 : Int32) : Option (Int32 × Mem) := bd2 (f_X6_spreadFrom M i1 a2) fun r7 M6 => if vin a3 9 then (some ((M6 10 0 (ix a3)), M6)) else none
set_option maxHeartbeats 4000000 in
set_option maxRecDepth 100000 in
theorem c_X6_stepsBetween {Y : LY} {l : Launch} (M : Mem) (i1 : Nat) (a2 : Int32) (a3 : Int32) (hi1 : i1 < 11) {r : Int32} {MZ : Mem} (hf : f_X6_stepsBetween M i1 a2 a3 = some (r, MZ)) : Met l yX6_stepsBetween (WS yX6_stepsBetween cX6_stepsBetween 4 (Option.some Jvm.ClassFile.FieldType.int)) { frames := 2, cells := 0, slots := 0, locals := 49 } (PcM Y M [.ref (YA Y 7 0), .ref (YA Y 2 i1), .int a2, .int a3]) (Qi Y r MZ) 0 0 (AZ Y) := by
  refine met_mk (lv := [(0, .ref (YA Y 7 0)), (1, .ref (YA Y 2 i1)), (2, .int a2), (3, .int a3)]) [.ref (YA Y 7 0), .ref (YA Y 2 i1), .int a2, .int a3] (by decide) rfl rfl (Nat.le_of_ble_eq_true rfl) (fun p e s m below meth c C0 hH ls hl => ?_)
  have hS : va_S (AZ Y) s.heap s.heap [] := va_S.rf
  obtain ⟨hx, hb, hr, hml, hown, hA, hlocks, hK, hZ⟩ := id C0
  unfold f_X6_stepsBetween at hf
  refine lv_aload_n hx hb dX6_stepsBetween_0 rfl (lv_at hl 0 rfl) ?_
  refine lv_aload_n hx hb dX6_stepsBetween_1 rfl (lv_at hl 1 rfl) ?_
  refine lv_iload_n hx hb dX6_stepsBetween_2 rfl (lv_at hl 2 rfl) ?_
  obtain ⟨r7, M6, hq5, hf⟩ := bd2_o hf
  refine hs_ci (hs_runV C0 hH hS (n := 2) (As := [.ref (YA Y 2 i1), .int a2]) (rest := []) (c_X6_spreadFrom M i1 a2 (show i1 < 11 from by omega) hq5) ⟨⟨zt_969, zt_970, zt_971, zt_2, zt_972⟩, rfl, by decide, by decide, by decide +kernel⟩ ⟨rfl, rfl, Nat.le_of_ble_eq_true rfl, Nat.le_of_ble_eq_true rfl⟩ (hs_recv hK hH 7 0 (by decide) 10 rfl rfl) rfl rfl hl.1 (Nat.le_of_ble_eq_true rfl) ⟨Nat.le_of_ble_eq_true rfl, Nat.le_of_ble_eq_true rfl⟩ dX6_stepsBetween_3) hS (fun H locs hH hS => ?_)
  refine lv_pop hx hb dX6_stepsBetween_6 rfl ?_
  refine lv_aload_n hx hb dX6_stepsBetween_7 rfl (lv_at hl 0 rfl) ?_
  refine hs_get hx hb (T := TX6) hA inAX6 hown hK hH 7 0 (by decide) 10 rfl rfl 2 (by decide) (hA _ zt_48) rfl rfl dX6_stepsBetween_8 ?_
  refine lv_iload_n hx hb dX6_stepsBetween_11 rfl (lv_at hl 3 rfl) ?_
  obtain ⟨hg8, hf⟩ := gd_o hf
  have bhg8 := vin_lt hg8
  refine hs_iald hx hb hK hH 10 0 (by decide) rfl hg8 rfl dX6_stepsBetween_12 ?_
  cases hf
  exact hs_iret C0 hH hS (by decide) (by decide) dX6_stepsBetween_13
def f_X7_throwFor (M : Mem) (a0 : Int32) : Option ((Unit ⊕ Nat) × Mem) := (if a0 = (1 : Int32) then some (.inr 0, M) else (if a0 = (2 : Int32) then some (.inr 1, M) else (if a0 = (3 : Int32) then some (.inr 2, M) else (if a0 = (4 : Int32) then some (.inr 3, M) else some (.inl (), M)))))
set_option maxHeartbeats 4000000 in
set_option maxRecDepth 100000 in
theorem c_X7_throwFor {Y : LY} {l : Launch} (hl9 : l.stackTraces = false) (M : Mem) (a0 : Int32) {x : Unit ⊕ Nat} {MZ : Mem} (hf : f_X7_throwFor M a0 = some (x, MZ)) : vx_Met l yX7_throwFor (WS yX7_throwFor cX7_throwFor 1 (Option.none : Option Jvm.ClassFile.FieldType)) { frames := 6, cells := 1, slots := 6, locals := 90 } (PcM Y M [.int a0]) (Qxv Y x MZ) (Xx Y x MZ) 1 6 (AZ Y) := by
  refine met_mkx (lv := [(0, .int a0)]) [.int a0] (by decide) rfl rfl (Nat.le_of_ble_eq_true rfl) (fun p e s m below meth c C0 hn9 hH ls hl => ?_)
  have hS : va_S (AZ Y) s.heap s.heap [] := va_S.rf
  obtain ⟨hx, hb, hr, hml, hown, hA, hlocks, hK, hZ⟩ := id C0
  unfold f_X7_throwFor at hf
  refine lv_iload_n hx hb dX7_throwFor_0 rfl (lv_at hl 0 rfl) ?_
  by_cases hw5 : a0 = (1 : Int32)
  · have hf := if_t hf hw5
    refine lv_tableIn (tgt := 32) (off := 31) hx hb dX7_throwFor_1 (by rw [hw5]; decide) (by rw [hw5]; decide) (by rw [hw5]; rfl) (by decide) ?_
    cases hf
    exact hx_thr0w C0 hl9 hn9 hH hS hl.1 (is := 347) (text := "there is no such place or link") (by decide +kernel) dX7_throwFor_32 dX7_throwFor_35 dX7_throwFor_36 dX7_throwFor_39 dX7_throwFor_42 ⟨by decide, Nat.le_of_ble_eq_true rfl, by decide, by decide⟩ (by decide) (by decide)
  have hf := if_f hf hw5
  by_cases hw6 : a0 = (2 : Int32)
  · have hf := if_t hf hw6
    refine lv_tableIn (tgt := 43) (off := 42) hx hb dX7_throwFor_1 (by rw [hw6]; decide) (by rw [hw6]; decide) (by rw [hw6]; rfl) (by decide) ?_
    cases hf
    exact hx_thr1w C0 hl9 hn9 hH hS hl.1 (is := 350) (text := "an argument is out of range") (by decide +kernel) dX7_throwFor_43 dX7_throwFor_46 dX7_throwFor_47 dX7_throwFor_50 dX7_throwFor_53 ⟨by decide, Nat.le_of_ble_eq_true rfl, by decide, by decide⟩ (by decide) (by decide)
  have hf := if_f hf hw6
  by_cases hw7 : a0 = (3 : Int32)
  · have hf := if_t hf hw7
    refine lv_tableIn (tgt := 54) (off := 53) hx hb dX7_throwFor_1 (by rw [hw7]; decide) (by rw [hw7]; decide) (by rw [hw7]; rfl) (by decide) ?_
    cases hf
    exact hx_thr2w C0 hl9 hn9 hH hS hl.1 (is := 352) (text := "the service does not allow it now") (by decide +kernel) dX7_throwFor_54 dX7_throwFor_57 dX7_throwFor_58 dX7_throwFor_61 dX7_throwFor_64 ⟨by decide, Nat.le_of_ble_eq_true rfl, by decide, by decide⟩ (by decide) (by decide)
  have hf := if_f hf hw7
  by_cases hw8 : a0 = (4 : Int32)
  · have hf := if_t hf hw8
    refine lv_tableIn (tgt := 65) (off := 64) hx hb dX7_throwFor_1 (by rw [hw8]; decide) (by rw [hw8]; decide) (by rw [hw8]; rfl) (by decide) ?_
    cases hf
    exact hx_thr3w C0 hl9 hn9 hH hS hl.1 (is := 354) (text := "there is no such parcel") (by decide +kernel) dX7_throwFor_65 dX7_throwFor_68 dX7_throwFor_69 dX7_throwFor_72 dX7_throwFor_75 ⟨by decide, Nat.le_of_ble_eq_true rfl, by decide, by decide⟩ (by decide) (by decide)
  have hf := if_f hf hw8
  have ehw5 := lv_neT hw5 (show ((1 : Int32)).toInt = 1 from by decide)
  have ehw6 := lv_neT hw6 (show ((2 : Int32)).toInt = 2 from by decide)
  have ehw7 := lv_neT hw7 (show ((3 : Int32)).toInt = 3 from by decide)
  have ehw8 := lv_neT hw8 (show ((4 : Int32)).toInt = 4 from by decide)
  refine lv_tableOut (tgt := 76) hx hb dX7_throwFor_1 (by omega) (by decide) ?_
  cases hf
  exact hx_vret C0 hH hS (by decide) (by decide) dX7_throwFor_76
def f_X7_change (M : Mem) (a1 : Int32) (a2 : Int32) (a3 : Int32) (a4 : Int32) (a5 : Int32) : Option ((Int32 ⊕ Nat) × Mem) := bd (f_X5_refusalOf M 0 a1 a2 a3 a4 a5) fun r13 => bx (f_X7_throwFor M r13) fun (r16 : Unit) (M15 : Mem) => bd (f_X0_keep M15 0) fun M18 => bd2 (f_X5_carryOut M18 0 a1 a2 a3 a4 a5) fun r22 M21 => some (.inl r22, M21)
set_option maxHeartbeats 4000000 in
set_option maxRecDepth 100000 in
theorem c_X7_change {Y : LY} {l : Launch} (hl9 : l.stackTraces = false) (M : Mem) (a1 : Int32) (a2 : Int32) (a3 : Int32) (a4 : Int32) (a5 : Int32) {x : Int32 ⊕ Nat} {MZ : Mem} (hf : f_X7_change M a1 a2 a3 a4 a5 = some (x, MZ)) : vx_Met l yX7_change (WS yX7_change cX7_change 6 (Option.some Jvm.ClassFile.FieldType.int)) { frames := 7, cells := 1, slots := 6, locals := 147 } (PcM Y M [.ref (YA Y 0 0), .int a1, .int a2, .int a3, .int a4, .int a5]) (Qxi Y x MZ) (Xx Y x MZ) 1 6 (AZ Y) := by
  refine met_mkx (lv := [(0, .ref (YA Y 0 0)), (1, .int a1), (2, .int a2), (3, .int a3), (4, .int a4), (5, .int a5)]) [.ref (YA Y 0 0), .int a1, .int a2, .int a3, .int a4, .int a5] (by decide) rfl rfl (Nat.le_of_ble_eq_true rfl) (fun p e s m below meth c C0 hn9 hH ls hl => ?_)
  have hS : va_S (AZ Y) s.heap s.heap [] := va_S.rf
  obtain ⟨hx, hb, hr, hml, hown, hA, hlocks, hK, hZ⟩ := id C0
  unfold f_X7_change at hf
  refine lv_aload_n hx hb dX7_change_0 rfl (lv_at hl 0 rfl) ?_
  refine hs_get hx hb (T := TX7) hA inAX7 hown hK hH 0 0 (by decide) 11 rfl rfl 0 (by decide) (hA _ zt_292) rfl rfl dX7_change_1 ?_
  refine lv_iload_n hx hb dX7_change_4 rfl (lv_at hl 1 rfl) ?_
  refine lv_iload_n hx hb dX7_change_5 rfl (lv_at hl 2 rfl) ?_
  refine lv_iload_n hx hb dX7_change_6 rfl (lv_at hl 3 rfl) ?_
  refine lv_iload hx hb dX7_change_7 (lv_at hl 4 rfl) ?_
  refine lv_iload hx hb dX7_change_9 (lv_at hl 5 rfl) ?_
  obtain ⟨r13, hq12, hf⟩ := bd_o hf
  refine hs_ci (hs_runV C0 hH hS (n := 5) (As := [.int a1, .int a2, .int a3, .int a4, .int a5]) (rest := []) (c_X5_refusalOf M 0 a1 a2 a3 a4 a5 (by decide) hq12) ⟨⟨zt_334, zt_335, zt_336, zt_3, zt_337⟩, rfl, by decide, by decide, by decide +kernel⟩ ⟨rfl, rfl, Nat.le_of_ble_eq_true rfl, Nat.le_of_ble_eq_true rfl⟩ (hs_recv hK hH 1 0 (by decide) 9 rfl rfl) rfl rfl hl.1 (Nat.le_of_ble_eq_true rfl) ⟨Nat.le_of_ble_eq_true rfl, Nat.le_of_ble_eq_true rfl⟩ dX7_change_11) hS (fun H locs hH hS => ?_)
  obtain ⟨yr16, M15, hq14, hf⟩ := bx_o hf
  refine hx_cv (hx_runS C0 hH hS (n := 1) (As := [.int r13]) (rest := []) (c_X7_throwFor hl9 M r13 hq14) ⟨⟨zt_401, zt_402, zt_1, zt_403⟩, by decide, by decide, by decide +kernel⟩ ⟨rfl, rfl, Nat.le_of_ble_eq_true rfl, Nat.le_of_ble_eq_true rfl⟩ rfl rfl hl.1 (Nat.le_of_ble_eq_true rfl) ⟨Nat.le_of_ble_eq_true rfl, Nat.le_of_ble_eq_true rfl⟩ dX7_change_14) hS C0 hn9 (by decide) (by decide) (fun k e => by subst e; exact bx_p (HS Y) hf) (fun r16 er16 H locs hH hS => ?_)
  subst er16
  have hf := bx_v hf
  refine lv_aload_n hx hb dX7_change_17 rfl (lv_at hl 0 rfl) ?_
  refine hs_get hx hb (T := TX7) hA inAX7 hown hK hH 0 0 (by decide) 11 rfl rfl 5 (by decide) (hA _ zt_297) rfl rfl dX7_change_18 ?_
  refine lv_aload_n hx hb dX7_change_21 rfl (lv_at hl 0 rfl) ?_
  refine hs_get hx hb (T := TX7) hA inAX7 hown hK hH 0 0 (by decide) 11 rfl rfl 0 (by decide) (hA _ zt_292) rfl rfl dX7_change_22 ?_
  obtain ⟨M18, hq17, hf⟩ := bd_o hf
  refine hs_cv (hs_runV C0 hH hS (n := 1) (As := [.ref (YA Y 1 0)]) (rest := []) (c_X0_keep M15 0 (by decide) hq17) ⟨⟨zt_523, zt_524, zt_525, zt_7, zt_526⟩, rfl, by decide, by decide, by decide +kernel⟩ ⟨rfl, rfl, Nat.le_of_ble_eq_true rfl, Nat.le_of_ble_eq_true rfl⟩ (hs_recv hK hH 11 0 (by decide) 4 rfl rfl) rfl rfl hl.1 (Nat.le_of_ble_eq_true rfl) ⟨Nat.le_of_ble_eq_true rfl, Nat.le_of_ble_eq_true rfl⟩ dX7_change_25) hS (fun H locs hH hS => ?_)
  refine lv_aload_n hx hb dX7_change_28 rfl (lv_at hl 0 rfl) ?_
  refine hs_get hx hb (T := TX7) hA inAX7 hown hK hH 0 0 (by decide) 11 rfl rfl 0 (by decide) (hA _ zt_292) rfl rfl dX7_change_29 ?_
  refine lv_iload_n hx hb dX7_change_32 rfl (lv_at hl 1 rfl) ?_
  refine lv_iload_n hx hb dX7_change_33 rfl (lv_at hl 2 rfl) ?_
  refine lv_iload_n hx hb dX7_change_34 rfl (lv_at hl 3 rfl) ?_
  refine lv_iload hx hb dX7_change_35 (lv_at hl 4 rfl) ?_
  refine lv_iload hx hb dX7_change_37 (lv_at hl 5 rfl) ?_
  obtain ⟨r22, M21, hq20, hf⟩ := bd2_o hf
  refine hs_ci (hs_runV C0 hH hS (n := 5) (As := [.int a1, .int a2, .int a3, .int a4, .int a5]) (rest := []) (c_X5_carryOut M18 0 a1 a2 a3 a4 a5 (by decide) hq20) ⟨⟨zt_543, zt_544, zt_545, zt_3, zt_546⟩, rfl, by decide, by decide, by decide +kernel⟩ ⟨rfl, rfl, Nat.le_of_ble_eq_true rfl, Nat.le_of_ble_eq_true rfl⟩ (hs_recv hK hH 1 0 (by decide) 9 rfl rfl) rfl rfl hl.1 (Nat.le_of_ble_eq_true rfl) ⟨Nat.le_of_ble_eq_true rfl, Nat.le_of_ble_eq_true rfl⟩ dX7_change_39) hS (fun H locs hH hS => ?_)
  cases hf
  exact hx_iret C0 hH hS (by decide) (by decide) dX7_change_42
def f_X7_addPlace (M : Mem) : Option ((Int32 ⊕ Nat) × Mem) := bx (f_X7_change M (0 : Int32) (0 : Int32) (0 : Int32) (0 : Int32) (0 : Int32)) fun (r6 : Int32) (M5 : Mem) => some (.inl r6, M5)
set_option maxHeartbeats 4000000 in
set_option maxRecDepth 100000 in
theorem c_X7_addPlace {Y : LY} {l : Launch} (hl9 : l.stackTraces = false) (M : Mem) {x : Int32 ⊕ Nat} {MZ : Mem} (hf : f_X7_addPlace M = some (x, MZ)) : vx_Met l yX7_addPlace (WS yX7_addPlace cX7_addPlace 1 (Option.some Jvm.ClassFile.FieldType.int)) { frames := 8, cells := 1, slots := 6, locals := 172 } (PcM Y M [.ref (YA Y 0 0)]) (Qxi Y x MZ) (Xx Y x MZ) 1 6 (AZ Y) := by
  refine met_mkx (lv := [(0, .ref (YA Y 0 0))]) [.ref (YA Y 0 0)] (by decide) rfl rfl (Nat.le_of_ble_eq_true rfl) (fun p e s m below meth c C0 hn9 hH ls hl => ?_)
  have hS : va_S (AZ Y) s.heap s.heap [] := va_S.rf
  obtain ⟨hx, hb, hr, hml, hown, hA, hlocks, hK, hZ⟩ := id C0
  unfold f_X7_addPlace at hf
  refine lv_aload_n hx hb dX7_addPlace_0 rfl (lv_at hl 0 rfl) ?_
  refine lv_iconst (v := (0 : Int32)) hx hb dX7_addPlace_1 (by decide) ?_
  refine lv_iconst (v := (0 : Int32)) hx hb dX7_addPlace_2 (by decide) ?_
  refine lv_iconst (v := (0 : Int32)) hx hb dX7_addPlace_3 (by decide) ?_
  refine lv_iconst (v := (0 : Int32)) hx hb dX7_addPlace_4 (by decide) ?_
  refine lv_iconst (v := (0 : Int32)) hx hb dX7_addPlace_5 (by decide) ?_
  obtain ⟨yr6, M5, hq4, hf⟩ := bx_o hf
  refine hx_ci (hx_runV C0 hH hS (n := 5) (As := [.int (0 : Int32), .int (0 : Int32), .int (0 : Int32), .int (0 : Int32), .int (0 : Int32)]) (rest := []) (c_X7_change hl9 M (0 : Int32) (0 : Int32) (0 : Int32) (0 : Int32) (0 : Int32) hq4) ⟨⟨zt_330, zt_332, zs_0, zt_1, zt_333⟩, rfl, by decide, by decide, by decide +kernel⟩ ⟨rfl, rfl, Nat.le_of_ble_eq_true rfl, Nat.le_of_ble_eq_true rfl⟩ (hs_recv hK hH 0 0 (by decide) 11 rfl rfl) rfl rfl hl.1 (Nat.le_of_ble_eq_true rfl) ⟨Nat.le_of_ble_eq_true rfl, Nat.le_of_ble_eq_true rfl⟩ dX7_addPlace_6) hS C0 hn9 (by decide) (by decide) (fun k e => by subst e; exact bx_p (HS Y) hf) (fun r6 er6 H locs hH hS => ?_)
  subst er6
  have hf := bx_v hf
  cases hf
  exact hx_iret C0 hH hS (by decide) (by decide) dX7_addPlace_9
def f_X7_addLink (M : Mem) (a1 : Int32) (a2 : Int32) (a3 : Int32) (a4 : Int32) : Option ((Int32 ⊕ Nat) × Mem) := bx (f_X7_change M (1 : Int32) a1 a2 a3 a4) fun (r6 : Int32) (M5 : Mem) => some (.inl r6, M5)
set_option maxHeartbeats 4000000 in
set_option maxRecDepth 100000 in
theorem c_X7_addLink {Y : LY} {l : Launch} (hl9 : l.stackTraces = false) (M : Mem) (a1 : Int32) (a2 : Int32) (a3 : Int32) (a4 : Int32) {x : Int32 ⊕ Nat} {MZ : Mem} (hf : f_X7_addLink M a1 a2 a3 a4 = some (x, MZ)) : vx_Met l yX7_addLink (WS yX7_addLink cX7_addLink 5 (Option.some Jvm.ClassFile.FieldType.int)) { frames := 8, cells := 1, slots := 6, locals := 172 } (PcM Y M [.ref (YA Y 0 0), .int a1, .int a2, .int a3, .int a4]) (Qxi Y x MZ) (Xx Y x MZ) 1 6 (AZ Y) := by
  refine met_mkx (lv := [(0, .ref (YA Y 0 0)), (1, .int a1), (2, .int a2), (3, .int a3), (4, .int a4)]) [.ref (YA Y 0 0), .int a1, .int a2, .int a3, .int a4] (by decide) rfl rfl (Nat.le_of_ble_eq_true rfl) (fun p e s m below meth c C0 hn9 hH ls hl => ?_)
  have hS : va_S (AZ Y) s.heap s.heap [] := va_S.rf
  obtain ⟨hx, hb, hr, hml, hown, hA, hlocks, hK, hZ⟩ := id C0
  unfold f_X7_addLink at hf
  refine lv_aload_n hx hb dX7_addLink_0 rfl (lv_at hl 0 rfl) ?_
  refine lv_iconst (v := (1 : Int32)) hx hb dX7_addLink_1 (by decide) ?_
  refine lv_iload_n hx hb dX7_addLink_2 rfl (lv_at hl 1 rfl) ?_
  refine lv_iload_n hx hb dX7_addLink_3 rfl (lv_at hl 2 rfl) ?_
  refine lv_iload_n hx hb dX7_addLink_4 rfl (lv_at hl 3 rfl) ?_
  refine lv_iload hx hb dX7_addLink_5 (lv_at hl 4 rfl) ?_
  obtain ⟨yr6, M5, hq4, hf⟩ := bx_o hf
  refine hx_ci (hx_runV C0 hH hS (n := 5) (As := [.int (1 : Int32), .int a1, .int a2, .int a3, .int a4]) (rest := []) (c_X7_change hl9 M (1 : Int32) a1 a2 a3 a4 hq4) ⟨⟨zt_330, zt_332, zs_0, zt_1, zt_333⟩, rfl, by decide, by decide, by decide +kernel⟩ ⟨rfl, rfl, Nat.le_of_ble_eq_true rfl, Nat.le_of_ble_eq_true rfl⟩ (hs_recv hK hH 0 0 (by decide) 11 rfl rfl) rfl rfl hl.1 (Nat.le_of_ble_eq_true rfl) ⟨Nat.le_of_ble_eq_true rfl, Nat.le_of_ble_eq_true rfl⟩ dX7_addLink_7) hS C0 hn9 (by decide) (by decide) (fun k e => by subst e; exact bx_p (HS Y) hf) (fun r6 er6 H locs hH hS => ?_)
  subst er6
  have hf := bx_v hf
  cases hf
  exact hx_iret C0 hH hS (by decide) (by decide) dX7_addLink_10
def f_X7_block (M : Mem) (a1 : Int32) : Option ((Int32 ⊕ Nat) × Mem) := bx (f_X7_change M (2 : Int32) a1 (0 : Int32) (0 : Int32) (0 : Int32)) fun (r6 : Int32) (M5 : Mem) => some (.inl r6, M5)
set_option maxHeartbeats 4000000 in
set_option maxRecDepth 100000 in
theorem c_X7_block {Y : LY} {l : Launch} (hl9 : l.stackTraces = false) (M : Mem) (a1 : Int32) {x : Int32 ⊕ Nat} {MZ : Mem} (hf : f_X7_block M a1 = some (x, MZ)) : vx_Met l yX7_block (WS yX7_block cX7_block 2 (Option.some Jvm.ClassFile.FieldType.int)) { frames := 8, cells := 1, slots := 6, locals := 172 } (PcM Y M [.ref (YA Y 0 0), .int a1]) (Qxi Y x MZ) (Xx Y x MZ) 1 6 (AZ Y) := by
  refine met_mkx (lv := [(0, .ref (YA Y 0 0)), (1, .int a1)]) [.ref (YA Y 0 0), .int a1] (by decide) rfl rfl (Nat.le_of_ble_eq_true rfl) (fun p e s m below meth c C0 hn9 hH ls hl => ?_)
  have hS : va_S (AZ Y) s.heap s.heap [] := va_S.rf
  obtain ⟨hx, hb, hr, hml, hown, hA, hlocks, hK, hZ⟩ := id C0
  unfold f_X7_block at hf
  refine lv_aload_n hx hb dX7_block_0 rfl (lv_at hl 0 rfl) ?_
  refine lv_iconst (v := (2 : Int32)) hx hb dX7_block_1 (by decide) ?_
  refine lv_iload_n hx hb dX7_block_2 rfl (lv_at hl 1 rfl) ?_
  refine lv_iconst (v := (0 : Int32)) hx hb dX7_block_3 (by decide) ?_
  refine lv_iconst (v := (0 : Int32)) hx hb dX7_block_4 (by decide) ?_
  refine lv_iconst (v := (0 : Int32)) hx hb dX7_block_5 (by decide) ?_
  obtain ⟨yr6, M5, hq4, hf⟩ := bx_o hf
  refine hx_ci (hx_runV C0 hH hS (n := 5) (As := [.int (2 : Int32), .int a1, .int (0 : Int32), .int (0 : Int32), .int (0 : Int32)]) (rest := []) (c_X7_change hl9 M (2 : Int32) a1 (0 : Int32) (0 : Int32) (0 : Int32) hq4) ⟨⟨zt_330, zt_332, zs_0, zt_1, zt_333⟩, rfl, by decide, by decide, by decide +kernel⟩ ⟨rfl, rfl, Nat.le_of_ble_eq_true rfl, Nat.le_of_ble_eq_true rfl⟩ (hs_recv hK hH 0 0 (by decide) 11 rfl rfl) rfl rfl hl.1 (Nat.le_of_ble_eq_true rfl) ⟨Nat.le_of_ble_eq_true rfl, Nat.le_of_ble_eq_true rfl⟩ dX7_block_6) hS C0 hn9 (by decide) (by decide) (fun k e => by subst e; exact bx_p (HS Y) hf) (fun r6 er6 H locs hH hS => ?_)
  subst er6
  have hf := bx_v hf
  cases hf
  exact hx_iret C0 hH hS (by decide) (by decide) dX7_block_9
def f_X7_open (M : Mem) (a1 : Int32) : Option ((Int32 ⊕ Nat) × Mem) := bx (f_X7_change M (3 : Int32) a1 (0 : Int32) (0 : Int32) (0 : Int32)) fun (r6 : Int32) (M5 : Mem) => some (.inl r6, M5)
set_option maxHeartbeats 4000000 in
set_option maxRecDepth 100000 in
theorem c_X7_open {Y : LY} {l : Launch} (hl9 : l.stackTraces = false) (M : Mem) (a1 : Int32) {x : Int32 ⊕ Nat} {MZ : Mem} (hf : f_X7_open M a1 = some (x, MZ)) : vx_Met l yX7_open (WS yX7_open cX7_open 2 (Option.some Jvm.ClassFile.FieldType.int)) { frames := 8, cells := 1, slots := 6, locals := 172 } (PcM Y M [.ref (YA Y 0 0), .int a1]) (Qxi Y x MZ) (Xx Y x MZ) 1 6 (AZ Y) := by
  refine met_mkx (lv := [(0, .ref (YA Y 0 0)), (1, .int a1)]) [.ref (YA Y 0 0), .int a1] (by decide) rfl rfl (Nat.le_of_ble_eq_true rfl) (fun p e s m below meth c C0 hn9 hH ls hl => ?_)
  have hS : va_S (AZ Y) s.heap s.heap [] := va_S.rf
  obtain ⟨hx, hb, hr, hml, hown, hA, hlocks, hK, hZ⟩ := id C0
  unfold f_X7_open at hf
  refine lv_aload_n hx hb dX7_open_0 rfl (lv_at hl 0 rfl) ?_
  refine lv_iconst (v := (3 : Int32)) hx hb dX7_open_1 (by decide) ?_
  refine lv_iload_n hx hb dX7_open_2 rfl (lv_at hl 1 rfl) ?_
  refine lv_iconst (v := (0 : Int32)) hx hb dX7_open_3 (by decide) ?_
  refine lv_iconst (v := (0 : Int32)) hx hb dX7_open_4 (by decide) ?_
  refine lv_iconst (v := (0 : Int32)) hx hb dX7_open_5 (by decide) ?_
  obtain ⟨yr6, M5, hq4, hf⟩ := bx_o hf
  refine hx_ci (hx_runV C0 hH hS (n := 5) (As := [.int (3 : Int32), .int a1, .int (0 : Int32), .int (0 : Int32), .int (0 : Int32)]) (rest := []) (c_X7_change hl9 M (3 : Int32) a1 (0 : Int32) (0 : Int32) (0 : Int32) hq4) ⟨⟨zt_330, zt_332, zs_0, zt_1, zt_333⟩, rfl, by decide, by decide, by decide +kernel⟩ ⟨rfl, rfl, Nat.le_of_ble_eq_true rfl, Nat.le_of_ble_eq_true rfl⟩ (hs_recv hK hH 0 0 (by decide) 11 rfl rfl) rfl rfl hl.1 (Nat.le_of_ble_eq_true rfl) ⟨Nat.le_of_ble_eq_true rfl, Nat.le_of_ble_eq_true rfl⟩ dX7_open_6) hS C0 hn9 (by decide) (by decide) (fun k e => by subst e; exact bx_p (HS Y) hf) (fun r6 er6 H locs hH hS => ?_)
  subst er6
  have hf := bx_v hf
  cases hf
  exact hx_iret C0 hH hS (by decide) (by decide) dX7_open_9
def f_X7_post (M : Mem) (a1 : Int32) (a2 : Int32) (a3 : Int32) (a4 : Int32) : Option ((Int32 ⊕ Nat) × Mem) := bx (f_X7_change M (4 : Int32) a1 a2 a3 a4) fun (r6 : Int32) (M5 : Mem) => some (.inl r6, M5)
set_option maxHeartbeats 4000000 in
set_option maxRecDepth 100000 in
theorem c_X7_post {Y : LY} {l : Launch} (hl9 : l.stackTraces = false) (M : Mem) (a1 : Int32) (a2 : Int32) (a3 : Int32) (a4 : Int32) {x : Int32 ⊕ Nat} {MZ : Mem} (hf : f_X7_post M a1 a2 a3 a4 = some (x, MZ)) : vx_Met l yX7_post (WS yX7_post cX7_post 5 (Option.some Jvm.ClassFile.FieldType.int)) { frames := 8, cells := 1, slots := 6, locals := 172 } (PcM Y M [.ref (YA Y 0 0), .int a1, .int a2, .int a3, .int a4]) (Qxi Y x MZ) (Xx Y x MZ) 1 6 (AZ Y) := by
  refine met_mkx (lv := [(0, .ref (YA Y 0 0)), (1, .int a1), (2, .int a2), (3, .int a3), (4, .int a4)]) [.ref (YA Y 0 0), .int a1, .int a2, .int a3, .int a4] (by decide) rfl rfl (Nat.le_of_ble_eq_true rfl) (fun p e s m below meth c C0 hn9 hH ls hl => ?_)
  have hS : va_S (AZ Y) s.heap s.heap [] := va_S.rf
  obtain ⟨hx, hb, hr, hml, hown, hA, hlocks, hK, hZ⟩ := id C0
  unfold f_X7_post at hf
  refine lv_aload_n hx hb dX7_post_0 rfl (lv_at hl 0 rfl) ?_
  refine lv_iconst (v := (4 : Int32)) hx hb dX7_post_1 (by decide) ?_
  refine lv_iload_n hx hb dX7_post_2 rfl (lv_at hl 1 rfl) ?_
  refine lv_iload_n hx hb dX7_post_3 rfl (lv_at hl 2 rfl) ?_
  refine lv_iload_n hx hb dX7_post_4 rfl (lv_at hl 3 rfl) ?_
  refine lv_iload hx hb dX7_post_5 (lv_at hl 4 rfl) ?_
  obtain ⟨yr6, M5, hq4, hf⟩ := bx_o hf
  refine hx_ci (hx_runV C0 hH hS (n := 5) (As := [.int (4 : Int32), .int a1, .int a2, .int a3, .int a4]) (rest := []) (c_X7_change hl9 M (4 : Int32) a1 a2 a3 a4 hq4) ⟨⟨zt_330, zt_332, zs_0, zt_1, zt_333⟩, rfl, by decide, by decide, by decide +kernel⟩ ⟨rfl, rfl, Nat.le_of_ble_eq_true rfl, Nat.le_of_ble_eq_true rfl⟩ (hs_recv hK hH 0 0 (by decide) 11 rfl rfl) rfl rfl hl.1 (Nat.le_of_ble_eq_true rfl) ⟨Nat.le_of_ble_eq_true rfl, Nat.le_of_ble_eq_true rfl⟩ dX7_post_7) hS C0 hn9 (by decide) (by decide) (fun k e => by subst e; exact bx_p (HS Y) hf) (fun r6 er6 H locs hH hS => ?_)
  subst er6
  have hf := bx_v hf
  cases hf
  exact hx_iret C0 hH hS (by decide) (by decide) dX7_post_10
def f_X7_send (M : Mem) (a1 : Int32) (a2 : Int32) : Option ((Int32 ⊕ Nat) × Mem) := bx (f_X7_change M (5 : Int32) a1 a2 (0 : Int32) (0 : Int32)) fun (r6 : Int32) (M5 : Mem) => some (.inl r6, M5)
set_option maxHeartbeats 4000000 in
set_option maxRecDepth 100000 in
theorem c_X7_send {Y : LY} {l : Launch} (hl9 : l.stackTraces = false) (M : Mem) (a1 : Int32) (a2 : Int32) {x : Int32 ⊕ Nat} {MZ : Mem} (hf : f_X7_send M a1 a2 = some (x, MZ)) : vx_Met l yX7_send (WS yX7_send cX7_send 3 (Option.some Jvm.ClassFile.FieldType.int)) { frames := 8, cells := 1, slots := 6, locals := 172 } (PcM Y M [.ref (YA Y 0 0), .int a1, .int a2]) (Qxi Y x MZ) (Xx Y x MZ) 1 6 (AZ Y) := by
  refine met_mkx (lv := [(0, .ref (YA Y 0 0)), (1, .int a1), (2, .int a2)]) [.ref (YA Y 0 0), .int a1, .int a2] (by decide) rfl rfl (Nat.le_of_ble_eq_true rfl) (fun p e s m below meth c C0 hn9 hH ls hl => ?_)
  have hS : va_S (AZ Y) s.heap s.heap [] := va_S.rf
  obtain ⟨hx, hb, hr, hml, hown, hA, hlocks, hK, hZ⟩ := id C0
  unfold f_X7_send at hf
  refine lv_aload_n hx hb dX7_send_0 rfl (lv_at hl 0 rfl) ?_
  refine lv_iconst (v := (5 : Int32)) hx hb dX7_send_1 (by decide) ?_
  refine lv_iload_n hx hb dX7_send_2 rfl (lv_at hl 1 rfl) ?_
  refine lv_iload_n hx hb dX7_send_3 rfl (lv_at hl 2 rfl) ?_
  refine lv_iconst (v := (0 : Int32)) hx hb dX7_send_4 (by decide) ?_
  refine lv_iconst (v := (0 : Int32)) hx hb dX7_send_5 (by decide) ?_
  obtain ⟨yr6, M5, hq4, hf⟩ := bx_o hf
  refine hx_ci (hx_runV C0 hH hS (n := 5) (As := [.int (5 : Int32), .int a1, .int a2, .int (0 : Int32), .int (0 : Int32)]) (rest := []) (c_X7_change hl9 M (5 : Int32) a1 a2 (0 : Int32) (0 : Int32) hq4) ⟨⟨zt_330, zt_332, zs_0, zt_1, zt_333⟩, rfl, by decide, by decide, by decide +kernel⟩ ⟨rfl, rfl, Nat.le_of_ble_eq_true rfl, Nat.le_of_ble_eq_true rfl⟩ (hs_recv hK hH 0 0 (by decide) 11 rfl rfl) rfl rfl hl.1 (Nat.le_of_ble_eq_true rfl) ⟨Nat.le_of_ble_eq_true rfl, Nat.le_of_ble_eq_true rfl⟩ dX7_send_6) hS C0 hn9 (by decide) (by decide) (fun k e => by subst e; exact bx_p (HS Y) hf) (fun r6 er6 H locs hH hS => ?_)
  subst er6
  have hf := bx_v hf
  cases hf
  exact hx_iret C0 hH hS (by decide) (by decide) dX7_send_9
def f_X7_addStamps (M : Mem) (a1 : Int32) (a2 : Int32) : Option ((Int32 ⊕ Nat) × Mem) := bx (f_X7_change M (6 : Int32) a1 a2 (0 : Int32) (0 : Int32)) fun (r6 : Int32) (M5 : Mem) => some (.inl r6, M5)
set_option maxHeartbeats 4000000 in
set_option maxRecDepth 100000 in
theorem c_X7_addStamps {Y : LY} {l : Launch} (hl9 : l.stackTraces = false) (M : Mem) (a1 : Int32) (a2 : Int32) {x : Int32 ⊕ Nat} {MZ : Mem} (hf : f_X7_addStamps M a1 a2 = some (x, MZ)) : vx_Met l yX7_addStamps (WS yX7_addStamps cX7_addStamps 3 (Option.some Jvm.ClassFile.FieldType.int)) { frames := 8, cells := 1, slots := 6, locals := 172 } (PcM Y M [.ref (YA Y 0 0), .int a1, .int a2]) (Qxi Y x MZ) (Xx Y x MZ) 1 6 (AZ Y) := by
  refine met_mkx (lv := [(0, .ref (YA Y 0 0)), (1, .int a1), (2, .int a2)]) [.ref (YA Y 0 0), .int a1, .int a2] (by decide) rfl rfl (Nat.le_of_ble_eq_true rfl) (fun p e s m below meth c C0 hn9 hH ls hl => ?_)
  have hS : va_S (AZ Y) s.heap s.heap [] := va_S.rf
  obtain ⟨hx, hb, hr, hml, hown, hA, hlocks, hK, hZ⟩ := id C0
  unfold f_X7_addStamps at hf
  refine lv_aload_n hx hb dX7_addStamps_0 rfl (lv_at hl 0 rfl) ?_
  refine lv_bipush (v := (6 : Int32)) hx hb dX7_addStamps_1 (by decide) ?_
  refine lv_iload_n hx hb dX7_addStamps_3 rfl (lv_at hl 1 rfl) ?_
  refine lv_iload_n hx hb dX7_addStamps_4 rfl (lv_at hl 2 rfl) ?_
  refine lv_iconst (v := (0 : Int32)) hx hb dX7_addStamps_5 (by decide) ?_
  refine lv_iconst (v := (0 : Int32)) hx hb dX7_addStamps_6 (by decide) ?_
  obtain ⟨yr6, M5, hq4, hf⟩ := bx_o hf
  refine hx_ci (hx_runV C0 hH hS (n := 5) (As := [.int (6 : Int32), .int a1, .int a2, .int (0 : Int32), .int (0 : Int32)]) (rest := []) (c_X7_change hl9 M (6 : Int32) a1 a2 (0 : Int32) (0 : Int32) hq4) ⟨⟨zt_330, zt_332, zs_0, zt_1, zt_333⟩, rfl, by decide, by decide, by decide +kernel⟩ ⟨rfl, rfl, Nat.le_of_ble_eq_true rfl, Nat.le_of_ble_eq_true rfl⟩ (hs_recv hK hH 0 0 (by decide) 11 rfl rfl) rfl rfl hl.1 (Nat.le_of_ble_eq_true rfl) ⟨Nat.le_of_ble_eq_true rfl, Nat.le_of_ble_eq_true rfl⟩ dX7_addStamps_7) hS C0 hn9 (by decide) (by decide) (fun k e => by subst e; exact bx_p (HS Y) hf) (fun r6 er6 H locs hH hS => ?_)
  subst er6
  have hf := bx_v hf
  cases hf
  exact hx_iret C0 hH hS (by decide) (by decide) dX7_addStamps_10
def f_X7_takeBack (M : Mem) (a1 : Int32) : Option ((Int32 ⊕ Nat) × Mem) := bx (f_X7_change M (7 : Int32) a1 (0 : Int32) (0 : Int32) (0 : Int32)) fun (r6 : Int32) (M5 : Mem) => some (.inl r6, M5)
set_option maxHeartbeats 4000000 in
set_option maxRecDepth 100000 in
theorem c_X7_takeBack {Y : LY} {l : Launch} (hl9 : l.stackTraces = false) (M : Mem) (a1 : Int32) {x : Int32 ⊕ Nat} {MZ : Mem} (hf : f_X7_takeBack M a1 = some (x, MZ)) : vx_Met l yX7_takeBack (WS yX7_takeBack cX7_takeBack 2 (Option.some Jvm.ClassFile.FieldType.int)) { frames := 8, cells := 1, slots := 6, locals := 172 } (PcM Y M [.ref (YA Y 0 0), .int a1]) (Qxi Y x MZ) (Xx Y x MZ) 1 6 (AZ Y) := by
  refine met_mkx (lv := [(0, .ref (YA Y 0 0)), (1, .int a1)]) [.ref (YA Y 0 0), .int a1] (by decide) rfl rfl (Nat.le_of_ble_eq_true rfl) (fun p e s m below meth c C0 hn9 hH ls hl => ?_)
  have hS : va_S (AZ Y) s.heap s.heap [] := va_S.rf
  obtain ⟨hx, hb, hr, hml, hown, hA, hlocks, hK, hZ⟩ := id C0
  unfold f_X7_takeBack at hf
  refine lv_aload_n hx hb dX7_takeBack_0 rfl (lv_at hl 0 rfl) ?_
  refine lv_bipush (v := (7 : Int32)) hx hb dX7_takeBack_1 (by decide) ?_
  refine lv_iload_n hx hb dX7_takeBack_3 rfl (lv_at hl 1 rfl) ?_
  refine lv_iconst (v := (0 : Int32)) hx hb dX7_takeBack_4 (by decide) ?_
  refine lv_iconst (v := (0 : Int32)) hx hb dX7_takeBack_5 (by decide) ?_
  refine lv_iconst (v := (0 : Int32)) hx hb dX7_takeBack_6 (by decide) ?_
  obtain ⟨yr6, M5, hq4, hf⟩ := bx_o hf
  refine hx_ci (hx_runV C0 hH hS (n := 5) (As := [.int (7 : Int32), .int a1, .int (0 : Int32), .int (0 : Int32), .int (0 : Int32)]) (rest := []) (c_X7_change hl9 M (7 : Int32) a1 (0 : Int32) (0 : Int32) (0 : Int32) hq4) ⟨⟨zt_330, zt_332, zs_0, zt_1, zt_333⟩, rfl, by decide, by decide, by decide +kernel⟩ ⟨rfl, rfl, Nat.le_of_ble_eq_true rfl, Nat.le_of_ble_eq_true rfl⟩ (hs_recv hK hH 0 0 (by decide) 11 rfl rfl) rfl rfl hl.1 (Nat.le_of_ble_eq_true rfl) ⟨Nat.le_of_ble_eq_true rfl, Nat.le_of_ble_eq_true rfl⟩ dX7_takeBack_7) hS C0 hn9 (by decide) (by decide) (fun k e => by subst e; exact bx_p (HS Y) hf) (fun r6 er6 H locs hH hS => ?_)
  subst er6
  have hf := bx_v hf
  cases hf
  exact hx_iret C0 hH hS (by decide) (by decide) dX7_takeBack_10
def f_X7_dispatch (M : Mem) : Option ((Int32 ⊕ Nat) × Mem) := bx (f_X7_change M (8 : Int32) (0 : Int32) (0 : Int32) (0 : Int32) (0 : Int32)) fun (r6 : Int32) (M5 : Mem) => some (.inl r6, M5)
set_option maxHeartbeats 4000000 in
set_option maxRecDepth 100000 in
theorem c_X7_dispatch {Y : LY} {l : Launch} (hl9 : l.stackTraces = false) (M : Mem) {x : Int32 ⊕ Nat} {MZ : Mem} (hf : f_X7_dispatch M = some (x, MZ)) : vx_Met l yX7_dispatch (WS yX7_dispatch cX7_dispatch 1 (Option.some Jvm.ClassFile.FieldType.int)) { frames := 8, cells := 1, slots := 6, locals := 172 } (PcM Y M [.ref (YA Y 0 0)]) (Qxi Y x MZ) (Xx Y x MZ) 1 6 (AZ Y) := by
  refine met_mkx (lv := [(0, .ref (YA Y 0 0))]) [.ref (YA Y 0 0)] (by decide) rfl rfl (Nat.le_of_ble_eq_true rfl) (fun p e s m below meth c C0 hn9 hH ls hl => ?_)
  have hS : va_S (AZ Y) s.heap s.heap [] := va_S.rf
  obtain ⟨hx, hb, hr, hml, hown, hA, hlocks, hK, hZ⟩ := id C0
  unfold f_X7_dispatch at hf
  refine lv_aload_n hx hb dX7_dispatch_0 rfl (lv_at hl 0 rfl) ?_
  refine lv_bipush (v := (8 : Int32)) hx hb dX7_dispatch_1 (by decide) ?_
  refine lv_iconst (v := (0 : Int32)) hx hb dX7_dispatch_3 (by decide) ?_
  refine lv_iconst (v := (0 : Int32)) hx hb dX7_dispatch_4 (by decide) ?_
  refine lv_iconst (v := (0 : Int32)) hx hb dX7_dispatch_5 (by decide) ?_
  refine lv_iconst (v := (0 : Int32)) hx hb dX7_dispatch_6 (by decide) ?_
  obtain ⟨yr6, M5, hq4, hf⟩ := bx_o hf
  refine hx_ci (hx_runV C0 hH hS (n := 5) (As := [.int (8 : Int32), .int (0 : Int32), .int (0 : Int32), .int (0 : Int32), .int (0 : Int32)]) (rest := []) (c_X7_change hl9 M (8 : Int32) (0 : Int32) (0 : Int32) (0 : Int32) (0 : Int32) hq4) ⟨⟨zt_330, zt_332, zs_0, zt_1, zt_333⟩, rfl, by decide, by decide, by decide +kernel⟩ ⟨rfl, rfl, Nat.le_of_ble_eq_true rfl, Nat.le_of_ble_eq_true rfl⟩ (hs_recv hK hH 0 0 (by decide) 11 rfl rfl) rfl rfl hl.1 (Nat.le_of_ble_eq_true rfl) ⟨Nat.le_of_ble_eq_true rfl, Nat.le_of_ble_eq_true rfl⟩ dX7_dispatch_7) hS C0 hn9 (by decide) (by decide) (fun k e => by subst e; exact bx_p (HS Y) hf) (fun r6 er6 H locs hH hS => ?_)
  subst er6
  have hf := bx_v hf
  cases hf
  exact hx_iret C0 hH hS (by decide) (by decide) dX7_dispatch_10
def f_X7_pass (M : Mem) (a1 : Int32) : Option ((Int32 ⊕ Nat) × Mem) := bx (f_X7_change M (9 : Int32) a1 (0 : Int32) (0 : Int32) (0 : Int32)) fun (r6 : Int32) (M5 : Mem) => some (.inl r6, M5)
set_option maxHeartbeats 4000000 in
set_option maxRecDepth 100000 in
theorem c_X7_pass {Y : LY} {l : Launch} (hl9 : l.stackTraces = false) (M : Mem) (a1 : Int32) {x : Int32 ⊕ Nat} {MZ : Mem} (hf : f_X7_pass M a1 = some (x, MZ)) : vx_Met l yX7_pass (WS yX7_pass cX7_pass 2 (Option.some Jvm.ClassFile.FieldType.int)) { frames := 8, cells := 1, slots := 6, locals := 172 } (PcM Y M [.ref (YA Y 0 0), .int a1]) (Qxi Y x MZ) (Xx Y x MZ) 1 6 (AZ Y) := by
  refine met_mkx (lv := [(0, .ref (YA Y 0 0)), (1, .int a1)]) [.ref (YA Y 0 0), .int a1] (by decide) rfl rfl (Nat.le_of_ble_eq_true rfl) (fun p e s m below meth c C0 hn9 hH ls hl => ?_)
  have hS : va_S (AZ Y) s.heap s.heap [] := va_S.rf
  obtain ⟨hx, hb, hr, hml, hown, hA, hlocks, hK, hZ⟩ := id C0
  unfold f_X7_pass at hf
  refine lv_aload_n hx hb dX7_pass_0 rfl (lv_at hl 0 rfl) ?_
  refine lv_bipush (v := (9 : Int32)) hx hb dX7_pass_1 (by decide) ?_
  refine lv_iload_n hx hb dX7_pass_3 rfl (lv_at hl 1 rfl) ?_
  refine lv_iconst (v := (0 : Int32)) hx hb dX7_pass_4 (by decide) ?_
  refine lv_iconst (v := (0 : Int32)) hx hb dX7_pass_5 (by decide) ?_
  refine lv_iconst (v := (0 : Int32)) hx hb dX7_pass_6 (by decide) ?_
  obtain ⟨yr6, M5, hq4, hf⟩ := bx_o hf
  refine hx_ci (hx_runV C0 hH hS (n := 5) (As := [.int (9 : Int32), .int a1, .int (0 : Int32), .int (0 : Int32), .int (0 : Int32)]) (rest := []) (c_X7_change hl9 M (9 : Int32) a1 (0 : Int32) (0 : Int32) (0 : Int32) hq4) ⟨⟨zt_330, zt_332, zs_0, zt_1, zt_333⟩, rfl, by decide, by decide, by decide +kernel⟩ ⟨rfl, rfl, Nat.le_of_ble_eq_true rfl, Nat.le_of_ble_eq_true rfl⟩ (hs_recv hK hH 0 0 (by decide) 11 rfl rfl) rfl rfl hl.1 (Nat.le_of_ble_eq_true rfl) ⟨Nat.le_of_ble_eq_true rfl, Nat.le_of_ble_eq_true rfl⟩ dX7_pass_7) hS C0 hn9 (by decide) (by decide) (fun k e => by subst e; exact bx_p (HS Y) hf) (fun r6 er6 H locs hH hS => ?_)
  subst er6
  have hf := bx_v hf
  cases hf
  exact hx_iret C0 hH hS (by decide) (by decide) dX7_pass_10
def f_X7_hour (M : Mem) : Option Int32 := some (M 1 0 4)
set_option maxHeartbeats 4000000 in
set_option maxRecDepth 100000 in
theorem c_X7_hour {Y : LY} {l : Launch} (M : Mem) {r : Int32} (hf : f_X7_hour M = some r) : Met l yX7_hour (WS yX7_hour cX7_hour 1 (Option.some Jvm.ClassFile.FieldType.int)) { frames := 0, cells := 0, slots := 0, locals := 0 } (PcM Y M [.ref (YA Y 0 0)]) (Qi Y r M) 0 0 (AZ Y) := by
  refine met_mk (lv := [(0, .ref (YA Y 0 0))]) [.ref (YA Y 0 0)] (by decide) rfl rfl (Nat.le_of_ble_eq_true rfl) (fun p e s m below meth c C0 hH ls hl => ?_)
  have hS : va_S (AZ Y) s.heap s.heap [] := va_S.rf
  obtain ⟨hx, hb, hr, hml, hown, hA, hlocks, hK, hZ⟩ := id C0
  unfold f_X7_hour at hf
  refine lv_aload_n hx hb dX7_hour_0 rfl (lv_at hl 0 rfl) ?_
  refine hs_get hx hb (T := TX7) hA inAX7 hown hK hH 0 0 (by decide) 11 rfl rfl 0 (by decide) (hA _ zt_292) rfl rfl dX7_hour_1 ?_
  refine hs_get hx hb (T := TX5) hA inAX5 hown hK hH 1 0 (by decide) 9 rfl rfl 4 (by decide) (hA _ zt_180) rfl rfl dX7_hour_4 ?_
  cases hf
  exact hs_iret C0 hH hS (by decide) (by decide) dX7_hour_7
def f_X7_placeCount (M : Mem) : Option Int32 := some (M 2 0 1)
set_option maxHeartbeats 4000000 in
set_option maxRecDepth 100000 in
theorem c_X7_placeCount {Y : LY} {l : Launch} (M : Mem) {r : Int32} (hf : f_X7_placeCount M = some r) : Met l yX7_placeCount (WS yX7_placeCount cX7_placeCount 1 (Option.some Jvm.ClassFile.FieldType.int)) { frames := 0, cells := 0, slots := 0, locals := 0 } (PcM Y M [.ref (YA Y 0 0)]) (Qi Y r M) 0 0 (AZ Y) := by
  refine met_mk (lv := [(0, .ref (YA Y 0 0))]) [.ref (YA Y 0 0)] (by decide) rfl rfl (Nat.le_of_ble_eq_true rfl) (fun p e s m below meth c C0 hH ls hl => ?_)
  have hS : va_S (AZ Y) s.heap s.heap [] := va_S.rf
  obtain ⟨hx, hb, hr, hml, hown, hA, hlocks, hK, hZ⟩ := id C0
  unfold f_X7_placeCount at hf
  refine lv_aload_n hx hb dX7_placeCount_0 rfl (lv_at hl 0 rfl) ?_
  refine hs_get hx hb (T := TX7) hA inAX7 hown hK hH 0 0 (by decide) 11 rfl rfl 0 (by decide) (hA _ zt_292) rfl rfl dX7_placeCount_1 ?_
  refine hs_get hx hb (T := TX5) hA inAX5 hown hK hH 1 0 (by decide) 9 rfl rfl 1 (by decide) (hA _ zt_174) rfl rfl dX7_placeCount_4 ?_
  refine hs_get hx hb (T := TX2) hA inAX2 hown hK hH 2 0 (by decide) 6 rfl rfl 1 (by decide) (hA _ zt_117) rfl rfl dX7_placeCount_7 ?_
  cases hf
  exact hs_iret C0 hH hS (by decide) (by decide) dX7_placeCount_10
def f_X7_linkCount (M : Mem) : Option Int32 := some (M 2 0 2)
set_option maxHeartbeats 4000000 in
set_option maxRecDepth 100000 in
theorem c_X7_linkCount {Y : LY} {l : Launch} (M : Mem) {r : Int32} (hf : f_X7_linkCount M = some r) : Met l yX7_linkCount (WS yX7_linkCount cX7_linkCount 1 (Option.some Jvm.ClassFile.FieldType.int)) { frames := 0, cells := 0, slots := 0, locals := 0 } (PcM Y M [.ref (YA Y 0 0)]) (Qi Y r M) 0 0 (AZ Y) := by
  refine met_mk (lv := [(0, .ref (YA Y 0 0))]) [.ref (YA Y 0 0)] (by decide) rfl rfl (Nat.le_of_ble_eq_true rfl) (fun p e s m below meth c C0 hH ls hl => ?_)
  have hS : va_S (AZ Y) s.heap s.heap [] := va_S.rf
  obtain ⟨hx, hb, hr, hml, hown, hA, hlocks, hK, hZ⟩ := id C0
  unfold f_X7_linkCount at hf
  refine lv_aload_n hx hb dX7_linkCount_0 rfl (lv_at hl 0 rfl) ?_
  refine hs_get hx hb (T := TX7) hA inAX7 hown hK hH 0 0 (by decide) 11 rfl rfl 0 (by decide) (hA _ zt_292) rfl rfl dX7_linkCount_1 ?_
  refine hs_get hx hb (T := TX5) hA inAX5 hown hK hH 1 0 (by decide) 9 rfl rfl 1 (by decide) (hA _ zt_174) rfl rfl dX7_linkCount_4 ?_
  refine hs_get hx hb (T := TX2) hA inAX2 hown hK hH 2 0 (by decide) 6 rfl rfl 2 (by decide) (hA _ zt_121) rfl rfl dX7_linkCount_7 ?_
  cases hf
  exact hs_iret C0 hH hS (by decide) (by decide) dX7_linkCount_10
def f_X7_requireIndex_9 (M : Mem) : Option ((Unit ⊕ Nat) × Mem) := some (.inr 0, M)
set_option maxHeartbeats 4000000 in
set_option maxRecDepth 100000 in
theorem w_X7_requireIndex_9 {Y : LY} {p : Program} {l : Launch} {e : Env} {s : State} {m : MethodId} {args : Array Value} {below : List Frame} {meth : Method} {c : Code} (C0 : BE Y p s m args meth c cX7_requireIndex 2 (Option.none : Option Jvm.ClassFile.FieldType) RX7) (hl9 : l.stackTraces = false) (hn9 : ∀ z ∈ c.exceptionTable.toList, False) {x : Unit ⊕ Nat} {MZ : Mem} : ∀ (M : Mem), f_X7_requireIndex_9 M = some (x, MZ) → ∀ (H : Heap) (locs : List Loc) (ls : Array Slot), HS Y M H → va_S (AZ Y) s.heap H locs → lv_has ls 2 [] → W p l e { frames := 6, cells := 1, slots := 6, locals := 90 } s m args below meth c H locs 0 0 (vx_MQ below (Qxv Y x MZ) (Xx Y x MZ) args s 1 6 (AZ Y)) (F0 m 9 ls []) := by
  obtain ⟨hx, hb, hr, hml, hown, hA, hlocks, hK, hZ⟩ := id C0
  intro M hf H locs ls hH hS hl
  unfold f_X7_requireIndex_9 at hf
  cases hf
  exact hx_thr0w C0 hl9 hn9 hH hS hl.1 (is := 356) (text := "there is no such number") (by decide +kernel) dX7_requireIndex_9 dX7_requireIndex_12 dX7_requireIndex_13 dX7_requireIndex_16 dX7_requireIndex_19 ⟨by decide, Nat.le_of_ble_eq_true rfl, by decide, by decide⟩ (by decide) (by decide)
def f_X7_requireIndex (M : Mem) (a0 : Int32) (a1 : Int32) : Option ((Unit ⊕ Nat) × Mem) := (if a0 < 0 then f_X7_requireIndex_9 M else (if a0 < a1 then some (.inl (), M) else f_X7_requireIndex_9 M))
set_option maxHeartbeats 4000000 in
set_option maxRecDepth 100000 in
theorem c_X7_requireIndex {Y : LY} {l : Launch} (hl9 : l.stackTraces = false) (M : Mem) (a0 : Int32) (a1 : Int32) {x : Unit ⊕ Nat} {MZ : Mem} (hf : f_X7_requireIndex M a0 a1 = some (x, MZ)) : vx_Met l yX7_requireIndex (WS yX7_requireIndex cX7_requireIndex 2 (Option.none : Option Jvm.ClassFile.FieldType)) { frames := 6, cells := 1, slots := 6, locals := 90 } (PcM Y M [.int a0, .int a1]) (Qxv Y x MZ) (Xx Y x MZ) 1 6 (AZ Y) := by
  refine met_mkx (lv := [(0, .int a0), (1, .int a1)]) [.int a0, .int a1] (by decide) rfl rfl (Nat.le_of_ble_eq_true rfl) (fun p e s m below meth c C0 hn9 hH ls hl => ?_)
  have hS : va_S (AZ Y) s.heap s.heap [] := va_S.rf
  obtain ⟨hx, hb, hr, hml, hown, hA, hlocks, hK, hZ⟩ := id C0
  unfold f_X7_requireIndex at hf
  refine lv_iload_n hx hb dX7_requireIndex_0 rfl (lv_at hl 0 rfl) ?_
  refine lv_if_lt (tgt := 9) hx hb dX7_requireIndex_1 (by decide) (fun hc4 => ?_) (fun hc4 => ?_)
  · have hf := if_t hf hc4
    exact w_X7_requireIndex_9 C0 hl9 hn9 M hf _ _ _ hH hS (lv_sub hl [] rfl)
  · have hf := if_f hf hc4
    refine lv_iload_n hx hb dX7_requireIndex_4 rfl (lv_at hl 0 rfl) ?_
    refine lv_iload_n hx hb dX7_requireIndex_5 rfl (lv_at hl 1 rfl) ?_
    refine lv_icmp_lt (tgt := 20) hx hb dX7_requireIndex_6 (by decide) (fun hc3 => ?_) (fun hc3 => ?_)
    · have hf := if_t hf hc3
      cases hf
      exact hx_vret C0 hH hS (by decide) (by decide) dX7_requireIndex_20
    · have hf := if_f hf hc3
      exact w_X7_requireIndex_9 C0 hl9 hn9 M hf _ _ _ hH hS (lv_sub hl [] rfl)
def f_X7_existingLink (M : Mem) (a1 : Int32) : Option ((Nat ⊕ Nat) × Mem) := bx (f_X7_requireIndex M a1 (M 2 0 2)) fun (r7 : Unit) (M6 : Mem) => if vin a1 20 then (some (.inl (20 * 0 + (ix a1)), M6)) else none
set_option maxHeartbeats 4000000 in
set_option maxRecDepth 100000 in
theorem c_X7_existingLink {Y : LY} {l : Launch} (hl9 : l.stackTraces = false) (M : Mem) (a1 : Int32) {x : Nat ⊕ Nat} {MZ : Mem} (hf : f_X7_existingLink M a1 = some (x, MZ)) : vx_Met l yX7_existingLink (WS yX7_existingLink cX7_existingLink 2 (Option.some (Jvm.ClassFile.FieldType.object "RiverParcelService$Link"))) { frames := 7, cells := 1, slots := 6, locals := 111 } (PcM Y M [.ref (YA Y 0 0), .int a1]) (Qxr Y 4 x MZ) (Xx Y x MZ) 1 6 (AZ Y) := by
  refine met_mkx (lv := [(0, .ref (YA Y 0 0)), (1, .int a1)]) [.ref (YA Y 0 0), .int a1] (by decide) rfl rfl (Nat.le_of_ble_eq_true rfl) (fun p e s m below meth c C0 hn9 hH ls hl => ?_)
  have hS : va_S (AZ Y) s.heap s.heap [] := va_S.rf
  obtain ⟨hx, hb, hr, hml, hown, hA, hlocks, hK, hZ⟩ := id C0
  unfold f_X7_existingLink at hf
  refine lv_iload_n hx hb dX7_existingLink_0 rfl (lv_at hl 1 rfl) ?_
  refine lv_aload_n hx hb dX7_existingLink_1 rfl (lv_at hl 0 rfl) ?_
  refine hs_get hx hb (T := TX7) hA inAX7 hown hK hH 0 0 (by decide) 11 rfl rfl 0 (by decide) (hA _ zt_292) rfl rfl dX7_existingLink_2 ?_
  refine hs_get hx hb (T := TX5) hA inAX5 hown hK hH 1 0 (by decide) 9 rfl rfl 1 (by decide) (hA _ zt_174) rfl rfl dX7_existingLink_5 ?_
  refine hs_get hx hb (T := TX2) hA inAX2 hown hK hH 2 0 (by decide) 6 rfl rfl 2 (by decide) (hA _ zt_121) rfl rfl dX7_existingLink_8 ?_
  obtain ⟨yr7, M6, hq5, hf⟩ := bx_o hf
  refine hx_cv (hx_runS C0 hH hS (n := 2) (As := [.int a1, .int (M 2 0 2)]) (rest := []) (c_X7_requireIndex hl9 M a1 (M 2 0 2) hq5) ⟨⟨zt_785, zt_786, zt_1, zt_787⟩, by decide, by decide, by decide +kernel⟩ ⟨rfl, rfl, Nat.le_of_ble_eq_true rfl, Nat.le_of_ble_eq_true rfl⟩ rfl rfl hl.1 (Nat.le_of_ble_eq_true rfl) ⟨Nat.le_of_ble_eq_true rfl, Nat.le_of_ble_eq_true rfl⟩ dX7_existingLink_11) hS C0 hn9 (by decide) (by decide) (fun k e => by subst e; exact bx_p (HS Y) hf) (fun r7 er7 H locs hH hS => ?_)
  subst er7
  have hf := bx_v hf
  refine lv_aload_n hx hb dX7_existingLink_14 rfl (lv_at hl 0 rfl) ?_
  refine hs_get hx hb (T := TX7) hA inAX7 hown hK hH 0 0 (by decide) 11 rfl rfl 0 (by decide) (hA _ zt_292) rfl rfl dX7_existingLink_15 ?_
  refine hs_get hx hb (T := TX5) hA inAX5 hown hK hH 1 0 (by decide) 9 rfl rfl 1 (by decide) (hA _ zt_174) rfl rfl dX7_existingLink_18 ?_
  refine hs_get hx hb (T := TX2) hA inAX2 hown hK hH 2 0 (by decide) 6 rfl rfl 0 (by decide) (hA _ zt_113) rfl rfl dX7_existingLink_21 ?_
  refine lv_iload_n hx hb dX7_existingLink_24 rfl (lv_at hl 1 rfl) ?_
  obtain ⟨hg8, hf⟩ := gd_o hf
  have bhg8 := vin_lt hg8
  refine hs_aald hx hb hK hH 3 0 (by decide) 3 rfl rfl hg8 (q := YA Y 4 (20 * 0 + (ix a1))) rfl dX7_existingLink_25 ?_
  cases hf
  exact hx_rret C0 hH hS (by decide) (by decide) 4 (20 * 0 + (ix a1)) dX7_existingLink_26
def f_X7_linkFrom (M : Mem) (a1 : Int32) : Option ((Int32 ⊕ Nat) × Mem) := bx (f_X7_existingLink M a1) fun (r6 : Nat) (M5 : Mem) => if r6 < 220 then (some (.inl (M5 4 r6 0), M5)) else none
set_option maxHeartbeats 4000000 in
set_option maxRecDepth 100000 in
theorem c_X7_linkFrom {Y : LY} {l : Launch} (hl9 : l.stackTraces = false) (M : Mem) (a1 : Int32) {x : Int32 ⊕ Nat} {MZ : Mem} (hf : f_X7_linkFrom M a1 = some (x, MZ)) : vx_Met l yX7_linkFrom (WS yX7_linkFrom cX7_linkFrom 2 (Option.some Jvm.ClassFile.FieldType.int)) { frames := 8, cells := 1, slots := 6, locals := 132 } (PcM Y M [.ref (YA Y 0 0), .int a1]) (Qxi Y x MZ) (Xx Y x MZ) 1 6 (AZ Y) := by
  refine met_mkx (lv := [(0, .ref (YA Y 0 0)), (1, .int a1)]) [.ref (YA Y 0 0), .int a1] (by decide) rfl rfl (Nat.le_of_ble_eq_true rfl) (fun p e s m below meth c C0 hn9 hH ls hl => ?_)
  have hS : va_S (AZ Y) s.heap s.heap [] := va_S.rf
  obtain ⟨hx, hb, hr, hml, hown, hA, hlocks, hK, hZ⟩ := id C0
  unfold f_X7_linkFrom at hf
  refine lv_aload_n hx hb dX7_linkFrom_0 rfl (lv_at hl 0 rfl) ?_
  refine lv_iload_n hx hb dX7_linkFrom_1 rfl (lv_at hl 1 rfl) ?_
  obtain ⟨yr6, M5, hq4, hf⟩ := bx_o hf
  refine hx_cr (hx_runV C0 hH hS (n := 1) (As := [.int a1]) (rest := []) (c_X7_existingLink hl9 M a1 hq4) ⟨⟨zt_781, zt_783, zs_21, zt_1, zt_784⟩, rfl, by decide, by decide, by decide +kernel⟩ ⟨rfl, rfl, Nat.le_of_ble_eq_true rfl, Nat.le_of_ble_eq_true rfl⟩ (hs_recv hK hH 0 0 (by decide) 11 rfl rfl) rfl rfl hl.1 (Nat.le_of_ble_eq_true rfl) ⟨Nat.le_of_ble_eq_true rfl, Nat.le_of_ble_eq_true rfl⟩ dX7_linkFrom_2) hS C0 hn9 (by decide) (by decide) (fun k e => by subst e; exact bx_p (HS Y) hf) (fun r6 er6 H locs hH hS => ?_)
  subst er6
  have hf := bx_v hf
  obtain ⟨hr6, hf⟩ := gd_o hf
  refine hs_get hx hb (T := TX1) hA inAX1 hown hK hH 4 r6 (show r6 < 220 from by omega) 5 rfl rfl 0 (by decide) (hA _ zt_80) rfl rfl dX7_linkFrom_5 ?_
  cases hf
  exact hx_iret C0 hH hS (by decide) (by decide) dX7_linkFrom_8
def f_X7_linkTo (M : Mem) (a1 : Int32) : Option ((Int32 ⊕ Nat) × Mem) := bx (f_X7_existingLink M a1) fun (r6 : Nat) (M5 : Mem) => if r6 < 220 then (some (.inl (M5 4 r6 1), M5)) else none
set_option maxHeartbeats 4000000 in
set_option maxRecDepth 100000 in
theorem c_X7_linkTo {Y : LY} {l : Launch} (hl9 : l.stackTraces = false) (M : Mem) (a1 : Int32) {x : Int32 ⊕ Nat} {MZ : Mem} (hf : f_X7_linkTo M a1 = some (x, MZ)) : vx_Met l yX7_linkTo (WS yX7_linkTo cX7_linkTo 2 (Option.some Jvm.ClassFile.FieldType.int)) { frames := 8, cells := 1, slots := 6, locals := 132 } (PcM Y M [.ref (YA Y 0 0), .int a1]) (Qxi Y x MZ) (Xx Y x MZ) 1 6 (AZ Y) := by
  refine met_mkx (lv := [(0, .ref (YA Y 0 0)), (1, .int a1)]) [.ref (YA Y 0 0), .int a1] (by decide) rfl rfl (Nat.le_of_ble_eq_true rfl) (fun p e s m below meth c C0 hn9 hH ls hl => ?_)
  have hS : va_S (AZ Y) s.heap s.heap [] := va_S.rf
  obtain ⟨hx, hb, hr, hml, hown, hA, hlocks, hK, hZ⟩ := id C0
  unfold f_X7_linkTo at hf
  refine lv_aload_n hx hb dX7_linkTo_0 rfl (lv_at hl 0 rfl) ?_
  refine lv_iload_n hx hb dX7_linkTo_1 rfl (lv_at hl 1 rfl) ?_
  obtain ⟨yr6, M5, hq4, hf⟩ := bx_o hf
  refine hx_cr (hx_runV C0 hH hS (n := 1) (As := [.int a1]) (rest := []) (c_X7_existingLink hl9 M a1 hq4) ⟨⟨zt_781, zt_783, zs_21, zt_1, zt_784⟩, rfl, by decide, by decide, by decide +kernel⟩ ⟨rfl, rfl, Nat.le_of_ble_eq_true rfl, Nat.le_of_ble_eq_true rfl⟩ (hs_recv hK hH 0 0 (by decide) 11 rfl rfl) rfl rfl hl.1 (Nat.le_of_ble_eq_true rfl) ⟨Nat.le_of_ble_eq_true rfl, Nat.le_of_ble_eq_true rfl⟩ dX7_linkTo_2) hS C0 hn9 (by decide) (by decide) (fun k e => by subst e; exact bx_p (HS Y) hf) (fun r6 er6 H locs hH hS => ?_)
  subst er6
  have hf := bx_v hf
  obtain ⟨hr6, hf⟩ := gd_o hf
  refine hs_get hx hb (T := TX1) hA inAX1 hown hK hH 4 r6 (show r6 < 220 from by omega) 5 rfl rfl 1 (by decide) (hA _ zt_86) rfl rfl dX7_linkTo_5 ?_
  cases hf
  exact hx_iret C0 hH hS (by decide) (by decide) dX7_linkTo_8
def f_X7_travelTime (M : Mem) (a1 : Int32) : Option ((Int32 ⊕ Nat) × Mem) := bx (f_X7_existingLink M a1) fun (r6 : Nat) (M5 : Mem) => if r6 < 220 then (some (.inl (M5 4 r6 2), M5)) else none
set_option maxHeartbeats 4000000 in
set_option maxRecDepth 100000 in
theorem c_X7_travelTime {Y : LY} {l : Launch} (hl9 : l.stackTraces = false) (M : Mem) (a1 : Int32) {x : Int32 ⊕ Nat} {MZ : Mem} (hf : f_X7_travelTime M a1 = some (x, MZ)) : vx_Met l yX7_travelTime (WS yX7_travelTime cX7_travelTime 2 (Option.some Jvm.ClassFile.FieldType.int)) { frames := 8, cells := 1, slots := 6, locals := 132 } (PcM Y M [.ref (YA Y 0 0), .int a1]) (Qxi Y x MZ) (Xx Y x MZ) 1 6 (AZ Y) := by
  refine met_mkx (lv := [(0, .ref (YA Y 0 0)), (1, .int a1)]) [.ref (YA Y 0 0), .int a1] (by decide) rfl rfl (Nat.le_of_ble_eq_true rfl) (fun p e s m below meth c C0 hn9 hH ls hl => ?_)
  have hS : va_S (AZ Y) s.heap s.heap [] := va_S.rf
  obtain ⟨hx, hb, hr, hml, hown, hA, hlocks, hK, hZ⟩ := id C0
  unfold f_X7_travelTime at hf
  refine lv_aload_n hx hb dX7_travelTime_0 rfl (lv_at hl 0 rfl) ?_
  refine lv_iload_n hx hb dX7_travelTime_1 rfl (lv_at hl 1 rfl) ?_
  obtain ⟨yr6, M5, hq4, hf⟩ := bx_o hf
  refine hx_cr (hx_runV C0 hH hS (n := 1) (As := [.int a1]) (rest := []) (c_X7_existingLink hl9 M a1 hq4) ⟨⟨zt_781, zt_783, zs_21, zt_1, zt_784⟩, rfl, by decide, by decide, by decide +kernel⟩ ⟨rfl, rfl, Nat.le_of_ble_eq_true rfl, Nat.le_of_ble_eq_true rfl⟩ (hs_recv hK hH 0 0 (by decide) 11 rfl rfl) rfl rfl hl.1 (Nat.le_of_ble_eq_true rfl) ⟨Nat.le_of_ble_eq_true rfl, Nat.le_of_ble_eq_true rfl⟩ dX7_travelTime_2) hS C0 hn9 (by decide) (by decide) (fun k e => by subst e; exact bx_p (HS Y) hf) (fun r6 er6 H locs hH hS => ?_)
  subst er6
  have hf := bx_v hf
  obtain ⟨hr6, hf⟩ := gd_o hf
  refine hs_get hx hb (T := TX1) hA inAX1 hown hK hH 4 r6 (show r6 < 220 from by omega) 5 rfl rfl 2 (by decide) (hA _ zt_91) rfl rfl dX7_travelTime_5 ?_
  cases hf
  exact hx_iret C0 hH hS (by decide) (by decide) dX7_travelTime_8
def f_X7_isBlocked (M : Mem) (a1 : Int32) : Option ((Int32 ⊕ Nat) × Mem) := bx (f_X7_existingLink M a1) fun (r7 : Nat) (M6 : Mem) => if r7 < 220 then (if isB (M6 4 r7 4) then some (.inl (M6 4 r7 4), M6) else none) else none
set_option maxHeartbeats 4000000 in
set_option maxRecDepth 100000 in
theorem c_X7_isBlocked {Y : LY} {l : Launch} (hl9 : l.stackTraces = false) (M : Mem) (a1 : Int32) {x : Int32 ⊕ Nat} {MZ : Mem} (hf : f_X7_isBlocked M a1 = some (x, MZ)) : vx_Met l yX7_isBlocked (WS yX7_isBlocked cX7_isBlocked 2 (Option.some Jvm.ClassFile.FieldType.boolean)) { frames := 8, cells := 1, slots := 6, locals := 132 } (PcM Y M [.ref (YA Y 0 0), .int a1]) (Qxi Y x MZ) (Xx Y x MZ) 1 6 (AZ Y) := by
  refine met_mkx (lv := [(0, .ref (YA Y 0 0)), (1, .int a1)]) [.ref (YA Y 0 0), .int a1] (by decide) rfl rfl (Nat.le_of_ble_eq_true rfl) (fun p e s m below meth c C0 hn9 hH ls hl => ?_)
  have hS : va_S (AZ Y) s.heap s.heap [] := va_S.rf
  obtain ⟨hx, hb, hr, hml, hown, hA, hlocks, hK, hZ⟩ := id C0
  unfold f_X7_isBlocked at hf
  refine lv_aload_n hx hb dX7_isBlocked_0 rfl (lv_at hl 0 rfl) ?_
  refine lv_iload_n hx hb dX7_isBlocked_1 rfl (lv_at hl 1 rfl) ?_
  obtain ⟨yr7, M6, hq5, hf⟩ := bx_o hf
  refine hx_cr (hx_runV C0 hH hS (n := 1) (As := [.int a1]) (rest := []) (c_X7_existingLink hl9 M a1 hq5) ⟨⟨zt_781, zt_783, zs_21, zt_1, zt_784⟩, rfl, by decide, by decide, by decide +kernel⟩ ⟨rfl, rfl, Nat.le_of_ble_eq_true rfl, Nat.le_of_ble_eq_true rfl⟩ (hs_recv hK hH 0 0 (by decide) 11 rfl rfl) rfl rfl hl.1 (Nat.le_of_ble_eq_true rfl) ⟨Nat.le_of_ble_eq_true rfl, Nat.le_of_ble_eq_true rfl⟩ dX7_isBlocked_2) hS C0 hn9 (by decide) (by decide) (fun k e => by subst e; exact bx_p (HS Y) hf) (fun r7 er7 H locs hH hS => ?_)
  subst er7
  have hf := bx_v hf
  obtain ⟨hr7, hf⟩ := gd_o hf
  refine hs_get hx hb (T := TX1) hA inAX1 hown hK hH 4 r7 (show r7 < 220 from by omega) 5 rfl rfl 4 (by decide) (hA _ zt_97) rfl rfl dX7_isBlocked_5 ?_
  obtain ⟨hg8, hf⟩ := gd_o hf
  cases hf
  exact hx_zret C0 hH hS (by decide) (by decide) hg8 dX7_isBlocked_8
def f_X7_requireBetween_10 (M : Mem) : Option ((Unit ⊕ Nat) × Mem) := some (.inr 1, M)
set_option maxHeartbeats 4000000 in
set_option maxRecDepth 100000 in
theorem w_X7_requireBetween_10 {Y : LY} {p : Program} {l : Launch} {e : Env} {s : State} {m : MethodId} {args : Array Value} {below : List Frame} {meth : Method} {c : Code} (C0 : BE Y p s m args meth c cX7_requireBetween 3 (Option.none : Option Jvm.ClassFile.FieldType) RX7) (hl9 : l.stackTraces = false) (hn9 : ∀ z ∈ c.exceptionTable.toList, False) {x : Unit ⊕ Nat} {MZ : Mem} : ∀ (M : Mem), f_X7_requireBetween_10 M = some (x, MZ) → ∀ (H : Heap) (locs : List Loc) (ls : Array Slot), HS Y M H → va_S (AZ Y) s.heap H locs → lv_has ls 3 [] → W p l e { frames := 6, cells := 1, slots := 6, locals := 90 } s m args below meth c H locs 0 0 (vx_MQ below (Qxv Y x MZ) (Xx Y x MZ) args s 1 6 (AZ Y)) (F0 m 10 ls []) := by
  obtain ⟨hx, hb, hr, hml, hown, hA, hlocks, hK, hZ⟩ := id C0
  intro M hf H locs ls hH hS hl
  unfold f_X7_requireBetween_10 at hf
  cases hf
  exact hx_thr1w C0 hl9 hn9 hH hS hl.1 (is := 358) (text := "the number is out of range") (by decide +kernel) dX7_requireBetween_10 dX7_requireBetween_13 dX7_requireBetween_14 dX7_requireBetween_17 dX7_requireBetween_20 ⟨by decide, Nat.le_of_ble_eq_true rfl, by decide, by decide⟩ (by decide) (by decide)
def f_X7_requireBetween (M : Mem) (a0 : Int32) (a1 : Int32) (a2 : Int32) : Option ((Unit ⊕ Nat) × Mem) := (if a0 < a1 then f_X7_requireBetween_10 M else (if a0 ≤ a2 then some (.inl (), M) else f_X7_requireBetween_10 M))
set_option maxHeartbeats 4000000 in
set_option maxRecDepth 100000 in
theorem c_X7_requireBetween {Y : LY} {l : Launch} (hl9 : l.stackTraces = false) (M : Mem) (a0 : Int32) (a1 : Int32) (a2 : Int32) {x : Unit ⊕ Nat} {MZ : Mem} (hf : f_X7_requireBetween M a0 a1 a2 = some (x, MZ)) : vx_Met l yX7_requireBetween (WS yX7_requireBetween cX7_requireBetween 3 (Option.none : Option Jvm.ClassFile.FieldType)) { frames := 6, cells := 1, slots := 6, locals := 90 } (PcM Y M [.int a0, .int a1, .int a2]) (Qxv Y x MZ) (Xx Y x MZ) 1 6 (AZ Y) := by
  refine met_mkx (lv := [(0, .int a0), (1, .int a1), (2, .int a2)]) [.int a0, .int a1, .int a2] (by decide) rfl rfl (Nat.le_of_ble_eq_true rfl) (fun p e s m below meth c C0 hn9 hH ls hl => ?_)
  have hS : va_S (AZ Y) s.heap s.heap [] := va_S.rf
  obtain ⟨hx, hb, hr, hml, hown, hA, hlocks, hK, hZ⟩ := id C0
  unfold f_X7_requireBetween at hf
  refine lv_iload_n hx hb dX7_requireBetween_0 rfl (lv_at hl 0 rfl) ?_
  refine lv_iload_n hx hb dX7_requireBetween_1 rfl (lv_at hl 1 rfl) ?_
  refine lv_icmp_lt (tgt := 10) hx hb dX7_requireBetween_2 (by decide) (fun hc4 => ?_) (fun hc4 => ?_)
  · have hf := if_t hf hc4
    exact w_X7_requireBetween_10 C0 hl9 hn9 M hf _ _ _ hH hS (lv_sub hl [] rfl)
  · have hf := if_f hf hc4
    refine lv_iload_n hx hb dX7_requireBetween_5 rfl (lv_at hl 0 rfl) ?_
    refine lv_iload_n hx hb dX7_requireBetween_6 rfl (lv_at hl 2 rfl) ?_
    refine lv_icmp_le (tgt := 21) hx hb dX7_requireBetween_7 (by decide) (fun hc3 => ?_) (fun hc3 => ?_)
    · have hf := if_t hf hc3
      cases hf
      exact hx_vret C0 hH hS (by decide) (by decide) dX7_requireBetween_21
    · have hf := if_f hf hc3
      exact w_X7_requireBetween_10 C0 hl9 hn9 M hf _ _ _ hH hS (lv_sub hl [] rfl)
def f_X7_requireAskedHour (M : Mem) (a0 : Int32) : Option ((Unit ⊕ Nat) × Mem) := bx (f_X7_requireBetween M a0 (0 : Int32) (9999 : Int32)) fun (r6 : Unit) (M5 : Mem) => some (.inl (), M5)
set_option maxHeartbeats 4000000 in
set_option maxRecDepth 100000 in
theorem c_X7_requireAskedHour {Y : LY} {l : Launch} (hl9 : l.stackTraces = false) (M : Mem) (a0 : Int32) {x : Unit ⊕ Nat} {MZ : Mem} (hf : f_X7_requireAskedHour M a0 = some (x, MZ)) : vx_Met l yX7_requireAskedHour (WS yX7_requireAskedHour cX7_requireAskedHour 1 (Option.none : Option Jvm.ClassFile.FieldType)) { frames := 7, cells := 1, slots := 6, locals := 112 } (PcM Y M [.int a0]) (Qxv Y x MZ) (Xx Y x MZ) 1 6 (AZ Y) := by
  refine met_mkx (lv := [(0, .int a0)]) [.int a0] (by decide) rfl rfl (Nat.le_of_ble_eq_true rfl) (fun p e s m below meth c C0 hn9 hH ls hl => ?_)
  have hS : va_S (AZ Y) s.heap s.heap [] := va_S.rf
  obtain ⟨hx, hb, hr, hml, hown, hA, hlocks, hK, hZ⟩ := id C0
  unfold f_X7_requireAskedHour at hf
  refine lv_iload_n hx hb dX7_requireAskedHour_0 rfl (lv_at hl 0 rfl) ?_
  refine lv_iconst (v := (0 : Int32)) hx hb dX7_requireAskedHour_1 (by decide) ?_
  refine lv_sipush (v := (9999 : Int32)) hx hb dX7_requireAskedHour_2 (by decide) ?_
  obtain ⟨yr6, M5, hq4, hf⟩ := bx_o hf
  refine hx_cv (hx_runS C0 hH hS (n := 3) (As := [.int a0, .int (0 : Int32), .int (9999 : Int32)]) (rest := []) (c_X7_requireBetween hl9 M a0 (0 : Int32) (9999 : Int32) hq4) ⟨⟨zt_820, zt_821, zt_1, zt_822⟩, by decide, by decide, by decide +kernel⟩ ⟨rfl, rfl, Nat.le_of_ble_eq_true rfl, Nat.le_of_ble_eq_true rfl⟩ rfl rfl hl.1 (Nat.le_of_ble_eq_true rfl) ⟨Nat.le_of_ble_eq_true rfl, Nat.le_of_ble_eq_true rfl⟩ dX7_requireAskedHour_5) hS C0 hn9 (by decide) (by decide) (fun k e => by subst e; exact bx_p (HS Y) hf) (fun r6 er6 H locs hH hS => ?_)
  subst er6
  have hf := bx_v hf
  cases hf
  exact hx_vret C0 hH hS (by decide) (by decide) dX7_requireAskedHour_8
def f_X7_isOpenAt (M : Mem) (a1 : Int32) (a2 : Int32) : Option ((Int32 ⊕ Nat) × Mem) := bx (f_X7_existingLink M a1) fun (r12 : Nat) (M11 : Mem) => if r12 < 220 then (bx (f_X7_requireAskedHour M11 a2) fun (r15 : Unit) (M14 : Mem) => bd (f_X1_canLeaveAt M14 r12 a2) fun r17 => if isB r17 then some (.inl r17, M14) else none) else none
set_option maxHeartbeats 4000000 in
set_option maxRecDepth 100000 in
theorem c_X7_isOpenAt {Y : LY} {l : Launch} (hl9 : l.stackTraces = false) (M : Mem) (a1 : Int32) (a2 : Int32) {x : Int32 ⊕ Nat} {MZ : Mem} (hf : f_X7_isOpenAt M a1 a2 = some (x, MZ)) : vx_Met l yX7_isOpenAt (WS yX7_isOpenAt cX7_isOpenAt 4 (Option.some Jvm.ClassFile.FieldType.boolean)) { frames := 8, cells := 2, slots := 12, locals := 132 } (PcM Y M [.ref (YA Y 0 0), .int a1, .int a2]) (Qxi Y x MZ) (Xx Y x MZ) 2 12 (AZ Y) := by
  refine met_mkx (lv := [(0, .ref (YA Y 0 0)), (1, .int a1), (2, .int a2)]) [.ref (YA Y 0 0), .int a1, .int a2] (by decide) rfl rfl (Nat.le_of_ble_eq_true rfl) (fun p e s m below meth c C0 hn9 hH ls hl => ?_)
  have hS : va_S (AZ Y) s.heap s.heap [] := va_S.rf
  obtain ⟨hx, hb, hr, hml, hown, hA, hlocks, hK, hZ⟩ := id C0
  unfold f_X7_isOpenAt at hf
  refine lv_aload_n hx hb dX7_isOpenAt_0 rfl (lv_at hl 0 rfl) ?_
  refine lv_iload_n hx hb dX7_isOpenAt_1 rfl (lv_at hl 1 rfl) ?_
  obtain ⟨yr12, M11, hq10, hf⟩ := bx_o hf
  refine hx_cr (hx_runV C0 hH hS (n := 1) (As := [.int a1]) (rest := []) (c_X7_existingLink hl9 M a1 hq10) ⟨⟨zt_781, zt_783, zs_21, zt_1, zt_784⟩, rfl, by decide, by decide, by decide +kernel⟩ ⟨rfl, rfl, Nat.le_of_ble_eq_true rfl, Nat.le_of_ble_eq_true rfl⟩ (hs_recv hK hH 0 0 (by decide) 11 rfl rfl) rfl rfl hl.1 (Nat.le_of_ble_eq_true rfl) ⟨Nat.le_of_ble_eq_true rfl, Nat.le_of_ble_eq_true rfl⟩ dX7_isOpenAt_2) hS C0 hn9 (by decide) (by decide) (fun k e => by subst e; exact bx_p (HS Y) hf) (fun r12 er12 H locs hH hS => ?_)
  subst er12
  have hf := bx_v hf
  obtain ⟨hr12, hf⟩ := gd_o hf
  refine lv_astore_n (lv' := [(3, .ref (YA Y 4 r12)), (0, .ref (YA Y 0 0)), (1, .int a1), (2, .int a2)]) hx hb dX7_isOpenAt_5 rfl hl (by decide) rfl (fun ls hl => ?_)
  refine lv_iload_n hx hb dX7_isOpenAt_6 rfl (lv_at hl 3 rfl) ?_
  obtain ⟨yr15, M14, hq13, hf⟩ := bx_o hf
  refine hx_cv (hx_runS C0 hH hS (n := 1) (As := [.int a2]) (rest := []) (c_X7_requireAskedHour hl9 M11 a2 hq13) ⟨⟨zt_817, zt_818, zt_1, zt_819⟩, by decide, by decide, by decide +kernel⟩ ⟨rfl, rfl, Nat.le_of_ble_eq_true rfl, Nat.le_of_ble_eq_true rfl⟩ rfl rfl hl.1 (Nat.le_of_ble_eq_true rfl) ⟨Nat.le_of_ble_eq_true rfl, Nat.le_of_ble_eq_true rfl⟩ dX7_isOpenAt_7) hS C0 hn9 (by decide) (by decide) (fun k e => by subst e; exact bx_p (HS Y) hf) (fun r15 er15 H locs hH hS => ?_)
  subst er15
  have hf := bx_v hf
  refine lv_aload_n hx hb dX7_isOpenAt_10 rfl (lv_at hl 0 rfl) ?_
  refine lv_iload_n hx hb dX7_isOpenAt_11 rfl (lv_at hl 3 rfl) ?_
  obtain ⟨r17, hq16, hf⟩ := bd_o hf
  refine hs_ci (hs_runV C0 hH hS (n := 1) (As := [.int a2]) (rest := []) (c_X1_canLeaveAt M14 r12 a2 (show r12 < 220 from by omega) hq16) ⟨⟨zt_824, zt_382, zt_383, zt_5, zt_384⟩, rfl, by decide, by decide, by decide +kernel⟩ ⟨rfl, rfl, Nat.le_of_ble_eq_true rfl, Nat.le_of_ble_eq_true rfl⟩ (hs_recv hK hH 4 r12 (show r12 < 220 from by omega) 5 rfl rfl) rfl rfl hl.1 (Nat.le_of_ble_eq_true rfl) ⟨Nat.le_of_ble_eq_true rfl, Nat.le_of_ble_eq_true rfl⟩ dX7_isOpenAt_12) hS (fun H locs hH hS => ?_)
  obtain ⟨hg18, hf⟩ := gd_o hf
  cases hf
  exact hx_zret C0 hH hS (by decide) (by decide) hg18 dX7_isOpenAt_15
def f_X7_loadOf (M : Mem) (a1 : Int32) : Option ((Int32 ⊕ Nat) × Mem) := bx (f_X7_requireIndex M a1 (M 2 0 2)) fun (r8 : Unit) (M7 : Mem) => bd (f_X5_weightOn M7 0 a1) fun r10 => some (.inl r10, M7)
set_option maxHeartbeats 4000000 in
set_option maxRecDepth 100000 in
theorem c_X7_loadOf {Y : LY} {l : Launch} (hl9 : l.stackTraces = false) (M : Mem) (a1 : Int32) {x : Int32 ⊕ Nat} {MZ : Mem} (hf : f_X7_loadOf M a1 = some (x, MZ)) : vx_Met l yX7_loadOf (WS yX7_loadOf cX7_loadOf 2 (Option.some Jvm.ClassFile.FieldType.int)) { frames := 7, cells := 1, slots := 6, locals := 111 } (PcM Y M [.ref (YA Y 0 0), .int a1]) (Qxi Y x MZ) (Xx Y x MZ) 1 6 (AZ Y) := by
  refine met_mkx (lv := [(0, .ref (YA Y 0 0)), (1, .int a1)]) [.ref (YA Y 0 0), .int a1] (by decide) rfl rfl (Nat.le_of_ble_eq_true rfl) (fun p e s m below meth c C0 hn9 hH ls hl => ?_)
  have hS : va_S (AZ Y) s.heap s.heap [] := va_S.rf
  obtain ⟨hx, hb, hr, hml, hown, hA, hlocks, hK, hZ⟩ := id C0
  unfold f_X7_loadOf at hf
  refine lv_iload_n hx hb dX7_loadOf_0 rfl (lv_at hl 1 rfl) ?_
  refine lv_aload_n hx hb dX7_loadOf_1 rfl (lv_at hl 0 rfl) ?_
  refine hs_get hx hb (T := TX7) hA inAX7 hown hK hH 0 0 (by decide) 11 rfl rfl 0 (by decide) (hA _ zt_292) rfl rfl dX7_loadOf_2 ?_
  refine hs_get hx hb (T := TX5) hA inAX5 hown hK hH 1 0 (by decide) 9 rfl rfl 1 (by decide) (hA _ zt_174) rfl rfl dX7_loadOf_5 ?_
  refine hs_get hx hb (T := TX2) hA inAX2 hown hK hH 2 0 (by decide) 6 rfl rfl 2 (by decide) (hA _ zt_121) rfl rfl dX7_loadOf_8 ?_
  obtain ⟨yr8, M7, hq6, hf⟩ := bx_o hf
  refine hx_cv (hx_runS C0 hH hS (n := 2) (As := [.int a1, .int (M 2 0 2)]) (rest := []) (c_X7_requireIndex hl9 M a1 (M 2 0 2) hq6) ⟨⟨zt_785, zt_786, zt_1, zt_787⟩, by decide, by decide, by decide +kernel⟩ ⟨rfl, rfl, Nat.le_of_ble_eq_true rfl, Nat.le_of_ble_eq_true rfl⟩ rfl rfl hl.1 (Nat.le_of_ble_eq_true rfl) ⟨Nat.le_of_ble_eq_true rfl, Nat.le_of_ble_eq_true rfl⟩ dX7_loadOf_11) hS C0 hn9 (by decide) (by decide) (fun k e => by subst e; exact bx_p (HS Y) hf) (fun r8 er8 H locs hH hS => ?_)
  subst er8
  have hf := bx_v hf
  refine lv_aload_n hx hb dX7_loadOf_14 rfl (lv_at hl 0 rfl) ?_
  refine hs_get hx hb (T := TX7) hA inAX7 hown hK hH 0 0 (by decide) 11 rfl rfl 0 (by decide) (hA _ zt_292) rfl rfl dX7_loadOf_15 ?_
  refine lv_iload_n hx hb dX7_loadOf_18 rfl (lv_at hl 1 rfl) ?_
  obtain ⟨r10, hq9, hf⟩ := bd_o hf
  refine hs_ci (hs_runV C0 hH hS (n := 1) (As := [.int a1]) (rest := []) (c_X5_weightOn M7 0 a1 (by decide) hq9) ⟨⟨zt_832, zt_390, zt_391, zt_3, zt_392⟩, rfl, by decide, by decide, by decide +kernel⟩ ⟨rfl, rfl, Nat.le_of_ble_eq_true rfl, Nat.le_of_ble_eq_true rfl⟩ (hs_recv hK hH 1 0 (by decide) 9 rfl rfl) rfl rfl hl.1 (Nat.le_of_ble_eq_true rfl) ⟨Nat.le_of_ble_eq_true rfl, Nat.le_of_ble_eq_true rfl⟩ dX7_loadOf_19) hS (fun H locs hH hS => ?_)
  cases hf
  exact hx_iret C0 hH hS (by decide) (by decide) dX7_loadOf_22
def f_X7_busiestLink (M : Mem) : Option ((Int32 ⊕ Nat) × Mem) := (if (M 2 0 2) = 0 then some (.inr 3, M) else bd (f_X5_heaviestLink M 0) fun r5 => some (.inl r5, M))
set_option maxHeartbeats 4000000 in
set_option maxRecDepth 100000 in
theorem c_X7_busiestLink {Y : LY} {l : Launch} (hl9 : l.stackTraces = false) (M : Mem) {x : Int32 ⊕ Nat} {MZ : Mem} (hf : f_X7_busiestLink M = some (x, MZ)) : vx_Met l yX7_busiestLink (WS yX7_busiestLink cX7_busiestLink 1 (Option.some Jvm.ClassFile.FieldType.int)) { frames := 6, cells := 1, slots := 6, locals := 90 } (PcM Y M [.ref (YA Y 0 0)]) (Qxi Y x MZ) (Xx Y x MZ) 1 6 (AZ Y) := by
  refine met_mkx (lv := [(0, .ref (YA Y 0 0))]) [.ref (YA Y 0 0)] (by decide) rfl rfl (Nat.le_of_ble_eq_true rfl) (fun p e s m below meth c C0 hn9 hH ls hl => ?_)
  have hS : va_S (AZ Y) s.heap s.heap [] := va_S.rf
  obtain ⟨hx, hb, hr, hml, hown, hA, hlocks, hK, hZ⟩ := id C0
  unfold f_X7_busiestLink at hf
  refine lv_aload_n hx hb dX7_busiestLink_0 rfl (lv_at hl 0 rfl) ?_
  refine hs_get hx hb (T := TX7) hA inAX7 hown hK hH 0 0 (by decide) 11 rfl rfl 0 (by decide) (hA _ zt_292) rfl rfl dX7_busiestLink_1 ?_
  refine hs_get hx hb (T := TX5) hA inAX5 hown hK hH 1 0 (by decide) 9 rfl rfl 1 (by decide) (hA _ zt_174) rfl rfl dX7_busiestLink_4 ?_
  refine hs_get hx hb (T := TX2) hA inAX2 hown hK hH 2 0 (by decide) 6 rfl rfl 2 (by decide) (hA _ zt_121) rfl rfl dX7_busiestLink_7 ?_
  refine lv_if_ne (tgt := 23) hx hb dX7_busiestLink_10 (by decide) (fun hc6 => ?_) (fun hc6 => ?_)
  · have hf := if_f hf hc6
    refine lv_aload_n hx hb dX7_busiestLink_23 rfl (lv_at hl 0 rfl) ?_
    refine hs_get hx hb (T := TX7) hA inAX7 hown hK hH 0 0 (by decide) 11 rfl rfl 0 (by decide) (hA _ zt_292) rfl rfl dX7_busiestLink_24 ?_
    obtain ⟨r5, hq4, hf⟩ := bd_o hf
    refine hs_ci (hs_runV C0 hH hS (n := 0) (As := []) (rest := []) (c_X5_heaviestLink M 0 (by decide) hq4) ⟨⟨zt_841, zt_842, zt_843, zt_3, zt_844⟩, rfl, by decide, by decide, by decide +kernel⟩ ⟨rfl, rfl, Nat.le_of_ble_eq_true rfl, Nat.le_of_ble_eq_true rfl⟩ (hs_recv hK hH 1 0 (by decide) 9 rfl rfl) rfl rfl hl.1 (Nat.le_of_ble_eq_true rfl) ⟨Nat.le_of_ble_eq_true rfl, Nat.le_of_ble_eq_true rfl⟩ dX7_busiestLink_27) hS (fun H locs hH hS => ?_)
    cases hf
    exact hx_iret C0 hH hS (by decide) (by decide) dX7_busiestLink_30
  · have hf := if_t hf hc6
    cases hf
    exact hx_thr3 C0 hl9 hn9 hH hS hl.1 (is := 122) (text := "there are no links") (by decide +kernel) dX7_busiestLink_13 dX7_busiestLink_16 dX7_busiestLink_17 dX7_busiestLink_19 dX7_busiestLink_22 ⟨by decide, Nat.le_of_ble_eq_true rfl, by decide, by decide⟩ (by decide) (by decide)
def f_X7_degree (M : Mem) (a1 : Int32) : Option ((Int32 ⊕ Nat) × Mem) := bx (f_X7_requireIndex M a1 (M 2 0 1)) fun (r8 : Unit) (M7 : Mem) => bd (f_X2_linksAt M7 0 a1) fun r10 => some (.inl r10, M7)
set_option maxHeartbeats 4000000 in
set_option maxRecDepth 100000 in
theorem c_X7_degree {Y : LY} {l : Launch} (hl9 : l.stackTraces = false) (M : Mem) (a1 : Int32) {x : Int32 ⊕ Nat} {MZ : Mem} (hf : f_X7_degree M a1 = some (x, MZ)) : vx_Met l yX7_degree (WS yX7_degree cX7_degree 2 (Option.some Jvm.ClassFile.FieldType.int)) { frames := 7, cells := 1, slots := 6, locals := 111 } (PcM Y M [.ref (YA Y 0 0), .int a1]) (Qxi Y x MZ) (Xx Y x MZ) 1 6 (AZ Y) := by
  refine met_mkx (lv := [(0, .ref (YA Y 0 0)), (1, .int a1)]) [.ref (YA Y 0 0), .int a1] (by decide) rfl rfl (Nat.le_of_ble_eq_true rfl) (fun p e s m below meth c C0 hn9 hH ls hl => ?_)
  have hS : va_S (AZ Y) s.heap s.heap [] := va_S.rf
  obtain ⟨hx, hb, hr, hml, hown, hA, hlocks, hK, hZ⟩ := id C0
  unfold f_X7_degree at hf
  refine lv_iload_n hx hb dX7_degree_0 rfl (lv_at hl 1 rfl) ?_
  refine lv_aload_n hx hb dX7_degree_1 rfl (lv_at hl 0 rfl) ?_
  refine hs_get hx hb (T := TX7) hA inAX7 hown hK hH 0 0 (by decide) 11 rfl rfl 0 (by decide) (hA _ zt_292) rfl rfl dX7_degree_2 ?_
  refine hs_get hx hb (T := TX5) hA inAX5 hown hK hH 1 0 (by decide) 9 rfl rfl 1 (by decide) (hA _ zt_174) rfl rfl dX7_degree_5 ?_
  refine hs_get hx hb (T := TX2) hA inAX2 hown hK hH 2 0 (by decide) 6 rfl rfl 1 (by decide) (hA _ zt_117) rfl rfl dX7_degree_8 ?_
  obtain ⟨yr8, M7, hq6, hf⟩ := bx_o hf
  refine hx_cv (hx_runS C0 hH hS (n := 2) (As := [.int a1, .int (M 2 0 1)]) (rest := []) (c_X7_requireIndex hl9 M a1 (M 2 0 1) hq6) ⟨⟨zt_785, zt_786, zt_1, zt_787⟩, by decide, by decide, by decide +kernel⟩ ⟨rfl, rfl, Nat.le_of_ble_eq_true rfl, Nat.le_of_ble_eq_true rfl⟩ rfl rfl hl.1 (Nat.le_of_ble_eq_true rfl) ⟨Nat.le_of_ble_eq_true rfl, Nat.le_of_ble_eq_true rfl⟩ dX7_degree_11) hS C0 hn9 (by decide) (by decide) (fun k e => by subst e; exact bx_p (HS Y) hf) (fun r8 er8 H locs hH hS => ?_)
  subst er8
  have hf := bx_v hf
  refine lv_aload_n hx hb dX7_degree_14 rfl (lv_at hl 0 rfl) ?_
  refine hs_get hx hb (T := TX7) hA inAX7 hown hK hH 0 0 (by decide) 11 rfl rfl 0 (by decide) (hA _ zt_292) rfl rfl dX7_degree_15 ?_
  refine hs_get hx hb (T := TX5) hA inAX5 hown hK hH 1 0 (by decide) 9 rfl rfl 1 (by decide) (hA _ zt_174) rfl rfl dX7_degree_18 ?_
  refine lv_iload_n hx hb dX7_degree_21 rfl (lv_at hl 1 rfl) ?_
  obtain ⟨r10, hq9, hf⟩ := bd_o hf
  refine hs_ci (hs_runV C0 hH hS (n := 1) (As := [.int a1]) (rest := []) (c_X2_linksAt M7 0 a1 (by decide) hq9) ⟨⟨zt_852, zt_853, zt_854, zt_4, zt_855⟩, rfl, by decide, by decide, by decide +kernel⟩ ⟨rfl, rfl, Nat.le_of_ble_eq_true rfl, Nat.le_of_ble_eq_true rfl⟩ (hs_recv hK hH 2 0 (by decide) 6 rfl rfl) rfl rfl hl.1 (Nat.le_of_ble_eq_true rfl) ⟨Nat.le_of_ble_eq_true rfl, Nat.le_of_ble_eq_true rfl⟩ dX7_degree_22) hS (fun H locs hH hS => ?_)
  cases hf
  exact hx_iret C0 hH hS (by decide) (by decide) dX7_degree_25
def f_X7_parcelCount (M : Mem) : Option Int32 := some (M 1 0 3)
set_option maxHeartbeats 4000000 in
set_option maxRecDepth 100000 in
theorem c_X7_parcelCount {Y : LY} {l : Launch} (M : Mem) {r : Int32} (hf : f_X7_parcelCount M = some r) : Met l yX7_parcelCount (WS yX7_parcelCount cX7_parcelCount 1 (Option.some Jvm.ClassFile.FieldType.int)) { frames := 0, cells := 0, slots := 0, locals := 0 } (PcM Y M [.ref (YA Y 0 0)]) (Qi Y r M) 0 0 (AZ Y) := by
  refine met_mk (lv := [(0, .ref (YA Y 0 0))]) [.ref (YA Y 0 0)] (by decide) rfl rfl (Nat.le_of_ble_eq_true rfl) (fun p e s m below meth c C0 hH ls hl => ?_)
  have hS : va_S (AZ Y) s.heap s.heap [] := va_S.rf
  obtain ⟨hx, hb, hr, hml, hown, hA, hlocks, hK, hZ⟩ := id C0
  unfold f_X7_parcelCount at hf
  refine lv_aload_n hx hb dX7_parcelCount_0 rfl (lv_at hl 0 rfl) ?_
  refine hs_get hx hb (T := TX7) hA inAX7 hown hK hH 0 0 (by decide) 11 rfl rfl 0 (by decide) (hA _ zt_292) rfl rfl dX7_parcelCount_1 ?_
  refine hs_get hx hb (T := TX5) hA inAX5 hown hK hH 1 0 (by decide) 9 rfl rfl 3 (by decide) (hA _ zt_178) rfl rfl dX7_parcelCount_4 ?_
  cases hf
  exact hs_iret C0 hH hS (by decide) (by decide) dX7_parcelCount_7
def f_X7_idAt (M : Mem) (a1 : Int32) : Option ((Int32 ⊕ Nat) × Mem) := bx (f_X7_requireIndex M a1 (M 1 0 3)) fun (r8 : Unit) (M7 : Mem) => if vin a1 12 then (if ix (M7 5 0 (ix a1)) < 132 then (some (.inl (M7 6 (ix (M7 5 0 (ix a1))) 0), M7)) else none) else none
set_option maxHeartbeats 4000000 in
set_option maxRecDepth 100000 in
theorem c_X7_idAt {Y : LY} {l : Launch} (hl9 : l.stackTraces = false) (M : Mem) (a1 : Int32) {x : Int32 ⊕ Nat} {MZ : Mem} (hf : f_X7_idAt M a1 = some (x, MZ)) : vx_Met l yX7_idAt (WS yX7_idAt cX7_idAt 2 (Option.some Jvm.ClassFile.FieldType.int)) { frames := 7, cells := 1, slots := 6, locals := 111 } (PcM Y M [.ref (YA Y 0 0), .int a1]) (Qxi Y x MZ) (Xx Y x MZ) 1 6 (AZ Y) := by
  refine met_mkx (lv := [(0, .ref (YA Y 0 0)), (1, .int a1)]) [.ref (YA Y 0 0), .int a1] (by decide) rfl rfl (Nat.le_of_ble_eq_true rfl) (fun p e s m below meth c C0 hn9 hH ls hl => ?_)
  have hS : va_S (AZ Y) s.heap s.heap [] := va_S.rf
  obtain ⟨hx, hb, hr, hml, hown, hA, hlocks, hK, hZ⟩ := id C0
  unfold f_X7_idAt at hf
  refine lv_iload_n hx hb dX7_idAt_0 rfl (lv_at hl 1 rfl) ?_
  refine lv_aload_n hx hb dX7_idAt_1 rfl (lv_at hl 0 rfl) ?_
  refine hs_get hx hb (T := TX7) hA inAX7 hown hK hH 0 0 (by decide) 11 rfl rfl 0 (by decide) (hA _ zt_292) rfl rfl dX7_idAt_2 ?_
  refine hs_get hx hb (T := TX5) hA inAX5 hown hK hH 1 0 (by decide) 9 rfl rfl 3 (by decide) (hA _ zt_178) rfl rfl dX7_idAt_5 ?_
  obtain ⟨yr8, M7, hq6, hf⟩ := bx_o hf
  refine hx_cv (hx_runS C0 hH hS (n := 2) (As := [.int a1, .int (M 1 0 3)]) (rest := []) (c_X7_requireIndex hl9 M a1 (M 1 0 3) hq6) ⟨⟨zt_785, zt_786, zt_1, zt_787⟩, by decide, by decide, by decide +kernel⟩ ⟨rfl, rfl, Nat.le_of_ble_eq_true rfl, Nat.le_of_ble_eq_true rfl⟩ rfl rfl hl.1 (Nat.le_of_ble_eq_true rfl) ⟨Nat.le_of_ble_eq_true rfl, Nat.le_of_ble_eq_true rfl⟩ dX7_idAt_8) hS C0 hn9 (by decide) (by decide) (fun k e => by subst e; exact bx_p (HS Y) hf) (fun r8 er8 H locs hH hS => ?_)
  subst er8
  have hf := bx_v hf
  refine lv_aload_n hx hb dX7_idAt_11 rfl (lv_at hl 0 rfl) ?_
  refine hs_get hx hb (T := TX7) hA inAX7 hown hK hH 0 0 (by decide) 11 rfl rfl 0 (by decide) (hA _ zt_292) rfl rfl dX7_idAt_12 ?_
  refine hs_get hx hb (T := TX5) hA inAX5 hown hK hH 1 0 (by decide) 9 rfl rfl 2 (by decide) (hA _ zt_176) rfl rfl dX7_idAt_15 ?_
  refine lv_iload_n hx hb dX7_idAt_18 rfl (lv_at hl 1 rfl) ?_
  obtain ⟨hg9, hf⟩ := gd_o hf
  have bhg9 := vin_lt hg9
  obtain ⟨hg10, hf⟩ := gd_o hf
  refine hs_aald hx hb hK hH 5 0 (by decide) 4 rfl rfl hg9 (q := YA Y 6 (ix (M7 5 0 (ix a1)))) rfl dX7_idAt_19 ?_
  refine hs_get hx hb (T := TX3) hA inAX3 hown hK hH 6 (ix (M7 5 0 (ix a1))) (show ix (M7 5 0 (ix a1)) < 132 from by omega) 7 rfl rfl 0 (by decide) (hA _ zt_137) rfl rfl dX7_idAt_20 ?_
  cases hf
  exact hx_iret C0 hH hS (by decide) (by decide) dX7_idAt_23
def f_X7_existingParcel (M : Mem) (a1 : Int32) : Option ((Nat ⊕ Nat) × Mem) := bd (f_X5_find M 0 a1) fun r5 => on r5 (some (.inr 3, M)) fun q6 => if q6 < 132 then (some (.inl q6, M)) else none
set_option maxHeartbeats 4000000 in
set_option maxRecDepth 100000 in
theorem c_X7_existingParcel {Y : LY} {l : Launch} (hl9 : l.stackTraces = false) (M : Mem) (a1 : Int32) {x : Nat ⊕ Nat} {MZ : Mem} (hf : f_X7_existingParcel M a1 = some (x, MZ)) : vx_Met l yX7_existingParcel (WS yX7_existingParcel cX7_existingParcel 3 (Option.some (Jvm.ClassFile.FieldType.object "RiverParcelService$Parcel"))) { frames := 6, cells := 1, slots := 6, locals := 90 } (PcM Y M [.ref (YA Y 0 0), .int a1]) (Qxr Y 6 x MZ) (Xx Y x MZ) 1 6 (AZ Y) := by
  refine met_mkx (lv := [(0, .ref (YA Y 0 0)), (1, .int a1)]) [.ref (YA Y 0 0), .int a1] (by decide) rfl rfl (Nat.le_of_ble_eq_true rfl) (fun p e s m below meth c C0 hn9 hH ls hl => ?_)
  have hS : va_S (AZ Y) s.heap s.heap [] := va_S.rf
  obtain ⟨hx, hb, hr, hml, hown, hA, hlocks, hK, hZ⟩ := id C0
  unfold f_X7_existingParcel at hf
  refine lv_aload_n hx hb dX7_existingParcel_0 rfl (lv_at hl 0 rfl) ?_
  refine hs_get hx hb (T := TX7) hA inAX7 hown hK hH 0 0 (by decide) 11 rfl rfl 0 (by decide) (hA _ zt_292) rfl rfl dX7_existingParcel_1 ?_
  refine lv_iload_n hx hb dX7_existingParcel_4 rfl (lv_at hl 1 rfl) ?_
  obtain ⟨r5, hq4, hf⟩ := bd_o hf
  refine hs_cq (hs_runV C0 hH hS (n := 1) (As := [.int a1]) (rest := []) (c_X5_find M 0 a1 (by decide) hq4) ⟨⟨zt_874, zt_366, zt_367, zt_3, zt_368⟩, rfl, by decide, by decide, by decide +kernel⟩ ⟨rfl, rfl, Nat.le_of_ble_eq_true rfl, Nat.le_of_ble_eq_true rfl⟩ (hs_recv hK hH 1 0 (by decide) 9 rfl rfl) rfl rfl hl.1 (Nat.le_of_ble_eq_true rfl) ⟨Nat.le_of_ble_eq_true rfl, Nat.le_of_ble_eq_true rfl⟩ dX7_existingParcel_5) hS (fun er5 H locs hH hS => ?_) (fun q6 er5 H locs hH hS => ?_)
  · subst er5
    have hf := on_n hf
    refine lv_astore_nN (lv' := [(2, .null), (0, .ref (YA Y 0 0)), (1, .int a1)]) hx hb dX7_existingParcel_8 rfl hl (by decide) rfl (fun ls hl => ?_)
    refine lv_aload_nN hx hb dX7_existingParcel_9 rfl (lv_at hl 0 rfl) ?_
    refine lv_ifnonnullN hx hb dX7_existingParcel_10 ?_
    cases hf
    exact hx_thr3w C0 hl9 hn9 hH hS hl.1 (is := 354) (text := "there is no such parcel") (by decide +kernel) dX7_existingParcel_13 dX7_existingParcel_16 dX7_existingParcel_17 dX7_existingParcel_20 dX7_existingParcel_23 ⟨by decide, Nat.le_of_ble_eq_true rfl, by decide, by decide⟩ (by decide) (by decide)
  · subst er5
    obtain ⟨hq6, hf⟩ := gd_o (on_s hf)
    refine lv_astore_n (lv' := [(2, .ref (YA Y 6 q6)), (0, .ref (YA Y 0 0)), (1, .int a1)]) hx hb dX7_existingParcel_8 rfl hl (by decide) rfl (fun ls hl => ?_)
    refine lv_aload_n hx hb dX7_existingParcel_9 rfl (lv_at hl 0 rfl) ?_
    refine lv_ifnonnull (tgt := 24) hx hb dX7_existingParcel_10 (by decide) ?_
    refine lv_aload_n hx hb dX7_existingParcel_24 rfl (lv_at hl 0 rfl) ?_
    cases hf
    exact hx_rret C0 hH hS (by decide) (by decide) 6 (q6) dX7_existingParcel_25
def f_X7_isTravelling (M : Mem) (a1 : Int32) : Option ((Int32 ⊕ Nat) × Mem) := bx (f_X7_existingParcel M a1) fun (r9 : Nat) (M8 : Mem) => if r9 < 132 then (bd (f_X3_isUnderWay M8 r9) fun r11 => if isB r11 then some (.inl r11, M8) else none) else none
set_option maxHeartbeats 4000000 in
set_option maxRecDepth 100000 in
theorem c_X7_isTravelling {Y : LY} {l : Launch} (hl9 : l.stackTraces = false) (M : Mem) (a1 : Int32) {x : Int32 ⊕ Nat} {MZ : Mem} (hf : f_X7_isTravelling M a1 = some (x, MZ)) : vx_Met l yX7_isTravelling (WS yX7_isTravelling cX7_isTravelling 2 (Option.some Jvm.ClassFile.FieldType.boolean)) { frames := 7, cells := 1, slots := 6, locals := 112 } (PcM Y M [.ref (YA Y 0 0), .int a1]) (Qxi Y x MZ) (Xx Y x MZ) 1 6 (AZ Y) := by
  refine met_mkx (lv := [(0, .ref (YA Y 0 0)), (1, .int a1)]) [.ref (YA Y 0 0), .int a1] (by decide) rfl rfl (Nat.le_of_ble_eq_true rfl) (fun p e s m below meth c C0 hn9 hH ls hl => ?_)
  have hS : va_S (AZ Y) s.heap s.heap [] := va_S.rf
  obtain ⟨hx, hb, hr, hml, hown, hA, hlocks, hK, hZ⟩ := id C0
  unfold f_X7_isTravelling at hf
  refine lv_aload_n hx hb dX7_isTravelling_0 rfl (lv_at hl 0 rfl) ?_
  refine lv_iload_n hx hb dX7_isTravelling_1 rfl (lv_at hl 1 rfl) ?_
  obtain ⟨yr9, M8, hq7, hf⟩ := bx_o hf
  refine hx_cr (hx_runV C0 hH hS (n := 1) (As := [.int a1]) (rest := []) (c_X7_existingParcel hl9 M a1 hq7) ⟨⟨zt_870, zt_872, zs_22, zt_1, zt_873⟩, rfl, by decide, by decide, by decide +kernel⟩ ⟨rfl, rfl, Nat.le_of_ble_eq_true rfl, Nat.le_of_ble_eq_true rfl⟩ (hs_recv hK hH 0 0 (by decide) 11 rfl rfl) rfl rfl hl.1 (Nat.le_of_ble_eq_true rfl) ⟨Nat.le_of_ble_eq_true rfl, Nat.le_of_ble_eq_true rfl⟩ dX7_isTravelling_2) hS C0 hn9 (by decide) (by decide) (fun k e => by subst e; exact bx_p (HS Y) hf) (fun r9 er9 H locs hH hS => ?_)
  subst er9
  have hf := bx_v hf
  obtain ⟨hr9, hf⟩ := gd_o hf
  obtain ⟨r11, hq10, hf⟩ := bd_o hf
  refine hs_ci (hs_runV C0 hH hS (n := 0) (As := []) (rest := []) (c_X3_isUnderWay M8 r9 (show r9 < 132 from by omega) hq10) ⟨⟨zt_875, zt_374, zt_375, zt_6, zt_376⟩, rfl, by decide, by decide, by decide +kernel⟩ ⟨rfl, rfl, Nat.le_of_ble_eq_true rfl, Nat.le_of_ble_eq_true rfl⟩ (hs_recv hK hH 6 r9 (show r9 < 132 from by omega) 7 rfl rfl) rfl rfl hl.1 (Nat.le_of_ble_eq_true rfl) ⟨Nat.le_of_ble_eq_true rfl, Nat.le_of_ble_eq_true rfl⟩ dX7_isTravelling_5) hS (fun H locs hH hS => ?_)
  obtain ⟨hg12, hf⟩ := gd_o hf
  cases hf
  exact hx_zret C0 hH hS (by decide) (by decide) hg12 dX7_isTravelling_8
def f_X7_waitingParcel (M : Mem) (a1 : Int32) : Option ((Nat ⊕ Nat) × Mem) := bx (f_X7_existingParcel M a1) fun (r9 : Nat) (M8 : Mem) => if r9 < 132 then (bd (f_X3_isUnderWay M8 r9) fun r11 => (if r11 = 0 then some (.inl r9, M8) else some (.inr 3, M8))) else none
set_option maxHeartbeats 4000000 in
set_option maxRecDepth 100000 in
theorem c_X7_waitingParcel {Y : LY} {l : Launch} (hl9 : l.stackTraces = false) (M : Mem) (a1 : Int32) {x : Nat ⊕ Nat} {MZ : Mem} (hf : f_X7_waitingParcel M a1 = some (x, MZ)) : vx_Met l yX7_waitingParcel (WS yX7_waitingParcel cX7_waitingParcel 3 (Option.some (Jvm.ClassFile.FieldType.object "RiverParcelService$Parcel"))) { frames := 7, cells := 2, slots := 12, locals := 112 } (PcM Y M [.ref (YA Y 0 0), .int a1]) (Qxr Y 6 x MZ) (Xx Y x MZ) 2 12 (AZ Y) := by
  refine met_mkx (lv := [(0, .ref (YA Y 0 0)), (1, .int a1)]) [.ref (YA Y 0 0), .int a1] (by decide) rfl rfl (Nat.le_of_ble_eq_true rfl) (fun p e s m below meth c C0 hn9 hH ls hl => ?_)
  have hS : va_S (AZ Y) s.heap s.heap [] := va_S.rf
  obtain ⟨hx, hb, hr, hml, hown, hA, hlocks, hK, hZ⟩ := id C0
  unfold f_X7_waitingParcel at hf
  refine lv_aload_n hx hb dX7_waitingParcel_0 rfl (lv_at hl 0 rfl) ?_
  refine lv_iload_n hx hb dX7_waitingParcel_1 rfl (lv_at hl 1 rfl) ?_
  obtain ⟨yr9, M8, hq7, hf⟩ := bx_o hf
  refine hx_cr (hx_runV C0 hH hS (n := 1) (As := [.int a1]) (rest := []) (c_X7_existingParcel hl9 M a1 hq7) ⟨⟨zt_870, zt_872, zs_22, zt_1, zt_873⟩, rfl, by decide, by decide, by decide +kernel⟩ ⟨rfl, rfl, Nat.le_of_ble_eq_true rfl, Nat.le_of_ble_eq_true rfl⟩ (hs_recv hK hH 0 0 (by decide) 11 rfl rfl) rfl rfl hl.1 (Nat.le_of_ble_eq_true rfl) ⟨Nat.le_of_ble_eq_true rfl, Nat.le_of_ble_eq_true rfl⟩ dX7_waitingParcel_2) hS C0 hn9 (by decide) (by decide) (fun k e => by subst e; exact bx_p (HS Y) hf) (fun r9 er9 H locs hH hS => ?_)
  subst er9
  have hf := bx_v hf
  obtain ⟨hr9, hf⟩ := gd_o hf
  refine lv_astore_n (lv' := [(2, .ref (YA Y 6 r9)), (0, .ref (YA Y 0 0)), (1, .int a1)]) hx hb dX7_waitingParcel_5 rfl hl (by decide) rfl (fun ls hl => ?_)
  refine lv_aload_n hx hb dX7_waitingParcel_6 rfl (lv_at hl 0 rfl) ?_
  obtain ⟨r11, hq10, hf⟩ := bd_o hf
  refine hs_ci (hs_runV C0 hH hS (n := 0) (As := []) (rest := []) (c_X3_isUnderWay M8 r9 (show r9 < 132 from by omega) hq10) ⟨⟨zt_875, zt_374, zt_375, zt_6, zt_376⟩, rfl, by decide, by decide, by decide +kernel⟩ ⟨rfl, rfl, Nat.le_of_ble_eq_true rfl, Nat.le_of_ble_eq_true rfl⟩ (hs_recv hK hH 6 r9 (show r9 < 132 from by omega) 7 rfl rfl) rfl rfl hl.1 (Nat.le_of_ble_eq_true rfl) ⟨Nat.le_of_ble_eq_true rfl, Nat.le_of_ble_eq_true rfl⟩ dX7_waitingParcel_7) hS (fun H locs hH hS => ?_)
  refine lv_if_eq (tgt := 24) hx hb dX7_waitingParcel_10 (by decide) (fun hc12 => ?_) (fun hc12 => ?_)
  · have hf := if_t hf hc12
    refine lv_aload_n hx hb dX7_waitingParcel_24 rfl (lv_at hl 0 rfl) ?_
    cases hf
    exact hx_rret C0 hH hS (by decide) (by decide) 6 (r9) dX7_waitingParcel_25
  · have hf := if_f hf hc12
    cases hf
    exact hx_thr3w C0 hl9 hn9 hH hS hl.1 (is := 370) (text := "the parcel is travelling") (by decide +kernel) dX7_waitingParcel_13 dX7_waitingParcel_16 dX7_waitingParcel_17 dX7_waitingParcel_20 dX7_waitingParcel_23 ⟨by decide, Nat.le_of_ble_eq_true rfl, by decide, by decide⟩ (by decide) (by decide)
def f_X7_placeOf (M : Mem) (a1 : Int32) : Option ((Int32 ⊕ Nat) × Mem) := bx (f_X7_waitingParcel M a1) fun (r6 : Nat) (M5 : Mem) => if r6 < 132 then (some (.inl (M5 6 r6 4), M5)) else none
set_option maxHeartbeats 4000000 in
set_option maxRecDepth 100000 in
theorem c_X7_placeOf {Y : LY} {l : Launch} (hl9 : l.stackTraces = false) (M : Mem) (a1 : Int32) {x : Int32 ⊕ Nat} {MZ : Mem} (hf : f_X7_placeOf M a1 = some (x, MZ)) : vx_Met l yX7_placeOf (WS yX7_placeOf cX7_placeOf 2 (Option.some Jvm.ClassFile.FieldType.int)) { frames := 8, cells := 2, slots := 12, locals := 134 } (PcM Y M [.ref (YA Y 0 0), .int a1]) (Qxi Y x MZ) (Xx Y x MZ) 2 12 (AZ Y) := by
  refine met_mkx (lv := [(0, .ref (YA Y 0 0)), (1, .int a1)]) [.ref (YA Y 0 0), .int a1] (by decide) rfl rfl (Nat.le_of_ble_eq_true rfl) (fun p e s m below meth c C0 hn9 hH ls hl => ?_)
  have hS : va_S (AZ Y) s.heap s.heap [] := va_S.rf
  obtain ⟨hx, hb, hr, hml, hown, hA, hlocks, hK, hZ⟩ := id C0
  unfold f_X7_placeOf at hf
  refine lv_aload_n hx hb dX7_placeOf_0 rfl (lv_at hl 0 rfl) ?_
  refine lv_iload_n hx hb dX7_placeOf_1 rfl (lv_at hl 1 rfl) ?_
  obtain ⟨yr6, M5, hq4, hf⟩ := bx_o hf
  refine hx_cr (hx_runV C0 hH hS (n := 1) (As := [.int a1]) (rest := []) (c_X7_waitingParcel hl9 M a1 hq4) ⟨⟨zt_883, zt_885, zs_23, zt_1, zt_886⟩, rfl, by decide, by decide, by decide +kernel⟩ ⟨rfl, rfl, Nat.le_of_ble_eq_true rfl, Nat.le_of_ble_eq_true rfl⟩ (hs_recv hK hH 0 0 (by decide) 11 rfl rfl) rfl rfl hl.1 (Nat.le_of_ble_eq_true rfl) ⟨Nat.le_of_ble_eq_true rfl, Nat.le_of_ble_eq_true rfl⟩ dX7_placeOf_2) hS C0 hn9 (by decide) (by decide) (fun k e => by subst e; exact bx_p (HS Y) hf) (fun r6 er6 H locs hH hS => ?_)
  subst er6
  have hf := bx_v hf
  obtain ⟨hr6, hf⟩ := gd_o hf
  refine hs_get hx hb (T := TX3) hA inAX3 hown hK hH 6 r6 (show r6 < 132 from by omega) 7 rfl rfl 4 (by decide) (hA _ zt_150) rfl rfl dX7_placeOf_5 ?_
  cases hf
  exact hx_iret C0 hH hS (by decide) (by decide) dX7_placeOf_8
def f_X7_travellingParcel (M : Mem) (a1 : Int32) : Option ((Nat ⊕ Nat) × Mem) := bx (f_X7_existingParcel M a1) fun (r9 : Nat) (M8 : Mem) => if r9 < 132 then (bd (f_X3_isUnderWay M8 r9) fun r11 => (if r11 = 0 then some (.inr 3, M8) else some (.inl r9, M8))) else none
set_option maxHeartbeats 4000000 in
set_option maxRecDepth 100000 in
theorem c_X7_travellingParcel {Y : LY} {l : Launch} (hl9 : l.stackTraces = false) (M : Mem) (a1 : Int32) {x : Nat ⊕ Nat} {MZ : Mem} (hf : f_X7_travellingParcel M a1 = some (x, MZ)) : vx_Met l yX7_travellingParcel (WS yX7_travellingParcel cX7_travellingParcel 3 (Option.some (Jvm.ClassFile.FieldType.object "RiverParcelService$Parcel"))) { frames := 7, cells := 2, slots := 12, locals := 112 } (PcM Y M [.ref (YA Y 0 0), .int a1]) (Qxr Y 6 x MZ) (Xx Y x MZ) 2 12 (AZ Y) := by
  refine met_mkx (lv := [(0, .ref (YA Y 0 0)), (1, .int a1)]) [.ref (YA Y 0 0), .int a1] (by decide) rfl rfl (Nat.le_of_ble_eq_true rfl) (fun p e s m below meth c C0 hn9 hH ls hl => ?_)
  have hS : va_S (AZ Y) s.heap s.heap [] := va_S.rf
  obtain ⟨hx, hb, hr, hml, hown, hA, hlocks, hK, hZ⟩ := id C0
  unfold f_X7_travellingParcel at hf
  refine lv_aload_n hx hb dX7_travellingParcel_0 rfl (lv_at hl 0 rfl) ?_
  refine lv_iload_n hx hb dX7_travellingParcel_1 rfl (lv_at hl 1 rfl) ?_
  obtain ⟨yr9, M8, hq7, hf⟩ := bx_o hf
  refine hx_cr (hx_runV C0 hH hS (n := 1) (As := [.int a1]) (rest := []) (c_X7_existingParcel hl9 M a1 hq7) ⟨⟨zt_870, zt_872, zs_22, zt_1, zt_873⟩, rfl, by decide, by decide, by decide +kernel⟩ ⟨rfl, rfl, Nat.le_of_ble_eq_true rfl, Nat.le_of_ble_eq_true rfl⟩ (hs_recv hK hH 0 0 (by decide) 11 rfl rfl) rfl rfl hl.1 (Nat.le_of_ble_eq_true rfl) ⟨Nat.le_of_ble_eq_true rfl, Nat.le_of_ble_eq_true rfl⟩ dX7_travellingParcel_2) hS C0 hn9 (by decide) (by decide) (fun k e => by subst e; exact bx_p (HS Y) hf) (fun r9 er9 H locs hH hS => ?_)
  subst er9
  have hf := bx_v hf
  obtain ⟨hr9, hf⟩ := gd_o hf
  refine lv_astore_n (lv' := [(2, .ref (YA Y 6 r9)), (0, .ref (YA Y 0 0)), (1, .int a1)]) hx hb dX7_travellingParcel_5 rfl hl (by decide) rfl (fun ls hl => ?_)
  refine lv_aload_n hx hb dX7_travellingParcel_6 rfl (lv_at hl 0 rfl) ?_
  obtain ⟨r11, hq10, hf⟩ := bd_o hf
  refine hs_ci (hs_runV C0 hH hS (n := 0) (As := []) (rest := []) (c_X3_isUnderWay M8 r9 (show r9 < 132 from by omega) hq10) ⟨⟨zt_875, zt_374, zt_375, zt_6, zt_376⟩, rfl, by decide, by decide, by decide +kernel⟩ ⟨rfl, rfl, Nat.le_of_ble_eq_true rfl, Nat.le_of_ble_eq_true rfl⟩ (hs_recv hK hH 6 r9 (show r9 < 132 from by omega) 7 rfl rfl) rfl rfl hl.1 (Nat.le_of_ble_eq_true rfl) ⟨Nat.le_of_ble_eq_true rfl, Nat.le_of_ble_eq_true rfl⟩ dX7_travellingParcel_7) hS (fun H locs hH hS => ?_)
  refine lv_if_ne (tgt := 24) hx hb dX7_travellingParcel_10 (by decide) (fun hc12 => ?_) (fun hc12 => ?_)
  · have hf := if_f hf hc12
    refine lv_aload_n hx hb dX7_travellingParcel_24 rfl (lv_at hl 0 rfl) ?_
    cases hf
    exact hx_rret C0 hH hS (by decide) (by decide) 6 (r9) dX7_travellingParcel_25
  · have hf := if_t hf hc12
    cases hf
    exact hx_thr3w C0 hl9 hn9 hH hS hl.1 (is := 372) (text := "the parcel is waiting") (by decide +kernel) dX7_travellingParcel_13 dX7_travellingParcel_16 dX7_travellingParcel_17 dX7_travellingParcel_20 dX7_travellingParcel_23 ⟨by decide, Nat.le_of_ble_eq_true rfl, by decide, by decide⟩ (by decide) (by decide)
def f_X7_linkOf (M : Mem) (a1 : Int32) : Option ((Int32 ⊕ Nat) × Mem) := bx (f_X7_travellingParcel M a1) fun (r6 : Nat) (M5 : Mem) => if r6 < 132 then (some (.inl (M5 6 r6 5), M5)) else none
set_option maxHeartbeats 4000000 in
set_option maxRecDepth 100000 in
theorem c_X7_linkOf {Y : LY} {l : Launch} (hl9 : l.stackTraces = false) (M : Mem) (a1 : Int32) {x : Int32 ⊕ Nat} {MZ : Mem} (hf : f_X7_linkOf M a1 = some (x, MZ)) : vx_Met l yX7_linkOf (WS yX7_linkOf cX7_linkOf 2 (Option.some Jvm.ClassFile.FieldType.int)) { frames := 8, cells := 2, slots := 12, locals := 134 } (PcM Y M [.ref (YA Y 0 0), .int a1]) (Qxi Y x MZ) (Xx Y x MZ) 2 12 (AZ Y) := by
  refine met_mkx (lv := [(0, .ref (YA Y 0 0)), (1, .int a1)]) [.ref (YA Y 0 0), .int a1] (by decide) rfl rfl (Nat.le_of_ble_eq_true rfl) (fun p e s m below meth c C0 hn9 hH ls hl => ?_)
  have hS : va_S (AZ Y) s.heap s.heap [] := va_S.rf
  obtain ⟨hx, hb, hr, hml, hown, hA, hlocks, hK, hZ⟩ := id C0
  unfold f_X7_linkOf at hf
  refine lv_aload_n hx hb dX7_linkOf_0 rfl (lv_at hl 0 rfl) ?_
  refine lv_iload_n hx hb dX7_linkOf_1 rfl (lv_at hl 1 rfl) ?_
  obtain ⟨yr6, M5, hq4, hf⟩ := bx_o hf
  refine hx_cr (hx_runV C0 hH hS (n := 1) (As := [.int a1]) (rest := []) (c_X7_travellingParcel hl9 M a1 hq4) ⟨⟨zt_895, zt_897, zs_24, zt_1, zt_898⟩, rfl, by decide, by decide, by decide +kernel⟩ ⟨rfl, rfl, Nat.le_of_ble_eq_true rfl, Nat.le_of_ble_eq_true rfl⟩ (hs_recv hK hH 0 0 (by decide) 11 rfl rfl) rfl rfl hl.1 (Nat.le_of_ble_eq_true rfl) ⟨Nat.le_of_ble_eq_true rfl, Nat.le_of_ble_eq_true rfl⟩ dX7_linkOf_2) hS C0 hn9 (by decide) (by decide) (fun k e => by subst e; exact bx_p (HS Y) hf) (fun r6 er6 H locs hH hS => ?_)
  subst er6
  have hf := bx_v hf
  obtain ⟨hr6, hf⟩ := gd_o hf
  refine hs_get hx hb (T := TX3) hA inAX3 hown hK hH 6 r6 (show r6 < 132 from by omega) 7 rfl rfl 5 (by decide) (hA _ zt_153) rfl rfl dX7_linkOf_5 ?_
  cases hf
  exact hx_iret C0 hH hS (by decide) (by decide) dX7_linkOf_8
def f_X7_arrivalOf (M : Mem) (a1 : Int32) : Option ((Int32 ⊕ Nat) × Mem) := bx (f_X7_travellingParcel M a1) fun (r6 : Nat) (M5 : Mem) => if r6 < 132 then (some (.inl (M5 6 r6 6), M5)) else none
set_option maxHeartbeats 4000000 in
set_option maxRecDepth 100000 in
theorem c_X7_arrivalOf {Y : LY} {l : Launch} (hl9 : l.stackTraces = false) (M : Mem) (a1 : Int32) {x : Int32 ⊕ Nat} {MZ : Mem} (hf : f_X7_arrivalOf M a1 = some (x, MZ)) : vx_Met l yX7_arrivalOf (WS yX7_arrivalOf cX7_arrivalOf 2 (Option.some Jvm.ClassFile.FieldType.int)) { frames := 8, cells := 2, slots := 12, locals := 134 } (PcM Y M [.ref (YA Y 0 0), .int a1]) (Qxi Y x MZ) (Xx Y x MZ) 2 12 (AZ Y) := by
  refine met_mkx (lv := [(0, .ref (YA Y 0 0)), (1, .int a1)]) [.ref (YA Y 0 0), .int a1] (by decide) rfl rfl (Nat.le_of_ble_eq_true rfl) (fun p e s m below meth c C0 hn9 hH ls hl => ?_)
  have hS : va_S (AZ Y) s.heap s.heap [] := va_S.rf
  obtain ⟨hx, hb, hr, hml, hown, hA, hlocks, hK, hZ⟩ := id C0
  unfold f_X7_arrivalOf at hf
  refine lv_aload_n hx hb dX7_arrivalOf_0 rfl (lv_at hl 0 rfl) ?_
  refine lv_iload_n hx hb dX7_arrivalOf_1 rfl (lv_at hl 1 rfl) ?_
  obtain ⟨yr6, M5, hq4, hf⟩ := bx_o hf
  refine hx_cr (hx_runV C0 hH hS (n := 1) (As := [.int a1]) (rest := []) (c_X7_travellingParcel hl9 M a1 hq4) ⟨⟨zt_895, zt_897, zs_24, zt_1, zt_898⟩, rfl, by decide, by decide, by decide +kernel⟩ ⟨rfl, rfl, Nat.le_of_ble_eq_true rfl, Nat.le_of_ble_eq_true rfl⟩ (hs_recv hK hH 0 0 (by decide) 11 rfl rfl) rfl rfl hl.1 (Nat.le_of_ble_eq_true rfl) ⟨Nat.le_of_ble_eq_true rfl, Nat.le_of_ble_eq_true rfl⟩ dX7_arrivalOf_2) hS C0 hn9 (by decide) (by decide) (fun k e => by subst e; exact bx_p (HS Y) hf) (fun r6 er6 H locs hH hS => ?_)
  subst er6
  have hf := bx_v hf
  obtain ⟨hr6, hf⟩ := gd_o hf
  refine hs_get hx hb (T := TX3) hA inAX3 hown hK hH 6 r6 (show r6 < 132 from by omega) 7 rfl rfl 6 (by decide) (hA _ zt_156) rfl rfl dX7_arrivalOf_5 ?_
  cases hf
  exact hx_iret C0 hH hS (by decide) (by decide) dX7_arrivalOf_8
def f_X7_destinationOf (M : Mem) (a1 : Int32) : Option ((Int32 ⊕ Nat) × Mem) := bx (f_X7_existingParcel M a1) fun (r6 : Nat) (M5 : Mem) => if r6 < 132 then (some (.inl (M5 6 r6 3), M5)) else none
set_option maxHeartbeats 4000000 in
set_option maxRecDepth 100000 in
theorem c_X7_destinationOf {Y : LY} {l : Launch} (hl9 : l.stackTraces = false) (M : Mem) (a1 : Int32) {x : Int32 ⊕ Nat} {MZ : Mem} (hf : f_X7_destinationOf M a1 = some (x, MZ)) : vx_Met l yX7_destinationOf (WS yX7_destinationOf cX7_destinationOf 2 (Option.some Jvm.ClassFile.FieldType.int)) { frames := 7, cells := 1, slots := 6, locals := 112 } (PcM Y M [.ref (YA Y 0 0), .int a1]) (Qxi Y x MZ) (Xx Y x MZ) 1 6 (AZ Y) := by
  refine met_mkx (lv := [(0, .ref (YA Y 0 0)), (1, .int a1)]) [.ref (YA Y 0 0), .int a1] (by decide) rfl rfl (Nat.le_of_ble_eq_true rfl) (fun p e s m below meth c C0 hn9 hH ls hl => ?_)
  have hS : va_S (AZ Y) s.heap s.heap [] := va_S.rf
  obtain ⟨hx, hb, hr, hml, hown, hA, hlocks, hK, hZ⟩ := id C0
  unfold f_X7_destinationOf at hf
  refine lv_aload_n hx hb dX7_destinationOf_0 rfl (lv_at hl 0 rfl) ?_
  refine lv_iload_n hx hb dX7_destinationOf_1 rfl (lv_at hl 1 rfl) ?_
  obtain ⟨yr6, M5, hq4, hf⟩ := bx_o hf
  refine hx_cr (hx_runV C0 hH hS (n := 1) (As := [.int a1]) (rest := []) (c_X7_existingParcel hl9 M a1 hq4) ⟨⟨zt_870, zt_872, zs_22, zt_1, zt_873⟩, rfl, by decide, by decide, by decide +kernel⟩ ⟨rfl, rfl, Nat.le_of_ble_eq_true rfl, Nat.le_of_ble_eq_true rfl⟩ (hs_recv hK hH 0 0 (by decide) 11 rfl rfl) rfl rfl hl.1 (Nat.le_of_ble_eq_true rfl) ⟨Nat.le_of_ble_eq_true rfl, Nat.le_of_ble_eq_true rfl⟩ dX7_destinationOf_2) hS C0 hn9 (by decide) (by decide) (fun k e => by subst e; exact bx_p (HS Y) hf) (fun r6 er6 H locs hH hS => ?_)
  subst er6
  have hf := bx_v hf
  obtain ⟨hr6, hf⟩ := gd_o hf
  refine hs_get hx hb (T := TX3) hA inAX3 hown hK hH 6 r6 (show r6 < 132 from by omega) 7 rfl rfl 3 (by decide) (hA _ zt_147) rfl rfl dX7_destinationOf_5 ?_
  cases hf
  exact hx_iret C0 hH hS (by decide) (by decide) dX7_destinationOf_8
