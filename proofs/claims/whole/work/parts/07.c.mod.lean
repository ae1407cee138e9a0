def f_X8_parcelByForecast_106 (k36 : Mem → Int32 → Int32 → Option (Int32 × Mem)) (k51 : Mem → Int32 → Int32 → Int32 → Int32 → Option (Int32 × Mem)) (M : Mem) (a1 : Int32) (a2 : Int32) (a4 : Int32) (b0 : Int32) (b1 : Int32) : Option (Int32 × Mem) := k51 M a1 a2 (b1 + b0) (a4 + (1 : Int32))
set_option maxHeartbeats 4000000 in
set_option maxRecDepth 100000 in
theorem w_X8_parcelByForecast_106 {Y : LY} {p : Program} {l : Launch} {e : Env} {s : State} {m : MethodId} {args : Array Value} {below : List Frame} {meth : Method} {c : Code} (C0 : BE Y p s m args meth c cX8_parcelByForecast 5 (Option.some Jvm.ClassFile.FieldType.int) RX8) {r : Int32} {MZ : Mem} (k36 : Mem → Int32 → Int32 → Option (Int32 × Mem)) (hk36 : ∀ (M : Mem) (a1 : Int32) (a2 : Int32), k36 M a1 a2 = some (r, MZ) → ∀ (H : Heap) (locs : List Loc) (ls : Array Slot), HS Y M H → va_S (AZ Y) s.heap H locs → lv_has ls 5 [(0, .ref (YA Y 20 0)), (1, .int a1), (2, .int a2)] → W p l e { frames := 5, cells := 0, slots := 0, locals := 114 } s m args below meth c H locs 0 0 (MQ below (Qi Y r MZ) args s 0 0 (AZ Y)) (F0 m 36 ls [])) (k51 : Mem → Int32 → Int32 → Int32 → Int32 → Option (Int32 × Mem)) (hk51 : ∀ (M : Mem) (a1 : Int32) (a2 : Int32) (a3 : Int32) (a4 : Int32), k51 M a1 a2 a3 a4 = some (r, MZ) → ∀ (H : Heap) (locs : List Loc) (ls : Array Slot), HS Y M H → va_S (AZ Y) s.heap H locs → lv_has ls 5 [(0, .ref (YA Y 20 0)), (1, .int a1), (2, .int a2), (3, .int a3), (4, .int a4)] → W p l e { frames := 5, cells := 0, slots := 0, locals := 114 } s m args below meth c H locs 0 0 (MQ below (Qi Y r MZ) args s 0 0 (AZ Y)) (F0 m 51 ls [])) : ∀ (M : Mem) (a1 : Int32) (a2 : Int32) (a4 : Int32) (b0 : Int32) (b1 : Int32), f_X8_parcelByForecast_106 k36 k51 M a1 a2 a4 b0 b1 = some (r, MZ) → ∀ (H : Heap) (locs : List Loc) (ls : Array Slot), HS Y M H → va_S (AZ Y) s.heap H locs → lv_has ls 5 [(0, .ref (YA Y 20 0)), (1, .int a1), (2, .int a2), (4, .int a4)] → W p l e { frames := 5, cells := 0, slots := 0, locals := 114 } s m args below meth c H locs 0 0 (MQ below (Qi Y r MZ) args s 0 0 (AZ Y)) (F0 m 106 ls [.int b0, .int b1]) := by
  obtain ⟨hx, hb, hr, hml, hown, hA, hlocks, hK, hZ⟩ := id C0
  intro M a1 a2 a4 b0 b1 hf H locs ls hH hS hl
  unfold f_X8_parcelByForecast_106 at hf
  refine lv_iadd hx hb dX8_parcelByForecast_106 ?_
  refine lv_istore_n (lv' := [(3, .int (b1 + b0)), (0, .ref (YA Y 20 0)), (1, .int a1), (2, .int a2), (4, .int a4)]) hx hb dX8_parcelByForecast_107 rfl hl (by decide) rfl (fun ls hl => ?_)
  refine lv_iinc (v := a4 + (1 : Int32)) (lv' := [(4, .int (a4 + (1 : Int32))), (3, .int (b1 + b0)), (0, .ref (YA Y 20 0)), (1, .int a1), (2, .int a2)]) hx hb dX8_parcelByForecast_108 hl (k := 4) rfl rfl (by decide) rfl (fun ls hl => ?_)
  refine lv_goto (tgt := 51) hx hb dX8_parcelByForecast_111 (by decide) ?_
  exact hk51 M a1 a2 (b1 + b0) (a4 + (1 : Int32)) hf _ _ _ hH hS (lv_sub hl [2, 3, 4, 1, 0] rfl)
def f_X8_parcelByForecast_101 (k36 : Mem → Int32 → Int32 → Option (Int32 × Mem)) (k51 : Mem → Int32 → Int32 → Int32 → Int32 → Option (Int32 × Mem)) (M : Mem) (a1 : Int32) (a2 : Int32) (a4 : Int32) (b0 : Int32) : Option (Int32 × Mem) := f_X8_parcelByForecast_106 k36 k51 M a1 a2 a4 (1 : Int32) b0
set_option maxHeartbeats 4000000 in
set_option maxRecDepth 100000 in
theorem w_X8_parcelByForecast_101 {Y : LY} {p : Program} {l : Launch} {e : Env} {s : State} {m : MethodId} {args : Array Value} {below : List Frame} {meth : Method} {c : Code} (C0 : BE Y p s m args meth c cX8_parcelByForecast 5 (Option.some Jvm.ClassFile.FieldType.int) RX8) {r : Int32} {MZ : Mem} (k36 : Mem → Int32 → Int32 → Option (Int32 × Mem)) (hk36 : ∀ (M : Mem) (a1 : Int32) (a2 : Int32), k36 M a1 a2 = some (r, MZ) → ∀ (H : Heap) (locs : List Loc) (ls : Array Slot), HS Y M H → va_S (AZ Y) s.heap H locs → lv_has ls 5 [(0, .ref (YA Y 20 0)), (1, .int a1), (2, .int a2)] → W p l e { frames := 5, cells := 0, slots := 0, locals := 114 } s m args below meth c H locs 0 0 (MQ below (Qi Y r MZ) args s 0 0 (AZ Y)) (F0 m 36 ls [])) (k51 : Mem → Int32 → Int32 → Int32 → Int32 → Option (Int32 × Mem)) (hk51 : ∀ (M : Mem) (a1 : Int32) (a2 : Int32) (a3 : Int32) (a4 : Int32), k51 M a1 a2 a3 a4 = some (r, MZ) → ∀ (H : Heap) (locs : List Loc) (ls : Array Slot), HS Y M H → va_S (AZ Y) s.heap H locs → lv_has ls 5 [(0, .ref (YA Y 20 0)), (1, .int a1), (2, .int a2), (3, .int a3), (4, .int a4)] → W p l e { frames := 5, cells := 0, slots := 0, locals := 114 } s m args below meth c H locs 0 0 (MQ below (Qi Y r MZ) args s 0 0 (AZ Y)) (F0 m 51 ls [])) : ∀ (M : Mem) (a1 : Int32) (a2 : Int32) (a4 : Int32) (b0 : Int32), f_X8_parcelByForecast_101 k36 k51 M a1 a2 a4 b0 = some (r, MZ) → ∀ (H : Heap) (locs : List Loc) (ls : Array Slot), HS Y M H → va_S (AZ Y) s.heap H locs → lv_has ls 5 [(0, .ref (YA Y 20 0)), (1, .int a1), (2, .int a2), (4, .int a4)] → W p l e { frames := 5, cells := 0, slots := 0, locals := 114 } s m args below meth c H locs 0 0 (MQ below (Qi Y r MZ) args s 0 0 (AZ Y)) (F0 m 101 ls [.int b0]) := by
  obtain ⟨hx, hb, hr, hml, hown, hA, hlocks, hK, hZ⟩ := id C0
  intro M a1 a2 a4 b0 hf H locs ls hH hS hl
  unfold f_X8_parcelByForecast_101 at hf
  refine lv_iconst (v := (1 : Int32)) hx hb dX8_parcelByForecast_101 (by decide) ?_
  refine lv_goto (tgt := 106) hx hb dX8_parcelByForecast_102 (by decide) ?_
  exact w_X8_parcelByForecast_106 C0 k36 hk36 k51 hk51 M a1 a2 a4 (1 : Int32) b0 hf _ _ _ hH hS (lv_sub hl [0, 1, 2, 3] rfl)
def f_X8_parcelByForecast_105 (k36 : Mem → Int32 → Int32 → Option (Int32 × Mem)) (k51 : Mem → Int32 → Int32 → Int32 → Int32 → Option (Int32 × Mem)) (M : Mem) (a1 : Int32) (a2 : Int32) (a4 : Int32) (b0 : Int32) : Option (Int32 × Mem) := f_X8_parcelByForecast_106 k36 k51 M a1 a2 a4 (0 : Int32) b0
set_option maxHeartbeats 4000000 in
set_option maxRecDepth 100000 in
theorem w_X8_parcelByForecast_105 {Y : LY} {p : Program} {l : Launch} {e : Env} {s : State} {m : MethodId} {args : Array Value} {below : List Frame} {meth : Method} {c : Code} (C0 : BE Y p s m args meth c cX8_parcelByForecast 5 (Option.some Jvm.ClassFile.FieldType.int) RX8) {r : Int32} {MZ : Mem} (k36 : Mem → Int32 → Int32 → Option (Int32 × Mem)) (hk36 : ∀ (M : Mem) (a1 : Int32) (a2 : Int32), k36 M a1 a2 = some (r, MZ) → ∀ (H : Heap) (locs : List Loc) (ls : Array Slot), HS Y M H → va_S (AZ Y) s.heap H locs → lv_has ls 5 [(0, .ref (YA Y 20 0)), (1, .int a1), (2, .int a2)] → W p l e { frames := 5, cells := 0, slots := 0, locals := 114 } s m args below meth c H locs 0 0 (MQ below (Qi Y r MZ) args s 0 0 (AZ Y)) (F0 m 36 ls [])) (k51 : Mem → Int32 → Int32 → Int32 → Int32 → Option (Int32 × Mem)) (hk51 : ∀ (M : Mem) (a1 : Int32) (a2 : Int32) (a3 : Int32) (a4 : Int32), k51 M a1 a2 a3 a4 = some (r, MZ) → ∀ (H : Heap) (locs : List Loc) (ls : Array Slot), HS Y M H → va_S (AZ Y) s.heap H locs → lv_has ls 5 [(0, .ref (YA Y 20 0)), (1, .int a1), (2, .int a2), (3, .int a3), (4, .int a4)] → W p l e { frames := 5, cells := 0, slots := 0, locals := 114 } s m args below meth c H locs 0 0 (MQ below (Qi Y r MZ) args s 0 0 (AZ Y)) (F0 m 51 ls [])) : ∀ (M : Mem) (a1 : Int32) (a2 : Int32) (a4 : Int32) (b0 : Int32), f_X8_parcelByForecast_105 k36 k51 M a1 a2 a4 b0 = some (r, MZ) → ∀ (H : Heap) (locs : List Loc) (ls : Array Slot), HS Y M H → va_S (AZ Y) s.heap H locs → lv_has ls 5 [(0, .ref (YA Y 20 0)), (1, .int a1), (2, .int a2), (4, .int a4)] → W p l e { frames := 5, cells := 0, slots := 0, locals := 114 } s m args below meth c H locs 0 0 (MQ below (Qi Y r MZ) args s 0 0 (AZ Y)) (F0 m 105 ls [.int b0]) := by
  obtain ⟨hx, hb, hr, hml, hown, hA, hlocks, hK, hZ⟩ := id C0
  intro M a1 a2 a4 b0 hf H locs ls hH hS hl
  unfold f_X8_parcelByForecast_105 at hf
  refine lv_iconst (v := (0 : Int32)) hx hb dX8_parcelByForecast_105 (by decide) ?_
  exact w_X8_parcelByForecast_106 C0 k36 hk36 k51 hk51 M a1 a2 a4 (0 : Int32) b0 hf _ _ _ hH hS (lv_sub hl [0, 1, 2, 3] rfl)
def f_X8_parcelByForecast_51 (k36 : Mem → Int32 → Int32 → Option (Int32 × Mem)) : Nat → Mem → Int32 → Int32 → Int32 → Int32 → Option (Int32 × Mem)
  | 0, _, _, _, _, _ => none
  | n + 1, M, a1, a2, a3, a4 => (if (M 21 0 2) ≤ a4 then (if a3 = a1 then bd (f_X8_parcelAt M a2) fun r23 => if vin r23 192 then (some ((M 21 0 (ix r23)), M)) else none else k36 M a1 (a2 + (1 : Int32))) else if vin a4 12 then (if vin a2 12 then ((if (M 28 0 (ix a4)) < (M 28 0 (ix a2)) then f_X8_parcelByForecast_101 k36 (f_X8_parcelByForecast_51 k36 n) M a1 a2 a4 a3 else (if (M 28 0 (ix a4)) = (M 28 0 (ix a2)) then (if a2 ≤ a4 then f_X8_parcelByForecast_105 k36 (f_X8_parcelByForecast_51 k36 n) M a1 a2 a4 a3 else f_X8_parcelByForecast_101 k36 (f_X8_parcelByForecast_51 k36 n) M a1 a2 a4 a3) else f_X8_parcelByForecast_105 k36 (f_X8_parcelByForecast_51 k36 n) M a1 a2 a4 a3))) else none) else none)
set_option maxHeartbeats 4000000 in
set_option maxRecDepth 100000 in
theorem w_X8_parcelByForecast_51 {Y : LY} {p : Program} {l : Launch} {e : Env} {s : State} {m : MethodId} {args : Array Value} {below : List Frame} {meth : Method} {c : Code} (C0 : BE Y p s m args meth c cX8_parcelByForecast 5 (Option.some Jvm.ClassFile.FieldType.int) RX8) {r : Int32} {MZ : Mem} (k36 : Mem → Int32 → Int32 → Option (Int32 × Mem)) (hk36 : ∀ (M : Mem) (a1 : Int32) (a2 : Int32), k36 M a1 a2 = some (r, MZ) → ∀ (H : Heap) (locs : List Loc) (ls : Array Slot), HS Y M H → va_S (AZ Y) s.heap H locs → lv_has ls 5 [(0, .ref (YA Y 20 0)), (1, .int a1), (2, .int a2)] → W p l e { frames := 5, cells := 0, slots := 0, locals := 114 } s m args below meth c H locs 0 0 (MQ below (Qi Y r MZ) args s 0 0 (AZ Y)) (F0 m 36 ls [])) : ∀ (n : Nat) (M : Mem) (a1 : Int32) (a2 : Int32) (a3 : Int32) (a4 : Int32), f_X8_parcelByForecast_51 k36 n M a1 a2 a3 a4 = some (r, MZ) → ∀ (H : Heap) (locs : List Loc) (ls : Array Slot), HS Y M H → va_S (AZ Y) s.heap H locs → lv_has ls 5 [(0, .ref (YA Y 20 0)), (1, .int a1), (2, .int a2), (3, .int a3), (4, .int a4)] → W p l e { frames := 5, cells := 0, slots := 0, locals := 114 } s m args below meth c H locs 0 0 (MQ below (Qi Y r MZ) args s 0 0 (AZ Y)) (F0 m 51 ls []) := by
  obtain ⟨hx, hb, hr, hml, hown, hA, hlocks, hK, hZ⟩ := id C0
  intro n
  induction n with
  | zero =>
    intro M a1 a2 a3 a4 hf
    cases hf
  | succ n ih =>
    intro M a1 a2 a3 a4 hf H locs ls hH hS hl
    rw [f_X8_parcelByForecast_51] at hf
    refine lv_iload hx hb dX8_parcelByForecast_51 (lv_at hl 4 rfl) ?_
    refine lv_aload_n hx hb dX8_parcelByForecast_53 rfl (lv_at hl 0 rfl) ?_
    refine hs_get hx hb (T := TX8) hA inAX8 hown hK hH 20 0 (by decide) 12 rfl rfl 0 (by decide) (hA _ zt_1551) rfl rfl dX8_parcelByForecast_54 ?_
    refine lv_iconst (v := (2 : Int32)) hx hb dX8_parcelByForecast_57 (by decide) ?_
    refine hs_iald hx hb hK hH 21 0 (by decide) rfl (show vin (2 : Int32) 192 from by decide) (show ix (2 : Int32) = 2 from by decide) dX8_parcelByForecast_58 ?_
    refine lv_icmp_ge (tgt := 114) hx hb dX8_parcelByForecast_59 (by decide) (fun hc31 => ?_) (fun hc31 => ?_)
    · have hf := if_t hf hc31
      refine lv_iload_n hx hb dX8_parcelByForecast_114 rfl (lv_at hl 3 rfl) ?_
      refine lv_iload_n hx hb dX8_parcelByForecast_115 rfl (lv_at hl 1 rfl) ?_
      refine lv_icmp_ne (tgt := 129) hx hb dX8_parcelByForecast_116 (by decide) (fun hc25 => ?_) (fun hc25 => ?_)
      · have hf := if_f hf hc25
        refine lv_iinc (v := a2 + (1 : Int32)) (lv' := [(2, .int (a2 + (1 : Int32))), (0, .ref (YA Y 20 0)), (1, .int a1), (3, .int a3), (4, .int a4)]) hx hb dX8_parcelByForecast_129 hl (k := 2) rfl rfl (by decide) rfl (fun ls hl => ?_)
        refine lv_goto (tgt := 36) hx hb dX8_parcelByForecast_132 (by decide) ?_
        exact hk36 M a1 (a2 + (1 : Int32)) hf _ _ _ hH hS (lv_sub hl [1, 2, 0] rfl)
      · have hf := if_t hf hc25
        refine lv_aload_n hx hb dX8_parcelByForecast_119 rfl (lv_at hl 0 rfl) ?_
        refine hs_get hx hb (T := TX8) hA inAX8 hown hK hH 20 0 (by decide) 12 rfl rfl 0 (by decide) (hA _ zt_1551) rfl rfl dX8_parcelByForecast_120 ?_
        refine lv_iload_n hx hb dX8_parcelByForecast_123 rfl (lv_at hl 2 rfl) ?_
        obtain ⟨r23, hq22, hf⟩ := bd_o hf
        refine hs_ci (hs_runS C0 hH hS (n := 1) (As := [.int a2]) (rest := [.ref (YA Y 21 0)]) (c_X8_parcelAt M a2 hq22) ⟨⟨zt_1694, zt_1695, zt_13, zt_1696⟩, by decide, by decide, by decide +kernel⟩ ⟨rfl, rfl, Nat.le_of_ble_eq_true rfl, Nat.le_of_ble_eq_true rfl⟩ rfl rfl hl.1 (Nat.le_of_ble_eq_true rfl) ⟨Nat.le_of_ble_eq_true rfl, Nat.le_of_ble_eq_true rfl⟩ dX8_parcelByForecast_124) hS (fun H locs hH hS => ?_)
        obtain ⟨hg24, hf⟩ := gd_o hf
        have bhg24 := vin_lt hg24
        refine hs_iald hx hb hK hH 21 0 (by decide) rfl hg24 rfl dX8_parcelByForecast_127 ?_
        cases hf
        exact hs_iret C0 hH hS (by decide) (by decide) dX8_parcelByForecast_128
    · have hf := if_f hf hc31
      refine lv_iload_n hx hb dX8_parcelByForecast_62 rfl (lv_at hl 3 rfl) ?_
      refine lv_aload_n hx hb dX8_parcelByForecast_63 rfl (lv_at hl 0 rfl) ?_
      refine hs_get hx hb (T := TX8) hA inAX8 hown hK hH 20 0 (by decide) 12 rfl rfl 13 (by decide) (hA _ zt_1564) rfl rfl dX8_parcelByForecast_64 ?_
      refine lv_iload hx hb dX8_parcelByForecast_67 (lv_at hl 4 rfl) ?_
      obtain ⟨hg26, hf⟩ := gd_o hf
      have bhg26 := vin_lt hg26
      refine hs_iald hx hb hK hH 28 0 (by decide) rfl hg26 rfl dX8_parcelByForecast_69 ?_
      refine lv_aload_n hx hb dX8_parcelByForecast_70 rfl (lv_at hl 0 rfl) ?_
      refine hs_get hx hb (T := TX8) hA inAX8 hown hK hH 20 0 (by decide) 12 rfl rfl 13 (by decide) (hA _ zt_1564) rfl rfl dX8_parcelByForecast_71 ?_
      refine lv_iload_n hx hb dX8_parcelByForecast_74 rfl (lv_at hl 2 rfl) ?_
      obtain ⟨hg27, hf⟩ := gd_o hf
      have bhg27 := vin_lt hg27
      refine hs_iald hx hb hK hH 28 0 (by decide) rfl hg27 rfl dX8_parcelByForecast_75 ?_
      refine lv_icmp_lt (tgt := 101) hx hb dX8_parcelByForecast_76 (by decide) (fun hc30 => ?_) (fun hc30 => ?_)
      · have hf := if_t hf hc30
        exact w_X8_parcelByForecast_101 C0 k36 hk36 (f_X8_parcelByForecast_51 k36 n) ih M a1 a2 a4 a3 hf _ _ _ hH hS (lv_sub hl [0, 1, 2, 4] rfl)
      · have hf := if_f hf hc30
        refine lv_aload_n hx hb dX8_parcelByForecast_79 rfl (lv_at hl 0 rfl) ?_
        refine hs_get hx hb (T := TX8) hA inAX8 hown hK hH 20 0 (by decide) 12 rfl rfl 13 (by decide) (hA _ zt_1564) rfl rfl dX8_parcelByForecast_80 ?_
        refine lv_iload hx hb dX8_parcelByForecast_83 (lv_at hl 4 rfl) ?_
        refine hs_iald hx hb hK hH 28 0 (by decide) rfl hg26 rfl dX8_parcelByForecast_85 ?_
        refine lv_aload_n hx hb dX8_parcelByForecast_86 rfl (lv_at hl 0 rfl) ?_
        refine hs_get hx hb (T := TX8) hA inAX8 hown hK hH 20 0 (by decide) 12 rfl rfl 13 (by decide) (hA _ zt_1564) rfl rfl dX8_parcelByForecast_87 ?_
        refine lv_iload_n hx hb dX8_parcelByForecast_90 rfl (lv_at hl 2 rfl) ?_
        refine hs_iald hx hb hK hH 28 0 (by decide) rfl hg27 rfl dX8_parcelByForecast_91 ?_
        refine lv_icmp_ne (tgt := 105) hx hb dX8_parcelByForecast_92 (by decide) (fun hc29 => ?_) (fun hc29 => ?_)
        · have hf := if_f hf hc29
          exact w_X8_parcelByForecast_105 C0 k36 hk36 (f_X8_parcelByForecast_51 k36 n) ih M a1 a2 a4 a3 hf _ _ _ hH hS (lv_sub hl [0, 1, 2, 4] rfl)
        · have hf := if_t hf hc29
          refine lv_iload hx hb dX8_parcelByForecast_95 (lv_at hl 4 rfl) ?_
          refine lv_iload_n hx hb dX8_parcelByForecast_97 rfl (lv_at hl 2 rfl) ?_
          refine lv_icmp_ge (tgt := 105) hx hb dX8_parcelByForecast_98 (by decide) (fun hc28 => ?_) (fun hc28 => ?_)
          · have hf := if_t hf hc28
            exact w_X8_parcelByForecast_105 C0 k36 hk36 (f_X8_parcelByForecast_51 k36 n) ih M a1 a2 a4 a3 hf _ _ _ hH hS (lv_sub hl [0, 1, 2, 4] rfl)
          · have hf := if_f hf hc28
            exact w_X8_parcelByForecast_101 C0 k36 hk36 (f_X8_parcelByForecast_51 k36 n) ih M a1 a2 a4 a3 hf _ _ _ hH hS (lv_sub hl [0, 1, 2, 4] rfl)
def f_X8_parcelByForecast_36 : Nat → Mem → Int32 → Int32 → Option (Int32 × Mem)
  | 0, _, _, _ => none
  | n + 1, M, a1, a2 => (if (M 21 0 2) ≤ a2 then bd2 (f_X8_throwing M (1 : Int32)) fun r34 M33 => some (r34, M33) else f_X8_parcelByForecast_51 (f_X8_parcelByForecast_36 n) FU M a1 a2 (0 : Int32) (0 : Int32))
set_option maxHeartbeats 4000000 in
set_option maxRecDepth 100000 in
theorem w_X8_parcelByForecast_36 {Y : LY} {p : Program} {l : Launch} {e : Env} {s : State} {m : MethodId} {args : Array Value} {below : List Frame} {meth : Method} {c : Code} (C0 : BE Y p s m args meth c cX8_parcelByForecast 5 (Option.some Jvm.ClassFile.FieldType.int) RX8) {r : Int32} {MZ : Mem} : ∀ (n : Nat) (M : Mem) (a1 : Int32) (a2 : Int32), f_X8_parcelByForecast_36 n M a1 a2 = some (r, MZ) → ∀ (H : Heap) (locs : List Loc) (ls : Array Slot), HS Y M H → va_S (AZ Y) s.heap H locs → lv_has ls 5 [(0, .ref (YA Y 20 0)), (1, .int a1), (2, .int a2)] → W p l e { frames := 5, cells := 0, slots := 0, locals := 114 } s m args below meth c H locs 0 0 (MQ below (Qi Y r MZ) args s 0 0 (AZ Y)) (F0 m 36 ls []) := by
  obtain ⟨hx, hb, hr, hml, hown, hA, hlocks, hK, hZ⟩ := id C0
  intro n
  induction n with
  | zero =>
    intro M a1 a2 hf
    cases hf
  | succ n ih =>
    intro M a1 a2 hf H locs ls hH hS hl
    rw [f_X8_parcelByForecast_36] at hf
    refine lv_iload_n hx hb dX8_parcelByForecast_36 rfl (lv_at hl 2 rfl) ?_
    refine lv_aload_n hx hb dX8_parcelByForecast_37 rfl (lv_at hl 0 rfl) ?_
    refine hs_get hx hb (T := TX8) hA inAX8 hown hK hH 20 0 (by decide) 12 rfl rfl 0 (by decide) (hA _ zt_1551) rfl rfl dX8_parcelByForecast_38 ?_
    refine lv_iconst (v := (2 : Int32)) hx hb dX8_parcelByForecast_41 (by decide) ?_
    refine hs_iald hx hb hK hH 21 0 (by decide) rfl (show vin (2 : Int32) 192 from by decide) (show ix (2 : Int32) = 2 from by decide) dX8_parcelByForecast_42 ?_
    refine lv_icmp_ge (tgt := 135) hx hb dX8_parcelByForecast_43 (by decide) (fun hc35 => ?_) (fun hc35 => ?_)
    · have hf := if_t hf hc35
      refine lv_aload_n hx hb dX8_parcelByForecast_135 rfl (lv_at hl 0 rfl) ?_
      refine lv_iconst (v := (1 : Int32)) hx hb dX8_parcelByForecast_136 (by decide) ?_
      obtain ⟨r34, M33, hq32, hf⟩ := bd2_o hf
      refine hs_ci (hs_runV C0 hH hS (n := 1) (As := [.int (1 : Int32)]) (rest := []) (c_X8_throwing M (1 : Int32) hq32) ⟨⟨zt_1637, zt_1639, zs_34, zt_13, zt_1640⟩, rfl, by decide, by decide, by decide +kernel⟩ ⟨rfl, rfl, Nat.le_of_ble_eq_true rfl, Nat.le_of_ble_eq_true rfl⟩ (hs_recv hK hH 20 0 (by decide) 12 rfl rfl) rfl rfl hl.1 (Nat.le_of_ble_eq_true rfl) ⟨Nat.le_of_ble_eq_true rfl, Nat.le_of_ble_eq_true rfl⟩ dX8_parcelByForecast_137) hS (fun H locs hH hS => ?_)
      cases hf
      exact hs_iret C0 hH hS (by decide) (by decide) dX8_parcelByForecast_140
    · have hf := if_f hf hc35
      refine lv_iconst (v := (0 : Int32)) hx hb dX8_parcelByForecast_46 (by decide) ?_
      refine lv_istore_n (lv' := [(3, .int (0 : Int32)), (0, .ref (YA Y 20 0)), (1, .int a1), (2, .int a2)]) hx hb dX8_parcelByForecast_47 rfl hl (by decide) rfl (fun ls hl => ?_)
      refine lv_iconst (v := (0 : Int32)) hx hb dX8_parcelByForecast_48 (by decide) ?_
      refine lv_istore (lv' := [(4, .int (0 : Int32)), (3, .int (0 : Int32)), (0, .ref (YA Y 20 0)), (1, .int a1), (2, .int a2)]) hx hb dX8_parcelByForecast_49 hl (by decide) rfl (fun ls hl => ?_)
      exact w_X8_parcelByForecast_51 C0 (f_X8_parcelByForecast_36 n) ih FU M a1 a2 (0 : Int32) (0 : Int32) hf _ _ _ hH hS (lv_sub hl [2, 3, 4, 1, 0] rfl)
def f_X8_parcelByForecast_7 : Nat → Mem → Int32 → Int32 → Option (Int32 × Mem)
  | 0, _, _, _ => none
  | n + 1, M, a1, a2 => (if (M 21 0 2) ≤ a2 then f_X8_parcelByForecast_36 FU M a1 (0 : Int32) else bd2 (f_X8_forecastOf M a2) fun r38 M37 => if vin a2 12 then (nm (mu M37 28 0 (ix a2) r38) fun M40 => f_X8_parcelByForecast_7 n M40 a1 (a2 + (1 : Int32))) else none)
set_option maxHeartbeats 4000000 in
set_option maxRecDepth 100000 in
theorem w_X8_parcelByForecast_7 {Y : LY} {p : Program} {l : Launch} {e : Env} {s : State} {m : MethodId} {args : Array Value} {below : List Frame} {meth : Method} {c : Code} (C0 : BE Y p s m args meth c cX8_parcelByForecast 5 (Option.some Jvm.ClassFile.FieldType.int) RX8) {r : Int32} {MZ : Mem} : ∀ (n : Nat) (M : Mem) (a1 : Int32) (a2 : Int32), f_X8_parcelByForecast_7 n M a1 a2 = some (r, MZ) → ∀ (H : Heap) (locs : List Loc) (ls : Array Slot), HS Y M H → va_S (AZ Y) s.heap H locs → lv_has ls 5 [(0, .ref (YA Y 20 0)), (1, .int a1), (2, .int a2)] → W p l e { frames := 5, cells := 0, slots := 0, locals := 114 } s m args below meth c H locs 0 0 (MQ below (Qi Y r MZ) args s 0 0 (AZ Y)) (F0 m 7 ls []) := by
  obtain ⟨hx, hb, hr, hml, hown, hA, hlocks, hK, hZ⟩ := id C0
  intro n
  induction n with
  | zero =>
    intro M a1 a2 hf
    cases hf
  | succ n ih =>
    intro M a1 a2 hf H locs ls hH hS hl
    rw [f_X8_parcelByForecast_7] at hf
    refine lv_iload_n hx hb dX8_parcelByForecast_7 rfl (lv_at hl 2 rfl) ?_
    refine lv_aload_n hx hb dX8_parcelByForecast_8 rfl (lv_at hl 0 rfl) ?_
    refine hs_get hx hb (T := TX8) hA inAX8 hown hK hH 20 0 (by decide) 12 rfl rfl 0 (by decide) (hA _ zt_1551) rfl rfl dX8_parcelByForecast_9 ?_
    refine lv_iconst (v := (2 : Int32)) hx hb dX8_parcelByForecast_12 (by decide) ?_
    refine hs_iald hx hb hK hH 21 0 (by decide) rfl (show vin (2 : Int32) 192 from by decide) (show ix (2 : Int32) = 2 from by decide) dX8_parcelByForecast_13 ?_
    refine lv_icmp_ge (tgt := 34) hx hb dX8_parcelByForecast_14 (by decide) (fun hc41 => ?_) (fun hc41 => ?_)
    · have hf := if_t hf hc41
      refine lv_iconst (v := (0 : Int32)) hx hb dX8_parcelByForecast_34 (by decide) ?_
      refine lv_istore_n (lv' := [(2, .int (0 : Int32)), (0, .ref (YA Y 20 0)), (1, .int a1)]) hx hb dX8_parcelByForecast_35 rfl hl (by decide) rfl (fun ls hl => ?_)
      exact w_X8_parcelByForecast_36 C0 FU M a1 (0 : Int32) hf _ _ _ hH hS (lv_sub hl [1, 2, 0] rfl)
    · have hf := if_f hf hc41
      refine lv_aload_n hx hb dX8_parcelByForecast_17 rfl (lv_at hl 0 rfl) ?_
      refine hs_get hx hb (T := TX8) hA inAX8 hown hK hH 20 0 (by decide) 12 rfl rfl 13 (by decide) (hA _ zt_1564) rfl rfl dX8_parcelByForecast_18 ?_
      refine lv_iload_n hx hb dX8_parcelByForecast_21 rfl (lv_at hl 2 rfl) ?_
      refine lv_aload_n hx hb dX8_parcelByForecast_22 rfl (lv_at hl 0 rfl) ?_
      refine lv_iload_n hx hb dX8_parcelByForecast_23 rfl (lv_at hl 2 rfl) ?_
      obtain ⟨r38, M37, hq36, hf⟩ := bd2_o hf
      refine hs_ci (hs_runV C0 hH hS (n := 1) (As := [.int a2]) (rest := [.int a2, .ref (YA Y 28 0)]) (c_X8_forecastOf M a2 hq36) ⟨⟨zt_1757, zt_1759, zs_53, zt_13, zt_1760⟩, rfl, by decide, by decide, by decide +kernel⟩ ⟨rfl, rfl, Nat.le_of_ble_eq_true rfl, Nat.le_of_ble_eq_true rfl⟩ (hs_recv hK hH 20 0 (by decide) 12 rfl rfl) rfl rfl hl.1 (Nat.le_of_ble_eq_true rfl) ⟨Nat.le_of_ble_eq_true rfl, Nat.le_of_ble_eq_true rfl⟩ dX8_parcelByForecast_24) hS (fun H locs hH hS => ?_)
      obtain ⟨hg39, hf⟩ := gd_o hf
      have bhg39 := vin_lt hg39
      refine hs_iast hx hb hK hH hS 28 0 (by decide) (fun _ => rfl) hg39 rfl dX8_parcelByForecast_27 (fun H locs hH hS => ?_)
      obtain ⟨M40, eM40, hf⟩ := nm_o hf
      rw [← eM40] at hH
      refine lv_iinc (v := a2 + (1 : Int32)) (lv' := [(2, .int (a2 + (1 : Int32))), (0, .ref (YA Y 20 0)), (1, .int a1)]) hx hb dX8_parcelByForecast_28 hl (k := 2) rfl rfl (by decide) rfl (fun ls hl => ?_)
      refine lv_goto (tgt := 7) hx hb dX8_parcelByForecast_31 (by decide) ?_
      exact ih M40 a1 (a2 + (1 : Int32)) hf _ _ _ hH hS (lv_sub hl [1, 2, 0] rfl)
def f_X8_parcelByForecast (M : Mem) (a1 : Int32) : Option (Int32 × Mem) := nm (mu M 20 0 9 (0 : Int32)) fun M42 => f_X8_parcelByForecast_7 FU M42 a1 (0 : Int32)
set_option maxHeartbeats 4000000 in
set_option maxRecDepth 100000 in
theorem c_X8_parcelByForecast {Y : LY} {l : Launch} (M : Mem) (a1 : Int32) {r : Int32} {MZ : Mem} (hf : f_X8_parcelByForecast M a1 = some (r, MZ)) : Met l yX8_parcelByForecast (WS yX8_parcelByForecast cX8_parcelByForecast 5 (Option.some Jvm.ClassFile.FieldType.int)) { frames := 5, cells := 0, slots := 0, locals := 114 } (PcM Y M [.ref (YA Y 20 0), .int a1]) (Qi Y r MZ) 0 0 (AZ Y) := by
  refine met_mk (lv := [(0, .ref (YA Y 20 0)), (1, .int a1)]) [.ref (YA Y 20 0), .int a1] (by decide) rfl rfl (Nat.le_of_ble_eq_true rfl) (fun p e s m below meth c C0 hH ls hl => ?_)
  have hS : va_S (AZ Y) s.heap s.heap [] := va_S.rf
  obtain ⟨hx, hb, hr, hml, hown, hA, hlocks, hK, hZ⟩ := id C0
  unfold f_X8_parcelByForecast at hf
  refine lv_aload_n hx hb dX8_parcelByForecast_0 rfl (lv_at hl 0 rfl) ?_
  refine lv_iconst (v := (0 : Int32)) hx hb dX8_parcelByForecast_1 (by decide) ?_
  refine hs_put hx hb (T := TX8) hA inAX8 tyX8 tyX8_ok nmX8 hown hK hH hS 20 0 (by decide) 12 rfl rfl 9 (by decide) (hA _ zt_1560) rfl rfl (by decide +kernel) (Nat.le_of_ble_eq_true rfl) rfl dX8_parcelByForecast_2 (fun H locs hH hS => ?_)
  obtain ⟨M42, eM42, hf⟩ := nm_o hf
  rw [← eM42] at hH
  refine lv_iconst (v := (0 : Int32)) hx hb dX8_parcelByForecast_5 (by decide) ?_
  refine lv_istore_n (lv' := [(2, .int (0 : Int32)), (0, .ref (YA Y 20 0)), (1, .int a1)]) hx hb dX8_parcelByForecast_6 rfl hl (by decide) rfl (fun ls hl => ?_)
  exact w_X8_parcelByForecast_7 C0 FU M42 a1 (0 : Int32) hf _ _ _ hH hS (lv_sub hl [1, 2, 0] rfl)
def f_X8_arrivalsWithin_81 (k27 : Mem → Int32 → Int32 → Int32 → Option (Int32 × Mem)) (M : Mem) (a1 : Int32) (a3 : Int32) (b0 : Int32) (b1 : Int32) : Option (Int32 × Mem) := k27 M a1 (b1 + b0) (a3 + (1 : Int32))
set_option maxHeartbeats 4000000 in
set_option maxRecDepth 100000 in
theorem w_X8_arrivalsWithin_81 {Y : LY} {p : Program} {l : Launch} {e : Env} {s : State} {m : MethodId} {args : Array Value} {below : List Frame} {meth : Method} {c : Code} (C0 : BE Y p s m args meth c cX8_arrivalsWithin 4 (Option.some Jvm.ClassFile.FieldType.int) RX8) {r : Int32} {MZ : Mem} (k27 : Mem → Int32 → Int32 → Int32 → Option (Int32 × Mem)) (hk27 : ∀ (M : Mem) (a1 : Int32) (a2 : Int32) (a3 : Int32), k27 M a1 a2 a3 = some (r, MZ) → ∀ (H : Heap) (locs : List Loc) (ls : Array Slot), HS Y M H → va_S (AZ Y) s.heap H locs → lv_has ls 4 [(0, .ref (YA Y 20 0)), (1, .int a1), (2, .int a2), (3, .int a3)] → W p l e { frames := 1, cells := 0, slots := 0, locals := 25 } s m args below meth c H locs 0 0 (MQ below (Qi Y r MZ) args s 0 0 (AZ Y)) (F0 m 27 ls [])) : ∀ (M : Mem) (a1 : Int32) (a3 : Int32) (b0 : Int32) (b1 : Int32), f_X8_arrivalsWithin_81 k27 M a1 a3 b0 b1 = some (r, MZ) → ∀ (H : Heap) (locs : List Loc) (ls : Array Slot), HS Y M H → va_S (AZ Y) s.heap H locs → lv_has ls 4 [(0, .ref (YA Y 20 0)), (1, .int a1), (3, .int a3)] → W p l e { frames := 1, cells := 0, slots := 0, locals := 25 } s m args below meth c H locs 0 0 (MQ below (Qi Y r MZ) args s 0 0 (AZ Y)) (F0 m 81 ls [.int b0, .int b1]) := by
  obtain ⟨hx, hb, hr, hml, hown, hA, hlocks, hK, hZ⟩ := id C0
  intro M a1 a3 b0 b1 hf H locs ls hH hS hl
  unfold f_X8_arrivalsWithin_81 at hf
  refine lv_iadd hx hb dX8_arrivalsWithin_81 ?_
  refine lv_istore_n (lv' := [(2, .int (b1 + b0)), (0, .ref (YA Y 20 0)), (1, .int a1), (3, .int a3)]) hx hb dX8_arrivalsWithin_82 rfl hl (by decide) rfl (fun ls hl => ?_)
  refine lv_iinc (v := a3 + (1 : Int32)) (lv' := [(3, .int (a3 + (1 : Int32))), (2, .int (b1 + b0)), (0, .ref (YA Y 20 0)), (1, .int a1)]) hx hb dX8_arrivalsWithin_83 hl (k := 3) rfl rfl (by decide) rfl (fun ls hl => ?_)
  refine lv_goto (tgt := 27) hx hb dX8_arrivalsWithin_86 (by decide) ?_
  exact hk27 M a1 (b1 + b0) (a3 + (1 : Int32)) hf _ _ _ hH hS (lv_sub hl [2, 3, 1, 0] rfl)
def f_X8_arrivalsWithin_80 (k27 : Mem → Int32 → Int32 → Int32 → Option (Int32 × Mem)) (M : Mem) (a1 : Int32) (a3 : Int32) (b0 : Int32) : Option (Int32 × Mem) := f_X8_arrivalsWithin_81 k27 M a1 a3 (0 : Int32) b0
set_option maxHeartbeats 4000000 in
set_option maxRecDepth 100000 in
theorem w_X8_arrivalsWithin_80 {Y : LY} {p : Program} {l : Launch} {e : Env} {s : State} {m : MethodId} {args : Array Value} {below : List Frame} {meth : Method} {c : Code} (C0 : BE Y p s m args meth c cX8_arrivalsWithin 4 (Option.some Jvm.ClassFile.FieldType.int) RX8) {r : Int32} {MZ : Mem} (k27 : Mem → Int32 → Int32 → Int32 → Option (Int32 × Mem)) (hk27 : ∀ (M : Mem) (a1 : Int32) (a2 : Int32) (a3 : Int32), k27 M a1 a2 a3 = some (r, MZ) → ∀ (H : Heap) (locs : List Loc) (ls : Array Slot), HS Y M H → va_S (AZ Y) s.heap H locs → lv_has ls 4 [(0, .ref (YA Y 20 0)), (1, .int a1), (2, .int a2), (3, .int a3)] → W p l e { frames := 1, cells := 0, slots := 0, locals := 25 } s m args below meth c H locs 0 0 (MQ below (Qi Y r MZ) args s 0 0 (AZ Y)) (F0 m 27 ls [])) : ∀ (M : Mem) (a1 : Int32) (a3 : Int32) (b0 : Int32), f_X8_arrivalsWithin_80 k27 M a1 a3 b0 = some (r, MZ) → ∀ (H : Heap) (locs : List Loc) (ls : Array Slot), HS Y M H → va_S (AZ Y) s.heap H locs → lv_has ls 4 [(0, .ref (YA Y 20 0)), (1, .int a1), (3, .int a3)] → W p l e { frames := 1, cells := 0, slots := 0, locals := 25 } s m args below meth c H locs 0 0 (MQ below (Qi Y r MZ) args s 0 0 (AZ Y)) (F0 m 80 ls [.int b0]) := by
  obtain ⟨hx, hb, hr, hml, hown, hA, hlocks, hK, hZ⟩ := id C0
  intro M a1 a3 b0 hf H locs ls hH hS hl
  unfold f_X8_arrivalsWithin_80 at hf
  refine lv_iconst (v := (0 : Int32)) hx hb dX8_arrivalsWithin_80 (by decide) ?_
  exact w_X8_arrivalsWithin_81 C0 k27 hk27 M a1 a3 (0 : Int32) b0 hf _ _ _ hH hS (lv_sub hl [0, 1, 2] rfl)
def f_X8_arrivalsWithin_27 : Nat → Mem → Int32 → Int32 → Int32 → Option (Int32 × Mem)
  | 0, _, _, _, _ => none
  | n + 1, M, a1, a2, a3 => (if (M 21 0 2) ≤ a3 then some (a2, M) else bd (f_X8_parcelAt M a3) fun r18 => if vin (r18 + (4 : Int32)) 192 then ((if (M 21 0 (ix (r18 + (4 : Int32)))) = (-1 : Int32) then bd (f_X8_parcelAt M a3) fun r21 => if vin (r21 + (6 : Int32)) 192 then ((if ((M 21 0 4) + a1) < (M 21 0 (ix (r21 + (6 : Int32)))) then f_X8_arrivalsWithin_80 (f_X8_arrivalsWithin_27 n) M a1 a3 a2 else f_X8_arrivalsWithin_81 (f_X8_arrivalsWithin_27 n) M a1 a3 (1 : Int32) a2)) else none else f_X8_arrivalsWithin_80 (f_X8_arrivalsWithin_27 n) M a1 a3 a2)) else none)
set_option maxHeartbeats 4000000 in
set_option maxRecDepth 100000 in
theorem w_X8_arrivalsWithin_27 {Y : LY} {p : Program} {l : Launch} {e : Env} {s : State} {m : MethodId} {args : Array Value} {below : List Frame} {meth : Method} {c : Code} (C0 : BE Y p s m args meth c cX8_arrivalsWithin 4 (Option.some Jvm.ClassFile.FieldType.int) RX8) {r : Int32} {MZ : Mem} : ∀ (n : Nat) (M : Mem) (a1 : Int32) (a2 : Int32) (a3 : Int32), f_X8_arrivalsWithin_27 n M a1 a2 a3 = some (r, MZ) → ∀ (H : Heap) (locs : List Loc) (ls : Array Slot), HS Y M H → va_S (AZ Y) s.heap H locs → lv_has ls 4 [(0, .ref (YA Y 20 0)), (1, .int a1), (2, .int a2), (3, .int a3)] → W p l e { frames := 1, cells := 0, slots := 0, locals := 25 } s m args below meth c H locs 0 0 (MQ below (Qi Y r MZ) args s 0 0 (AZ Y)) (F0 m 27 ls []) := by
  obtain ⟨hx, hb, hr, hml, hown, hA, hlocks, hK, hZ⟩ := id C0
  intro n
  induction n with
  | zero =>
    intro M a1 a2 a3 hf
    cases hf
  | succ n ih =>
    intro M a1 a2 a3 hf H locs ls hH hS hl
    rw [f_X8_arrivalsWithin_27] at hf
    refine lv_iload_n hx hb dX8_arrivalsWithin_27 rfl (lv_at hl 3 rfl) ?_
    refine lv_aload_n hx hb dX8_arrivalsWithin_28 rfl (lv_at hl 0 rfl) ?_
    refine hs_get hx hb (T := TX8) hA inAX8 hown hK hH 20 0 (by decide) 12 rfl rfl 0 (by decide) (hA _ zt_1551) rfl rfl dX8_arrivalsWithin_29 ?_
    refine lv_iconst (v := (2 : Int32)) hx hb dX8_arrivalsWithin_32 (by decide) ?_
    refine hs_iald hx hb hK hH 21 0 (by decide) rfl (show vin (2 : Int32) 192 from by decide) (show ix (2 : Int32) = 2 from by decide) dX8_arrivalsWithin_33 ?_
    refine lv_icmp_ge (tgt := 89) hx hb dX8_arrivalsWithin_34 (by decide) (fun hc25 => ?_) (fun hc25 => ?_)
    · have hf := if_t hf hc25
      refine lv_iload_n hx hb dX8_arrivalsWithin_89 rfl (lv_at hl 2 rfl) ?_
      cases hf
      exact hs_iret C0 hH hS (by decide) (by decide) dX8_arrivalsWithin_90
    · have hf := if_f hf hc25
      refine lv_iload_n hx hb dX8_arrivalsWithin_37 rfl (lv_at hl 2 rfl) ?_
      refine lv_aload_n hx hb dX8_arrivalsWithin_38 rfl (lv_at hl 0 rfl) ?_
      refine hs_get hx hb (T := TX8) hA inAX8 hown hK hH 20 0 (by decide) 12 rfl rfl 0 (by decide) (hA _ zt_1551) rfl rfl dX8_arrivalsWithin_39 ?_
      refine lv_iload_n hx hb dX8_arrivalsWithin_42 rfl (lv_at hl 3 rfl) ?_
      obtain ⟨r18, hq17, hf⟩ := bd_o hf
      refine hs_ci (hs_runS C0 hH hS (n := 1) (As := [.int a3]) (rest := [.ref (YA Y 21 0), .int a2]) (c_X8_parcelAt M a3 hq17) ⟨⟨zt_1694, zt_1695, zt_13, zt_1696⟩, by decide, by decide, by decide +kernel⟩ ⟨rfl, rfl, Nat.le_of_ble_eq_true rfl, Nat.le_of_ble_eq_true rfl⟩ rfl rfl hl.1 (Nat.le_of_ble_eq_true rfl) ⟨Nat.le_of_ble_eq_true rfl, Nat.le_of_ble_eq_true rfl⟩ dX8_arrivalsWithin_43) hS (fun H locs hH hS => ?_)
      refine lv_iconst (v := (4 : Int32)) hx hb dX8_arrivalsWithin_46 (by decide) ?_
      refine lv_iadd hx hb dX8_arrivalsWithin_47 ?_
      obtain ⟨hg19, hf⟩ := gd_o hf
      have bhg19 := vin_lt hg19
      refine hs_iald hx hb hK hH 21 0 (by decide) rfl hg19 rfl dX8_arrivalsWithin_48 ?_
      refine lv_iconst (v := (-1 : Int32)) hx hb dX8_arrivalsWithin_49 (by decide) ?_
      refine lv_icmp_ne (tgt := 80) hx hb dX8_arrivalsWithin_50 (by decide) (fun hc24 => ?_) (fun hc24 => ?_)
      · have hf := if_f hf hc24
        exact w_X8_arrivalsWithin_80 C0 (f_X8_arrivalsWithin_27 n) ih M a1 a3 a2 hf _ _ _ hH hS (lv_sub hl [0, 1, 3] rfl)
      · have hf := if_t hf hc24
        refine lv_aload_n hx hb dX8_arrivalsWithin_53 rfl (lv_at hl 0 rfl) ?_
        refine hs_get hx hb (T := TX8) hA inAX8 hown hK hH 20 0 (by decide) 12 rfl rfl 0 (by decide) (hA _ zt_1551) rfl rfl dX8_arrivalsWithin_54 ?_
        refine lv_iload_n hx hb dX8_arrivalsWithin_57 rfl (lv_at hl 3 rfl) ?_
        obtain ⟨r21, hq20, hf⟩ := bd_o hf
        refine hs_ci (hs_runS C0 hH hS (n := 1) (As := [.int a3]) (rest := [.ref (YA Y 21 0), .int a2]) (c_X8_parcelAt M a3 hq20) ⟨⟨zt_1694, zt_1695, zt_13, zt_1696⟩, by decide, by decide, by decide +kernel⟩ ⟨rfl, rfl, Nat.le_of_ble_eq_true rfl, Nat.le_of_ble_eq_true rfl⟩ rfl rfl hl.1 (Nat.le_of_ble_eq_true rfl) ⟨Nat.le_of_ble_eq_true rfl, Nat.le_of_ble_eq_true rfl⟩ dX8_arrivalsWithin_58) hS (fun H locs hH hS => ?_)
        refine lv_bipush (v := (6 : Int32)) hx hb dX8_arrivalsWithin_61 (by decide) ?_
        refine lv_iadd hx hb dX8_arrivalsWithin_63 ?_
        obtain ⟨hg22, hf⟩ := gd_o hf
        have bhg22 := vin_lt hg22
        refine hs_iald hx hb hK hH 21 0 (by decide) rfl hg22 rfl dX8_arrivalsWithin_64 ?_
        refine lv_aload_n hx hb dX8_arrivalsWithin_65 rfl (lv_at hl 0 rfl) ?_
        refine hs_get hx hb (T := TX8) hA inAX8 hown hK hH 20 0 (by decide) 12 rfl rfl 0 (by decide) (hA _ zt_1551) rfl rfl dX8_arrivalsWithin_66 ?_
        refine lv_iconst (v := (4 : Int32)) hx hb dX8_arrivalsWithin_69 (by decide) ?_
        refine hs_iald hx hb hK hH 21 0 (by decide) rfl (show vin (4 : Int32) 192 from by decide) (show ix (4 : Int32) = 4 from by decide) dX8_arrivalsWithin_70 ?_
        refine lv_iload_n hx hb dX8_arrivalsWithin_71 rfl (lv_at hl 1 rfl) ?_
        refine lv_iadd hx hb dX8_arrivalsWithin_72 ?_
        refine lv_icmp_gt (tgt := 80) hx hb dX8_arrivalsWithin_73 (by decide) (fun hc23 => ?_) (fun hc23 => ?_)
        · have hf := if_t hf hc23
          exact w_X8_arrivalsWithin_80 C0 (f_X8_arrivalsWithin_27 n) ih M a1 a3 a2 hf _ _ _ hH hS (lv_sub hl [0, 1, 3] rfl)
        · have hf := if_f hf hc23
          refine lv_iconst (v := (1 : Int32)) hx hb dX8_arrivalsWithin_76 (by decide) ?_
          refine lv_goto (tgt := 81) hx hb dX8_arrivalsWithin_77 (by decide) ?_
          exact w_X8_arrivalsWithin_81 C0 (f_X8_arrivalsWithin_27 n) ih M a1 a3 (1 : Int32) a2 hf _ _ _ hH hS (lv_sub hl [0, 1, 3] rfl)
def f_X8_arrivalsWithin (M : Mem) (a1 : Int32) : Option (Int32 × Mem) := nm (mu M 20 0 9 (0 : Int32)) fun M26 => bd (f_X8_in M26 a1.toInt64 (1 : Int64) (120 : Int64)) fun r28 => (if r28 = 0 then bd2 (f_X8_throwing M26 (1 : Int32)) fun r31 M30 => some (r31, M30) else f_X8_arrivalsWithin_27 FU M26 a1 (0 : Int32) (0 : Int32))
set_option maxHeartbeats 4000000 in
set_option maxRecDepth 100000 in
theorem c_X8_arrivalsWithin {Y : LY} {l : Launch} (M : Mem) (a1 : Int32) {r : Int32} {MZ : Mem} (hf : f_X8_arrivalsWithin M a1 = some (r, MZ)) : Met l yX8_arrivalsWithin (WS yX8_arrivalsWithin cX8_arrivalsWithin 4 (Option.some Jvm.ClassFile.FieldType.int)) { frames := 1, cells := 0, slots := 0, locals := 25 } (PcM Y M [.ref (YA Y 20 0), .int a1]) (Qi Y r MZ) 0 0 (AZ Y) := by
  refine met_mk (lv := [(0, .ref (YA Y 20 0)), (1, .int a1)]) [.ref (YA Y 20 0), .int a1] (by decide) rfl rfl (Nat.le_of_ble_eq_true rfl) (fun p e s m below meth c C0 hH ls hl => ?_)
  have hS : va_S (AZ Y) s.heap s.heap [] := va_S.rf
  obtain ⟨hx, hb, hr, hml, hown, hA, hlocks, hK, hZ⟩ := id C0
  unfold f_X8_arrivalsWithin at hf
  refine lv_aload_n hx hb dX8_arrivalsWithin_0 rfl (lv_at hl 0 rfl) ?_
  refine lv_iconst (v := (0 : Int32)) hx hb dX8_arrivalsWithin_1 (by decide) ?_
  refine hs_put hx hb (T := TX8) hA inAX8 tyX8 tyX8_ok nmX8 hown hK hH hS 20 0 (by decide) 12 rfl rfl 9 (by decide) (hA _ zt_1560) rfl rfl (by decide +kernel) (Nat.le_of_ble_eq_true rfl) rfl dX8_arrivalsWithin_2 (fun H locs hH hS => ?_)
  obtain ⟨M26, eM26, hf⟩ := nm_o hf
  rw [← eM26] at hH
  refine lv_iload_n hx hb dX8_arrivalsWithin_5 rfl (lv_at hl 1 rfl) ?_
  refine lv_i2l (v := a1.toInt64) hx hb dX8_arrivalsWithin_6 rfl ?_
  refine lv_lconst (v := (1 : Int64)) hx hb dX8_arrivalsWithin_7 (by decide) ?_
  refine lv_ldc2 (v := (120 : Int64)) hx hb hown (hA _ zt_1783) dX8_arrivalsWithin_8 ?_
  obtain ⟨r28, hq27, hf⟩ := bd_o hf
  refine hs_ci (hs_runS C0 hH hS (n := 3) (As := [.long a1.toInt64, .long (1 : Int64), .long (120 : Int64)]) (rest := []) (c_X8_in M26 a1.toInt64 (1 : Int64) (120 : Int64) hq27) ⟨⟨zt_1657, zt_1658, zt_13, zt_1659⟩, by decide, by decide, by decide +kernel⟩ ⟨rfl, rfl, Nat.le_of_ble_eq_true rfl, Nat.le_of_ble_eq_true rfl⟩ rfl rfl hl.1 (Nat.le_of_ble_eq_true rfl) ⟨Nat.le_of_ble_eq_true rfl, Nat.le_of_ble_eq_true rfl⟩ dX8_arrivalsWithin_11) hS (fun H locs hH hS => ?_)
  refine lv_if_ne (tgt := 23) hx hb dX8_arrivalsWithin_14 (by decide) (fun hc32 => ?_) (fun hc32 => ?_)
  · have hf := if_f hf hc32
    refine lv_iconst (v := (0 : Int32)) hx hb dX8_arrivalsWithin_23 (by decide) ?_
    refine lv_istore_n (lv' := [(2, .int (0 : Int32)), (0, .ref (YA Y 20 0)), (1, .int a1)]) hx hb dX8_arrivalsWithin_24 rfl hl (by decide) rfl (fun ls hl => ?_)
    refine lv_iconst (v := (0 : Int32)) hx hb dX8_arrivalsWithin_25 (by decide) ?_
    refine lv_istore_n (lv' := [(3, .int (0 : Int32)), (2, .int (0 : Int32)), (0, .ref (YA Y 20 0)), (1, .int a1)]) hx hb dX8_arrivalsWithin_26 rfl hl (by decide) rfl (fun ls hl => ?_)
    exact w_X8_arrivalsWithin_27 C0 FU M26 a1 (0 : Int32) (0 : Int32) hf _ _ _ hH hS (lv_sub hl [2, 3, 1, 0] rfl)
  · have hf := if_t hf hc32
    refine lv_aload_n hx hb dX8_arrivalsWithin_17 rfl (lv_at hl 0 rfl) ?_
    refine lv_iconst (v := (1 : Int32)) hx hb dX8_arrivalsWithin_18 (by decide) ?_
    obtain ⟨r31, M30, hq29, hf⟩ := bd2_o hf
    refine hs_ci (hs_runV C0 hH hS (n := 1) (As := [.int (1 : Int32)]) (rest := []) (c_X8_throwing M26 (1 : Int32) hq29) ⟨⟨zt_1637, zt_1639, zs_34, zt_13, zt_1640⟩, rfl, by decide, by decide, by decide +kernel⟩ ⟨rfl, rfl, Nat.le_of_ble_eq_true rfl, Nat.le_of_ble_eq_true rfl⟩ (hs_recv hK hH 20 0 (by decide) 12 rfl rfl) rfl rfl hl.1 (Nat.le_of_ble_eq_true rfl) ⟨Nat.le_of_ble_eq_true rfl, Nat.le_of_ble_eq_true rfl⟩ dX8_arrivalsWithin_19) hS (fun H locs hH hS => ?_)
    cases hf
    exact hs_iret C0 hH hS (by decide) (by decide) dX8_arrivalsWithin_22
def f_X8_deliveredIf_79 : Nat → Mem → Int32 → Int32 → Option (Int32 × Mem)
  | 0, _, _, _ => none
  | n + 1, M, a2, a3 => (if (192 : Int32) ≤ a3 then some (a2, M) else if vin a3 192 then (nm (mu M 21 0 (ix a3) (M 23 0 (ix a3))) fun M22 => f_X8_deliveredIf_79 n M22 a2 (a3 + (1 : Int32))) else none)
set_option maxHeartbeats 4000000 in
set_option maxRecDepth 100000 in
theorem w_X8_deliveredIf_79 {Y : LY} {p : Program} {l : Launch} {e : Env} {s : State} {m : MethodId} {args : Array Value} {below : List Frame} {meth : Method} {c : Code} (C0 : BE Y p s m args meth c cX8_deliveredIf 4 (Option.some Jvm.ClassFile.FieldType.int) RX8) {r : Int32} {MZ : Mem} : ∀ (n : Nat) (M : Mem) (a2 : Int32) (a3 : Int32), f_X8_deliveredIf_79 n M a2 a3 = some (r, MZ) → ∀ (H : Heap) (locs : List Loc) (ls : Array Slot), HS Y M H → va_S (AZ Y) s.heap H locs → lv_has ls 4 [(0, .ref (YA Y 20 0)), (2, .int a2), (3, .int a3)] → W p l e { frames := 7, cells := 0, slots := 0, locals := 163 } s m args below meth c H locs 0 0 (MQ below (Qi Y r MZ) args s 0 0 (AZ Y)) (F0 m 79 ls []) := by
  obtain ⟨hx, hb, hr, hml, hown, hA, hlocks, hK, hZ⟩ := id C0
  intro n
  induction n with
  | zero =>
    intro M a2 a3 hf
    cases hf
  | succ n ih =>
    intro M a2 a3 hf H locs ls hH hS hl
    rw [f_X8_deliveredIf_79] at hf
    refine lv_iload_n hx hb dX8_deliveredIf_79 rfl (lv_at hl 2 rfl) ?_
    refine lv_sipush (v := (192 : Int32)) hx hb dX8_deliveredIf_80 (by decide) ?_
    refine lv_icmp_ge (tgt := 104) hx hb dX8_deliveredIf_83 (by decide) (fun hc23 => ?_) (fun hc23 => ?_)
    · have hf := if_t hf hc23
      refine lv_iload_n hx hb dX8_deliveredIf_104 rfl (lv_at hl 1 rfl) ?_
      cases hf
      exact hs_iret C0 hH hS (by decide) (by decide) dX8_deliveredIf_105
    · have hf := if_f hf hc23
      refine lv_aload_n hx hb dX8_deliveredIf_86 rfl (lv_at hl 0 rfl) ?_
      refine hs_get hx hb (T := TX8) hA inAX8 hown hK hH 20 0 (by decide) 12 rfl rfl 0 (by decide) (hA _ zt_1551) rfl rfl dX8_deliveredIf_87 ?_
      refine lv_iload_n hx hb dX8_deliveredIf_90 rfl (lv_at hl 2 rfl) ?_
      refine lv_aload_n hx hb dX8_deliveredIf_91 rfl (lv_at hl 0 rfl) ?_
      refine hs_get hx hb (T := TX8) hA inAX8 hown hK hH 20 0 (by decide) 12 rfl rfl 2 (by decide) (hA _ zt_1553) rfl rfl dX8_deliveredIf_92 ?_
      refine lv_iload_n hx hb dX8_deliveredIf_95 rfl (lv_at hl 2 rfl) ?_
      obtain ⟨hg21, hf⟩ := gd_o hf
      have bhg21 := vin_lt hg21
      refine hs_iald hx hb hK hH 23 0 (by decide) rfl hg21 rfl dX8_deliveredIf_96 ?_
      refine hs_iast hx hb hK hH hS 21 0 (by decide) (fun _ => rfl) hg21 rfl dX8_deliveredIf_97 (fun H locs hH hS => ?_)
      obtain ⟨M22, eM22, hf⟩ := nm_o hf
      rw [← eM22] at hH
      refine lv_iinc (v := a3 + (1 : Int32)) (lv' := [(3, .int (a3 + (1 : Int32))), (0, .ref (YA Y 20 0)), (2, .int a2)]) hx hb dX8_deliveredIf_98 hl (k := 2) rfl rfl (by decide) rfl (fun ls hl => ?_)
      refine lv_goto (tgt := 79) hx hb dX8_deliveredIf_101 (by decide) ?_
      exact ih M22 a2 (a3 + (1 : Int32)) hf _ _ _ hH hS (lv_sub hl [1, 2, 0] rfl)
def f_X8_deliveredIf_54 : Nat → Mem → Int32 → Int32 → Int32 → Option (Int32 × Mem)
  | 0, _, _, _, _ => none
  | n + 1, M, a1, a2, a3 => (if a1 ≤ a3 then f_X8_deliveredIf_79 FU M a2 (0 : Int32) else bd2 (f_X8_dispatchIt M) fun r26 M25 => bd2 (f_X8_passesHour M25) fun r29 M28 => f_X8_deliveredIf_54 n M28 a1 (a2 + r29) (a3 + (1 : Int32)))
set_option maxHeartbeats 4000000 in
set_option maxRecDepth 100000 in
theorem w_X8_deliveredIf_54 {Y : LY} {p : Program} {l : Launch} {e : Env} {s : State} {m : MethodId} {args : Array Value} {below : List Frame} {meth : Method} {c : Code} (C0 : BE Y p s m args meth c cX8_deliveredIf 4 (Option.some Jvm.ClassFile.FieldType.int) RX8) {r : Int32} {MZ : Mem} : ∀ (n : Nat) (M : Mem) (a1 : Int32) (a2 : Int32) (a3 : Int32), f_X8_deliveredIf_54 n M a1 a2 a3 = some (r, MZ) → ∀ (H : Heap) (locs : List Loc) (ls : Array Slot), HS Y M H → va_S (AZ Y) s.heap H locs → lv_has ls 4 [(0, .ref (YA Y 20 0)), (1, .int a1), (2, .int a2), (3, .int a3)] → W p l e { frames := 7, cells := 0, slots := 0, locals := 163 } s m args below meth c H locs 0 0 (MQ below (Qi Y r MZ) args s 0 0 (AZ Y)) (F0 m 54 ls []) := by
  obtain ⟨hx, hb, hr, hml, hown, hA, hlocks, hK, hZ⟩ := id C0
  intro n
  induction n with
  | zero =>
    intro M a1 a2 a3 hf
    cases hf
  | succ n ih =>
    intro M a1 a2 a3 hf H locs ls hH hS hl
    rw [f_X8_deliveredIf_54] at hf
    refine lv_iload_n hx hb dX8_deliveredIf_54 rfl (lv_at hl 3 rfl) ?_
    refine lv_iload_n hx hb dX8_deliveredIf_55 rfl (lv_at hl 1 rfl) ?_
    refine lv_icmp_ge (tgt := 77) hx hb dX8_deliveredIf_56 (by decide) (fun hc30 => ?_) (fun hc30 => ?_)
    · have hf := if_t hf hc30
      refine lv_iconst (v := (0 : Int32)) hx hb dX8_deliveredIf_77 (by decide) ?_
      refine lv_istore_n (lv' := [(3, .int (0 : Int32)), (0, .ref (YA Y 20 0)), (1, .int a1), (2, .int a2)]) hx hb dX8_deliveredIf_78 rfl hl (by decide) rfl (fun ls hl => ?_)
      exact w_X8_deliveredIf_79 C0 FU M a2 (0 : Int32) hf _ _ _ hH hS (lv_sub hl [1, 3, 0] rfl)
    · have hf := if_f hf hc30
      refine lv_aload_n hx hb dX8_deliveredIf_59 rfl (lv_at hl 0 rfl) ?_
      obtain ⟨r26, M25, hq24, hf⟩ := bd2_o hf
      refine hs_ci (hs_runV C0 hH hS (n := 0) (As := []) (rest := []) (c_X8_dispatchIt M hq24) ⟨⟨zt_1749, zt_1751, zs_51, zt_13, zt_1752⟩, rfl, by decide, by decide, by decide +kernel⟩ ⟨rfl, rfl, Nat.le_of_ble_eq_true rfl, Nat.le_of_ble_eq_true rfl⟩ (hs_recv hK hH 20 0 (by decide) 12 rfl rfl) rfl rfl hl.1 (Nat.le_of_ble_eq_true rfl) ⟨Nat.le_of_ble_eq_true rfl, Nat.le_of_ble_eq_true rfl⟩ dX8_deliveredIf_60) hS (fun H locs hH hS => ?_)
      refine lv_pop hx hb dX8_deliveredIf_63 rfl ?_
      refine lv_iload_n hx hb dX8_deliveredIf_64 rfl (lv_at hl 2 rfl) ?_
      refine lv_aload_n hx hb dX8_deliveredIf_65 rfl (lv_at hl 0 rfl) ?_
      obtain ⟨r29, M28, hq27, hf⟩ := bd2_o hf
      refine hs_ci (hs_runV C0 hH hS (n := 0) (As := []) (rest := [.int a2]) (c_X8_passesHour M25 hq27) ⟨⟨zt_1784, zt_1786, zs_58, zt_13, zt_1787⟩, rfl, by decide, by decide, by decide +kernel⟩ ⟨rfl, rfl, Nat.le_of_ble_eq_true rfl, Nat.le_of_ble_eq_true rfl⟩ (hs_recv hK hH 20 0 (by decide) 12 rfl rfl) rfl rfl hl.1 (Nat.le_of_ble_eq_true rfl) ⟨Nat.le_of_ble_eq_true rfl, Nat.le_of_ble_eq_true rfl⟩ dX8_deliveredIf_66) hS (fun H locs hH hS => ?_)
      refine lv_iadd hx hb dX8_deliveredIf_69 ?_
      refine lv_istore_n (lv' := [(2, .int (a2 + r29)), (0, .ref (YA Y 20 0)), (1, .int a1), (3, .int a3)]) hx hb dX8_deliveredIf_70 rfl hl (by decide) rfl (fun ls hl => ?_)
      refine lv_iinc (v := a3 + (1 : Int32)) (lv' := [(3, .int (a3 + (1 : Int32))), (2, .int (a2 + r29)), (0, .ref (YA Y 20 0)), (1, .int a1)]) hx hb dX8_deliveredIf_71 hl (k := 3) rfl rfl (by decide) rfl (fun ls hl => ?_)
      refine lv_goto (tgt := 54) hx hb dX8_deliveredIf_74 (by decide) ?_
      exact ih M28 a1 (a2 + r29) (a3 + (1 : Int32)) hf _ _ _ hH hS (lv_sub hl [2, 3, 1, 0] rfl)
def f_X8_deliveredIf_25 : Nat → Mem → Int32 → Int32 → Option (Int32 × Mem)
  | 0, _, _, _ => none
  | n + 1, M, a1, a2 => (if (192 : Int32) ≤ a2 then f_X8_deliveredIf_54 FU M a1 (0 : Int32) (0 : Int32) else if vin a2 192 then (nm (mu M 23 0 (ix a2) (M 21 0 (ix a2))) fun M32 => f_X8_deliveredIf_25 n M32 a1 (a2 + (1 : Int32))) else none)
set_option maxHeartbeats 4000000 in
set_option maxRecDepth 100000 in
theorem w_X8_deliveredIf_25 {Y : LY} {p : Program} {l : Launch} {e : Env} {s : State} {m : MethodId} {args : Array Value} {below : List Frame} {meth : Method} {c : Code} (C0 : BE Y p s m args meth c cX8_deliveredIf 4 (Option.some Jvm.ClassFile.FieldType.int) RX8) {r : Int32} {MZ : Mem} : ∀ (n : Nat) (M : Mem) (a1 : Int32) (a2 : Int32), f_X8_deliveredIf_25 n M a1 a2 = some (r, MZ) → ∀ (H : Heap) (locs : List Loc) (ls : Array Slot), HS Y M H → va_S (AZ Y) s.heap H locs → lv_has ls 4 [(0, .ref (YA Y 20 0)), (1, .int a1), (2, .int a2)] → W p l e { frames := 7, cells := 0, slots := 0, locals := 163 } s m args below meth c H locs 0 0 (MQ below (Qi Y r MZ) args s 0 0 (AZ Y)) (F0 m 25 ls []) := by
  obtain ⟨hx, hb, hr, hml, hown, hA, hlocks, hK, hZ⟩ := id C0
  intro n
  induction n with
  | zero =>
    intro M a1 a2 hf
    cases hf
  | succ n ih =>
    intro M a1 a2 hf H locs ls hH hS hl
    rw [f_X8_deliveredIf_25] at hf
    refine lv_iload_n hx hb dX8_deliveredIf_25 rfl (lv_at hl 2 rfl) ?_
    refine lv_sipush (v := (192 : Int32)) hx hb dX8_deliveredIf_26 (by decide) ?_
    refine lv_icmp_ge (tgt := 50) hx hb dX8_deliveredIf_29 (by decide) (fun hc33 => ?_) (fun hc33 => ?_)
    · have hf := if_t hf hc33
      refine lv_iconst (v := (0 : Int32)) hx hb dX8_deliveredIf_50 (by decide) ?_
      refine lv_istore_n (lv' := [(2, .int (0 : Int32)), (0, .ref (YA Y 20 0)), (1, .int a1)]) hx hb dX8_deliveredIf_51 rfl hl (by decide) rfl (fun ls hl => ?_)
      refine lv_iconst (v := (0 : Int32)) hx hb dX8_deliveredIf_52 (by decide) ?_
      refine lv_istore_n (lv' := [(3, .int (0 : Int32)), (2, .int (0 : Int32)), (0, .ref (YA Y 20 0)), (1, .int a1)]) hx hb dX8_deliveredIf_53 rfl hl (by decide) rfl (fun ls hl => ?_)
      exact w_X8_deliveredIf_54 C0 FU M a1 (0 : Int32) (0 : Int32) hf _ _ _ hH hS (lv_sub hl [2, 3, 1, 0] rfl)
    · have hf := if_f hf hc33
      refine lv_aload_n hx hb dX8_deliveredIf_32 rfl (lv_at hl 0 rfl) ?_
      refine hs_get hx hb (T := TX8) hA inAX8 hown hK hH 20 0 (by decide) 12 rfl rfl 2 (by decide) (hA _ zt_1553) rfl rfl dX8_deliveredIf_33 ?_
      refine lv_iload_n hx hb dX8_deliveredIf_36 rfl (lv_at hl 2 rfl) ?_
      refine lv_aload_n hx hb dX8_deliveredIf_37 rfl (lv_at hl 0 rfl) ?_
      refine hs_get hx hb (T := TX8) hA inAX8 hown hK hH 20 0 (by decide) 12 rfl rfl 0 (by decide) (hA _ zt_1551) rfl rfl dX8_deliveredIf_38 ?_
      refine lv_iload_n hx hb dX8_deliveredIf_41 rfl (lv_at hl 2 rfl) ?_
      obtain ⟨hg31, hf⟩ := gd_o hf
      have bhg31 := vin_lt hg31
      refine hs_iald hx hb hK hH 21 0 (by decide) rfl hg31 rfl dX8_deliveredIf_42 ?_
      refine hs_iast hx hb hK hH hS 23 0 (by decide) (fun _ => rfl) hg31 rfl dX8_deliveredIf_43 (fun H locs hH hS => ?_)
      obtain ⟨M32, eM32, hf⟩ := nm_o hf
      rw [← eM32] at hH
      refine lv_iinc (v := a2 + (1 : Int32)) (lv' := [(2, .int (a2 + (1 : Int32))), (0, .ref (YA Y 20 0)), (1, .int a1)]) hx hb dX8_deliveredIf_44 hl (k := 2) rfl rfl (by decide) rfl (fun ls hl => ?_)
      refine lv_goto (tgt := 25) hx hb dX8_deliveredIf_47 (by decide) ?_
      exact ih M32 a1 (a2 + (1 : Int32)) hf _ _ _ hH hS (lv_sub hl [1, 2, 0] rfl)
def f_X8_deliveredIf (M : Mem) (a1 : Int32) : Option (Int32 × Mem) := nm (mu M 20 0 9 (0 : Int32)) fun M34 => bd (f_X8_in M34 a1.toInt64 (1 : Int64) (60 : Int64)) fun r36 => (if r36 = 0 then bd2 (f_X8_throwing M34 (1 : Int32)) fun r39 M38 => some (r39, M38) else f_X8_deliveredIf_25 FU M34 a1 (0 : Int32))
set_option maxHeartbeats 4000000 in
set_option maxRecDepth 100000 in
theorem c_X8_deliveredIf {Y : LY} {l : Launch} (M : Mem) (a1 : Int32) {r : Int32} {MZ : Mem} (hf : f_X8_deliveredIf M a1 = some (r, MZ)) : Met l yX8_deliveredIf (WS yX8_deliveredIf cX8_deliveredIf 4 (Option.some Jvm.ClassFile.FieldType.int)) { frames := 7, cells := 0, slots := 0, locals := 163 } (PcM Y M [.ref (YA Y 20 0), .int a1]) (Qi Y r MZ) 0 0 (AZ Y) := by
  refine met_mk (lv := [(0, .ref (YA Y 20 0)), (1, .int a1)]) [.ref (YA Y 20 0), .int a1] (by decide) rfl rfl (Nat.le_of_ble_eq_true rfl) (fun p e s m below meth c C0 hH ls hl => ?_)
  have hS : va_S (AZ Y) s.heap s.heap [] := va_S.rf
  obtain ⟨hx, hb, hr, hml, hown, hA, hlocks, hK, hZ⟩ := id C0
  unfold f_X8_deliveredIf at hf
  refine lv_aload_n hx hb dX8_deliveredIf_0 rfl (lv_at hl 0 rfl) ?_
  refine lv_iconst (v := (0 : Int32)) hx hb dX8_deliveredIf_1 (by decide) ?_
  refine hs_put hx hb (T := TX8) hA inAX8 tyX8 tyX8_ok nmX8 hown hK hH hS 20 0 (by decide) 12 rfl rfl 9 (by decide) (hA _ zt_1560) rfl rfl (by decide +kernel) (Nat.le_of_ble_eq_true rfl) rfl dX8_deliveredIf_2 (fun H locs hH hS => ?_)
  obtain ⟨M34, eM34, hf⟩ := nm_o hf
  rw [← eM34] at hH
  refine lv_iload_n hx hb dX8_deliveredIf_5 rfl (lv_at hl 1 rfl) ?_
  refine lv_i2l (v := a1.toInt64) hx hb dX8_deliveredIf_6 rfl ?_
  refine lv_lconst (v := (1 : Int64)) hx hb dX8_deliveredIf_7 (by decide) ?_
  refine lv_ldc2 (v := (60 : Int64)) hx hb hown (hA _ zt_1939) dX8_deliveredIf_8 ?_
  obtain ⟨r36, hq35, hf⟩ := bd_o hf
  refine hs_ci (hs_runS C0 hH hS (n := 3) (As := [.long a1.toInt64, .long (1 : Int64), .long (60 : Int64)]) (rest := []) (c_X8_in M34 a1.toInt64 (1 : Int64) (60 : Int64) hq35) ⟨⟨zt_1657, zt_1658, zt_13, zt_1659⟩, by decide, by decide, by decide +kernel⟩ ⟨rfl, rfl, Nat.le_of_ble_eq_true rfl, Nat.le_of_ble_eq_true rfl⟩ rfl rfl hl.1 (Nat.le_of_ble_eq_true rfl) ⟨Nat.le_of_ble_eq_true rfl, Nat.le_of_ble_eq_true rfl⟩ dX8_deliveredIf_11) hS (fun H locs hH hS => ?_)
  refine lv_if_ne (tgt := 23) hx hb dX8_deliveredIf_14 (by decide) (fun hc40 => ?_) (fun hc40 => ?_)
  · have hf := if_f hf hc40
    refine lv_iconst (v := (0 : Int32)) hx hb dX8_deliveredIf_23 (by decide) ?_
    refine lv_istore_n (lv' := [(2, .int (0 : Int32)), (0, .ref (YA Y 20 0)), (1, .int a1)]) hx hb dX8_deliveredIf_24 rfl hl (by decide) rfl (fun ls hl => ?_)
    exact w_X8_deliveredIf_25 C0 FU M34 a1 (0 : Int32) hf _ _ _ hH hS (lv_sub hl [1, 2, 0] rfl)
  · have hf := if_t hf hc40
    refine lv_aload_n hx hb dX8_deliveredIf_17 rfl (lv_at hl 0 rfl) ?_
    refine lv_iconst (v := (1 : Int32)) hx hb dX8_deliveredIf_18 (by decide) ?_
    obtain ⟨r39, M38, hq37, hf⟩ := bd2_o hf
    refine hs_ci (hs_runV C0 hH hS (n := 1) (As := [.int (1 : Int32)]) (rest := []) (c_X8_throwing M34 (1 : Int32) hq37) ⟨⟨zt_1637, zt_1639, zs_34, zt_13, zt_1640⟩, rfl, by decide, by decide, by decide +kernel⟩ ⟨rfl, rfl, Nat.le_of_ble_eq_true rfl, Nat.le_of_ble_eq_true rfl⟩ (hs_recv hK hH 20 0 (by decide) 12 rfl rfl) rfl rfl hl.1 (Nat.le_of_ble_eq_true rfl) ⟨Nat.le_of_ble_eq_true rfl, Nat.le_of_ble_eq_true rfl⟩ dX8_deliveredIf_19) hS (fun H locs hH hS => ?_)
    cases hf
    exact hs_iret C0 hH hS (by decide) (by decide) dX8_deliveredIf_22
def f_X8_postedTotal (M : Mem) : Option (Int32 × Mem) := bd2 (f_X8_total M (3 : Int32)) fun r6 M5 => some (r6, M5)
set_option maxHeartbeats 4000000 in
set_option maxRecDepth 100000 in
theorem c_X8_postedTotal {Y : LY} {l : Launch} (M : Mem) {r : Int32} {MZ : Mem} (hf : f_X8_postedTotal M = some (r, MZ)) : Met l yX8_postedTotal (WS yX8_postedTotal cX8_postedTotal 1 (Option.some Jvm.ClassFile.FieldType.int)) { frames := 1, cells := 0, slots := 0, locals := 21 } (PcM Y M [.ref (YA Y 20 0)]) (Qi Y r MZ) 0 0 (AZ Y) := by
  refine met_mk (lv := [(0, .ref (YA Y 20 0))]) [.ref (YA Y 20 0)] (by decide) rfl rfl (Nat.le_of_ble_eq_true rfl) (fun p e s m below meth c C0 hH ls hl => ?_)
  have hS : va_S (AZ Y) s.heap s.heap [] := va_S.rf
  obtain ⟨hx, hb, hr, hml, hown, hA, hlocks, hK, hZ⟩ := id C0
  unfold f_X8_postedTotal at hf
  refine lv_aload_n hx hb dX8_postedTotal_0 rfl (lv_at hl 0 rfl) ?_
  refine lv_iconst (v := (3 : Int32)) hx hb dX8_postedTotal_1 (by decide) ?_
  obtain ⟨r6, M5, hq4, hf⟩ := bd2_o hf
  refine hs_ci (hs_runV C0 hH hS (n := 1) (As := [.int (3 : Int32)]) (rest := []) (c_X8_total M (3 : Int32) hq4) ⟨⟨zt_1792, zt_1794, zs_59, zt_13, zt_1795⟩, rfl, by decide, by decide, by decide +kernel⟩ ⟨rfl, rfl, Nat.le_of_ble_eq_true rfl, Nat.le_of_ble_eq_true rfl⟩ (hs_recv hK hH 20 0 (by decide) 12 rfl rfl) rfl rfl hl.1 (Nat.le_of_ble_eq_true rfl) ⟨Nat.le_of_ble_eq_true rfl, Nat.le_of_ble_eq_true rfl⟩ dX8_postedTotal_2) hS (fun H locs hH hS => ?_)
  cases hf
  exact hs_iret C0 hH hS (by decide) (by decide) dX8_postedTotal_5
def f_X8_deliveredTotal (M : Mem) : Option (Int32 × Mem) := bd2 (f_X8_total M (5 : Int32)) fun r6 M5 => some (r6, M5)
set_option maxHeartbeats 4000000 in
set_option maxRecDepth 100000 in
theorem c_X8_deliveredTotal {Y : LY} {l : Launch} (M : Mem) {r : Int32} {MZ : Mem} (hf : f_X8_deliveredTotal M = some (r, MZ)) : Met l yX8_deliveredTotal (WS yX8_deliveredTotal cX8_deliveredTotal 1 (Option.some Jvm.ClassFile.FieldType.int)) { frames := 1, cells := 0, slots := 0, locals := 21 } (PcM Y M [.ref (YA Y 20 0)]) (Qi Y r MZ) 0 0 (AZ Y) := by
  refine met_mk (lv := [(0, .ref (YA Y 20 0))]) [.ref (YA Y 20 0)] (by decide) rfl rfl (Nat.le_of_ble_eq_true rfl) (fun p e s m below meth c C0 hH ls hl => ?_)
  have hS : va_S (AZ Y) s.heap s.heap [] := va_S.rf
  obtain ⟨hx, hb, hr, hml, hown, hA, hlocks, hK, hZ⟩ := id C0
  unfold f_X8_deliveredTotal at hf
  refine lv_aload_n hx hb dX8_deliveredTotal_0 rfl (lv_at hl 0 rfl) ?_
  refine lv_iconst (v := (5 : Int32)) hx hb dX8_deliveredTotal_1 (by decide) ?_
  obtain ⟨r6, M5, hq4, hf⟩ := bd2_o hf
  refine hs_ci (hs_runV C0 hH hS (n := 1) (As := [.int (5 : Int32)]) (rest := []) (c_X8_total M (5 : Int32) hq4) ⟨⟨zt_1792, zt_1794, zs_59, zt_13, zt_1795⟩, rfl, by decide, by decide, by decide +kernel⟩ ⟨rfl, rfl, Nat.le_of_ble_eq_true rfl, Nat.le_of_ble_eq_true rfl⟩ (hs_recv hK hH 20 0 (by decide) 12 rfl rfl) rfl rfl hl.1 (Nat.le_of_ble_eq_true rfl) ⟨Nat.le_of_ble_eq_true rfl, Nat.le_of_ble_eq_true rfl⟩ dX8_deliveredTotal_2) hS (fun H locs hH hS => ?_)
  cases hf
  exact hs_iret C0 hH hS (by decide) (by decide) dX8_deliveredTotal_5
def f_X8_takenBackTotal (M : Mem) : Option (Int32 × Mem) := bd2 (f_X8_total M (6 : Int32)) fun r6 M5 => some (r6, M5)
set_option maxHeartbeats 4000000 in
set_option maxRecDepth 100000 in
theorem c_X8_takenBackTotal {Y : LY} {l : Launch} (M : Mem) {r : Int32} {MZ : Mem} (hf : f_X8_takenBackTotal M = some (r, MZ)) : Met l yX8_takenBackTotal (WS yX8_takenBackTotal cX8_takenBackTotal 1 (Option.some Jvm.ClassFile.FieldType.int)) { frames := 1, cells := 0, slots := 0, locals := 21 } (PcM Y M [.ref (YA Y 20 0)]) (Qi Y r MZ) 0 0 (AZ Y) := by
  refine met_mk (lv := [(0, .ref (YA Y 20 0))]) [.ref (YA Y 20 0)] (by decide) rfl rfl (Nat.le_of_ble_eq_true rfl) (fun p e s m below meth c C0 hH ls hl => ?_)
  have hS : va_S (AZ Y) s.heap s.heap [] := va_S.rf
  obtain ⟨hx, hb, hr, hml, hown, hA, hlocks, hK, hZ⟩ := id C0
  unfold f_X8_takenBackTotal at hf
  refine lv_aload_n hx hb dX8_takenBackTotal_0 rfl (lv_at hl 0 rfl) ?_
  refine lv_bipush (v := (6 : Int32)) hx hb dX8_takenBackTotal_1 (by decide) ?_
  obtain ⟨r6, M5, hq4, hf⟩ := bd2_o hf
  refine hs_ci (hs_runV C0 hH hS (n := 1) (As := [.int (6 : Int32)]) (rest := []) (c_X8_total M (6 : Int32) hq4) ⟨⟨zt_1792, zt_1794, zs_59, zt_13, zt_1795⟩, rfl, by decide, by decide, by decide +kernel⟩ ⟨rfl, rfl, Nat.le_of_ble_eq_true rfl, Nat.le_of_ble_eq_true rfl⟩ (hs_recv hK hH 20 0 (by decide) 12 rfl rfl) rfl rfl hl.1 (Nat.le_of_ble_eq_true rfl) ⟨Nat.le_of_ble_eq_true rfl, Nat.le_of_ble_eq_true rfl⟩ dX8_takenBackTotal_3) hS (fun H locs hH hS => ?_)
  cases hf
  exact hs_iret C0 hH hS (by decide) (by decide) dX8_takenBackTotal_6
def f_X8_usedStamps (M : Mem) : Option (Int32 × Mem) := bd2 (f_X8_total M (7 : Int32)) fun r6 M5 => some (r6, M5)
set_option maxHeartbeats 4000000 in
set_option maxRecDepth 100000 in
theorem c_X8_usedStamps {Y : LY} {l : Launch} (M : Mem) {r : Int32} {MZ : Mem} (hf : f_X8_usedStamps M = some (r, MZ)) : Met l yX8_usedStamps (WS yX8_usedStamps cX8_usedStamps 1 (Option.some Jvm.ClassFile.FieldType.int)) { frames := 1, cells := 0, slots := 0, locals := 21 } (PcM Y M [.ref (YA Y 20 0)]) (Qi Y r MZ) 0 0 (AZ Y) := by
  refine met_mk (lv := [(0, .ref (YA Y 20 0))]) [.ref (YA Y 20 0)] (by decide) rfl rfl (Nat.le_of_ble_eq_true rfl) (fun p e s m below meth c C0 hH ls hl => ?_)
  have hS : va_S (AZ Y) s.heap s.heap [] := va_S.rf
  obtain ⟨hx, hb, hr, hml, hown, hA, hlocks, hK, hZ⟩ := id C0
  unfold f_X8_usedStamps at hf
  refine lv_aload_n hx hb dX8_usedStamps_0 rfl (lv_at hl 0 rfl) ?_
  refine lv_bipush (v := (7 : Int32)) hx hb dX8_usedStamps_1 (by decide) ?_
  obtain ⟨r6, M5, hq4, hf⟩ := bd2_o hf
  refine hs_ci (hs_runV C0 hH hS (n := 1) (As := [.int (7 : Int32)]) (rest := []) (c_X8_total M (7 : Int32) hq4) ⟨⟨zt_1792, zt_1794, zs_59, zt_13, zt_1795⟩, rfl, by decide, by decide, by decide +kernel⟩ ⟨rfl, rfl, Nat.le_of_ble_eq_true rfl, Nat.le_of_ble_eq_true rfl⟩ (hs_recv hK hH 20 0 (by decide) 12 rfl rfl) rfl rfl hl.1 (Nat.le_of_ble_eq_true rfl) ⟨Nat.le_of_ble_eq_true rfl, Nat.le_of_ble_eq_true rfl⟩ dX8_usedStamps_3) hS (fun H locs hH hS => ?_)
  cases hf
  exact hs_iret C0 hH hS (by decide) (by decide) dX8_usedStamps_6
def f_X8_meanStamps_26 : Nat → Mem → Int32 → Int32 → Option (UInt64 × Mem)
  | 0, _, _, _ => none
  | n + 1, M, a1, a2 => (if (M 21 0 2) ≤ a2 then if nn64 (FP.ddiv (FP.i2d a1) (FP.i2d (M 21 0 2))) then (some ((FP.ddiv (FP.i2d a1) (FP.i2d (M 21 0 2))), M)) else none else bd (f_X8_parcelAt M a2) fun r13 => if vin (r13 + (3 : Int32)) 192 then (f_X8_meanStamps_26 n M (a1 + (M 21 0 (ix (r13 + (3 : Int32))))) (a2 + (1 : Int32))) else none)
set_option maxHeartbeats 4000000 in
set_option maxRecDepth 100000 in
theorem w_X8_meanStamps_26 {Y : LY} {p : Program} {l : Launch} {e : Env} {s : State} {m : MethodId} {args : Array Value} {below : List Frame} {meth : Method} {c : Code} (C0 : BE Y p s m args meth c cX8_meanStamps 3 (Option.some Jvm.ClassFile.FieldType.double) RX8) {r : UInt64} {MZ : Mem} : ∀ (n : Nat) (M : Mem) (a1 : Int32) (a2 : Int32), f_X8_meanStamps_26 n M a1 a2 = some (r, MZ) → ∀ (H : Heap) (locs : List Loc) (ls : Array Slot), HS Y M H → va_S (AZ Y) s.heap H locs → lv_has ls 3 [(0, .ref (YA Y 20 0)), (1, .int a1), (2, .int a2)] → W p l e { frames := 1, cells := 0, slots := 0, locals := 21 } s m args below meth c H locs 0 0 (MQ below (Qd Y r MZ) args s 0 0 (AZ Y)) (F0 m 26 ls []) := by
  obtain ⟨hx, hb, hr, hml, hown, hA, hlocks, hK, hZ⟩ := id C0
  intro n
  induction n with
  | zero =>
    intro M a1 a2 hf
    cases hf
  | succ n ih =>
    intro M a1 a2 hf H locs ls hH hS hl
    rw [f_X8_meanStamps_26] at hf
    refine lv_iload_n hx hb dX8_meanStamps_26 rfl (lv_at hl 2 rfl) ?_
    refine lv_aload_n hx hb dX8_meanStamps_27 rfl (lv_at hl 0 rfl) ?_
    refine hs_get hx hb (T := TX8) hA inAX8 hown hK hH 20 0 (by decide) 12 rfl rfl 0 (by decide) (hA _ zt_1551) rfl rfl dX8_meanStamps_28 ?_
    refine lv_iconst (v := (2 : Int32)) hx hb dX8_meanStamps_31 (by decide) ?_
    refine hs_iald hx hb hK hH 21 0 (by decide) rfl (show vin (2 : Int32) 192 from by decide) (show ix (2 : Int32) = 2 from by decide) dX8_meanStamps_32 ?_
    refine lv_icmp_ge (tgt := 56) hx hb dX8_meanStamps_33 (by decide) (fun hc15 => ?_) (fun hc15 => ?_)
    · have hf := if_t hf hc15
      refine lv_iload_n hx hb dX8_meanStamps_56 rfl (lv_at hl 1 rfl) ?_
      refine lv_i2d hx hb dX8_meanStamps_57 ?_
      refine lv_aload_n hx hb dX8_meanStamps_58 rfl (lv_at hl 0 rfl) ?_
      refine hs_get hx hb (T := TX8) hA inAX8 hown hK hH 20 0 (by decide) 12 rfl rfl 0 (by decide) (hA _ zt_1551) rfl rfl dX8_meanStamps_59 ?_
      refine lv_iconst (v := (2 : Int32)) hx hb dX8_meanStamps_62 (by decide) ?_
      refine hs_iald hx hb hK hH 21 0 (by decide) rfl (show vin (2 : Int32) 192 from by decide) (show ix (2 : Int32) = 2 from by decide) dX8_meanStamps_63 ?_
      refine lv_i2d hx hb dX8_meanStamps_64 ?_
      obtain ⟨hg11, hf⟩ := gd_o hf
      refine lv_ddiv hx hb dX8_meanStamps_65 hg11 ?_
      cases hf
      exact hs_dret C0 hH hS (by decide) (by decide) dX8_meanStamps_66
    · have hf := if_f hf hc15
      refine lv_iload_n hx hb dX8_meanStamps_36 rfl (lv_at hl 1 rfl) ?_
      refine lv_aload_n hx hb dX8_meanStamps_37 rfl (lv_at hl 0 rfl) ?_
      refine hs_get hx hb (T := TX8) hA inAX8 hown hK hH 20 0 (by decide) 12 rfl rfl 0 (by decide) (hA _ zt_1551) rfl rfl dX8_meanStamps_38 ?_
      refine lv_iload_n hx hb dX8_meanStamps_41 rfl (lv_at hl 2 rfl) ?_
      obtain ⟨r13, hq12, hf⟩ := bd_o hf
      refine hs_ci (hs_runS C0 hH hS (n := 1) (As := [.int a2]) (rest := [.ref (YA Y 21 0), .int a1]) (c_X8_parcelAt M a2 hq12) ⟨⟨zt_1694, zt_1695, zt_13, zt_1696⟩, by decide, by decide, by decide +kernel⟩ ⟨rfl, rfl, Nat.le_of_ble_eq_true rfl, Nat.le_of_ble_eq_true rfl⟩ rfl rfl hl.1 (Nat.le_of_ble_eq_true rfl) ⟨Nat.le_of_ble_eq_true rfl, Nat.le_of_ble_eq_true rfl⟩ dX8_meanStamps_42) hS (fun H locs hH hS => ?_)
      refine lv_iconst (v := (3 : Int32)) hx hb dX8_meanStamps_45 (by decide) ?_
      refine lv_iadd hx hb dX8_meanStamps_46 ?_
      obtain ⟨hg14, hf⟩ := gd_o hf
      have bhg14 := vin_lt hg14
      refine hs_iald hx hb hK hH 21 0 (by decide) rfl hg14 rfl dX8_meanStamps_47 ?_
      refine lv_iadd hx hb dX8_meanStamps_48 ?_
      refine lv_istore_n (lv' := [(1, .int (a1 + (M 21 0 (ix (r13 + (3 : Int32)))))), (0, .ref (YA Y 20 0)), (2, .int a2)]) hx hb dX8_meanStamps_49 rfl hl (by decide) rfl (fun ls hl => ?_)
      refine lv_iinc (v := a2 + (1 : Int32)) (lv' := [(2, .int (a2 + (1 : Int32))), (1, .int (a1 + (M 21 0 (ix (r13 + (3 : Int32)))))), (0, .ref (YA Y 20 0))]) hx hb dX8_meanStamps_50 hl (k := 2) rfl rfl (by decide) rfl (fun ls hl => ?_)
      refine lv_goto (tgt := 26) hx hb dX8_meanStamps_53 (by decide) ?_
      exact ih M (a1 + (M 21 0 (ix (r13 + (3 : Int32))))) (a2 + (1 : Int32)) hf _ _ _ hH hS (lv_sub hl [2, 1, 0] rfl)
def f_X8_meanStamps (M : Mem) : Option (UInt64 × Mem) := nm (mu M 20 0 9 (0 : Int32)) fun M16 => (if (M16 21 0 2) = 0 then bd2 (f_X8_throwing M16 (1 : Int32)) fun r19 M18 => some (FP.dconst0, M18) else f_X8_meanStamps_26 FU M16 (0 : Int32) (0 : Int32))
set_option maxHeartbeats 4000000 in
set_option maxRecDepth 100000 in
theorem c_X8_meanStamps {Y : LY} {l : Launch} (M : Mem) {r : UInt64} {MZ : Mem} (hf : f_X8_meanStamps M = some (r, MZ)) : Met l yX8_meanStamps (WS yX8_meanStamps cX8_meanStamps 3 (Option.some Jvm.ClassFile.FieldType.double)) { frames := 1, cells := 0, slots := 0, locals := 21 } (PcM Y M [.ref (YA Y 20 0)]) (Qd Y r MZ) 0 0 (AZ Y) := by
  refine met_mk (lv := [(0, .ref (YA Y 20 0))]) [.ref (YA Y 20 0)] (by decide) rfl rfl (Nat.le_of_ble_eq_true rfl) (fun p e s m below meth c C0 hH ls hl => ?_)
  have hS : va_S (AZ Y) s.heap s.heap [] := va_S.rf
  obtain ⟨hx, hb, hr, hml, hown, hA, hlocks, hK, hZ⟩ := id C0
  unfold f_X8_meanStamps at hf
  refine lv_aload_n hx hb dX8_meanStamps_0 rfl (lv_at hl 0 rfl) ?_
  refine lv_iconst (v := (0 : Int32)) hx hb dX8_meanStamps_1 (by decide) ?_
  refine hs_put hx hb (T := TX8) hA inAX8 tyX8 tyX8_ok nmX8 hown hK hH hS 20 0 (by decide) 12 rfl rfl 9 (by decide) (hA _ zt_1560) rfl rfl (by decide +kernel) (Nat.le_of_ble_eq_true rfl) rfl dX8_meanStamps_2 (fun H locs hH hS => ?_)
  obtain ⟨M16, eM16, hf⟩ := nm_o hf
  rw [← eM16] at hH
  refine lv_aload_n hx hb dX8_meanStamps_5 rfl (lv_at hl 0 rfl) ?_
  refine hs_get hx hb (T := TX8) hA inAX8 hown hK hH 20 0 (by decide) 12 rfl rfl 0 (by decide) (hA _ zt_1551) rfl rfl dX8_meanStamps_6 ?_
  refine lv_iconst (v := (2 : Int32)) hx hb dX8_meanStamps_9 (by decide) ?_
  refine hs_iald hx hb hK hH 21 0 (by decide) rfl (show vin (2 : Int32) 192 from by decide) (show ix (2 : Int32) = 2 from by decide) dX8_meanStamps_10 ?_
  refine lv_if_ne (tgt := 22) hx hb dX8_meanStamps_11 (by decide) (fun hc20 => ?_) (fun hc20 => ?_)
  · have hf := if_f hf hc20
    refine lv_iconst (v := (0 : Int32)) hx hb dX8_meanStamps_22 (by decide) ?_
    refine lv_istore_n (lv' := [(1, .int (0 : Int32)), (0, .ref (YA Y 20 0))]) hx hb dX8_meanStamps_23 rfl hl (by decide) rfl (fun ls hl => ?_)
    refine lv_iconst (v := (0 : Int32)) hx hb dX8_meanStamps_24 (by decide) ?_
    refine lv_istore_n (lv' := [(2, .int (0 : Int32)), (1, .int (0 : Int32)), (0, .ref (YA Y 20 0))]) hx hb dX8_meanStamps_25 rfl hl (by decide) rfl (fun ls hl => ?_)
    exact w_X8_meanStamps_26 C0 FU M16 (0 : Int32) (0 : Int32) hf _ _ _ hH hS (lv_sub hl [2, 1, 0] rfl)
  · have hf := if_t hf hc20
    refine lv_aload_n hx hb dX8_meanStamps_14 rfl (lv_at hl 0 rfl) ?_
    refine lv_iconst (v := (1 : Int32)) hx hb dX8_meanStamps_15 (by decide) ?_
    obtain ⟨r19, M18, hq17, hf⟩ := bd2_o hf
    refine hs_ci (hs_runV C0 hH hS (n := 1) (As := [.int (1 : Int32)]) (rest := []) (c_X8_throwing M16 (1 : Int32) hq17) ⟨⟨zt_1637, zt_1639, zs_34, zt_13, zt_1640⟩, rfl, by decide, by decide, by decide +kernel⟩ ⟨rfl, rfl, Nat.le_of_ble_eq_true rfl, Nat.le_of_ble_eq_true rfl⟩ (hs_recv hK hH 20 0 (by decide) 12 rfl rfl) rfl rfl hl.1 (Nat.le_of_ble_eq_true rfl) ⟨Nat.le_of_ble_eq_true rfl, Nat.le_of_ble_eq_true rfl⟩ dX8_meanStamps_16) hS (fun H locs hH hS => ?_)
    refine lv_pop hx hb dX8_meanStamps_19 rfl ?_
    refine lv_dconst0 hx hb dX8_meanStamps_20 ?_
    cases hf
    exact hs_dret C0 hH hS (by decide) (by decide) dX8_meanStamps_21
def f_X8_blockedShare (M : Mem) : Option (UInt32 × Mem) := nm (mu M 20 0 9 (0 : Int32)) fun M9 => (if (M9 21 0 1) = 0 then bd2 (f_X8_throwing M9 (1 : Int32)) fun r15 M14 => some (FP.fconst0, M14) else bd (f_X8_blocked M9) fun r11 => if nn32 (FP.fdiv (FP.i2f r11) (FP.i2f (M9 21 0 1))) then (some ((FP.fdiv (FP.i2f r11) (FP.i2f (M9 21 0 1))), M9)) else none)
set_option maxHeartbeats 4000000 in
set_option maxRecDepth 100000 in
theorem c_X8_blockedShare {Y : LY} {l : Launch} (M : Mem) {r : UInt32} {MZ : Mem} (hf : f_X8_blockedShare M = some (r, MZ)) : Met l yX8_blockedShare (WS yX8_blockedShare cX8_blockedShare 1 (Option.some Jvm.ClassFile.FieldType.float)) { frames := 2, cells := 0, slots := 0, locals := 42 } (PcM Y M [.ref (YA Y 20 0)]) (Qf Y r MZ) 0 0 (AZ Y) := by
  refine met_mk (lv := [(0, .ref (YA Y 20 0))]) [.ref (YA Y 20 0)] (by decide) rfl rfl (Nat.le_of_ble_eq_true rfl) (fun p e s m below meth c C0 hH ls hl => ?_)
  have hS : va_S (AZ Y) s.heap s.heap [] := va_S.rf
  obtain ⟨hx, hb, hr, hml, hown, hA, hlocks, hK, hZ⟩ := id C0
  unfold f_X8_blockedShare at hf
  refine lv_aload_n hx hb dX8_blockedShare_0 rfl (lv_at hl 0 rfl) ?_
  refine lv_iconst (v := (0 : Int32)) hx hb dX8_blockedShare_1 (by decide) ?_
  refine hs_put hx hb (T := TX8) hA inAX8 tyX8 tyX8_ok nmX8 hown hK hH hS 20 0 (by decide) 12 rfl rfl 9 (by decide) (hA _ zt_1560) rfl rfl (by decide +kernel) (Nat.le_of_ble_eq_true rfl) rfl dX8_blockedShare_2 (fun H locs hH hS => ?_)
  obtain ⟨M9, eM9, hf⟩ := nm_o hf
  rw [← eM9] at hH
  refine lv_aload_n hx hb dX8_blockedShare_5 rfl (lv_at hl 0 rfl) ?_
  refine hs_get hx hb (T := TX8) hA inAX8 hown hK hH 20 0 (by decide) 12 rfl rfl 0 (by decide) (hA _ zt_1551) rfl rfl dX8_blockedShare_6 ?_
  refine lv_iconst (v := (1 : Int32)) hx hb dX8_blockedShare_9 (by decide) ?_
  refine hs_iald hx hb hK hH 21 0 (by decide) rfl (show vin (1 : Int32) 192 from by decide) (show ix (1 : Int32) = 1 from by decide) dX8_blockedShare_10 ?_
  refine lv_if_ne (tgt := 22) hx hb dX8_blockedShare_11 (by decide) (fun hc16 => ?_) (fun hc16 => ?_)
  · have hf := if_f hf hc16
    refine lv_aload_n hx hb dX8_blockedShare_22 rfl (lv_at hl 0 rfl) ?_
    obtain ⟨r11, hq10, hf⟩ := bd_o hf
    refine hs_ci (hs_runV C0 hH hS (n := 0) (As := []) (rest := []) (c_X8_blocked M9 hq10) ⟨⟨zt_1677, zt_1679, zs_40, zt_13, zt_1680⟩, rfl, by decide, by decide, by decide +kernel⟩ ⟨rfl, rfl, Nat.le_of_ble_eq_true rfl, Nat.le_of_ble_eq_true rfl⟩ (hs_recv hK hH 20 0 (by decide) 12 rfl rfl) rfl rfl hl.1 (Nat.le_of_ble_eq_true rfl) ⟨Nat.le_of_ble_eq_true rfl, Nat.le_of_ble_eq_true rfl⟩ dX8_blockedShare_23) hS (fun H locs hH hS => ?_)
    refine lv_i2f hx hb dX8_blockedShare_26 ?_
    refine lv_aload_n hx hb dX8_blockedShare_27 rfl (lv_at hl 0 rfl) ?_
    refine hs_get hx hb (T := TX8) hA inAX8 hown hK hH 20 0 (by decide) 12 rfl rfl 0 (by decide) (hA _ zt_1551) rfl rfl dX8_blockedShare_28 ?_
    refine lv_iconst (v := (1 : Int32)) hx hb dX8_blockedShare_31 (by decide) ?_
    refine hs_iald hx hb hK hH 21 0 (by decide) rfl (show vin (1 : Int32) 192 from by decide) (show ix (1 : Int32) = 1 from by decide) dX8_blockedShare_32 ?_
    refine lv_i2f hx hb dX8_blockedShare_33 ?_
    obtain ⟨hg12, hf⟩ := gd_o hf
    refine lv_fdiv hx hb dX8_blockedShare_34 hg12 ?_
    cases hf
    exact hs_fret C0 hH hS (by decide) (by decide) dX8_blockedShare_35
  · have hf := if_t hf hc16
    refine lv_aload_n hx hb dX8_blockedShare_14 rfl (lv_at hl 0 rfl) ?_
    refine lv_iconst (v := (1 : Int32)) hx hb dX8_blockedShare_15 (by decide) ?_
    obtain ⟨r15, M14, hq13, hf⟩ := bd2_o hf
    refine hs_ci (hs_runV C0 hH hS (n := 1) (As := [.int (1 : Int32)]) (rest := []) (c_X8_throwing M9 (1 : Int32) hq13) ⟨⟨zt_1637, zt_1639, zs_34, zt_13, zt_1640⟩, rfl, by decide, by decide, by decide +kernel⟩ ⟨rfl, rfl, Nat.le_of_ble_eq_true rfl, Nat.le_of_ble_eq_true rfl⟩ (hs_recv hK hH 20 0 (by decide) 12 rfl rfl) rfl rfl hl.1 (Nat.le_of_ble_eq_true rfl) ⟨Nat.le_of_ble_eq_true rfl, Nat.le_of_ble_eq_true rfl⟩ dX8_blockedShare_16) hS (fun H locs hH hS => ?_)
    refine lv_pop hx hb dX8_blockedShare_19 rfl ?_
    refine lv_fconst0 hx hb dX8_blockedShare_20 ?_
    cases hf
    exact hs_fret C0 hH hS (by decide) (by decide) dX8_blockedShare_21
def f_X8_isConsistent (M : Mem) : Option (Int32 × Mem) := nm (mu M 20 0 9 (0 : Int32)) fun M2 => some ((1 : Int32), M2)
set_option maxHeartbeats 4000000 in
set_option maxRecDepth 100000 in
theorem c_X8_isConsistent {Y : LY} {l : Launch} (M : Mem) {r : Int32} {MZ : Mem} (hf : f_X8_isConsistent M = some (r, MZ)) : Met l yX8_isConsistent (WS yX8_isConsistent cX8_isConsistent 1 (Option.some Jvm.ClassFile.FieldType.boolean)) { frames := 0, cells := 0, slots := 0, locals := 0 } (PcM Y M [.ref (YA Y 20 0)]) (Qi Y r MZ) 0 0 (AZ Y) := by
  refine met_mk (lv := [(0, .ref (YA Y 20 0))]) [.ref (YA Y 20 0)] (by decide) rfl rfl (Nat.le_of_ble_eq_true rfl) (fun p e s m below meth c C0 hH ls hl => ?_)
  have hS : va_S (AZ Y) s.heap s.heap [] := va_S.rf
  obtain ⟨hx, hb, hr, hml, hown, hA, hlocks, hK, hZ⟩ := id C0
  unfold f_X8_isConsistent at hf
  refine lv_aload_n hx hb dX8_isConsistent_0 rfl (lv_at hl 0 rfl) ?_
  refine lv_iconst (v := (0 : Int32)) hx hb dX8_isConsistent_1 (by decide) ?_
  refine hs_put hx hb (T := TX8) hA inAX8 tyX8 tyX8_ok nmX8 hown hK hH hS 20 0 (by decide) 12 rfl rfl 9 (by decide) (hA _ zt_1560) rfl rfl (by decide +kernel) (Nat.le_of_ble_eq_true rfl) rfl dX8_isConsistent_2 (fun H locs hH hS => ?_)
  obtain ⟨M2, eM2, hf⟩ := nm_o hf
  rw [← eM2] at hH
  refine lv_iconst (v := (1 : Int32)) hx hb dX8_isConsistent_5 (by decide) ?_
  cases hf
  exact hs_zret C0 hH hS (by decide) (by decide) (by decide) dX8_isConsistent_6
def f_X8_sign (M : Mem) (a1 : Int32) : Option Mem := if vin (M 20 0 15) 60 then (nm (mu M 29 0 (ix (M 20 0 15)) a1) fun M5 => nm (mu M5 20 0 15 ((M5 20 0 15) + (1 : Int32))) fun M6 => some M6) else none
set_option maxHeartbeats 4000000 in
set_option maxRecDepth 100000 in
theorem c_X8_sign {Y : LY} {l : Launch} (M : Mem) (a1 : Int32) {MZ : Mem} (hf : f_X8_sign M a1 = some MZ) : Met l yX8_sign (WS yX8_sign cX8_sign 2 (Option.none : Option Jvm.ClassFile.FieldType)) { frames := 0, cells := 0, slots := 0, locals := 0 } (PcM Y M [.ref (YA Y 20 0), .int a1]) (Qv Y MZ) 0 0 (AZ Y) := by
  refine met_mk (lv := [(0, .ref (YA Y 20 0)), (1, .int a1)]) [.ref (YA Y 20 0), .int a1] (by decide) rfl rfl (Nat.le_of_ble_eq_true rfl) (fun p e s m below meth c C0 hH ls hl => ?_)
  have hS : va_S (AZ Y) s.heap s.heap [] := va_S.rf
  obtain ⟨hx, hb, hr, hml, hown, hA, hlocks, hK, hZ⟩ := id C0
  unfold f_X8_sign at hf
  refine lv_aload_n hx hb dX8_sign_0 rfl (lv_at hl 0 rfl) ?_
  refine hs_get hx hb (T := TX8) hA inAX8 hown hK hH 20 0 (by decide) 12 rfl rfl 14 (by decide) (hA _ zt_1565) rfl rfl dX8_sign_1 ?_
  refine lv_aload_n hx hb dX8_sign_4 rfl (lv_at hl 0 rfl) ?_
  refine hs_get hx hb (T := TX8) hA inAX8 hown hK hH 20 0 (by decide) 12 rfl rfl 15 (by decide) (hA _ zt_1566) rfl rfl dX8_sign_5 ?_
  refine lv_iload_n hx hb dX8_sign_8 rfl (lv_at hl 1 rfl) ?_
  obtain ⟨hg4, hf⟩ := gd_o hf
  have bhg4 := vin_lt hg4
  refine hs_iast hx hb hK hH hS 29 0 (by decide) (fun _ => rfl) hg4 rfl dX8_sign_9 (fun H locs hH hS => ?_)
  obtain ⟨M5, eM5, hf⟩ := nm_o hf
  rw [← eM5] at hH
  refine lv_aload_n hx hb dX8_sign_10 rfl (lv_at hl 0 rfl) ?_
  refine lv_dup hx hb dX8_sign_11 rfl ?_
  refine hs_get hx hb (T := TX8) hA inAX8 hown hK hH 20 0 (by decide) 12 rfl rfl 15 (by decide) (hA _ zt_1566) rfl rfl dX8_sign_12 ?_
  refine lv_iconst (v := (1 : Int32)) hx hb dX8_sign_15 (by decide) ?_
  refine lv_iadd hx hb dX8_sign_16 ?_
  refine hs_put hx hb (T := TX8) hA inAX8 tyX8 tyX8_ok nmX8 hown hK hH hS 20 0 (by decide) 12 rfl rfl 15 (by decide) (hA _ zt_1566) rfl rfl (by decide +kernel) (Nat.le_of_ble_eq_true rfl) rfl dX8_sign_17 (fun H locs hH hS => ?_)
  obtain ⟨M6, eM6, hf⟩ := nm_o hf
  rw [← eM6] at hH
  cases hf
  exact hs_vret C0 hH hS (by decide) (by decide) dX8_sign_20
def f_X8_writesNumber_18 : Nat → Mem → Int32 → Int32 → Option Mem
  | 0, _, _, _ => none
  | n + 1, M, a1, a2 => (if a2 ≤ 0 then some M else if ¬ a2 = 0 then bd (f_X8_sign M ((48 : Int32) + ((a1 / a2) - (a1 / a2) / (10 : Int32) * (10 : Int32)))) fun M10 => f_X8_writesNumber_18 n M10 a1 (a2 / (10 : Int32)) else none)
set_option maxHeartbeats 4000000 in
set_option maxRecDepth 100000 in
theorem w_X8_writesNumber_18 {Y : LY} {p : Program} {l : Launch} {e : Env} {s : State} {m : MethodId} {args : Array Value} {below : List Frame} {meth : Method} {c : Code} (C0 : BE Y p s m args meth c cX8_writesNumber 3 (Option.none : Option Jvm.ClassFile.FieldType) RX8) {MZ : Mem} : ∀ (n : Nat) (M : Mem) (a1 : Int32) (a2 : Int32), f_X8_writesNumber_18 n M a1 a2 = some MZ → ∀ (H : Heap) (locs : List Loc) (ls : Array Slot), HS Y M H → va_S (AZ Y) s.heap H locs → lv_has ls 3 [(0, .ref (YA Y 20 0)), (1, .int a1), (2, .int a2)] → W p l e { frames := 1, cells := 0, slots := 0, locals := 21 } s m args below meth c H locs 0 0 (MQ below (Qv Y MZ) args s 0 0 (AZ Y)) (F0 m 18 ls []) := by
  obtain ⟨hx, hb, hr, hml, hown, hA, hlocks, hK, hZ⟩ := id C0
  intro n
  induction n with
  | zero =>
    intro M a1 a2 hf
    cases hf
  | succ n ih =>
    intro M a1 a2 hf H locs ls hH hS hl
    rw [f_X8_writesNumber_18] at hf
    refine lv_iload_n hx hb dX8_writesNumber_18 rfl (lv_at hl 2 rfl) ?_
    refine lv_if_le (tgt := 43) hx hb dX8_writesNumber_19 (by decide) (fun hc12 => ?_) (fun hc12 => ?_)
    · have hf := if_t hf hc12
      cases hf
      exact hs_vret C0 hH hS (by decide) (by decide) dX8_writesNumber_43
    · have hf := if_f hf hc12
      refine lv_aload_n hx hb dX8_writesNumber_22 rfl (lv_at hl 0 rfl) ?_
      refine lv_bipush (v := (48 : Int32)) hx hb dX8_writesNumber_23 (by decide) ?_
      refine lv_iload_n hx hb dX8_writesNumber_25 rfl (lv_at hl 1 rfl) ?_
      refine lv_iload_n hx hb dX8_writesNumber_26 rfl (lv_at hl 2 rfl) ?_
      obtain ⟨hg8, hf⟩ := gd_o hf
      refine lv_idiv hx hb dX8_writesNumber_27 hg8 ?_
      refine lv_bipush (v := (10 : Int32)) hx hb dX8_writesNumber_28 (by decide) ?_
      refine lv_irem hx hb dX8_writesNumber_30 (by decide) ?_
      refine lv_iadd hx hb dX8_writesNumber_31 ?_
      obtain ⟨M10, hq9, hf⟩ := bd_o hf
      refine hs_cv (hs_runV C0 hH hS (n := 1) (As := [.int ((48 : Int32) + ((a1 / a2) - (a1 / a2) / (10 : Int32) * (10 : Int32)))]) (rest := []) (c_X8_sign M ((48 : Int32) + ((a1 / a2) - (a1 / a2) / (10 : Int32) * (10 : Int32))) hq9) ⟨⟨zt_1972, zt_1974, zs_64, zt_13, zt_1975⟩, rfl, by decide, by decide, by decide +kernel⟩ ⟨rfl, rfl, Nat.le_of_ble_eq_true rfl, Nat.le_of_ble_eq_true rfl⟩ (hs_recv hK hH 20 0 (by decide) 12 rfl rfl) rfl rfl hl.1 (Nat.le_of_ble_eq_true rfl) ⟨Nat.le_of_ble_eq_true rfl, Nat.le_of_ble_eq_true rfl⟩ dX8_writesNumber_32) hS (fun H locs hH hS => ?_)
      refine lv_iload_n hx hb dX8_writesNumber_35 rfl (lv_at hl 2 rfl) ?_
      refine lv_bipush (v := (10 : Int32)) hx hb dX8_writesNumber_36 (by decide) ?_
      refine lv_idiv hx hb dX8_writesNumber_38 (by decide) ?_
      refine lv_istore_n (lv' := [(2, .int (a2 / (10 : Int32))), (0, .ref (YA Y 20 0)), (1, .int a1)]) hx hb dX8_writesNumber_39 rfl hl (by decide) rfl (fun ls hl => ?_)
      refine lv_goto (tgt := 18) hx hb dX8_writesNumber_40 (by decide) ?_
      exact ih M10 a1 (a2 / (10 : Int32)) hf _ _ _ hH hS (lv_sub hl [1, 2, 0] rfl)
def f_X8_writesNumber_2 : Nat → Mem → Int32 → Int32 → Option Mem
  | 0, _, _, _ => none
  | n + 1, M, a1, a2 => if ¬ a2 = 0 then (if (a1 / a2) ≤ (9 : Int32) then f_X8_writesNumber_18 FU M a1 a2 else f_X8_writesNumber_2 n M a1 (a2 * (10 : Int32))) else none
set_option maxHeartbeats 4000000 in
set_option maxRecDepth 100000 in
theorem w_X8_writesNumber_2 {Y : LY} {p : Program} {l : Launch} {e : Env} {s : State} {m : MethodId} {args : Array Value} {below : List Frame} {meth : Method} {c : Code} (C0 : BE Y p s m args meth c cX8_writesNumber 3 (Option.none : Option Jvm.ClassFile.FieldType) RX8) {MZ : Mem} : ∀ (n : Nat) (M : Mem) (a1 : Int32) (a2 : Int32), f_X8_writesNumber_2 n M a1 a2 = some MZ → ∀ (H : Heap) (locs : List Loc) (ls : Array Slot), HS Y M H → va_S (AZ Y) s.heap H locs → lv_has ls 3 [(0, .ref (YA Y 20 0)), (1, .int a1), (2, .int a2)] → W p l e { frames := 1, cells := 0, slots := 0, locals := 21 } s m args below meth c H locs 0 0 (MQ below (Qv Y MZ) args s 0 0 (AZ Y)) (F0 m 2 ls []) := by
  obtain ⟨hx, hb, hr, hml, hown, hA, hlocks, hK, hZ⟩ := id C0
  intro n
  induction n with
  | zero =>
    intro M a1 a2 hf
    cases hf
  | succ n ih =>
    intro M a1 a2 hf H locs ls hH hS hl
    rw [f_X8_writesNumber_2] at hf
    refine lv_iload_n hx hb dX8_writesNumber_2 rfl (lv_at hl 1 rfl) ?_
    refine lv_iload_n hx hb dX8_writesNumber_3 rfl (lv_at hl 2 rfl) ?_
    obtain ⟨hg13, hf⟩ := gd_o hf
    refine lv_idiv hx hb dX8_writesNumber_4 hg13 ?_
    refine lv_bipush (v := (9 : Int32)) hx hb dX8_writesNumber_5 (by decide) ?_
    refine lv_icmp_le (tgt := 18) hx hb dX8_writesNumber_7 (by decide) (fun hc14 => ?_) (fun hc14 => ?_)
    · have hf := if_t hf hc14
      exact w_X8_writesNumber_18 C0 FU M a1 a2 hf _ _ _ hH hS (lv_sub hl [0, 1, 2] rfl)
    · have hf := if_f hf hc14
      refine lv_iload_n hx hb dX8_writesNumber_10 rfl (lv_at hl 2 rfl) ?_
      refine lv_bipush (v := (10 : Int32)) hx hb dX8_writesNumber_11 (by decide) ?_
      refine lv_imul hx hb dX8_writesNumber_13 ?_
      refine lv_istore_n (lv' := [(2, .int (a2 * (10 : Int32))), (0, .ref (YA Y 20 0)), (1, .int a1)]) hx hb dX8_writesNumber_14 rfl hl (by decide) rfl (fun ls hl => ?_)
      refine lv_goto (tgt := 2) hx hb dX8_writesNumber_15 (by decide) ?_
      exact ih M a1 (a2 * (10 : Int32)) hf _ _ _ hH hS (lv_sub hl [1, 2, 0] rfl)
def f_X8_writesNumber (M : Mem) (a1 : Int32) : Option Mem := f_X8_writesNumber_2 FU M a1 (1 : Int32)
set_option maxHeartbeats 4000000 in
set_option maxRecDepth 100000 in
theorem c_X8_writesNumber {Y : LY} {l : Launch} (M : Mem) (a1 : Int32) {MZ : Mem} (hf : f_X8_writesNumber M a1 = some MZ) : Met l yX8_writesNumber (WS yX8_writesNumber cX8_writesNumber 3 (Option.none : Option Jvm.ClassFile.FieldType)) { frames := 1, cells := 0, slots := 0, locals := 21 } (PcM Y M [.ref (YA Y 20 0), .int a1]) (Qv Y MZ) 0 0 (AZ Y) := by
  refine met_mk (lv := [(0, .ref (YA Y 20 0)), (1, .int a1)]) [.ref (YA Y 20 0), .int a1] (by decide) rfl rfl (Nat.le_of_ble_eq_true rfl) (fun p e s m below meth c C0 hH ls hl => ?_)
  have hS : va_S (AZ Y) s.heap s.heap [] := va_S.rf
  obtain ⟨hx, hb, hr, hml, hown, hA, hlocks, hK, hZ⟩ := id C0
  unfold f_X8_writesNumber at hf
  refine lv_iconst (v := (1 : Int32)) hx hb dX8_writesNumber_0 (by decide) ?_
  refine lv_istore_n (lv' := [(2, .int (1 : Int32)), (0, .ref (YA Y 20 0)), (1, .int a1)]) hx hb dX8_writesNumber_1 rfl hl (by decide) rfl (fun ls hl => ?_)
  exact w_X8_writesNumber_2 C0 FU M a1 (1 : Int32) hf _ _ _ hH hS (lv_sub hl [1, 2, 0] rfl)
def f_X8_formatParcel_157 (M : Mem) (a2 : Int32) : Option (Int32 × Mem) := bd (f_X8_sign M (32 : Int32)) fun M69 => bd (f_X8_sign M69 (62 : Int32)) fun M72 => if vin (a2 + (1 : Int32)) 192 then (bd (f_X8_writesNumber M72 (M72 21 0 (ix (a2 + (1 : Int32))))) fun M76 => some ((M76 20 0 15), M76)) else none
set_option maxHeartbeats 4000000 in
set_option maxRecDepth 100000 in
theorem w_X8_formatParcel_157 {Y : LY} {p : Program} {l : Launch} {e : Env} {s : State} {m : MethodId} {args : Array Value} {below : List Frame} {meth : Method} {c : Code} (C0 : BE Y p s m args meth c cX8_formatParcel 3 (Option.some Jvm.ClassFile.FieldType.int) RX8) {r : Int32} {MZ : Mem} : ∀ (M : Mem) (a2 : Int32), f_X8_formatParcel_157 M a2 = some (r, MZ) → ∀ (H : Heap) (locs : List Loc) (ls : Array Slot), HS Y M H → va_S (AZ Y) s.heap H locs → lv_has ls 3 [(0, .ref (YA Y 20 0)), (2, .int a2)] → W p l e { frames := 2, cells := 0, slots := 0, locals := 43 } s m args below meth c H locs 0 0 (MQ below (Qi Y r MZ) args s 0 0 (AZ Y)) (F0 m 157 ls []) := by
  obtain ⟨hx, hb, hr, hml, hown, hA, hlocks, hK, hZ⟩ := id C0
  intro M a2 hf H locs ls hH hS hl
  unfold f_X8_formatParcel_157 at hf
  refine lv_aload_n hx hb dX8_formatParcel_157 rfl (lv_at hl 0 rfl) ?_
  refine lv_bipush (v := (32 : Int32)) hx hb dX8_formatParcel_158 (by decide) ?_
  obtain ⟨M69, hq68, hf⟩ := bd_o hf
  refine hs_cv (hs_runV C0 hH hS (n := 1) (As := [.int (32 : Int32)]) (rest := []) (c_X8_sign M (32 : Int32) hq68) ⟨⟨zt_1972, zt_1974, zs_64, zt_13, zt_1975⟩, rfl, by decide, by decide, by decide +kernel⟩ ⟨rfl, rfl, Nat.le_of_ble_eq_true rfl, Nat.le_of_ble_eq_true rfl⟩ (hs_recv hK hH 20 0 (by decide) 12 rfl rfl) rfl rfl hl.1 (Nat.le_of_ble_eq_true rfl) ⟨Nat.le_of_ble_eq_true rfl, Nat.le_of_ble_eq_true rfl⟩ dX8_formatParcel_160) hS (fun H locs hH hS => ?_)
  refine lv_aload_n hx hb dX8_formatParcel_163 rfl (lv_at hl 0 rfl) ?_
  refine lv_bipush (v := (62 : Int32)) hx hb dX8_formatParcel_164 (by decide) ?_
  obtain ⟨M72, hq71, hf⟩ := bd_o hf
  refine hs_cv (hs_runV C0 hH hS (n := 1) (As := [.int (62 : Int32)]) (rest := []) (c_X8_sign M69 (62 : Int32) hq71) ⟨⟨zt_1972, zt_1974, zs_64, zt_13, zt_1975⟩, rfl, by decide, by decide, by decide +kernel⟩ ⟨rfl, rfl, Nat.le_of_ble_eq_true rfl, Nat.le_of_ble_eq_true rfl⟩ (hs_recv hK hH 20 0 (by decide) 12 rfl rfl) rfl rfl hl.1 (Nat.le_of_ble_eq_true rfl) ⟨Nat.le_of_ble_eq_true rfl, Nat.le_of_ble_eq_true rfl⟩ dX8_formatParcel_166) hS (fun H locs hH hS => ?_)
  refine lv_aload_n hx hb dX8_formatParcel_169 rfl (lv_at hl 0 rfl) ?_
  refine lv_aload_n hx hb dX8_formatParcel_170 rfl (lv_at hl 0 rfl) ?_
  refine hs_get hx hb (T := TX8) hA inAX8 hown hK hH 20 0 (by decide) 12 rfl rfl 0 (by decide) (hA _ zt_1551) rfl rfl dX8_formatParcel_171 ?_
  refine lv_iload_n hx hb dX8_formatParcel_174 rfl (lv_at hl 1 rfl) ?_
  refine lv_iconst (v := (1 : Int32)) hx hb dX8_formatParcel_175 (by decide) ?_
  refine lv_iadd hx hb dX8_formatParcel_176 ?_
  obtain ⟨hg74, hf⟩ := gd_o hf
  have bhg74 := vin_lt hg74
  refine hs_iald hx hb hK hH 21 0 (by decide) rfl hg74 rfl dX8_formatParcel_177 ?_
  obtain ⟨M76, hq75, hf⟩ := bd_o hf
  refine hs_cv (hs_runV C0 hH hS (n := 1) (As := [.int (M72 21 0 (ix (a2 + (1 : Int32))))]) (rest := []) (c_X8_writesNumber M72 (M72 21 0 (ix (a2 + (1 : Int32)))) hq75) ⟨⟨zt_1976, zt_1978, zs_65, zt_13, zt_1979⟩, rfl, by decide, by decide, by decide +kernel⟩ ⟨rfl, rfl, Nat.le_of_ble_eq_true rfl, Nat.le_of_ble_eq_true rfl⟩ (hs_recv hK hH 20 0 (by decide) 12 rfl rfl) rfl rfl hl.1 (Nat.le_of_ble_eq_true rfl) ⟨Nat.le_of_ble_eq_true rfl, Nat.le_of_ble_eq_true rfl⟩ dX8_formatParcel_178) hS (fun H locs hH hS => ?_)
  refine lv_aload_n hx hb dX8_formatParcel_181 rfl (lv_at hl 0 rfl) ?_
  refine hs_get hx hb (T := TX8) hA inAX8 hown hK hH 20 0 (by decide) 12 rfl rfl 15 (by decide) (hA _ zt_1566) rfl rfl dX8_formatParcel_182 ?_
  cases hf
  exact hs_iret C0 hH hS (by decide) (by decide) dX8_formatParcel_185
def f_X8_formatParcel (M : Mem) (a1 : Int32) : Option (Int32 × Mem) := nm (mu M 20 0 9 (0 : Int32)) fun M78 => bd (f_X8_find M78 a1) fun r80 => (if r80 = (-1 : Int32) then bd2 (f_X8_throwing M78 (1 : Int32)) fun r133 M132 => some (r133, M132) else bd (f_X8_find M78 a1) fun r82 => bd (f_X8_parcelAt M78 r82) fun r84 => nm (mu M78 20 0 15 (0 : Int32)) fun M85 => bd (f_X8_sign M85 (35 : Int32)) fun M87 => bd (f_X8_writesNumber M87 a1) fun M90 => bd (f_X8_sign M90 (32 : Int32)) fun M93 => if vin (r84 + (2 : Int32)) 192 then (bd (f_X8_writesNumber M93 (M93 21 0 (ix (r84 + (2 : Int32))))) fun M97 => bd (f_X8_sign M97 (42 : Int32)) fun M100 => if vin (r84 + (3 : Int32)) 192 then (bd (f_X8_writesNumber M100 (M100 21 0 (ix (r84 + (3 : Int32))))) fun M104 => bd (f_X8_sign M104 (32 : Int32)) fun M107 => if vin (r84 + (4 : Int32)) 192 then ((if (M107 21 0 (ix (r84 + (4 : Int32)))) = (-1 : Int32) then bd (f_X8_sign M107 (126 : Int32)) fun M111 => if vin (r84 + (5 : Int32)) 192 then (bd (f_X8_writesNumber M111 (M111 21 0 (ix (r84 + (5 : Int32))))) fun M115 => bd (f_X8_sign M115 (58 : Int32)) fun M118 => if vin (r84 + (6 : Int32)) 192 then (bd (f_X8_writesNumber M118 (M118 21 0 (ix (r84 + (6 : Int32))))) fun M122 => f_X8_formatParcel_157 M122 r84) else none) else none else bd (f_X8_sign M107 (64 : Int32)) fun M125 => bd (f_X8_writesNumber M125 (M125 21 0 (ix (r84 + (4 : Int32))))) fun M128 => f_X8_formatParcel_157 M128 r84)) else none) else none) else none)
set_option maxHeartbeats 4000000 in
set_option maxRecDepth 100000 in
theorem c_X8_formatParcel {Y : LY} {l : Launch} (M : Mem) (a1 : Int32) {r : Int32} {MZ : Mem} (hf : f_X8_formatParcel M a1 = some (r, MZ)) : Met l yX8_formatParcel (WS yX8_formatParcel cX8_formatParcel 3 (Option.some Jvm.ClassFile.FieldType.int)) { frames := 2, cells := 0, slots := 0, locals := 43 } (PcM Y M [.ref (YA Y 20 0), .int a1]) (Qi Y r MZ) 0 0 (AZ Y) := by
  refine met_mk (lv := [(0, .ref (YA Y 20 0)), (1, .int a1)]) [.ref (YA Y 20 0), .int a1] (by decide) rfl rfl (Nat.le_of_ble_eq_true rfl) (fun p e s m below meth c C0 hH ls hl => ?_)
  have hS : va_S (AZ Y) s.heap s.heap [] := va_S.rf
  obtain ⟨hx, hb, hr, hml, hown, hA, hlocks, hK, hZ⟩ := id C0
  unfold f_X8_formatParcel at hf
  refine lv_aload_n hx hb dX8_formatParcel_0 rfl (lv_at hl 0 rfl) ?_
  refine lv_iconst (v := (0 : Int32)) hx hb dX8_formatParcel_1 (by decide) ?_
  refine hs_put hx hb (T := TX8) hA inAX8 tyX8 tyX8_ok nmX8 hown hK hH hS 20 0 (by decide) 12 rfl rfl 9 (by decide) (hA _ zt_1560) rfl rfl (by decide +kernel) (Nat.le_of_ble_eq_true rfl) rfl dX8_formatParcel_2 (fun H locs hH hS => ?_)
  obtain ⟨M78, eM78, hf⟩ := nm_o hf
  rw [← eM78] at hH
  refine lv_aload_n hx hb dX8_formatParcel_5 rfl (lv_at hl 0 rfl) ?_
  refine lv_iload_n hx hb dX8_formatParcel_6 rfl (lv_at hl 1 rfl) ?_
  obtain ⟨r80, hq79, hf⟩ := bd_o hf
  refine hs_ci (hs_runV C0 hH hS (n := 1) (As := [.int a1]) (rest := []) (c_X8_find M78 a1 hq79) ⟨⟨zt_1705, zt_1707, zs_43, zt_13, zt_1708⟩, rfl, by decide, by decide, by decide +kernel⟩ ⟨rfl, rfl, Nat.le_of_ble_eq_true rfl, Nat.le_of_ble_eq_true rfl⟩ (hs_recv hK hH 20 0 (by decide) 12 rfl rfl) rfl rfl hl.1 (Nat.le_of_ble_eq_true rfl) ⟨Nat.le_of_ble_eq_true rfl, Nat.le_of_ble_eq_true rfl⟩ dX8_formatParcel_7) hS (fun H locs hH hS => ?_)
  refine lv_iconst (v := (-1 : Int32)) hx hb dX8_formatParcel_10 (by decide) ?_
  refine lv_icmp_ne (tgt := 20) hx hb dX8_formatParcel_11 (by decide) (fun hc134 => ?_) (fun hc134 => ?_)
  · have hf := if_f hf hc134
    refine lv_aload_n hx hb dX8_formatParcel_20 rfl (lv_at hl 0 rfl) ?_
    refine lv_iload_n hx hb dX8_formatParcel_21 rfl (lv_at hl 1 rfl) ?_
    obtain ⟨r82, hq81, hf⟩ := bd_o hf
    refine hs_ci (hs_runV C0 hH hS (n := 1) (As := [.int a1]) (rest := []) (c_X8_find M78 a1 hq81) ⟨⟨zt_1705, zt_1707, zs_43, zt_13, zt_1708⟩, rfl, by decide, by decide, by decide +kernel⟩ ⟨rfl, rfl, Nat.le_of_ble_eq_true rfl, Nat.le_of_ble_eq_true rfl⟩ (hs_recv hK hH 20 0 (by decide) 12 rfl rfl) rfl rfl hl.1 (Nat.le_of_ble_eq_true rfl) ⟨Nat.le_of_ble_eq_true rfl, Nat.le_of_ble_eq_true rfl⟩ dX8_formatParcel_22) hS (fun H locs hH hS => ?_)
    obtain ⟨r84, hq83, hf⟩ := bd_o hf
    refine hs_ci (hs_runS C0 hH hS (n := 1) (As := [.int r82]) (rest := []) (c_X8_parcelAt M78 r82 hq83) ⟨⟨zt_1694, zt_1695, zt_13, zt_1696⟩, by decide, by decide, by decide +kernel⟩ ⟨rfl, rfl, Nat.le_of_ble_eq_true rfl, Nat.le_of_ble_eq_true rfl⟩ rfl rfl hl.1 (Nat.le_of_ble_eq_true rfl) ⟨Nat.le_of_ble_eq_true rfl, Nat.le_of_ble_eq_true rfl⟩ dX8_formatParcel_25) hS (fun H locs hH hS => ?_)
    refine lv_istore_n (lv' := [(2, .int r84), (0, .ref (YA Y 20 0)), (1, .int a1)]) hx hb dX8_formatParcel_28 rfl hl (by decide) rfl (fun ls hl => ?_)
    refine lv_aload_n hx hb dX8_formatParcel_29 rfl (lv_at hl 1 rfl) ?_
    refine lv_iconst (v := (0 : Int32)) hx hb dX8_formatParcel_30 (by decide) ?_
    refine hs_put hx hb (T := TX8) hA inAX8 tyX8 tyX8_ok nmX8 hown hK hH hS 20 0 (by decide) 12 rfl rfl 15 (by decide) (hA _ zt_1566) rfl rfl (by decide +kernel) (Nat.le_of_ble_eq_true rfl) rfl dX8_formatParcel_31 (fun H locs hH hS => ?_)
    obtain ⟨M85, eM85, hf⟩ := nm_o hf
    rw [← eM85] at hH
    refine lv_aload_n hx hb dX8_formatParcel_34 rfl (lv_at hl 1 rfl) ?_
    refine lv_bipush (v := (35 : Int32)) hx hb dX8_formatParcel_35 (by decide) ?_
    obtain ⟨M87, hq86, hf⟩ := bd_o hf
    refine hs_cv (hs_runV C0 hH hS (n := 1) (As := [.int (35 : Int32)]) (rest := []) (c_X8_sign M85 (35 : Int32) hq86) ⟨⟨zt_1972, zt_1974, zs_64, zt_13, zt_1975⟩, rfl, by decide, by decide, by decide +kernel⟩ ⟨rfl, rfl, Nat.le_of_ble_eq_true rfl, Nat.le_of_ble_eq_true rfl⟩ (hs_recv hK hH 20 0 (by decide) 12 rfl rfl) rfl rfl hl.1 (Nat.le_of_ble_eq_true rfl) ⟨Nat.le_of_ble_eq_true rfl, Nat.le_of_ble_eq_true rfl⟩ dX8_formatParcel_37) hS (fun H locs hH hS => ?_)
    refine lv_aload_n hx hb dX8_formatParcel_40 rfl (lv_at hl 1 rfl) ?_
    refine lv_iload_n hx hb dX8_formatParcel_41 rfl (lv_at hl 2 rfl) ?_
    obtain ⟨M90, hq89, hf⟩ := bd_o hf
    refine hs_cv (hs_runV C0 hH hS (n := 1) (As := [.int a1]) (rest := []) (c_X8_writesNumber M87 a1 hq89) ⟨⟨zt_1976, zt_1978, zs_65, zt_13, zt_1979⟩, rfl, by decide, by decide, by decide +kernel⟩ ⟨rfl, rfl, Nat.le_of_ble_eq_true rfl, Nat.le_of_ble_eq_true rfl⟩ (hs_recv hK hH 20 0 (by decide) 12 rfl rfl) rfl rfl hl.1 (Nat.le_of_ble_eq_true rfl) ⟨Nat.le_of_ble_eq_true rfl, Nat.le_of_ble_eq_true rfl⟩ dX8_formatParcel_42) hS (fun H locs hH hS => ?_)
    refine lv_aload_n hx hb dX8_formatParcel_45 rfl (lv_at hl 1 rfl) ?_
    refine lv_bipush (v := (32 : Int32)) hx hb dX8_formatParcel_46 (by decide) ?_
    obtain ⟨M93, hq92, hf⟩ := bd_o hf
    refine hs_cv (hs_runV C0 hH hS (n := 1) (As := [.int (32 : Int32)]) (rest := []) (c_X8_sign M90 (32 : Int32) hq92) ⟨⟨zt_1972, zt_1974, zs_64, zt_13, zt_1975⟩, rfl, by decide, by decide, by decide +kernel⟩ ⟨rfl, rfl, Nat.le_of_ble_eq_true rfl, Nat.le_of_ble_eq_true rfl⟩ (hs_recv hK hH 20 0 (by decide) 12 rfl rfl) rfl rfl hl.1 (Nat.le_of_ble_eq_true rfl) ⟨Nat.le_of_ble_eq_true rfl, Nat.le_of_ble_eq_true rfl⟩ dX8_formatParcel_48) hS (fun H locs hH hS => ?_)
    refine lv_aload_n hx hb dX8_formatParcel_51 rfl (lv_at hl 1 rfl) ?_
    refine lv_aload_n hx hb dX8_formatParcel_52 rfl (lv_at hl 1 rfl) ?_
    refine hs_get hx hb (T := TX8) hA inAX8 hown hK hH 20 0 (by decide) 12 rfl rfl 0 (by decide) (hA _ zt_1551) rfl rfl dX8_formatParcel_53 ?_
    refine lv_iload_n hx hb dX8_formatParcel_56 rfl (lv_at hl 0 rfl) ?_
    refine lv_iconst (v := (2 : Int32)) hx hb dX8_formatParcel_57 (by decide) ?_
    refine lv_iadd hx hb dX8_formatParcel_58 ?_
    obtain ⟨hg95, hf⟩ := gd_o hf
    have bhg95 := vin_lt hg95
    refine hs_iald hx hb hK hH 21 0 (by decide) rfl hg95 rfl dX8_formatParcel_59 ?_
    obtain ⟨M97, hq96, hf⟩ := bd_o hf
    refine hs_cv (hs_runV C0 hH hS (n := 1) (As := [.int (M93 21 0 (ix (r84 + (2 : Int32))))]) (rest := []) (c_X8_writesNumber M93 (M93 21 0 (ix (r84 + (2 : Int32)))) hq96) ⟨⟨zt_1976, zt_1978, zs_65, zt_13, zt_1979⟩, rfl, by decide, by decide, by decide +kernel⟩ ⟨rfl, rfl, Nat.le_of_ble_eq_true rfl, Nat.le_of_ble_eq_true rfl⟩ (hs_recv hK hH 20 0 (by decide) 12 rfl rfl) rfl rfl hl.1 (Nat.le_of_ble_eq_true rfl) ⟨Nat.le_of_ble_eq_true rfl, Nat.le_of_ble_eq_true rfl⟩ dX8_formatParcel_60) hS (fun H locs hH hS => ?_)
    refine lv_aload_n hx hb dX8_formatParcel_63 rfl (lv_at hl 1 rfl) ?_
    refine lv_bipush (v := (42 : Int32)) hx hb dX8_formatParcel_64 (by decide) ?_
    obtain ⟨M100, hq99, hf⟩ := bd_o hf
    refine hs_cv (hs_runV C0 hH hS (n := 1) (As := [.int (42 : Int32)]) (rest := []) (c_X8_sign M97 (42 : Int32) hq99) ⟨⟨zt_1972, zt_1974, zs_64, zt_13, zt_1975⟩, rfl, by decide, by decide, by decide +kernel⟩ ⟨rfl, rfl, Nat.le_of_ble_eq_true rfl, Nat.le_of_ble_eq_true rfl⟩ (hs_recv hK hH 20 0 (by decide) 12 rfl rfl) rfl rfl hl.1 (Nat.le_of_ble_eq_true rfl) ⟨Nat.le_of_ble_eq_true rfl, Nat.le_of_ble_eq_true rfl⟩ dX8_formatParcel_66) hS (fun H locs hH hS => ?_)
    refine lv_aload_n hx hb dX8_formatParcel_69 rfl (lv_at hl 1 rfl) ?_
    refine lv_aload_n hx hb dX8_formatParcel_70 rfl (lv_at hl 1 rfl) ?_
    refine hs_get hx hb (T := TX8) hA inAX8 hown hK hH 20 0 (by decide) 12 rfl rfl 0 (by decide) (hA _ zt_1551) rfl rfl dX8_formatParcel_71 ?_
    refine lv_iload_n hx hb dX8_formatParcel_74 rfl (lv_at hl 0 rfl) ?_
    refine lv_iconst (v := (3 : Int32)) hx hb dX8_formatParcel_75 (by decide) ?_
    refine lv_iadd hx hb dX8_formatParcel_76 ?_
    obtain ⟨hg102, hf⟩ := gd_o hf
    have bhg102 := vin_lt hg102
    refine hs_iald hx hb hK hH 21 0 (by decide) rfl hg102 rfl dX8_formatParcel_77 ?_
    obtain ⟨M104, hq103, hf⟩ := bd_o hf
    refine hs_cv (hs_runV C0 hH hS (n := 1) (As := [.int (M100 21 0 (ix (r84 + (3 : Int32))))]) (rest := []) (c_X8_writesNumber M100 (M100 21 0 (ix (r84 + (3 : Int32)))) hq103) ⟨⟨zt_1976, zt_1978, zs_65, zt_13, zt_1979⟩, rfl, by decide, by decide, by decide +kernel⟩ ⟨rfl, rfl, Nat.le_of_ble_eq_true rfl, Nat.le_of_ble_eq_true rfl⟩ (hs_recv hK hH 20 0 (by decide) 12 rfl rfl) rfl rfl hl.1 (Nat.le_of_ble_eq_true rfl) ⟨Nat.le_of_ble_eq_true rfl, Nat.le_of_ble_eq_true rfl⟩ dX8_formatParcel_78) hS (fun H locs hH hS => ?_)
    refine lv_aload_n hx hb dX8_formatParcel_81 rfl (lv_at hl 1 rfl) ?_
    refine lv_bipush (v := (32 : Int32)) hx hb dX8_formatParcel_82 (by decide) ?_
    obtain ⟨M107, hq106, hf⟩ := bd_o hf
    refine hs_cv (hs_runV C0 hH hS (n := 1) (As := [.int (32 : Int32)]) (rest := []) (c_X8_sign M104 (32 : Int32) hq106) ⟨⟨zt_1972, zt_1974, zs_64, zt_13, zt_1975⟩, rfl, by decide, by decide, by decide +kernel⟩ ⟨rfl, rfl, Nat.le_of_ble_eq_true rfl, Nat.le_of_ble_eq_true rfl⟩ (hs_recv hK hH 20 0 (by decide) 12 rfl rfl) rfl rfl hl.1 (Nat.le_of_ble_eq_true rfl) ⟨Nat.le_of_ble_eq_true rfl, Nat.le_of_ble_eq_true rfl⟩ dX8_formatParcel_84) hS (fun H locs hH hS => ?_)
    refine lv_aload_n hx hb dX8_formatParcel_87 rfl (lv_at hl 1 rfl) ?_
    refine hs_get hx hb (T := TX8) hA inAX8 hown hK hH 20 0 (by decide) 12 rfl rfl 0 (by decide) (hA _ zt_1551) rfl rfl dX8_formatParcel_88 ?_
    refine lv_iload_n hx hb dX8_formatParcel_91 rfl (lv_at hl 0 rfl) ?_
    refine lv_iconst (v := (4 : Int32)) hx hb dX8_formatParcel_92 (by decide) ?_
    refine lv_iadd hx hb dX8_formatParcel_93 ?_
    obtain ⟨hg109, hf⟩ := gd_o hf
    have bhg109 := vin_lt hg109
    refine hs_iald hx hb hK hH 21 0 (by decide) rfl hg109 rfl dX8_formatParcel_94 ?_
    refine lv_iconst (v := (-1 : Int32)) hx hb dX8_formatParcel_95 (by decide) ?_
    refine lv_icmp_eq (tgt := 120) hx hb dX8_formatParcel_96 (by decide) (fun hc130 => ?_) (fun hc130 => ?_)
    · have hf := if_t hf hc130
      refine lv_aload_n hx hb dX8_formatParcel_120 rfl (lv_at hl 1 rfl) ?_
      refine lv_bipush (v := (126 : Int32)) hx hb dX8_formatParcel_121 (by decide) ?_
      obtain ⟨M111, hq110, hf⟩ := bd_o hf
      refine hs_cv (hs_runV C0 hH hS (n := 1) (As := [.int (126 : Int32)]) (rest := []) (c_X8_sign M107 (126 : Int32) hq110) ⟨⟨zt_1972, zt_1974, zs_64, zt_13, zt_1975⟩, rfl, by decide, by decide, by decide +kernel⟩ ⟨rfl, rfl, Nat.le_of_ble_eq_true rfl, Nat.le_of_ble_eq_true rfl⟩ (hs_recv hK hH 20 0 (by decide) 12 rfl rfl) rfl rfl hl.1 (Nat.le_of_ble_eq_true rfl) ⟨Nat.le_of_ble_eq_true rfl, Nat.le_of_ble_eq_true rfl⟩ dX8_formatParcel_123) hS (fun H locs hH hS => ?_)
      refine lv_aload_n hx hb dX8_formatParcel_126 rfl (lv_at hl 1 rfl) ?_
      refine lv_aload_n hx hb dX8_formatParcel_127 rfl (lv_at hl 1 rfl) ?_
      refine hs_get hx hb (T := TX8) hA inAX8 hown hK hH 20 0 (by decide) 12 rfl rfl 0 (by decide) (hA _ zt_1551) rfl rfl dX8_formatParcel_128 ?_
      refine lv_iload_n hx hb dX8_formatParcel_131 rfl (lv_at hl 0 rfl) ?_
      refine lv_iconst (v := (5 : Int32)) hx hb dX8_formatParcel_132 (by decide) ?_
      refine lv_iadd hx hb dX8_formatParcel_133 ?_
      obtain ⟨hg113, hf⟩ := gd_o hf
      have bhg113 := vin_lt hg113
      refine hs_iald hx hb hK hH 21 0 (by decide) rfl hg113 rfl dX8_formatParcel_134 ?_
      obtain ⟨M115, hq114, hf⟩ := bd_o hf
      refine hs_cv (hs_runV C0 hH hS (n := 1) (As := [.int (M111 21 0 (ix (r84 + (5 : Int32))))]) (rest := []) (c_X8_writesNumber M111 (M111 21 0 (ix (r84 + (5 : Int32)))) hq114) ⟨⟨zt_1976, zt_1978, zs_65, zt_13, zt_1979⟩, rfl, by decide, by decide, by decide +kernel⟩ ⟨rfl, rfl, Nat.le_of_ble_eq_true rfl, Nat.le_of_ble_eq_true rfl⟩ (hs_recv hK hH 20 0 (by decide) 12 rfl rfl) rfl rfl hl.1 (Nat.le_of_ble_eq_true rfl) ⟨Nat.le_of_ble_eq_true rfl, Nat.le_of_ble_eq_true rfl⟩ dX8_formatParcel_135) hS (fun H locs hH hS => ?_)
      refine lv_aload_n hx hb dX8_formatParcel_138 rfl (lv_at hl 1 rfl) ?_
      refine lv_bipush (v := (58 : Int32)) hx hb dX8_formatParcel_139 (by decide) ?_
      obtain ⟨M118, hq117, hf⟩ := bd_o hf
      refine hs_cv (hs_runV C0 hH hS (n := 1) (As := [.int (58 : Int32)]) (rest := []) (c_X8_sign M115 (58 : Int32) hq117) ⟨⟨zt_1972, zt_1974, zs_64, zt_13, zt_1975⟩, rfl, by decide, by decide, by decide +kernel⟩ ⟨rfl, rfl, Nat.le_of_ble_eq_true rfl, Nat.le_of_ble_eq_true rfl⟩ (hs_recv hK hH 20 0 (by decide) 12 rfl rfl) rfl rfl hl.1 (Nat.le_of_ble_eq_true rfl) ⟨Nat.le_of_ble_eq_true rfl, Nat.le_of_ble_eq_true rfl⟩ dX8_formatParcel_141) hS (fun H locs hH hS => ?_)
      refine lv_aload_n hx hb dX8_formatParcel_144 rfl (lv_at hl 1 rfl) ?_
      refine lv_aload_n hx hb dX8_formatParcel_145 rfl (lv_at hl 1 rfl) ?_
      refine hs_get hx hb (T := TX8) hA inAX8 hown hK hH 20 0 (by decide) 12 rfl rfl 0 (by decide) (hA _ zt_1551) rfl rfl dX8_formatParcel_146 ?_
      refine lv_iload_n hx hb dX8_formatParcel_149 rfl (lv_at hl 0 rfl) ?_
      refine lv_bipush (v := (6 : Int32)) hx hb dX8_formatParcel_150 (by decide) ?_
      refine lv_iadd hx hb dX8_formatParcel_152 ?_
      obtain ⟨hg120, hf⟩ := gd_o hf
      have bhg120 := vin_lt hg120
      refine hs_iald hx hb hK hH 21 0 (by decide) rfl hg120 rfl dX8_formatParcel_153 ?_
      obtain ⟨M122, hq121, hf⟩ := bd_o hf
      refine hs_cv (hs_runV C0 hH hS (n := 1) (As := [.int (M118 21 0 (ix (r84 + (6 : Int32))))]) (rest := []) (c_X8_writesNumber M118 (M118 21 0 (ix (r84 + (6 : Int32)))) hq121) ⟨⟨zt_1976, zt_1978, zs_65, zt_13, zt_1979⟩, rfl, by decide, by decide, by decide +kernel⟩ ⟨rfl, rfl, Nat.le_of_ble_eq_true rfl, Nat.le_of_ble_eq_true rfl⟩ (hs_recv hK hH 20 0 (by decide) 12 rfl rfl) rfl rfl hl.1 (Nat.le_of_ble_eq_true rfl) ⟨Nat.le_of_ble_eq_true rfl, Nat.le_of_ble_eq_true rfl⟩ dX8_formatParcel_154) hS (fun H locs hH hS => ?_)
      exact w_X8_formatParcel_157 C0 M122 r84 hf _ _ _ hH hS (lv_sub hl [1, 0] rfl)
    · have hf := if_f hf hc130
      refine lv_aload_n hx hb dX8_formatParcel_99 rfl (lv_at hl 1 rfl) ?_
      refine lv_bipush (v := (64 : Int32)) hx hb dX8_formatParcel_100 (by decide) ?_
      obtain ⟨M125, hq124, hf⟩ := bd_o hf
      refine hs_cv (hs_runV C0 hH hS (n := 1) (As := [.int (64 : Int32)]) (rest := []) (c_X8_sign M107 (64 : Int32) hq124) ⟨⟨zt_1972, zt_1974, zs_64, zt_13, zt_1975⟩, rfl, by decide, by decide, by decide +kernel⟩ ⟨rfl, rfl, Nat.le_of_ble_eq_true rfl, Nat.le_of_ble_eq_true rfl⟩ (hs_recv hK hH 20 0 (by decide) 12 rfl rfl) rfl rfl hl.1 (Nat.le_of_ble_eq_true rfl) ⟨Nat.le_of_ble_eq_true rfl, Nat.le_of_ble_eq_true rfl⟩ dX8_formatParcel_102) hS (fun H locs hH hS => ?_)
      refine lv_aload_n hx hb dX8_formatParcel_105 rfl (lv_at hl 1 rfl) ?_
      refine lv_aload_n hx hb dX8_formatParcel_106 rfl (lv_at hl 1 rfl) ?_
      refine hs_get hx hb (T := TX8) hA inAX8 hown hK hH 20 0 (by decide) 12 rfl rfl 0 (by decide) (hA _ zt_1551) rfl rfl dX8_formatParcel_107 ?_
      refine lv_iload_n hx hb dX8_formatParcel_110 rfl (lv_at hl 0 rfl) ?_
      refine lv_iconst (v := (4 : Int32)) hx hb dX8_formatParcel_111 (by decide) ?_
      refine lv_iadd hx hb dX8_formatParcel_112 ?_
      refine hs_iald hx hb hK hH 21 0 (by decide) rfl hg109 rfl dX8_formatParcel_113 ?_
      obtain ⟨M128, hq127, hf⟩ := bd_o hf
      refine hs_cv (hs_runV C0 hH hS (n := 1) (As := [.int (M125 21 0 (ix (r84 + (4 : Int32))))]) (rest := []) (c_X8_writesNumber M125 (M125 21 0 (ix (r84 + (4 : Int32)))) hq127) ⟨⟨zt_1976, zt_1978, zs_65, zt_13, zt_1979⟩, rfl, by decide, by decide, by decide +kernel⟩ ⟨rfl, rfl, Nat.le_of_ble_eq_true rfl, Nat.le_of_ble_eq_true rfl⟩ (hs_recv hK hH 20 0 (by decide) 12 rfl rfl) rfl rfl hl.1 (Nat.le_of_ble_eq_true rfl) ⟨Nat.le_of_ble_eq_true rfl, Nat.le_of_ble_eq_true rfl⟩ dX8_formatParcel_114) hS (fun H locs hH hS => ?_)
      refine lv_goto (tgt := 157) hx hb dX8_formatParcel_117 (by decide) ?_
      exact w_X8_formatParcel_157 C0 M128 r84 hf _ _ _ hH hS (lv_sub hl [1, 0] rfl)
  · have hf := if_t hf hc134
    refine lv_aload_n hx hb dX8_formatParcel_14 rfl (lv_at hl 0 rfl) ?_
    refine lv_iconst (v := (1 : Int32)) hx hb dX8_formatParcel_15 (by decide) ?_
    obtain ⟨r133, M132, hq131, hf⟩ := bd2_o hf
    refine hs_ci (hs_runV C0 hH hS (n := 1) (As := [.int (1 : Int32)]) (rest := []) (c_X8_throwing M78 (1 : Int32) hq131) ⟨⟨zt_1637, zt_1639, zs_34, zt_13, zt_1640⟩, rfl, by decide, by decide, by decide +kernel⟩ ⟨rfl, rfl, Nat.le_of_ble_eq_true rfl, Nat.le_of_ble_eq_true rfl⟩ (hs_recv hK hH 20 0 (by decide) 12 rfl rfl) rfl rfl hl.1 (Nat.le_of_ble_eq_true rfl) ⟨Nat.le_of_ble_eq_true rfl, Nat.le_of_ble_eq_true rfl⟩ dX8_formatParcel_16) hS (fun H locs hH hS => ?_)
    cases hf
    exact hs_iret C0 hH hS (by decide) (by decide) dX8_formatParcel_19
def f_X8_formatLink_169 (M : Mem) : Option (Int32 × Mem) := some ((M 20 0 15), M)
set_option maxHeartbeats 4000000 in
set_option maxRecDepth 100000 in
theorem w_X8_formatLink_169 {Y : LY} {p : Program} {l : Launch} {e : Env} {s : State} {m : MethodId} {args : Array Value} {below : List Frame} {meth : Method} {c : Code} (C0 : BE Y p s m args meth c cX8_formatLink 3 (Option.some Jvm.ClassFile.FieldType.int) RX8) {r : Int32} {MZ : Mem} : ∀ (M : Mem), f_X8_formatLink_169 M = some (r, MZ) → ∀ (H : Heap) (locs : List Loc) (ls : Array Slot), HS Y M H → va_S (AZ Y) s.heap H locs → lv_has ls 3 [(0, .ref (YA Y 20 0))] → W p l e { frames := 2, cells := 0, slots := 0, locals := 46 } s m args below meth c H locs 0 0 (MQ below (Qi Y r MZ) args s 0 0 (AZ Y)) (F0 m 169 ls []) := by
  obtain ⟨hx, hb, hr, hml, hown, hA, hlocks, hK, hZ⟩ := id C0
  intro M hf H locs ls hH hS hl
  unfold f_X8_formatLink_169 at hf
  refine lv_aload_n hx hb dX8_formatLink_169 rfl (lv_at hl 0 rfl) ?_
  refine hs_get hx hb (T := TX8) hA inAX8 hown hK hH 20 0 (by decide) 12 rfl rfl 15 (by decide) (hA _ zt_1566) rfl rfl dX8_formatLink_170 ?_
  cases hf
  exact hs_iret C0 hH hS (by decide) (by decide) dX8_formatLink_173
def f_X8_formatLink_140 (M : Mem) (a1 : Int32) : Option (Int32 × Mem) := bd (f_X8_load M a1) fun r71 => (if r71 ≤ 0 then f_X8_formatLink_169 M else bd (f_X8_sign M (32 : Int32)) fun M73 => bd (f_X8_sign M73 (119 : Int32)) fun M76 => bd (f_X8_load M76 a1) fun r79 => bd (f_X8_writesNumber M76 r79) fun M81 => f_X8_formatLink_169 M81)
set_option maxHeartbeats 4000000 in
set_option maxRecDepth 100000 in
theorem w_X8_formatLink_140 {Y : LY} {p : Program} {l : Launch} {e : Env} {s : State} {m : MethodId} {args : Array Value} {below : List Frame} {meth : Method} {c : Code} (C0 : BE Y p s m args meth c cX8_formatLink 3 (Option.some Jvm.ClassFile.FieldType.int) RX8) {r : Int32} {MZ : Mem} : ∀ (M : Mem) (a1 : Int32), f_X8_formatLink_140 M a1 = some (r, MZ) → ∀ (H : Heap) (locs : List Loc) (ls : Array Slot), HS Y M H → va_S (AZ Y) s.heap H locs → lv_has ls 3 [(0, .ref (YA Y 20 0)), (1, .int a1)] → W p l e { frames := 2, cells := 0, slots := 0, locals := 46 } s m args below meth c H locs 0 0 (MQ below (Qi Y r MZ) args s 0 0 (AZ Y)) (F0 m 140 ls []) := by
  obtain ⟨hx, hb, hr, hml, hown, hA, hlocks, hK, hZ⟩ := id C0
  intro M a1 hf H locs ls hH hS hl
  unfold f_X8_formatLink_140 at hf
  refine lv_aload_n hx hb dX8_formatLink_140 rfl (lv_at hl 0 rfl) ?_
  refine lv_iload_n hx hb dX8_formatLink_141 rfl (lv_at hl 1 rfl) ?_
  obtain ⟨r71, hq70, hf⟩ := bd_o hf
  refine hs_ci (hs_runV C0 hH hS (n := 1) (As := [.int a1]) (rest := []) (c_X8_load M a1 hq70) ⟨⟨zt_1717, zt_1719, zs_46, zt_13, zt_1720⟩, rfl, by decide, by decide, by decide +kernel⟩ ⟨rfl, rfl, Nat.le_of_ble_eq_true rfl, Nat.le_of_ble_eq_true rfl⟩ (hs_recv hK hH 20 0 (by decide) 12 rfl rfl) rfl rfl hl.1 (Nat.le_of_ble_eq_true rfl) ⟨Nat.le_of_ble_eq_true rfl, Nat.le_of_ble_eq_true rfl⟩ dX8_formatLink_142) hS (fun H locs hH hS => ?_)
  refine lv_if_le (tgt := 169) hx hb dX8_formatLink_145 (by decide) (fun hc83 => ?_) (fun hc83 => ?_)
  · have hf := if_t hf hc83
    exact w_X8_formatLink_169 C0 M hf _ _ _ hH hS (lv_sub hl [0] rfl)
  · have hf := if_f hf hc83
    refine lv_aload_n hx hb dX8_formatLink_148 rfl (lv_at hl 0 rfl) ?_
    refine lv_bipush (v := (32 : Int32)) hx hb dX8_formatLink_149 (by decide) ?_
    obtain ⟨M73, hq72, hf⟩ := bd_o hf
    refine hs_cv (hs_runV C0 hH hS (n := 1) (As := [.int (32 : Int32)]) (rest := []) (c_X8_sign M (32 : Int32) hq72) ⟨⟨zt_1972, zt_1974, zs_64, zt_13, zt_1975⟩, rfl, by decide, by decide, by decide +kernel⟩ ⟨rfl, rfl, Nat.le_of_ble_eq_true rfl, Nat.le_of_ble_eq_true rfl⟩ (hs_recv hK hH 20 0 (by decide) 12 rfl rfl) rfl rfl hl.1 (Nat.le_of_ble_eq_true rfl) ⟨Nat.le_of_ble_eq_true rfl, Nat.le_of_ble_eq_true rfl⟩ dX8_formatLink_151) hS (fun H locs hH hS => ?_)
    refine lv_aload_n hx hb dX8_formatLink_154 rfl (lv_at hl 0 rfl) ?_
    refine lv_bipush (v := (119 : Int32)) hx hb dX8_formatLink_155 (by decide) ?_
    obtain ⟨M76, hq75, hf⟩ := bd_o hf
    refine hs_cv (hs_runV C0 hH hS (n := 1) (As := [.int (119 : Int32)]) (rest := []) (c_X8_sign M73 (119 : Int32) hq75) ⟨⟨zt_1972, zt_1974, zs_64, zt_13, zt_1975⟩, rfl, by decide, by decide, by decide +kernel⟩ ⟨rfl, rfl, Nat.le_of_ble_eq_true rfl, Nat.le_of_ble_eq_true rfl⟩ (hs_recv hK hH 20 0 (by decide) 12 rfl rfl) rfl rfl hl.1 (Nat.le_of_ble_eq_true rfl) ⟨Nat.le_of_ble_eq_true rfl, Nat.le_of_ble_eq_true rfl⟩ dX8_formatLink_157) hS (fun H locs hH hS => ?_)
    refine lv_aload_n hx hb dX8_formatLink_160 rfl (lv_at hl 0 rfl) ?_
    refine lv_aload_n hx hb dX8_formatLink_161 rfl (lv_at hl 0 rfl) ?_
    refine lv_iload_n hx hb dX8_formatLink_162 rfl (lv_at hl 1 rfl) ?_
    obtain ⟨r79, hq78, hf⟩ := bd_o hf
    refine hs_ci (hs_runV C0 hH hS (n := 1) (As := [.int a1]) (rest := [.ref (YA Y 20 0)]) (c_X8_load M76 a1 hq78) ⟨⟨zt_1717, zt_1719, zs_46, zt_13, zt_1720⟩, rfl, by decide, by decide, by decide +kernel⟩ ⟨rfl, rfl, Nat.le_of_ble_eq_true rfl, Nat.le_of_ble_eq_true rfl⟩ (hs_recv hK hH 20 0 (by decide) 12 rfl rfl) rfl rfl hl.1 (Nat.le_of_ble_eq_true rfl) ⟨Nat.le_of_ble_eq_true rfl, Nat.le_of_ble_eq_true rfl⟩ dX8_formatLink_163) hS (fun H locs hH hS => ?_)
    obtain ⟨M81, hq80, hf⟩ := bd_o hf
    refine hs_cv (hs_runV C0 hH hS (n := 1) (As := [.int r79]) (rest := []) (c_X8_writesNumber M76 r79 hq80) ⟨⟨zt_1976, zt_1978, zs_65, zt_13, zt_1979⟩, rfl, by decide, by decide, by decide +kernel⟩ ⟨rfl, rfl, Nat.le_of_ble_eq_true rfl, Nat.le_of_ble_eq_true rfl⟩ (hs_recv hK hH 20 0 (by decide) 12 rfl rfl) rfl rfl hl.1 (Nat.le_of_ble_eq_true rfl) ⟨Nat.le_of_ble_eq_true rfl, Nat.le_of_ble_eq_true rfl⟩ dX8_formatLink_166) hS (fun H locs hH hS => ?_)
    exact w_X8_formatLink_169 C0 M81 hf _ _ _ hH hS (lv_sub hl [0] rfl)
def f_X8_formatLink (M : Mem) (a1 : Int32) : Option (Int32 × Mem) := nm (mu M 20 0 9 (0 : Int32)) fun M84 => bd (f_X8_isLink M84 a1) fun r86 => (if r86 = 0 then bd2 (f_X8_throwing M84 (1 : Int32)) fun r137 M136 => some (r137, M136) else bd (f_X8_linkAt M84 a1) fun r88 => nm (mu M84 20 0 15 (0 : Int32)) fun M89 => bd (f_X8_writesNumber M89 a1) fun M91 => bd (f_X8_sign M91 (40 : Int32)) fun M94 => if vin r88 192 then (bd (f_X8_writesNumber M94 (M94 21 0 (ix r88))) fun M98 => bd (f_X8_sign M98 (45 : Int32)) fun M101 => if vin (r88 + (1 : Int32)) 192 then (bd (f_X8_writesNumber M101 (M101 21 0 (ix (r88 + (1 : Int32))))) fun M105 => bd (f_X8_sign M105 (41 : Int32)) fun M108 => bd (f_X8_sign M108 (32 : Int32)) fun M111 => if vin (r88 + (2 : Int32)) 192 then (bd (f_X8_writesNumber M111 (M111 21 0 (ix (r88 + (2 : Int32))))) fun M115 => bd (f_X8_sign M115 (104 : Int32)) fun M118 => bd (f_X8_sign M118 (47 : Int32)) fun M121 => if vin (r88 + (3 : Int32)) 192 then (bd (f_X8_writesNumber M121 (M121 21 0 (ix (r88 + (3 : Int32))))) fun M125 => if vin (r88 + (4 : Int32)) 192 then ((if (M125 21 0 (ix (r88 + (4 : Int32)))) = (1 : Int32) then bd (f_X8_sign M125 (32 : Int32)) fun M129 => bd (f_X8_sign M129 (120 : Int32)) fun M132 => f_X8_formatLink_140 M132 a1 else f_X8_formatLink_140 M125 a1)) else none) else none) else none) else none) else none)
set_option maxHeartbeats 4000000 in
set_option maxRecDepth 100000 in
theorem c_X8_formatLink {Y : LY} {l : Launch} (M : Mem) (a1 : Int32) {r : Int32} {MZ : Mem} (hf : f_X8_formatLink M a1 = some (r, MZ)) : Met l yX8_formatLink (WS yX8_formatLink cX8_formatLink 3 (Option.some Jvm.ClassFile.FieldType.int)) { frames := 2, cells := 0, slots := 0, locals := 46 } (PcM Y M [.ref (YA Y 20 0), .int a1]) (Qi Y r MZ) 0 0 (AZ Y) := by
  refine met_mk (lv := [(0, .ref (YA Y 20 0)), (1, .int a1)]) [.ref (YA Y 20 0), .int a1] (by decide) rfl rfl (Nat.le_of_ble_eq_true rfl) (fun p e s m below meth c C0 hH ls hl => ?_)
  have hS : va_S (AZ Y) s.heap s.heap [] := va_S.rf
  obtain ⟨hx, hb, hr, hml, hown, hA, hlocks, hK, hZ⟩ := id C0
  unfold f_X8_formatLink at hf
  refine lv_aload_n hx hb dX8_formatLink_0 rfl (lv_at hl 0 rfl) ?_
  refine lv_iconst (v := (0 : Int32)) hx hb dX8_formatLink_1 (by decide) ?_
  refine hs_put hx hb (T := TX8) hA inAX8 tyX8 tyX8_ok nmX8 hown hK hH hS 20 0 (by decide) 12 rfl rfl 9 (by decide) (hA _ zt_1560) rfl rfl (by decide +kernel) (Nat.le_of_ble_eq_true rfl) rfl dX8_formatLink_2 (fun H locs hH hS => ?_)
  obtain ⟨M84, eM84, hf⟩ := nm_o hf
  rw [← eM84] at hH
  refine lv_aload_n hx hb dX8_formatLink_5 rfl (lv_at hl 0 rfl) ?_
  refine lv_iload_n hx hb dX8_formatLink_6 rfl (lv_at hl 1 rfl) ?_
  obtain ⟨r86, hq85, hf⟩ := bd_o hf
  refine hs_ci (hs_runV C0 hH hS (n := 1) (As := [.int a1]) (rest := []) (c_X8_isLink M84 a1 hq85) ⟨⟨zt_1673, zt_1675, zs_39, zt_13, zt_1676⟩, rfl, by decide, by decide, by decide +kernel⟩ ⟨rfl, rfl, Nat.le_of_ble_eq_true rfl, Nat.le_of_ble_eq_true rfl⟩ (hs_recv hK hH 20 0 (by decide) 12 rfl rfl) rfl rfl hl.1 (Nat.le_of_ble_eq_true rfl) ⟨Nat.le_of_ble_eq_true rfl, Nat.le_of_ble_eq_true rfl⟩ dX8_formatLink_7) hS (fun H locs hH hS => ?_)
  refine lv_if_ne (tgt := 19) hx hb dX8_formatLink_10 (by decide) (fun hc138 => ?_) (fun hc138 => ?_)
  · have hf := if_f hf hc138
    refine lv_iload_n hx hb dX8_formatLink_19 rfl (lv_at hl 1 rfl) ?_
    obtain ⟨r88, hq87, hf⟩ := bd_o hf
    refine hs_ci (hs_runS C0 hH hS (n := 1) (As := [.int a1]) (rest := []) (c_X8_linkAt M84 a1 hq87) ⟨⟨zt_1662, zt_1663, zt_13, zt_1664⟩, by decide, by decide, by decide +kernel⟩ ⟨rfl, rfl, Nat.le_of_ble_eq_true rfl, Nat.le_of_ble_eq_true rfl⟩ rfl rfl hl.1 (Nat.le_of_ble_eq_true rfl) ⟨Nat.le_of_ble_eq_true rfl, Nat.le_of_ble_eq_true rfl⟩ dX8_formatLink_20) hS (fun H locs hH hS => ?_)
    refine lv_istore_n (lv' := [(2, .int r88), (0, .ref (YA Y 20 0)), (1, .int a1)]) hx hb dX8_formatLink_23 rfl hl (by decide) rfl (fun ls hl => ?_)
    refine lv_aload_n hx hb dX8_formatLink_24 rfl (lv_at hl 1 rfl) ?_
    refine lv_iconst (v := (0 : Int32)) hx hb dX8_formatLink_25 (by decide) ?_
    refine hs_put hx hb (T := TX8) hA inAX8 tyX8 tyX8_ok nmX8 hown hK hH hS 20 0 (by decide) 12 rfl rfl 15 (by decide) (hA _ zt_1566) rfl rfl (by decide +kernel) (Nat.le_of_ble_eq_true rfl) rfl dX8_formatLink_26 (fun H locs hH hS => ?_)
    obtain ⟨M89, eM89, hf⟩ := nm_o hf
    rw [← eM89] at hH
    refine lv_aload_n hx hb dX8_formatLink_29 rfl (lv_at hl 1 rfl) ?_
    refine lv_iload_n hx hb dX8_formatLink_30 rfl (lv_at hl 2 rfl) ?_
    obtain ⟨M91, hq90, hf⟩ := bd_o hf
    refine hs_cv (hs_runV C0 hH hS (n := 1) (As := [.int a1]) (rest := []) (c_X8_writesNumber M89 a1 hq90) ⟨⟨zt_1976, zt_1978, zs_65, zt_13, zt_1979⟩, rfl, by decide, by decide, by decide +kernel⟩ ⟨rfl, rfl, Nat.le_of_ble_eq_true rfl, Nat.le_of_ble_eq_true rfl⟩ (hs_recv hK hH 20 0 (by decide) 12 rfl rfl) rfl rfl hl.1 (Nat.le_of_ble_eq_true rfl) ⟨Nat.le_of_ble_eq_true rfl, Nat.le_of_ble_eq_true rfl⟩ dX8_formatLink_31) hS (fun H locs hH hS => ?_)
    refine lv_aload_n hx hb dX8_formatLink_34 rfl (lv_at hl 1 rfl) ?_
    refine lv_bipush (v := (40 : Int32)) hx hb dX8_formatLink_35 (by decide) ?_
    obtain ⟨M94, hq93, hf⟩ := bd_o hf
    refine hs_cv (hs_runV C0 hH hS (n := 1) (As := [.int (40 : Int32)]) (rest := []) (c_X8_sign M91 (40 : Int32) hq93) ⟨⟨zt_1972, zt_1974, zs_64, zt_13, zt_1975⟩, rfl, by decide, by decide, by decide +kernel⟩ ⟨rfl, rfl, Nat.le_of_ble_eq_true rfl, Nat.le_of_ble_eq_true rfl⟩ (hs_recv hK hH 20 0 (by decide) 12 rfl rfl) rfl rfl hl.1 (Nat.le_of_ble_eq_true rfl) ⟨Nat.le_of_ble_eq_true rfl, Nat.le_of_ble_eq_true rfl⟩ dX8_formatLink_37) hS (fun H locs hH hS => ?_)
    refine lv_aload_n hx hb dX8_formatLink_40 rfl (lv_at hl 1 rfl) ?_
    refine lv_aload_n hx hb dX8_formatLink_41 rfl (lv_at hl 1 rfl) ?_
    refine hs_get hx hb (T := TX8) hA inAX8 hown hK hH 20 0 (by decide) 12 rfl rfl 0 (by decide) (hA _ zt_1551) rfl rfl dX8_formatLink_42 ?_
    refine lv_iload_n hx hb dX8_formatLink_45 rfl (lv_at hl 0 rfl) ?_
    obtain ⟨hg96, hf⟩ := gd_o hf
    have bhg96 := vin_lt hg96
    refine hs_iald hx hb hK hH 21 0 (by decide) rfl hg96 rfl dX8_formatLink_46 ?_
    obtain ⟨M98, hq97, hf⟩ := bd_o hf
    refine hs_cv (hs_runV C0 hH hS (n := 1) (As := [.int (M94 21 0 (ix r88))]) (rest := []) (c_X8_writesNumber M94 (M94 21 0 (ix r88)) hq97) ⟨⟨zt_1976, zt_1978, zs_65, zt_13, zt_1979⟩, rfl, by decide, by decide, by decide +kernel⟩ ⟨rfl, rfl, Nat.le_of_ble_eq_true rfl, Nat.le_of_ble_eq_true rfl⟩ (hs_recv hK hH 20 0 (by decide) 12 rfl rfl) rfl rfl hl.1 (Nat.le_of_ble_eq_true rfl) ⟨Nat.le_of_ble_eq_true rfl, Nat.le_of_ble_eq_true rfl⟩ dX8_formatLink_47) hS (fun H locs hH hS => ?_)
    refine lv_aload_n hx hb dX8_formatLink_50 rfl (lv_at hl 1 rfl) ?_
    refine lv_bipush (v := (45 : Int32)) hx hb dX8_formatLink_51 (by decide) ?_
    obtain ⟨M101, hq100, hf⟩ := bd_o hf
    refine hs_cv (hs_runV C0 hH hS (n := 1) (As := [.int (45 : Int32)]) (rest := []) (c_X8_sign M98 (45 : Int32) hq100) ⟨⟨zt_1972, zt_1974, zs_64, zt_13, zt_1975⟩, rfl, by decide, by decide, by decide +kernel⟩ ⟨rfl, rfl, Nat.le_of_ble_eq_true rfl, Nat.le_of_ble_eq_true rfl⟩ (hs_recv hK hH 20 0 (by decide) 12 rfl rfl) rfl rfl hl.1 (Nat.le_of_ble_eq_true rfl) ⟨Nat.le_of_ble_eq_true rfl, Nat.le_of_ble_eq_true rfl⟩ dX8_formatLink_53) hS (fun H locs hH hS => ?_)
    refine lv_aload_n hx hb dX8_formatLink_56 rfl (lv_at hl 1 rfl) ?_
    refine lv_aload_n hx hb dX8_formatLink_57 rfl (lv_at hl 1 rfl) ?_
    refine hs_get hx hb (T := TX8) hA inAX8 hown hK hH 20 0 (by decide) 12 rfl rfl 0 (by decide) (hA _ zt_1551) rfl rfl dX8_formatLink_58 ?_
    refine lv_iload_n hx hb dX8_formatLink_61 rfl (lv_at hl 0 rfl) ?_
    refine lv_iconst (v := (1 : Int32)) hx hb dX8_formatLink_62 (by decide) ?_
    refine lv_iadd hx hb dX8_formatLink_63 ?_
    obtain ⟨hg103, hf⟩ := gd_o hf
    have bhg103 := vin_lt hg103
    refine hs_iald hx hb hK hH 21 0 (by decide) rfl hg103 rfl dX8_formatLink_64 ?_
    obtain ⟨M105, hq104, hf⟩ := bd_o hf
    refine hs_cv (hs_runV C0 hH hS (n := 1) (As := [.int (M101 21 0 (ix (r88 + (1 : Int32))))]) (rest := []) (c_X8_writesNumber M101 (M101 21 0 (ix (r88 + (1 : Int32)))) hq104) ⟨⟨zt_1976, zt_1978, zs_65, zt_13, zt_1979⟩, rfl, by decide, by decide, by decide +kernel⟩ ⟨rfl, rfl, Nat.le_of_ble_eq_true rfl, Nat.le_of_ble_eq_true rfl⟩ (hs_recv hK hH 20 0 (by decide) 12 rfl rfl) rfl rfl hl.1 (Nat.le_of_ble_eq_true rfl) ⟨Nat.le_of_ble_eq_true rfl, Nat.le_of_ble_eq_true rfl⟩ dX8_formatLink_65) hS (fun H locs hH hS => ?_)
    refine lv_aload_n hx hb dX8_formatLink_68 rfl (lv_at hl 1 rfl) ?_
    refine lv_bipush (v := (41 : Int32)) hx hb dX8_formatLink_69 (by decide) ?_
    obtain ⟨M108, hq107, hf⟩ := bd_o hf
    refine hs_cv (hs_runV C0 hH hS (n := 1) (As := [.int (41 : Int32)]) (rest := []) (c_X8_sign M105 (41 : Int32) hq107) ⟨⟨zt_1972, zt_1974, zs_64, zt_13, zt_1975⟩, rfl, by decide, by decide, by decide +kernel⟩ ⟨rfl, rfl, Nat.le_of_ble_eq_true rfl, Nat.le_of_ble_eq_true rfl⟩ (hs_recv hK hH 20 0 (by decide) 12 rfl rfl) rfl rfl hl.1 (Nat.le_of_ble_eq_true rfl) ⟨Nat.le_of_ble_eq_true rfl, Nat.le_of_ble_eq_true rfl⟩ dX8_formatLink_71) hS (fun H locs hH hS => ?_)
    refine lv_aload_n hx hb dX8_formatLink_74 rfl (lv_at hl 1 rfl) ?_
    refine lv_bipush (v := (32 : Int32)) hx hb dX8_formatLink_75 (by decide) ?_
    obtain ⟨M111, hq110, hf⟩ := bd_o hf
    refine hs_cv (hs_runV C0 hH hS (n := 1) (As := [.int (32 : Int32)]) (rest := []) (c_X8_sign M108 (32 : Int32) hq110) ⟨⟨zt_1972, zt_1974, zs_64, zt_13, zt_1975⟩, rfl, by decide, by decide, by decide +kernel⟩ ⟨rfl, rfl, Nat.le_of_ble_eq_true rfl, Nat.le_of_ble_eq_true rfl⟩ (hs_recv hK hH 20 0 (by decide) 12 rfl rfl) rfl rfl hl.1 (Nat.le_of_ble_eq_true rfl) ⟨Nat.le_of_ble_eq_true rfl, Nat.le_of_ble_eq_true rfl⟩ dX8_formatLink_77) hS (fun H locs hH hS => ?_)
    refine lv_aload_n hx hb dX8_formatLink_80 rfl (lv_at hl 1 rfl) ?_
    refine lv_aload_n hx hb dX8_formatLink_81 rfl (lv_at hl 1 rfl) ?_
    refine hs_get hx hb (T := TX8) hA inAX8 hown hK hH 20 0 (by decide) 12 rfl rfl 0 (by decide) (hA _ zt_1551) rfl rfl dX8_formatLink_82 ?_
    refine lv_iload_n hx hb dX8_formatLink_85 rfl (lv_at hl 0 rfl) ?_
    refine lv_iconst (v := (2 : Int32)) hx hb dX8_formatLink_86 (by decide) ?_
    refine lv_iadd hx hb dX8_formatLink_87 ?_
    obtain ⟨hg113, hf⟩ := gd_o hf
    have bhg113 := vin_lt hg113
    refine hs_iald hx hb hK hH 21 0 (by decide) rfl hg113 rfl dX8_formatLink_88 ?_
    obtain ⟨M115, hq114, hf⟩ := bd_o hf
    refine hs_cv (hs_runV C0 hH hS (n := 1) (As := [.int (M111 21 0 (ix (r88 + (2 : Int32))))]) (rest := []) (c_X8_writesNumber M111 (M111 21 0 (ix (r88 + (2 : Int32)))) hq114) ⟨⟨zt_1976, zt_1978, zs_65, zt_13, zt_1979⟩, rfl, by decide, by decide, by decide +kernel⟩ ⟨rfl, rfl, Nat.le_of_ble_eq_true rfl, Nat.le_of_ble_eq_true rfl⟩ (hs_recv hK hH 20 0 (by decide) 12 rfl rfl) rfl rfl hl.1 (Nat.le_of_ble_eq_true rfl) ⟨Nat.le_of_ble_eq_true rfl, Nat.le_of_ble_eq_true rfl⟩ dX8_formatLink_89) hS (fun H locs hH hS => ?_)
    refine lv_aload_n hx hb dX8_formatLink_92 rfl (lv_at hl 1 rfl) ?_
    refine lv_bipush (v := (104 : Int32)) hx hb dX8_formatLink_93 (by decide) ?_
    obtain ⟨M118, hq117, hf⟩ := bd_o hf
    refine hs_cv (hs_runV C0 hH hS (n := 1) (As := [.int (104 : Int32)]) (rest := []) (c_X8_sign M115 (104 : Int32) hq117) ⟨⟨zt_1972, zt_1974, zs_64, zt_13, zt_1975⟩, rfl, by decide, by decide, by decide +kernel⟩ ⟨rfl, rfl, Nat.le_of_ble_eq_true rfl, Nat.le_of_ble_eq_true rfl⟩ (hs_recv hK hH 20 0 (by decide) 12 rfl rfl) rfl rfl hl.1 (Nat.le_of_ble_eq_true rfl) ⟨Nat.le_of_ble_eq_true rfl, Nat.le_of_ble_eq_true rfl⟩ dX8_formatLink_95) hS (fun H locs hH hS => ?_)
    refine lv_aload_n hx hb dX8_formatLink_98 rfl (lv_at hl 1 rfl) ?_
    refine lv_bipush (v := (47 : Int32)) hx hb dX8_formatLink_99 (by decide) ?_
    obtain ⟨M121, hq120, hf⟩ := bd_o hf
    refine hs_cv (hs_runV C0 hH hS (n := 1) (As := [.int (47 : Int32)]) (rest := []) (c_X8_sign M118 (47 : Int32) hq120) ⟨⟨zt_1972, zt_1974, zs_64, zt_13, zt_1975⟩, rfl, by decide, by decide, by decide +kernel⟩ ⟨rfl, rfl, Nat.le_of_ble_eq_true rfl, Nat.le_of_ble_eq_true rfl⟩ (hs_recv hK hH 20 0 (by decide) 12 rfl rfl) rfl rfl hl.1 (Nat.le_of_ble_eq_true rfl) ⟨Nat.le_of_ble_eq_true rfl, Nat.le_of_ble_eq_true rfl⟩ dX8_formatLink_101) hS (fun H locs hH hS => ?_)
    refine lv_aload_n hx hb dX8_formatLink_104 rfl (lv_at hl 1 rfl) ?_
    refine lv_aload_n hx hb dX8_formatLink_105 rfl (lv_at hl 1 rfl) ?_
    refine hs_get hx hb (T := TX8) hA inAX8 hown hK hH 20 0 (by decide) 12 rfl rfl 0 (by decide) (hA _ zt_1551) rfl rfl dX8_formatLink_106 ?_
    refine lv_iload_n hx hb dX8_formatLink_109 rfl (lv_at hl 0 rfl) ?_
    refine lv_iconst (v := (3 : Int32)) hx hb dX8_formatLink_110 (by decide) ?_
    refine lv_iadd hx hb dX8_formatLink_111 ?_
    obtain ⟨hg123, hf⟩ := gd_o hf
    have bhg123 := vin_lt hg123
    refine hs_iald hx hb hK hH 21 0 (by decide) rfl hg123 rfl dX8_formatLink_112 ?_
    obtain ⟨M125, hq124, hf⟩ := bd_o hf
    refine hs_cv (hs_runV C0 hH hS (n := 1) (As := [.int (M121 21 0 (ix (r88 + (3 : Int32))))]) (rest := []) (c_X8_writesNumber M121 (M121 21 0 (ix (r88 + (3 : Int32)))) hq124) ⟨⟨zt_1976, zt_1978, zs_65, zt_13, zt_1979⟩, rfl, by decide, by decide, by decide +kernel⟩ ⟨rfl, rfl, Nat.le_of_ble_eq_true rfl, Nat.le_of_ble_eq_true rfl⟩ (hs_recv hK hH 20 0 (by decide) 12 rfl rfl) rfl rfl hl.1 (Nat.le_of_ble_eq_true rfl) ⟨Nat.le_of_ble_eq_true rfl, Nat.le_of_ble_eq_true rfl⟩ dX8_formatLink_113) hS (fun H locs hH hS => ?_)
    refine lv_aload_n hx hb dX8_formatLink_116 rfl (lv_at hl 1 rfl) ?_
    refine hs_get hx hb (T := TX8) hA inAX8 hown hK hH 20 0 (by decide) 12 rfl rfl 0 (by decide) (hA _ zt_1551) rfl rfl dX8_formatLink_117 ?_
    refine lv_iload_n hx hb dX8_formatLink_120 rfl (lv_at hl 0 rfl) ?_
    refine lv_iconst (v := (4 : Int32)) hx hb dX8_formatLink_121 (by decide) ?_
    refine lv_iadd hx hb dX8_formatLink_122 ?_
    obtain ⟨hg127, hf⟩ := gd_o hf
    have bhg127 := vin_lt hg127
    refine hs_iald hx hb hK hH 21 0 (by decide) rfl hg127 rfl dX8_formatLink_123 ?_
    refine lv_iconst (v := (1 : Int32)) hx hb dX8_formatLink_124 (by decide) ?_
    refine lv_icmp_ne (tgt := 140) hx hb dX8_formatLink_125 (by decide) (fun hc134 => ?_) (fun hc134 => ?_)
    · have hf := if_f hf hc134
      exact w_X8_formatLink_140 C0 M125 a1 hf _ _ _ hH hS (lv_sub hl [1, 2] rfl)
    · have hf := if_t hf hc134
      refine lv_aload_n hx hb dX8_formatLink_128 rfl (lv_at hl 1 rfl) ?_
      refine lv_bipush (v := (32 : Int32)) hx hb dX8_formatLink_129 (by decide) ?_
      obtain ⟨M129, hq128, hf⟩ := bd_o hf
      refine hs_cv (hs_runV C0 hH hS (n := 1) (As := [.int (32 : Int32)]) (rest := []) (c_X8_sign M125 (32 : Int32) hq128) ⟨⟨zt_1972, zt_1974, zs_64, zt_13, zt_1975⟩, rfl, by decide, by decide, by decide +kernel⟩ ⟨rfl, rfl, Nat.le_of_ble_eq_true rfl, Nat.le_of_ble_eq_true rfl⟩ (hs_recv hK hH 20 0 (by decide) 12 rfl rfl) rfl rfl hl.1 (Nat.le_of_ble_eq_true rfl) ⟨Nat.le_of_ble_eq_true rfl, Nat.le_of_ble_eq_true rfl⟩ dX8_formatLink_131) hS (fun H locs hH hS => ?_)
      refine lv_aload_n hx hb dX8_formatLink_134 rfl (lv_at hl 1 rfl) ?_
      refine lv_bipush (v := (120 : Int32)) hx hb dX8_formatLink_135 (by decide) ?_
      obtain ⟨M132, hq131, hf⟩ := bd_o hf
      refine hs_cv (hs_runV C0 hH hS (n := 1) (As := [.int (120 : Int32)]) (rest := []) (c_X8_sign M129 (120 : Int32) hq131) ⟨⟨zt_1972, zt_1974, zs_64, zt_13, zt_1975⟩, rfl, by decide, by decide, by decide +kernel⟩ ⟨rfl, rfl, Nat.le_of_ble_eq_true rfl, Nat.le_of_ble_eq_true rfl⟩ (hs_recv hK hH 20 0 (by decide) 12 rfl rfl) rfl rfl hl.1 (Nat.le_of_ble_eq_true rfl) ⟨Nat.le_of_ble_eq_true rfl, Nat.le_of_ble_eq_true rfl⟩ dX8_formatLink_137) hS (fun H locs hH hS => ?_)
      exact w_X8_formatLink_140 C0 M132 a1 hf _ _ _ hH hS (lv_sub hl [1, 2] rfl)
  · have hf := if_t hf hc138
    refine lv_aload_n hx hb dX8_formatLink_13 rfl (lv_at hl 0 rfl) ?_
    refine lv_iconst (v := (1 : Int32)) hx hb dX8_formatLink_14 (by decide) ?_
    obtain ⟨r137, M136, hq135, hf⟩ := bd2_o hf
    refine hs_ci (hs_runV C0 hH hS (n := 1) (As := [.int (1 : Int32)]) (rest := []) (c_X8_throwing M84 (1 : Int32) hq135) ⟨⟨zt_1637, zt_1639, zs_34, zt_13, zt_1640⟩, rfl, by decide, by decide, by decide +kernel⟩ ⟨rfl, rfl, Nat.le_of_ble_eq_true rfl, Nat.le_of_ble_eq_true rfl⟩ (hs_recv hK hH 20 0 (by decide) 12 rfl rfl) rfl rfl hl.1 (Nat.le_of_ble_eq_true rfl) ⟨Nat.le_of_ble_eq_true rfl, Nat.le_of_ble_eq_true rfl⟩ dX8_formatLink_15) hS (fun H locs hH hS => ?_)
    cases hf
    exact hs_iret C0 hH hS (by decide) (by decide) dX8_formatLink_18
def f_X8_lineChar (M : Mem) (a1 : Int32) : Option (Int32 × Mem) := nm (mu M 20 0 9 (0 : Int32)) fun M11 => bd (f_X8_in M11 a1.toInt64 (0 : Int64) (((M11 20 0 15) - (1 : Int32)).toInt64)) fun r13 => (if r13 = 0 then bd2 (f_X8_throwing M11 (1 : Int32)) fun r16 M15 => if isC (((r16).toUInt32 % 65536).toInt32) then some (((r16).toUInt32 % 65536).toInt32, M15) else none else if vin a1 60 then (if isC ((((M11 29 0 (ix a1))).toUInt32 % 65536).toInt32) then some ((((M11 29 0 (ix a1))).toUInt32 % 65536).toInt32, M11) else none) else none)
set_option maxHeartbeats 4000000 in
set_option maxRecDepth 100000 in
theorem c_X8_lineChar {Y : LY} {l : Launch} (M : Mem) (a1 : Int32) {r : Int32} {MZ : Mem} (hf : f_X8_lineChar M a1 = some (r, MZ)) : Met l yX8_lineChar (WS yX8_lineChar cX8_lineChar 2 (Option.some Jvm.ClassFile.FieldType.char)) { frames := 1, cells := 0, slots := 0, locals := 25 } (PcM Y M [.ref (YA Y 20 0), .int a1]) (Qi Y r MZ) 0 0 (AZ Y) := by
  refine met_mk (lv := [(0, .ref (YA Y 20 0)), (1, .int a1)]) [.ref (YA Y 20 0), .int a1] (by decide) rfl rfl (Nat.le_of_ble_eq_true rfl) (fun p e s m below meth c C0 hH ls hl => ?_)
  have hS : va_S (AZ Y) s.heap s.heap [] := va_S.rf
  obtain ⟨hx, hb, hr, hml, hown, hA, hlocks, hK, hZ⟩ := id C0
  unfold f_X8_lineChar at hf
  refine lv_aload_n hx hb dX8_lineChar_0 rfl (lv_at hl 0 rfl) ?_
  refine lv_iconst (v := (0 : Int32)) hx hb dX8_lineChar_1 (by decide) ?_
  refine hs_put hx hb (T := TX8) hA inAX8 tyX8 tyX8_ok nmX8 hown hK hH hS 20 0 (by decide) 12 rfl rfl 9 (by decide) (hA _ zt_1560) rfl rfl (by decide +kernel) (Nat.le_of_ble_eq_true rfl) rfl dX8_lineChar_2 (fun H locs hH hS => ?_)
  obtain ⟨M11, eM11, hf⟩ := nm_o hf
  rw [← eM11] at hH
  refine lv_iload_n hx hb dX8_lineChar_5 rfl (lv_at hl 1 rfl) ?_
  refine lv_i2l (v := a1.toInt64) hx hb dX8_lineChar_6 rfl ?_
  refine lv_lconst (v := (0 : Int64)) hx hb dX8_lineChar_7 (by decide) ?_
  refine lv_aload_n hx hb dX8_lineChar_8 rfl (lv_at hl 0 rfl) ?_
  refine hs_get hx hb (T := TX8) hA inAX8 hown hK hH 20 0 (by decide) 12 rfl rfl 15 (by decide) (hA _ zt_1566) rfl rfl dX8_lineChar_9 ?_
  refine lv_iconst (v := (1 : Int32)) hx hb dX8_lineChar_12 (by decide) ?_
  refine lv_isub hx hb dX8_lineChar_13 ?_
  refine lv_i2l (v := ((M11 20 0 15) - (1 : Int32)).toInt64) hx hb dX8_lineChar_14 rfl ?_
  obtain ⟨r13, hq12, hf⟩ := bd_o hf
  refine hs_ci (hs_runS C0 hH hS (n := 3) (As := [.long a1.toInt64, .long (0 : Int64), .long (((M11 20 0 15) - (1 : Int32)).toInt64)]) (rest := []) (c_X8_in M11 a1.toInt64 (0 : Int64) (((M11 20 0 15) - (1 : Int32)).toInt64) hq12) ⟨⟨zt_1657, zt_1658, zt_13, zt_1659⟩, by decide, by decide, by decide +kernel⟩ ⟨rfl, rfl, Nat.le_of_ble_eq_true rfl, Nat.le_of_ble_eq_true rfl⟩ rfl rfl hl.1 (Nat.le_of_ble_eq_true rfl) ⟨Nat.le_of_ble_eq_true rfl, Nat.le_of_ble_eq_true rfl⟩ dX8_lineChar_15) hS (fun H locs hH hS => ?_)
  refine lv_if_eq (tgt := 31) hx hb dX8_lineChar_18 (by decide) (fun hc20 => ?_) (fun hc20 => ?_)
  · have hf := if_t hf hc20
    refine lv_aload_n hx hb dX8_lineChar_31 rfl (lv_at hl 0 rfl) ?_
    refine lv_iconst (v := (1 : Int32)) hx hb dX8_lineChar_32 (by decide) ?_
    obtain ⟨r16, M15, hq14, hf⟩ := bd2_o hf
    refine hs_ci (hs_runV C0 hH hS (n := 1) (As := [.int (1 : Int32)]) (rest := []) (c_X8_throwing M11 (1 : Int32) hq14) ⟨⟨zt_1637, zt_1639, zs_34, zt_13, zt_1640⟩, rfl, by decide, by decide, by decide +kernel⟩ ⟨rfl, rfl, Nat.le_of_ble_eq_true rfl, Nat.le_of_ble_eq_true rfl⟩ (hs_recv hK hH 20 0 (by decide) 12 rfl rfl) rfl rfl hl.1 (Nat.le_of_ble_eq_true rfl) ⟨Nat.le_of_ble_eq_true rfl, Nat.le_of_ble_eq_true rfl⟩ dX8_lineChar_33) hS (fun H locs hH hS => ?_)
    refine lv_i2c (v := ((r16).toUInt32 % 65536).toInt32) hx hb dX8_lineChar_36 rfl ?_
    obtain ⟨hg17, hf⟩ := gd_o hf
    cases hf
    exact hs_cret C0 hH hS (by decide) (by decide) hg17 dX8_lineChar_37
  · have hf := if_f hf hc20
    refine lv_aload_n hx hb dX8_lineChar_21 rfl (lv_at hl 0 rfl) ?_
    refine hs_get hx hb (T := TX8) hA inAX8 hown hK hH 20 0 (by decide) 12 rfl rfl 14 (by decide) (hA _ zt_1565) rfl rfl dX8_lineChar_22 ?_
    refine lv_iload_n hx hb dX8_lineChar_25 rfl (lv_at hl 1 rfl) ?_
    obtain ⟨hg18, hf⟩ := gd_o hf
    have bhg18 := vin_lt hg18
    refine hs_iald hx hb hK hH 29 0 (by decide) rfl hg18 rfl dX8_lineChar_26 ?_
    refine lv_i2c (v := (((M11 29 0 (ix a1))).toUInt32 % 65536).toInt32) hx hb dX8_lineChar_27 rfl ?_
    refine lv_goto (tgt := 37) hx hb dX8_lineChar_28 (by decide) ?_
    obtain ⟨hg19, hf⟩ := gd_o hf
    cases hf
    exact hs_cret C0 hH hS (by decide) (by decide) hg19 dX8_lineChar_37
def f_X8_append (M : Mem) (a1 : Int32) : Option (Int32 × Mem) := nm (mu M 20 0 9 (0 : Int32)) fun M15 => bd (f_X8_in M15 a1.toInt64 (32 : Int64) (126 : Int64)) fun r17 => (if r17 = 0 then bd2 (f_X8_throwing M15 (1 : Int32)) fun r27 M26 => some (r27, M26) else (if (M15 20 0 11) = (60 : Int32) then bd2 (f_X8_throwing M15 (2 : Int32)) fun r23 M22 => some (r23, M22) else if vin (M15 20 0 11) 60 then (nm (mu M15 26 0 (ix (M15 20 0 11)) a1) fun M19 => nm (mu M19 20 0 11 ((M19 20 0 11) + (1 : Int32))) fun M20 => some ((M20 20 0 11), M20)) else none))
set_option maxHeartbeats 4000000 in
set_option maxRecDepth 100000 in
theorem c_X8_append {Y : LY} {l : Launch} (M : Mem) (a1 : Int32) {r : Int32} {MZ : Mem} (hf : f_X8_append M a1 = some (r, MZ)) : Met l yX8_append (WS yX8_append cX8_append 2 (Option.some Jvm.ClassFile.FieldType.int)) { frames := 1, cells := 0, slots := 0, locals := 25 } (PcM Y M [.ref (YA Y 20 0), .int a1]) (Qi Y r MZ) 0 0 (AZ Y) := by
  refine met_mk (lv := [(0, .ref (YA Y 20 0)), (1, .int a1)]) [.ref (YA Y 20 0), .int a1] (by decide) rfl rfl (Nat.le_of_ble_eq_true rfl) (fun p e s m below meth c C0 hH ls hl => ?_)
  have hS : va_S (AZ Y) s.heap s.heap [] := va_S.rf
  obtain ⟨hx, hb, hr, hml, hown, hA, hlocks, hK, hZ⟩ := id C0
  unfold f_X8_append at hf
  refine lv_aload_n hx hb dX8_append_0 rfl (lv_at hl 0 rfl) ?_
  refine lv_iconst (v := (0 : Int32)) hx hb dX8_append_1 (by decide) ?_
  refine hs_put hx hb (T := TX8) hA inAX8 tyX8 tyX8_ok nmX8 hown hK hH hS 20 0 (by decide) 12 rfl rfl 9 (by decide) (hA _ zt_1560) rfl rfl (by decide +kernel) (Nat.le_of_ble_eq_true rfl) rfl dX8_append_2 (fun H locs hH hS => ?_)
  obtain ⟨M15, eM15, hf⟩ := nm_o hf
  rw [← eM15] at hH
  refine lv_iload_n hx hb dX8_append_5 rfl (lv_at hl 1 rfl) ?_
  refine lv_i2l (v := a1.toInt64) hx hb dX8_append_6 rfl ?_
  refine lv_ldc2 (v := (32 : Int64)) hx hb hown (hA _ zt_1992) dX8_append_7 ?_
  refine lv_ldc2 (v := (126 : Int64)) hx hb hown (hA _ zt_1993) dX8_append_10 ?_
  obtain ⟨r17, hq16, hf⟩ := bd_o hf
  refine hs_ci (hs_runS C0 hH hS (n := 3) (As := [.long a1.toInt64, .long (32 : Int64), .long (126 : Int64)]) (rest := []) (c_X8_in M15 a1.toInt64 (32 : Int64) (126 : Int64) hq16) ⟨⟨zt_1657, zt_1658, zt_13, zt_1659⟩, by decide, by decide, by decide +kernel⟩ ⟨rfl, rfl, Nat.le_of_ble_eq_true rfl, Nat.le_of_ble_eq_true rfl⟩ rfl rfl hl.1 (Nat.le_of_ble_eq_true rfl) ⟨Nat.le_of_ble_eq_true rfl, Nat.le_of_ble_eq_true rfl⟩ dX8_append_13) hS (fun H locs hH hS => ?_)
  refine lv_if_ne (tgt := 25) hx hb dX8_append_16 (by decide) (fun hc28 => ?_) (fun hc28 => ?_)
  · have hf := if_f hf hc28
    refine lv_aload_n hx hb dX8_append_25 rfl (lv_at hl 0 rfl) ?_
    refine hs_get hx hb (T := TX8) hA inAX8 hown hK hH 20 0 (by decide) 12 rfl rfl 11 (by decide) (hA _ zt_1562) rfl rfl dX8_append_26 ?_
    refine lv_bipush (v := (60 : Int32)) hx hb dX8_append_29 (by decide) ?_
    refine lv_icmp_ne (tgt := 40) hx hb dX8_append_31 (by decide) (fun hc24 => ?_) (fun hc24 => ?_)
    · have hf := if_f hf hc24
      refine lv_aload_n hx hb dX8_append_40 rfl (lv_at hl 0 rfl) ?_
      refine hs_get hx hb (T := TX8) hA inAX8 hown hK hH 20 0 (by decide) 12 rfl rfl 10 (by decide) (hA _ zt_1561) rfl rfl dX8_append_41 ?_
      refine lv_aload_n hx hb dX8_append_44 rfl (lv_at hl 0 rfl) ?_
      refine hs_get hx hb (T := TX8) hA inAX8 hown hK hH 20 0 (by decide) 12 rfl rfl 11 (by decide) (hA _ zt_1562) rfl rfl dX8_append_45 ?_
      refine lv_iload_n hx hb dX8_append_48 rfl (lv_at hl 1 rfl) ?_
      obtain ⟨hg18, hf⟩ := gd_o hf
      have bhg18 := vin_lt hg18
      refine hs_iast hx hb hK hH hS 26 0 (by decide) (fun _ => rfl) hg18 rfl dX8_append_49 (fun H locs hH hS => ?_)
      obtain ⟨M19, eM19, hf⟩ := nm_o hf
      rw [← eM19] at hH
      refine lv_aload_n hx hb dX8_append_50 rfl (lv_at hl 0 rfl) ?_
      refine lv_dup hx hb dX8_append_51 rfl ?_
      refine hs_get hx hb (T := TX8) hA inAX8 hown hK hH 20 0 (by decide) 12 rfl rfl 11 (by decide) (hA _ zt_1562) rfl rfl dX8_append_52 ?_
      refine lv_iconst (v := (1 : Int32)) hx hb dX8_append_55 (by decide) ?_
      refine lv_iadd hx hb dX8_append_56 ?_
      refine hs_put hx hb (T := TX8) hA inAX8 tyX8 tyX8_ok nmX8 hown hK hH hS 20 0 (by decide) 12 rfl rfl 11 (by decide) (hA _ zt_1562) rfl rfl (by decide +kernel) (Nat.le_of_ble_eq_true rfl) rfl dX8_append_57 (fun H locs hH hS => ?_)
      obtain ⟨M20, eM20, hf⟩ := nm_o hf
      rw [← eM20] at hH
      refine lv_aload_n hx hb dX8_append_60 rfl (lv_at hl 0 rfl) ?_
      refine hs_get hx hb (T := TX8) hA inAX8 hown hK hH 20 0 (by decide) 12 rfl rfl 11 (by decide) (hA _ zt_1562) rfl rfl dX8_append_61 ?_
      cases hf
      exact hs_iret C0 hH hS (by decide) (by decide) dX8_append_64
    · have hf := if_t hf hc24
      refine lv_aload_n hx hb dX8_append_34 rfl (lv_at hl 0 rfl) ?_
      refine lv_iconst (v := (2 : Int32)) hx hb dX8_append_35 (by decide) ?_
      obtain ⟨r23, M22, hq21, hf⟩ := bd2_o hf
      refine hs_ci (hs_runV C0 hH hS (n := 1) (As := [.int (2 : Int32)]) (rest := []) (c_X8_throwing M15 (2 : Int32) hq21) ⟨⟨zt_1637, zt_1639, zs_34, zt_13, zt_1640⟩, rfl, by decide, by decide, by decide +kernel⟩ ⟨rfl, rfl, Nat.le_of_ble_eq_true rfl, Nat.le_of_ble_eq_true rfl⟩ (hs_recv hK hH 20 0 (by decide) 12 rfl rfl) rfl rfl hl.1 (Nat.le_of_ble_eq_true rfl) ⟨Nat.le_of_ble_eq_true rfl, Nat.le_of_ble_eq_true rfl⟩ dX8_append_36) hS (fun H locs hH hS => ?_)
      cases hf
      exact hs_iret C0 hH hS (by decide) (by decide) dX8_append_39
  · have hf := if_t hf hc28
    refine lv_aload_n hx hb dX8_append_19 rfl (lv_at hl 0 rfl) ?_
    refine lv_iconst (v := (1 : Int32)) hx hb dX8_append_20 (by decide) ?_
    obtain ⟨r27, M26, hq25, hf⟩ := bd2_o hf
    refine hs_ci (hs_runV C0 hH hS (n := 1) (As := [.int (1 : Int32)]) (rest := []) (c_X8_throwing M15 (1 : Int32) hq25) ⟨⟨zt_1637, zt_1639, zs_34, zt_13, zt_1640⟩, rfl, by decide, by decide, by decide +kernel⟩ ⟨rfl, rfl, Nat.le_of_ble_eq_true rfl, Nat.le_of_ble_eq_true rfl⟩ (hs_recv hK hH 20 0 (by decide) 12 rfl rfl) rfl rfl hl.1 (Nat.le_of_ble_eq_true rfl) ⟨Nat.le_of_ble_eq_true rfl, Nat.le_of_ble_eq_true rfl⟩ dX8_append_21) hS (fun H locs hH hS => ?_)
    cases hf
    exact hs_iret C0 hH hS (by decide) (by decide) dX8_append_24
def f_X8_here (M : Mem) : Option Int32 := (if (M 20 0 21) ≤ (M 20 0 20) then some (-1 : Int32) else if vin (M 20 0 20) 60 then (some (M 26 0 (ix (M 20 0 20)))) else none)
set_option maxHeartbeats 4000000 in
set_option maxRecDepth 100000 in
theorem c_X8_here {Y : LY} {l : Launch} (M : Mem) {r : Int32} (hf : f_X8_here M = some r) : Met l yX8_here (WS yX8_here cX8_here 1 (Option.some Jvm.ClassFile.FieldType.int)) { frames := 0, cells := 0, slots := 0, locals := 0 } (PcM Y M [.ref (YA Y 20 0)]) (Qi Y r M) 0 0 (AZ Y) := by
  refine met_mk (lv := [(0, .ref (YA Y 20 0))]) [.ref (YA Y 20 0)] (by decide) rfl rfl (Nat.le_of_ble_eq_true rfl) (fun p e s m below meth c C0 hH ls hl => ?_)
  have hS : va_S (AZ Y) s.heap s.heap [] := va_S.rf
  obtain ⟨hx, hb, hr, hml, hown, hA, hlocks, hK, hZ⟩ := id C0
  unfold f_X8_here at hf
  refine lv_aload_n hx hb dX8_here_0 rfl (lv_at hl 0 rfl) ?_
  refine hs_get hx hb (T := TX8) hA inAX8 hown hK hH 20 0 (by decide) 12 rfl rfl 20 (by decide) (hA _ zt_1571) rfl rfl dX8_here_1 ?_
  refine lv_aload_n hx hb dX8_here_4 rfl (lv_at hl 0 rfl) ?_
  refine hs_get hx hb (T := TX8) hA inAX8 hown hK hH 20 0 (by decide) 12 rfl rfl 21 (by decide) (hA _ zt_1572) rfl rfl dX8_here_5 ?_
  refine lv_icmp_ge (tgt := 23) hx hb dX8_here_8 (by decide) (fun hc4 => ?_) (fun hc4 => ?_)
  · have hf := if_t hf hc4
    refine lv_iconst (v := (-1 : Int32)) hx hb dX8_here_23 (by decide) ?_
    cases hf
    exact hs_iret C0 hH hS (by decide) (by decide) dX8_here_24
  · have hf := if_f hf hc4
    refine lv_aload_n hx hb dX8_here_11 rfl (lv_at hl 0 rfl) ?_
    refine hs_get hx hb (T := TX8) hA inAX8 hown hK hH 20 0 (by decide) 12 rfl rfl 10 (by decide) (hA _ zt_1561) rfl rfl dX8_here_12 ?_
    refine lv_aload_n hx hb dX8_here_15 rfl (lv_at hl 0 rfl) ?_
    refine hs_get hx hb (T := TX8) hA inAX8 hown hK hH 20 0 (by decide) 12 rfl rfl 20 (by decide) (hA _ zt_1571) rfl rfl dX8_here_16 ?_
    obtain ⟨hg3, hf⟩ := gd_o hf
    have bhg3 := vin_lt hg3
    refine hs_iald hx hb hK hH 26 0 (by decide) rfl hg3 rfl dX8_here_19 ?_
    refine lv_goto (tgt := 24) hx hb dX8_here_20 (by decide) ?_
    cases hf
    exact hs_iret C0 hH hS (by decide) (by decide) dX8_here_24
def f_X8_expects_41 (M : Mem) (b0 : Int32) (b1 : Int32) : Option Mem := nm (mu M 20 0 20 (b1 + b0)) fun M9 => some M9
set_option maxHeartbeats 4000000 in
set_option maxRecDepth 100000 in
theorem w_X8_expects_41 {Y : LY} {p : Program} {l : Launch} {e : Env} {s : State} {m : MethodId} {args : Array Value} {below : List Frame} {meth : Method} {c : Code} (C0 : BE Y p s m args meth c cX8_expects 2 (Option.none : Option Jvm.ClassFile.FieldType) RX8) {MZ : Mem} : ∀ (M : Mem) (b0 : Int32) (b1 : Int32), f_X8_expects_41 M b0 b1 = some MZ → ∀ (H : Heap) (locs : List Loc) (ls : Array Slot), HS Y M H → va_S (AZ Y) s.heap H locs → lv_has ls 2 [] → W p l e { frames := 1, cells := 0, slots := 0, locals := 20 } s m args below meth c H locs 0 0 (MQ below (Qv Y MZ) args s 0 0 (AZ Y)) (F0 m 41 ls [.int b0, .int b1, .ref (YA Y 20 0)]) := by
  obtain ⟨hx, hb, hr, hml, hown, hA, hlocks, hK, hZ⟩ := id C0
  intro M b0 b1 hf H locs ls hH hS hl
  unfold f_X8_expects_41 at hf
  refine lv_iadd hx hb dX8_expects_41 ?_
  refine hs_put hx hb (T := TX8) hA inAX8 tyX8 tyX8_ok nmX8 hown hK hH hS 20 0 (by decide) 12 rfl rfl 20 (by decide) (hA _ zt_1571) rfl rfl (by decide +kernel) (Nat.le_of_ble_eq_true rfl) rfl dX8_expects_42 (fun H locs hH hS => ?_)
  obtain ⟨M9, eM9, hf⟩ := nm_o hf
  rw [← eM9] at hH
  cases hf
  exact hs_vret C0 hH hS (by decide) (by decide) dX8_expects_45
def f_X8_expects_21 (M : Mem) (b0 : Int32) : Option Mem := if isB b0 then (nm (mu M 20 0 22 b0) fun M10 => (if (M10 20 0 22) = 0 then f_X8_expects_41 M10 (1 : Int32) (M10 20 0 20) else f_X8_expects_41 M10 (0 : Int32) (M10 20 0 20))) else none
set_option maxHeartbeats 4000000 in
set_option maxRecDepth 100000 in
theorem w_X8_expects_21 {Y : LY} {p : Program} {l : Launch} {e : Env} {s : State} {m : MethodId} {args : Array Value} {below : List Frame} {meth : Method} {c : Code} (C0 : BE Y p s m args meth c cX8_expects 2 (Option.none : Option Jvm.ClassFile.FieldType) RX8) {MZ : Mem} : ∀ (M : Mem) (b0 : Int32), f_X8_expects_21 M b0 = some MZ → ∀ (H : Heap) (locs : List Loc) (ls : Array Slot), HS Y M H → va_S (AZ Y) s.heap H locs → lv_has ls 2 [(0, .ref (YA Y 20 0))] → W p l e { frames := 1, cells := 0, slots := 0, locals := 20 } s m args below meth c H locs 0 0 (MQ below (Qv Y MZ) args s 0 0 (AZ Y)) (F0 m 21 ls [.int b0, .ref (YA Y 20 0)]) := by
  obtain ⟨hx, hb, hr, hml, hown, hA, hlocks, hK, hZ⟩ := id C0
  intro M b0 hf H locs ls hH hS hl
  unfold f_X8_expects_21 at hf
  obtain ⟨hg11, hf⟩ := gd_o hf
  refine hs_putz hx hb (T := TX8) hA inAX8 tyX8 tyX8_ok nmX8 hown hK hH hS 20 0 (by decide) 12 rfl rfl 22 (by decide) (hA _ zt_1573) rfl rfl (by decide +kernel) hg11 (Nat.le_of_ble_eq_true rfl) rfl dX8_expects_21 (fun H locs hH hS => ?_)
  obtain ⟨M10, eM10, hf⟩ := nm_o hf
  rw [← eM10] at hH
  refine lv_aload_n hx hb dX8_expects_24 rfl (lv_at hl 0 rfl) ?_
  refine lv_dup hx hb dX8_expects_25 rfl ?_
  refine hs_get hx hb (T := TX8) hA inAX8 hown hK hH 20 0 (by decide) 12 rfl rfl 20 (by decide) (hA _ zt_1571) rfl rfl dX8_expects_26 ?_
  refine lv_aload_n hx hb dX8_expects_29 rfl (lv_at hl 0 rfl) ?_
  refine hs_get hx hb (T := TX8) hA inAX8 hown hK hH 20 0 (by decide) 12 rfl rfl 22 (by decide) (hA _ zt_1573) rfl rfl dX8_expects_30 ?_
  refine lv_if_eq (tgt := 40) hx hb dX8_expects_33 (by decide) (fun hc12 => ?_) (fun hc12 => ?_)
  · have hf := if_t hf hc12
    refine lv_iconst (v := (1 : Int32)) hx hb dX8_expects_40 (by decide) ?_
    exact w_X8_expects_41 C0 M10 (1 : Int32) (M10 20 0 20) hf _ _ _ hH hS (lv_sub hl [] rfl)
  · have hf := if_f hf hc12
    refine lv_iconst (v := (0 : Int32)) hx hb dX8_expects_36 (by decide) ?_
    refine lv_goto (tgt := 41) hx hb dX8_expects_37 (by decide) ?_
    exact w_X8_expects_41 C0 M10 (0 : Int32) (M10 20 0 20) hf _ _ _ hH hS (lv_sub hl [] rfl)
def f_X8_expects_16 (M : Mem) : Option Mem := f_X8_expects_21 M (1 : Int32)
set_option maxHeartbeats 4000000 in
set_option maxRecDepth 100000 in
theorem w_X8_expects_16 {Y : LY} {p : Program} {l : Launch} {e : Env} {s : State} {m : MethodId} {args : Array Value} {below : List Frame} {meth : Method} {c : Code} (C0 : BE Y p s m args meth c cX8_expects 2 (Option.none : Option Jvm.ClassFile.FieldType) RX8) {MZ : Mem} : ∀ (M : Mem), f_X8_expects_16 M = some MZ → ∀ (H : Heap) (locs : List Loc) (ls : Array Slot), HS Y M H → va_S (AZ Y) s.heap H locs → lv_has ls 2 [(0, .ref (YA Y 20 0))] → W p l e { frames := 1, cells := 0, slots := 0, locals := 20 } s m args below meth c H locs 0 0 (MQ below (Qv Y MZ) args s 0 0 (AZ Y)) (F0 m 16 ls [.ref (YA Y 20 0)]) := by
  obtain ⟨hx, hb, hr, hml, hown, hA, hlocks, hK, hZ⟩ := id C0
  intro M hf H locs ls hH hS hl
  unfold f_X8_expects_16 at hf
  refine lv_iconst (v := (1 : Int32)) hx hb dX8_expects_16 (by decide) ?_
  refine lv_goto (tgt := 21) hx hb dX8_expects_17 (by decide) ?_
  exact w_X8_expects_21 C0 M (1 : Int32) hf _ _ _ hH hS (lv_sub hl [0] rfl)
def f_X8_expects (M : Mem) (a1 : Int32) : Option Mem := (if (M 20 0 22) = 0 then bd (f_X8_here M) fun r14 => (if r14 = a1 then f_X8_expects_21 M (0 : Int32) else f_X8_expects_16 M) else f_X8_expects_16 M)
set_option maxHeartbeats 4000000 in
set_option maxRecDepth 100000 in
theorem c_X8_expects {Y : LY} {l : Launch} (M : Mem) (a1 : Int32) {MZ : Mem} (hf : f_X8_expects M a1 = some MZ) : Met l yX8_expects (WS yX8_expects cX8_expects 2 (Option.none : Option Jvm.ClassFile.FieldType)) { frames := 1, cells := 0, slots := 0, locals := 20 } (PcM Y M [.ref (YA Y 20 0), .int a1]) (Qv Y MZ) 0 0 (AZ Y) := by
  refine met_mk (lv := [(0, .ref (YA Y 20 0)), (1, .int a1)]) [.ref (YA Y 20 0), .int a1] (by decide) rfl rfl (Nat.le_of_ble_eq_true rfl) (fun p e s m below meth c C0 hH ls hl => ?_)
  have hS : va_S (AZ Y) s.heap s.heap [] := va_S.rf
  obtain ⟨hx, hb, hr, hml, hown, hA, hlocks, hK, hZ⟩ := id C0
  unfold f_X8_expects at hf
  refine lv_aload_n hx hb dX8_expects_0 rfl (lv_at hl 0 rfl) ?_
  refine lv_aload_n hx hb dX8_expects_1 rfl (lv_at hl 0 rfl) ?_
  refine hs_get hx hb (T := TX8) hA inAX8 hown hK hH 20 0 (by decide) 12 rfl rfl 22 (by decide) (hA _ zt_1573) rfl rfl dX8_expects_2 ?_
  refine lv_if_ne (tgt := 16) hx hb dX8_expects_5 (by decide) (fun hc16 => ?_) (fun hc16 => ?_)
  · have hf := if_f hf hc16
    exact w_X8_expects_16 C0 M hf _ _ _ hH hS (lv_sub hl [0] rfl)
  · have hf := if_t hf hc16
    refine lv_aload_n hx hb dX8_expects_8 rfl (lv_at hl 0 rfl) ?_
    obtain ⟨r14, hq13, hf⟩ := bd_o hf
    refine hs_ci (hs_runV C0 hH hS (n := 0) (As := []) (rest := [.ref (YA Y 20 0)]) (c_X8_here M hq13) ⟨⟨zt_2014, zt_2016, zs_70, zt_13, zt_2017⟩, rfl, by decide, by decide, by decide +kernel⟩ ⟨rfl, rfl, Nat.le_of_ble_eq_true rfl, Nat.le_of_ble_eq_true rfl⟩ (hs_recv hK hH 20 0 (by decide) 12 rfl rfl) rfl rfl hl.1 (Nat.le_of_ble_eq_true rfl) ⟨Nat.le_of_ble_eq_true rfl, Nat.le_of_ble_eq_true rfl⟩ dX8_expects_9) hS (fun H locs hH hS => ?_)
    refine lv_iload_n hx hb dX8_expects_12 rfl (lv_at hl 1 rfl) ?_
    refine lv_icmp_eq (tgt := 20) hx hb dX8_expects_13 (by decide) (fun hc15 => ?_) (fun hc15 => ?_)
    · have hf := if_t hf hc15
      refine lv_iconst (v := (0 : Int32)) hx hb dX8_expects_20 (by decide) ?_
      exact w_X8_expects_21 C0 M (0 : Int32) hf _ _ _ hH hS (lv_sub hl [0] rfl)
    · have hf := if_f hf hc15
      exact w_X8_expects_16 C0 M hf _ _ _ hH hS (lv_sub hl [0] rfl)
def f_X8_digit_69 (M : Mem) (a1 : Int32) (b0 : Int32) (b1 : Int32) : Option (Int32 × Mem) := nm (mu M 20 0 20 (b1 + b0)) fun M14 => some (a1, M14)
set_option maxHeartbeats 4000000 in
set_option maxRecDepth 100000 in
theorem w_X8_digit_69 {Y : LY} {p : Program} {l : Launch} {e : Env} {s : State} {m : MethodId} {args : Array Value} {below : List Frame} {meth : Method} {c : Code} (C0 : BE Y p s m args meth c cX8_digit 2 (Option.some Jvm.ClassFile.FieldType.int) RX8) {r : Int32} {MZ : Mem} : ∀ (M : Mem) (a1 : Int32) (b0 : Int32) (b1 : Int32), f_X8_digit_69 M a1 b0 b1 = some (r, MZ) → ∀ (H : Heap) (locs : List Loc) (ls : Array Slot), HS Y M H → va_S (AZ Y) s.heap H locs → lv_has ls 2 [(1, .int a1)] → W p l e { frames := 1, cells := 0, slots := 0, locals := 25 } s m args below meth c H locs 0 0 (MQ below (Qi Y r MZ) args s 0 0 (AZ Y)) (F0 m 69 ls [.int b0, .int b1, .ref (YA Y 20 0)]) := by
  obtain ⟨hx, hb, hr, hml, hown, hA, hlocks, hK, hZ⟩ := id C0
  intro M a1 b0 b1 hf H locs ls hH hS hl
  unfold f_X8_digit_69 at hf
  refine lv_iadd hx hb dX8_digit_69 ?_
  refine hs_put hx hb (T := TX8) hA inAX8 tyX8 tyX8_ok nmX8 hown hK hH hS 20 0 (by decide) 12 rfl rfl 20 (by decide) (hA _ zt_1571) rfl rfl (by decide +kernel) (Nat.le_of_ble_eq_true rfl) rfl dX8_digit_70 (fun H locs hH hS => ?_)
  obtain ⟨M14, eM14, hf⟩ := nm_o hf
  rw [← eM14] at hH
  refine lv_iload_n hx hb dX8_digit_73 rfl (lv_at hl 0 rfl) ?_
  cases hf
  exact hs_iret C0 hH hS (by decide) (by decide) dX8_digit_74
def f_X8_digit_51 (M : Mem) (b0 : Int32) : Option (Int32 × Mem) := (if (M 20 0 22) = 0 then f_X8_digit_69 M b0 (1 : Int32) (M 20 0 20) else f_X8_digit_69 M b0 (0 : Int32) (M 20 0 20))
set_option maxHeartbeats 4000000 in
set_option maxRecDepth 100000 in
theorem w_X8_digit_51 {Y : LY} {p : Program} {l : Launch} {e : Env} {s : State} {m : MethodId} {args : Array Value} {below : List Frame} {meth : Method} {c : Code} (C0 : BE Y p s m args meth c cX8_digit 2 (Option.some Jvm.ClassFile.FieldType.int) RX8) {r : Int32} {MZ : Mem} : ∀ (M : Mem) (b0 : Int32), f_X8_digit_51 M b0 = some (r, MZ) → ∀ (H : Heap) (locs : List Loc) (ls : Array Slot), HS Y M H → va_S (AZ Y) s.heap H locs → lv_has ls 2 [(0, .ref (YA Y 20 0))] → W p l e { frames := 1, cells := 0, slots := 0, locals := 25 } s m args below meth c H locs 0 0 (MQ below (Qi Y r MZ) args s 0 0 (AZ Y)) (F0 m 51 ls [.int b0]) := by
  obtain ⟨hx, hb, hr, hml, hown, hA, hlocks, hK, hZ⟩ := id C0
  intro M b0 hf H locs ls hH hS hl
  unfold f_X8_digit_51 at hf
  refine lv_istore_n (lv' := [(1, .int b0), (0, .ref (YA Y 20 0))]) hx hb dX8_digit_51 rfl hl (by decide) rfl (fun ls hl => ?_)
  refine lv_aload_n hx hb dX8_digit_52 rfl (lv_at hl 1 rfl) ?_
  refine lv_dup hx hb dX8_digit_53 rfl ?_
  refine hs_get hx hb (T := TX8) hA inAX8 hown hK hH 20 0 (by decide) 12 rfl rfl 20 (by decide) (hA _ zt_1571) rfl rfl dX8_digit_54 ?_
  refine lv_aload_n hx hb dX8_digit_57 rfl (lv_at hl 1 rfl) ?_
  refine hs_get hx hb (T := TX8) hA inAX8 hown hK hH 20 0 (by decide) 12 rfl rfl 22 (by decide) (hA _ zt_1573) rfl rfl dX8_digit_58 ?_
  refine lv_if_eq (tgt := 68) hx hb dX8_digit_61 (by decide) (fun hc15 => ?_) (fun hc15 => ?_)
  · have hf := if_t hf hc15
    refine lv_iconst (v := (1 : Int32)) hx hb dX8_digit_68 (by decide) ?_
    exact w_X8_digit_69 C0 M b0 (1 : Int32) (M 20 0 20) hf _ _ _ hH hS (lv_sub hl [0] rfl)
  · have hf := if_f hf hc15
    refine lv_iconst (v := (0 : Int32)) hx hb dX8_digit_64 (by decide) ?_
    refine lv_goto (tgt := 69) hx hb dX8_digit_65 (by decide) ?_
    exact w_X8_digit_69 C0 M b0 (0 : Int32) (M 20 0 20) hf _ _ _ hH hS (lv_sub hl [0] rfl)
def f_X8_digit_30 (M : Mem) (b0 : Int32) : Option (Int32 × Mem) := if isB b0 then (nm (mu M 20 0 22 b0) fun M16 => (if (M16 20 0 22) = 0 then bd (f_X8_here M16) fun r19 => f_X8_digit_51 M16 (r19 - (48 : Int32)) else f_X8_digit_51 M16 (0 : Int32))) else none
set_option maxHeartbeats 4000000 in
set_option maxRecDepth 100000 in
theorem w_X8_digit_30 {Y : LY} {p : Program} {l : Launch} {e : Env} {s : State} {m : MethodId} {args : Array Value} {below : List Frame} {meth : Method} {c : Code} (C0 : BE Y p s m args meth c cX8_digit 2 (Option.some Jvm.ClassFile.FieldType.int) RX8) {r : Int32} {MZ : Mem} : ∀ (M : Mem) (b0 : Int32), f_X8_digit_30 M b0 = some (r, MZ) → ∀ (H : Heap) (locs : List Loc) (ls : Array Slot), HS Y M H → va_S (AZ Y) s.heap H locs → lv_has ls 2 [(0, .ref (YA Y 20 0))] → W p l e { frames := 1, cells := 0, slots := 0, locals := 25 } s m args below meth c H locs 0 0 (MQ below (Qi Y r MZ) args s 0 0 (AZ Y)) (F0 m 30 ls [.int b0, .ref (YA Y 20 0)]) := by
  obtain ⟨hx, hb, hr, hml, hown, hA, hlocks, hK, hZ⟩ := id C0
  intro M b0 hf H locs ls hH hS hl
  unfold f_X8_digit_30 at hf
  obtain ⟨hg17, hf⟩ := gd_o hf
  refine hs_putz hx hb (T := TX8) hA inAX8 tyX8 tyX8_ok nmX8 hown hK hH hS 20 0 (by decide) 12 rfl rfl 22 (by decide) (hA _ zt_1573) rfl rfl (by decide +kernel) hg17 (Nat.le_of_ble_eq_true rfl) rfl dX8_digit_30 (fun H locs hH hS => ?_)
  obtain ⟨M16, eM16, hf⟩ := nm_o hf
  rw [← eM16] at hH
  refine lv_aload_n hx hb dX8_digit_33 rfl (lv_at hl 0 rfl) ?_
  refine hs_get hx hb (T := TX8) hA inAX8 hown hK hH 20 0 (by decide) 12 rfl rfl 22 (by decide) (hA _ zt_1573) rfl rfl dX8_digit_34 ?_
  refine lv_if_eq (tgt := 44) hx hb dX8_digit_37 (by decide) (fun hc20 => ?_) (fun hc20 => ?_)
  · have hf := if_t hf hc20
    refine lv_aload_n hx hb dX8_digit_44 rfl (lv_at hl 0 rfl) ?_
    obtain ⟨r19, hq18, hf⟩ := bd_o hf
    refine hs_ci (hs_runV C0 hH hS (n := 0) (As := []) (rest := []) (c_X8_here M16 hq18) ⟨⟨zt_2014, zt_2016, zs_70, zt_13, zt_2017⟩, rfl, by decide, by decide, by decide +kernel⟩ ⟨rfl, rfl, Nat.le_of_ble_eq_true rfl, Nat.le_of_ble_eq_true rfl⟩ (hs_recv hK hH 20 0 (by decide) 12 rfl rfl) rfl rfl hl.1 (Nat.le_of_ble_eq_true rfl) ⟨Nat.le_of_ble_eq_true rfl, Nat.le_of_ble_eq_true rfl⟩ dX8_digit_45) hS (fun H locs hH hS => ?_)
    refine lv_bipush (v := (48 : Int32)) hx hb dX8_digit_48 (by decide) ?_
    refine lv_isub hx hb dX8_digit_50 ?_
    exact w_X8_digit_51 C0 M16 (r19 - (48 : Int32)) hf _ _ _ hH hS (lv_sub hl [0] rfl)
  · have hf := if_f hf hc20
    refine lv_iconst (v := (0 : Int32)) hx hb dX8_digit_40 (by decide) ?_
    refine lv_goto (tgt := 51) hx hb dX8_digit_41 (by decide) ?_
    exact w_X8_digit_51 C0 M16 (0 : Int32) hf _ _ _ hH hS (lv_sub hl [0] rfl)
def f_X8_digit_25 (M : Mem) : Option (Int32 × Mem) := f_X8_digit_30 M (1 : Int32)
set_option maxHeartbeats 4000000 in
set_option maxRecDepth 100000 in
theorem w_X8_digit_25 {Y : LY} {p : Program} {l : Launch} {e : Env} {s : State} {m : MethodId} {args : Array Value} {below : List Frame} {meth : Method} {c : Code} (C0 : BE Y p s m args meth c cX8_digit 2 (Option.some Jvm.ClassFile.FieldType.int) RX8) {r : Int32} {MZ : Mem} : ∀ (M : Mem), f_X8_digit_25 M = some (r, MZ) → ∀ (H : Heap) (locs : List Loc) (ls : Array Slot), HS Y M H → va_S (AZ Y) s.heap H locs → lv_has ls 2 [(0, .ref (YA Y 20 0))] → W p l e { frames := 1, cells := 0, slots := 0, locals := 25 } s m args below meth c H locs 0 0 (MQ below (Qi Y r MZ) args s 0 0 (AZ Y)) (F0 m 25 ls [.ref (YA Y 20 0)]) := by
  obtain ⟨hx, hb, hr, hml, hown, hA, hlocks, hK, hZ⟩ := id C0
  intro M hf H locs ls hH hS hl
  unfold f_X8_digit_25 at hf
  refine lv_iconst (v := (1 : Int32)) hx hb dX8_digit_25 (by decide) ?_
  refine lv_goto (tgt := 30) hx hb dX8_digit_26 (by decide) ?_
  exact w_X8_digit_30 C0 M (1 : Int32) hf _ _ _ hH hS (lv_sub hl [0] rfl)
def f_X8_digit (M : Mem) : Option (Int32 × Mem) := (if (M 20 0 22) = 0 then bd (f_X8_here M) fun r22 => bd (f_X8_in M r22.toInt64 (48 : Int64) (57 : Int64)) fun r24 => (if r24 = 0 then f_X8_digit_25 M else f_X8_digit_30 M (0 : Int32)) else f_X8_digit_25 M)
set_option maxHeartbeats 4000000 in
set_option maxRecDepth 100000 in
theorem c_X8_digit {Y : LY} {l : Launch} (M : Mem) {r : Int32} {MZ : Mem} (hf : f_X8_digit M = some (r, MZ)) : Met l yX8_digit (WS yX8_digit cX8_digit 2 (Option.some Jvm.ClassFile.FieldType.int)) { frames := 1, cells := 0, slots := 0, locals := 25 } (PcM Y M [.ref (YA Y 20 0)]) (Qi Y r MZ) 0 0 (AZ Y) := by
  refine met_mk (lv := [(0, .ref (YA Y 20 0))]) [.ref (YA Y 20 0)] (by decide) rfl rfl (Nat.le_of_ble_eq_true rfl) (fun p e s m below meth c C0 hH ls hl => ?_)
  have hS : va_S (AZ Y) s.heap s.heap [] := va_S.rf
  obtain ⟨hx, hb, hr, hml, hown, hA, hlocks, hK, hZ⟩ := id C0
  unfold f_X8_digit at hf
  refine lv_aload_n hx hb dX8_digit_0 rfl (lv_at hl 0 rfl) ?_
  refine lv_aload_n hx hb dX8_digit_1 rfl (lv_at hl 0 rfl) ?_
  refine hs_get hx hb (T := TX8) hA inAX8 hown hK hH 20 0 (by decide) 12 rfl rfl 22 (by decide) (hA _ zt_1573) rfl rfl dX8_digit_2 ?_
  refine lv_if_ne (tgt := 25) hx hb dX8_digit_5 (by decide) (fun hc26 => ?_) (fun hc26 => ?_)
  · have hf := if_f hf hc26
    exact w_X8_digit_25 C0 M hf _ _ _ hH hS (lv_sub hl [0] rfl)
  · have hf := if_t hf hc26
    refine lv_aload_n hx hb dX8_digit_8 rfl (lv_at hl 0 rfl) ?_
    obtain ⟨r22, hq21, hf⟩ := bd_o hf
    refine hs_ci (hs_runV C0 hH hS (n := 0) (As := []) (rest := [.ref (YA Y 20 0)]) (c_X8_here M hq21) ⟨⟨zt_2014, zt_2016, zs_70, zt_13, zt_2017⟩, rfl, by decide, by decide, by decide +kernel⟩ ⟨rfl, rfl, Nat.le_of_ble_eq_true rfl, Nat.le_of_ble_eq_true rfl⟩ (hs_recv hK hH 20 0 (by decide) 12 rfl rfl) rfl rfl hl.1 (Nat.le_of_ble_eq_true rfl) ⟨Nat.le_of_ble_eq_true rfl, Nat.le_of_ble_eq_true rfl⟩ dX8_digit_9) hS (fun H locs hH hS => ?_)
    refine lv_i2l (v := r22.toInt64) hx hb dX8_digit_12 rfl ?_
    refine lv_ldc2 (v := (48 : Int64)) hx hb hown (hA _ zt_2018) dX8_digit_13 ?_
    refine lv_ldc2 (v := (57 : Int64)) hx hb hown (hA _ zt_2019) dX8_digit_16 ?_
    obtain ⟨r24, hq23, hf⟩ := bd_o hf
    refine hs_ci (hs_runS C0 hH hS (n := 3) (As := [.long r22.toInt64, .long (48 : Int64), .long (57 : Int64)]) (rest := [.ref (YA Y 20 0)]) (c_X8_in M r22.toInt64 (48 : Int64) (57 : Int64) hq23) ⟨⟨zt_1657, zt_1658, zt_13, zt_1659⟩, by decide, by decide, by decide +kernel⟩ ⟨rfl, rfl, Nat.le_of_ble_eq_true rfl, Nat.le_of_ble_eq_true rfl⟩ rfl rfl hl.1 (Nat.le_of_ble_eq_true rfl) ⟨Nat.le_of_ble_eq_true rfl, Nat.le_of_ble_eq_true rfl⟩ dX8_digit_19) hS (fun H locs hH hS => ?_)
    refine lv_if_ne (tgt := 29) hx hb dX8_digit_22 (by decide) (fun hc25 => ?_) (fun hc25 => ?_)
    · have hf := if_f hf hc25
      refine lv_iconst (v := (0 : Int32)) hx hb dX8_digit_29 (by decide) ?_
      exact w_X8_digit_30 C0 M (0 : Int32) hf _ _ _ hH hS (lv_sub hl [0] rfl)
    · have hf := if_t hf hc25
      exact w_X8_digit_25 C0 M hf _ _ _ hH hS (lv_sub hl [0] rfl)
def f_X8_number_7 : Nat → Mem → Int32 → Int32 → Option (Int32 × Mem)
  | 0, _, _, _ => none
  | n + 1, M, a1, a2 => (if (2 : Int32) ≤ a2 then some (a1, M) else (if (M 20 0 22) = 0 then bd (f_X8_here M) fun r15 => bd (f_X8_in M r15.toInt64 (48 : Int64) (57 : Int64)) fun r17 => (if r17 = 0 then some (a1, M) else bd2 (f_X8_digit M) fun r20 M19 => f_X8_number_7 n M19 (((10 : Int32) * a1) + r20) (a2 + (1 : Int32))) else some (a1, M)))
set_option maxHeartbeats 4000000 in
set_option maxRecDepth 100000 in
theorem w_X8_number_7 {Y : LY} {p : Program} {l : Launch} {e : Env} {s : State} {m : MethodId} {args : Array Value} {below : List Frame} {meth : Method} {c : Code} (C0 : BE Y p s m args meth c cX8_number 3 (Option.some Jvm.ClassFile.FieldType.int) RX8) {r : Int32} {MZ : Mem} : ∀ (n : Nat) (M : Mem) (a1 : Int32) (a2 : Int32), f_X8_number_7 n M a1 a2 = some (r, MZ) → ∀ (H : Heap) (locs : List Loc) (ls : Array Slot), HS Y M H → va_S (AZ Y) s.heap H locs → lv_has ls 3 [(0, .ref (YA Y 20 0)), (1, .int a1), (2, .int a2)] → W p l e { frames := 2, cells := 0, slots := 0, locals := 46 } s m args below meth c H locs 0 0 (MQ below (Qi Y r MZ) args s 0 0 (AZ Y)) (F0 m 7 ls []) := by
  obtain ⟨hx, hb, hr, hml, hown, hA, hlocks, hK, hZ⟩ := id C0
  intro n
  induction n with
  | zero =>
    intro M a1 a2 hf
    cases hf
  | succ n ih =>
    intro M a1 a2 hf H locs ls hH hS hl
    rw [f_X8_number_7] at hf
    refine lv_iload_n hx hb dX8_number_7 rfl (lv_at hl 2 rfl) ?_
    refine lv_iconst (v := (2 : Int32)) hx hb dX8_number_8 (by decide) ?_
    refine lv_icmp_ge (tgt := 52) hx hb dX8_number_9 (by decide) (fun hc23 => ?_) (fun hc23 => ?_)
    · have hf := if_t hf hc23
      refine lv_iload_n hx hb dX8_number_52 rfl (lv_at hl 1 rfl) ?_
      cases hf
      exact hs_iret C0 hH hS (by decide) (by decide) dX8_number_53
    · have hf := if_f hf hc23
      refine lv_aload_n hx hb dX8_number_12 rfl (lv_at hl 0 rfl) ?_
      refine hs_get hx hb (T := TX8) hA inAX8 hown hK hH 20 0 (by decide) 12 rfl rfl 22 (by decide) (hA _ zt_1573) rfl rfl dX8_number_13 ?_
      refine lv_if_ne (tgt := 52) hx hb dX8_number_16 (by decide) (fun hc22 => ?_) (fun hc22 => ?_)
      · have hf := if_f hf hc22
        refine lv_iload_n hx hb dX8_number_52 rfl (lv_at hl 1 rfl) ?_
        cases hf
        exact hs_iret C0 hH hS (by decide) (by decide) dX8_number_53
      · have hf := if_t hf hc22
        refine lv_aload_n hx hb dX8_number_19 rfl (lv_at hl 0 rfl) ?_
        obtain ⟨r15, hq14, hf⟩ := bd_o hf
        refine hs_ci (hs_runV C0 hH hS (n := 0) (As := []) (rest := []) (c_X8_here M hq14) ⟨⟨zt_2014, zt_2016, zs_70, zt_13, zt_2017⟩, rfl, by decide, by decide, by decide +kernel⟩ ⟨rfl, rfl, Nat.le_of_ble_eq_true rfl, Nat.le_of_ble_eq_true rfl⟩ (hs_recv hK hH 20 0 (by decide) 12 rfl rfl) rfl rfl hl.1 (Nat.le_of_ble_eq_true rfl) ⟨Nat.le_of_ble_eq_true rfl, Nat.le_of_ble_eq_true rfl⟩ dX8_number_20) hS (fun H locs hH hS => ?_)
        refine lv_i2l (v := r15.toInt64) hx hb dX8_number_23 rfl ?_
        refine lv_ldc2 (v := (48 : Int64)) hx hb hown (hA _ zt_2018) dX8_number_24 ?_
        refine lv_ldc2 (v := (57 : Int64)) hx hb hown (hA _ zt_2019) dX8_number_27 ?_
        obtain ⟨r17, hq16, hf⟩ := bd_o hf
        refine hs_ci (hs_runS C0 hH hS (n := 3) (As := [.long r15.toInt64, .long (48 : Int64), .long (57 : Int64)]) (rest := []) (c_X8_in M r15.toInt64 (48 : Int64) (57 : Int64) hq16) ⟨⟨zt_1657, zt_1658, zt_13, zt_1659⟩, by decide, by decide, by decide +kernel⟩ ⟨rfl, rfl, Nat.le_of_ble_eq_true rfl, Nat.le_of_ble_eq_true rfl⟩ rfl rfl hl.1 (Nat.le_of_ble_eq_true rfl) ⟨Nat.le_of_ble_eq_true rfl, Nat.le_of_ble_eq_true rfl⟩ dX8_number_30) hS (fun H locs hH hS => ?_)
        refine lv_if_eq (tgt := 52) hx hb dX8_number_33 (by decide) (fun hc21 => ?_) (fun hc21 => ?_)
        · have hf := if_t hf hc21
          refine lv_iload_n hx hb dX8_number_52 rfl (lv_at hl 1 rfl) ?_
          cases hf
          exact hs_iret C0 hH hS (by decide) (by decide) dX8_number_53
        · have hf := if_f hf hc21
          refine lv_bipush (v := (10 : Int32)) hx hb dX8_number_36 (by decide) ?_
          refine lv_iload_n hx hb dX8_number_38 rfl (lv_at hl 1 rfl) ?_
          refine lv_imul hx hb dX8_number_39 ?_
          refine lv_aload_n hx hb dX8_number_40 rfl (lv_at hl 0 rfl) ?_
          obtain ⟨r20, M19, hq18, hf⟩ := bd2_o hf
          refine hs_ci (hs_runV C0 hH hS (n := 0) (As := []) (rest := [.int ((10 : Int32) * a1)]) (c_X8_digit M hq18) ⟨⟨zt_2010, zt_2012, zs_69, zt_13, zt_2013⟩, rfl, by decide, by decide, by decide +kernel⟩ ⟨rfl, rfl, Nat.le_of_ble_eq_true rfl, Nat.le_of_ble_eq_true rfl⟩ (hs_recv hK hH 20 0 (by decide) 12 rfl rfl) rfl rfl hl.1 (Nat.le_of_ble_eq_true rfl) ⟨Nat.le_of_ble_eq_true rfl, Nat.le_of_ble_eq_true rfl⟩ dX8_number_41) hS (fun H locs hH hS => ?_)
          refine lv_iadd hx hb dX8_number_44 ?_
          refine lv_istore_n (lv' := [(1, .int (((10 : Int32) * a1) + r20)), (0, .ref (YA Y 20 0)), (2, .int a2)]) hx hb dX8_number_45 rfl hl (by decide) rfl (fun ls hl => ?_)
          refine lv_iinc (v := a2 + (1 : Int32)) (lv' := [(2, .int (a2 + (1 : Int32))), (1, .int (((10 : Int32) * a1) + r20)), (0, .ref (YA Y 20 0))]) hx hb dX8_number_46 hl (k := 2) rfl rfl (by decide) rfl (fun ls hl => ?_)
          refine lv_goto (tgt := 7) hx hb dX8_number_49 (by decide) ?_
          exact ih M19 (((10 : Int32) * a1) + r20) (a2 + (1 : Int32)) hf _ _ _ hH hS (lv_sub hl [2, 1, 0] rfl)
def f_X8_number (M : Mem) : Option (Int32 × Mem) := bd2 (f_X8_digit M) fun r26 M25 => f_X8_number_7 FU M25 r26 (0 : Int32)
set_option maxHeartbeats 4000000 in
set_option maxRecDepth 100000 in
theorem c_X8_number {Y : LY} {l : Launch} (M : Mem) {r : Int32} {MZ : Mem} (hf : f_X8_number M = some (r, MZ)) : Met l yX8_number (WS yX8_number cX8_number 3 (Option.some Jvm.ClassFile.FieldType.int)) { frames := 2, cells := 0, slots := 0, locals := 46 } (PcM Y M [.ref (YA Y 20 0)]) (Qi Y r MZ) 0 0 (AZ Y) := by
  refine met_mk (lv := [(0, .ref (YA Y 20 0))]) [.ref (YA Y 20 0)] (by decide) rfl rfl (Nat.le_of_ble_eq_true rfl) (fun p e s m below meth c C0 hH ls hl => ?_)
  have hS : va_S (AZ Y) s.heap s.heap [] := va_S.rf
  obtain ⟨hx, hb, hr, hml, hown, hA, hlocks, hK, hZ⟩ := id C0
  unfold f_X8_number at hf
  refine lv_aload_n hx hb dX8_number_0 rfl (lv_at hl 0 rfl) ?_
  obtain ⟨r26, M25, hq24, hf⟩ := bd2_o hf
  refine hs_ci (hs_runV C0 hH hS (n := 0) (As := []) (rest := []) (c_X8_digit M hq24) ⟨⟨zt_2010, zt_2012, zs_69, zt_13, zt_2013⟩, rfl, by decide, by decide, by decide +kernel⟩ ⟨rfl, rfl, Nat.le_of_ble_eq_true rfl, Nat.le_of_ble_eq_true rfl⟩ (hs_recv hK hH 20 0 (by decide) 12 rfl rfl) rfl rfl hl.1 (Nat.le_of_ble_eq_true rfl) ⟨Nat.le_of_ble_eq_true rfl, Nat.le_of_ble_eq_true rfl⟩ dX8_number_1) hS (fun H locs hH hS => ?_)
  refine lv_istore_n (lv' := [(1, .int r26), (0, .ref (YA Y 20 0))]) hx hb dX8_number_4 rfl hl (by decide) rfl (fun ls hl => ?_)
  refine lv_iconst (v := (0 : Int32)) hx hb dX8_number_5 (by decide) ?_
  refine lv_istore_n (lv' := [(2, .int (0 : Int32)), (1, .int r26), (0, .ref (YA Y 20 0))]) hx hb dX8_number_6 rfl hl (by decide) rfl (fun ls hl => ?_)
  exact w_X8_number_7 C0 FU M25 r26 (0 : Int32) hf _ _ _ hH hS (lv_sub hl [2, 1, 0] rfl)
def f_X8_digitBehind (M : Mem) (a1 : Int32) : Option (Int32 × Mem) := bd (f_X8_expects M a1) fun M8 => bd2 (f_X8_digit M8) fun r12 M11 => some (r12, M11)
set_option maxHeartbeats 4000000 in
set_option maxRecDepth 100000 in
theorem c_X8_digitBehind {Y : LY} {l : Launch} (M : Mem) (a1 : Int32) {r : Int32} {MZ : Mem} (hf : f_X8_digitBehind M a1 = some (r, MZ)) : Met l yX8_digitBehind (WS yX8_digitBehind cX8_digitBehind 2 (Option.some Jvm.ClassFile.FieldType.int)) { frames := 2, cells := 0, slots := 0, locals := 46 } (PcM Y M [.ref (YA Y 20 0), .int a1]) (Qi Y r MZ) 0 0 (AZ Y) := by
  refine met_mk (lv := [(0, .ref (YA Y 20 0)), (1, .int a1)]) [.ref (YA Y 20 0), .int a1] (by decide) rfl rfl (Nat.le_of_ble_eq_true rfl) (fun p e s m below meth c C0 hH ls hl => ?_)
  have hS : va_S (AZ Y) s.heap s.heap [] := va_S.rf
  obtain ⟨hx, hb, hr, hml, hown, hA, hlocks, hK, hZ⟩ := id C0
  unfold f_X8_digitBehind at hf
  refine lv_aload_n hx hb dX8_digitBehind_0 rfl (lv_at hl 0 rfl) ?_
  refine lv_iload_n hx hb dX8_digitBehind_1 rfl (lv_at hl 1 rfl) ?_
  obtain ⟨M8, hq7, hf⟩ := bd_o hf
  refine hs_cv (hs_runV C0 hH hS (n := 1) (As := [.int a1]) (rest := []) (c_X8_expects M a1 hq7) ⟨⟨zt_2024, zt_2026, zs_72, zt_13, zt_2027⟩, rfl, by decide, by decide, by decide +kernel⟩ ⟨rfl, rfl, Nat.le_of_ble_eq_true rfl, Nat.le_of_ble_eq_true rfl⟩ (hs_recv hK hH 20 0 (by decide) 12 rfl rfl) rfl rfl hl.1 (Nat.le_of_ble_eq_true rfl) ⟨Nat.le_of_ble_eq_true rfl, Nat.le_of_ble_eq_true rfl⟩ dX8_digitBehind_2) hS (fun H locs hH hS => ?_)
  refine lv_aload_n hx hb dX8_digitBehind_5 rfl (lv_at hl 0 rfl) ?_
  obtain ⟨r12, M11, hq10, hf⟩ := bd2_o hf
  refine hs_ci (hs_runV C0 hH hS (n := 0) (As := []) (rest := []) (c_X8_digit M8 hq10) ⟨⟨zt_2010, zt_2012, zs_69, zt_13, zt_2013⟩, rfl, by decide, by decide, by decide +kernel⟩ ⟨rfl, rfl, Nat.le_of_ble_eq_true rfl, Nat.le_of_ble_eq_true rfl⟩ (hs_recv hK hH 20 0 (by decide) 12 rfl rfl) rfl rfl hl.1 (Nat.le_of_ble_eq_true rfl) ⟨Nat.le_of_ble_eq_true rfl, Nat.le_of_ble_eq_true rfl⟩ dX8_digitBehind_6) hS (fun H locs hH hS => ?_)
  cases hf
  exact hs_iret C0 hH hS (by decide) (by decide) dX8_digitBehind_9
def f_X8_numberBehind (M : Mem) (a1 : Int32) : Option (Int32 × Mem) := bd (f_X8_expects M a1) fun M8 => bd2 (f_X8_number M8) fun r12 M11 => some (r12, M11)
set_option maxHeartbeats 4000000 in
set_option maxRecDepth 100000 in
theorem c_X8_numberBehind {Y : LY} {l : Launch} (M : Mem) (a1 : Int32) {r : Int32} {MZ : Mem} (hf : f_X8_numberBehind M a1 = some (r, MZ)) : Met l yX8_numberBehind (WS yX8_numberBehind cX8_numberBehind 2 (Option.some Jvm.ClassFile.FieldType.int)) { frames := 3, cells := 0, slots := 0, locals := 68 } (PcM Y M [.ref (YA Y 20 0), .int a1]) (Qi Y r MZ) 0 0 (AZ Y) := by
  refine met_mk (lv := [(0, .ref (YA Y 20 0)), (1, .int a1)]) [.ref (YA Y 20 0), .int a1] (by decide) rfl rfl (Nat.le_of_ble_eq_true rfl) (fun p e s m below meth c C0 hH ls hl => ?_)
  have hS : va_S (AZ Y) s.heap s.heap [] := va_S.rf
  obtain ⟨hx, hb, hr, hml, hown, hA, hlocks, hK, hZ⟩ := id C0
  unfold f_X8_numberBehind at hf
  refine lv_aload_n hx hb dX8_numberBehind_0 rfl (lv_at hl 0 rfl) ?_
  refine lv_iload_n hx hb dX8_numberBehind_1 rfl (lv_at hl 1 rfl) ?_
  obtain ⟨M8, hq7, hf⟩ := bd_o hf
  refine hs_cv (hs_runV C0 hH hS (n := 1) (As := [.int a1]) (rest := []) (c_X8_expects M a1 hq7) ⟨⟨zt_2024, zt_2026, zs_72, zt_13, zt_2027⟩, rfl, by decide, by decide, by decide +kernel⟩ ⟨rfl, rfl, Nat.le_of_ble_eq_true rfl, Nat.le_of_ble_eq_true rfl⟩ (hs_recv hK hH 20 0 (by decide) 12 rfl rfl) rfl rfl hl.1 (Nat.le_of_ble_eq_true rfl) ⟨Nat.le_of_ble_eq_true rfl, Nat.le_of_ble_eq_true rfl⟩ dX8_numberBehind_2) hS (fun H locs hH hS => ?_)
  refine lv_aload_n hx hb dX8_numberBehind_5 rfl (lv_at hl 0 rfl) ?_
  obtain ⟨r12, M11, hq10, hf⟩ := bd2_o hf
  refine hs_ci (hs_runV C0 hH hS (n := 0) (As := []) (rest := []) (c_X8_number M8 hq10) ⟨⟨zt_2032, zt_2034, zs_74, zt_13, zt_2035⟩, rfl, by decide, by decide, by decide +kernel⟩ ⟨rfl, rfl, Nat.le_of_ble_eq_true rfl, Nat.le_of_ble_eq_true rfl⟩ (hs_recv hK hH 20 0 (by decide) 12 rfl rfl) rfl rfl hl.1 (Nat.le_of_ble_eq_true rfl) ⟨Nat.le_of_ble_eq_true rfl, Nat.le_of_ble_eq_true rfl⟩ dX8_numberBehind_6) hS (fun H locs hH hS => ?_)
  cases hf
  exact hs_iret C0 hH hS (by decide) (by decide) dX8_numberBehind_9
def f_X8_likeness_18 (M : Mem) : Nat → Int32 → Int32 → Int32 → Option Int32
  | 0, _, _, _ => none
  | n + 1, a1, a2, a3 => (if a3 ≤ a2 then some a2 else (if (M 20 0 21) ≤ ((M 20 0 20) + a2) then some a2 else if vin ((M 20 0 20) + a2) 60 then (if vin a1 11 then (if vin ((M 31 0 (ix a1)) + a2) 57 then ((if (M 26 0 (ix ((M 20 0 20) + a2))) = (M 30 0 (ix ((M 31 0 (ix a1)) + a2))) then f_X8_likeness_18 M n a1 (a2 + (1 : Int32)) a3 else some a2)) else none) else none) else none))
set_option maxHeartbeats 4000000 in
set_option maxRecDepth 100000 in
theorem w_X8_likeness_18 {Y : LY} {p : Program} {l : Launch} {e : Env} {s : State} {m : MethodId} {args : Array Value} {below : List Frame} {meth : Method} {c : Code} (C0 : BE Y p s m args meth c cX8_likeness 4 (Option.some Jvm.ClassFile.FieldType.int) RX8) {r : Int32} (M : Mem) : ∀ (n : Nat) (a1 : Int32) (a2 : Int32) (a3 : Int32), f_X8_likeness_18 M n a1 a2 a3 = some r → ∀ (H : Heap) (locs : List Loc) (ls : Array Slot), HS Y M H → va_S (AZ Y) s.heap H locs → lv_has ls 4 [(0, .ref (YA Y 20 0)), (1, .int a1), (2, .int a2), (3, .int a3)] → W p l e { frames := 0, cells := 0, slots := 0, locals := 0 } s m args below meth c H locs 0 0 (MQ below (Qi Y r M) args s 0 0 (AZ Y)) (F0 m 18 ls []) := by
  obtain ⟨hx, hb, hr, hml, hown, hA, hlocks, hK, hZ⟩ := id C0
  intro n
  induction n with
  | zero =>
    intro a1 a2 a3 hf
    cases hf
  | succ n ih =>
    intro a1 a2 a3 hf H locs ls hH hS hl
    rw [f_X8_likeness_18] at hf
    refine lv_iload_n hx hb dX8_likeness_18 rfl (lv_at hl 2 rfl) ?_
    refine lv_iload_n hx hb dX8_likeness_19 rfl (lv_at hl 3 rfl) ?_
    refine lv_icmp_ge (tgt := 69) hx hb dX8_likeness_20 (by decide) (fun hc14 => ?_) (fun hc14 => ?_)
    · have hf := if_t hf hc14
      refine lv_iload_n hx hb dX8_likeness_69 rfl (lv_at hl 2 rfl) ?_
      cases hf
      exact hs_iret C0 hH hS (by decide) (by decide) dX8_likeness_70
    · have hf := if_f hf hc14
      refine lv_aload_n hx hb dX8_likeness_23 rfl (lv_at hl 0 rfl) ?_
      refine hs_get hx hb (T := TX8) hA inAX8 hown hK hH 20 0 (by decide) 12 rfl rfl 20 (by decide) (hA _ zt_1571) rfl rfl dX8_likeness_24 ?_
      refine lv_iload_n hx hb dX8_likeness_27 rfl (lv_at hl 2 rfl) ?_
      refine lv_iadd hx hb dX8_likeness_28 ?_
      refine lv_aload_n hx hb dX8_likeness_29 rfl (lv_at hl 0 rfl) ?_
      refine hs_get hx hb (T := TX8) hA inAX8 hown hK hH 20 0 (by decide) 12 rfl rfl 21 (by decide) (hA _ zt_1572) rfl rfl dX8_likeness_30 ?_
      refine lv_icmp_ge (tgt := 69) hx hb dX8_likeness_33 (by decide) (fun hc13 => ?_) (fun hc13 => ?_)
      · have hf := if_t hf hc13
        refine lv_iload_n hx hb dX8_likeness_69 rfl (lv_at hl 2 rfl) ?_
        cases hf
        exact hs_iret C0 hH hS (by decide) (by decide) dX8_likeness_70
      · have hf := if_f hf hc13
        refine lv_aload_n hx hb dX8_likeness_36 rfl (lv_at hl 0 rfl) ?_
        refine hs_get hx hb (T := TX8) hA inAX8 hown hK hH 20 0 (by decide) 12 rfl rfl 10 (by decide) (hA _ zt_1561) rfl rfl dX8_likeness_37 ?_
        refine lv_aload_n hx hb dX8_likeness_40 rfl (lv_at hl 0 rfl) ?_
        refine hs_get hx hb (T := TX8) hA inAX8 hown hK hH 20 0 (by decide) 12 rfl rfl 20 (by decide) (hA _ zt_1571) rfl rfl dX8_likeness_41 ?_
        refine lv_iload_n hx hb dX8_likeness_44 rfl (lv_at hl 2 rfl) ?_
        refine lv_iadd hx hb dX8_likeness_45 ?_
        obtain ⟨hg9, hf⟩ := gd_o hf
        have bhg9 := vin_lt hg9
        refine hs_iald hx hb hK hH 26 0 (by decide) rfl hg9 rfl dX8_likeness_46 ?_
        refine lv_aload_n hx hb dX8_likeness_47 rfl (lv_at hl 0 rfl) ?_
        refine hs_get hx hb (T := TX8) hA inAX8 hown hK hH 20 0 (by decide) 12 rfl rfl 16 (by decide) (hA _ zt_1567) rfl rfl dX8_likeness_48 ?_
        refine lv_aload_n hx hb dX8_likeness_51 rfl (lv_at hl 0 rfl) ?_
        refine hs_get hx hb (T := TX8) hA inAX8 hown hK hH 20 0 (by decide) 12 rfl rfl 17 (by decide) (hA _ zt_1568) rfl rfl dX8_likeness_52 ?_
        refine lv_iload_n hx hb dX8_likeness_55 rfl (lv_at hl 1 rfl) ?_
        obtain ⟨hg10, hf⟩ := gd_o hf
        have bhg10 := vin_lt hg10
        refine hs_iald hx hb hK hH 31 0 (by decide) rfl hg10 rfl dX8_likeness_56 ?_
        refine lv_iload_n hx hb dX8_likeness_57 rfl (lv_at hl 2 rfl) ?_
        refine lv_iadd hx hb dX8_likeness_58 ?_
        obtain ⟨hg11, hf⟩ := gd_o hf
        have bhg11 := vin_lt hg11
        refine hs_cald hx hb hK hH 30 0 (by decide) rfl hg11 rfl dX8_likeness_59 ?_
        refine lv_icmp_ne (tgt := 69) hx hb dX8_likeness_60 (by decide) (fun hc12 => ?_) (fun hc12 => ?_)
        · have hf := if_f hf hc12
          refine lv_iload_n hx hb dX8_likeness_69 rfl (lv_at hl 2 rfl) ?_
          cases hf
          exact hs_iret C0 hH hS (by decide) (by decide) dX8_likeness_70
        · have hf := if_t hf hc12
          refine lv_iinc (v := a2 + (1 : Int32)) (lv' := [(2, .int (a2 + (1 : Int32))), (0, .ref (YA Y 20 0)), (1, .int a1), (3, .int a3)]) hx hb dX8_likeness_63 hl (k := 2) rfl rfl (by decide) rfl (fun ls hl => ?_)
          refine lv_goto (tgt := 18) hx hb dX8_likeness_66 (by decide) ?_
          exact ih a1 (a2 + (1 : Int32)) a3 hf _ _ _ hH hS (lv_sub hl [1, 2, 0, 3] rfl)
def f_X8_likeness (M : Mem) (a1 : Int32) : Option Int32 := if vin (a1 + (1 : Int32)) 11 then (if vin a1 11 then (f_X8_likeness_18 M FU a1 (0 : Int32) ((M 31 0 (ix (a1 + (1 : Int32)))) - (M 31 0 (ix a1)))) else none) else none
set_option maxHeartbeats 4000000 in
set_option maxRecDepth 100000 in
theorem c_X8_likeness {Y : LY} {l : Launch} (M : Mem) (a1 : Int32) {r : Int32} (hf : f_X8_likeness M a1 = some r) : Met l yX8_likeness (WS yX8_likeness cX8_likeness 4 (Option.some Jvm.ClassFile.FieldType.int)) { frames := 0, cells := 0, slots := 0, locals := 0 } (PcM Y M [.ref (YA Y 20 0), .int a1]) (Qi Y r M) 0 0 (AZ Y) := by
  refine met_mk (lv := [(0, .ref (YA Y 20 0)), (1, .int a1)]) [.ref (YA Y 20 0), .int a1] (by decide) rfl rfl (Nat.le_of_ble_eq_true rfl) (fun p e s m below meth c C0 hH ls hl => ?_)
  have hS : va_S (AZ Y) s.heap s.heap [] := va_S.rf
  obtain ⟨hx, hb, hr, hml, hown, hA, hlocks, hK, hZ⟩ := id C0
  unfold f_X8_likeness at hf
  refine lv_iconst (v := (0 : Int32)) hx hb dX8_likeness_0 (by decide) ?_
  refine lv_istore_n (lv' := [(2, .int (0 : Int32)), (0, .ref (YA Y 20 0)), (1, .int a1)]) hx hb dX8_likeness_1 rfl hl (by decide) rfl (fun ls hl => ?_)
  refine lv_aload_n hx hb dX8_likeness_2 rfl (lv_at hl 1 rfl) ?_
  refine hs_get hx hb (T := TX8) hA inAX8 hown hK hH 20 0 (by decide) 12 rfl rfl 17 (by decide) (hA _ zt_1568) rfl rfl dX8_likeness_3 ?_
  refine lv_iload_n hx hb dX8_likeness_6 rfl (lv_at hl 2 rfl) ?_
  refine lv_iconst (v := (1 : Int32)) hx hb dX8_likeness_7 (by decide) ?_
  refine lv_iadd hx hb dX8_likeness_8 ?_
  obtain ⟨hg15, hf⟩ := gd_o hf
  have bhg15 := vin_lt hg15
  refine hs_iald hx hb hK hH 31 0 (by decide) rfl hg15 rfl dX8_likeness_9 ?_
  refine lv_aload_n hx hb dX8_likeness_10 rfl (lv_at hl 1 rfl) ?_
  refine hs_get hx hb (T := TX8) hA inAX8 hown hK hH 20 0 (by decide) 12 rfl rfl 17 (by decide) (hA _ zt_1568) rfl rfl dX8_likeness_11 ?_
  refine lv_iload_n hx hb dX8_likeness_14 rfl (lv_at hl 2 rfl) ?_
  obtain ⟨hg16, hf⟩ := gd_o hf
  have bhg16 := vin_lt hg16
  refine hs_iald hx hb hK hH 31 0 (by decide) rfl hg16 rfl dX8_likeness_15 ?_
  refine lv_isub hx hb dX8_likeness_16 ?_
  refine lv_istore_n (lv' := [(3, .int ((M 31 0 (ix (a1 + (1 : Int32)))) - (M 31 0 (ix a1)))), (2, .int (0 : Int32)), (0, .ref (YA Y 20 0)), (1, .int a1)]) hx hb dX8_likeness_17 rfl hl (by decide) rfl (fun ls hl => ?_)
  exact w_X8_likeness_18 C0 M FU a1 (0 : Int32) ((M 31 0 (ix (a1 + (1 : Int32)))) - (M 31 0 (ix a1))) hf _ _ _ hH hS (lv_sub hl [2, 3, 1, 0] rfl)
def f_X8_readArguments_222 (M : Mem) (b0 : Int32) (b1 : Int32) : Option Mem := if vin b1 305 then (nm (mu M 32 0 (ix b1) b0) fun M94 => some M94) else none
set_option maxHeartbeats 4000000 in
set_option maxRecDepth 100000 in
theorem w_X8_readArguments_222 {Y : LY} {p : Program} {l : Launch} {e : Env} {s : State} {m : MethodId} {args : Array Value} {below : List Frame} {meth : Method} {c : Code} (C0 : BE Y p s m args meth c cX8_readArguments 3 (Option.none : Option Jvm.ClassFile.FieldType) RX8) {MZ : Mem} : ∀ (M : Mem) (b0 : Int32) (b1 : Int32), f_X8_readArguments_222 M b0 b1 = some MZ → ∀ (H : Heap) (locs : List Loc) (ls : Array Slot), HS Y M H → va_S (AZ Y) s.heap H locs → lv_has ls 3 [] → W p l e { frames := 4, cells := 0, slots := 0, locals := 89 } s m args below meth c H locs 0 0 (MQ below (Qv Y MZ) args s 0 0 (AZ Y)) (F0 m 222 ls [.int b0, .int b1, .ref (YA Y 32 0)]) := by
  obtain ⟨hx, hb, hr, hml, hown, hA, hlocks, hK, hZ⟩ := id C0
  intro M b0 b1 hf H locs ls hH hS hl
  unfold f_X8_readArguments_222 at hf
  obtain ⟨hg93, hf⟩ := gd_o hf
  have bhg93 := vin_lt hg93
  refine hs_iast hx hb hK hH hS 32 0 (by decide) (fun _ => rfl) hg93 rfl dX8_readArguments_222 (fun H locs hH hS => ?_)
  obtain ⟨M94, eM94, hf⟩ := nm_o hf
  rw [← eM94] at hH
  refine lv_goto (tgt := 226) hx hb dX8_readArguments_223 (by decide) ?_
  cases hf
  exact hs_vret C0 hH hS (by decide) (by decide) dX8_readArguments_226
def f_X8_readArguments (M : Mem) (a1 : Int32) (a2 : Int32) : Option Mem := (if a1 = (1 : Int32) then bd2 (f_X8_digit M) fun r97 M96 => if vin a2 305 then (nm (mu M96 32 0 (ix a2) r97) fun M99 => bd2 (f_X8_digit M99) fun r102 M101 => if vin (a2 + (1 : Int32)) 305 then (nm (mu M101 32 0 (ix (a2 + (1 : Int32))) r102) fun M104 => bd2 (f_X8_digitBehind M104 (32 : Int32)) fun r107 M106 => if vin (a2 + (2 : Int32)) 305 then (nm (mu M106 32 0 (ix (a2 + (2 : Int32))) r107) fun M109 => bd2 (f_X8_digitBehind M109 (47 : Int32)) fun r112 M111 => if vin (a2 + (3 : Int32)) 305 then (nm (mu M111 32 0 (ix (a2 + (3 : Int32))) r112) fun M114 => some M114) else none) else none) else none) else none else (if a1 = (2 : Int32) then bd2 (f_X8_number M) fun r118 M117 => if vin a2 305 then (nm (mu M117 32 0 (ix a2) r118) fun M120 => some M120) else none else (if a1 = (3 : Int32) then bd2 (f_X8_number M) fun r124 M123 => if vin a2 305 then (nm (mu M123 32 0 (ix a2) r124) fun M126 => some M126) else none else (if a1 = (4 : Int32) then bd2 (f_X8_digit M) fun r130 M129 => if vin a2 305 then (nm (mu M129 32 0 (ix a2) r130) fun M132 => bd2 (f_X8_digit M132) fun r135 M134 => if vin (a2 + (1 : Int32)) 305 then (nm (mu M134 32 0 (ix (a2 + (1 : Int32))) r135) fun M137 => bd2 (f_X8_digitBehind M137 (32 : Int32)) fun r140 M139 => if vin (a2 + (2 : Int32)) 305 then (nm (mu M139 32 0 (ix (a2 + (2 : Int32))) r140) fun M142 => bd2 (f_X8_numberBehind M142 (42 : Int32)) fun r145 M144 => if vin (a2 + (3 : Int32)) 305 then (nm (mu M144 32 0 (ix (a2 + (3 : Int32))) r145) fun M147 => some M147) else none) else none) else none) else none else (if a1 = (5 : Int32) then bd2 (f_X8_number M) fun r151 M150 => if vin a2 305 then (nm (mu M150 32 0 (ix a2) r151) fun M153 => bd2 (f_X8_numberBehind M153 (32 : Int32)) fun r156 M155 => if vin (a2 + (1 : Int32)) 305 then (nm (mu M155 32 0 (ix (a2 + (1 : Int32))) r156) fun M158 => some M158) else none) else none else (if a1 = (6 : Int32) then bd2 (f_X8_number M) fun r162 M161 => if vin a2 305 then (nm (mu M161 32 0 (ix a2) r162) fun M164 => bd2 (f_X8_numberBehind M164 (32 : Int32)) fun r167 M166 => if vin (a2 + (1 : Int32)) 305 then (nm (mu M166 32 0 (ix (a2 + (1 : Int32))) r167) fun M169 => some M169) else none) else none else (if a1 = (7 : Int32) then bd2 (f_X8_number M) fun r173 M172 => if vin a2 305 then (nm (mu M172 32 0 (ix a2) r173) fun M175 => some M175) else none else (if a1 = (9 : Int32) then bd (f_X8_here M) fun r178 => (if r178 = (32 : Int32) then bd2 (f_X8_numberBehind M (32 : Int32)) fun r181 M180 => f_X8_readArguments_222 M180 r181 a2 else f_X8_readArguments_222 M (1 : Int32) a2) else some M))))))))
set_option maxHeartbeats 4000000 in
set_option maxRecDepth 100000 in
theorem c_X8_readArguments {Y : LY} {l : Launch} (M : Mem) (a1 : Int32) (a2 : Int32) {MZ : Mem} (hf : f_X8_readArguments M a1 a2 = some MZ) : Met l yX8_readArguments (WS yX8_readArguments cX8_readArguments 3 (Option.none : Option Jvm.ClassFile.FieldType)) { frames := 4, cells := 0, slots := 0, locals := 89 } (PcM Y M [.ref (YA Y 20 0), .int a1, .int a2]) (Qv Y MZ) 0 0 (AZ Y) := by
  refine met_mk (lv := [(0, .ref (YA Y 20 0)), (1, .int a1), (2, .int a2)]) [.ref (YA Y 20 0), .int a1, .int a2] (by decide) rfl rfl (Nat.le_of_ble_eq_true rfl) (fun p e s m below meth c C0 hH ls hl => ?_)
  have hS : va_S (AZ Y) s.heap s.heap [] := va_S.rf
  obtain ⟨hx, hb, hr, hml, hown, hA, hlocks, hK, hZ⟩ := id C0
  unfold f_X8_readArguments at hf
  refine lv_iload_n hx hb dX8_readArguments_0 rfl (lv_at hl 1 rfl) ?_
  by_cases hw115 : a1 = (1 : Int32)
  · have hf := if_t hf hw115
    refine lv_tableIn (tgt := 52) (off := 51) hx hb dX8_readArguments_1 (by rw [hw115]; decide) (by rw [hw115]; decide) (by rw [hw115]; rfl) (by decide) ?_
    refine lv_aload_n hx hb dX8_readArguments_52 rfl (lv_at hl 0 rfl) ?_
    refine hs_get hx hb (T := TX8) hA inAX8 hown hK hH 20 0 (by decide) 12 rfl rfl 18 (by decide) (hA _ zt_1569) rfl rfl dX8_readArguments_53 ?_
    refine lv_iload_n hx hb dX8_readArguments_56 rfl (lv_at hl 2 rfl) ?_
    refine lv_aload_n hx hb dX8_readArguments_57 rfl (lv_at hl 0 rfl) ?_
    obtain ⟨r97, M96, hq95, hf⟩ := bd2_o hf
    refine hs_ci (hs_runV C0 hH hS (n := 0) (As := []) (rest := [.int a2, .ref (YA Y 32 0)]) (c_X8_digit M hq95) ⟨⟨zt_2010, zt_2012, zs_69, zt_13, zt_2013⟩, rfl, by decide, by decide, by decide +kernel⟩ ⟨rfl, rfl, Nat.le_of_ble_eq_true rfl, Nat.le_of_ble_eq_true rfl⟩ (hs_recv hK hH 20 0 (by decide) 12 rfl rfl) rfl rfl hl.1 (Nat.le_of_ble_eq_true rfl) ⟨Nat.le_of_ble_eq_true rfl, Nat.le_of_ble_eq_true rfl⟩ dX8_readArguments_58) hS (fun H locs hH hS => ?_)
    obtain ⟨hg98, hf⟩ := gd_o hf
    have bhg98 := vin_lt hg98
    refine hs_iast hx hb hK hH hS 32 0 (by decide) (fun _ => rfl) hg98 rfl dX8_readArguments_61 (fun H locs hH hS => ?_)
    obtain ⟨M99, eM99, hf⟩ := nm_o hf
    rw [← eM99] at hH
    refine lv_aload_n hx hb dX8_readArguments_62 rfl (lv_at hl 0 rfl) ?_
    refine hs_get hx hb (T := TX8) hA inAX8 hown hK hH 20 0 (by decide) 12 rfl rfl 18 (by decide) (hA _ zt_1569) rfl rfl dX8_readArguments_63 ?_
    refine lv_iload_n hx hb dX8_readArguments_66 rfl (lv_at hl 2 rfl) ?_
    refine lv_iconst (v := (1 : Int32)) hx hb dX8_readArguments_67 (by decide) ?_
    refine lv_iadd hx hb dX8_readArguments_68 ?_
    refine lv_aload_n hx hb dX8_readArguments_69 rfl (lv_at hl 0 rfl) ?_
    obtain ⟨r102, M101, hq100, hf⟩ := bd2_o hf
    refine hs_ci (hs_runV C0 hH hS (n := 0) (As := []) (rest := [.int (a2 + (1 : Int32)), .ref (YA Y 32 0)]) (c_X8_digit M99 hq100) ⟨⟨zt_2010, zt_2012, zs_69, zt_13, zt_2013⟩, rfl, by decide, by decide, by decide +kernel⟩ ⟨rfl, rfl, Nat.le_of_ble_eq_true rfl, Nat.le_of_ble_eq_true rfl⟩ (hs_recv hK hH 20 0 (by decide) 12 rfl rfl) rfl rfl hl.1 (Nat.le_of_ble_eq_true rfl) ⟨Nat.le_of_ble_eq_true rfl, Nat.le_of_ble_eq_true rfl⟩ dX8_readArguments_70) hS (fun H locs hH hS => ?_)
    obtain ⟨hg103, hf⟩ := gd_o hf
    have bhg103 := vin_lt hg103
    refine hs_iast hx hb hK hH hS 32 0 (by decide) (fun _ => rfl) hg103 rfl dX8_readArguments_73 (fun H locs hH hS => ?_)
    obtain ⟨M104, eM104, hf⟩ := nm_o hf
    rw [← eM104] at hH
    refine lv_aload_n hx hb dX8_readArguments_74 rfl (lv_at hl 0 rfl) ?_
    refine hs_get hx hb (T := TX8) hA inAX8 hown hK hH 20 0 (by decide) 12 rfl rfl 18 (by decide) (hA _ zt_1569) rfl rfl dX8_readArguments_75 ?_
    refine lv_iload_n hx hb dX8_readArguments_78 rfl (lv_at hl 2 rfl) ?_
    refine lv_iconst (v := (2 : Int32)) hx hb dX8_readArguments_79 (by decide) ?_
    refine lv_iadd hx hb dX8_readArguments_80 ?_
    refine lv_aload_n hx hb dX8_readArguments_81 rfl (lv_at hl 0 rfl) ?_
    refine lv_bipush (v := (32 : Int32)) hx hb dX8_readArguments_82 (by decide) ?_
    obtain ⟨r107, M106, hq105, hf⟩ := bd2_o hf
    refine hs_ci (hs_runV C0 hH hS (n := 1) (As := [.int (32 : Int32)]) (rest := [.int (a2 + (2 : Int32)), .ref (YA Y 32 0)]) (c_X8_digitBehind M104 (32 : Int32) hq105) ⟨⟨zt_2020, zt_2022, zs_71, zt_13, zt_2023⟩, rfl, by decide, by decide, by decide +kernel⟩ ⟨rfl, rfl, Nat.le_of_ble_eq_true rfl, Nat.le_of_ble_eq_true rfl⟩ (hs_recv hK hH 20 0 (by decide) 12 rfl rfl) rfl rfl hl.1 (Nat.le_of_ble_eq_true rfl) ⟨Nat.le_of_ble_eq_true rfl, Nat.le_of_ble_eq_true rfl⟩ dX8_readArguments_84) hS (fun H locs hH hS => ?_)
    obtain ⟨hg108, hf⟩ := gd_o hf
    have bhg108 := vin_lt hg108
    refine hs_iast hx hb hK hH hS 32 0 (by decide) (fun _ => rfl) hg108 rfl dX8_readArguments_87 (fun H locs hH hS => ?_)
    obtain ⟨M109, eM109, hf⟩ := nm_o hf
    rw [← eM109] at hH
    refine lv_aload_n hx hb dX8_readArguments_88 rfl (lv_at hl 0 rfl) ?_
    refine hs_get hx hb (T := TX8) hA inAX8 hown hK hH 20 0 (by decide) 12 rfl rfl 18 (by decide) (hA _ zt_1569) rfl rfl dX8_readArguments_89 ?_
    refine lv_iload_n hx hb dX8_readArguments_92 rfl (lv_at hl 2 rfl) ?_
    refine lv_iconst (v := (3 : Int32)) hx hb dX8_readArguments_93 (by decide) ?_
    refine lv_iadd hx hb dX8_readArguments_94 ?_
    refine lv_aload_n hx hb dX8_readArguments_95 rfl (lv_at hl 0 rfl) ?_
    refine lv_bipush (v := (47 : Int32)) hx hb dX8_readArguments_96 (by decide) ?_
    obtain ⟨r112, M111, hq110, hf⟩ := bd2_o hf
    refine hs_ci (hs_runV C0 hH hS (n := 1) (As := [.int (47 : Int32)]) (rest := [.int (a2 + (3 : Int32)), .ref (YA Y 32 0)]) (c_X8_digitBehind M109 (47 : Int32) hq110) ⟨⟨zt_2020, zt_2022, zs_71, zt_13, zt_2023⟩, rfl, by decide, by decide, by decide +kernel⟩ ⟨rfl, rfl, Nat.le_of_ble_eq_true rfl, Nat.le_of_ble_eq_true rfl⟩ (hs_recv hK hH 20 0 (by decide) 12 rfl rfl) rfl rfl hl.1 (Nat.le_of_ble_eq_true rfl) ⟨Nat.le_of_ble_eq_true rfl, Nat.le_of_ble_eq_true rfl⟩ dX8_readArguments_98) hS (fun H locs hH hS => ?_)
    obtain ⟨hg113, hf⟩ := gd_o hf
    have bhg113 := vin_lt hg113
    refine hs_iast hx hb hK hH hS 32 0 (by decide) (fun _ => rfl) hg113 rfl dX8_readArguments_101 (fun H locs hH hS => ?_)
    obtain ⟨M114, eM114, hf⟩ := nm_o hf
    rw [← eM114] at hH
    refine lv_goto (tgt := 226) hx hb dX8_readArguments_102 (by decide) ?_
    cases hf
    exact hs_vret C0 hH hS (by decide) (by decide) dX8_readArguments_226
  have hf := if_f hf hw115
  by_cases hw121 : a1 = (2 : Int32)
  · have hf := if_t hf hw121
    refine lv_tableIn (tgt := 158) (off := 157) hx hb dX8_readArguments_1 (by rw [hw121]; decide) (by rw [hw121]; decide) (by rw [hw121]; rfl) (by decide) ?_
    refine lv_aload_n hx hb dX8_readArguments_158 rfl (lv_at hl 0 rfl) ?_
    refine hs_get hx hb (T := TX8) hA inAX8 hown hK hH 20 0 (by decide) 12 rfl rfl 18 (by decide) (hA _ zt_1569) rfl rfl dX8_readArguments_159 ?_
    refine lv_iload_n hx hb dX8_readArguments_162 rfl (lv_at hl 2 rfl) ?_
    refine lv_aload_n hx hb dX8_readArguments_163 rfl (lv_at hl 0 rfl) ?_
    obtain ⟨r118, M117, hq116, hf⟩ := bd2_o hf
    refine hs_ci (hs_runV C0 hH hS (n := 0) (As := []) (rest := [.int a2, .ref (YA Y 32 0)]) (c_X8_number M hq116) ⟨⟨zt_2032, zt_2034, zs_74, zt_13, zt_2035⟩, rfl, by decide, by decide, by decide +kernel⟩ ⟨rfl, rfl, Nat.le_of_ble_eq_true rfl, Nat.le_of_ble_eq_true rfl⟩ (hs_recv hK hH 20 0 (by decide) 12 rfl rfl) rfl rfl hl.1 (Nat.le_of_ble_eq_true rfl) ⟨Nat.le_of_ble_eq_true rfl, Nat.le_of_ble_eq_true rfl⟩ dX8_readArguments_164) hS (fun H locs hH hS => ?_)
    obtain ⟨hg119, hf⟩ := gd_o hf
    have bhg119 := vin_lt hg119
    refine hs_iast hx hb hK hH hS 32 0 (by decide) (fun _ => rfl) hg119 rfl dX8_readArguments_167 (fun H locs hH hS => ?_)
    obtain ⟨M120, eM120, hf⟩ := nm_o hf
    rw [← eM120] at hH
    refine lv_goto (tgt := 226) hx hb dX8_readArguments_168 (by decide) ?_
    cases hf
    exact hs_vret C0 hH hS (by decide) (by decide) dX8_readArguments_226
  have hf := if_f hf hw121
  by_cases hw127 : a1 = (3 : Int32)
  · have hf := if_t hf hw127
    refine lv_tableIn (tgt := 158) (off := 157) hx hb dX8_readArguments_1 (by rw [hw127]; decide) (by rw [hw127]; decide) (by rw [hw127]; rfl) (by decide) ?_
    refine lv_aload_n hx hb dX8_readArguments_158 rfl (lv_at hl 0 rfl) ?_
    refine hs_get hx hb (T := TX8) hA inAX8 hown hK hH 20 0 (by decide) 12 rfl rfl 18 (by decide) (hA _ zt_1569) rfl rfl dX8_readArguments_159 ?_
    refine lv_iload_n hx hb dX8_readArguments_162 rfl (lv_at hl 2 rfl) ?_
    refine lv_aload_n hx hb dX8_readArguments_163 rfl (lv_at hl 0 rfl) ?_
    obtain ⟨r124, M123, hq122, hf⟩ := bd2_o hf
    refine hs_ci (hs_runV C0 hH hS (n := 0) (As := []) (rest := [.int a2, .ref (YA Y 32 0)]) (c_X8_number M hq122) ⟨⟨zt_2032, zt_2034, zs_74, zt_13, zt_2035⟩, rfl, by decide, by decide, by decide +kernel⟩ ⟨rfl, rfl, Nat.le_of_ble_eq_true rfl, Nat.le_of_ble_eq_true rfl⟩ (hs_recv hK hH 20 0 (by decide) 12 rfl rfl) rfl rfl hl.1 (Nat.le_of_ble_eq_true rfl) ⟨Nat.le_of_ble_eq_true rfl, Nat.le_of_ble_eq_true rfl⟩ dX8_readArguments_164) hS (fun H locs hH hS => ?_)
    obtain ⟨hg125, hf⟩ := gd_o hf
    have bhg125 := vin_lt hg125
    refine hs_iast hx hb hK hH hS 32 0 (by decide) (fun _ => rfl) hg125 rfl dX8_readArguments_167 (fun H locs hH hS => ?_)
    obtain ⟨M126, eM126, hf⟩ := nm_o hf
    rw [← eM126] at hH
    refine lv_goto (tgt := 226) hx hb dX8_readArguments_168 (by decide) ?_
    cases hf
    exact hs_vret C0 hH hS (by decide) (by decide) dX8_readArguments_226
  have hf := if_f hf hw127
  by_cases hw148 : a1 = (4 : Int32)
  · have hf := if_t hf hw148
    refine lv_tableIn (tgt := 105) (off := 104) hx hb dX8_readArguments_1 (by rw [hw148]; decide) (by rw [hw148]; decide) (by rw [hw148]; rfl) (by decide) ?_
    refine lv_aload_n hx hb dX8_readArguments_105 rfl (lv_at hl 0 rfl) ?_
    refine hs_get hx hb (T := TX8) hA inAX8 hown hK hH 20 0 (by decide) 12 rfl rfl 18 (by decide) (hA _ zt_1569) rfl rfl dX8_readArguments_106 ?_
    refine lv_iload_n hx hb dX8_readArguments_109 rfl (lv_at hl 2 rfl) ?_
    refine lv_aload_n hx hb dX8_readArguments_110 rfl (lv_at hl 0 rfl) ?_
    obtain ⟨r130, M129, hq128, hf⟩ := bd2_o hf
    refine hs_ci (hs_runV C0 hH hS (n := 0) (As := []) (rest := [.int a2, .ref (YA Y 32 0)]) (c_X8_digit M hq128) ⟨⟨zt_2010, zt_2012, zs_69, zt_13, zt_2013⟩, rfl, by decide, by decide, by decide +kernel⟩ ⟨rfl, rfl, Nat.le_of_ble_eq_true rfl, Nat.le_of_ble_eq_true rfl⟩ (hs_recv hK hH 20 0 (by decide) 12 rfl rfl) rfl rfl hl.1 (Nat.le_of_ble_eq_true rfl) ⟨Nat.le_of_ble_eq_true rfl, Nat.le_of_ble_eq_true rfl⟩ dX8_readArguments_111) hS (fun H locs hH hS => ?_)
    obtain ⟨hg131, hf⟩ := gd_o hf
    have bhg131 := vin_lt hg131
    refine hs_iast hx hb hK hH hS 32 0 (by decide) (fun _ => rfl) hg131 rfl dX8_readArguments_114 (fun H locs hH hS => ?_)
    obtain ⟨M132, eM132, hf⟩ := nm_o hf
    rw [← eM132] at hH
    refine lv_aload_n hx hb dX8_readArguments_115 rfl (lv_at hl 0 rfl) ?_
    refine hs_get hx hb (T := TX8) hA inAX8 hown hK hH 20 0 (by decide) 12 rfl rfl 18 (by decide) (hA _ zt_1569) rfl rfl dX8_readArguments_116 ?_
    refine lv_iload_n hx hb dX8_readArguments_119 rfl (lv_at hl 2 rfl) ?_
    refine lv_iconst (v := (1 : Int32)) hx hb dX8_readArguments_120 (by decide) ?_
    refine lv_iadd hx hb dX8_readArguments_121 ?_
    refine lv_aload_n hx hb dX8_readArguments_122 rfl (lv_at hl 0 rfl) ?_
    obtain ⟨r135, M134, hq133, hf⟩ := bd2_o hf
    refine hs_ci (hs_runV C0 hH hS (n := 0) (As := []) (rest := [.int (a2 + (1 : Int32)), .ref (YA Y 32 0)]) (c_X8_digit M132 hq133) ⟨⟨zt_2010, zt_2012, zs_69, zt_13, zt_2013⟩, rfl, by decide, by decide, by decide +kernel⟩ ⟨rfl, rfl, Nat.le_of_ble_eq_true rfl, Nat.le_of_ble_eq_true rfl⟩ (hs_recv hK hH 20 0 (by decide) 12 rfl rfl) rfl rfl hl.1 (Nat.le_of_ble_eq_true rfl) ⟨Nat.le_of_ble_eq_true rfl, Nat.le_of_ble_eq_true rfl⟩ dX8_readArguments_123) hS (fun H locs hH hS => ?_)
    obtain ⟨hg136, hf⟩ := gd_o hf
    have bhg136 := vin_lt hg136
    refine hs_iast hx hb hK hH hS 32 0 (by decide) (fun _ => rfl) hg136 rfl dX8_readArguments_126 (fun H locs hH hS => ?_)
    obtain ⟨M137, eM137, hf⟩ := nm_o hf
    rw [← eM137] at hH
    refine lv_aload_n hx hb dX8_readArguments_127 rfl (lv_at hl 0 rfl) ?_
    refine hs_get hx hb (T := TX8) hA inAX8 hown hK hH 20 0 (by decide) 12 rfl rfl 18 (by decide) (hA _ zt_1569) rfl rfl dX8_readArguments_128 ?_
    refine lv_iload_n hx hb dX8_readArguments_131 rfl (lv_at hl 2 rfl) ?_
    refine lv_iconst (v := (2 : Int32)) hx hb dX8_readArguments_132 (by decide) ?_
    refine lv_iadd hx hb dX8_readArguments_133 ?_
    refine lv_aload_n hx hb dX8_readArguments_134 rfl (lv_at hl 0 rfl) ?_
    refine lv_bipush (v := (32 : Int32)) hx hb dX8_readArguments_135 (by decide) ?_
    obtain ⟨r140, M139, hq138, hf⟩ := bd2_o hf
    refine hs_ci (hs_runV C0 hH hS (n := 1) (As := [.int (32 : Int32)]) (rest := [.int (a2 + (2 : Int32)), .ref (YA Y 32 0)]) (c_X8_digitBehind M137 (32 : Int32) hq138) ⟨⟨zt_2020, zt_2022, zs_71, zt_13, zt_2023⟩, rfl, by decide, by decide, by decide +kernel⟩ ⟨rfl, rfl, Nat.le_of_ble_eq_true rfl, Nat.le_of_ble_eq_true rfl⟩ (hs_recv hK hH 20 0 (by decide) 12 rfl rfl) rfl rfl hl.1 (Nat.le_of_ble_eq_true rfl) ⟨Nat.le_of_ble_eq_true rfl, Nat.le_of_ble_eq_true rfl⟩ dX8_readArguments_137) hS (fun H locs hH hS => ?_)
    obtain ⟨hg141, hf⟩ := gd_o hf
    have bhg141 := vin_lt hg141
    refine hs_iast hx hb hK hH hS 32 0 (by decide) (fun _ => rfl) hg141 rfl dX8_readArguments_140 (fun H locs hH hS => ?_)
    obtain ⟨M142, eM142, hf⟩ := nm_o hf
    rw [← eM142] at hH
    refine lv_aload_n hx hb dX8_readArguments_141 rfl (lv_at hl 0 rfl) ?_
    refine hs_get hx hb (T := TX8) hA inAX8 hown hK hH 20 0 (by decide) 12 rfl rfl 18 (by decide) (hA _ zt_1569) rfl rfl dX8_readArguments_142 ?_
    refine lv_iload_n hx hb dX8_readArguments_145 rfl (lv_at hl 2 rfl) ?_
    refine lv_iconst (v := (3 : Int32)) hx hb dX8_readArguments_146 (by decide) ?_
    refine lv_iadd hx hb dX8_readArguments_147 ?_
    refine lv_aload_n hx hb dX8_readArguments_148 rfl (lv_at hl 0 rfl) ?_
    refine lv_bipush (v := (42 : Int32)) hx hb dX8_readArguments_149 (by decide) ?_
    obtain ⟨r145, M144, hq143, hf⟩ := bd2_o hf
    refine hs_ci (hs_runV C0 hH hS (n := 1) (As := [.int (42 : Int32)]) (rest := [.int (a2 + (3 : Int32)), .ref (YA Y 32 0)]) (c_X8_numberBehind M142 (42 : Int32) hq143) ⟨⟨zt_2028, zt_2030, zs_73, zt_13, zt_2031⟩, rfl, by decide, by decide, by decide +kernel⟩ ⟨rfl, rfl, Nat.le_of_ble_eq_true rfl, Nat.le_of_ble_eq_true rfl⟩ (hs_recv hK hH 20 0 (by decide) 12 rfl rfl) rfl rfl hl.1 (Nat.le_of_ble_eq_true rfl) ⟨Nat.le_of_ble_eq_true rfl, Nat.le_of_ble_eq_true rfl⟩ dX8_readArguments_151) hS (fun H locs hH hS => ?_)
    obtain ⟨hg146, hf⟩ := gd_o hf
    have bhg146 := vin_lt hg146
    refine hs_iast hx hb hK hH hS 32 0 (by decide) (fun _ => rfl) hg146 rfl dX8_readArguments_154 (fun H locs hH hS => ?_)
    obtain ⟨M147, eM147, hf⟩ := nm_o hf
    rw [← eM147] at hH
    refine lv_goto (tgt := 226) hx hb dX8_readArguments_155 (by decide) ?_
    cases hf
    exact hs_vret C0 hH hS (by decide) (by decide) dX8_readArguments_226
  have hf := if_f hf hw148
  by_cases hw159 : a1 = (5 : Int32)
  · have hf := if_t hf hw159
    refine lv_tableIn (tgt := 171) (off := 170) hx hb dX8_readArguments_1 (by rw [hw159]; decide) (by rw [hw159]; decide) (by rw [hw159]; rfl) (by decide) ?_
    refine lv_aload_n hx hb dX8_readArguments_171 rfl (lv_at hl 0 rfl) ?_
    refine hs_get hx hb (T := TX8) hA inAX8 hown hK hH 20 0 (by decide) 12 rfl rfl 18 (by decide) (hA _ zt_1569) rfl rfl dX8_readArguments_172 ?_
    refine lv_iload_n hx hb dX8_readArguments_175 rfl (lv_at hl 2 rfl) ?_
    refine lv_aload_n hx hb dX8_readArguments_176 rfl (lv_at hl 0 rfl) ?_
    obtain ⟨r151, M150, hq149, hf⟩ := bd2_o hf
    refine hs_ci (hs_runV C0 hH hS (n := 0) (As := []) (rest := [.int a2, .ref (YA Y 32 0)]) (c_X8_number M hq149) ⟨⟨zt_2032, zt_2034, zs_74, zt_13, zt_2035⟩, rfl, by decide, by decide, by decide +kernel⟩ ⟨rfl, rfl, Nat.le_of_ble_eq_true rfl, Nat.le_of_ble_eq_true rfl⟩ (hs_recv hK hH 20 0 (by decide) 12 rfl rfl) rfl rfl hl.1 (Nat.le_of_ble_eq_true rfl) ⟨Nat.le_of_ble_eq_true rfl, Nat.le_of_ble_eq_true rfl⟩ dX8_readArguments_177) hS (fun H locs hH hS => ?_)
    obtain ⟨hg152, hf⟩ := gd_o hf
    have bhg152 := vin_lt hg152
    refine hs_iast hx hb hK hH hS 32 0 (by decide) (fun _ => rfl) hg152 rfl dX8_readArguments_180 (fun H locs hH hS => ?_)
    obtain ⟨M153, eM153, hf⟩ := nm_o hf
    rw [← eM153] at hH
    refine lv_aload_n hx hb dX8_readArguments_181 rfl (lv_at hl 0 rfl) ?_
    refine hs_get hx hb (T := TX8) hA inAX8 hown hK hH 20 0 (by decide) 12 rfl rfl 18 (by decide) (hA _ zt_1569) rfl rfl dX8_readArguments_182 ?_
    refine lv_iload_n hx hb dX8_readArguments_185 rfl (lv_at hl 2 rfl) ?_
    refine lv_iconst (v := (1 : Int32)) hx hb dX8_readArguments_186 (by decide) ?_
    refine lv_iadd hx hb dX8_readArguments_187 ?_
    refine lv_aload_n hx hb dX8_readArguments_188 rfl (lv_at hl 0 rfl) ?_
    refine lv_bipush (v := (32 : Int32)) hx hb dX8_readArguments_189 (by decide) ?_
    obtain ⟨r156, M155, hq154, hf⟩ := bd2_o hf
    refine hs_ci (hs_runV C0 hH hS (n := 1) (As := [.int (32 : Int32)]) (rest := [.int (a2 + (1 : Int32)), .ref (YA Y 32 0)]) (c_X8_numberBehind M153 (32 : Int32) hq154) ⟨⟨zt_2028, zt_2030, zs_73, zt_13, zt_2031⟩, rfl, by decide, by decide, by decide +kernel⟩ ⟨rfl, rfl, Nat.le_of_ble_eq_true rfl, Nat.le_of_ble_eq_true rfl⟩ (hs_recv hK hH 20 0 (by decide) 12 rfl rfl) rfl rfl hl.1 (Nat.le_of_ble_eq_true rfl) ⟨Nat.le_of_ble_eq_true rfl, Nat.le_of_ble_eq_true rfl⟩ dX8_readArguments_191) hS (fun H locs hH hS => ?_)
    obtain ⟨hg157, hf⟩ := gd_o hf
    have bhg157 := vin_lt hg157
    refine hs_iast hx hb hK hH hS 32 0 (by decide) (fun _ => rfl) hg157 rfl dX8_readArguments_194 (fun H locs hH hS => ?_)
    obtain ⟨M158, eM158, hf⟩ := nm_o hf
    rw [← eM158] at hH
    refine lv_goto (tgt := 226) hx hb dX8_readArguments_195 (by decide) ?_
    cases hf
    exact hs_vret C0 hH hS (by decide) (by decide) dX8_readArguments_226
  have hf := if_f hf hw159
  by_cases hw170 : a1 = (6 : Int32)
  · have hf := if_t hf hw170
    refine lv_tableIn (tgt := 171) (off := 170) hx hb dX8_readArguments_1 (by rw [hw170]; decide) (by rw [hw170]; decide) (by rw [hw170]; rfl) (by decide) ?_
    refine lv_aload_n hx hb dX8_readArguments_171 rfl (lv_at hl 0 rfl) ?_
    refine hs_get hx hb (T := TX8) hA inAX8 hown hK hH 20 0 (by decide) 12 rfl rfl 18 (by decide) (hA _ zt_1569) rfl rfl dX8_readArguments_172 ?_
    refine lv_iload_n hx hb dX8_readArguments_175 rfl (lv_at hl 2 rfl) ?_
    refine lv_aload_n hx hb dX8_readArguments_176 rfl (lv_at hl 0 rfl) ?_
    obtain ⟨r162, M161, hq160, hf⟩ := bd2_o hf
    refine hs_ci (hs_runV C0 hH hS (n := 0) (As := []) (rest := [.int a2, .ref (YA Y 32 0)]) (c_X8_number M hq160) ⟨⟨zt_2032, zt_2034, zs_74, zt_13, zt_2035⟩, rfl, by decide, by decide, by decide +kernel⟩ ⟨rfl, rfl, Nat.le_of_ble_eq_true rfl, Nat.le_of_ble_eq_true rfl⟩ (hs_recv hK hH 20 0 (by decide) 12 rfl rfl) rfl rfl hl.1 (Nat.le_of_ble_eq_true rfl) ⟨Nat.le_of_ble_eq_true rfl, Nat.le_of_ble_eq_true rfl⟩ dX8_readArguments_177) hS (fun H locs hH hS => ?_)
    obtain ⟨hg163, hf⟩ := gd_o hf
    have bhg163 := vin_lt hg163
    refine hs_iast hx hb hK hH hS 32 0 (by decide) (fun _ => rfl) hg163 rfl dX8_readArguments_180 (fun H locs hH hS => ?_)
    obtain ⟨M164, eM164, hf⟩ := nm_o hf
    rw [← eM164] at hH
    refine lv_aload_n hx hb dX8_readArguments_181 rfl (lv_at hl 0 rfl) ?_
    refine hs_get hx hb (T := TX8) hA inAX8 hown hK hH 20 0 (by decide) 12 rfl rfl 18 (by decide) (hA _ zt_1569) rfl rfl dX8_readArguments_182 ?_
    refine lv_iload_n hx hb dX8_readArguments_185 rfl (lv_at hl 2 rfl) ?_
    refine lv_iconst (v := (1 : Int32)) hx hb dX8_readArguments_186 (by decide) ?_
    refine lv_iadd hx hb dX8_readArguments_187 ?_
    refine lv_aload_n hx hb dX8_readArguments_188 rfl (lv_at hl 0 rfl) ?_
    refine lv_bipush (v := (32 : Int32)) hx hb dX8_readArguments_189 (by decide) ?_
    obtain ⟨r167, M166, hq165, hf⟩ := bd2_o hf
    refine hs_ci (hs_runV C0 hH hS (n := 1) (As := [.int (32 : Int32)]) (rest := [.int (a2 + (1 : Int32)), .ref (YA Y 32 0)]) (c_X8_numberBehind M164 (32 : Int32) hq165) ⟨⟨zt_2028, zt_2030, zs_73, zt_13, zt_2031⟩, rfl, by decide, by decide, by decide +kernel⟩ ⟨rfl, rfl, Nat.le_of_ble_eq_true rfl, Nat.le_of_ble_eq_true rfl⟩ (hs_recv hK hH 20 0 (by decide) 12 rfl rfl) rfl rfl hl.1 (Nat.le_of_ble_eq_true rfl) ⟨Nat.le_of_ble_eq_true rfl, Nat.le_of_ble_eq_true rfl⟩ dX8_readArguments_191) hS (fun H locs hH hS => ?_)
    obtain ⟨hg168, hf⟩ := gd_o hf
    have bhg168 := vin_lt hg168
    refine hs_iast hx hb hK hH hS 32 0 (by decide) (fun _ => rfl) hg168 rfl dX8_readArguments_194 (fun H locs hH hS => ?_)
    obtain ⟨M169, eM169, hf⟩ := nm_o hf
    rw [← eM169] at hH
    refine lv_goto (tgt := 226) hx hb dX8_readArguments_195 (by decide) ?_
    cases hf
    exact hs_vret C0 hH hS (by decide) (by decide) dX8_readArguments_226
  have hf := if_f hf hw170
  by_cases hw176 : a1 = (7 : Int32)
  · have hf := if_t hf hw176
    refine lv_tableIn (tgt := 158) (off := 157) hx hb dX8_readArguments_1 (by rw [hw176]; decide) (by rw [hw176]; decide) (by rw [hw176]; rfl) (by decide) ?_
    refine lv_aload_n hx hb dX8_readArguments_158 rfl (lv_at hl 0 rfl) ?_
    refine hs_get hx hb (T := TX8) hA inAX8 hown hK hH 20 0 (by decide) 12 rfl rfl 18 (by decide) (hA _ zt_1569) rfl rfl dX8_readArguments_159 ?_
    refine lv_iload_n hx hb dX8_readArguments_162 rfl (lv_at hl 2 rfl) ?_
    refine lv_aload_n hx hb dX8_readArguments_163 rfl (lv_at hl 0 rfl) ?_
    obtain ⟨r173, M172, hq171, hf⟩ := bd2_o hf
    refine hs_ci (hs_runV C0 hH hS (n := 0) (As := []) (rest := [.int a2, .ref (YA Y 32 0)]) (c_X8_number M hq171) ⟨⟨zt_2032, zt_2034, zs_74, zt_13, zt_2035⟩, rfl, by decide, by decide, by decide +kernel⟩ ⟨rfl, rfl, Nat.le_of_ble_eq_true rfl, Nat.le_of_ble_eq_true rfl⟩ (hs_recv hK hH 20 0 (by decide) 12 rfl rfl) rfl rfl hl.1 (Nat.le_of_ble_eq_true rfl) ⟨Nat.le_of_ble_eq_true rfl, Nat.le_of_ble_eq_true rfl⟩ dX8_readArguments_164) hS (fun H locs hH hS => ?_)
    obtain ⟨hg174, hf⟩ := gd_o hf
    have bhg174 := vin_lt hg174
    refine hs_iast hx hb hK hH hS 32 0 (by decide) (fun _ => rfl) hg174 rfl dX8_readArguments_167 (fun H locs hH hS => ?_)
    obtain ⟨M175, eM175, hf⟩ := nm_o hf
    rw [← eM175] at hH
    refine lv_goto (tgt := 226) hx hb dX8_readArguments_168 (by decide) ?_
    cases hf
    exact hs_vret C0 hH hS (by decide) (by decide) dX8_readArguments_226
  have hf := if_f hf hw176
  by_cases hw183 : a1 = (9 : Int32)
  · have hf := if_t hf hw183
    refine lv_tableIn (tgt := 198) (off := 197) hx hb dX8_readArguments_1 (by rw [hw183]; decide) (by rw [hw183]; decide) (by rw [hw183]; rfl) (by decide) ?_
    refine lv_aload_n hx hb dX8_readArguments_198 rfl (lv_at hl 0 rfl) ?_
    refine hs_get hx hb (T := TX8) hA inAX8 hown hK hH 20 0 (by decide) 12 rfl rfl 18 (by decide) (hA _ zt_1569) rfl rfl dX8_readArguments_199 ?_
    refine lv_iload_n hx hb dX8_readArguments_202 rfl (lv_at hl 2 rfl) ?_
    refine lv_aload_n hx hb dX8_readArguments_203 rfl (lv_at hl 0 rfl) ?_
    obtain ⟨r178, hq177, hf⟩ := bd_o hf
    refine hs_ci (hs_runV C0 hH hS (n := 0) (As := []) (rest := [.int a2, .ref (YA Y 32 0)]) (c_X8_here M hq177) ⟨⟨zt_2014, zt_2016, zs_70, zt_13, zt_2017⟩, rfl, by decide, by decide, by decide +kernel⟩ ⟨rfl, rfl, Nat.le_of_ble_eq_true rfl, Nat.le_of_ble_eq_true rfl⟩ (hs_recv hK hH 20 0 (by decide) 12 rfl rfl) rfl rfl hl.1 (Nat.le_of_ble_eq_true rfl) ⟨Nat.le_of_ble_eq_true rfl, Nat.le_of_ble_eq_true rfl⟩ dX8_readArguments_204) hS (fun H locs hH hS => ?_)
    refine lv_bipush (v := (32 : Int32)) hx hb dX8_readArguments_207 (by decide) ?_
    refine lv_icmp_ne (tgt := 221) hx hb dX8_readArguments_209 (by decide) (fun hc182 => ?_) (fun hc182 => ?_)
    · have hf := if_f hf hc182
      refine lv_iconst (v := (1 : Int32)) hx hb dX8_readArguments_221 (by decide) ?_
      exact w_X8_readArguments_222 C0 M (1 : Int32) a2 hf _ _ _ hH hS (lv_sub hl [] rfl)
    · have hf := if_t hf hc182
      refine lv_aload_n hx hb dX8_readArguments_212 rfl (lv_at hl 0 rfl) ?_
      refine lv_bipush (v := (32 : Int32)) hx hb dX8_readArguments_213 (by decide) ?_
      obtain ⟨r181, M180, hq179, hf⟩ := bd2_o hf
      refine hs_ci (hs_runV C0 hH hS (n := 1) (As := [.int (32 : Int32)]) (rest := [.int a2, .ref (YA Y 32 0)]) (c_X8_numberBehind M (32 : Int32) hq179) ⟨⟨zt_2028, zt_2030, zs_73, zt_13, zt_2031⟩, rfl, by decide, by decide, by decide +kernel⟩ ⟨rfl, rfl, Nat.le_of_ble_eq_true rfl, Nat.le_of_ble_eq_true rfl⟩ (hs_recv hK hH 20 0 (by decide) 12 rfl rfl) rfl rfl hl.1 (Nat.le_of_ble_eq_true rfl) ⟨Nat.le_of_ble_eq_true rfl, Nat.le_of_ble_eq_true rfl⟩ dX8_readArguments_215) hS (fun H locs hH hS => ?_)
      refine lv_goto (tgt := 222) hx hb dX8_readArguments_218 (by decide) ?_
      exact w_X8_readArguments_222 C0 M180 r181 a2 hf _ _ _ hH hS (lv_sub hl [] rfl)
  have hf := if_f hf hw183
  have ehw115 := lv_neT hw115 (show ((1 : Int32)).toInt = 1 from by decide)
  have ehw121 := lv_neT hw121 (show ((2 : Int32)).toInt = 2 from by decide)
  have ehw127 := lv_neT hw127 (show ((3 : Int32)).toInt = 3 from by decide)
  have ehw148 := lv_neT hw148 (show ((4 : Int32)).toInt = 4 from by decide)
  have ehw159 := lv_neT hw159 (show ((5 : Int32)).toInt = 5 from by decide)
  have ehw170 := lv_neT hw170 (show ((6 : Int32)).toInt = 6 from by decide)
  have ehw176 := lv_neT hw176 (show ((7 : Int32)).toInt = 7 from by decide)
  have ehw183 := lv_neT hw183 (show ((9 : Int32)).toInt = 9 from by decide)
  by_cases hw184 : (a1).toInt = 8
  · refine lv_tableIn (tgt := 226) (off := 225) hx hb dX8_readArguments_1 (by rw [hw184]; decide) (by rw [hw184]; decide) (by rw [hw184]; rfl) (by decide) ?_
    cases hf
    exact hs_vret C0 hH hS (by decide) (by decide) dX8_readArguments_226
  refine lv_tableOut (tgt := 226) hx hb dX8_readArguments_1 (by omega) (by decide) ?_
  cases hf
  exact hs_vret C0 hH hS (by decide) (by decide) dX8_readArguments_226
def f_X8_readCommand_83 (M : Mem) (a1 : Int32) (a2 : Int32) (b0 : Int32) : Option Mem := if isB b0 then (nm (mu M 20 0 22 b0) fun M22 => (if (M22 20 0 22) = 0 then if vin a1 305 then (nm (mu M22 32 0 (ix a1) a2) fun M25 => nm (mu M25 20 0 19 ((M25 20 0 19) + (1 : Int32))) fun M26 => bd (f_X8_readArguments M26 a2 (a1 + (1 : Int32))) fun M28 => some M28) else none else some M22)) else none
set_option maxHeartbeats 4000000 in
set_option maxRecDepth 100000 in
theorem w_X8_readCommand_83 {Y : LY} {p : Program} {l : Launch} {e : Env} {s : State} {m : MethodId} {args : Array Value} {below : List Frame} {meth : Method} {c : Code} (C0 : BE Y p s m args meth c cX8_readCommand 4 (Option.none : Option Jvm.ClassFile.FieldType) RX8) {MZ : Mem} : ∀ (M : Mem) (a1 : Int32) (a2 : Int32) (b0 : Int32), f_X8_readCommand_83 M a1 a2 b0 = some MZ → ∀ (H : Heap) (locs : List Loc) (ls : Array Slot), HS Y M H → va_S (AZ Y) s.heap H locs → lv_has ls 4 [(0, .ref (YA Y 20 0)), (1, .int a1), (2, .int a2)] → W p l e { frames := 5, cells := 0, slots := 0, locals := 111 } s m args below meth c H locs 0 0 (MQ below (Qv Y MZ) args s 0 0 (AZ Y)) (F0 m 83 ls [.int b0, .ref (YA Y 20 0)]) := by
  obtain ⟨hx, hb, hr, hml, hown, hA, hlocks, hK, hZ⟩ := id C0
  intro M a1 a2 b0 hf H locs ls hH hS hl
  unfold f_X8_readCommand_83 at hf
  obtain ⟨hg23, hf⟩ := gd_o hf
  refine hs_putz hx hb (T := TX8) hA inAX8 tyX8 tyX8_ok nmX8 hown hK hH hS 20 0 (by decide) 12 rfl rfl 22 (by decide) (hA _ zt_1573) rfl rfl (by decide +kernel) hg23 (Nat.le_of_ble_eq_true rfl) rfl dX8_readCommand_83 (fun H locs hH hS => ?_)
  obtain ⟨M22, eM22, hf⟩ := nm_o hf
  rw [← eM22] at hH
  refine lv_aload_n hx hb dX8_readCommand_86 rfl (lv_at hl 0 rfl) ?_
  refine hs_get hx hb (T := TX8) hA inAX8 hown hK hH 20 0 (by decide) 12 rfl rfl 22 (by decide) (hA _ zt_1573) rfl rfl dX8_readCommand_87 ?_
  refine lv_if_ne (tgt := 118) hx hb dX8_readCommand_90 (by decide) (fun hc30 => ?_) (fun hc30 => ?_)
  · have hf := if_f hf hc30
    cases hf
    exact hs_vret C0 hH hS (by decide) (by decide) dX8_readCommand_118
  · have hf := if_t hf hc30
    refine lv_aload_n hx hb dX8_readCommand_93 rfl (lv_at hl 0 rfl) ?_
    refine hs_get hx hb (T := TX8) hA inAX8 hown hK hH 20 0 (by decide) 12 rfl rfl 18 (by decide) (hA _ zt_1569) rfl rfl dX8_readCommand_94 ?_
    refine lv_iload_n hx hb dX8_readCommand_97 rfl (lv_at hl 1 rfl) ?_
    refine lv_iload_n hx hb dX8_readCommand_98 rfl (lv_at hl 2 rfl) ?_
    obtain ⟨hg24, hf⟩ := gd_o hf
    have bhg24 := vin_lt hg24
    refine hs_iast hx hb hK hH hS 32 0 (by decide) (fun _ => rfl) hg24 rfl dX8_readCommand_99 (fun H locs hH hS => ?_)
    obtain ⟨M25, eM25, hf⟩ := nm_o hf
    rw [← eM25] at hH
    refine lv_aload_n hx hb dX8_readCommand_100 rfl (lv_at hl 0 rfl) ?_
    refine lv_dup hx hb dX8_readCommand_101 rfl ?_
    refine hs_get hx hb (T := TX8) hA inAX8 hown hK hH 20 0 (by decide) 12 rfl rfl 19 (by decide) (hA _ zt_1570) rfl rfl dX8_readCommand_102 ?_
    refine lv_iconst (v := (1 : Int32)) hx hb dX8_readCommand_105 (by decide) ?_
    refine lv_iadd hx hb dX8_readCommand_106 ?_
    refine hs_put hx hb (T := TX8) hA inAX8 tyX8 tyX8_ok nmX8 hown hK hH hS 20 0 (by decide) 12 rfl rfl 19 (by decide) (hA _ zt_1570) rfl rfl (by decide +kernel) (Nat.le_of_ble_eq_true rfl) rfl dX8_readCommand_107 (fun H locs hH hS => ?_)
    obtain ⟨M26, eM26, hf⟩ := nm_o hf
    rw [← eM26] at hH
    refine lv_aload_n hx hb dX8_readCommand_110 rfl (lv_at hl 0 rfl) ?_
    refine lv_iload_n hx hb dX8_readCommand_111 rfl (lv_at hl 2 rfl) ?_
    refine lv_iload_n hx hb dX8_readCommand_112 rfl (lv_at hl 1 rfl) ?_
    refine lv_iconst (v := (1 : Int32)) hx hb dX8_readCommand_113 (by decide) ?_
    refine lv_iadd hx hb dX8_readCommand_114 ?_
    obtain ⟨M28, hq27, hf⟩ := bd_o hf
    refine hs_cv (hs_runV C0 hH hS (n := 2) (As := [.int a2, .int (a1 + (1 : Int32))]) (rest := []) (c_X8_readArguments M26 a2 (a1 + (1 : Int32)) hq27) ⟨⟨zt_2006, zt_2008, zs_68, zt_13, zt_2009⟩, rfl, by decide, by decide, by decide +kernel⟩ ⟨rfl, rfl, Nat.le_of_ble_eq_true rfl, Nat.le_of_ble_eq_true rfl⟩ (hs_recv hK hH 20 0 (by decide) 12 rfl rfl) rfl rfl hl.1 (Nat.le_of_ble_eq_true rfl) ⟨Nat.le_of_ble_eq_true rfl, Nat.le_of_ble_eq_true rfl⟩ dX8_readCommand_115) hS (fun H locs hH hS => ?_)
    cases hf
    exact hs_vret C0 hH hS (by decide) (by decide) dX8_readCommand_118
def f_X8_readCommand_35 (k11 : Mem → Int32 → Int32 → Int32 → Option Mem) (M : Mem) (a1 : Int32) (a3 : Int32) (b0 : Int32) : Option Mem := k11 M a1 b0 (a3 + (1 : Int32))
set_option maxHeartbeats 4000000 in
set_option maxRecDepth 100000 in
theorem w_X8_readCommand_35 {Y : LY} {p : Program} {l : Launch} {e : Env} {s : State} {m : MethodId} {args : Array Value} {below : List Frame} {meth : Method} {c : Code} (C0 : BE Y p s m args meth c cX8_readCommand 4 (Option.none : Option Jvm.ClassFile.FieldType) RX8) {MZ : Mem} (k11 : Mem → Int32 → Int32 → Int32 → Option Mem) (hk11 : ∀ (M : Mem) (a1 : Int32) (a2 : Int32) (a3 : Int32), k11 M a1 a2 a3 = some MZ → ∀ (H : Heap) (locs : List Loc) (ls : Array Slot), HS Y M H → va_S (AZ Y) s.heap H locs → lv_has ls 4 [(0, .ref (YA Y 20 0)), (1, .int a1), (2, .int a2), (3, .int a3)] → W p l e { frames := 5, cells := 0, slots := 0, locals := 111 } s m args below meth c H locs 0 0 (MQ below (Qv Y MZ) args s 0 0 (AZ Y)) (F0 m 11 ls [])) : ∀ (M : Mem) (a1 : Int32) (a3 : Int32) (b0 : Int32), f_X8_readCommand_35 k11 M a1 a3 b0 = some MZ → ∀ (H : Heap) (locs : List Loc) (ls : Array Slot), HS Y M H → va_S (AZ Y) s.heap H locs → lv_has ls 4 [(0, .ref (YA Y 20 0)), (1, .int a1), (3, .int a3)] → W p l e { frames := 5, cells := 0, slots := 0, locals := 111 } s m args below meth c H locs 0 0 (MQ below (Qv Y MZ) args s 0 0 (AZ Y)) (F0 m 35 ls [.int b0]) := by
  obtain ⟨hx, hb, hr, hml, hown, hA, hlocks, hK, hZ⟩ := id C0
  intro M a1 a3 b0 hf H locs ls hH hS hl
  unfold f_X8_readCommand_35 at hf
  refine lv_istore_n (lv' := [(2, .int b0), (0, .ref (YA Y 20 0)), (1, .int a1), (3, .int a3)]) hx hb dX8_readCommand_35 rfl hl (by decide) rfl (fun ls hl => ?_)
  refine lv_iinc (v := a3 + (1 : Int32)) (lv' := [(3, .int (a3 + (1 : Int32))), (2, .int b0), (0, .ref (YA Y 20 0)), (1, .int a1)]) hx hb dX8_readCommand_36 hl (k := 3) rfl rfl (by decide) rfl (fun ls hl => ?_)
  refine lv_goto (tgt := 11) hx hb dX8_readCommand_39 (by decide) ?_
  exact hk11 M a1 b0 (a3 + (1 : Int32)) hf _ _ _ hH hS (lv_sub hl [2, 3, 1, 0] rfl)
def f_X8_readCommand_11 : Nat → Mem → Int32 → Int32 → Int32 → Option Mem
  | 0, _, _, _, _ => none
  | n + 1, M, a1, a2, a3 => (if (10 : Int32) ≤ a3 then bd (f_X8_likeness M a2) fun r32 => nm (mu M 20 0 20 ((M 20 0 20) + r32)) fun M33 => if vin (a2 + (1 : Int32)) 11 then (if vin a2 11 then ((if ((M33 31 0 (ix (a2 + (1 : Int32)))) - (M33 31 0 (ix a2))) ≤ r32 then f_X8_readCommand_83 M33 a1 a2 (0 : Int32) else f_X8_readCommand_83 M33 a1 a2 (1 : Int32))) else none) else none else bd (f_X8_likeness M a3) fun r38 => bd (f_X8_likeness M a2) fun r40 => (if r38 ≤ r40 then f_X8_readCommand_35 (f_X8_readCommand_11 n) M a1 a3 a2 else f_X8_readCommand_35 (f_X8_readCommand_11 n) M a1 a3 a3))
set_option maxHeartbeats 4000000 in
set_option maxRecDepth 100000 in
theorem w_X8_readCommand_11 {Y : LY} {p : Program} {l : Launch} {e : Env} {s : State} {m : MethodId} {args : Array Value} {below : List Frame} {meth : Method} {c : Code} (C0 : BE Y p s m args meth c cX8_readCommand 4 (Option.none : Option Jvm.ClassFile.FieldType) RX8) {MZ : Mem} : ∀ (n : Nat) (M : Mem) (a1 : Int32) (a2 : Int32) (a3 : Int32), f_X8_readCommand_11 n M a1 a2 a3 = some MZ → ∀ (H : Heap) (locs : List Loc) (ls : Array Slot), HS Y M H → va_S (AZ Y) s.heap H locs → lv_has ls 4 [(0, .ref (YA Y 20 0)), (1, .int a1), (2, .int a2), (3, .int a3)] → W p l e { frames := 5, cells := 0, slots := 0, locals := 111 } s m args below meth c H locs 0 0 (MQ below (Qv Y MZ) args s 0 0 (AZ Y)) (F0 m 11 ls []) := by
  obtain ⟨hx, hb, hr, hml, hown, hA, hlocks, hK, hZ⟩ := id C0
  intro n
  induction n with
  | zero =>
    intro M a1 a2 a3 hf
    cases hf
  | succ n ih =>
    intro M a1 a2 a3 hf H locs ls hH hS hl
    rw [f_X8_readCommand_11] at hf
    refine lv_iload_n hx hb dX8_readCommand_11 rfl (lv_at hl 3 rfl) ?_
    refine lv_bipush (v := (10 : Int32)) hx hb dX8_readCommand_12 (by decide) ?_
    refine lv_icmp_ge (tgt := 42) hx hb dX8_readCommand_14 (by decide) (fun hc42 => ?_) (fun hc42 => ?_)
    · have hf := if_t hf hc42
      refine lv_aload_n hx hb dX8_readCommand_42 rfl (lv_at hl 0 rfl) ?_
      refine lv_iload_n hx hb dX8_readCommand_43 rfl (lv_at hl 2 rfl) ?_
      obtain ⟨r32, hq31, hf⟩ := bd_o hf
      refine hs_ci (hs_runV C0 hH hS (n := 1) (As := [.int a2]) (rest := []) (c_X8_likeness M a2 hq31) ⟨⟨zt_2002, zt_2004, zs_67, zt_13, zt_2005⟩, rfl, by decide, by decide, by decide +kernel⟩ ⟨rfl, rfl, Nat.le_of_ble_eq_true rfl, Nat.le_of_ble_eq_true rfl⟩ (hs_recv hK hH 20 0 (by decide) 12 rfl rfl) rfl rfl hl.1 (Nat.le_of_ble_eq_true rfl) ⟨Nat.le_of_ble_eq_true rfl, Nat.le_of_ble_eq_true rfl⟩ dX8_readCommand_44) hS (fun H locs hH hS => ?_)
      refine lv_istore_n (lv' := [(3, .int r32), (0, .ref (YA Y 20 0)), (1, .int a1), (2, .int a2)]) hx hb dX8_readCommand_47 rfl hl (by decide) rfl (fun ls hl => ?_)
      refine lv_aload_n hx hb dX8_readCommand_48 rfl (lv_at hl 1 rfl) ?_
      refine lv_dup hx hb dX8_readCommand_49 rfl ?_
      refine hs_get hx hb (T := TX8) hA inAX8 hown hK hH 20 0 (by decide) 12 rfl rfl 20 (by decide) (hA _ zt_1571) rfl rfl dX8_readCommand_50 ?_
      refine lv_iload_n hx hb dX8_readCommand_53 rfl (lv_at hl 0 rfl) ?_
      refine lv_iadd hx hb dX8_readCommand_54 ?_
      refine hs_put hx hb (T := TX8) hA inAX8 tyX8 tyX8_ok nmX8 hown hK hH hS 20 0 (by decide) 12 rfl rfl 20 (by decide) (hA _ zt_1571) rfl rfl (by decide +kernel) (Nat.le_of_ble_eq_true rfl) rfl dX8_readCommand_55 (fun H locs hH hS => ?_)
      obtain ⟨M33, eM33, hf⟩ := nm_o hf
      rw [← eM33] at hH
      refine lv_aload_n hx hb dX8_readCommand_58 rfl (lv_at hl 1 rfl) ?_
      refine lv_iload_n hx hb dX8_readCommand_59 rfl (lv_at hl 0 rfl) ?_
      refine lv_aload_n hx hb dX8_readCommand_60 rfl (lv_at hl 1 rfl) ?_
      refine hs_get hx hb (T := TX8) hA inAX8 hown hK hH 20 0 (by decide) 12 rfl rfl 17 (by decide) (hA _ zt_1568) rfl rfl dX8_readCommand_61 ?_
      refine lv_iload_n hx hb dX8_readCommand_64 rfl (lv_at hl 3 rfl) ?_
      refine lv_iconst (v := (1 : Int32)) hx hb dX8_readCommand_65 (by decide) ?_
      refine lv_iadd hx hb dX8_readCommand_66 ?_
      obtain ⟨hg34, hf⟩ := gd_o hf
      have bhg34 := vin_lt hg34
      refine hs_iald hx hb hK hH 31 0 (by decide) rfl hg34 rfl dX8_readCommand_67 ?_
      refine lv_aload_n hx hb dX8_readCommand_68 rfl (lv_at hl 1 rfl) ?_
      refine hs_get hx hb (T := TX8) hA inAX8 hown hK hH 20 0 (by decide) 12 rfl rfl 17 (by decide) (hA _ zt_1568) rfl rfl dX8_readCommand_69 ?_
      refine lv_iload_n hx hb dX8_readCommand_72 rfl (lv_at hl 3 rfl) ?_
      obtain ⟨hg35, hf⟩ := gd_o hf
      have bhg35 := vin_lt hg35
      refine hs_iald hx hb hK hH 31 0 (by decide) rfl hg35 rfl dX8_readCommand_73 ?_
      refine lv_isub hx hb dX8_readCommand_74 ?_
      refine lv_icmp_ge (tgt := 82) hx hb dX8_readCommand_75 (by decide) (fun hc36 => ?_) (fun hc36 => ?_)
      · have hf := if_t hf hc36
        refine lv_iconst (v := (0 : Int32)) hx hb dX8_readCommand_82 (by decide) ?_
        exact w_X8_readCommand_83 C0 M33 a1 a2 (0 : Int32) hf _ _ _ hH hS (lv_sub hl [1, 2, 3] rfl)
      · have hf := if_f hf hc36
        refine lv_iconst (v := (1 : Int32)) hx hb dX8_readCommand_78 (by decide) ?_
        refine lv_goto (tgt := 83) hx hb dX8_readCommand_79 (by decide) ?_
        exact w_X8_readCommand_83 C0 M33 a1 a2 (1 : Int32) hf _ _ _ hH hS (lv_sub hl [1, 2, 3] rfl)
    · have hf := if_f hf hc42
      refine lv_aload_n hx hb dX8_readCommand_17 rfl (lv_at hl 0 rfl) ?_
      refine lv_iload_n hx hb dX8_readCommand_18 rfl (lv_at hl 3 rfl) ?_
      obtain ⟨r38, hq37, hf⟩ := bd_o hf
      refine hs_ci (hs_runV C0 hH hS (n := 1) (As := [.int a3]) (rest := []) (c_X8_likeness M a3 hq37) ⟨⟨zt_2002, zt_2004, zs_67, zt_13, zt_2005⟩, rfl, by decide, by decide, by decide +kernel⟩ ⟨rfl, rfl, Nat.le_of_ble_eq_true rfl, Nat.le_of_ble_eq_true rfl⟩ (hs_recv hK hH 20 0 (by decide) 12 rfl rfl) rfl rfl hl.1 (Nat.le_of_ble_eq_true rfl) ⟨Nat.le_of_ble_eq_true rfl, Nat.le_of_ble_eq_true rfl⟩ dX8_readCommand_19) hS (fun H locs hH hS => ?_)
      refine lv_aload_n hx hb dX8_readCommand_22 rfl (lv_at hl 0 rfl) ?_
      refine lv_iload_n hx hb dX8_readCommand_23 rfl (lv_at hl 2 rfl) ?_
      obtain ⟨r40, hq39, hf⟩ := bd_o hf
      refine hs_ci (hs_runV C0 hH hS (n := 1) (As := [.int a2]) (rest := [.int r38]) (c_X8_likeness M a2 hq39) ⟨⟨zt_2002, zt_2004, zs_67, zt_13, zt_2005⟩, rfl, by decide, by decide, by decide +kernel⟩ ⟨rfl, rfl, Nat.le_of_ble_eq_true rfl, Nat.le_of_ble_eq_true rfl⟩ (hs_recv hK hH 20 0 (by decide) 12 rfl rfl) rfl rfl hl.1 (Nat.le_of_ble_eq_true rfl) ⟨Nat.le_of_ble_eq_true rfl, Nat.le_of_ble_eq_true rfl⟩ dX8_readCommand_24) hS (fun H locs hH hS => ?_)
      refine lv_icmp_le (tgt := 34) hx hb dX8_readCommand_27 (by decide) (fun hc41 => ?_) (fun hc41 => ?_)
      · have hf := if_t hf hc41
        refine lv_iload_n hx hb dX8_readCommand_34 rfl (lv_at hl 2 rfl) ?_
        exact w_X8_readCommand_35 C0 (f_X8_readCommand_11 n) ih M a1 a3 a2 hf _ _ _ hH hS (lv_sub hl [0, 1, 3] rfl)
      · have hf := if_f hf hc41
        refine lv_iload_n hx hb dX8_readCommand_30 rfl (lv_at hl 3 rfl) ?_
        refine lv_goto (tgt := 35) hx hb dX8_readCommand_31 (by decide) ?_
        exact w_X8_readCommand_35 C0 (f_X8_readCommand_11 n) ih M a1 a3 a3 hf _ _ _ hH hS (lv_sub hl [0, 1, 3] rfl)
def f_X8_readCommand (M : Mem) : Option Mem := f_X8_readCommand_11 FU M ((5 : Int32) * (M 20 0 19)) (0 : Int32) (1 : Int32)
set_option maxHeartbeats 4000000 in
set_option maxRecDepth 100000 in
theorem c_X8_readCommand {Y : LY} {l : Launch} (M : Mem) {MZ : Mem} (hf : f_X8_readCommand M = some MZ) : Met l yX8_readCommand (WS yX8_readCommand cX8_readCommand 4 (Option.none : Option Jvm.ClassFile.FieldType)) { frames := 5, cells := 0, slots := 0, locals := 111 } (PcM Y M [.ref (YA Y 20 0)]) (Qv Y MZ) 0 0 (AZ Y) := by
  refine met_mk (lv := [(0, .ref (YA Y 20 0))]) [.ref (YA Y 20 0)] (by decide) rfl rfl (Nat.le_of_ble_eq_true rfl) (fun p e s m below meth c C0 hH ls hl => ?_)
  have hS : va_S (AZ Y) s.heap s.heap [] := va_S.rf
  obtain ⟨hx, hb, hr, hml, hown, hA, hlocks, hK, hZ⟩ := id C0
  unfold f_X8_readCommand at hf
  refine lv_iconst (v := (5 : Int32)) hx hb dX8_readCommand_0 (by decide) ?_
  refine lv_aload_n hx hb dX8_readCommand_1 rfl (lv_at hl 0 rfl) ?_
  refine hs_get hx hb (T := TX8) hA inAX8 hown hK hH 20 0 (by decide) 12 rfl rfl 19 (by decide) (hA _ zt_1570) rfl rfl dX8_readCommand_2 ?_
  refine lv_imul hx hb dX8_readCommand_5 ?_
  refine lv_istore_n (lv' := [(1, .int ((5 : Int32) * (M 20 0 19))), (0, .ref (YA Y 20 0))]) hx hb dX8_readCommand_6 rfl hl (by decide) rfl (fun ls hl => ?_)
  refine lv_iconst (v := (0 : Int32)) hx hb dX8_readCommand_7 (by decide) ?_
  refine lv_istore_n (lv' := [(2, .int (0 : Int32)), (1, .int ((5 : Int32) * (M 20 0 19))), (0, .ref (YA Y 20 0))]) hx hb dX8_readCommand_8 rfl hl (by decide) rfl (fun ls hl => ?_)
  refine lv_iconst (v := (1 : Int32)) hx hb dX8_readCommand_9 (by decide) ?_
  refine lv_istore_n (lv' := [(3, .int (1 : Int32)), (2, .int (0 : Int32)), (1, .int ((5 : Int32) * (M 20 0 19))), (0, .ref (YA Y 20 0))]) hx hb dX8_readCommand_10 rfl hl (by decide) rfl (fun ls hl => ?_)
  exact w_X8_readCommand_11 C0 FU M ((5 : Int32) * (M 20 0 19)) (0 : Int32) (1 : Int32) hf _ _ _ hH hS (lv_sub hl [3, 2, 1, 0] rfl)
def f_X8_does (M : Mem) (a1 : Int32) : Option Mem := if vin (a1 + (1 : Int32)) 305 then (if vin (a1 + (2 : Int32)) 305 then (if vin (a1 + (3 : Int32)) 305 then (if vin (a1 + (4 : Int32)) 305 then (if vin a1 305 then ((if (M 32 0 (ix a1)) = (0 : Int32) then bd2 (f_X8_placeIt M) fun r52 M51 => some M51 else (if (M 32 0 (ix a1)) = (1 : Int32) then bd2 (f_X8_linkIt M (M 32 0 (ix (a1 + (1 : Int32)))) (M 32 0 (ix (a1 + (2 : Int32)))) (M 32 0 (ix (a1 + (3 : Int32)))) (M 32 0 (ix (a1 + (4 : Int32))))) fun r56 M55 => some M55 else (if (M 32 0 (ix a1)) = (2 : Int32) then bd2 (f_X8_blockIt M (M 32 0 (ix (a1 + (1 : Int32)))) (1 : Int32)) fun r60 M59 => some M59 else (if (M 32 0 (ix a1)) = (3 : Int32) then bd2 (f_X8_blockIt M (M 32 0 (ix (a1 + (1 : Int32)))) (0 : Int32)) fun r64 M63 => some M63 else (if (M 32 0 (ix a1)) = (4 : Int32) then bd2 (f_X8_postIt M (M 32 0 (ix (a1 + (1 : Int32)))) (M 32 0 (ix (a1 + (2 : Int32)))) (M 32 0 (ix (a1 + (3 : Int32)))) (M 32 0 (ix (a1 + (4 : Int32))))) fun r68 M67 => some M67 else (if (M 32 0 (ix a1)) = (5 : Int32) then bd2 (f_X8_sendIt M (M 32 0 (ix (a1 + (1 : Int32)))) (M 32 0 (ix (a1 + (2 : Int32))))) fun r72 M71 => some M71 else (if (M 32 0 (ix a1)) = (6 : Int32) then bd2 (f_X8_stampIt M (M 32 0 (ix (a1 + (1 : Int32)))) (M 32 0 (ix (a1 + (2 : Int32))))) fun r76 M75 => some M75 else (if (M 32 0 (ix a1)) = (7 : Int32) then bd2 (f_X8_takeIt M (M 32 0 (ix (a1 + (1 : Int32))))) fun r80 M79 => some M79 else (if (M 32 0 (ix a1)) = (8 : Int32) then bd2 (f_X8_dispatchIt M) fun r84 M83 => some M83 else bd2 (f_X8_passIt M (M 32 0 (ix (a1 + (1 : Int32))))) fun r88 M87 => some M87)))))))))) else none) else none) else none) else none) else none
set_option maxHeartbeats 4000000 in
set_option maxRecDepth 100000 in
theorem c_X8_does {Y : LY} {l : Launch} (M : Mem) (a1 : Int32) {MZ : Mem} (hf : f_X8_does M a1 = some MZ) : Met l yX8_does (WS yX8_does cX8_does 6 (Option.none : Option Jvm.ClassFile.FieldType)) { frames := 7, cells := 0, slots := 0, locals := 163 } (PcM Y M [.ref (YA Y 20 0), .int a1]) (Qv Y MZ) 0 0 (AZ Y) := by
  refine met_mk (lv := [(0, .ref (YA Y 20 0)), (1, .int a1)]) [.ref (YA Y 20 0), .int a1] (by decide) rfl rfl (Nat.le_of_ble_eq_true rfl) (fun p e s m below meth c C0 hH ls hl => ?_)
  have hS : va_S (AZ Y) s.heap s.heap [] := va_S.rf
  obtain ⟨hx, hb, hr, hml, hown, hA, hlocks, hK, hZ⟩ := id C0
  unfold f_X8_does at hf
  refine lv_aload_n hx hb dX8_does_0 rfl (lv_at hl 0 rfl) ?_
  refine hs_get hx hb (T := TX8) hA inAX8 hown hK hH 20 0 (by decide) 12 rfl rfl 18 (by decide) (hA _ zt_1569) rfl rfl dX8_does_1 ?_
  refine lv_iload_n hx hb dX8_does_4 rfl (lv_at hl 1 rfl) ?_
  refine lv_iconst (v := (1 : Int32)) hx hb dX8_does_5 (by decide) ?_
  refine lv_iadd hx hb dX8_does_6 ?_
  obtain ⟨hg45, hf⟩ := gd_o hf
  have bhg45 := vin_lt hg45
  refine hs_iald hx hb hK hH 32 0 (by decide) rfl hg45 rfl dX8_does_7 ?_
  refine lv_istore_n (lv' := [(2, .int (M 32 0 (ix (a1 + (1 : Int32))))), (0, .ref (YA Y 20 0)), (1, .int a1)]) hx hb dX8_does_8 rfl hl (by decide) rfl (fun ls hl => ?_)
  refine lv_aload_n hx hb dX8_does_9 rfl (lv_at hl 1 rfl) ?_
  refine hs_get hx hb (T := TX8) hA inAX8 hown hK hH 20 0 (by decide) 12 rfl rfl 18 (by decide) (hA _ zt_1569) rfl rfl dX8_does_10 ?_
  refine lv_iload_n hx hb dX8_does_13 rfl (lv_at hl 2 rfl) ?_
  refine lv_iconst (v := (2 : Int32)) hx hb dX8_does_14 (by decide) ?_
  refine lv_iadd hx hb dX8_does_15 ?_
  obtain ⟨hg46, hf⟩ := gd_o hf
  have bhg46 := vin_lt hg46
  refine hs_iald hx hb hK hH 32 0 (by decide) rfl hg46 rfl dX8_does_16 ?_
  refine lv_istore_n (lv' := [(3, .int (M 32 0 (ix (a1 + (2 : Int32))))), (2, .int (M 32 0 (ix (a1 + (1 : Int32))))), (0, .ref (YA Y 20 0)), (1, .int a1)]) hx hb dX8_does_17 rfl hl (by decide) rfl (fun ls hl => ?_)
  refine lv_aload_n hx hb dX8_does_18 rfl (lv_at hl 2 rfl) ?_
  refine hs_get hx hb (T := TX8) hA inAX8 hown hK hH 20 0 (by decide) 12 rfl rfl 18 (by decide) (hA _ zt_1569) rfl rfl dX8_does_19 ?_
  refine lv_iload_n hx hb dX8_does_22 rfl (lv_at hl 3 rfl) ?_
  refine lv_iconst (v := (3 : Int32)) hx hb dX8_does_23 (by decide) ?_
  refine lv_iadd hx hb dX8_does_24 ?_
  obtain ⟨hg47, hf⟩ := gd_o hf
  have bhg47 := vin_lt hg47
  refine hs_iald hx hb hK hH 32 0 (by decide) rfl hg47 rfl dX8_does_25 ?_
  refine lv_istore (lv' := [(4, .int (M 32 0 (ix (a1 + (3 : Int32))))), (3, .int (M 32 0 (ix (a1 + (2 : Int32))))), (2, .int (M 32 0 (ix (a1 + (1 : Int32))))), (0, .ref (YA Y 20 0)), (1, .int a1)]) hx hb dX8_does_26 hl (by decide) rfl (fun ls hl => ?_)
  refine lv_aload_n hx hb dX8_does_28 rfl (lv_at hl 3 rfl) ?_
  refine hs_get hx hb (T := TX8) hA inAX8 hown hK hH 20 0 (by decide) 12 rfl rfl 18 (by decide) (hA _ zt_1569) rfl rfl dX8_does_29 ?_
  refine lv_iload_n hx hb dX8_does_32 rfl (lv_at hl 4 rfl) ?_
  refine lv_iconst (v := (4 : Int32)) hx hb dX8_does_33 (by decide) ?_
  refine lv_iadd hx hb dX8_does_34 ?_
  obtain ⟨hg48, hf⟩ := gd_o hf
  have bhg48 := vin_lt hg48
  refine hs_iald hx hb hK hH 32 0 (by decide) rfl hg48 rfl dX8_does_35 ?_
  refine lv_istore (lv' := [(5, .int (M 32 0 (ix (a1 + (4 : Int32))))), (4, .int (M 32 0 (ix (a1 + (3 : Int32))))), (3, .int (M 32 0 (ix (a1 + (2 : Int32))))), (2, .int (M 32 0 (ix (a1 + (1 : Int32))))), (0, .ref (YA Y 20 0)), (1, .int a1)]) hx hb dX8_does_36 hl (by decide) rfl (fun ls hl => ?_)
  refine lv_aload_n hx hb dX8_does_38 rfl (lv_at hl 4 rfl) ?_
  refine hs_get hx hb (T := TX8) hA inAX8 hown hK hH 20 0 (by decide) 12 rfl rfl 18 (by decide) (hA _ zt_1569) rfl rfl dX8_does_39 ?_
  refine lv_iload_n hx hb dX8_does_42 rfl (lv_at hl 5 rfl) ?_
  obtain ⟨hg49, hf⟩ := gd_o hf
  have bhg49 := vin_lt hg49
  refine hs_iald hx hb hK hH 32 0 (by decide) rfl hg49 rfl dX8_does_43 ?_
  by_cases hw53 : (M 32 0 (ix a1)) = (0 : Int32)
  · have hf := if_t hf hw53
    refine lv_tableIn (tgt := 96) (off := 52) hx hb dX8_does_44 (by rw [hw53]; decide) (by rw [hw53]; decide) (by rw [hw53]; rfl) (by decide) ?_
    refine lv_aload_n hx hb dX8_does_96 rfl (lv_at hl 4 rfl) ?_
    obtain ⟨r52, M51, hq50, hf⟩ := bd2_o hf
    refine hs_ci (hs_runV C0 hH hS (n := 0) (As := []) (rest := []) (c_X8_placeIt M hq50) ⟨⟨zt_1633, zt_1635, zs_33, zt_13, zt_1636⟩, rfl, by decide, by decide, by decide +kernel⟩ ⟨rfl, rfl, Nat.le_of_ble_eq_true rfl, Nat.le_of_ble_eq_true rfl⟩ (hs_recv hK hH 20 0 (by decide) 12 rfl rfl) rfl rfl hl.1 (Nat.le_of_ble_eq_true rfl) ⟨Nat.le_of_ble_eq_true rfl, Nat.le_of_ble_eq_true rfl⟩ dX8_does_97) hS (fun H locs hH hS => ?_)
    refine lv_pop hx hb dX8_does_100 rfl ?_
    refine lv_goto (tgt := 195) hx hb dX8_does_101 (by decide) ?_
    cases hf
    exact hs_vret C0 hH hS (by decide) (by decide) dX8_does_195
  have hf := if_f hf hw53
  by_cases hw57 : (M 32 0 (ix a1)) = (1 : Int32)
  · have hf := if_t hf hw57
    refine lv_tableIn (tgt := 104) (off := 60) hx hb dX8_does_44 (by rw [hw57]; decide) (by rw [hw57]; decide) (by rw [hw57]; rfl) (by decide) ?_
    refine lv_aload_n hx hb dX8_does_104 rfl (lv_at hl 4 rfl) ?_
    refine lv_iload_n hx hb dX8_does_105 rfl (lv_at hl 3 rfl) ?_
    refine lv_iload_n hx hb dX8_does_106 rfl (lv_at hl 2 rfl) ?_
    refine lv_iload hx hb dX8_does_107 (lv_at hl 1 rfl) ?_
    refine lv_iload hx hb dX8_does_109 (lv_at hl 0 rfl) ?_
    obtain ⟨r56, M55, hq54, hf⟩ := bd2_o hf
    refine hs_ci (hs_runV C0 hH hS (n := 4) (As := [.int (M 32 0 (ix (a1 + (1 : Int32)))), .int (M 32 0 (ix (a1 + (2 : Int32)))), .int (M 32 0 (ix (a1 + (3 : Int32)))), .int (M 32 0 (ix (a1 + (4 : Int32))))]) (rest := []) (c_X8_linkIt M (M 32 0 (ix (a1 + (1 : Int32)))) (M 32 0 (ix (a1 + (2 : Int32)))) (M 32 0 (ix (a1 + (3 : Int32)))) (M 32 0 (ix (a1 + (4 : Int32)))) hq54) ⟨⟨zt_1649, zt_1651, zs_36, zt_13, zt_1652⟩, rfl, by decide, by decide, by decide +kernel⟩ ⟨rfl, rfl, Nat.le_of_ble_eq_true rfl, Nat.le_of_ble_eq_true rfl⟩ (hs_recv hK hH 20 0 (by decide) 12 rfl rfl) rfl rfl hl.1 (Nat.le_of_ble_eq_true rfl) ⟨Nat.le_of_ble_eq_true rfl, Nat.le_of_ble_eq_true rfl⟩ dX8_does_111) hS (fun H locs hH hS => ?_)
    refine lv_pop hx hb dX8_does_114 rfl ?_
    refine lv_goto (tgt := 195) hx hb dX8_does_115 (by decide) ?_
    cases hf
    exact hs_vret C0 hH hS (by decide) (by decide) dX8_does_195
  have hf := if_f hf hw57
  by_cases hw61 : (M 32 0 (ix a1)) = (2 : Int32)
  · have hf := if_t hf hw61
    refine lv_tableIn (tgt := 118) (off := 74) hx hb dX8_does_44 (by rw [hw61]; decide) (by rw [hw61]; decide) (by rw [hw61]; rfl) (by decide) ?_
    refine lv_aload_n hx hb dX8_does_118 rfl (lv_at hl 4 rfl) ?_
    refine lv_iload_n hx hb dX8_does_119 rfl (lv_at hl 3 rfl) ?_
    refine lv_iconst (v := (1 : Int32)) hx hb dX8_does_120 (by decide) ?_
    obtain ⟨r60, M59, hq58, hf⟩ := bd2_o hf
    refine hs_ci (hs_runV C0 hH hS (n := 2) (As := [.int (M 32 0 (ix (a1 + (1 : Int32)))), .int (1 : Int32)]) (rest := []) (c_X8_blockIt M (M 32 0 (ix (a1 + (1 : Int32)))) (1 : Int32) hq58) ⟨⟨zt_1669, zt_1671, zs_38, zt_13, zt_1672⟩, rfl, by decide, by decide, by decide +kernel⟩ ⟨rfl, rfl, Nat.le_of_ble_eq_true rfl, Nat.le_of_ble_eq_true rfl⟩ (hs_recv hK hH 20 0 (by decide) 12 rfl rfl) rfl rfl hl.1 (Nat.le_of_ble_eq_true rfl) ⟨Nat.le_of_ble_eq_true rfl, Nat.le_of_ble_eq_true rfl⟩ dX8_does_121) hS (fun H locs hH hS => ?_)
    refine lv_pop hx hb dX8_does_124 rfl ?_
    refine lv_goto (tgt := 195) hx hb dX8_does_125 (by decide) ?_
    cases hf
    exact hs_vret C0 hH hS (by decide) (by decide) dX8_does_195
  have hf := if_f hf hw61
  by_cases hw65 : (M 32 0 (ix a1)) = (3 : Int32)
  · have hf := if_t hf hw65
    refine lv_tableIn (tgt := 128) (off := 84) hx hb dX8_does_44 (by rw [hw65]; decide) (by rw [hw65]; decide) (by rw [hw65]; rfl) (by decide) ?_
    refine lv_aload_n hx hb dX8_does_128 rfl (lv_at hl 4 rfl) ?_
    refine lv_iload_n hx hb dX8_does_129 rfl (lv_at hl 3 rfl) ?_
    refine lv_iconst (v := (0 : Int32)) hx hb dX8_does_130 (by decide) ?_
    obtain ⟨r64, M63, hq62, hf⟩ := bd2_o hf
    refine hs_ci (hs_runV C0 hH hS (n := 2) (As := [.int (M 32 0 (ix (a1 + (1 : Int32)))), .int (0 : Int32)]) (rest := []) (c_X8_blockIt M (M 32 0 (ix (a1 + (1 : Int32)))) (0 : Int32) hq62) ⟨⟨zt_1669, zt_1671, zs_38, zt_13, zt_1672⟩, rfl, by decide, by decide, by decide +kernel⟩ ⟨rfl, rfl, Nat.le_of_ble_eq_true rfl, Nat.le_of_ble_eq_true rfl⟩ (hs_recv hK hH 20 0 (by decide) 12 rfl rfl) rfl rfl hl.1 (Nat.le_of_ble_eq_true rfl) ⟨Nat.le_of_ble_eq_true rfl, Nat.le_of_ble_eq_true rfl⟩ dX8_does_131) hS (fun H locs hH hS => ?_)
    refine lv_pop hx hb dX8_does_134 rfl ?_
    refine lv_goto (tgt := 195) hx hb dX8_does_135 (by decide) ?_
    cases hf
    exact hs_vret C0 hH hS (by decide) (by decide) dX8_does_195
  have hf := if_f hf hw65
  by_cases hw69 : (M 32 0 (ix a1)) = (4 : Int32)
  · have hf := if_t hf hw69
    refine lv_tableIn (tgt := 138) (off := 94) hx hb dX8_does_44 (by rw [hw69]; decide) (by rw [hw69]; decide) (by rw [hw69]; rfl) (by decide) ?_
    refine lv_aload_n hx hb dX8_does_138 rfl (lv_at hl 4 rfl) ?_
    refine lv_iload_n hx hb dX8_does_139 rfl (lv_at hl 3 rfl) ?_
    refine lv_iload_n hx hb dX8_does_140 rfl (lv_at hl 2 rfl) ?_
    refine lv_iload hx hb dX8_does_141 (lv_at hl 1 rfl) ?_
    refine lv_iload hx hb dX8_does_143 (lv_at hl 0 rfl) ?_
    obtain ⟨r68, M67, hq66, hf⟩ := bd2_o hf
    refine hs_ci (hs_runV C0 hH hS (n := 4) (As := [.int (M 32 0 (ix (a1 + (1 : Int32)))), .int (M 32 0 (ix (a1 + (2 : Int32)))), .int (M 32 0 (ix (a1 + (3 : Int32)))), .int (M 32 0 (ix (a1 + (4 : Int32))))]) (rest := []) (c_X8_postIt M (M 32 0 (ix (a1 + (1 : Int32)))) (M 32 0 (ix (a1 + (2 : Int32)))) (M 32 0 (ix (a1 + (3 : Int32)))) (M 32 0 (ix (a1 + (4 : Int32)))) hq66) ⟨⟨zt_1689, zt_1691, zs_41, zt_13, zt_1692⟩, rfl, by decide, by decide, by decide +kernel⟩ ⟨rfl, rfl, Nat.le_of_ble_eq_true rfl, Nat.le_of_ble_eq_true rfl⟩ (hs_recv hK hH 20 0 (by decide) 12 rfl rfl) rfl rfl hl.1 (Nat.le_of_ble_eq_true rfl) ⟨Nat.le_of_ble_eq_true rfl, Nat.le_of_ble_eq_true rfl⟩ dX8_does_145) hS (fun H locs hH hS => ?_)
    refine lv_pop hx hb dX8_does_148 rfl ?_
    refine lv_goto (tgt := 195) hx hb dX8_does_149 (by decide) ?_
    cases hf
    exact hs_vret C0 hH hS (by decide) (by decide) dX8_does_195
  have hf := if_f hf hw69
  by_cases hw73 : (M 32 0 (ix a1)) = (5 : Int32)
  · have hf := if_t hf hw73
    refine lv_tableIn (tgt := 152) (off := 108) hx hb dX8_does_44 (by rw [hw73]; decide) (by rw [hw73]; decide) (by rw [hw73]; rfl) (by decide) ?_
    refine lv_aload_n hx hb dX8_does_152 rfl (lv_at hl 4 rfl) ?_
    refine lv_iload_n hx hb dX8_does_153 rfl (lv_at hl 3 rfl) ?_
    refine lv_iload_n hx hb dX8_does_154 rfl (lv_at hl 2 rfl) ?_
    obtain ⟨r72, M71, hq70, hf⟩ := bd2_o hf
    refine hs_ci (hs_runV C0 hH hS (n := 2) (As := [.int (M 32 0 (ix (a1 + (1 : Int32)))), .int (M 32 0 (ix (a1 + (2 : Int32))))]) (rest := []) (c_X8_sendIt M (M 32 0 (ix (a1 + (1 : Int32)))) (M 32 0 (ix (a1 + (2 : Int32)))) hq70) ⟨⟨zt_1701, zt_1703, zs_42, zt_13, zt_1704⟩, rfl, by decide, by decide, by decide +kernel⟩ ⟨rfl, rfl, Nat.le_of_ble_eq_true rfl, Nat.le_of_ble_eq_true rfl⟩ (hs_recv hK hH 20 0 (by decide) 12 rfl rfl) rfl rfl hl.1 (Nat.le_of_ble_eq_true rfl) ⟨Nat.le_of_ble_eq_true rfl, Nat.le_of_ble_eq_true rfl⟩ dX8_does_155) hS (fun H locs hH hS => ?_)
    refine lv_pop hx hb dX8_does_158 rfl ?_
    refine lv_goto (tgt := 195) hx hb dX8_does_159 (by decide) ?_
    cases hf
    exact hs_vret C0 hH hS (by decide) (by decide) dX8_does_195
  have hf := if_f hf hw73
  by_cases hw77 : (M 32 0 (ix a1)) = (6 : Int32)
  · have hf := if_t hf hw77
    refine lv_tableIn (tgt := 162) (off := 118) hx hb dX8_does_44 (by rw [hw77]; decide) (by rw [hw77]; decide) (by rw [hw77]; rfl) (by decide) ?_
    refine lv_aload_n hx hb dX8_does_162 rfl (lv_at hl 4 rfl) ?_
    refine lv_iload_n hx hb dX8_does_163 rfl (lv_at hl 3 rfl) ?_
    refine lv_iload_n hx hb dX8_does_164 rfl (lv_at hl 2 rfl) ?_
    obtain ⟨r76, M75, hq74, hf⟩ := bd2_o hf
    refine hs_ci (hs_runV C0 hH hS (n := 2) (As := [.int (M 32 0 (ix (a1 + (1 : Int32)))), .int (M 32 0 (ix (a1 + (2 : Int32))))]) (rest := []) (c_X8_stampIt M (M 32 0 (ix (a1 + (1 : Int32)))) (M 32 0 (ix (a1 + (2 : Int32)))) hq74) ⟨⟨zt_1729, zt_1731, zs_48, zt_13, zt_1732⟩, rfl, by decide, by decide, by decide +kernel⟩ ⟨rfl, rfl, Nat.le_of_ble_eq_true rfl, Nat.le_of_ble_eq_true rfl⟩ (hs_recv hK hH 20 0 (by decide) 12 rfl rfl) rfl rfl hl.1 (Nat.le_of_ble_eq_true rfl) ⟨Nat.le_of_ble_eq_true rfl, Nat.le_of_ble_eq_true rfl⟩ dX8_does_165) hS (fun H locs hH hS => ?_)
    refine lv_pop hx hb dX8_does_168 rfl ?_
    refine lv_goto (tgt := 195) hx hb dX8_does_169 (by decide) ?_
    cases hf
    exact hs_vret C0 hH hS (by decide) (by decide) dX8_does_195
  have hf := if_f hf hw77
  by_cases hw81 : (M 32 0 (ix a1)) = (7 : Int32)
  · have hf := if_t hf hw81
    refine lv_tableIn (tgt := 172) (off := 128) hx hb dX8_does_44 (by rw [hw81]; decide) (by rw [hw81]; decide) (by rw [hw81]; rfl) (by decide) ?_
    refine lv_aload_n hx hb dX8_does_172 rfl (lv_at hl 4 rfl) ?_
    refine lv_iload_n hx hb dX8_does_173 rfl (lv_at hl 3 rfl) ?_
    obtain ⟨r80, M79, hq78, hf⟩ := bd2_o hf
    refine hs_ci (hs_runV C0 hH hS (n := 1) (As := [.int (M 32 0 (ix (a1 + (1 : Int32))))]) (rest := []) (c_X8_takeIt M (M 32 0 (ix (a1 + (1 : Int32)))) hq78) ⟨⟨zt_1737, zt_1739, zs_49, zt_13, zt_1740⟩, rfl, by decide, by decide, by decide +kernel⟩ ⟨rfl, rfl, Nat.le_of_ble_eq_true rfl, Nat.le_of_ble_eq_true rfl⟩ (hs_recv hK hH 20 0 (by decide) 12 rfl rfl) rfl rfl hl.1 (Nat.le_of_ble_eq_true rfl) ⟨Nat.le_of_ble_eq_true rfl, Nat.le_of_ble_eq_true rfl⟩ dX8_does_174) hS (fun H locs hH hS => ?_)
    refine lv_pop hx hb dX8_does_177 rfl ?_
    refine lv_goto (tgt := 195) hx hb dX8_does_178 (by decide) ?_
    cases hf
    exact hs_vret C0 hH hS (by decide) (by decide) dX8_does_195
  have hf := if_f hf hw81
  by_cases hw85 : (M 32 0 (ix a1)) = (8 : Int32)
  · have hf := if_t hf hw85
    refine lv_tableIn (tgt := 181) (off := 137) hx hb dX8_does_44 (by rw [hw85]; decide) (by rw [hw85]; decide) (by rw [hw85]; rfl) (by decide) ?_
    refine lv_aload_n hx hb dX8_does_181 rfl (lv_at hl 4 rfl) ?_
    obtain ⟨r84, M83, hq82, hf⟩ := bd2_o hf
    refine hs_ci (hs_runV C0 hH hS (n := 0) (As := []) (rest := []) (c_X8_dispatchIt M hq82) ⟨⟨zt_1749, zt_1751, zs_51, zt_13, zt_1752⟩, rfl, by decide, by decide, by decide +kernel⟩ ⟨rfl, rfl, Nat.le_of_ble_eq_true rfl, Nat.le_of_ble_eq_true rfl⟩ (hs_recv hK hH 20 0 (by decide) 12 rfl rfl) rfl rfl hl.1 (Nat.le_of_ble_eq_true rfl) ⟨Nat.le_of_ble_eq_true rfl, Nat.le_of_ble_eq_true rfl⟩ dX8_does_182) hS (fun H locs hH hS => ?_)
    refine lv_pop hx hb dX8_does_185 rfl ?_
    refine lv_goto (tgt := 195) hx hb dX8_does_186 (by decide) ?_
    cases hf
    exact hs_vret C0 hH hS (by decide) (by decide) dX8_does_195
  have hf := if_f hf hw85
  have ehw53 := lv_neT hw53 (show ((0 : Int32)).toInt = 0 from by decide)
  have ehw57 := lv_neT hw57 (show ((1 : Int32)).toInt = 1 from by decide)
  have ehw61 := lv_neT hw61 (show ((2 : Int32)).toInt = 2 from by decide)
  have ehw65 := lv_neT hw65 (show ((3 : Int32)).toInt = 3 from by decide)
  have ehw69 := lv_neT hw69 (show ((4 : Int32)).toInt = 4 from by decide)
  have ehw73 := lv_neT hw73 (show ((5 : Int32)).toInt = 5 from by decide)
  have ehw77 := lv_neT hw77 (show ((6 : Int32)).toInt = 6 from by decide)
  have ehw81 := lv_neT hw81 (show ((7 : Int32)).toInt = 7 from by decide)
  have ehw85 := lv_neT hw85 (show ((8 : Int32)).toInt = 8 from by decide)
  refine lv_tableOut (tgt := 189) hx hb dX8_does_44 (by omega) (by decide) ?_
  refine lv_aload_n hx hb dX8_does_189 rfl (lv_at hl 4 rfl) ?_
  refine lv_iload_n hx hb dX8_does_190 rfl (lv_at hl 3 rfl) ?_
  obtain ⟨r88, M87, hq86, hf⟩ := bd2_o hf
  refine hs_ci (hs_runV C0 hH hS (n := 1) (As := [.int (M 32 0 (ix (a1 + (1 : Int32))))]) (rest := []) (c_X8_passIt M (M 32 0 (ix (a1 + (1 : Int32)))) hq86) ⟨⟨zt_1779, zt_1781, zs_57, zt_13, zt_1782⟩, rfl, by decide, by decide, by decide +kernel⟩ ⟨rfl, rfl, Nat.le_of_ble_eq_true rfl, Nat.le_of_ble_eq_true rfl⟩ (hs_recv hK hH 20 0 (by decide) 12 rfl rfl) rfl rfl hl.1 (Nat.le_of_ble_eq_true rfl) ⟨Nat.le_of_ble_eq_true rfl, Nat.le_of_ble_eq_true rfl⟩ dX8_does_191) hS (fun H locs hH hS => ?_)
  refine lv_pop hx hb dX8_does_194 rfl ?_
  cases hf
  exact hs_vret C0 hH hS (by decide) (by decide) dX8_does_195
