def f_X8_run_139 : Nat → Mem → Int32 → Int32 → Option (Int32 × Mem)
  | 0, _, _, _ => none
  | n + 1, M, a2, a3 => (if (192 : Int32) ≤ a3 then nm (mu M 20 0 8 a2) fun M40 => bd2 (f_X8_throwing M40 (2 : Int32)) fun r43 M42 => some (r43, M42) else if vin a3 192 then (nm (mu M 21 0 (ix a3) (M 22 0 (ix a3))) fun M45 => f_X8_run_139 n M45 a2 (a3 + (1 : Int32))) else none)
set_option maxHeartbeats 4000000 in
set_option maxRecDepth 100000 in
theorem w_X8_run_139 {Y : LY} {p : Program} {l : Launch} {e : Env} {s : State} {m : MethodId} {args : Array Value} {below : List Frame} {meth : Method} {c : Code} (C0 : BE Y p s m args meth c cX8_run 4 (Option.some Jvm.ClassFile.FieldType.int) RX8) {r : Int32} {MZ : Mem} : ∀ (n : Nat) (M : Mem) (a2 : Int32) (a3 : Int32), f_X8_run_139 n M a2 a3 = some (r, MZ) → ∀ (H : Heap) (locs : List Loc) (ls : Array Slot), HS Y M H → va_S (AZ Y) s.heap H locs → lv_has ls 4 [(0, .ref (YA Y 20 0)), (2, .int a2), (3, .int a3)] → W p l e { frames := 8, cells := 0, slots := 0, locals := 188 } s m args below meth c H locs 0 0 (MQ below (Qi Y r MZ) args s 0 0 (AZ Y)) (F0 m 139 ls []) := by
  obtain ⟨hx, hb, hr, hml, hown, hA, hlocks, hK, hZ⟩ := id C0
  intro n
  induction n with
  | zero =>
    intro M a2 a3 hf
    cases hf
  | succ n ih =>
    intro M a2 a3 hf H locs ls hH hS hl
    rw [f_X8_run_139] at hf
    refine lv_iload_n hx hb dX8_run_139 rfl (lv_at hl 2 rfl) ?_
    refine lv_sipush (v := (192 : Int32)) hx hb dX8_run_140 (by decide) ?_
    refine lv_icmp_ge (tgt := 164) hx hb dX8_run_143 (by decide) (fun hc46 => ?_) (fun hc46 => ?_)
    · have hf := if_t hf hc46
      refine lv_aload_n hx hb dX8_run_164 rfl (lv_at hl 0 rfl) ?_
      refine lv_iload_n hx hb dX8_run_165 rfl (lv_at hl 1 rfl) ?_
      refine hs_put hx hb (T := TX8) hA inAX8 tyX8 tyX8_ok nmX8 hown hK hH hS 20 0 (by decide) 12 rfl rfl 8 (by decide) (hA _ zt_1559) rfl rfl (by decide +kernel) (Nat.le_of_ble_eq_true rfl) rfl dX8_run_166 (fun H locs hH hS => ?_)
      obtain ⟨M40, eM40, hf⟩ := nm_o hf
      rw [← eM40] at hH
      refine lv_aload_n hx hb dX8_run_169 rfl (lv_at hl 0 rfl) ?_
      refine lv_iconst (v := (2 : Int32)) hx hb dX8_run_170 (by decide) ?_
      obtain ⟨r43, M42, hq41, hf⟩ := bd2_o hf
      refine hs_ci (hs_runV C0 hH hS (n := 1) (As := [.int (2 : Int32)]) (rest := []) (c_X8_throwing M40 (2 : Int32) hq41) ⟨⟨zt_1637, zt_1639, zs_34, zt_13, zt_1640⟩, rfl, by decide, by decide, by decide +kernel⟩ ⟨rfl, rfl, Nat.le_of_ble_eq_true rfl, Nat.le_of_ble_eq_true rfl⟩ (hs_recv hK hH 20 0 (by decide) 12 rfl rfl) rfl rfl hl.1 (Nat.le_of_ble_eq_true rfl) ⟨Nat.le_of_ble_eq_true rfl, Nat.le_of_ble_eq_true rfl⟩ dX8_run_171) hS (fun H locs hH hS => ?_)
      cases hf
      exact hs_iret C0 hH hS (by decide) (by decide) dX8_run_174
    · have hf := if_f hf hc46
      refine lv_aload_n hx hb dX8_run_146 rfl (lv_at hl 0 rfl) ?_
      refine hs_get hx hb (T := TX8) hA inAX8 hown hK hH 20 0 (by decide) 12 rfl rfl 0 (by decide) (hA _ zt_1551) rfl rfl dX8_run_147 ?_
      refine lv_iload_n hx hb dX8_run_150 rfl (lv_at hl 2 rfl) ?_
      refine lv_aload_n hx hb dX8_run_151 rfl (lv_at hl 0 rfl) ?_
      refine hs_get hx hb (T := TX8) hA inAX8 hown hK hH 20 0 (by decide) 12 rfl rfl 1 (by decide) (hA _ zt_1552) rfl rfl dX8_run_152 ?_
      refine lv_iload_n hx hb dX8_run_155 rfl (lv_at hl 2 rfl) ?_
      obtain ⟨hg44, hf⟩ := gd_o hf
      have bhg44 := vin_lt hg44
      refine hs_iald hx hb hK hH 22 0 (by decide) rfl hg44 rfl dX8_run_156 ?_
      refine hs_iast hx hb hK hH hS 21 0 (by decide) (fun _ => rfl) hg44 rfl dX8_run_157 (fun H locs hH hS => ?_)
      obtain ⟨M45, eM45, hf⟩ := nm_o hf
      rw [← eM45] at hH
      refine lv_iinc (v := a3 + (1 : Int32)) (lv' := [(3, .int (a3 + (1 : Int32))), (0, .ref (YA Y 20 0)), (2, .int a2)]) hx hb dX8_run_158 hl (k := 2) rfl rfl (by decide) rfl (fun ls hl => ?_)
      refine lv_goto (tgt := 139) hx hb dX8_run_161 (by decide) ?_
      exact ih M45 a2 (a3 + (1 : Int32)) hf _ _ _ hH hS (lv_sub hl [1, 2, 0] rfl)
def f_X8_run_115 : Nat → Mem → Int32 → Option (Int32 × Mem)
  | 0, _, _ => none
  | n + 1, M, a2 => (if (M 20 0 19) ≤ a2 then bd2 (f_X8_changed M (M 20 0 19)) fun r49 M48 => some (r49, M48) else bd (f_X8_does M ((5 : Int32) * a2)) fun M51 => (if (M51 20 0 9) ≤ 0 then f_X8_run_115 n M51 (a2 + (1 : Int32)) else f_X8_run_139 FU M51 a2 (0 : Int32)))
set_option maxHeartbeats 4000000 in
set_option maxRecDepth 100000 in
theorem w_X8_run_115 {Y : LY} {p : Program} {l : Launch} {e : Env} {s : State} {m : MethodId} {args : Array Value} {below : List Frame} {meth : Method} {c : Code} (C0 : BE Y p s m args meth c cX8_run 4 (Option.some Jvm.ClassFile.FieldType.int) RX8) {r : Int32} {MZ : Mem} : ∀ (n : Nat) (M : Mem) (a2 : Int32), f_X8_run_115 n M a2 = some (r, MZ) → ∀ (H : Heap) (locs : List Loc) (ls : Array Slot), HS Y M H → va_S (AZ Y) s.heap H locs → lv_has ls 4 [(0, .ref (YA Y 20 0)), (2, .int a2)] → W p l e { frames := 8, cells := 0, slots := 0, locals := 188 } s m args below meth c H locs 0 0 (MQ below (Qi Y r MZ) args s 0 0 (AZ Y)) (F0 m 115 ls []) := by
  obtain ⟨hx, hb, hr, hml, hown, hA, hlocks, hK, hZ⟩ := id C0
  intro n
  induction n with
  | zero =>
    intro M a2 hf
    cases hf
  | succ n ih =>
    intro M a2 hf H locs ls hH hS hl
    rw [f_X8_run_115] at hf
    refine lv_iload_n hx hb dX8_run_115 rfl (lv_at hl 1 rfl) ?_
    refine lv_aload_n hx hb dX8_run_116 rfl (lv_at hl 0 rfl) ?_
    refine hs_get hx hb (T := TX8) hA inAX8 hown hK hH 20 0 (by decide) 12 rfl rfl 19 (by decide) (hA _ zt_1570) rfl rfl dX8_run_117 ?_
    refine lv_icmp_ge (tgt := 181) hx hb dX8_run_120 (by decide) (fun hc54 => ?_) (fun hc54 => ?_)
    · have hf := if_t hf hc54
      refine lv_aload_n hx hb dX8_run_181 rfl (lv_at hl 0 rfl) ?_
      refine lv_aload_n hx hb dX8_run_182 rfl (lv_at hl 0 rfl) ?_
      refine hs_get hx hb (T := TX8) hA inAX8 hown hK hH 20 0 (by decide) 12 rfl rfl 19 (by decide) (hA _ zt_1570) rfl rfl dX8_run_183 ?_
      obtain ⟨r49, M48, hq47, hf⟩ := bd2_o hf
      refine hs_ci (hs_runV C0 hH hS (n := 1) (As := [.int (M 20 0 19)]) (rest := []) (c_X8_changed M (M 20 0 19) hq47) ⟨⟨zt_1641, zt_1643, zs_35, zt_13, zt_1644⟩, rfl, by decide, by decide, by decide +kernel⟩ ⟨rfl, rfl, Nat.le_of_ble_eq_true rfl, Nat.le_of_ble_eq_true rfl⟩ (hs_recv hK hH 20 0 (by decide) 12 rfl rfl) rfl rfl hl.1 (Nat.le_of_ble_eq_true rfl) ⟨Nat.le_of_ble_eq_true rfl, Nat.le_of_ble_eq_true rfl⟩ dX8_run_186) hS (fun H locs hH hS => ?_)
      cases hf
      exact hs_iret C0 hH hS (by decide) (by decide) dX8_run_189
    · have hf := if_f hf hc54
      refine lv_aload_n hx hb dX8_run_123 rfl (lv_at hl 0 rfl) ?_
      refine lv_iconst (v := (5 : Int32)) hx hb dX8_run_124 (by decide) ?_
      refine lv_iload_n hx hb dX8_run_125 rfl (lv_at hl 1 rfl) ?_
      refine lv_imul hx hb dX8_run_126 ?_
      obtain ⟨M51, hq50, hf⟩ := bd_o hf
      refine hs_cv (hs_runV C0 hH hS (n := 1) (As := [.int ((5 : Int32) * a2)]) (rest := []) (c_X8_does M ((5 : Int32) * a2) hq50) ⟨⟨zt_2036, zt_2038, zs_75, zt_13, zt_2039⟩, rfl, by decide, by decide, by decide +kernel⟩ ⟨rfl, rfl, Nat.le_of_ble_eq_true rfl, Nat.le_of_ble_eq_true rfl⟩ (hs_recv hK hH 20 0 (by decide) 12 rfl rfl) rfl rfl hl.1 (Nat.le_of_ble_eq_true rfl) ⟨Nat.le_of_ble_eq_true rfl, Nat.le_of_ble_eq_true rfl⟩ dX8_run_127) hS (fun H locs hH hS => ?_)
      refine lv_aload_n hx hb dX8_run_130 rfl (lv_at hl 0 rfl) ?_
      refine hs_get hx hb (T := TX8) hA inAX8 hown hK hH 20 0 (by decide) 12 rfl rfl 9 (by decide) (hA _ zt_1560) rfl rfl dX8_run_131 ?_
      refine lv_if_le (tgt := 175) hx hb dX8_run_134 (by decide) (fun hc53 => ?_) (fun hc53 => ?_)
      · have hf := if_t hf hc53
        refine lv_iinc (v := a2 + (1 : Int32)) (lv' := [(2, .int (a2 + (1 : Int32))), (0, .ref (YA Y 20 0))]) hx hb dX8_run_175 hl (k := 1) rfl rfl (by decide) rfl (fun ls hl => ?_)
        refine lv_goto (tgt := 115) hx hb dX8_run_178 (by decide) ?_
        exact ih M51 (a2 + (1 : Int32)) hf _ _ _ hH hS (lv_sub hl [1, 0] rfl)
      · have hf := if_f hf hc53
        refine lv_iconst (v := (0 : Int32)) hx hb dX8_run_137 (by decide) ?_
        refine lv_istore_n (lv' := [(3, .int (0 : Int32)), (0, .ref (YA Y 20 0)), (2, .int a2)]) hx hb dX8_run_138 rfl hl (by decide) rfl (fun ls hl => ?_)
        exact w_X8_run_139 C0 FU M51 a2 (0 : Int32) hf _ _ _ hH hS (lv_sub hl [1, 2, 0] rfl)
def f_X8_run_88 (k34 : Mem → Int32 → Option (Int32 × Mem)) (M : Mem) (b0 : Int32) : Option (Int32 × Mem) := k34 M b0
set_option maxHeartbeats 4000000 in
set_option maxRecDepth 100000 in
theorem w_X8_run_88 {Y : LY} {p : Program} {l : Launch} {e : Env} {s : State} {m : MethodId} {args : Array Value} {below : List Frame} {meth : Method} {c : Code} (C0 : BE Y p s m args meth c cX8_run 4 (Option.some Jvm.ClassFile.FieldType.int) RX8) {r : Int32} {MZ : Mem} (k34 : Mem → Int32 → Option (Int32 × Mem)) (hk34 : ∀ (M : Mem) (a1 : Int32), k34 M a1 = some (r, MZ) → ∀ (H : Heap) (locs : List Loc) (ls : Array Slot), HS Y M H → va_S (AZ Y) s.heap H locs → lv_has ls 4 [(0, .ref (YA Y 20 0)), (1, .int a1)] → W p l e { frames := 8, cells := 0, slots := 0, locals := 188 } s m args below meth c H locs 0 0 (MQ below (Qi Y r MZ) args s 0 0 (AZ Y)) (F0 m 34 ls [])) : ∀ (M : Mem) (b0 : Int32), f_X8_run_88 k34 M b0 = some (r, MZ) → ∀ (H : Heap) (locs : List Loc) (ls : Array Slot), HS Y M H → va_S (AZ Y) s.heap H locs → lv_has ls 4 [(0, .ref (YA Y 20 0))] → W p l e { frames := 8, cells := 0, slots := 0, locals := 188 } s m args below meth c H locs 0 0 (MQ below (Qi Y r MZ) args s 0 0 (AZ Y)) (F0 m 88 ls [.int b0]) := by
  obtain ⟨hx, hb, hr, hml, hown, hA, hlocks, hK, hZ⟩ := id C0
  intro M b0 hf H locs ls hH hS hl
  unfold f_X8_run_88 at hf
  refine lv_istore_n (lv' := [(1, .int b0), (0, .ref (YA Y 20 0))]) hx hb dX8_run_88 rfl hl (by decide) rfl (fun ls hl => ?_)
  refine lv_goto (tgt := 34) hx hb dX8_run_89 (by decide) ?_
  exact hk34 M b0 hf _ _ _ hH hS (lv_sub hl [1, 0] rfl)
def f_X8_run_65 (k34 : Mem → Int32 → Option (Int32 × Mem)) (M : Mem) (b0 : Int32) : Option (Int32 × Mem) := (if b0 = 0 then k34 M b0 else bd (f_X8_expects M (59 : Int32)) fun M56 => (if (M56 20 0 22) = 0 then f_X8_run_88 k34 M56 (1 : Int32) else f_X8_run_88 k34 M56 (0 : Int32)))
set_option maxHeartbeats 4000000 in
set_option maxRecDepth 100000 in
theorem w_X8_run_65 {Y : LY} {p : Program} {l : Launch} {e : Env} {s : State} {m : MethodId} {args : Array Value} {below : List Frame} {meth : Method} {c : Code} (C0 : BE Y p s m args meth c cX8_run 4 (Option.some Jvm.ClassFile.FieldType.int) RX8) {r : Int32} {MZ : Mem} (k34 : Mem → Int32 → Option (Int32 × Mem)) (hk34 : ∀ (M : Mem) (a1 : Int32), k34 M a1 = some (r, MZ) → ∀ (H : Heap) (locs : List Loc) (ls : Array Slot), HS Y M H → va_S (AZ Y) s.heap H locs → lv_has ls 4 [(0, .ref (YA Y 20 0)), (1, .int a1)] → W p l e { frames := 8, cells := 0, slots := 0, locals := 188 } s m args below meth c H locs 0 0 (MQ below (Qi Y r MZ) args s 0 0 (AZ Y)) (F0 m 34 ls [])) : ∀ (M : Mem) (b0 : Int32), f_X8_run_65 k34 M b0 = some (r, MZ) → ∀ (H : Heap) (locs : List Loc) (ls : Array Slot), HS Y M H → va_S (AZ Y) s.heap H locs → lv_has ls 4 [(0, .ref (YA Y 20 0))] → W p l e { frames := 8, cells := 0, slots := 0, locals := 188 } s m args below meth c H locs 0 0 (MQ below (Qi Y r MZ) args s 0 0 (AZ Y)) (F0 m 65 ls [.int b0]) := by
  obtain ⟨hx, hb, hr, hml, hown, hA, hlocks, hK, hZ⟩ := id C0
  intro M b0 hf H locs ls hH hS hl
  unfold f_X8_run_65 at hf
  refine lv_istore_n (lv' := [(1, .int b0), (0, .ref (YA Y 20 0))]) hx hb dX8_run_65 rfl hl (by decide) rfl (fun ls hl => ?_)
  refine lv_iload_n hx hb dX8_run_66 rfl (lv_at hl 0 rfl) ?_
  refine lv_if_eq (tgt := 34) hx hb dX8_run_67 (by decide) (fun hc59 => ?_) (fun hc59 => ?_)
  · have hf := if_t hf hc59
    exact hk34 M b0 hf _ _ _ hH hS (lv_sub hl [1, 0] rfl)
  · have hf := if_f hf hc59
    refine lv_aload_n hx hb dX8_run_70 rfl (lv_at hl 1 rfl) ?_
    refine lv_bipush (v := (59 : Int32)) hx hb dX8_run_71 (by decide) ?_
    obtain ⟨M56, hq55, hf⟩ := bd_o hf
    refine hs_cv (hs_runV C0 hH hS (n := 1) (As := [.int (59 : Int32)]) (rest := []) (c_X8_expects M (59 : Int32) hq55) ⟨⟨zt_2024, zt_2026, zs_72, zt_13, zt_2027⟩, rfl, by decide, by decide, by decide +kernel⟩ ⟨rfl, rfl, Nat.le_of_ble_eq_true rfl, Nat.le_of_ble_eq_true rfl⟩ (hs_recv hK hH 20 0 (by decide) 12 rfl rfl) rfl rfl hl.1 (Nat.le_of_ble_eq_true rfl) ⟨Nat.le_of_ble_eq_true rfl, Nat.le_of_ble_eq_true rfl⟩ dX8_run_73) hS (fun H locs hH hS => ?_)
    refine lv_aload_n hx hb dX8_run_76 rfl (lv_at hl 1 rfl) ?_
    refine hs_get hx hb (T := TX8) hA inAX8 hown hK hH 20 0 (by decide) 12 rfl rfl 22 (by decide) (hA _ zt_1573) rfl rfl dX8_run_77 ?_
    refine lv_if_ne (tgt := 87) hx hb dX8_run_80 (by decide) (fun hc58 => ?_) (fun hc58 => ?_)
    · have hf := if_f hf hc58
      refine lv_iconst (v := (0 : Int32)) hx hb dX8_run_87 (by decide) ?_
      exact w_X8_run_88 C0 k34 hk34 M56 (0 : Int32) hf _ _ _ hH hS (lv_sub hl [1] rfl)
    · have hf := if_t hf hc58
      refine lv_iconst (v := (1 : Int32)) hx hb dX8_run_83 (by decide) ?_
      refine lv_goto (tgt := 88) hx hb dX8_run_84 (by decide) ?_
      exact w_X8_run_88 C0 k34 hk34 M56 (1 : Int32) hf _ _ _ hH hS (lv_sub hl [1] rfl)
def f_X8_run_64 (k34 : Mem → Int32 → Option (Int32 × Mem)) (M : Mem) : Option (Int32 × Mem) := f_X8_run_65 k34 M (0 : Int32)
set_option maxHeartbeats 4000000 in
set_option maxRecDepth 100000 in
theorem w_X8_run_64 {Y : LY} {p : Program} {l : Launch} {e : Env} {s : State} {m : MethodId} {args : Array Value} {below : List Frame} {meth : Method} {c : Code} (C0 : BE Y p s m args meth c cX8_run 4 (Option.some Jvm.ClassFile.FieldType.int) RX8) {r : Int32} {MZ : Mem} (k34 : Mem → Int32 → Option (Int32 × Mem)) (hk34 : ∀ (M : Mem) (a1 : Int32), k34 M a1 = some (r, MZ) → ∀ (H : Heap) (locs : List Loc) (ls : Array Slot), HS Y M H → va_S (AZ Y) s.heap H locs → lv_has ls 4 [(0, .ref (YA Y 20 0)), (1, .int a1)] → W p l e { frames := 8, cells := 0, slots := 0, locals := 188 } s m args below meth c H locs 0 0 (MQ below (Qi Y r MZ) args s 0 0 (AZ Y)) (F0 m 34 ls [])) : ∀ (M : Mem), f_X8_run_64 k34 M = some (r, MZ) → ∀ (H : Heap) (locs : List Loc) (ls : Array Slot), HS Y M H → va_S (AZ Y) s.heap H locs → lv_has ls 4 [(0, .ref (YA Y 20 0))] → W p l e { frames := 8, cells := 0, slots := 0, locals := 188 } s m args below meth c H locs 0 0 (MQ below (Qi Y r MZ) args s 0 0 (AZ Y)) (F0 m 64 ls []) := by
  obtain ⟨hx, hb, hr, hml, hown, hA, hlocks, hK, hZ⟩ := id C0
  intro M hf H locs ls hH hS hl
  unfold f_X8_run_64 at hf
  refine lv_iconst (v := (0 : Int32)) hx hb dX8_run_64 (by decide) ?_
  exact w_X8_run_65 C0 k34 hk34 M (0 : Int32) hf _ _ _ hH hS (lv_sub hl [0] rfl)
def f_X8_run_34 : Nat → Mem → Int32 → Option (Int32 × Mem)
  | 0, _, _ => none
  | n + 1, M, a1 => (if a1 = 0 then (if (M 20 0 22) = 0 then f_X8_run_115 FU M (0 : Int32) else nm (mu M 20 0 7 (M 20 0 20)) fun M60 => bd2 (f_X8_throwing M60 (1 : Int32)) fun r63 M62 => some (r63, M62)) else bd (f_X8_readCommand M) fun M66 => (if (M66 20 0 22) = 0 then (if (M66 20 0 21) ≤ (M66 20 0 20) then f_X8_run_64 (f_X8_run_34 n) M66 else f_X8_run_65 (f_X8_run_34 n) M66 (1 : Int32)) else f_X8_run_64 (f_X8_run_34 n) M66))
set_option maxHeartbeats 4000000 in
set_option maxRecDepth 100000 in
theorem w_X8_run_34 {Y : LY} {p : Program} {l : Launch} {e : Env} {s : State} {m : MethodId} {args : Array Value} {below : List Frame} {meth : Method} {c : Code} (C0 : BE Y p s m args meth c cX8_run 4 (Option.some Jvm.ClassFile.FieldType.int) RX8) {r : Int32} {MZ : Mem} : ∀ (n : Nat) (M : Mem) (a1 : Int32), f_X8_run_34 n M a1 = some (r, MZ) → ∀ (H : Heap) (locs : List Loc) (ls : Array Slot), HS Y M H → va_S (AZ Y) s.heap H locs → lv_has ls 4 [(0, .ref (YA Y 20 0)), (1, .int a1)] → W p l e { frames := 8, cells := 0, slots := 0, locals := 188 } s m args below meth c H locs 0 0 (MQ below (Qi Y r MZ) args s 0 0 (AZ Y)) (F0 m 34 ls []) := by
  obtain ⟨hx, hb, hr, hml, hown, hA, hlocks, hK, hZ⟩ := id C0
  intro n
  induction n with
  | zero =>
    intro M a1 hf
    cases hf
  | succ n ih =>
    intro M a1 hf H locs ls hH hS hl
    rw [f_X8_run_34] at hf
    refine lv_iload_n hx hb dX8_run_34 rfl (lv_at hl 1 rfl) ?_
    refine lv_if_eq (tgt := 92) hx hb dX8_run_35 (by decide) (fun hc70 => ?_) (fun hc70 => ?_)
    · have hf := if_t hf hc70
      refine lv_aload_n hx hb dX8_run_92 rfl (lv_at hl 0 rfl) ?_
      refine hs_get hx hb (T := TX8) hA inAX8 hown hK hH 20 0 (by decide) 12 rfl rfl 22 (by decide) (hA _ zt_1573) rfl rfl dX8_run_93 ?_
      refine lv_if_eq (tgt := 113) hx hb dX8_run_96 (by decide) (fun hc64 => ?_) (fun hc64 => ?_)
      · have hf := if_t hf hc64
        refine lv_iconst (v := (0 : Int32)) hx hb dX8_run_113 (by decide) ?_
        refine lv_istore_n (lv' := [(2, .int (0 : Int32)), (0, .ref (YA Y 20 0)), (1, .int a1)]) hx hb dX8_run_114 rfl hl (by decide) rfl (fun ls hl => ?_)
        exact w_X8_run_115 C0 FU M (0 : Int32) hf _ _ _ hH hS (lv_sub hl [1, 0] rfl)
      · have hf := if_f hf hc64
        refine lv_aload_n hx hb dX8_run_99 rfl (lv_at hl 0 rfl) ?_
        refine lv_aload_n hx hb dX8_run_100 rfl (lv_at hl 0 rfl) ?_
        refine hs_get hx hb (T := TX8) hA inAX8 hown hK hH 20 0 (by decide) 12 rfl rfl 20 (by decide) (hA _ zt_1571) rfl rfl dX8_run_101 ?_
        refine hs_put hx hb (T := TX8) hA inAX8 tyX8 tyX8_ok nmX8 hown hK hH hS 20 0 (by decide) 12 rfl rfl 7 (by decide) (hA _ zt_1558) rfl rfl (by decide +kernel) (Nat.le_of_ble_eq_true rfl) rfl dX8_run_104 (fun H locs hH hS => ?_)
        obtain ⟨M60, eM60, hf⟩ := nm_o hf
        rw [← eM60] at hH
        refine lv_aload_n hx hb dX8_run_107 rfl (lv_at hl 0 rfl) ?_
        refine lv_iconst (v := (1 : Int32)) hx hb dX8_run_108 (by decide) ?_
        obtain ⟨r63, M62, hq61, hf⟩ := bd2_o hf
        refine hs_ci (hs_runV C0 hH hS (n := 1) (As := [.int (1 : Int32)]) (rest := []) (c_X8_throwing M60 (1 : Int32) hq61) ⟨⟨zt_1637, zt_1639, zs_34, zt_13, zt_1640⟩, rfl, by decide, by decide, by decide +kernel⟩ ⟨rfl, rfl, Nat.le_of_ble_eq_true rfl, Nat.le_of_ble_eq_true rfl⟩ (hs_recv hK hH 20 0 (by decide) 12 rfl rfl) rfl rfl hl.1 (Nat.le_of_ble_eq_true rfl) ⟨Nat.le_of_ble_eq_true rfl, Nat.le_of_ble_eq_true rfl⟩ dX8_run_109) hS (fun H locs hH hS => ?_)
        cases hf
        exact hs_iret C0 hH hS (by decide) (by decide) dX8_run_112
    · have hf := if_f hf hc70
      refine lv_aload_n hx hb dX8_run_38 rfl (lv_at hl 0 rfl) ?_
      obtain ⟨M66, hq65, hf⟩ := bd_o hf
      refine hs_cv (hs_runV C0 hH hS (n := 0) (As := []) (rest := []) (c_X8_readCommand M hq65) ⟨⟨zt_1998, zt_2000, zs_66, zt_13, zt_2001⟩, rfl, by decide, by decide, by decide +kernel⟩ ⟨rfl, rfl, Nat.le_of_ble_eq_true rfl, Nat.le_of_ble_eq_true rfl⟩ (hs_recv hK hH 20 0 (by decide) 12 rfl rfl) rfl rfl hl.1 (Nat.le_of_ble_eq_true rfl) ⟨Nat.le_of_ble_eq_true rfl, Nat.le_of_ble_eq_true rfl⟩ dX8_run_39) hS (fun H locs hH hS => ?_)
      refine lv_aload_n hx hb dX8_run_42 rfl (lv_at hl 0 rfl) ?_
      refine hs_get hx hb (T := TX8) hA inAX8 hown hK hH 20 0 (by decide) 12 rfl rfl 22 (by decide) (hA _ zt_1573) rfl rfl dX8_run_43 ?_
      refine lv_if_ne (tgt := 64) hx hb dX8_run_46 (by decide) (fun hc69 => ?_) (fun hc69 => ?_)
      · have hf := if_f hf hc69
        exact w_X8_run_64 C0 (f_X8_run_34 n) ih M66 hf _ _ _ hH hS (lv_sub hl [0] rfl)
      · have hf := if_t hf hc69
        refine lv_aload_n hx hb dX8_run_49 rfl (lv_at hl 0 rfl) ?_
        refine hs_get hx hb (T := TX8) hA inAX8 hown hK hH 20 0 (by decide) 12 rfl rfl 20 (by decide) (hA _ zt_1571) rfl rfl dX8_run_50 ?_
        refine lv_aload_n hx hb dX8_run_53 rfl (lv_at hl 0 rfl) ?_
        refine hs_get hx hb (T := TX8) hA inAX8 hown hK hH 20 0 (by decide) 12 rfl rfl 21 (by decide) (hA _ zt_1572) rfl rfl dX8_run_54 ?_
        refine lv_icmp_ge (tgt := 64) hx hb dX8_run_57 (by decide) (fun hc68 => ?_) (fun hc68 => ?_)
        · have hf := if_t hf hc68
          exact w_X8_run_64 C0 (f_X8_run_34 n) ih M66 hf _ _ _ hH hS (lv_sub hl [0] rfl)
        · have hf := if_f hf hc68
          refine lv_iconst (v := (1 : Int32)) hx hb dX8_run_60 (by decide) ?_
          refine lv_goto (tgt := 65) hx hb dX8_run_61 (by decide) ?_
          exact w_X8_run_65 C0 (f_X8_run_34 n) ih M66 (1 : Int32) hf _ _ _ hH hS (lv_sub hl [0] rfl)
def f_X8_run (M : Mem) : Option (Int32 × Mem) := bd (f_X8_starts M) fun M72 => nm (mu M72 20 0 21 (M72 20 0 11)) fun M74 => nm (mu M74 20 0 11 (0 : Int32)) fun M75 => nm (mu M75 20 0 20 (0 : Int32)) fun M76 => nm (mu M76 20 0 19 (0 : Int32)) fun M77 => nm (mu M77 20 0 22 (0 : Int32)) fun M78 => f_X8_run_34 FU M78 (1 : Int32)
set_option maxHeartbeats 4000000 in
set_option maxRecDepth 100000 in
theorem c_X8_run {Y : LY} {l : Launch} (M : Mem) {r : Int32} {MZ : Mem} (hf : f_X8_run M = some (r, MZ)) : Met l yX8_run (WS yX8_run cX8_run 4 (Option.some Jvm.ClassFile.FieldType.int)) { frames := 8, cells := 0, slots := 0, locals := 188 } (PcM Y M [.ref (YA Y 20 0)]) (Qi Y r MZ) 0 0 (AZ Y) := by
  refine met_mk (lv := [(0, .ref (YA Y 20 0))]) [.ref (YA Y 20 0)] (by decide) rfl rfl (Nat.le_of_ble_eq_true rfl) (fun p e s m below meth c C0 hH ls hl => ?_)
  have hS : va_S (AZ Y) s.heap s.heap [] := va_S.rf
  obtain ⟨hx, hb, hr, hml, hown, hA, hlocks, hK, hZ⟩ := id C0
  unfold f_X8_run at hf
  refine lv_aload_n hx hb dX8_run_0 rfl (lv_at hl 0 rfl) ?_
  obtain ⟨M72, hq71, hf⟩ := bd_o hf
  refine hs_cv (hs_runV C0 hH hS (n := 0) (As := []) (rest := []) (c_X8_starts M hq71) ⟨⟨zt_1629, zt_1631, zs_32, zt_13, zt_1632⟩, rfl, by decide, by decide, by decide +kernel⟩ ⟨rfl, rfl, Nat.le_of_ble_eq_true rfl, Nat.le_of_ble_eq_true rfl⟩ (hs_recv hK hH 20 0 (by decide) 12 rfl rfl) rfl rfl hl.1 (Nat.le_of_ble_eq_true rfl) ⟨Nat.le_of_ble_eq_true rfl, Nat.le_of_ble_eq_true rfl⟩ dX8_run_1) hS (fun H locs hH hS => ?_)
  refine lv_aload_n hx hb dX8_run_4 rfl (lv_at hl 0 rfl) ?_
  refine lv_aload_n hx hb dX8_run_5 rfl (lv_at hl 0 rfl) ?_
  refine hs_get hx hb (T := TX8) hA inAX8 hown hK hH 20 0 (by decide) 12 rfl rfl 11 (by decide) (hA _ zt_1562) rfl rfl dX8_run_6 ?_
  refine hs_put hx hb (T := TX8) hA inAX8 tyX8 tyX8_ok nmX8 hown hK hH hS 20 0 (by decide) 12 rfl rfl 21 (by decide) (hA _ zt_1572) rfl rfl (by decide +kernel) (Nat.le_of_ble_eq_true rfl) rfl dX8_run_9 (fun H locs hH hS => ?_)
  obtain ⟨M74, eM74, hf⟩ := nm_o hf
  rw [← eM74] at hH
  refine lv_aload_n hx hb dX8_run_12 rfl (lv_at hl 0 rfl) ?_
  refine lv_iconst (v := (0 : Int32)) hx hb dX8_run_13 (by decide) ?_
  refine hs_put hx hb (T := TX8) hA inAX8 tyX8 tyX8_ok nmX8 hown hK hH hS 20 0 (by decide) 12 rfl rfl 11 (by decide) (hA _ zt_1562) rfl rfl (by decide +kernel) (Nat.le_of_ble_eq_true rfl) rfl dX8_run_14 (fun H locs hH hS => ?_)
  obtain ⟨M75, eM75, hf⟩ := nm_o hf
  rw [← eM75] at hH
  refine lv_aload_n hx hb dX8_run_17 rfl (lv_at hl 0 rfl) ?_
  refine lv_iconst (v := (0 : Int32)) hx hb dX8_run_18 (by decide) ?_
  refine hs_put hx hb (T := TX8) hA inAX8 tyX8 tyX8_ok nmX8 hown hK hH hS 20 0 (by decide) 12 rfl rfl 20 (by decide) (hA _ zt_1571) rfl rfl (by decide +kernel) (Nat.le_of_ble_eq_true rfl) rfl dX8_run_19 (fun H locs hH hS => ?_)
  obtain ⟨M76, eM76, hf⟩ := nm_o hf
  rw [← eM76] at hH
  refine lv_aload_n hx hb dX8_run_22 rfl (lv_at hl 0 rfl) ?_
  refine lv_iconst (v := (0 : Int32)) hx hb dX8_run_23 (by decide) ?_
  refine hs_put hx hb (T := TX8) hA inAX8 tyX8 tyX8_ok nmX8 hown hK hH hS 20 0 (by decide) 12 rfl rfl 19 (by decide) (hA _ zt_1570) rfl rfl (by decide +kernel) (Nat.le_of_ble_eq_true rfl) rfl dX8_run_24 (fun H locs hH hS => ?_)
  obtain ⟨M77, eM77, hf⟩ := nm_o hf
  rw [← eM77] at hH
  refine lv_aload_n hx hb dX8_run_27 rfl (lv_at hl 0 rfl) ?_
  refine lv_iconst (v := (0 : Int32)) hx hb dX8_run_28 (by decide) ?_
  refine hs_putz hx hb (T := TX8) hA inAX8 tyX8 tyX8_ok nmX8 hown hK hH hS 20 0 (by decide) 12 rfl rfl 22 (by decide) (hA _ zt_1573) rfl rfl (by decide +kernel) (by decide) (Nat.le_of_ble_eq_true rfl) rfl dX8_run_29 (fun H locs hH hS => ?_)
  obtain ⟨M78, eM78, hf⟩ := nm_o hf
  rw [← eM78] at hH
  refine lv_iconst (v := (1 : Int32)) hx hb dX8_run_32 (by decide) ?_
  refine lv_istore_n (lv' := [(1, .int (1 : Int32)), (0, .ref (YA Y 20 0))]) hx hb dX8_run_33 rfl hl (by decide) rfl (fun ls hl => ?_)
  exact w_X8_run_34 C0 FU M78 (1 : Int32) hf _ _ _ hH hS (lv_sub hl [1, 0] rfl)
def f_X8_errorPosition (M : Mem) : Option (Int32 × Mem) := nm (mu M 20 0 9 (0 : Int32)) fun M6 => (if (M6 20 0 7) = (-1 : Int32) then bd2 (f_X8_throwing M6 (1 : Int32)) fun r9 M8 => some (r9, M8) else some ((M6 20 0 7), M6))
set_option maxHeartbeats 4000000 in
set_option maxRecDepth 100000 in
theorem c_X8_errorPosition {Y : LY} {l : Launch} (M : Mem) {r : Int32} {MZ : Mem} (hf : f_X8_errorPosition M = some (r, MZ)) : Met l yX8_errorPosition (WS yX8_errorPosition cX8_errorPosition 1 (Option.some Jvm.ClassFile.FieldType.int)) { frames := 1, cells := 0, slots := 0, locals := 21 } (PcM Y M [.ref (YA Y 20 0)]) (Qi Y r MZ) 0 0 (AZ Y) := by
  refine met_mk (lv := [(0, .ref (YA Y 20 0))]) [.ref (YA Y 20 0)] (by decide) rfl rfl (Nat.le_of_ble_eq_true rfl) (fun p e s m below meth c C0 hH ls hl => ?_)
  have hS : va_S (AZ Y) s.heap s.heap [] := va_S.rf
  obtain ⟨hx, hb, hr, hml, hown, hA, hlocks, hK, hZ⟩ := id C0
  unfold f_X8_errorPosition at hf
  refine lv_aload_n hx hb dX8_errorPosition_0 rfl (lv_at hl 0 rfl) ?_
  refine lv_iconst (v := (0 : Int32)) hx hb dX8_errorPosition_1 (by decide) ?_
  refine hs_put hx hb (T := TX8) hA inAX8 tyX8 tyX8_ok nmX8 hown hK hH hS 20 0 (by decide) 12 rfl rfl 9 (by decide) (hA _ zt_1560) rfl rfl (by decide +kernel) (Nat.le_of_ble_eq_true rfl) rfl dX8_errorPosition_2 (fun H locs hH hS => ?_)
  obtain ⟨M6, eM6, hf⟩ := nm_o hf
  rw [← eM6] at hH
  refine lv_aload_n hx hb dX8_errorPosition_5 rfl (lv_at hl 0 rfl) ?_
  refine hs_get hx hb (T := TX8) hA inAX8 hown hK hH 20 0 (by decide) 12 rfl rfl 7 (by decide) (hA _ zt_1558) rfl rfl dX8_errorPosition_6 ?_
  refine lv_iconst (v := (-1 : Int32)) hx hb dX8_errorPosition_9 (by decide) ?_
  refine lv_icmp_ne (tgt := 21) hx hb dX8_errorPosition_10 (by decide) (fun hc10 => ?_) (fun hc10 => ?_)
  · have hf := if_f hf hc10
    refine lv_aload_n hx hb dX8_errorPosition_21 rfl (lv_at hl 0 rfl) ?_
    refine hs_get hx hb (T := TX8) hA inAX8 hown hK hH 20 0 (by decide) 12 rfl rfl 7 (by decide) (hA _ zt_1558) rfl rfl dX8_errorPosition_22 ?_
    cases hf
    exact hs_iret C0 hH hS (by decide) (by decide) dX8_errorPosition_25
  · have hf := if_t hf hc10
    refine lv_aload_n hx hb dX8_errorPosition_13 rfl (lv_at hl 0 rfl) ?_
    refine lv_iconst (v := (1 : Int32)) hx hb dX8_errorPosition_14 (by decide) ?_
    obtain ⟨r9, M8, hq7, hf⟩ := bd2_o hf
    refine hs_ci (hs_runV C0 hH hS (n := 1) (As := [.int (1 : Int32)]) (rest := []) (c_X8_throwing M6 (1 : Int32) hq7) ⟨⟨zt_1637, zt_1639, zs_34, zt_13, zt_1640⟩, rfl, by decide, by decide, by decide +kernel⟩ ⟨rfl, rfl, Nat.le_of_ble_eq_true rfl, Nat.le_of_ble_eq_true rfl⟩ (hs_recv hK hH 20 0 (by decide) 12 rfl rfl) rfl rfl hl.1 (Nat.le_of_ble_eq_true rfl) ⟨Nat.le_of_ble_eq_true rfl, Nat.le_of_ble_eq_true rfl⟩ dX8_errorPosition_15) hS (fun H locs hH hS => ?_)
    refine lv_goto (tgt := 25) hx hb dX8_errorPosition_18 (by decide) ?_
    cases hf
    exact hs_iret C0 hH hS (by decide) (by decide) dX8_errorPosition_25
def f_X8_failedCommand (M : Mem) : Option (Int32 × Mem) := nm (mu M 20 0 9 (0 : Int32)) fun M6 => (if (M6 20 0 8) = (-1 : Int32) then bd2 (f_X8_throwing M6 (1 : Int32)) fun r9 M8 => some (r9, M8) else some ((M6 20 0 8), M6))
set_option maxHeartbeats 4000000 in
set_option maxRecDepth 100000 in
theorem c_X8_failedCommand {Y : LY} {l : Launch} (M : Mem) {r : Int32} {MZ : Mem} (hf : f_X8_failedCommand M = some (r, MZ)) : Met l yX8_failedCommand (WS yX8_failedCommand cX8_failedCommand 1 (Option.some Jvm.ClassFile.FieldType.int)) { frames := 1, cells := 0, slots := 0, locals := 21 } (PcM Y M [.ref (YA Y 20 0)]) (Qi Y r MZ) 0 0 (AZ Y) := by
  refine met_mk (lv := [(0, .ref (YA Y 20 0))]) [.ref (YA Y 20 0)] (by decide) rfl rfl (Nat.le_of_ble_eq_true rfl) (fun p e s m below meth c C0 hH ls hl => ?_)
  have hS : va_S (AZ Y) s.heap s.heap [] := va_S.rf
  obtain ⟨hx, hb, hr, hml, hown, hA, hlocks, hK, hZ⟩ := id C0
  unfold f_X8_failedCommand at hf
  refine lv_aload_n hx hb dX8_failedCommand_0 rfl (lv_at hl 0 rfl) ?_
  refine lv_iconst (v := (0 : Int32)) hx hb dX8_failedCommand_1 (by decide) ?_
  refine hs_put hx hb (T := TX8) hA inAX8 tyX8 tyX8_ok nmX8 hown hK hH hS 20 0 (by decide) 12 rfl rfl 9 (by decide) (hA _ zt_1560) rfl rfl (by decide +kernel) (Nat.le_of_ble_eq_true rfl) rfl dX8_failedCommand_2 (fun H locs hH hS => ?_)
  obtain ⟨M6, eM6, hf⟩ := nm_o hf
  rw [← eM6] at hH
  refine lv_aload_n hx hb dX8_failedCommand_5 rfl (lv_at hl 0 rfl) ?_
  refine hs_get hx hb (T := TX8) hA inAX8 hown hK hH 20 0 (by decide) 12 rfl rfl 8 (by decide) (hA _ zt_1559) rfl rfl dX8_failedCommand_6 ?_
  refine lv_iconst (v := (-1 : Int32)) hx hb dX8_failedCommand_9 (by decide) ?_
  refine lv_icmp_ne (tgt := 21) hx hb dX8_failedCommand_10 (by decide) (fun hc10 => ?_) (fun hc10 => ?_)
  · have hf := if_f hf hc10
    refine lv_aload_n hx hb dX8_failedCommand_21 rfl (lv_at hl 0 rfl) ?_
    refine hs_get hx hb (T := TX8) hA inAX8 hown hK hH 20 0 (by decide) 12 rfl rfl 8 (by decide) (hA _ zt_1559) rfl rfl dX8_failedCommand_22 ?_
    cases hf
    exact hs_iret C0 hH hS (by decide) (by decide) dX8_failedCommand_25
  · have hf := if_t hf hc10
    refine lv_aload_n hx hb dX8_failedCommand_13 rfl (lv_at hl 0 rfl) ?_
    refine lv_iconst (v := (1 : Int32)) hx hb dX8_failedCommand_14 (by decide) ?_
    obtain ⟨r9, M8, hq7, hf⟩ := bd2_o hf
    refine hs_ci (hs_runV C0 hH hS (n := 1) (As := [.int (1 : Int32)]) (rest := []) (c_X8_throwing M6 (1 : Int32) hq7) ⟨⟨zt_1637, zt_1639, zs_34, zt_13, zt_1640⟩, rfl, by decide, by decide, by decide +kernel⟩ ⟨rfl, rfl, Nat.le_of_ble_eq_true rfl, Nat.le_of_ble_eq_true rfl⟩ (hs_recv hK hH 20 0 (by decide) 12 rfl rfl) rfl rfl hl.1 (Nat.le_of_ble_eq_true rfl) ⟨Nat.le_of_ble_eq_true rfl, Nat.le_of_ble_eq_true rfl⟩ dX8_failedCommand_15) hS (fun H locs hH hS => ?_)
    refine lv_goto (tgt := 25) hx hb dX8_failedCommand_18 (by decide) ?_
    cases hf
    exact hs_iret C0 hH hS (by decide) (by decide) dX8_failedCommand_25
def f_X8_undoableCount (M : Mem) : Option (Int32 × Mem) := nm (mu M 20 0 9 (0 : Int32)) fun M2 => some ((M2 20 0 6), M2)
set_option maxHeartbeats 4000000 in
set_option maxRecDepth 100000 in
theorem c_X8_undoableCount {Y : LY} {l : Launch} (M : Mem) {r : Int32} {MZ : Mem} (hf : f_X8_undoableCount M = some (r, MZ)) : Met l yX8_undoableCount (WS yX8_undoableCount cX8_undoableCount 1 (Option.some Jvm.ClassFile.FieldType.int)) { frames := 0, cells := 0, slots := 0, locals := 0 } (PcM Y M [.ref (YA Y 20 0)]) (Qi Y r MZ) 0 0 (AZ Y) := by
  refine met_mk (lv := [(0, .ref (YA Y 20 0))]) [.ref (YA Y 20 0)] (by decide) rfl rfl (Nat.le_of_ble_eq_true rfl) (fun p e s m below meth c C0 hH ls hl => ?_)
  have hS : va_S (AZ Y) s.heap s.heap [] := va_S.rf
  obtain ⟨hx, hb, hr, hml, hown, hA, hlocks, hK, hZ⟩ := id C0
  unfold f_X8_undoableCount at hf
  refine lv_aload_n hx hb dX8_undoableCount_0 rfl (lv_at hl 0 rfl) ?_
  refine lv_iconst (v := (0 : Int32)) hx hb dX8_undoableCount_1 (by decide) ?_
  refine hs_put hx hb (T := TX8) hA inAX8 tyX8 tyX8_ok nmX8 hown hK hH hS 20 0 (by decide) 12 rfl rfl 9 (by decide) (hA _ zt_1560) rfl rfl (by decide +kernel) (Nat.le_of_ble_eq_true rfl) rfl dX8_undoableCount_2 (fun H locs hH hS => ?_)
  obtain ⟨M2, eM2, hf⟩ := nm_o hf
  rw [← eM2] at hH
  refine lv_aload_n hx hb dX8_undoableCount_5 rfl (lv_at hl 0 rfl) ?_
  refine hs_get hx hb (T := TX8) hA inAX8 hown hK hH 20 0 (by decide) 12 rfl rfl 6 (by decide) (hA _ zt_1557) rfl rfl dX8_undoableCount_6 ?_
  cases hf
  exact hs_iret C0 hH hS (by decide) (by decide) dX8_undoableCount_9
def f_X8_undo_30 : Nat → Mem → Int32 → Option (Int32 × Mem)
  | 0, _, _ => none
  | n + 1, M, a1 => (if (192 : Int32) ≤ a1 then some ((M 20 0 6), M) else if vin (((192 : Int32) * (M 20 0 6)) + a1) 1536 then (if vin a1 192 then (nm (mu M 21 0 (ix a1) (M 25 0 (ix (((192 : Int32) * (M 20 0 6)) + a1)))) fun M13 => f_X8_undo_30 n M13 (a1 + (1 : Int32))) else none) else none)
set_option maxHeartbeats 4000000 in
set_option maxRecDepth 100000 in
theorem w_X8_undo_30 {Y : LY} {p : Program} {l : Launch} {e : Env} {s : State} {m : MethodId} {args : Array Value} {below : List Frame} {meth : Method} {c : Code} (C0 : BE Y p s m args meth c cX8_undo 2 (Option.some Jvm.ClassFile.FieldType.int) RX8) {r : Int32} {MZ : Mem} : ∀ (n : Nat) (M : Mem) (a1 : Int32), f_X8_undo_30 n M a1 = some (r, MZ) → ∀ (H : Heap) (locs : List Loc) (ls : Array Slot), HS Y M H → va_S (AZ Y) s.heap H locs → lv_has ls 2 [(0, .ref (YA Y 20 0)), (1, .int a1)] → W p l e { frames := 1, cells := 0, slots := 0, locals := 21 } s m args below meth c H locs 0 0 (MQ below (Qi Y r MZ) args s 0 0 (AZ Y)) (F0 m 30 ls []) := by
  obtain ⟨hx, hb, hr, hml, hown, hA, hlocks, hK, hZ⟩ := id C0
  intro n
  induction n with
  | zero =>
    intro M a1 hf
    cases hf
  | succ n ih =>
    intro M a1 hf H locs ls hH hS hl
    rw [f_X8_undo_30] at hf
    refine lv_iload_n hx hb dX8_undo_30 rfl (lv_at hl 1 rfl) ?_
    refine lv_sipush (v := (192 : Int32)) hx hb dX8_undo_31 (by decide) ?_
    refine lv_icmp_ge (tgt := 64) hx hb dX8_undo_34 (by decide) (fun hc14 => ?_) (fun hc14 => ?_)
    · have hf := if_t hf hc14
      refine lv_aload_n hx hb dX8_undo_64 rfl (lv_at hl 0 rfl) ?_
      refine hs_get hx hb (T := TX8) hA inAX8 hown hK hH 20 0 (by decide) 12 rfl rfl 6 (by decide) (hA _ zt_1557) rfl rfl dX8_undo_65 ?_
      cases hf
      exact hs_iret C0 hH hS (by decide) (by decide) dX8_undo_68
    · have hf := if_f hf hc14
      refine lv_aload_n hx hb dX8_undo_37 rfl (lv_at hl 0 rfl) ?_
      refine hs_get hx hb (T := TX8) hA inAX8 hown hK hH 20 0 (by decide) 12 rfl rfl 0 (by decide) (hA _ zt_1551) rfl rfl dX8_undo_38 ?_
      refine lv_iload_n hx hb dX8_undo_41 rfl (lv_at hl 1 rfl) ?_
      refine lv_aload_n hx hb dX8_undo_42 rfl (lv_at hl 0 rfl) ?_
      refine hs_get hx hb (T := TX8) hA inAX8 hown hK hH 20 0 (by decide) 12 rfl rfl 5 (by decide) (hA _ zt_1556) rfl rfl dX8_undo_43 ?_
      refine lv_sipush (v := (192 : Int32)) hx hb dX8_undo_46 (by decide) ?_
      refine lv_aload_n hx hb dX8_undo_49 rfl (lv_at hl 0 rfl) ?_
      refine hs_get hx hb (T := TX8) hA inAX8 hown hK hH 20 0 (by decide) 12 rfl rfl 6 (by decide) (hA _ zt_1557) rfl rfl dX8_undo_50 ?_
      refine lv_imul hx hb dX8_undo_53 ?_
      refine lv_iload_n hx hb dX8_undo_54 rfl (lv_at hl 1 rfl) ?_
      refine lv_iadd hx hb dX8_undo_55 ?_
      obtain ⟨hg11, hf⟩ := gd_o hf
      have bhg11 := vin_lt hg11
      refine hs_iald hx hb hK hH 25 0 (by decide) rfl hg11 rfl dX8_undo_56 ?_
      obtain ⟨hg12, hf⟩ := gd_o hf
      have bhg12 := vin_lt hg12
      refine hs_iast hx hb hK hH hS 21 0 (by decide) (fun _ => rfl) hg12 rfl dX8_undo_57 (fun H locs hH hS => ?_)
      obtain ⟨M13, eM13, hf⟩ := nm_o hf
      rw [← eM13] at hH
      refine lv_iinc (v := a1 + (1 : Int32)) (lv' := [(1, .int (a1 + (1 : Int32))), (0, .ref (YA Y 20 0))]) hx hb dX8_undo_58 hl (k := 1) rfl rfl (by decide) rfl (fun ls hl => ?_)
      refine lv_goto (tgt := 30) hx hb dX8_undo_61 (by decide) ?_
      exact ih M13 (a1 + (1 : Int32)) hf _ _ _ hH hS (lv_sub hl [1, 0] rfl)
def f_X8_undo (M : Mem) : Option (Int32 × Mem) := nm (mu M 20 0 9 (0 : Int32)) fun M15 => (if (M15 20 0 6) = 0 then bd2 (f_X8_throwing M15 (1 : Int32)) fun r19 M18 => some (r19, M18) else nm (mu M15 20 0 6 ((M15 20 0 6) - (1 : Int32))) fun M16 => f_X8_undo_30 FU M16 (0 : Int32))
set_option maxHeartbeats 4000000 in
set_option maxRecDepth 100000 in
theorem c_X8_undo {Y : LY} {l : Launch} (M : Mem) {r : Int32} {MZ : Mem} (hf : f_X8_undo M = some (r, MZ)) : Met l yX8_undo (WS yX8_undo cX8_undo 2 (Option.some Jvm.ClassFile.FieldType.int)) { frames := 1, cells := 0, slots := 0, locals := 21 } (PcM Y M [.ref (YA Y 20 0)]) (Qi Y r MZ) 0 0 (AZ Y) := by
  refine met_mk (lv := [(0, .ref (YA Y 20 0))]) [.ref (YA Y 20 0)] (by decide) rfl rfl (Nat.le_of_ble_eq_true rfl) (fun p e s m below meth c C0 hH ls hl => ?_)
  have hS : va_S (AZ Y) s.heap s.heap [] := va_S.rf
  obtain ⟨hx, hb, hr, hml, hown, hA, hlocks, hK, hZ⟩ := id C0
  unfold f_X8_undo at hf
  refine lv_aload_n hx hb dX8_undo_0 rfl (lv_at hl 0 rfl) ?_
  refine lv_iconst (v := (0 : Int32)) hx hb dX8_undo_1 (by decide) ?_
  refine hs_put hx hb (T := TX8) hA inAX8 tyX8 tyX8_ok nmX8 hown hK hH hS 20 0 (by decide) 12 rfl rfl 9 (by decide) (hA _ zt_1560) rfl rfl (by decide +kernel) (Nat.le_of_ble_eq_true rfl) rfl dX8_undo_2 (fun H locs hH hS => ?_)
  obtain ⟨M15, eM15, hf⟩ := nm_o hf
  rw [← eM15] at hH
  refine lv_aload_n hx hb dX8_undo_5 rfl (lv_at hl 0 rfl) ?_
  refine hs_get hx hb (T := TX8) hA inAX8 hown hK hH 20 0 (by decide) 12 rfl rfl 6 (by decide) (hA _ zt_1557) rfl rfl dX8_undo_6 ?_
  refine lv_if_ne (tgt := 18) hx hb dX8_undo_9 (by decide) (fun hc20 => ?_) (fun hc20 => ?_)
  · have hf := if_f hf hc20
    refine lv_aload_n hx hb dX8_undo_18 rfl (lv_at hl 0 rfl) ?_
    refine lv_dup hx hb dX8_undo_19 rfl ?_
    refine hs_get hx hb (T := TX8) hA inAX8 hown hK hH 20 0 (by decide) 12 rfl rfl 6 (by decide) (hA _ zt_1557) rfl rfl dX8_undo_20 ?_
    refine lv_iconst (v := (1 : Int32)) hx hb dX8_undo_23 (by decide) ?_
    refine lv_isub hx hb dX8_undo_24 ?_
    refine hs_put hx hb (T := TX8) hA inAX8 tyX8 tyX8_ok nmX8 hown hK hH hS 20 0 (by decide) 12 rfl rfl 6 (by decide) (hA _ zt_1557) rfl rfl (by decide +kernel) (Nat.le_of_ble_eq_true rfl) rfl dX8_undo_25 (fun H locs hH hS => ?_)
    obtain ⟨M16, eM16, hf⟩ := nm_o hf
    rw [← eM16] at hH
    refine lv_iconst (v := (0 : Int32)) hx hb dX8_undo_28 (by decide) ?_
    refine lv_istore_n (lv' := [(1, .int (0 : Int32)), (0, .ref (YA Y 20 0))]) hx hb dX8_undo_29 rfl hl (by decide) rfl (fun ls hl => ?_)
    exact w_X8_undo_30 C0 FU M16 (0 : Int32) hf _ _ _ hH hS (lv_sub hl [1, 0] rfl)
  · have hf := if_t hf hc20
    refine lv_aload_n hx hb dX8_undo_12 rfl (lv_at hl 0 rfl) ?_
    refine lv_iconst (v := (1 : Int32)) hx hb dX8_undo_13 (by decide) ?_
    obtain ⟨r19, M18, hq17, hf⟩ := bd2_o hf
    refine hs_ci (hs_runV C0 hH hS (n := 1) (As := [.int (1 : Int32)]) (rest := []) (c_X8_throwing M15 (1 : Int32) hq17) ⟨⟨zt_1637, zt_1639, zs_34, zt_13, zt_1640⟩, rfl, by decide, by decide, by decide +kernel⟩ ⟨rfl, rfl, Nat.le_of_ble_eq_true rfl, Nat.le_of_ble_eq_true rfl⟩ (hs_recv hK hH 20 0 (by decide) 12 rfl rfl) rfl rfl hl.1 (Nat.le_of_ble_eq_true rfl) ⟨Nat.le_of_ble_eq_true rfl, Nat.le_of_ble_eq_true rfl⟩ dX8_undo_14) hS (fun H locs hH hS => ?_)
    cases hf
    exact hs_iret C0 hH hS (by decide) (by decide) dX8_undo_17
def f_X8_save_7 : Nat → Mem → Int32 → Option (Int32 × Mem)
  | 0, _, _ => none
  | n + 1, M, a1 => (if (192 : Int32) ≤ a1 then nm (mu M 20 0 4 (1 : Int32)) fun M6 => some ((M6 21 0 0), M6) else if vin a1 192 then (nm (mu M 24 0 (ix a1) (M 21 0 (ix a1))) fun M8 => f_X8_save_7 n M8 (a1 + (1 : Int32))) else none)
set_option maxHeartbeats 4000000 in
set_option maxRecDepth 100000 in
theorem w_X8_save_7 {Y : LY} {p : Program} {l : Launch} {e : Env} {s : State} {m : MethodId} {args : Array Value} {below : List Frame} {meth : Method} {c : Code} (C0 : BE Y p s m args meth c cX8_save 2 (Option.some Jvm.ClassFile.FieldType.int) RX8) {r : Int32} {MZ : Mem} : ∀ (n : Nat) (M : Mem) (a1 : Int32), f_X8_save_7 n M a1 = some (r, MZ) → ∀ (H : Heap) (locs : List Loc) (ls : Array Slot), HS Y M H → va_S (AZ Y) s.heap H locs → lv_has ls 2 [(0, .ref (YA Y 20 0)), (1, .int a1)] → W p l e { frames := 0, cells := 0, slots := 0, locals := 0 } s m args below meth c H locs 0 0 (MQ below (Qi Y r MZ) args s 0 0 (AZ Y)) (F0 m 7 ls []) := by
  obtain ⟨hx, hb, hr, hml, hown, hA, hlocks, hK, hZ⟩ := id C0
  intro n
  induction n with
  | zero =>
    intro M a1 hf
    cases hf
  | succ n ih =>
    intro M a1 hf H locs ls hH hS hl
    rw [f_X8_save_7] at hf
    refine lv_iload_n hx hb dX8_save_7 rfl (lv_at hl 1 rfl) ?_
    refine lv_sipush (v := (192 : Int32)) hx hb dX8_save_8 (by decide) ?_
    refine lv_icmp_ge (tgt := 32) hx hb dX8_save_11 (by decide) (fun hc9 => ?_) (fun hc9 => ?_)
    · have hf := if_t hf hc9
      refine lv_aload_n hx hb dX8_save_32 rfl (lv_at hl 0 rfl) ?_
      refine lv_iconst (v := (1 : Int32)) hx hb dX8_save_33 (by decide) ?_
      refine hs_putz hx hb (T := TX8) hA inAX8 tyX8 tyX8_ok nmX8 hown hK hH hS 20 0 (by decide) 12 rfl rfl 4 (by decide) (hA _ zt_1555) rfl rfl (by decide +kernel) (by decide) (Nat.le_of_ble_eq_true rfl) rfl dX8_save_34 (fun H locs hH hS => ?_)
      obtain ⟨M6, eM6, hf⟩ := nm_o hf
      rw [← eM6] at hH
      refine lv_aload_n hx hb dX8_save_37 rfl (lv_at hl 0 rfl) ?_
      refine hs_get hx hb (T := TX8) hA inAX8 hown hK hH 20 0 (by decide) 12 rfl rfl 0 (by decide) (hA _ zt_1551) rfl rfl dX8_save_38 ?_
      refine lv_iconst (v := (0 : Int32)) hx hb dX8_save_41 (by decide) ?_
      refine hs_iald hx hb hK hH 21 0 (by decide) rfl (show vin (0 : Int32) 192 from by decide) (show ix (0 : Int32) = 0 from by decide) dX8_save_42 ?_
      cases hf
      exact hs_iret C0 hH hS (by decide) (by decide) dX8_save_43
    · have hf := if_f hf hc9
      refine lv_aload_n hx hb dX8_save_14 rfl (lv_at hl 0 rfl) ?_
      refine hs_get hx hb (T := TX8) hA inAX8 hown hK hH 20 0 (by decide) 12 rfl rfl 3 (by decide) (hA _ zt_1554) rfl rfl dX8_save_15 ?_
      refine lv_iload_n hx hb dX8_save_18 rfl (lv_at hl 1 rfl) ?_
      refine lv_aload_n hx hb dX8_save_19 rfl (lv_at hl 0 rfl) ?_
      refine hs_get hx hb (T := TX8) hA inAX8 hown hK hH 20 0 (by decide) 12 rfl rfl 0 (by decide) (hA _ zt_1551) rfl rfl dX8_save_20 ?_
      refine lv_iload_n hx hb dX8_save_23 rfl (lv_at hl 1 rfl) ?_
      obtain ⟨hg7, hf⟩ := gd_o hf
      have bhg7 := vin_lt hg7
      refine hs_iald hx hb hK hH 21 0 (by decide) rfl hg7 rfl dX8_save_24 ?_
      refine hs_iast hx hb hK hH hS 24 0 (by decide) (fun _ => rfl) hg7 rfl dX8_save_25 (fun H locs hH hS => ?_)
      obtain ⟨M8, eM8, hf⟩ := nm_o hf
      rw [← eM8] at hH
      refine lv_iinc (v := a1 + (1 : Int32)) (lv' := [(1, .int (a1 + (1 : Int32))), (0, .ref (YA Y 20 0))]) hx hb dX8_save_26 hl (k := 1) rfl rfl (by decide) rfl (fun ls hl => ?_)
      refine lv_goto (tgt := 7) hx hb dX8_save_29 (by decide) ?_
      exact ih M8 (a1 + (1 : Int32)) hf _ _ _ hH hS (lv_sub hl [1, 0] rfl)
def f_X8_save (M : Mem) : Option (Int32 × Mem) := nm (mu M 20 0 9 (0 : Int32)) fun M10 => f_X8_save_7 FU M10 (0 : Int32)
set_option maxHeartbeats 4000000 in
set_option maxRecDepth 100000 in
theorem c_X8_save {Y : LY} {l : Launch} (M : Mem) {r : Int32} {MZ : Mem} (hf : f_X8_save M = some (r, MZ)) : Met l yX8_save (WS yX8_save cX8_save 2 (Option.some Jvm.ClassFile.FieldType.int)) { frames := 0, cells := 0, slots := 0, locals := 0 } (PcM Y M [.ref (YA Y 20 0)]) (Qi Y r MZ) 0 0 (AZ Y) := by
  refine met_mk (lv := [(0, .ref (YA Y 20 0))]) [.ref (YA Y 20 0)] (by decide) rfl rfl (Nat.le_of_ble_eq_true rfl) (fun p e s m below meth c C0 hH ls hl => ?_)
  have hS : va_S (AZ Y) s.heap s.heap [] := va_S.rf
  obtain ⟨hx, hb, hr, hml, hown, hA, hlocks, hK, hZ⟩ := id C0
  unfold f_X8_save at hf
  refine lv_aload_n hx hb dX8_save_0 rfl (lv_at hl 0 rfl) ?_
  refine lv_iconst (v := (0 : Int32)) hx hb dX8_save_1 (by decide) ?_
  refine hs_put hx hb (T := TX8) hA inAX8 tyX8 tyX8_ok nmX8 hown hK hH hS 20 0 (by decide) 12 rfl rfl 9 (by decide) (hA _ zt_1560) rfl rfl (by decide +kernel) (Nat.le_of_ble_eq_true rfl) rfl dX8_save_2 (fun H locs hH hS => ?_)
  obtain ⟨M10, eM10, hf⟩ := nm_o hf
  rw [← eM10] at hH
  refine lv_iconst (v := (0 : Int32)) hx hb dX8_save_5 (by decide) ?_
  refine lv_istore_n (lv' := [(1, .int (0 : Int32)), (0, .ref (YA Y 20 0))]) hx hb dX8_save_6 rfl hl (by decide) rfl (fun ls hl => ?_)
  exact w_X8_save_7 C0 FU M10 (0 : Int32) hf _ _ _ hH hS (lv_sub hl [1, 0] rfl)
def f_X8_restore_20 : Nat → Mem → Int32 → Option (Int32 × Mem)
  | 0, _, _ => none
  | n + 1, M, a1 => (if (192 : Int32) ≤ a1 then nm (mu M 20 0 6 (0 : Int32)) fun M10 => some ((M10 21 0 0), M10) else if vin a1 192 then (nm (mu M 21 0 (ix a1) (M 24 0 (ix a1))) fun M12 => f_X8_restore_20 n M12 (a1 + (1 : Int32))) else none)
set_option maxHeartbeats 4000000 in
set_option maxRecDepth 100000 in
theorem w_X8_restore_20 {Y : LY} {p : Program} {l : Launch} {e : Env} {s : State} {m : MethodId} {args : Array Value} {below : List Frame} {meth : Method} {c : Code} (C0 : BE Y p s m args meth c cX8_restore 2 (Option.some Jvm.ClassFile.FieldType.int) RX8) {r : Int32} {MZ : Mem} : ∀ (n : Nat) (M : Mem) (a1 : Int32), f_X8_restore_20 n M a1 = some (r, MZ) → ∀ (H : Heap) (locs : List Loc) (ls : Array Slot), HS Y M H → va_S (AZ Y) s.heap H locs → lv_has ls 2 [(0, .ref (YA Y 20 0)), (1, .int a1)] → W p l e { frames := 1, cells := 0, slots := 0, locals := 21 } s m args below meth c H locs 0 0 (MQ below (Qi Y r MZ) args s 0 0 (AZ Y)) (F0 m 20 ls []) := by
  obtain ⟨hx, hb, hr, hml, hown, hA, hlocks, hK, hZ⟩ := id C0
  intro n
  induction n with
  | zero =>
    intro M a1 hf
    cases hf
  | succ n ih =>
    intro M a1 hf H locs ls hH hS hl
    rw [f_X8_restore_20] at hf
    refine lv_iload_n hx hb dX8_restore_20 rfl (lv_at hl 1 rfl) ?_
    refine lv_sipush (v := (192 : Int32)) hx hb dX8_restore_21 (by decide) ?_
    refine lv_icmp_ge (tgt := 45) hx hb dX8_restore_24 (by decide) (fun hc13 => ?_) (fun hc13 => ?_)
    · have hf := if_t hf hc13
      refine lv_aload_n hx hb dX8_restore_45 rfl (lv_at hl 0 rfl) ?_
      refine lv_iconst (v := (0 : Int32)) hx hb dX8_restore_46 (by decide) ?_
      refine hs_put hx hb (T := TX8) hA inAX8 tyX8 tyX8_ok nmX8 hown hK hH hS 20 0 (by decide) 12 rfl rfl 6 (by decide) (hA _ zt_1557) rfl rfl (by decide +kernel) (Nat.le_of_ble_eq_true rfl) rfl dX8_restore_47 (fun H locs hH hS => ?_)
      obtain ⟨M10, eM10, hf⟩ := nm_o hf
      rw [← eM10] at hH
      refine lv_aload_n hx hb dX8_restore_50 rfl (lv_at hl 0 rfl) ?_
      refine hs_get hx hb (T := TX8) hA inAX8 hown hK hH 20 0 (by decide) 12 rfl rfl 0 (by decide) (hA _ zt_1551) rfl rfl dX8_restore_51 ?_
      refine lv_iconst (v := (0 : Int32)) hx hb dX8_restore_54 (by decide) ?_
      refine hs_iald hx hb hK hH 21 0 (by decide) rfl (show vin (0 : Int32) 192 from by decide) (show ix (0 : Int32) = 0 from by decide) dX8_restore_55 ?_
      cases hf
      exact hs_iret C0 hH hS (by decide) (by decide) dX8_restore_56
    · have hf := if_f hf hc13
      refine lv_aload_n hx hb dX8_restore_27 rfl (lv_at hl 0 rfl) ?_
      refine hs_get hx hb (T := TX8) hA inAX8 hown hK hH 20 0 (by decide) 12 rfl rfl 0 (by decide) (hA _ zt_1551) rfl rfl dX8_restore_28 ?_
      refine lv_iload_n hx hb dX8_restore_31 rfl (lv_at hl 1 rfl) ?_
      refine lv_aload_n hx hb dX8_restore_32 rfl (lv_at hl 0 rfl) ?_
      refine hs_get hx hb (T := TX8) hA inAX8 hown hK hH 20 0 (by decide) 12 rfl rfl 3 (by decide) (hA _ zt_1554) rfl rfl dX8_restore_33 ?_
      refine lv_iload_n hx hb dX8_restore_36 rfl (lv_at hl 1 rfl) ?_
      obtain ⟨hg11, hf⟩ := gd_o hf
      have bhg11 := vin_lt hg11
      refine hs_iald hx hb hK hH 24 0 (by decide) rfl hg11 rfl dX8_restore_37 ?_
      refine hs_iast hx hb hK hH hS 21 0 (by decide) (fun _ => rfl) hg11 rfl dX8_restore_38 (fun H locs hH hS => ?_)
      obtain ⟨M12, eM12, hf⟩ := nm_o hf
      rw [← eM12] at hH
      refine lv_iinc (v := a1 + (1 : Int32)) (lv' := [(1, .int (a1 + (1 : Int32))), (0, .ref (YA Y 20 0))]) hx hb dX8_restore_39 hl (k := 1) rfl rfl (by decide) rfl (fun ls hl => ?_)
      refine lv_goto (tgt := 20) hx hb dX8_restore_42 (by decide) ?_
      exact ih M12 (a1 + (1 : Int32)) hf _ _ _ hH hS (lv_sub hl [1, 0] rfl)
def f_X8_restore (M : Mem) : Option (Int32 × Mem) := nm (mu M 20 0 9 (0 : Int32)) fun M14 => (if (M14 20 0 4) = 0 then bd2 (f_X8_throwing M14 (1 : Int32)) fun r17 M16 => some (r17, M16) else f_X8_restore_20 FU M14 (0 : Int32))
set_option maxHeartbeats 4000000 in
set_option maxRecDepth 100000 in
theorem c_X8_restore {Y : LY} {l : Launch} (M : Mem) {r : Int32} {MZ : Mem} (hf : f_X8_restore M = some (r, MZ)) : Met l yX8_restore (WS yX8_restore cX8_restore 2 (Option.some Jvm.ClassFile.FieldType.int)) { frames := 1, cells := 0, slots := 0, locals := 21 } (PcM Y M [.ref (YA Y 20 0)]) (Qi Y r MZ) 0 0 (AZ Y) := by
  refine met_mk (lv := [(0, .ref (YA Y 20 0))]) [.ref (YA Y 20 0)] (by decide) rfl rfl (Nat.le_of_ble_eq_true rfl) (fun p e s m below meth c C0 hH ls hl => ?_)
  have hS : va_S (AZ Y) s.heap s.heap [] := va_S.rf
  obtain ⟨hx, hb, hr, hml, hown, hA, hlocks, hK, hZ⟩ := id C0
  unfold f_X8_restore at hf
  refine lv_aload_n hx hb dX8_restore_0 rfl (lv_at hl 0 rfl) ?_
  refine lv_iconst (v := (0 : Int32)) hx hb dX8_restore_1 (by decide) ?_
  refine hs_put hx hb (T := TX8) hA inAX8 tyX8 tyX8_ok nmX8 hown hK hH hS 20 0 (by decide) 12 rfl rfl 9 (by decide) (hA _ zt_1560) rfl rfl (by decide +kernel) (Nat.le_of_ble_eq_true rfl) rfl dX8_restore_2 (fun H locs hH hS => ?_)
  obtain ⟨M14, eM14, hf⟩ := nm_o hf
  rw [← eM14] at hH
  refine lv_aload_n hx hb dX8_restore_5 rfl (lv_at hl 0 rfl) ?_
  refine hs_get hx hb (T := TX8) hA inAX8 hown hK hH 20 0 (by decide) 12 rfl rfl 4 (by decide) (hA _ zt_1555) rfl rfl dX8_restore_6 ?_
  refine lv_if_ne (tgt := 18) hx hb dX8_restore_9 (by decide) (fun hc18 => ?_) (fun hc18 => ?_)
  · have hf := if_f hf hc18
    refine lv_iconst (v := (0 : Int32)) hx hb dX8_restore_18 (by decide) ?_
    refine lv_istore_n (lv' := [(1, .int (0 : Int32)), (0, .ref (YA Y 20 0))]) hx hb dX8_restore_19 rfl hl (by decide) rfl (fun ls hl => ?_)
    exact w_X8_restore_20 C0 FU M14 (0 : Int32) hf _ _ _ hH hS (lv_sub hl [1, 0] rfl)
  · have hf := if_t hf hc18
    refine lv_aload_n hx hb dX8_restore_12 rfl (lv_at hl 0 rfl) ?_
    refine lv_iconst (v := (1 : Int32)) hx hb dX8_restore_13 (by decide) ?_
    obtain ⟨r17, M16, hq15, hf⟩ := bd2_o hf
    refine hs_ci (hs_runV C0 hH hS (n := 1) (As := [.int (1 : Int32)]) (rest := []) (c_X8_throwing M14 (1 : Int32) hq15) ⟨⟨zt_1637, zt_1639, zs_34, zt_13, zt_1640⟩, rfl, by decide, by decide, by decide +kernel⟩ ⟨rfl, rfl, Nat.le_of_ble_eq_true rfl, Nat.le_of_ble_eq_true rfl⟩ (hs_recv hK hH 20 0 (by decide) 12 rfl rfl) rfl rfl hl.1 (Nat.le_of_ble_eq_true rfl) ⟨Nat.le_of_ble_eq_true rfl, Nat.le_of_ble_eq_true rfl⟩ dX8_restore_14) hS (fun H locs hH hS => ?_)
    cases hf
    exact hs_iret C0 hH hS (by decide) (by decide) dX8_restore_17
