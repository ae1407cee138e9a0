def f_X8_restore_20 : Nat → Mem → Int32 → Option (Int32 × Mem)
  | 0, _, _ => none
  | n + 1, M, a1 => (if (192 : Int32) ≤ a1 then nm (mu M 20 0 6 (0 : Int32)) fun M10 => some ((M10 21 0 0), M10) else if vin a1 192 then (nm (mu M 21 0 (ix a1) (M 24 0 (ix a1))) fun M12 => f_X8_restore_20 n M12 (a1 + (1 : Int32))) else none)
set_option maxHeartbeats 4000000 in
set_option maxRecDepth 100000 in
theorem w_X8_restore_20 {Y : LY} {p : Program} {l : Launch} {e : Env} {s : State} {m : MethodId} {args : Array Value} {below : List Frame} {meth : Method} {c : Code} (C0 : BE Y p s m args meth c cX8_restore 2 (Option.some Jvm.ClassFile.FieldType.int) RX8) {r : Int32} {MZ : Mem} : ∀ (n : Nat) (M : Mem) (a1 : Int32), f_X8_restore_20 n M a1 = some (r, MZ) → ∀ (H : Heap) (locs : List Loc) (ls : Array Slot), HS Y M H → va_S (AZ Y) s.heap H locs → lv_has ls 2 [(0, .ref (YA Y 20 0)), (1, .int a1)] → W p l e { frames := 1, cells := 0, slots := 0, locals := 21 } s m args below meth c H locs 0 0 (MQ below (Qi Y r MZ) args s 0 0 (AZ Y)) (F0 m 20 ls []) := by
  obtain ⟨hx, hb, hr, hml, hown, hA, hlocks, hK, hZ⟩ := id C0
  intro n
  induction n with
  | zero =>
    intro M a1 hf
    cases hf
  | succ n ih =>
    intro M a1 hf H locs ls hH hS hl
    rw [f_X8_restore_20] at hf
    refine lv_iload_n hx hb dX8_restore_20 rfl (lv_at hl 1 rfl) ?_
    refine lv_sipush (v := (192 : Int32)) hx hb dX8_restore_21 (by decide) ?_
    refine lv_icmp_ge (tgt := 45) hx hb dX8_restore_24 (by decide) (fun hc13 => ?_) (fun hc13 => ?_)
    · have hf := if_t hf hc13
      refine lv_aload_n hx hb dX8_restore_45 rfl (lv_at hl 0 rfl) ?_
      refine lv_iconst (v := (0 : Int32)) hx hb dX8_restore_46 (by decide) ?_
      refine hs_put hx hb (T := TX8) hA inAX8 tyX8 tyX8_ok nmX8 hown hK hH hS 20 0 (by decide) 12 rfl rfl 6 (by decide) (hA _ zt_1557) rfl rfl (by decide +kernel) (Nat.le_of_ble_eq_true rfl) rfl dX8_restore_47 (fun H locs hH hS => ?_)
      obtain ⟨M10, eM10, hf⟩ := nm_o hf
      rw [← eM10] at hH
      refine lv_aload_n hx hb dX8_restore_50 rfl (lv_at hl 0 rfl) ?_
      refine hs_get hx hb (T := TX8) hA inAX8 hown hK hH 20 0 (by decide) 12 rfl rfl 0 (by decide) (hA _ zt_1551) rfl rfl dX8_restore_51 ?_
      refine lv_iconst (v := (0 : Int32)) hx hb dX8_restore_54 (by decide) ?_
      refine hs_iald hx hb hK hH 21 0 (by decide) rfl (show vin (0 : Int32) 192 from by decide) (show ix (0 : Int32) = 0 from by decide) dX8_restore_55 ?_
      cases hf
      exact hs_iret C0 hH hS (by decide) (by decide) dX8_restore_56
    · have hf := if_f hf hc13
      refine lv_aload_n hx hb dX8_restore_27 rfl (lv_at hl 0 rfl) ?_
      refine hs_get hx hb (T := TX8) hA inAX8 hown hK hH 20 0 (by decide) 12 rfl rfl 0 (by decide) (hA _ zt_1551) rfl rfl dX8_restore_28 ?_
      refine lv_iload_n hx hb dX8_restore_31 rfl (lv_at hl 1 rfl) ?_
      refine lv_aload_n hx hb dX8_restore_32 rfl (lv_at hl 0 rfl) ?_
      refine hs_get hx hb (T := TX8) hA inAX8 hown hK hH 20 0 (by decide) 12 rfl rfl 3 (by decide) (hA _ zt_1554) rfl rfl dX8_restore_33 ?_
      refine lv_iload_n hx hb dX8_restore_36 rfl (lv_at hl 1 rfl) ?_
      obtain ⟨hg11, hf⟩ := gd_o hf
      have bhg11 := vin_lt hg11
      refine hs_iald hx hb hK hH 24 0 (by decide) rfl hg11 rfl dX8_restore_37 ?_
      refine hs_iast hx hb hK hH hS 21 0 (by decide) (fun _ => rfl) hg11 rfl dX8_restore_38 (fun H locs hH hS => ?_)
      obtain ⟨M12, eM12, hf⟩ := nm_o hf
      rw [← eM12] at hH
      refine lv_iinc (v := a1 + (1 : Int32)) (lv' := [(1, .int (a1 + (1 : Int32))), (0, .ref (YA Y 20 0))]) hx hb dX8_restore_39 hl (k := 1) rfl rfl (by decide) rfl (fun ls hl => ?_)
      refine lv_goto (tgt := 20) hx hb dX8_restore_42 (by decide) ?_
      exact ih M12 (a1 + (1 : Int32)) hf _ _ _ hH hS (lv_sub hl [1, 0] rfl)
def f_X8_restore (M : Mem) : Option (Int32 × Mem) := nm (mu M 20 0 9 (0 : Int32)) fun M14 => (if (M14 20 0 4) = 0 then bd2 (f_X8_throwing M14 (1 : Int32)) fun r17 M16 => some (r17, M16) else f_X8_restore_20 FU M14 (0 : Int32))
set_option maxHeartbeats 4000000 in
set_option maxRecDepth 100000 in
theorem c_X8_restore {Y : LY} {l : Launch} (M : Mem) {r : Int32} {MZ : Mem} (hf : f_X8_restore M = some (r, MZ)) : Met l yX8_restore (WS yX8_restore cX8_restore 2 (Option.some Jvm.ClassFile.FieldType.int)) { frames := 1, cells := 0, slots := 0, locals := 21 } (PcM Y M [.ref (YA Y 20 0)]) (Qi Y r MZ) 0 0 (AZ Y) := by
  refine met_mk (lv := [(0, .ref (YA Y 20 0))]) [.ref (YA Y 20 0)] (by decide) rfl rfl (Nat.le_of_ble_eq_true rfl) (fun p e s m below meth c C0 hH ls hl => ?_)
  have hS : va_S (AZ Y) s.heap s.heap [] := va_S.rf
  obtain ⟨hx, hb, hr, hml, hown, hA, hlocks, hK, hZ⟩ := id C0
  unfold f_X8_restore at hf
  refine lv_aload_n hx hb dX8_restore_0 rfl (lv_at hl 0 rfl) ?_
  refine lv_iconst (v := (0 : Int32)) hx hb dX8_restore_1 (by decide) ?_
  refine hs_put hx hb (T := TX8) hA inAX8 tyX8 tyX8_ok nmX8 hown hK hH hS 20 0 (by decide) 12 rfl rfl 9 (by decide) (hA _ zt_1560) rfl rfl (by decide +kernel) (Nat.le_of_ble_eq_true rfl) rfl dX8_restore_2 (fun H locs hH hS => ?_)
  obtain ⟨M14, eM14, hf⟩ := nm_o hf
  rw [← eM14] at hH
  refine lv_aload_n hx hb dX8_restore_5 rfl (lv_at hl 0 rfl) ?_
  refine hs_get hx hb (T := TX8) hA inAX8 hown hK hH 20 0 (by decide) 12 rfl rfl 4 (by decide) (hA _ zt_1555) rfl rfl dX8_restore_6 ?_
  refine lv_if_ne (tgt := 18) hx hb dX8_restore_9 (by decide) (fun hc18 => ?_) (fun hc18 => ?_)
  · have hf := if_f hf hc18
    refine lv_iconst (v := (0 : Int32)) hx hb dX8_restore_18 (by decide) ?_
    refine lv_istore_n (lv' := [(1, .int (0 : Int32)), (0, .ref (YA Y 20 0))]) hx hb dX8_restore_19 rfl hl (by decide) rfl (fun ls hl => ?_)
    exact w_X8_restore_20 C0 FU M14 (0 : Int32) hf _ _ _ hH hS (lv_sub hl [1, 0] rfl)
  · have hf := if_t hf hc18
    refine lv_aload_n hx hb dX8_restore_12 rfl (lv_at hl 0 rfl) ?_
    refine lv_iconst (v := (1 : Int32)) hx hb dX8_restore_13 (by decide) ?_
    obtain ⟨r17, M16, hq15, hf⟩ := bd2_o hf
    refine hs_ci (hs_runV C0 hH hS (n := 1) (As := [.int (1 : Int32)]) (rest := []) (c_X8_throwing M14 (1 : Int32) hq15) ⟨⟨zt_1637, zt_1639, zs_34, zt_13, zt_1640⟩, rfl, by decide, by decide, by decide +kernel⟩ ⟨rfl, rfl, Nat.le_of_ble_eq_true rfl, Nat.le_of_ble_eq_true rfl⟩ (hs_recv hK hH 20 0 (by decide) 12 rfl rfl) rfl rfl hl.1 (Nat.le_of_ble_eq_true rfl) ⟨Nat.le_of_ble_eq_true rfl, Nat.le_of_ble_eq_true rfl⟩ dX8_restore_14) hS (fun H locs hH hS => ?_)
    cases hf
    exact hs_iret C0 hH hS (by decide) (by decide) dX8_restore_17
