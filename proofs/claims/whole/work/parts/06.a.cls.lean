def f_X1_copyFrom (M : Mem) (i0 : Nat) (i1 : Nat) : Option Mem := nm (mu M 4 i0 0 (M 4 i1 0)) fun M7 => nm (mu M7 4 i0 1 (M7 4 i1 1)) fun M8 => nm (mu M8 4 i0 2 (M8 4 i1 2)) fun M9 => nm (mu M9 4 i0 3 (M9 4 i1 3)) fun M10 => if isB (M10 4 i1 4) then (nm (mu M10 4 i0 4 (M10 4 i1 4)) fun M11 => some M11) else none
set_option maxHeartbeats 4000000 in
set_option maxRecDepth 100000 in
theorem c_X1_copyFrom {Y : LY} {l : Launch} (M : Mem) (i0 : Nat) (i1 : Nat) (hi0 : i0 < 220) (hi1 : i1 < 220) {MZ : Mem} (hf : f_X1_copyFrom M i0 i1 = some MZ) : Met l yX1_copyFrom (WS yX1_copyFrom cX1_copyFrom 2 (Option.none : Option Jvm.ClassFile.FieldType)) { frames := 0, cells := 0, slots := 0, locals := 0 } (PcM Y M [.ref (YA Y 4 i0), .ref (YA Y 4 i1)]) (Qv Y MZ) 0 0 (AZ Y) := by
  refine met_mk (lv := [(0, .ref (YA Y 4 i0)), (1, .ref (YA Y 4 i1))]) [.ref (YA Y 4 i0), .ref (YA Y 4 i1)] (by decide) rfl rfl (Nat.le_of_ble_eq_true rfl) (fun p e s m below meth c C0 hH ls hl => ?_)
  have hS : va_S (AZ Y) s.heap s.heap [] := va_S.rf
  obtain ⟨hx, hb, hr, hml, hown, hA, hlocks, hK, hZ⟩ := id C0
  unfold f_X1_copyFrom at hf
  refine lv_aload_n hx hb dX1_copyFrom_0 rfl (lv_at hl 0 rfl) ?_
  refine lv_aload_n hx hb dX1_copyFrom_1 rfl (lv_at hl 1 rfl) ?_
  refine hs_get hx hb (T := TX1) hA inAX1 hown hK hH 4 i1 (show i1 < 220 from by omega) 5 rfl rfl 0 (by decide) (hA _ zt_77) rfl rfl dX1_copyFrom_2 ?_
  refine hs_put hx hb (T := TX1) hA inAX1 tyX1 tyX1_ok nmX1 hown hK hH hS 4 i0 (show i0 < 220 from by omega) 5 rfl rfl 0 (by decide) (hA _ zt_77) rfl rfl (by decide +kernel) (Nat.le_of_ble_eq_true rfl) rfl dX1_copyFrom_5 (fun H locs hH hS => ?_)
  obtain ⟨M7, eM7, hf⟩ := nm_o hf
  rw [← eM7] at hH
  refine lv_aload_n hx hb dX1_copyFrom_8 rfl (lv_at hl 0 rfl) ?_
  refine lv_aload_n hx hb dX1_copyFrom_9 rfl (lv_at hl 1 rfl) ?_
  refine hs_get hx hb (T := TX1) hA inAX1 hown hK hH 4 i1 (show i1 < 220 from by omega) 5 rfl rfl 1 (by decide) (hA _ zt_82) rfl rfl dX1_copyFrom_10 ?_
  refine hs_put hx hb (T := TX1) hA inAX1 tyX1 tyX1_ok nmX1 hown hK hH hS 4 i0 (show i0 < 220 from by omega) 5 rfl rfl 1 (by decide) (hA _ zt_82) rfl rfl (by decide +kernel) (Nat.le_of_ble_eq_true rfl) rfl dX1_copyFrom_13 (fun H locs hH hS => ?_)
  obtain ⟨M8, eM8, hf⟩ := nm_o hf
  rw [← eM8] at hH
  refine lv_aload_n hx hb dX1_copyFrom_16 rfl (lv_at hl 0 rfl) ?_
  refine lv_aload_n hx hb dX1_copyFrom_17 rfl (lv_at hl 1 rfl) ?_
  refine hs_get hx hb (T := TX1) hA inAX1 hown hK hH 4 i1 (show i1 < 220 from by omega) 5 rfl rfl 2 (by decide) (hA _ zt_87) rfl rfl dX1_copyFrom_18 ?_
  refine hs_put hx hb (T := TX1) hA inAX1 tyX1 tyX1_ok nmX1 hown hK hH hS 4 i0 (show i0 < 220 from by omega) 5 rfl rfl 2 (by decide) (hA _ zt_87) rfl rfl (by decide +kernel) (Nat.le_of_ble_eq_true rfl) rfl dX1_copyFrom_21 (fun H locs hH hS => ?_)
  obtain ⟨M9, eM9, hf⟩ := nm_o hf
  rw [← eM9] at hH
  refine lv_aload_n hx hb dX1_copyFrom_24 rfl (lv_at hl 0 rfl) ?_
  refine lv_aload_n hx hb dX1_copyFrom_25 rfl (lv_at hl 1 rfl) ?_
  refine hs_get hx hb (T := TX1) hA inAX1 hown hK hH 4 i1 (show i1 < 220 from by omega) 5 rfl rfl 3 (by decide) (hA _ zt_92) rfl rfl dX1_copyFrom_26 ?_
  refine hs_put hx hb (T := TX1) hA inAX1 tyX1 tyX1_ok nmX1 hown hK hH hS 4 i0 (show i0 < 220 from by omega) 5 rfl rfl 3 (by decide) (hA _ zt_92) rfl rfl (by decide +kernel) (Nat.le_of_ble_eq_true rfl) rfl dX1_copyFrom_29 (fun H locs hH hS => ?_)
  obtain ⟨M10, eM10, hf⟩ := nm_o hf
  rw [← eM10] at hH
  refine lv_aload_n hx hb dX1_copyFrom_32 rfl (lv_at hl 0 rfl) ?_
  refine lv_aload_n hx hb dX1_copyFrom_33 rfl (lv_at hl 1 rfl) ?_
  refine hs_get hx hb (T := TX1) hA inAX1 hown hK hH 4 i1 (show i1 < 220 from by omega) 5 rfl rfl 4 (by decide) (hA _ zt_94) rfl rfl dX1_copyFrom_34 ?_
  obtain ⟨hg12, hf⟩ := gd_o hf
  refine hs_putz hx hb (T := TX1) hA inAX1 tyX1 tyX1_ok nmX1 hown hK hH hS 4 i0 (show i0 < 220 from by omega) 5 rfl rfl 4 (by decide) (hA _ zt_94) rfl rfl (by decide +kernel) hg12 (Nat.le_of_ble_eq_true rfl) rfl dX1_copyFrom_37 (fun H locs hH hS => ?_)
  obtain ⟨M11, eM11, hf⟩ := nm_o hf
  rw [← eM11] at hH
  cases hf
  exact hs_vret C0 hH hS (by decide) (by decide) dX1_copyFrom_40
def f_X2_copyFrom_18 : Nat → Mem → Nat → Nat → Int32 → Option Mem
  | 0, _, _, _, _ => none
  | n + 1, M, i0, i1, a2 => (if (M 2 i0 2) ≤ a2 then some M else if vin a2 20 then (bd (f_X1_copyFrom M (20 * i0 + (ix a2)) (20 * i1 + (ix a2))) fun M10 => f_X2_copyFrom_18 n M10 i0 i1 (a2 + (1 : Int32))) else none)
set_option maxHeartbeats 4000000 in
set_option maxRecDepth 100000 in
theorem w_X2_copyFrom_18 {Y : LY} {p : Program} {l : Launch} {e : Env} {s : State} {m : MethodId} {args : Array Value} {below : List Frame} {meth : Method} {c : Code} (C0 : BE Y p s m args meth c cX2_copyFrom 3 (Option.none : Option Jvm.ClassFile.FieldType) RX2) {MZ : Mem} : ∀ (n : Nat) (M : Mem) (i0 : Nat) (i1 : Nat) (a2 : Int32), i0 < 11 → i1 < 11 → f_X2_copyFrom_18 n M i0 i1 a2 = some MZ → ∀ (H : Heap) (locs : List Loc) (ls : Array Slot), HS Y M H → va_S (AZ Y) s.heap H locs → lv_has ls 3 [(0, .ref (YA Y 2 i0)), (1, .ref (YA Y 2 i1)), (2, .int a2)] → W p l e { frames := 1, cells := 0, slots := 0, locals := 21 } s m args below meth c H locs 0 0 (MQ below (Qv Y MZ) args s 0 0 (AZ Y)) (F0 m 18 ls []) := by
  obtain ⟨hx, hb, hr, hml, hown, hA, hlocks, hK, hZ⟩ := id C0
  intro n
  induction n with
  | zero =>
    intro M i0 i1 a2 hi0 hi1 hf
    cases hf
  | succ n ih =>
    intro M i0 i1 a2 hi0 hi1 hf H locs ls hH hS hl
    rw [f_X2_copyFrom_18] at hf
    refine lv_iload_n hx hb dX2_copyFrom_18 rfl (lv_at hl 2 rfl) ?_
    refine lv_aload_n hx hb dX2_copyFrom_19 rfl (lv_at hl 0 rfl) ?_
    refine hs_get hx hb (T := TX2) hA inAX2 hown hK hH 2 i0 (show i0 < 11 from by omega) 6 rfl rfl 2 (by decide) (hA _ zt_118) rfl rfl dX2_copyFrom_20 ?_
    refine lv_icmp_ge (tgt := 47) hx hb dX2_copyFrom_23 (by decide) (fun hc12 => ?_) (fun hc12 => ?_)
    · have hf := if_t hf hc12
      cases hf
      exact hs_vret C0 hH hS (by decide) (by decide) dX2_copyFrom_47
    · have hf := if_f hf hc12
      refine lv_aload_n hx hb dX2_copyFrom_26 rfl (lv_at hl 0 rfl) ?_
      refine hs_get hx hb (T := TX2) hA inAX2 hown hK hH 2 i0 (show i0 < 11 from by omega) 6 rfl rfl 0 (by decide) (hA _ zt_110) rfl rfl dX2_copyFrom_27 ?_
      refine lv_iload_n hx hb dX2_copyFrom_30 rfl (lv_at hl 2 rfl) ?_
      obtain ⟨hg8, hf⟩ := gd_o hf
      have bhg8 := vin_lt hg8
      refine hs_aald hx hb hK hH 3 i0 (show i0 < 11 from by omega) 3 rfl rfl hg8 (q := YA Y 4 (20 * i0 + (ix a2))) rfl dX2_copyFrom_31 ?_
      refine lv_aload_n hx hb dX2_copyFrom_32 rfl (lv_at hl 1 rfl) ?_
      refine hs_get hx hb (T := TX2) hA inAX2 hown hK hH 2 i1 (show i1 < 11 from by omega) 6 rfl rfl 0 (by decide) (hA _ zt_110) rfl rfl dX2_copyFrom_33 ?_
      refine lv_iload_n hx hb dX2_copyFrom_36 rfl (lv_at hl 2 rfl) ?_
      refine hs_aald hx hb hK hH 3 i1 (show i1 < 11 from by omega) 3 rfl rfl hg8 (q := YA Y 4 (20 * i1 + (ix a2))) rfl dX2_copyFrom_37 ?_
      obtain ⟨M10, hq9, hf⟩ := bd_o hf
      refine hs_cv (hs_runV C0 hH hS (n := 1) (As := [.ref (YA Y 4 (20 * i1 + (ix a2)))]) (rest := []) (c_X1_copyFrom M (20 * i0 + (ix a2)) (20 * i1 + (ix a2)) (show 20 * i0 + (ix a2) < 220 from by omega) (show 20 * i1 + (ix a2) < 220 from by omega) hq9) ⟨⟨zt_535, zt_536, zt_537, zt_5, zt_538⟩, rfl, by decide, by decide, by decide +kernel⟩ ⟨rfl, rfl, Nat.le_of_ble_eq_true rfl, Nat.le_of_ble_eq_true rfl⟩ (hs_recv hK hH 4 (20 * i0 + (ix a2)) (show 20 * i0 + (ix a2) < 220 from by omega) 5 rfl rfl) rfl rfl hl.1 (Nat.le_of_ble_eq_true rfl) ⟨Nat.le_of_ble_eq_true rfl, Nat.le_of_ble_eq_true rfl⟩ dX2_copyFrom_38) hS (fun H locs hH hS => ?_)
      refine lv_iinc (v := a2 + (1 : Int32)) (lv' := [(2, .int (a2 + (1 : Int32))), (0, .ref (YA Y 2 i0)), (1, .ref (YA Y 2 i1))]) hx hb dX2_copyFrom_41 hl (k := 2) rfl rfl (by decide) rfl (fun ls hl => ?_)
      refine lv_goto (tgt := 18) hx hb dX2_copyFrom_44 (by decide) ?_
      exact ih M10 i0 i1 (a2 + (1 : Int32)) (show i0 < 11 from by omega) (show i1 < 11 from by omega) hf _ _ _ hH hS (lv_sub hl [1, 2, 0] rfl)
def f_X2_copyFrom (M : Mem) (i0 : Nat) (i1 : Nat) : Option Mem := nm (mu M 2 i0 1 (M 2 i1 1)) fun M13 => nm (mu M13 2 i0 2 (M13 2 i1 2)) fun M14 => f_X2_copyFrom_18 FU M14 i0 i1 (0 : Int32)
set_option maxHeartbeats 4000000 in
set_option maxRecDepth 100000 in
theorem c_X2_copyFrom {Y : LY} {l : Launch} (M : Mem) (i0 : Nat) (i1 : Nat) (hi0 : i0 < 11) (hi1 : i1 < 11) {MZ : Mem} (hf : f_X2_copyFrom M i0 i1 = some MZ) : Met l yX2_copyFrom (WS yX2_copyFrom cX2_copyFrom 3 (Option.none : Option Jvm.ClassFile.FieldType)) { frames := 1, cells := 0, slots := 0, locals := 21 } (PcM Y M [.ref (YA Y 2 i0), .ref (YA Y 2 i1)]) (Qv Y MZ) 0 0 (AZ Y) := by
  refine met_mk (lv := [(0, .ref (YA Y 2 i0)), (1, .ref (YA Y 2 i1))]) [.ref (YA Y 2 i0), .ref (YA Y 2 i1)] (by decide) rfl rfl (Nat.le_of_ble_eq_true rfl) (fun p e s m below meth c C0 hH ls hl => ?_)
  have hS : va_S (AZ Y) s.heap s.heap [] := va_S.rf
  obtain ⟨hx, hb, hr, hml, hown, hA, hlocks, hK, hZ⟩ := id C0
  unfold f_X2_copyFrom at hf
  refine lv_aload_n hx hb dX2_copyFrom_0 rfl (lv_at hl 0 rfl) ?_
  refine lv_aload_n hx hb dX2_copyFrom_1 rfl (lv_at hl 1 rfl) ?_
  refine hs_get hx hb (T := TX2) hA inAX2 hown hK hH 2 i1 (show i1 < 11 from by omega) 6 rfl rfl 1 (by decide) (hA _ zt_114) rfl rfl dX2_copyFrom_2 ?_
  refine hs_put hx hb (T := TX2) hA inAX2 tyX2 tyX2_ok nmX2 hown hK hH hS 2 i0 (show i0 < 11 from by omega) 6 rfl rfl 1 (by decide) (hA _ zt_114) rfl rfl (by decide +kernel) (Nat.le_of_ble_eq_true rfl) rfl dX2_copyFrom_5 (fun H locs hH hS => ?_)
  obtain ⟨M13, eM13, hf⟩ := nm_o hf
  rw [← eM13] at hH
  refine lv_aload_n hx hb dX2_copyFrom_8 rfl (lv_at hl 0 rfl) ?_
  refine lv_aload_n hx hb dX2_copyFrom_9 rfl (lv_at hl 1 rfl) ?_
  refine hs_get hx hb (T := TX2) hA inAX2 hown hK hH 2 i1 (show i1 < 11 from by omega) 6 rfl rfl 2 (by decide) (hA _ zt_118) rfl rfl dX2_copyFrom_10 ?_
  refine hs_put hx hb (T := TX2) hA inAX2 tyX2 tyX2_ok nmX2 hown hK hH hS 2 i0 (show i0 < 11 from by omega) 6 rfl rfl 2 (by decide) (hA _ zt_118) rfl rfl (by decide +kernel) (Nat.le_of_ble_eq_true rfl) rfl dX2_copyFrom_13 (fun H locs hH hS => ?_)
  obtain ⟨M14, eM14, hf⟩ := nm_o hf
  rw [← eM14] at hH
  refine lv_iconst (v := (0 : Int32)) hx hb dX2_copyFrom_16 (by decide) ?_
  refine lv_istore_n (lv' := [(2, .int (0 : Int32)), (0, .ref (YA Y 2 i0)), (1, .ref (YA Y 2 i1))]) hx hb dX2_copyFrom_17 rfl hl (by decide) rfl (fun ls hl => ?_)
  exact w_X2_copyFrom_18 C0 FU M14 i0 i1 (0 : Int32) (show i0 < 11 from by omega) (show i1 < 11 from by omega) hf _ _ _ hH hS (lv_sub hl [1, 2, 0] rfl)
def f_X3_copyFrom (M : Mem) (i0 : Nat) (i1 : Nat) : Option Mem := nm (mu M 6 i0 0 (M 6 i1 0)) fun M8 => nm (mu M8 6 i0 1 (M8 6 i1 1)) fun M9 => nm (mu M9 6 i0 2 (M9 6 i1 2)) fun M10 => nm (mu M10 6 i0 3 (M10 6 i1 3)) fun M11 => nm (mu M11 6 i0 4 (M11 6 i1 4)) fun M12 => nm (mu M12 6 i0 5 (M12 6 i1 5)) fun M13 => nm (mu M13 6 i0 6 (M13 6 i1 6)) fun M14 => some M14
set_option maxHeartbeats 4000000 in
set_option maxRecDepth 100000 in
theorem c_X3_copyFrom {Y : LY} {l : Launch} (M : Mem) (i0 : Nat) (i1 : Nat) (hi0 : i0 < 132) (hi1 : i1 < 132) {MZ : Mem} (hf : f_X3_copyFrom M i0 i1 = some MZ) : Met l yX3_copyFrom (WS yX3_copyFrom cX3_copyFrom 2 (Option.none : Option Jvm.ClassFile.FieldType)) { frames := 0, cells := 0, slots := 0, locals := 0 } (PcM Y M [.ref (YA Y 6 i0), .ref (YA Y 6 i1)]) (Qv Y MZ) 0 0 (AZ Y) := by
  refine met_mk (lv := [(0, .ref (YA Y 6 i0)), (1, .ref (YA Y 6 i1))]) [.ref (YA Y 6 i0), .ref (YA Y 6 i1)] (by decide) rfl rfl (Nat.le_of_ble_eq_true rfl) (fun p e s m below meth c C0 hH ls hl => ?_)
  have hS : va_S (AZ Y) s.heap s.heap [] := va_S.rf
  obtain ⟨hx, hb, hr, hml, hown, hA, hlocks, hK, hZ⟩ := id C0
  unfold f_X3_copyFrom at hf
  refine lv_aload_n hx hb dX3_copyFrom_0 rfl (lv_at hl 0 rfl) ?_
  refine lv_aload_n hx hb dX3_copyFrom_1 rfl (lv_at hl 1 rfl) ?_
  refine hs_get hx hb (T := TX3) hA inAX3 hown hK hH 6 i1 (show i1 < 132 from by omega) 7 rfl rfl 0 (by decide) (hA _ zt_136) rfl rfl dX3_copyFrom_2 ?_
  refine hs_put hx hb (T := TX3) hA inAX3 tyX3 tyX3_ok nmX3 hown hK hH hS 6 i0 (show i0 < 132 from by omega) 7 rfl rfl 0 (by decide) (hA _ zt_136) rfl rfl (by decide +kernel) (Nat.le_of_ble_eq_true rfl) rfl dX3_copyFrom_5 (fun H locs hH hS => ?_)
  obtain ⟨M8, eM8, hf⟩ := nm_o hf
  rw [← eM8] at hH
  refine lv_aload_n hx hb dX3_copyFrom_8 rfl (lv_at hl 0 rfl) ?_
  refine lv_aload_n hx hb dX3_copyFrom_9 rfl (lv_at hl 1 rfl) ?_
  refine hs_get hx hb (T := TX3) hA inAX3 hown hK hH 6 i1 (show i1 < 132 from by omega) 7 rfl rfl 1 (by decide) (hA _ zt_139) rfl rfl dX3_copyFrom_10 ?_
  refine hs_put hx hb (T := TX3) hA inAX3 tyX3 tyX3_ok nmX3 hown hK hH hS 6 i0 (show i0 < 132 from by omega) 7 rfl rfl 1 (by decide) (hA _ zt_139) rfl rfl (by decide +kernel) (Nat.le_of_ble_eq_true rfl) rfl dX3_copyFrom_13 (fun H locs hH hS => ?_)
  obtain ⟨M9, eM9, hf⟩ := nm_o hf
  rw [← eM9] at hH
  refine lv_aload_n hx hb dX3_copyFrom_16 rfl (lv_at hl 0 rfl) ?_
  refine lv_aload_n hx hb dX3_copyFrom_17 rfl (lv_at hl 1 rfl) ?_
  refine hs_get hx hb (T := TX3) hA inAX3 hown hK hH 6 i1 (show i1 < 132 from by omega) 7 rfl rfl 2 (by decide) (hA _ zt_142) rfl rfl dX3_copyFrom_18 ?_
  refine hs_put hx hb (T := TX3) hA inAX3 tyX3 tyX3_ok nmX3 hown hK hH hS 6 i0 (show i0 < 132 from by omega) 7 rfl rfl 2 (by decide) (hA _ zt_142) rfl rfl (by decide +kernel) (Nat.le_of_ble_eq_true rfl) rfl dX3_copyFrom_21 (fun H locs hH hS => ?_)
  obtain ⟨M10, eM10, hf⟩ := nm_o hf
  rw [← eM10] at hH
  refine lv_aload_n hx hb dX3_copyFrom_24 rfl (lv_at hl 0 rfl) ?_
  refine lv_aload_n hx hb dX3_copyFrom_25 rfl (lv_at hl 1 rfl) ?_
  refine hs_get hx hb (T := TX3) hA inAX3 hown hK hH 6 i1 (show i1 < 132 from by omega) 7 rfl rfl 3 (by decide) (hA _ zt_145) rfl rfl dX3_copyFrom_26 ?_
  refine hs_put hx hb (T := TX3) hA inAX3 tyX3 tyX3_ok nmX3 hown hK hH hS 6 i0 (show i0 < 132 from by omega) 7 rfl rfl 3 (by decide) (hA _ zt_145) rfl rfl (by decide +kernel) (Nat.le_of_ble_eq_true rfl) rfl dX3_copyFrom_29 (fun H locs hH hS => ?_)
  obtain ⟨M11, eM11, hf⟩ := nm_o hf
  rw [← eM11] at hH
  refine lv_aload_n hx hb dX3_copyFrom_32 rfl (lv_at hl 0 rfl) ?_
  refine lv_aload_n hx hb dX3_copyFrom_33 rfl (lv_at hl 1 rfl) ?_
  refine hs_get hx hb (T := TX3) hA inAX3 hown hK hH 6 i1 (show i1 < 132 from by omega) 7 rfl rfl 4 (by decide) (hA _ zt_148) rfl rfl dX3_copyFrom_34 ?_
  refine hs_put hx hb (T := TX3) hA inAX3 tyX3 tyX3_ok nmX3 hown hK hH hS 6 i0 (show i0 < 132 from by omega) 7 rfl rfl 4 (by decide) (hA _ zt_148) rfl rfl (by decide +kernel) (Nat.le_of_ble_eq_true rfl) rfl dX3_copyFrom_37 (fun H locs hH hS => ?_)
  obtain ⟨M12, eM12, hf⟩ := nm_o hf
  rw [← eM12] at hH
  refine lv_aload_n hx hb dX3_copyFrom_40 rfl (lv_at hl 0 rfl) ?_
  refine lv_aload_n hx hb dX3_copyFrom_41 rfl (lv_at hl 1 rfl) ?_
  refine hs_get hx hb (T := TX3) hA inAX3 hown hK hH 6 i1 (show i1 < 132 from by omega) 7 rfl rfl 5 (by decide) (hA _ zt_151) rfl rfl dX3_copyFrom_42 ?_
  refine hs_put hx hb (T := TX3) hA inAX3 tyX3 tyX3_ok nmX3 hown hK hH hS 6 i0 (show i0 < 132 from by omega) 7 rfl rfl 5 (by decide) (hA _ zt_151) rfl rfl (by decide +kernel) (Nat.le_of_ble_eq_true rfl) rfl dX3_copyFrom_45 (fun H locs hH hS => ?_)
  obtain ⟨M13, eM13, hf⟩ := nm_o hf
  rw [← eM13] at hH
  refine lv_aload_n hx hb dX3_copyFrom_48 rfl (lv_at hl 0 rfl) ?_
  refine lv_aload_n hx hb dX3_copyFrom_49 rfl (lv_at hl 1 rfl) ?_
  refine hs_get hx hb (T := TX3) hA inAX3 hown hK hH 6 i1 (show i1 < 132 from by omega) 7 rfl rfl 6 (by decide) (hA _ zt_154) rfl rfl dX3_copyFrom_50 ?_
  refine hs_put hx hb (T := TX3) hA inAX3 tyX3 tyX3_ok nmX3 hown hK hH hS 6 i0 (show i0 < 132 from by omega) 7 rfl rfl 6 (by decide) (hA _ zt_154) rfl rfl (by decide +kernel) (Nat.le_of_ble_eq_true rfl) rfl dX3_copyFrom_53 (fun H locs hH hS => ?_)
  obtain ⟨M14, eM14, hf⟩ := nm_o hf
  rw [← eM14] at hH
  cases hf
  exact hs_vret C0 hH hS (by decide) (by decide) dX3_copyFrom_56
def f_X5_copyFrom_21 : Nat → Mem → Nat → Nat → Int32 → Option Mem
  | 0, _, _, _, _ => none
  | n + 1, M, i0, i1, a2 => (if (M 1 i0 3) ≤ a2 then nm (mu M 1 i0 4 (M 1 i1 4)) fun M17 => nm (mu M17 1 i0 5 (M17 1 i1 5)) fun M18 => nm (mu M18 1 i0 6 (M18 1 i1 6)) fun M19 => nm (mu M19 1 i0 7 (M19 1 i1 7)) fun M20 => nm (mu M20 1 i0 8 (M20 1 i1 8)) fun M21 => some M21 else if vin a2 12 then (if ix (M 5 i0 (ix a2)) < 132 then (if ix (M 5 i1 (ix a2)) < 132 then (bd (f_X3_copyFrom M (ix (M 5 i0 (ix a2))) (ix (M 5 i1 (ix a2)))) fun M26 => f_X5_copyFrom_21 n M26 i0 i1 (a2 + (1 : Int32))) else none) else none) else none)
set_option maxHeartbeats 4000000 in
set_option maxRecDepth 100000 in
theorem w_X5_copyFrom_21 {Y : LY} {p : Program} {l : Launch} {e : Env} {s : State} {m : MethodId} {args : Array Value} {below : List Frame} {meth : Method} {c : Code} (C0 : BE Y p s m args meth c cX5_copyFrom 3 (Option.none : Option Jvm.ClassFile.FieldType) RX5) {MZ : Mem} : ∀ (n : Nat) (M : Mem) (i0 : Nat) (i1 : Nat) (a2 : Int32), i0 < 11 → i1 < 11 → f_X5_copyFrom_21 n M i0 i1 a2 = some MZ → ∀ (H : Heap) (locs : List Loc) (ls : Array Slot), HS Y M H → va_S (AZ Y) s.heap H locs → lv_has ls 3 [(0, .ref (YA Y 1 i0)), (1, .ref (YA Y 1 i1)), (2, .int a2)] → W p l e { frames := 2, cells := 0, slots := 0, locals := 43 } s m args below meth c H locs 0 0 (MQ below (Qv Y MZ) args s 0 0 (AZ Y)) (F0 m 21 ls []) := by
  obtain ⟨hx, hb, hr, hml, hown, hA, hlocks, hK, hZ⟩ := id C0
  intro n
  induction n with
  | zero =>
    intro M i0 i1 a2 hi0 hi1 hf
    cases hf
  | succ n ih =>
    intro M i0 i1 a2 hi0 hi1 hf H locs ls hH hS hl
    rw [f_X5_copyFrom_21] at hf
    refine lv_iload_n hx hb dX5_copyFrom_21 rfl (lv_at hl 2 rfl) ?_
    refine lv_aload_n hx hb dX5_copyFrom_22 rfl (lv_at hl 0 rfl) ?_
    refine hs_get hx hb (T := TX5) hA inAX5 hown hK hH 1 i0 (show i0 < 11 from by omega) 9 rfl rfl 3 (by decide) (hA _ zt_177) rfl rfl dX5_copyFrom_23 ?_
    refine lv_icmp_ge (tgt := 50) hx hb dX5_copyFrom_26 (by decide) (fun hc28 => ?_) (fun hc28 => ?_)
    · have hf := if_t hf hc28
      refine lv_aload_n hx hb dX5_copyFrom_50 rfl (lv_at hl 0 rfl) ?_
      refine lv_aload_n hx hb dX5_copyFrom_51 rfl (lv_at hl 1 rfl) ?_
      refine hs_get hx hb (T := TX5) hA inAX5 hown hK hH 1 i1 (show i1 < 11 from by omega) 9 rfl rfl 4 (by decide) (hA _ zt_179) rfl rfl dX5_copyFrom_52 ?_
      refine hs_put hx hb (T := TX5) hA inAX5 tyX5 tyX5_ok nmX5 hown hK hH hS 1 i0 (show i0 < 11 from by omega) 9 rfl rfl 4 (by decide) (hA _ zt_179) rfl rfl (by decide +kernel) (Nat.le_of_ble_eq_true rfl) rfl dX5_copyFrom_55 (fun H locs hH hS => ?_)
      obtain ⟨M17, eM17, hf⟩ := nm_o hf
      rw [← eM17] at hH
      refine lv_aload_n hx hb dX5_copyFrom_58 rfl (lv_at hl 0 rfl) ?_
      refine lv_aload_n hx hb dX5_copyFrom_59 rfl (lv_at hl 1 rfl) ?_
      refine hs_get hx hb (T := TX5) hA inAX5 hown hK hH 1 i1 (show i1 < 11 from by omega) 9 rfl rfl 5 (by decide) (hA _ zt_181) rfl rfl dX5_copyFrom_60 ?_
      refine hs_put hx hb (T := TX5) hA inAX5 tyX5 tyX5_ok nmX5 hown hK hH hS 1 i0 (show i0 < 11 from by omega) 9 rfl rfl 5 (by decide) (hA _ zt_181) rfl rfl (by decide +kernel) (Nat.le_of_ble_eq_true rfl) rfl dX5_copyFrom_63 (fun H locs hH hS => ?_)
      obtain ⟨M18, eM18, hf⟩ := nm_o hf
      rw [← eM18] at hH
      refine lv_aload_n hx hb dX5_copyFrom_66 rfl (lv_at hl 0 rfl) ?_
      refine lv_aload_n hx hb dX5_copyFrom_67 rfl (lv_at hl 1 rfl) ?_
      refine hs_get hx hb (T := TX5) hA inAX5 hown hK hH 1 i1 (show i1 < 11 from by omega) 9 rfl rfl 6 (by decide) (hA _ zt_183) rfl rfl dX5_copyFrom_68 ?_
      refine hs_put hx hb (T := TX5) hA inAX5 tyX5 tyX5_ok nmX5 hown hK hH hS 1 i0 (show i0 < 11 from by omega) 9 rfl rfl 6 (by decide) (hA _ zt_183) rfl rfl (by decide +kernel) (Nat.le_of_ble_eq_true rfl) rfl dX5_copyFrom_71 (fun H locs hH hS => ?_)
      obtain ⟨M19, eM19, hf⟩ := nm_o hf
      rw [← eM19] at hH
      refine lv_aload_n hx hb dX5_copyFrom_74 rfl (lv_at hl 0 rfl) ?_
      refine lv_aload_n hx hb dX5_copyFrom_75 rfl (lv_at hl 1 rfl) ?_
      refine hs_get hx hb (T := TX5) hA inAX5 hown hK hH 1 i1 (show i1 < 11 from by omega) 9 rfl rfl 7 (by decide) (hA _ zt_185) rfl rfl dX5_copyFrom_76 ?_
      refine hs_put hx hb (T := TX5) hA inAX5 tyX5 tyX5_ok nmX5 hown hK hH hS 1 i0 (show i0 < 11 from by omega) 9 rfl rfl 7 (by decide) (hA _ zt_185) rfl rfl (by decide +kernel) (Nat.le_of_ble_eq_true rfl) rfl dX5_copyFrom_79 (fun H locs hH hS => ?_)
      obtain ⟨M20, eM20, hf⟩ := nm_o hf
      rw [← eM20] at hH
      refine lv_aload_n hx hb dX5_copyFrom_82 rfl (lv_at hl 0 rfl) ?_
      refine lv_aload_n hx hb dX5_copyFrom_83 rfl (lv_at hl 1 rfl) ?_
      refine hs_get hx hb (T := TX5) hA inAX5 hown hK hH 1 i1 (show i1 < 11 from by omega) 9 rfl rfl 8 (by decide) (hA _ zt_187) rfl rfl dX5_copyFrom_84 ?_
      refine hs_put hx hb (T := TX5) hA inAX5 tyX5 tyX5_ok nmX5 hown hK hH hS 1 i0 (show i0 < 11 from by omega) 9 rfl rfl 8 (by decide) (hA _ zt_187) rfl rfl (by decide +kernel) (Nat.le_of_ble_eq_true rfl) rfl dX5_copyFrom_87 (fun H locs hH hS => ?_)
      obtain ⟨M21, eM21, hf⟩ := nm_o hf
      rw [← eM21] at hH
      cases hf
      exact hs_vret C0 hH hS (by decide) (by decide) dX5_copyFrom_90
    · have hf := if_f hf hc28
      refine lv_aload_n hx hb dX5_copyFrom_29 rfl (lv_at hl 0 rfl) ?_
      refine hs_get hx hb (T := TX5) hA inAX5 hown hK hH 1 i0 (show i0 < 11 from by omega) 9 rfl rfl 2 (by decide) (hA _ zt_175) rfl rfl dX5_copyFrom_30 ?_
      refine lv_iload_n hx hb dX5_copyFrom_33 rfl (lv_at hl 2 rfl) ?_
      obtain ⟨hg22, hf⟩ := gd_o hf
      have bhg22 := vin_lt hg22
      obtain ⟨hg23, hf⟩ := gd_o hf
      refine hs_aald hx hb hK hH 5 i0 (show i0 < 11 from by omega) 4 rfl rfl hg22 (q := YA Y 6 (ix (M 5 i0 (ix a2)))) rfl dX5_copyFrom_34 ?_
      refine lv_aload_n hx hb dX5_copyFrom_35 rfl (lv_at hl 1 rfl) ?_
      refine hs_get hx hb (T := TX5) hA inAX5 hown hK hH 1 i1 (show i1 < 11 from by omega) 9 rfl rfl 2 (by decide) (hA _ zt_175) rfl rfl dX5_copyFrom_36 ?_
      refine lv_iload_n hx hb dX5_copyFrom_39 rfl (lv_at hl 2 rfl) ?_
      obtain ⟨hg24, hf⟩ := gd_o hf
      refine hs_aald hx hb hK hH 5 i1 (show i1 < 11 from by omega) 4 rfl rfl hg22 (q := YA Y 6 (ix (M 5 i1 (ix a2)))) rfl dX5_copyFrom_40 ?_
      obtain ⟨M26, hq25, hf⟩ := bd_o hf
      refine hs_cv (hs_runV C0 hH hS (n := 1) (As := [.ref (YA Y 6 (ix (M 5 i1 (ix a2))))]) (rest := []) (c_X3_copyFrom M (ix (M 5 i0 (ix a2))) (ix (M 5 i1 (ix a2))) (show ix (M 5 i0 (ix a2)) < 132 from by omega) (show ix (M 5 i1 (ix a2)) < 132 from by omega) hq25) ⟨⟨zt_539, zt_540, zt_541, zt_6, zt_542⟩, rfl, by decide, by decide, by decide +kernel⟩ ⟨rfl, rfl, Nat.le_of_ble_eq_true rfl, Nat.le_of_ble_eq_true rfl⟩ (hs_recv hK hH 6 (ix (M 5 i0 (ix a2))) (show ix (M 5 i0 (ix a2)) < 132 from by omega) 7 rfl rfl) rfl rfl hl.1 (Nat.le_of_ble_eq_true rfl) ⟨Nat.le_of_ble_eq_true rfl, Nat.le_of_ble_eq_true rfl⟩ dX5_copyFrom_41) hS (fun H locs hH hS => ?_)
      refine lv_iinc (v := a2 + (1 : Int32)) (lv' := [(2, .int (a2 + (1 : Int32))), (0, .ref (YA Y 1 i0)), (1, .ref (YA Y 1 i1))]) hx hb dX5_copyFrom_44 hl (k := 2) rfl rfl (by decide) rfl (fun ls hl => ?_)
      refine lv_goto (tgt := 21) hx hb dX5_copyFrom_47 (by decide) ?_
      exact ih M26 i0 i1 (a2 + (1 : Int32)) (show i0 < 11 from by omega) (show i1 < 11 from by omega) hf _ _ _ hH hS (lv_sub hl [1, 2, 0] rfl)
def f_X5_copyFrom (M : Mem) (i0 : Nat) (i1 : Nat) : Option Mem := bd (f_X2_copyFrom M i0 i1) fun M30 => nm (mu M30 1 i0 3 (M30 1 i1 3)) fun M32 => f_X5_copyFrom_21 FU M32 i0 i1 (0 : Int32)
set_option maxHeartbeats 4000000 in
set_option maxRecDepth 100000 in
theorem c_X5_copyFrom {Y : LY} {l : Launch} (M : Mem) (i0 : Nat) (i1 : Nat) (hi0 : i0 < 11) (hi1 : i1 < 11) {MZ : Mem} (hf : f_X5_copyFrom M i0 i1 = some MZ) : Met l yX5_copyFrom (WS yX5_copyFrom cX5_copyFrom 3 (Option.none : Option Jvm.ClassFile.FieldType)) { frames := 2, cells := 0, slots := 0, locals := 43 } (PcM Y M [.ref (YA Y 1 i0), .ref (YA Y 1 i1)]) (Qv Y MZ) 0 0 (AZ Y) := by
  refine met_mk (lv := [(0, .ref (YA Y 1 i0)), (1, .ref (YA Y 1 i1))]) [.ref (YA Y 1 i0), .ref (YA Y 1 i1)] (by decide) rfl rfl (Nat.le_of_ble_eq_true rfl) (fun p e s m below meth c C0 hH ls hl => ?_)
  have hS : va_S (AZ Y) s.heap s.heap [] := va_S.rf
  obtain ⟨hx, hb, hr, hml, hown, hA, hlocks, hK, hZ⟩ := id C0
  unfold f_X5_copyFrom at hf
  refine lv_aload_n hx hb dX5_copyFrom_0 rfl (lv_at hl 0 rfl) ?_
  refine hs_get hx hb (T := TX5) hA inAX5 hown hK hH 1 i0 (show i0 < 11 from by omega) 9 rfl rfl 1 (by decide) (hA _ zt_173) rfl rfl dX5_copyFrom_1 ?_
  refine lv_aload_n hx hb dX5_copyFrom_4 rfl (lv_at hl 1 rfl) ?_
  refine hs_get hx hb (T := TX5) hA inAX5 hown hK hH 1 i1 (show i1 < 11 from by omega) 9 rfl rfl 1 (by decide) (hA _ zt_173) rfl rfl dX5_copyFrom_5 ?_
  obtain ⟨M30, hq29, hf⟩ := bd_o hf
  refine hs_cv (hs_runV C0 hH hS (n := 1) (As := [.ref (YA Y 2 i1)]) (rest := []) (c_X2_copyFrom M i0 i1 (show i0 < 11 from by omega) (show i1 < 11 from by omega) hq29) ⟨⟨zt_531, zt_532, zt_533, zt_4, zt_534⟩, rfl, by decide, by decide, by decide +kernel⟩ ⟨rfl, rfl, Nat.le_of_ble_eq_true rfl, Nat.le_of_ble_eq_true rfl⟩ (hs_recv hK hH 2 i0 (show i0 < 11 from by omega) 6 rfl rfl) rfl rfl hl.1 (Nat.le_of_ble_eq_true rfl) ⟨Nat.le_of_ble_eq_true rfl, Nat.le_of_ble_eq_true rfl⟩ dX5_copyFrom_8) hS (fun H locs hH hS => ?_)
  refine lv_aload_n hx hb dX5_copyFrom_11 rfl (lv_at hl 0 rfl) ?_
  refine lv_aload_n hx hb dX5_copyFrom_12 rfl (lv_at hl 1 rfl) ?_
  refine hs_get hx hb (T := TX5) hA inAX5 hown hK hH 1 i1 (show i1 < 11 from by omega) 9 rfl rfl 3 (by decide) (hA _ zt_177) rfl rfl dX5_copyFrom_13 ?_
  refine hs_put hx hb (T := TX5) hA inAX5 tyX5 tyX5_ok nmX5 hown hK hH hS 1 i0 (show i0 < 11 from by omega) 9 rfl rfl 3 (by decide) (hA _ zt_177) rfl rfl (by decide +kernel) (Nat.le_of_ble_eq_true rfl) rfl dX5_copyFrom_16 (fun H locs hH hS => ?_)
  obtain ⟨M32, eM32, hf⟩ := nm_o hf
  rw [← eM32] at hH
  refine lv_iconst (v := (0 : Int32)) hx hb dX5_copyFrom_19 (by decide) ?_
  refine lv_istore_n (lv' := [(2, .int (0 : Int32)), (0, .ref (YA Y 1 i0)), (1, .ref (YA Y 1 i1))]) hx hb dX5_copyFrom_20 rfl hl (by decide) rfl (fun ls hl => ?_)
  exact w_X5_copyFrom_21 C0 FU M32 i0 i1 (0 : Int32) (show i0 < 11 from by omega) (show i1 < 11 from by omega) hf _ _ _ hH hS (lv_sub hl [1, 2, 0] rfl)
def f_X0_keep (M : Mem) (i1 : Nat) : Option Mem := if vin (((M 11 0 1) + (M 11 0 2)) - ((M 11 0 1) + (M 11 0 2)) / (8 : Int32) * (8 : Int32)) 8 then (bd (f_X5_copyFrom M (3 + (ix (((M 11 0 1) + (M 11 0 2)) - ((M 11 0 1) + (M 11 0 2)) / (8 : Int32) * (8 : Int32)))) i1) fun M10 => (if (8 : Int32) ≤ (M10 11 0 2) then nm (mu M10 11 0 1 (((M10 11 0 1) + (1 : Int32)) - ((M10 11 0 1) + (1 : Int32)) / (8 : Int32) * (8 : Int32))) fun M12 => some M12 else nm (mu M10 11 0 2 ((M10 11 0 2) + (1 : Int32))) fun M13 => some M13)) else none
set_option maxHeartbeats 4000000 in
set_option maxRecDepth 100000 in
theorem c_X0_keep {Y : LY} {l : Launch} (M : Mem) (i1 : Nat) (hi1 : i1 < 11) {MZ : Mem} (hf : f_X0_keep M i1 = some MZ) : Met l yX0_keep (WS yX0_keep cX0_keep 2 (Option.none : Option Jvm.ClassFile.FieldType)) { frames := 3, cells := 0, slots := 0, locals := 65 } (PcM Y M [.ref (YA Y 11 0), .ref (YA Y 1 i1)]) (Qv Y MZ) 0 0 (AZ Y) := by
  refine met_mk (lv := [(0, .ref (YA Y 11 0)), (1, .ref (YA Y 1 i1))]) [.ref (YA Y 11 0), .ref (YA Y 1 i1)] (by decide) rfl rfl (Nat.le_of_ble_eq_true rfl) (fun p e s m below meth c C0 hH ls hl => ?_)
  have hS : va_S (AZ Y) s.heap s.heap [] := va_S.rf
  obtain ⟨hx, hb, hr, hml, hown, hA, hlocks, hK, hZ⟩ := id C0
  unfold f_X0_keep at hf
  refine lv_aload_n hx hb dX0_keep_0 rfl (lv_at hl 0 rfl) ?_
  refine hs_get hx hb (T := TX0) hA inAX0 hown hK hH 11 0 (by decide) 4 rfl rfl 0 (by decide) (hA _ zt_217) rfl rfl dX0_keep_1 ?_
  refine lv_aload_n hx hb dX0_keep_4 rfl (lv_at hl 0 rfl) ?_
  refine hs_get hx hb (T := TX0) hA inAX0 hown hK hH 11 0 (by decide) 4 rfl rfl 1 (by decide) (hA _ zt_218) rfl rfl dX0_keep_5 ?_
  refine lv_aload_n hx hb dX0_keep_8 rfl (lv_at hl 0 rfl) ?_
  refine hs_get hx hb (T := TX0) hA inAX0 hown hK hH 11 0 (by decide) 4 rfl rfl 2 (by decide) (hA _ zt_219) rfl rfl dX0_keep_9 ?_
  refine lv_iadd hx hb dX0_keep_12 ?_
  refine lv_bipush (v := (8 : Int32)) hx hb dX0_keep_13 (by decide) ?_
  refine lv_irem hx hb dX0_keep_15 (by decide) ?_
  obtain ⟨hg8, hf⟩ := gd_o hf
  have bhg8 := vin_lt hg8
  refine hs_aald hx hb hK hH 12 0 (by decide) 5 rfl rfl hg8 (q := YA Y 1 (3 + (ix (((M 11 0 1) + (M 11 0 2)) - ((M 11 0 1) + (M 11 0 2)) / (8 : Int32) * (8 : Int32))))) rfl dX0_keep_16 ?_
  refine lv_aload_n hx hb dX0_keep_17 rfl (lv_at hl 1 rfl) ?_
  obtain ⟨M10, hq9, hf⟩ := bd_o hf
  refine hs_cv (hs_runV C0 hH hS (n := 1) (As := [.ref (YA Y 1 i1)]) (rest := []) (c_X5_copyFrom M (3 + (ix (((M 11 0 1) + (M 11 0 2)) - ((M 11 0 1) + (M 11 0 2)) / (8 : Int32) * (8 : Int32)))) i1 (show 3 + (ix (((M 11 0 1) + (M 11 0 2)) - ((M 11 0 1) + (M 11 0 2)) / (8 : Int32) * (8 : Int32))) < 11 from by omega) (show i1 < 11 from by omega) hq9) ⟨⟨zt_527, zt_528, zt_529, zt_3, zt_530⟩, rfl, by decide, by decide, by decide +kernel⟩ ⟨rfl, rfl, Nat.le_of_ble_eq_true rfl, Nat.le_of_ble_eq_true rfl⟩ (hs_recv hK hH 1 (3 + (ix (((M 11 0 1) + (M 11 0 2)) - ((M 11 0 1) + (M 11 0 2)) / (8 : Int32) * (8 : Int32)))) (show 3 + (ix (((M 11 0 1) + (M 11 0 2)) - ((M 11 0 1) + (M 11 0 2)) / (8 : Int32) * (8 : Int32))) < 11 from by omega) 9 rfl rfl) rfl rfl hl.1 (Nat.le_of_ble_eq_true rfl) ⟨Nat.le_of_ble_eq_true rfl, Nat.le_of_ble_eq_true rfl⟩ dX0_keep_18) hS (fun H locs hH hS => ?_)
  refine lv_aload_n hx hb dX0_keep_21 rfl (lv_at hl 0 rfl) ?_
  refine hs_get hx hb (T := TX0) hA inAX0 hown hK hH 11 0 (by decide) 4 rfl rfl 2 (by decide) (hA _ zt_219) rfl rfl dX0_keep_22 ?_
  refine lv_bipush (v := (8 : Int32)) hx hb dX0_keep_25 (by decide) ?_
  refine lv_icmp_ge (tgt := 43) hx hb dX0_keep_27 (by decide) (fun hc14 => ?_) (fun hc14 => ?_)
  · have hf := if_t hf hc14
    refine lv_aload_n hx hb dX0_keep_43 rfl (lv_at hl 0 rfl) ?_
    refine lv_aload_n hx hb dX0_keep_44 rfl (lv_at hl 0 rfl) ?_
    refine hs_get hx hb (T := TX0) hA inAX0 hown hK hH 11 0 (by decide) 4 rfl rfl 1 (by decide) (hA _ zt_218) rfl rfl dX0_keep_45 ?_
    refine lv_iconst (v := (1 : Int32)) hx hb dX0_keep_48 (by decide) ?_
    refine lv_iadd hx hb dX0_keep_49 ?_
    refine lv_bipush (v := (8 : Int32)) hx hb dX0_keep_50 (by decide) ?_
    refine lv_irem hx hb dX0_keep_52 (by decide) ?_
    refine hs_put hx hb (T := TX0) hA inAX0 tyX0 tyX0_ok nmX0 hown hK hH hS 11 0 (by decide) 4 rfl rfl 1 (by decide) (hA _ zt_218) rfl rfl (by decide +kernel) (Nat.le_of_ble_eq_true rfl) rfl dX0_keep_53 (fun H locs hH hS => ?_)
    obtain ⟨M12, eM12, hf⟩ := nm_o hf
    rw [← eM12] at hH
    cases hf
    exact hs_vret C0 hH hS (by decide) (by decide) dX0_keep_56
  · have hf := if_f hf hc14
    refine lv_aload_n hx hb dX0_keep_30 rfl (lv_at hl 0 rfl) ?_
    refine lv_dup hx hb dX0_keep_31 rfl ?_
    refine hs_get hx hb (T := TX0) hA inAX0 hown hK hH 11 0 (by decide) 4 rfl rfl 2 (by decide) (hA _ zt_219) rfl rfl dX0_keep_32 ?_
    refine lv_iconst (v := (1 : Int32)) hx hb dX0_keep_35 (by decide) ?_
    refine lv_iadd hx hb dX0_keep_36 ?_
    refine hs_put hx hb (T := TX0) hA inAX0 tyX0 tyX0_ok nmX0 hown hK hH hS 11 0 (by decide) 4 rfl rfl 2 (by decide) (hA _ zt_219) rfl rfl (by decide +kernel) (Nat.le_of_ble_eq_true rfl) rfl dX0_keep_37 (fun H locs hH hS => ?_)
    obtain ⟨M13, eM13, hf⟩ := nm_o hf
    rw [← eM13] at hH
    refine lv_goto (tgt := 56) hx hb dX0_keep_40 (by decide) ?_
    cases hf
    exact hs_vret C0 hH hS (by decide) (by decide) dX0_keep_56
def f_X0_bringBackTo (M : Mem) (i1 : Nat) : Option Mem := (if (M 11 0 2) ≤ 0 then some M else nm (mu M 11 0 2 ((M 11 0 2) - (1 : Int32))) fun M7 => if vin (((M7 11 0 1) + (M7 11 0 2)) - ((M7 11 0 1) + (M7 11 0 2)) / (8 : Int32) * (8 : Int32)) 8 then (bd (f_X5_copyFrom M7 i1 (3 + (ix (((M7 11 0 1) + (M7 11 0 2)) - ((M7 11 0 1) + (M7 11 0 2)) / (8 : Int32) * (8 : Int32))))) fun M10 => some M10) else none)
set_option maxHeartbeats 4000000 in
set_option maxRecDepth 100000 in
theorem c_X0_bringBackTo {Y : LY} {l : Launch} (M : Mem) (i1 : Nat) (hi1 : i1 < 11) {MZ : Mem} (hf : f_X0_bringBackTo M i1 = some MZ) : Met l yX0_bringBackTo (WS yX0_bringBackTo cX0_bringBackTo 2 (Option.none : Option Jvm.ClassFile.FieldType)) { frames := 3, cells := 0, slots := 0, locals := 65 } (PcM Y M [.ref (YA Y 11 0), .ref (YA Y 1 i1)]) (Qv Y MZ) 0 0 (AZ Y) := by
  refine met_mk (lv := [(0, .ref (YA Y 11 0)), (1, .ref (YA Y 1 i1))]) [.ref (YA Y 11 0), .ref (YA Y 1 i1)] (by decide) rfl rfl (Nat.le_of_ble_eq_true rfl) (fun p e s m below meth c C0 hH ls hl => ?_)
  have hS : va_S (AZ Y) s.heap s.heap [] := va_S.rf
  obtain ⟨hx, hb, hr, hml, hown, hA, hlocks, hK, hZ⟩ := id C0
  unfold f_X0_bringBackTo at hf
  refine lv_aload_n hx hb dX0_bringBackTo_0 rfl (lv_at hl 0 rfl) ?_
  refine hs_get hx hb (T := TX0) hA inAX0 hown hK hH 11 0 (by decide) 4 rfl rfl 2 (by decide) (hA _ zt_219) rfl rfl dX0_bringBackTo_1 ?_
  refine lv_if_le (tgt := 38) hx hb dX0_bringBackTo_4 (by decide) (fun hc12 => ?_) (fun hc12 => ?_)
  · have hf := if_t hf hc12
    cases hf
    exact hs_vret C0 hH hS (by decide) (by decide) dX0_bringBackTo_38
  · have hf := if_f hf hc12
    refine lv_aload_n hx hb dX0_bringBackTo_7 rfl (lv_at hl 0 rfl) ?_
    refine lv_dup hx hb dX0_bringBackTo_8 rfl ?_
    refine hs_get hx hb (T := TX0) hA inAX0 hown hK hH 11 0 (by decide) 4 rfl rfl 2 (by decide) (hA _ zt_219) rfl rfl dX0_bringBackTo_9 ?_
    refine lv_iconst (v := (1 : Int32)) hx hb dX0_bringBackTo_12 (by decide) ?_
    refine lv_isub hx hb dX0_bringBackTo_13 ?_
    refine hs_put hx hb (T := TX0) hA inAX0 tyX0 tyX0_ok nmX0 hown hK hH hS 11 0 (by decide) 4 rfl rfl 2 (by decide) (hA _ zt_219) rfl rfl (by decide +kernel) (Nat.le_of_ble_eq_true rfl) rfl dX0_bringBackTo_14 (fun H locs hH hS => ?_)
    obtain ⟨M7, eM7, hf⟩ := nm_o hf
    rw [← eM7] at hH
    refine lv_aload_n hx hb dX0_bringBackTo_17 rfl (lv_at hl 1 rfl) ?_
    refine lv_aload_n hx hb dX0_bringBackTo_18 rfl (lv_at hl 0 rfl) ?_
    refine hs_get hx hb (T := TX0) hA inAX0 hown hK hH 11 0 (by decide) 4 rfl rfl 0 (by decide) (hA _ zt_217) rfl rfl dX0_bringBackTo_19 ?_
    refine lv_aload_n hx hb dX0_bringBackTo_22 rfl (lv_at hl 0 rfl) ?_
    refine hs_get hx hb (T := TX0) hA inAX0 hown hK hH 11 0 (by decide) 4 rfl rfl 1 (by decide) (hA _ zt_218) rfl rfl dX0_bringBackTo_23 ?_
    refine lv_aload_n hx hb dX0_bringBackTo_26 rfl (lv_at hl 0 rfl) ?_
    refine hs_get hx hb (T := TX0) hA inAX0 hown hK hH 11 0 (by decide) 4 rfl rfl 2 (by decide) (hA _ zt_219) rfl rfl dX0_bringBackTo_27 ?_
    refine lv_iadd hx hb dX0_bringBackTo_30 ?_
    refine lv_bipush (v := (8 : Int32)) hx hb dX0_bringBackTo_31 (by decide) ?_
    refine lv_irem hx hb dX0_bringBackTo_33 (by decide) ?_
    obtain ⟨hg8, hf⟩ := gd_o hf
    have bhg8 := vin_lt hg8
    refine hs_aald hx hb hK hH 12 0 (by decide) 5 rfl rfl hg8 (q := YA Y 1 (3 + (ix (((M7 11 0 1) + (M7 11 0 2)) - ((M7 11 0 1) + (M7 11 0 2)) / (8 : Int32) * (8 : Int32))))) rfl dX0_bringBackTo_34 ?_
    obtain ⟨M10, hq9, hf⟩ := bd_o hf
    refine hs_cv (hs_runV C0 hH hS (n := 1) (As := [.ref (YA Y 1 (3 + (ix (((M7 11 0 1) + (M7 11 0 2)) - ((M7 11 0 1) + (M7 11 0 2)) / (8 : Int32) * (8 : Int32)))))]) (rest := []) (c_X5_copyFrom M7 i1 (3 + (ix (((M7 11 0 1) + (M7 11 0 2)) - ((M7 11 0 1) + (M7 11 0 2)) / (8 : Int32) * (8 : Int32)))) (show i1 < 11 from by omega) (show 3 + (ix (((M7 11 0 1) + (M7 11 0 2)) - ((M7 11 0 1) + (M7 11 0 2)) / (8 : Int32) * (8 : Int32))) < 11 from by omega) hq9) ⟨⟨zt_527, zt_528, zt_529, zt_3, zt_530⟩, rfl, by decide, by decide, by decide +kernel⟩ ⟨rfl, rfl, Nat.le_of_ble_eq_true rfl, Nat.le_of_ble_eq_true rfl⟩ (hs_recv hK hH 1 i1 (show i1 < 11 from by omega) 9 rfl rfl) rfl rfl hl.1 (Nat.le_of_ble_eq_true rfl) ⟨Nat.le_of_ble_eq_true rfl, Nat.le_of_ble_eq_true rfl⟩ dX0_bringBackTo_35) hS (fun H locs hH hS => ?_)
    cases hf
    exact hs_vret C0 hH hS (by decide) (by decide) dX0_bringBackTo_38
def f_X0_forget (M : Mem) : Option Mem := nm (mu M 11 0 2 (0 : Int32)) fun M2 => some M2
set_option maxHeartbeats 4000000 in
set_option maxRecDepth 100000 in
theorem c_X0_forget {Y : LY} {l : Launch} (M : Mem) {MZ : Mem} (hf : f_X0_forget M = some MZ) : Met l yX0_forget (WS yX0_forget cX0_forget 1 (Option.none : Option Jvm.ClassFile.FieldType)) { frames := 0, cells := 0, slots := 0, locals := 0 } (PcM Y M [.ref (YA Y 11 0)]) (Qv Y MZ) 0 0 (AZ Y) := by
  refine met_mk (lv := [(0, .ref (YA Y 11 0))]) [.ref (YA Y 11 0)] (by decide) rfl rfl (Nat.le_of_ble_eq_true rfl) (fun p e s m below meth c C0 hH ls hl => ?_)
  have hS : va_S (AZ Y) s.heap s.heap [] := va_S.rf
  obtain ⟨hx, hb, hr, hml, hown, hA, hlocks, hK, hZ⟩ := id C0
  unfold f_X0_forget at hf
  refine lv_aload_n hx hb dX0_forget_0 rfl (lv_at hl 0 rfl) ?_
  refine lv_iconst (v := (0 : Int32)) hx hb dX0_forget_1 (by decide) ?_
  refine hs_put hx hb (T := TX0) hA inAX0 tyX0 tyX0_ok nmX0 hown hK hH hS 11 0 (by decide) 4 rfl rfl 2 (by decide) (hA _ zt_219) rfl rfl (by decide +kernel) (Nat.le_of_ble_eq_true rfl) rfl dX0_forget_2 (fun H locs hH hS => ?_)
  obtain ⟨M2, eM2, hf⟩ := nm_o hf
  rw [← eM2] at hH
  cases hf
  exact hs_vret C0 hH hS (by decide) (by decide) dX0_forget_5
def f_X1_canLeaveAt (M : Mem) (i0 : Nat) (a1 : Int32) : Option Int32 := (if (M 4 i0 4) = 0 then (if (a1 - a1 / (6 : Int32) * (6 : Int32)) = (M 4 i0 3) then some (0 : Int32) else some (1 : Int32)) else some (0 : Int32))
set_option maxHeartbeats 4000000 in
set_option maxRecDepth 100000 in
theorem c_X1_canLeaveAt {Y : LY} {l : Launch} (M : Mem) (i0 : Nat) (a1 : Int32) (hi0 : i0 < 220) {r : Int32} (hf : f_X1_canLeaveAt M i0 a1 = some r) : Met l yX1_canLeaveAt (WS yX1_canLeaveAt cX1_canLeaveAt 2 (Option.some Jvm.ClassFile.FieldType.boolean)) { frames := 0, cells := 0, slots := 0, locals := 0 } (PcM Y M [.ref (YA Y 4 i0), .int a1]) (Qi Y r M) 0 0 (AZ Y) := by
  refine met_mk (lv := [(0, .ref (YA Y 4 i0)), (1, .int a1)]) [.ref (YA Y 4 i0), .int a1] (by decide) rfl rfl (Nat.le_of_ble_eq_true rfl) (fun p e s m below meth c C0 hH ls hl => ?_)
  have hS : va_S (AZ Y) s.heap s.heap [] := va_S.rf
  obtain ⟨hx, hb, hr, hml, hown, hA, hlocks, hK, hZ⟩ := id C0
  unfold f_X1_canLeaveAt at hf
  refine lv_aload_n hx hb dX1_canLeaveAt_0 rfl (lv_at hl 0 rfl) ?_
  refine hs_get hx hb (T := TX1) hA inAX1 hown hK hH 4 i0 (show i0 < 220 from by omega) 5 rfl rfl 4 (by decide) (hA _ zt_94) rfl rfl dX1_canLeaveAt_1 ?_
  refine lv_if_ne (tgt := 22) hx hb dX1_canLeaveAt_4 (by decide) (fun hc4 => ?_) (fun hc4 => ?_)
  · have hf := if_f hf hc4
    refine lv_iconst (v := (0 : Int32)) hx hb dX1_canLeaveAt_22 (by decide) ?_
    cases hf
    exact hs_zret C0 hH hS (by decide) (by decide) (by decide) dX1_canLeaveAt_23
  · have hf := if_t hf hc4
    refine lv_iload_n hx hb dX1_canLeaveAt_7 rfl (lv_at hl 1 rfl) ?_
    refine lv_bipush (v := (6 : Int32)) hx hb dX1_canLeaveAt_8 (by decide) ?_
    refine lv_irem hx hb dX1_canLeaveAt_10 (by decide) ?_
    refine lv_aload_n hx hb dX1_canLeaveAt_11 rfl (lv_at hl 0 rfl) ?_
    refine hs_get hx hb (T := TX1) hA inAX1 hown hK hH 4 i0 (show i0 < 220 from by omega) 5 rfl rfl 3 (by decide) (hA _ zt_92) rfl rfl dX1_canLeaveAt_12 ?_
    refine lv_icmp_eq (tgt := 22) hx hb dX1_canLeaveAt_15 (by decide) (fun hc3 => ?_) (fun hc3 => ?_)
    · have hf := if_t hf hc3
      refine lv_iconst (v := (0 : Int32)) hx hb dX1_canLeaveAt_22 (by decide) ?_
      cases hf
      exact hs_zret C0 hH hS (by decide) (by decide) (by decide) dX1_canLeaveAt_23
    · have hf := if_f hf hc3
      refine lv_iconst (v := (1 : Int32)) hx hb dX1_canLeaveAt_18 (by decide) ?_
      refine lv_goto (tgt := 23) hx hb dX1_canLeaveAt_19 (by decide) ?_
      cases hf
      exact hs_zret C0 hH hS (by decide) (by decide) (by decide) dX1_canLeaveAt_23
def f_X1_arrivalWhenReadyAt_16 (M : Mem) (i0 : Nat) (a1 : Int32) (b0 : Int32) : Option Int32 := some ((a1 + b0) + (M 4 i0 2))
set_option maxHeartbeats 4000000 in
set_option maxRecDepth 100000 in
theorem w_X1_arrivalWhenReadyAt_16 {Y : LY} {p : Program} {l : Launch} {e : Env} {s : State} {m : MethodId} {args : Array Value} {below : List Frame} {meth : Method} {c : Code} (C0 : BE Y p s m args meth c cX1_arrivalWhenReadyAt 3 (Option.some Jvm.ClassFile.FieldType.int) RX1) {r : Int32} (M : Mem) : ∀ (i0 : Nat) (a1 : Int32) (b0 : Int32), i0 < 220 → f_X1_arrivalWhenReadyAt_16 M i0 a1 b0 = some r → ∀ (H : Heap) (locs : List Loc) (ls : Array Slot), HS Y M H → va_S (AZ Y) s.heap H locs → lv_has ls 3 [(0, .ref (YA Y 4 i0)), (1, .int a1)] → W p l e { frames := 0, cells := 0, slots := 0, locals := 0 } s m args below meth c H locs 0 0 (MQ below (Qi Y r M) args s 0 0 (AZ Y)) (F0 m 16 ls [.int b0]) := by
  obtain ⟨hx, hb, hr, hml, hown, hA, hlocks, hK, hZ⟩ := id C0
  intro i0 a1 b0 hi0 hf H locs ls hH hS hl
  unfold f_X1_arrivalWhenReadyAt_16 at hf
  refine lv_istore_n (lv' := [(2, .int b0), (0, .ref (YA Y 4 i0)), (1, .int a1)]) hx hb dX1_arrivalWhenReadyAt_16 rfl hl (by decide) rfl (fun ls hl => ?_)
  refine lv_iload_n hx hb dX1_arrivalWhenReadyAt_17 rfl (lv_at hl 2 rfl) ?_
  refine lv_iload_n hx hb dX1_arrivalWhenReadyAt_18 rfl (lv_at hl 0 rfl) ?_
  refine lv_iadd hx hb dX1_arrivalWhenReadyAt_19 ?_
  refine lv_aload_n hx hb dX1_arrivalWhenReadyAt_20 rfl (lv_at hl 1 rfl) ?_
  refine hs_get hx hb (T := TX1) hA inAX1 hown hK hH 4 i0 (show i0 < 220 from by omega) 5 rfl rfl 2 (by decide) (hA _ zt_87) rfl rfl dX1_arrivalWhenReadyAt_21 ?_
  refine lv_iadd hx hb dX1_arrivalWhenReadyAt_24 ?_
  cases hf
  exact hs_iret C0 hH hS (by decide) (by decide) dX1_arrivalWhenReadyAt_25
def f_X1_arrivalWhenReadyAt (M : Mem) (i0 : Nat) (a1 : Int32) : Option Int32 := (if (a1 - a1 / (6 : Int32) * (6 : Int32)) = (M 4 i0 3) then f_X1_arrivalWhenReadyAt_16 M i0 a1 (1 : Int32) else f_X1_arrivalWhenReadyAt_16 M i0 a1 (0 : Int32))
set_option maxHeartbeats 4000000 in
set_option maxRecDepth 100000 in
theorem c_X1_arrivalWhenReadyAt {Y : LY} {l : Launch} (M : Mem) (i0 : Nat) (a1 : Int32) (hi0 : i0 < 220) {r : Int32} (hf : f_X1_arrivalWhenReadyAt M i0 a1 = some r) : Met l yX1_arrivalWhenReadyAt (WS yX1_arrivalWhenReadyAt cX1_arrivalWhenReadyAt 3 (Option.some Jvm.ClassFile.FieldType.int)) { frames := 0, cells := 0, slots := 0, locals := 0 } (PcM Y M [.ref (YA Y 4 i0), .int a1]) (Qi Y r M) 0 0 (AZ Y) := by
  refine met_mk (lv := [(0, .ref (YA Y 4 i0)), (1, .int a1)]) [.ref (YA Y 4 i0), .int a1] (by decide) rfl rfl (Nat.le_of_ble_eq_true rfl) (fun p e s m below meth c C0 hH ls hl => ?_)
  have hS : va_S (AZ Y) s.heap s.heap [] := va_S.rf
  obtain ⟨hx, hb, hr, hml, hown, hA, hlocks, hK, hZ⟩ := id C0
  unfold f_X1_arrivalWhenReadyAt at hf
  refine lv_iload_n hx hb dX1_arrivalWhenReadyAt_0 rfl (lv_at hl 1 rfl) ?_
  refine lv_bipush (v := (6 : Int32)) hx hb dX1_arrivalWhenReadyAt_1 (by decide) ?_
  refine lv_irem hx hb dX1_arrivalWhenReadyAt_3 (by decide) ?_
  refine lv_aload_n hx hb dX1_arrivalWhenReadyAt_4 rfl (lv_at hl 0 rfl) ?_
  refine hs_get hx hb (T := TX1) hA inAX1 hown hK hH 4 i0 (show i0 < 220 from by omega) 5 rfl rfl 3 (by decide) (hA _ zt_92) rfl rfl dX1_arrivalWhenReadyAt_5 ?_
  refine lv_icmp_ne (tgt := 15) hx hb dX1_arrivalWhenReadyAt_8 (by decide) (fun hc2 => ?_) (fun hc2 => ?_)
  · have hf := if_f hf hc2
    refine lv_iconst (v := (0 : Int32)) hx hb dX1_arrivalWhenReadyAt_15 (by decide) ?_
    exact w_X1_arrivalWhenReadyAt_16 C0 M i0 a1 (0 : Int32) (show i0 < 220 from by omega) hf _ _ _ hH hS (lv_sub hl [0, 1] rfl)
  · have hf := if_t hf hc2
    refine lv_iconst (v := (1 : Int32)) hx hb dX1_arrivalWhenReadyAt_11 (by decide) ?_
    refine lv_goto (tgt := 16) hx hb dX1_arrivalWhenReadyAt_12 (by decide) ?_
    exact w_X1_arrivalWhenReadyAt_16 C0 M i0 a1 (1 : Int32) (show i0 < 220 from by omega) hf _ _ _ hH hS (lv_sub hl [0, 1] rfl)
def f_X2_hasPlace (M : Mem) (i0 : Nat) (a1 : Int32) : Option Int32 := (if a1 < 0 then some (0 : Int32) else (if (M 2 i0 1) ≤ a1 then some (0 : Int32) else some (1 : Int32)))
set_option maxHeartbeats 4000000 in
set_option maxRecDepth 100000 in
theorem c_X2_hasPlace {Y : LY} {l : Launch} (M : Mem) (i0 : Nat) (a1 : Int32) (hi0 : i0 < 11) {r : Int32} (hf : f_X2_hasPlace M i0 a1 = some r) : Met l yX2_hasPlace (WS yX2_hasPlace cX2_hasPlace 2 (Option.some Jvm.ClassFile.FieldType.boolean)) { frames := 0, cells := 0, slots := 0, locals := 0 } (PcM Y M [.ref (YA Y 2 i0), .int a1]) (Qi Y r M) 0 0 (AZ Y) := by
  refine met_mk (lv := [(0, .ref (YA Y 2 i0)), (1, .int a1)]) [.ref (YA Y 2 i0), .int a1] (by decide) rfl rfl (Nat.le_of_ble_eq_true rfl) (fun p e s m below meth c C0 hH ls hl => ?_)
  have hS : va_S (AZ Y) s.heap s.heap [] := va_S.rf
  obtain ⟨hx, hb, hr, hml, hown, hA, hlocks, hK, hZ⟩ := id C0
  unfold f_X2_hasPlace at hf
  refine lv_iload_n hx hb dX2_hasPlace_0 rfl (lv_at hl 1 rfl) ?_
  refine lv_if_lt (tgt := 16) hx hb dX2_hasPlace_1 (by decide) (fun hc4 => ?_) (fun hc4 => ?_)
  · have hf := if_t hf hc4
    refine lv_iconst (v := (0 : Int32)) hx hb dX2_hasPlace_16 (by decide) ?_
    cases hf
    exact hs_zret C0 hH hS (by decide) (by decide) (by decide) dX2_hasPlace_17
  · have hf := if_f hf hc4
    refine lv_iload_n hx hb dX2_hasPlace_4 rfl (lv_at hl 1 rfl) ?_
    refine lv_aload_n hx hb dX2_hasPlace_5 rfl (lv_at hl 0 rfl) ?_
    refine hs_get hx hb (T := TX2) hA inAX2 hown hK hH 2 i0 (show i0 < 11 from by omega) 6 rfl rfl 1 (by decide) (hA _ zt_114) rfl rfl dX2_hasPlace_6 ?_
    refine lv_icmp_ge (tgt := 16) hx hb dX2_hasPlace_9 (by decide) (fun hc3 => ?_) (fun hc3 => ?_)
    · have hf := if_t hf hc3
      refine lv_iconst (v := (0 : Int32)) hx hb dX2_hasPlace_16 (by decide) ?_
      cases hf
      exact hs_zret C0 hH hS (by decide) (by decide) (by decide) dX2_hasPlace_17
    · have hf := if_f hf hc3
      refine lv_iconst (v := (1 : Int32)) hx hb dX2_hasPlace_12 (by decide) ?_
      refine lv_goto (tgt := 17) hx hb dX2_hasPlace_13 (by decide) ?_
      cases hf
      exact hs_zret C0 hH hS (by decide) (by decide) (by decide) dX2_hasPlace_17
def f_X2_hasLink (M : Mem) (i0 : Nat) (a1 : Int32) : Option Int32 := (if a1 < 0 then some (0 : Int32) else (if (M 2 i0 2) ≤ a1 then some (0 : Int32) else some (1 : Int32)))
set_option maxHeartbeats 4000000 in
set_option maxRecDepth 100000 in
theorem c_X2_hasLink {Y : LY} {l : Launch} (M : Mem) (i0 : Nat) (a1 : Int32) (hi0 : i0 < 11) {r : Int32} (hf : f_X2_hasLink M i0 a1 = some r) : Met l yX2_hasLink (WS yX2_hasLink cX2_hasLink 2 (Option.some Jvm.ClassFile.FieldType.boolean)) { frames := 0, cells := 0, slots := 0, locals := 0 } (PcM Y M [.ref (YA Y 2 i0), .int a1]) (Qi Y r M) 0 0 (AZ Y) := by
  refine met_mk (lv := [(0, .ref (YA Y 2 i0)), (1, .int a1)]) [.ref (YA Y 2 i0), .int a1] (by decide) rfl rfl (Nat.le_of_ble_eq_true rfl) (fun p e s m below meth c C0 hH ls hl => ?_)
  have hS : va_S (AZ Y) s.heap s.heap [] := va_S.rf
  obtain ⟨hx, hb, hr, hml, hown, hA, hlocks, hK, hZ⟩ := id C0
  unfold f_X2_hasLink at hf
  refine lv_iload_n hx hb dX2_hasLink_0 rfl (lv_at hl 1 rfl) ?_
  refine lv_if_lt (tgt := 16) hx hb dX2_hasLink_1 (by decide) (fun hc4 => ?_) (fun hc4 => ?_)
  · have hf := if_t hf hc4
    refine lv_iconst (v := (0 : Int32)) hx hb dX2_hasLink_16 (by decide) ?_
    cases hf
    exact hs_zret C0 hH hS (by decide) (by decide) (by decide) dX2_hasLink_17
  · have hf := if_f hf hc4
    refine lv_iload_n hx hb dX2_hasLink_4 rfl (lv_at hl 1 rfl) ?_
    refine lv_aload_n hx hb dX2_hasLink_5 rfl (lv_at hl 0 rfl) ?_
    refine hs_get hx hb (T := TX2) hA inAX2 hown hK hH 2 i0 (show i0 < 11 from by omega) 6 rfl rfl 2 (by decide) (hA _ zt_118) rfl rfl dX2_hasLink_6 ?_
    refine lv_icmp_ge (tgt := 16) hx hb dX2_hasLink_9 (by decide) (fun hc3 => ?_) (fun hc3 => ?_)
    · have hf := if_t hf hc3
      refine lv_iconst (v := (0 : Int32)) hx hb dX2_hasLink_16 (by decide) ?_
      cases hf
      exact hs_zret C0 hH hS (by decide) (by decide) (by decide) dX2_hasLink_17
    · have hf := if_f hf hc3
      refine lv_iconst (v := (1 : Int32)) hx hb dX2_hasLink_12 (by decide) ?_
      refine lv_goto (tgt := 17) hx hb dX2_hasLink_13 (by decide) ?_
      cases hf
      exact hs_zret C0 hH hS (by decide) (by decide) (by decide) dX2_hasLink_17
def f_X2_putPlace (M : Mem) (i0 : Nat) : Option (Int32 × Mem) := nm (mu M 2 i0 1 ((M 2 i0 1) + (1 : Int32))) fun M2 => some (((M2 2 i0 1) - (1 : Int32)), M2)
set_option maxHeartbeats 4000000 in
set_option maxRecDepth 100000 in
theorem c_X2_putPlace {Y : LY} {l : Launch} (M : Mem) (i0 : Nat) (hi0 : i0 < 11) {r : Int32} {MZ : Mem} (hf : f_X2_putPlace M i0 = some (r, MZ)) : Met l yX2_putPlace (WS yX2_putPlace cX2_putPlace 1 (Option.some Jvm.ClassFile.FieldType.int)) { frames := 0, cells := 0, slots := 0, locals := 0 } (PcM Y M [.ref (YA Y 2 i0)]) (Qi Y r MZ) 0 0 (AZ Y) := by
  refine met_mk (lv := [(0, .ref (YA Y 2 i0))]) [.ref (YA Y 2 i0)] (by decide) rfl rfl (Nat.le_of_ble_eq_true rfl) (fun p e s m below meth c C0 hH ls hl => ?_)
  have hS : va_S (AZ Y) s.heap s.heap [] := va_S.rf
  obtain ⟨hx, hb, hr, hml, hown, hA, hlocks, hK, hZ⟩ := id C0
  unfold f_X2_putPlace at hf
  refine lv_aload_n hx hb dX2_putPlace_0 rfl (lv_at hl 0 rfl) ?_
  refine lv_dup hx hb dX2_putPlace_1 rfl ?_
  refine hs_get hx hb (T := TX2) hA inAX2 hown hK hH 2 i0 (show i0 < 11 from by omega) 6 rfl rfl 1 (by decide) (hA _ zt_114) rfl rfl dX2_putPlace_2 ?_
  refine lv_iconst (v := (1 : Int32)) hx hb dX2_putPlace_5 (by decide) ?_
  refine lv_iadd hx hb dX2_putPlace_6 ?_
  refine hs_put hx hb (T := TX2) hA inAX2 tyX2 tyX2_ok nmX2 hown hK hH hS 2 i0 (show i0 < 11 from by omega) 6 rfl rfl 1 (by decide) (hA _ zt_114) rfl rfl (by decide +kernel) (Nat.le_of_ble_eq_true rfl) rfl dX2_putPlace_7 (fun H locs hH hS => ?_)
  obtain ⟨M2, eM2, hf⟩ := nm_o hf
  rw [← eM2] at hH
  refine lv_aload_n hx hb dX2_putPlace_10 rfl (lv_at hl 0 rfl) ?_
  refine hs_get hx hb (T := TX2) hA inAX2 hown hK hH 2 i0 (show i0 < 11 from by omega) 6 rfl rfl 1 (by decide) (hA _ zt_114) rfl rfl dX2_putPlace_11 ?_
  refine lv_iconst (v := (1 : Int32)) hx hb dX2_putPlace_14 (by decide) ?_
  refine lv_isub hx hb dX2_putPlace_15 ?_
  cases hf
  exact hs_iret C0 hH hS (by decide) (by decide) dX2_putPlace_16
def f_X2_putLink (M : Mem) (i0 : Nat) (a1 : Int32) (a2 : Int32) (a3 : Int32) (a4 : Int32) : Option (Int32 × Mem) := (if (M 2 i0 2) < (20 : Int32) then if vin (M 2 i0 2) 20 then (nm (mu M 4 (20 * i0 + (ix (M 2 i0 2))) 0 a1) fun M10 => nm (mu M10 4 (20 * i0 + (ix (M 2 i0 2))) 1 a2) fun M11 => nm (mu M11 4 (20 * i0 + (ix (M 2 i0 2))) 2 a3) fun M12 => nm (mu M12 4 (20 * i0 + (ix (M 2 i0 2))) 3 a4) fun M13 => nm (mu M13 4 (20 * i0 + (ix (M 2 i0 2))) 4 (0 : Int32)) fun M14 => nm (mu M14 2 i0 2 ((M14 2 i0 2) + (1 : Int32))) fun M15 => some (((M15 2 i0 2) - (1 : Int32)), M15)) else none else some ((-1 : Int32), M))
set_option maxHeartbeats 4000000 in
set_option maxRecDepth 100000 in
theorem c_X2_putLink {Y : LY} {l : Launch} (M : Mem) (i0 : Nat) (a1 : Int32) (a2 : Int32) (a3 : Int32) (a4 : Int32) (hi0 : i0 < 11) {r : Int32} {MZ : Mem} (hf : f_X2_putLink M i0 a1 a2 a3 a4 = some (r, MZ)) : Met l yX2_putLink (WS yX2_putLink cX2_putLink 6 (Option.some Jvm.ClassFile.FieldType.int)) { frames := 0, cells := 0, slots := 0, locals := 0 } (PcM Y M [.ref (YA Y 2 i0), .int a1, .int a2, .int a3, .int a4]) (Qi Y r MZ) 0 0 (AZ Y) := by
  refine met_mk (lv := [(0, .ref (YA Y 2 i0)), (1, .int a1), (2, .int a2), (3, .int a3), (4, .int a4)]) [.ref (YA Y 2 i0), .int a1, .int a2, .int a3, .int a4] (by decide) rfl rfl (Nat.le_of_ble_eq_true rfl) (fun p e s m below meth c C0 hH ls hl => ?_)
  have hS : va_S (AZ Y) s.heap s.heap [] := va_S.rf
  obtain ⟨hx, hb, hr, hml, hown, hA, hlocks, hK, hZ⟩ := id C0
  unfold f_X2_putLink at hf
  refine lv_aload_n hx hb dX2_putLink_0 rfl (lv_at hl 0 rfl) ?_
  refine hs_get hx hb (T := TX2) hA inAX2 hown hK hH 2 i0 (show i0 < 11 from by omega) 6 rfl rfl 2 (by decide) (hA _ zt_118) rfl rfl dX2_putLink_1 ?_
  refine lv_bipush (v := (20 : Int32)) hx hb dX2_putLink_4 (by decide) ?_
  refine lv_icmp_lt (tgt := 11) hx hb dX2_putLink_6 (by decide) (fun hc16 => ?_) (fun hc16 => ?_)
  · have hf := if_t hf hc16
    refine lv_aload_n hx hb dX2_putLink_11 rfl (lv_at hl 0 rfl) ?_
    refine hs_get hx hb (T := TX2) hA inAX2 hown hK hH 2 i0 (show i0 < 11 from by omega) 6 rfl rfl 0 (by decide) (hA _ zt_110) rfl rfl dX2_putLink_12 ?_
    refine lv_aload_n hx hb dX2_putLink_15 rfl (lv_at hl 0 rfl) ?_
    refine hs_get hx hb (T := TX2) hA inAX2 hown hK hH 2 i0 (show i0 < 11 from by omega) 6 rfl rfl 2 (by decide) (hA _ zt_118) rfl rfl dX2_putLink_16 ?_
    obtain ⟨hg9, hf⟩ := gd_o hf
    have bhg9 := vin_lt hg9
    refine hs_aald hx hb hK hH 3 i0 (show i0 < 11 from by omega) 3 rfl rfl hg9 (q := YA Y 4 (20 * i0 + (ix (M 2 i0 2)))) rfl dX2_putLink_19 ?_
    refine lv_astore (lv' := [(5, .ref (YA Y 4 (20 * i0 + (ix (M 2 i0 2))))), (0, .ref (YA Y 2 i0)), (1, .int a1), (2, .int a2), (3, .int a3), (4, .int a4)]) hx hb dX2_putLink_20 hl (by decide) rfl (fun ls hl => ?_)
    refine lv_aload hx hb dX2_putLink_22 (lv_at hl 0 rfl) ?_
    refine lv_iload_n hx hb dX2_putLink_24 rfl (lv_at hl 2 rfl) ?_
    refine hs_put hx hb (T := TX1) hA inAX1 tyX1 tyX1_ok nmX1 hown hK hH hS 4 (20 * i0 + (ix (M 2 i0 2))) (show 20 * i0 + (ix (M 2 i0 2)) < 220 from by omega) 5 rfl rfl 0 (by decide) (hA _ zt_78) rfl rfl (by decide +kernel) (Nat.le_of_ble_eq_true rfl) rfl dX2_putLink_25 (fun H locs hH hS => ?_)
    obtain ⟨M10, eM10, hf⟩ := nm_o hf
    rw [← eM10] at hH
    refine lv_aload hx hb dX2_putLink_28 (lv_at hl 0 rfl) ?_
    refine lv_iload_n hx hb dX2_putLink_30 rfl (lv_at hl 3 rfl) ?_
    refine hs_put hx hb (T := TX1) hA inAX1 tyX1 tyX1_ok nmX1 hown hK hH hS 4 (20 * i0 + (ix (M 2 i0 2))) (show 20 * i0 + (ix (M 2 i0 2)) < 220 from by omega) 5 rfl rfl 1 (by decide) (hA _ zt_83) rfl rfl (by decide +kernel) (Nat.le_of_ble_eq_true rfl) rfl dX2_putLink_31 (fun H locs hH hS => ?_)
    obtain ⟨M11, eM11, hf⟩ := nm_o hf
    rw [← eM11] at hH
    refine lv_aload hx hb dX2_putLink_34 (lv_at hl 0 rfl) ?_
    refine lv_iload_n hx hb dX2_putLink_36 rfl (lv_at hl 4 rfl) ?_
    refine hs_put hx hb (T := TX1) hA inAX1 tyX1 tyX1_ok nmX1 hown hK hH hS 4 (20 * i0 + (ix (M 2 i0 2))) (show 20 * i0 + (ix (M 2 i0 2)) < 220 from by omega) 5 rfl rfl 2 (by decide) (hA _ zt_88) rfl rfl (by decide +kernel) (Nat.le_of_ble_eq_true rfl) rfl dX2_putLink_37 (fun H locs hH hS => ?_)
    obtain ⟨M12, eM12, hf⟩ := nm_o hf
    rw [← eM12] at hH
    refine lv_aload hx hb dX2_putLink_40 (lv_at hl 0 rfl) ?_
    refine lv_iload hx hb dX2_putLink_42 (lv_at hl 5 rfl) ?_
    refine hs_put hx hb (T := TX1) hA inAX1 tyX1 tyX1_ok nmX1 hown hK hH hS 4 (20 * i0 + (ix (M 2 i0 2))) (show 20 * i0 + (ix (M 2 i0 2)) < 220 from by omega) 5 rfl rfl 3 (by decide) (hA _ zt_93) rfl rfl (by decide +kernel) (Nat.le_of_ble_eq_true rfl) rfl dX2_putLink_44 (fun H locs hH hS => ?_)
    obtain ⟨M13, eM13, hf⟩ := nm_o hf
    rw [← eM13] at hH
    refine lv_aload hx hb dX2_putLink_47 (lv_at hl 0 rfl) ?_
    refine lv_iconst (v := (0 : Int32)) hx hb dX2_putLink_49 (by decide) ?_
    refine hs_putz hx hb (T := TX1) hA inAX1 tyX1 tyX1_ok nmX1 hown hK hH hS 4 (20 * i0 + (ix (M 2 i0 2))) (show 20 * i0 + (ix (M 2 i0 2)) < 220 from by omega) 5 rfl rfl 4 (by decide) (hA _ zt_95) rfl rfl (by decide +kernel) (by decide) (Nat.le_of_ble_eq_true rfl) rfl dX2_putLink_50 (fun H locs hH hS => ?_)
    obtain ⟨M14, eM14, hf⟩ := nm_o hf
    rw [← eM14] at hH
    refine lv_aload_n hx hb dX2_putLink_53 rfl (lv_at hl 1 rfl) ?_
    refine lv_dup hx hb dX2_putLink_54 rfl ?_
    refine hs_get hx hb (T := TX2) hA inAX2 hown hK hH 2 i0 (show i0 < 11 from by omega) 6 rfl rfl 2 (by decide) (hA _ zt_118) rfl rfl dX2_putLink_55 ?_
    refine lv_iconst (v := (1 : Int32)) hx hb dX2_putLink_58 (by decide) ?_
    refine lv_iadd hx hb dX2_putLink_59 ?_
    refine hs_put hx hb (T := TX2) hA inAX2 tyX2 tyX2_ok nmX2 hown hK hH hS 2 i0 (show i0 < 11 from by omega) 6 rfl rfl 2 (by decide) (hA _ zt_118) rfl rfl (by decide +kernel) (Nat.le_of_ble_eq_true rfl) rfl dX2_putLink_60 (fun H locs hH hS => ?_)
    obtain ⟨M15, eM15, hf⟩ := nm_o hf
    rw [← eM15] at hH
    refine lv_aload_n hx hb dX2_putLink_63 rfl (lv_at hl 1 rfl) ?_
    refine hs_get hx hb (T := TX2) hA inAX2 hown hK hH 2 i0 (show i0 < 11 from by omega) 6 rfl rfl 2 (by decide) (hA _ zt_118) rfl rfl dX2_putLink_64 ?_
    refine lv_iconst (v := (1 : Int32)) hx hb dX2_putLink_67 (by decide) ?_
    refine lv_isub hx hb dX2_putLink_68 ?_
    cases hf
    exact hs_iret C0 hH hS (by decide) (by decide) dX2_putLink_69
  · have hf := if_f hf hc16
    refine lv_iconst (v := (-1 : Int32)) hx hb dX2_putLink_9 (by decide) ?_
    cases hf
    exact hs_iret C0 hH hS (by decide) (by decide) dX2_putLink_10
def f_X2_blockedLinks_27 (M : Mem) (k4 : Nat → Int32 → Int32 → Option Int32) (i0 : Nat) (a1 : Int32) (a2 : Int32) : Option Int32 := k4 i0 a1 (a2 + (1 : Int32))
set_option maxHeartbeats 4000000 in
set_option maxRecDepth 100000 in
theorem w_X2_blockedLinks_27 {Y : LY} {p : Program} {l : Launch} {e : Env} {s : State} {m : MethodId} {args : Array Value} {below : List Frame} {meth : Method} {c : Code} (C0 : BE Y p s m args meth c cX2_blockedLinks 3 (Option.some Jvm.ClassFile.FieldType.int) RX2) {r : Int32} (M : Mem) (k4 : Nat → Int32 → Int32 → Option Int32) (hk4 : ∀ (i0 : Nat) (a1 : Int32) (a2 : Int32), i0 < 11 → k4 i0 a1 a2 = some r → ∀ (H : Heap) (locs : List Loc) (ls : Array Slot), HS Y M H → va_S (AZ Y) s.heap H locs → lv_has ls 3 [(0, .ref (YA Y 2 i0)), (1, .int a1), (2, .int a2)] → W p l e { frames := 0, cells := 0, slots := 0, locals := 0 } s m args below meth c H locs 0 0 (MQ below (Qi Y r M) args s 0 0 (AZ Y)) (F0 m 4 ls [])) : ∀ (i0 : Nat) (a1 : Int32) (a2 : Int32), i0 < 11 → f_X2_blockedLinks_27 M k4 i0 a1 a2 = some r → ∀ (H : Heap) (locs : List Loc) (ls : Array Slot), HS Y M H → va_S (AZ Y) s.heap H locs → lv_has ls 3 [(0, .ref (YA Y 2 i0)), (1, .int a1), (2, .int a2)] → W p l e { frames := 0, cells := 0, slots := 0, locals := 0 } s m args below meth c H locs 0 0 (MQ below (Qi Y r M) args s 0 0 (AZ Y)) (F0 m 27 ls []) := by
  obtain ⟨hx, hb, hr, hml, hown, hA, hlocks, hK, hZ⟩ := id C0
  intro i0 a1 a2 hi0 hf H locs ls hH hS hl
  unfold f_X2_blockedLinks_27 at hf
  refine lv_iinc (v := a2 + (1 : Int32)) (lv' := [(2, .int (a2 + (1 : Int32))), (0, .ref (YA Y 2 i0)), (1, .int a1)]) hx hb dX2_blockedLinks_27 hl (k := 2) rfl rfl (by decide) rfl (fun ls hl => ?_)
  refine lv_goto (tgt := 4) hx hb dX2_blockedLinks_30 (by decide) ?_
  exact hk4 i0 a1 (a2 + (1 : Int32)) (show i0 < 11 from by omega) hf _ _ _ hH hS (lv_sub hl [1, 2, 0] rfl)
def f_X2_blockedLinks_4 (M : Mem) : Nat → Nat → Int32 → Int32 → Option Int32
  | 0, _, _, _ => none
  | n + 1, i0, a1, a2 => (if (M 2 i0 2) ≤ a2 then some a1 else if vin a2 20 then ((if (M 4 (20 * i0 + (ix a2)) 4) = 0 then f_X2_blockedLinks_27 M (f_X2_blockedLinks_4 M n) i0 a1 a2 else f_X2_blockedLinks_27 M (f_X2_blockedLinks_4 M n) i0 (a1 + (1 : Int32)) a2)) else none)
set_option maxHeartbeats 4000000 in
set_option maxRecDepth 100000 in
theorem w_X2_blockedLinks_4 {Y : LY} {p : Program} {l : Launch} {e : Env} {s : State} {m : MethodId} {args : Array Value} {below : List Frame} {meth : Method} {c : Code} (C0 : BE Y p s m args meth c cX2_blockedLinks 3 (Option.some Jvm.ClassFile.FieldType.int) RX2) {r : Int32} (M : Mem) : ∀ (n : Nat) (i0 : Nat) (a1 : Int32) (a2 : Int32), i0 < 11 → f_X2_blockedLinks_4 M n i0 a1 a2 = some r → ∀ (H : Heap) (locs : List Loc) (ls : Array Slot), HS Y M H → va_S (AZ Y) s.heap H locs → lv_has ls 3 [(0, .ref (YA Y 2 i0)), (1, .int a1), (2, .int a2)] → W p l e { frames := 0, cells := 0, slots := 0, locals := 0 } s m args below meth c H locs 0 0 (MQ below (Qi Y r M) args s 0 0 (AZ Y)) (F0 m 4 ls []) := by
  obtain ⟨hx, hb, hr, hml, hown, hA, hlocks, hK, hZ⟩ := id C0
  intro n
  induction n with
  | zero =>
    intro i0 a1 a2 hi0 hf
    cases hf
  | succ n ih =>
    intro i0 a1 a2 hi0 hf H locs ls hH hS hl
    rw [f_X2_blockedLinks_4] at hf
    refine lv_iload_n hx hb dX2_blockedLinks_4 rfl (lv_at hl 2 rfl) ?_
    refine lv_aload_n hx hb dX2_blockedLinks_5 rfl (lv_at hl 0 rfl) ?_
    refine hs_get hx hb (T := TX2) hA inAX2 hown hK hH 2 i0 (show i0 < 11 from by omega) 6 rfl rfl 2 (by decide) (hA _ zt_118) rfl rfl dX2_blockedLinks_6 ?_
    refine lv_icmp_ge (tgt := 33) hx hb dX2_blockedLinks_9 (by decide) (fun hc6 => ?_) (fun hc6 => ?_)
    · have hf := if_t hf hc6
      refine lv_iload_n hx hb dX2_blockedLinks_33 rfl (lv_at hl 1 rfl) ?_
      cases hf
      exact hs_iret C0 hH hS (by decide) (by decide) dX2_blockedLinks_34
    · have hf := if_f hf hc6
      refine lv_aload_n hx hb dX2_blockedLinks_12 rfl (lv_at hl 0 rfl) ?_
      refine hs_get hx hb (T := TX2) hA inAX2 hown hK hH 2 i0 (show i0 < 11 from by omega) 6 rfl rfl 0 (by decide) (hA _ zt_110) rfl rfl dX2_blockedLinks_13 ?_
      refine lv_iload_n hx hb dX2_blockedLinks_16 rfl (lv_at hl 2 rfl) ?_
      obtain ⟨hg4, hf⟩ := gd_o hf
      have bhg4 := vin_lt hg4
      refine hs_aald hx hb hK hH 3 i0 (show i0 < 11 from by omega) 3 rfl rfl hg4 (q := YA Y 4 (20 * i0 + (ix a2))) rfl dX2_blockedLinks_17 ?_
      refine hs_get hx hb (T := TX1) hA inAX1 hown hK hH 4 (20 * i0 + (ix a2)) (show 20 * i0 + (ix a2) < 220 from by omega) 5 rfl rfl 4 (by decide) (hA _ zt_95) rfl rfl dX2_blockedLinks_18 ?_
      refine lv_if_eq (tgt := 27) hx hb dX2_blockedLinks_21 (by decide) (fun hc5 => ?_) (fun hc5 => ?_)
      · have hf := if_t hf hc5
        exact w_X2_blockedLinks_27 C0 M (f_X2_blockedLinks_4 M n) ih i0 a1 a2 (show i0 < 11 from by omega) hf _ _ _ hH hS (lv_sub hl [0, 1, 2] rfl)
      · have hf := if_f hf hc5
        refine lv_iinc (v := a1 + (1 : Int32)) (lv' := [(1, .int (a1 + (1 : Int32))), (0, .ref (YA Y 2 i0)), (2, .int a2)]) hx hb dX2_blockedLinks_24 hl (k := 1) rfl rfl (by decide) rfl (fun ls hl => ?_)
        exact w_X2_blockedLinks_27 C0 M (f_X2_blockedLinks_4 M n) ih i0 (a1 + (1 : Int32)) a2 (show i0 < 11 from by omega) hf _ _ _ hH hS (lv_sub hl [1, 0, 2] rfl)
def f_X2_blockedLinks (M : Mem) (i0 : Nat) : Option Int32 := f_X2_blockedLinks_4 M FU i0 (0 : Int32) (0 : Int32)
set_option maxHeartbeats 4000000 in
set_option maxRecDepth 100000 in
theorem c_X2_blockedLinks {Y : LY} {l : Launch} (M : Mem) (i0 : Nat) (hi0 : i0 < 11) {r : Int32} (hf : f_X2_blockedLinks M i0 = some r) : Met l yX2_blockedLinks (WS yX2_blockedLinks cX2_blockedLinks 3 (Option.some Jvm.ClassFile.FieldType.int)) { frames := 0, cells := 0, slots := 0, locals := 0 } (PcM Y M [.ref (YA Y 2 i0)]) (Qi Y r M) 0 0 (AZ Y) := by
  refine met_mk (lv := [(0, .ref (YA Y 2 i0))]) [.ref (YA Y 2 i0)] (by decide) rfl rfl (Nat.le_of_ble_eq_true rfl) (fun p e s m below meth c C0 hH ls hl => ?_)
  have hS : va_S (AZ Y) s.heap s.heap [] := va_S.rf
  obtain ⟨hx, hb, hr, hml, hown, hA, hlocks, hK, hZ⟩ := id C0
  unfold f_X2_blockedLinks at hf
  refine lv_iconst (v := (0 : Int32)) hx hb dX2_blockedLinks_0 (by decide) ?_
  refine lv_istore_n (lv' := [(1, .int (0 : Int32)), (0, .ref (YA Y 2 i0))]) hx hb dX2_blockedLinks_1 rfl hl (by decide) rfl (fun ls hl => ?_)
  refine lv_iconst (v := (0 : Int32)) hx hb dX2_blockedLinks_2 (by decide) ?_
  refine lv_istore_n (lv' := [(2, .int (0 : Int32)), (1, .int (0 : Int32)), (0, .ref (YA Y 2 i0))]) hx hb dX2_blockedLinks_3 rfl hl (by decide) rfl (fun ls hl => ?_)
  exact w_X2_blockedLinks_4 C0 M FU i0 (0 : Int32) (0 : Int32) (show i0 < 11 from by omega) hf _ _ _ hH hS (lv_sub hl [2, 1, 0] rfl)
def f_X2_setBlocked_18 (M : Mem) (i0 : Nat) : Option (Int32 × Mem) := bd (f_X2_blockedLinks M i0) fun r10 => some (r10, M)
set_option maxHeartbeats 4000000 in
set_option maxRecDepth 100000 in
theorem w_X2_setBlocked_18 {Y : LY} {p : Program} {l : Launch} {e : Env} {s : State} {m : MethodId} {args : Array Value} {below : List Frame} {meth : Method} {c : Code} (C0 : BE Y p s m args meth c cX2_setBlocked 3 (Option.some Jvm.ClassFile.FieldType.int) RX2) {r : Int32} {MZ : Mem} : ∀ (M : Mem) (i0 : Nat), i0 < 11 → f_X2_setBlocked_18 M i0 = some (r, MZ) → ∀ (H : Heap) (locs : List Loc) (ls : Array Slot), HS Y M H → va_S (AZ Y) s.heap H locs → lv_has ls 3 [(0, .ref (YA Y 2 i0))] → W p l e { frames := 1, cells := 0, slots := 0, locals := 22 } s m args below meth c H locs 0 0 (MQ below (Qi Y r MZ) args s 0 0 (AZ Y)) (F0 m 18 ls []) := by
  obtain ⟨hx, hb, hr, hml, hown, hA, hlocks, hK, hZ⟩ := id C0
  intro M i0 hi0 hf H locs ls hH hS hl
  unfold f_X2_setBlocked_18 at hf
  refine lv_aload_n hx hb dX2_setBlocked_18 rfl (lv_at hl 0 rfl) ?_
  obtain ⟨r10, hq9, hf⟩ := bd_o hf
  refine hs_ci (hs_runV C0 hH hS (n := 0) (As := []) (rest := []) (c_X2_blockedLinks M i0 (show i0 < 11 from by omega) hq9) ⟨⟨zt_560, zt_561, zt_562, zt_4, zt_563⟩, rfl, by decide, by decide, by decide +kernel⟩ ⟨rfl, rfl, Nat.le_of_ble_eq_true rfl, Nat.le_of_ble_eq_true rfl⟩ (hs_recv hK hH 2 i0 (show i0 < 11 from by omega) 6 rfl rfl) rfl rfl hl.1 (Nat.le_of_ble_eq_true rfl) ⟨Nat.le_of_ble_eq_true rfl, Nat.le_of_ble_eq_true rfl⟩ dX2_setBlocked_19) hS (fun H locs hH hS => ?_)
  cases hf
  exact hs_iret C0 hH hS (by decide) (by decide) dX2_setBlocked_22
def f_X2_setBlocked (M : Mem) (i0 : Nat) (a1 : Int32) (a2 : Int32) : Option (Int32 × Mem) := bd (f_X2_hasLink M i0 a1) fun r12 => (if r12 = 0 then f_X2_setBlocked_18 M i0 else if vin a1 20 then (if isB a2 then (nm (mu M 4 (20 * i0 + (ix a1)) 4 a2) fun M14 => f_X2_setBlocked_18 M14 i0) else none) else none)
set_option maxHeartbeats 4000000 in
set_option maxRecDepth 100000 in
theorem c_X2_setBlocked {Y : LY} {l : Launch} (M : Mem) (i0 : Nat) (a1 : Int32) (a2 : Int32) (hi0 : i0 < 11) {r : Int32} {MZ : Mem} (hf : f_X2_setBlocked M i0 a1 a2 = some (r, MZ)) : Met l yX2_setBlocked (WS yX2_setBlocked cX2_setBlocked 3 (Option.some Jvm.ClassFile.FieldType.int)) { frames := 1, cells := 0, slots := 0, locals := 22 } (PcM Y M [.ref (YA Y 2 i0), .int a1, .int a2]) (Qi Y r MZ) 0 0 (AZ Y) := by
  refine met_mk (lv := [(0, .ref (YA Y 2 i0)), (1, .int a1), (2, .int a2)]) [.ref (YA Y 2 i0), .int a1, .int a2] (by decide) rfl rfl (Nat.le_of_ble_eq_true rfl) (fun p e s m below meth c C0 hH ls hl => ?_)
  have hS : va_S (AZ Y) s.heap s.heap [] := va_S.rf
  obtain ⟨hx, hb, hr, hml, hown, hA, hlocks, hK, hZ⟩ := id C0
  unfold f_X2_setBlocked at hf
  refine lv_aload_n hx hb dX2_setBlocked_0 rfl (lv_at hl 0 rfl) ?_
  refine lv_iload_n hx hb dX2_setBlocked_1 rfl (lv_at hl 1 rfl) ?_
  obtain ⟨r12, hq11, hf⟩ := bd_o hf
  refine hs_ci (hs_runV C0 hH hS (n := 1) (As := [.int a1]) (rest := []) (c_X2_hasLink M i0 a1 (show i0 < 11 from by omega) hq11) ⟨⟨zt_559, zt_354, zt_355, zt_4, zt_356⟩, rfl, by decide, by decide, by decide +kernel⟩ ⟨rfl, rfl, Nat.le_of_ble_eq_true rfl, Nat.le_of_ble_eq_true rfl⟩ (hs_recv hK hH 2 i0 (show i0 < 11 from by omega) 6 rfl rfl) rfl rfl hl.1 (Nat.le_of_ble_eq_true rfl) ⟨Nat.le_of_ble_eq_true rfl, Nat.le_of_ble_eq_true rfl⟩ dX2_setBlocked_2) hS (fun H locs hH hS => ?_)
  refine lv_if_eq (tgt := 18) hx hb dX2_setBlocked_5 (by decide) (fun hc16 => ?_) (fun hc16 => ?_)
  · have hf := if_t hf hc16
    exact w_X2_setBlocked_18 C0 M i0 (show i0 < 11 from by omega) hf _ _ _ hH hS (lv_sub hl [0] rfl)
  · have hf := if_f hf hc16
    refine lv_aload_n hx hb dX2_setBlocked_8 rfl (lv_at hl 0 rfl) ?_
    refine hs_get hx hb (T := TX2) hA inAX2 hown hK hH 2 i0 (show i0 < 11 from by omega) 6 rfl rfl 0 (by decide) (hA _ zt_110) rfl rfl dX2_setBlocked_9 ?_
    refine lv_iload_n hx hb dX2_setBlocked_12 rfl (lv_at hl 1 rfl) ?_
    obtain ⟨hg13, hf⟩ := gd_o hf
    have bhg13 := vin_lt hg13
    refine hs_aald hx hb hK hH 3 i0 (show i0 < 11 from by omega) 3 rfl rfl hg13 (q := YA Y 4 (20 * i0 + (ix a1))) rfl dX2_setBlocked_13 ?_
    refine lv_iload_n hx hb dX2_setBlocked_14 rfl (lv_at hl 2 rfl) ?_
    obtain ⟨hg15, hf⟩ := gd_o hf
    refine hs_putz hx hb (T := TX1) hA inAX1 tyX1 tyX1_ok nmX1 hown hK hH hS 4 (20 * i0 + (ix a1)) (show 20 * i0 + (ix a1) < 220 from by omega) 5 rfl rfl 4 (by decide) (hA _ zt_95) rfl rfl (by decide +kernel) hg15 (Nat.le_of_ble_eq_true rfl) rfl dX2_setBlocked_15 (fun H locs hH hS => ?_)
    obtain ⟨M14, eM14, hf⟩ := nm_o hf
    rw [← eM14] at hH
    exact w_X2_setBlocked_18 C0 M14 i0 (show i0 < 11 from by omega) hf _ _ _ hH hS (lv_sub hl [0] rfl)
def f_X2_linksAt_41 (M : Mem) (k4 : Nat → Int32 → Int32 → Int32 → Option Int32) (i0 : Nat) (a1 : Int32) (a2 : Int32) (a3 : Int32) : Option Int32 := k4 i0 a1 a2 (a3 + (1 : Int32))
set_option maxHeartbeats 4000000 in
set_option maxRecDepth 100000 in
theorem w_X2_linksAt_41 {Y : LY} {p : Program} {l : Launch} {e : Env} {s : State} {m : MethodId} {args : Array Value} {below : List Frame} {meth : Method} {c : Code} (C0 : BE Y p s m args meth c cX2_linksAt 4 (Option.some Jvm.ClassFile.FieldType.int) RX2) {r : Int32} (M : Mem) (k4 : Nat → Int32 → Int32 → Int32 → Option Int32) (hk4 : ∀ (i0 : Nat) (a1 : Int32) (a2 : Int32) (a3 : Int32), i0 < 11 → k4 i0 a1 a2 a3 = some r → ∀ (H : Heap) (locs : List Loc) (ls : Array Slot), HS Y M H → va_S (AZ Y) s.heap H locs → lv_has ls 4 [(0, .ref (YA Y 2 i0)), (1, .int a1), (2, .int a2), (3, .int a3)] → W p l e { frames := 0, cells := 0, slots := 0, locals := 0 } s m args below meth c H locs 0 0 (MQ below (Qi Y r M) args s 0 0 (AZ Y)) (F0 m 4 ls [])) : ∀ (i0 : Nat) (a1 : Int32) (a2 : Int32) (a3 : Int32), i0 < 11 → f_X2_linksAt_41 M k4 i0 a1 a2 a3 = some r → ∀ (H : Heap) (locs : List Loc) (ls : Array Slot), HS Y M H → va_S (AZ Y) s.heap H locs → lv_has ls 4 [(0, .ref (YA Y 2 i0)), (1, .int a1), (2, .int a2), (3, .int a3)] → W p l e { frames := 0, cells := 0, slots := 0, locals := 0 } s m args below meth c H locs 0 0 (MQ below (Qi Y r M) args s 0 0 (AZ Y)) (F0 m 41 ls []) := by
  obtain ⟨hx, hb, hr, hml, hown, hA, hlocks, hK, hZ⟩ := id C0
  intro i0 a1 a2 a3 hi0 hf H locs ls hH hS hl
  unfold f_X2_linksAt_41 at hf
  refine lv_iinc (v := a3 + (1 : Int32)) (lv' := [(3, .int (a3 + (1 : Int32))), (0, .ref (YA Y 2 i0)), (1, .int a1), (2, .int a2)]) hx hb dX2_linksAt_41 hl (k := 3) rfl rfl (by decide) rfl (fun ls hl => ?_)
  refine lv_goto (tgt := 4) hx hb dX2_linksAt_44 (by decide) ?_
  exact hk4 i0 a1 a2 (a3 + (1 : Int32)) (show i0 < 11 from by omega) hf _ _ _ hH hS (lv_sub hl [1, 2, 3, 0] rfl)
def f_X2_linksAt_38 (M : Mem) (k4 : Nat → Int32 → Int32 → Int32 → Option Int32) (i0 : Nat) (a1 : Int32) (a2 : Int32) (a3 : Int32) : Option Int32 := f_X2_linksAt_41 M k4 i0 a1 (a2 + (1 : Int32)) a3
set_option maxHeartbeats 4000000 in
set_option maxRecDepth 100000 in
theorem w_X2_linksAt_38 {Y : LY} {p : Program} {l : Launch} {e : Env} {s : State} {m : MethodId} {args : Array Value} {below : List Frame} {meth : Method} {c : Code} (C0 : BE Y p s m args meth c cX2_linksAt 4 (Option.some Jvm.ClassFile.FieldType.int) RX2) {r : Int32} (M : Mem) (k4 : Nat → Int32 → Int32 → Int32 → Option Int32) (hk4 : ∀ (i0 : Nat) (a1 : Int32) (a2 : Int32) (a3 : Int32), i0 < 11 → k4 i0 a1 a2 a3 = some r → ∀ (H : Heap) (locs : List Loc) (ls : Array Slot), HS Y M H → va_S (AZ Y) s.heap H locs → lv_has ls 4 [(0, .ref (YA Y 2 i0)), (1, .int a1), (2, .int a2), (3, .int a3)] → W p l e { frames := 0, cells := 0, slots := 0, locals := 0 } s m args below meth c H locs 0 0 (MQ below (Qi Y r M) args s 0 0 (AZ Y)) (F0 m 4 ls [])) : ∀ (i0 : Nat) (a1 : Int32) (a2 : Int32) (a3 : Int32), i0 < 11 → f_X2_linksAt_38 M k4 i0 a1 a2 a3 = some r → ∀ (H : Heap) (locs : List Loc) (ls : Array Slot), HS Y M H → va_S (AZ Y) s.heap H locs → lv_has ls 4 [(0, .ref (YA Y 2 i0)), (1, .int a1), (2, .int a2), (3, .int a3)] → W p l e { frames := 0, cells := 0, slots := 0, locals := 0 } s m args below meth c H locs 0 0 (MQ below (Qi Y r M) args s 0 0 (AZ Y)) (F0 m 38 ls []) := by
  obtain ⟨hx, hb, hr, hml, hown, hA, hlocks, hK, hZ⟩ := id C0
  intro i0 a1 a2 a3 hi0 hf H locs ls hH hS hl
  unfold f_X2_linksAt_38 at hf
  refine lv_iinc (v := a2 + (1 : Int32)) (lv' := [(2, .int (a2 + (1 : Int32))), (0, .ref (YA Y 2 i0)), (1, .int a1), (3, .int a3)]) hx hb dX2_linksAt_38 hl (k := 2) rfl rfl (by decide) rfl (fun ls hl => ?_)
  exact w_X2_linksAt_41 C0 M k4 hk4 i0 a1 (a2 + (1 : Int32)) a3 (show i0 < 11 from by omega) hf _ _ _ hH hS (lv_sub hl [1, 2, 0, 3] rfl)
def f_X2_linksAt_4 (M : Mem) : Nat → Nat → Int32 → Int32 → Int32 → Option Int32
  | 0, _, _, _, _ => none
  | n + 1, i0, a1, a2, a3 => (if (M 2 i0 2) ≤ a3 then some a2 else if vin a3 20 then ((if (M 4 (20 * i0 + (ix a3)) 0) = a1 then f_X2_linksAt_38 M (f_X2_linksAt_4 M n) i0 a1 a2 a3 else (if (M 4 (20 * i0 + (ix a3)) 1) = a1 then f_X2_linksAt_38 M (f_X2_linksAt_4 M n) i0 a1 a2 a3 else f_X2_linksAt_41 M (f_X2_linksAt_4 M n) i0 a1 a2 a3))) else none)
set_option maxHeartbeats 4000000 in
set_option maxRecDepth 100000 in
theorem w_X2_linksAt_4 {Y : LY} {p : Program} {l : Launch} {e : Env} {s : State} {m : MethodId} {args : Array Value} {below : List Frame} {meth : Method} {c : Code} (C0 : BE Y p s m args meth c cX2_linksAt 4 (Option.some Jvm.ClassFile.FieldType.int) RX2) {r : Int32} (M : Mem) : ∀ (n : Nat) (i0 : Nat) (a1 : Int32) (a2 : Int32) (a3 : Int32), i0 < 11 → f_X2_linksAt_4 M n i0 a1 a2 a3 = some r → ∀ (H : Heap) (locs : List Loc) (ls : Array Slot), HS Y M H → va_S (AZ Y) s.heap H locs → lv_has ls 4 [(0, .ref (YA Y 2 i0)), (1, .int a1), (2, .int a2), (3, .int a3)] → W p l e { frames := 0, cells := 0, slots := 0, locals := 0 } s m args below meth c H locs 0 0 (MQ below (Qi Y r M) args s 0 0 (AZ Y)) (F0 m 4 ls []) := by
  obtain ⟨hx, hb, hr, hml, hown, hA, hlocks, hK, hZ⟩ := id C0
  intro n
  induction n with
  | zero =>
    intro i0 a1 a2 a3 hi0 hf
    cases hf
  | succ n ih =>
    intro i0 a1 a2 a3 hi0 hf H locs ls hH hS hl
    rw [f_X2_linksAt_4] at hf
    refine lv_iload_n hx hb dX2_linksAt_4 rfl (lv_at hl 3 rfl) ?_
    refine lv_aload_n hx hb dX2_linksAt_5 rfl (lv_at hl 0 rfl) ?_
    refine hs_get hx hb (T := TX2) hA inAX2 hown hK hH 2 i0 (show i0 < 11 from by omega) 6 rfl rfl 2 (by decide) (hA _ zt_118) rfl rfl dX2_linksAt_6 ?_
    refine lv_icmp_ge (tgt := 47) hx hb dX2_linksAt_9 (by decide) (fun hc8 => ?_) (fun hc8 => ?_)
    · have hf := if_t hf hc8
      refine lv_iload_n hx hb dX2_linksAt_47 rfl (lv_at hl 2 rfl) ?_
      cases hf
      exact hs_iret C0 hH hS (by decide) (by decide) dX2_linksAt_48
    · have hf := if_f hf hc8
      refine lv_aload_n hx hb dX2_linksAt_12 rfl (lv_at hl 0 rfl) ?_
      refine hs_get hx hb (T := TX2) hA inAX2 hown hK hH 2 i0 (show i0 < 11 from by omega) 6 rfl rfl 0 (by decide) (hA _ zt_110) rfl rfl dX2_linksAt_13 ?_
      refine lv_iload_n hx hb dX2_linksAt_16 rfl (lv_at hl 3 rfl) ?_
      obtain ⟨hg5, hf⟩ := gd_o hf
      have bhg5 := vin_lt hg5
      refine hs_aald hx hb hK hH 3 i0 (show i0 < 11 from by omega) 3 rfl rfl hg5 (q := YA Y 4 (20 * i0 + (ix a3))) rfl dX2_linksAt_17 ?_
      refine hs_get hx hb (T := TX1) hA inAX1 hown hK hH 4 (20 * i0 + (ix a3)) (show 20 * i0 + (ix a3) < 220 from by omega) 5 rfl rfl 0 (by decide) (hA _ zt_78) rfl rfl dX2_linksAt_18 ?_
      refine lv_iload_n hx hb dX2_linksAt_21 rfl (lv_at hl 1 rfl) ?_
      refine lv_icmp_eq (tgt := 38) hx hb dX2_linksAt_22 (by decide) (fun hc7 => ?_) (fun hc7 => ?_)
      · have hf := if_t hf hc7
        exact w_X2_linksAt_38 C0 M (f_X2_linksAt_4 M n) ih i0 a1 a2 a3 (show i0 < 11 from by omega) hf _ _ _ hH hS (lv_sub hl [0, 1, 2, 3] rfl)
      · have hf := if_f hf hc7
        refine lv_aload_n hx hb dX2_linksAt_25 rfl (lv_at hl 0 rfl) ?_
        refine hs_get hx hb (T := TX2) hA inAX2 hown hK hH 2 i0 (show i0 < 11 from by omega) 6 rfl rfl 0 (by decide) (hA _ zt_110) rfl rfl dX2_linksAt_26 ?_
        refine lv_iload_n hx hb dX2_linksAt_29 rfl (lv_at hl 3 rfl) ?_
        refine hs_aald hx hb hK hH 3 i0 (show i0 < 11 from by omega) 3 rfl rfl hg5 (q := YA Y 4 (20 * i0 + (ix a3))) rfl dX2_linksAt_30 ?_
        refine hs_get hx hb (T := TX1) hA inAX1 hown hK hH 4 (20 * i0 + (ix a3)) (show 20 * i0 + (ix a3) < 220 from by omega) 5 rfl rfl 1 (by decide) (hA _ zt_83) rfl rfl dX2_linksAt_31 ?_
        refine lv_iload_n hx hb dX2_linksAt_34 rfl (lv_at hl 1 rfl) ?_
        refine lv_icmp_ne (tgt := 41) hx hb dX2_linksAt_35 (by decide) (fun hc6 => ?_) (fun hc6 => ?_)
        · have hf := if_f hf hc6
          exact w_X2_linksAt_41 C0 M (f_X2_linksAt_4 M n) ih i0 a1 a2 a3 (show i0 < 11 from by omega) hf _ _ _ hH hS (lv_sub hl [0, 1, 2, 3] rfl)
        · have hf := if_t hf hc6
          exact w_X2_linksAt_38 C0 M (f_X2_linksAt_4 M n) ih i0 a1 a2 a3 (show i0 < 11 from by omega) hf _ _ _ hH hS (lv_sub hl [0, 1, 2, 3] rfl)
def f_X2_linksAt (M : Mem) (i0 : Nat) (a1 : Int32) : Option Int32 := f_X2_linksAt_4 M FU i0 a1 (0 : Int32) (0 : Int32)
set_option maxHeartbeats 4000000 in
set_option maxRecDepth 100000 in
theorem c_X2_linksAt {Y : LY} {l : Launch} (M : Mem) (i0 : Nat) (a1 : Int32) (hi0 : i0 < 11) {r : Int32} (hf : f_X2_linksAt M i0 a1 = some r) : Met l yX2_linksAt (WS yX2_linksAt cX2_linksAt 4 (Option.some Jvm.ClassFile.FieldType.int)) { frames := 0, cells := 0, slots := 0, locals := 0 } (PcM Y M [.ref (YA Y 2 i0), .int a1]) (Qi Y r M) 0 0 (AZ Y) := by
  refine met_mk (lv := [(0, .ref (YA Y 2 i0)), (1, .int a1)]) [.ref (YA Y 2 i0), .int a1] (by decide) rfl rfl (Nat.le_of_ble_eq_true rfl) (fun p e s m below meth c C0 hH ls hl => ?_)
  have hS : va_S (AZ Y) s.heap s.heap [] := va_S.rf
  obtain ⟨hx, hb, hr, hml, hown, hA, hlocks, hK, hZ⟩ := id C0
  unfold f_X2_linksAt at hf
  refine lv_iconst (v := (0 : Int32)) hx hb dX2_linksAt_0 (by decide) ?_
  refine lv_istore_n (lv' := [(2, .int (0 : Int32)), (0, .ref (YA Y 2 i0)), (1, .int a1)]) hx hb dX2_linksAt_1 rfl hl (by decide) rfl (fun ls hl => ?_)
  refine lv_iconst (v := (0 : Int32)) hx hb dX2_linksAt_2 (by decide) ?_
  refine lv_istore_n (lv' := [(3, .int (0 : Int32)), (2, .int (0 : Int32)), (0, .ref (YA Y 2 i0)), (1, .int a1)]) hx hb dX2_linksAt_3 rfl hl (by decide) rfl (fun ls hl => ?_)
  exact w_X2_linksAt_4 C0 M FU i0 a1 (0 : Int32) (0 : Int32) (show i0 < 11 from by omega) hf _ _ _ hH hS (lv_sub hl [2, 3, 1, 0] rfl)
def f_X3_isUnderWay (M : Mem) (i0 : Nat) : Option Int32 := (if (M 6 i0 5) = (-1 : Int32) then some (0 : Int32) else some (1 : Int32))
set_option maxHeartbeats 4000000 in
set_option maxRecDepth 100000 in
theorem c_X3_isUnderWay {Y : LY} {l : Launch} (M : Mem) (i0 : Nat) (hi0 : i0 < 132) {r : Int32} (hf : f_X3_isUnderWay M i0 = some r) : Met l yX3_isUnderWay (WS yX3_isUnderWay cX3_isUnderWay 1 (Option.some Jvm.ClassFile.FieldType.boolean)) { frames := 0, cells := 0, slots := 0, locals := 0 } (PcM Y M [.ref (YA Y 6 i0)]) (Qi Y r M) 0 0 (AZ Y) := by
  refine met_mk (lv := [(0, .ref (YA Y 6 i0))]) [.ref (YA Y 6 i0)] (by decide) rfl rfl (Nat.le_of_ble_eq_true rfl) (fun p e s m below meth c C0 hH ls hl => ?_)
  have hS : va_S (AZ Y) s.heap s.heap [] := va_S.rf
  obtain ⟨hx, hb, hr, hml, hown, hA, hlocks, hK, hZ⟩ := id C0
  unfold f_X3_isUnderWay at hf
  refine lv_aload_n hx hb dX3_isUnderWay_0 rfl (lv_at hl 0 rfl) ?_
  refine hs_get hx hb (T := TX3) hA inAX3 hown hK hH 6 i0 (show i0 < 132 from by omega) 7 rfl rfl 5 (by decide) (hA _ zt_151) rfl rfl dX3_isUnderWay_1 ?_
  refine lv_iconst (v := (-1 : Int32)) hx hb dX3_isUnderWay_4 (by decide) ?_
  refine lv_icmp_eq (tgt := 12) hx hb dX3_isUnderWay_5 (by decide) (fun hc2 => ?_) (fun hc2 => ?_)
  · have hf := if_t hf hc2
    refine lv_iconst (v := (0 : Int32)) hx hb dX3_isUnderWay_12 (by decide) ?_
    cases hf
    exact hs_zret C0 hH hS (by decide) (by decide) (by decide) dX3_isUnderWay_13
  · have hf := if_f hf hc2
    refine lv_iconst (v := (1 : Int32)) hx hb dX3_isUnderWay_8 (by decide) ?_
    refine lv_goto (tgt := 13) hx hb dX3_isUnderWay_9 (by decide) ?_
    cases hf
    exact hs_zret C0 hH hS (by decide) (by decide) (by decide) dX3_isUnderWay_13
def f_X4_take_29 (M : Mem) : Option (Int32 × Mem) := some ((M 13 0 1), M)
set_option maxHeartbeats 4000000 in
set_option maxRecDepth 100000 in
theorem w_X4_take_29 {Y : LY} {p : Program} {l : Launch} {e : Env} {s : State} {m : MethodId} {args : Array Value} {below : List Frame} {meth : Method} {c : Code} (C0 : BE Y p s m args meth c cX4_take 2 (Option.some Jvm.ClassFile.FieldType.int) RX4) {r : Int32} {MZ : Mem} : ∀ (M : Mem), f_X4_take_29 M = some (r, MZ) → ∀ (H : Heap) (locs : List Loc) (ls : Array Slot), HS Y M H → va_S (AZ Y) s.heap H locs → lv_has ls 2 [(0, .ref (YA Y 13 0))] → W p l e { frames := 0, cells := 0, slots := 0, locals := 0 } s m args below meth c H locs 0 0 (MQ below (Qi Y r MZ) args s 0 0 (AZ Y)) (F0 m 29 ls []) := by
  obtain ⟨hx, hb, hr, hml, hown, hA, hlocks, hK, hZ⟩ := id C0
  intro M hf H locs ls hH hS hl
  unfold f_X4_take_29 at hf
  refine lv_aload_n hx hb dX4_take_29 rfl (lv_at hl 0 rfl) ?_
  refine hs_get hx hb (T := TX4) hA inAX4 hown hK hH 13 0 (by decide) 8 rfl rfl 1 (by decide) (hA _ zt_237) rfl rfl dX4_take_30 ?_
  cases hf
  exact hs_iret C0 hH hS (by decide) (by decide) dX4_take_33
def f_X4_take (M : Mem) (a1 : Int32) : Option (Int32 × Mem) := (if (60 : Int32) ≤ (M 13 0 1) then f_X4_take_29 M else if vin (M 13 0 1) 60 then (if isC a1 then (nm (mu M 14 0 (ix (M 13 0 1)) a1) fun M8 => nm (mu M8 13 0 1 ((M8 13 0 1) + (1 : Int32))) fun M9 => f_X4_take_29 M9) else none) else none)
set_option maxHeartbeats 4000000 in
set_option maxRecDepth 100000 in
theorem c_X4_take {Y : LY} {l : Launch} (M : Mem) (a1 : Int32) {r : Int32} {MZ : Mem} (hf : f_X4_take M a1 = some (r, MZ)) : Met l yX4_take (WS yX4_take cX4_take 2 (Option.some Jvm.ClassFile.FieldType.int)) { frames := 0, cells := 0, slots := 0, locals := 0 } (PcM Y M [.ref (YA Y 13 0), .int a1]) (Qi Y r MZ) 0 0 (AZ Y) := by
  refine met_mk (lv := [(0, .ref (YA Y 13 0)), (1, .int a1)]) [.ref (YA Y 13 0), .int a1] (by decide) rfl rfl (Nat.le_of_ble_eq_true rfl) (fun p e s m below meth c C0 hH ls hl => ?_)
  have hS : va_S (AZ Y) s.heap s.heap [] := va_S.rf
  obtain ⟨hx, hb, hr, hml, hown, hA, hlocks, hK, hZ⟩ := id C0
  unfold f_X4_take at hf
  refine lv_aload_n hx hb dX4_take_0 rfl (lv_at hl 0 rfl) ?_
  refine hs_get hx hb (T := TX4) hA inAX4 hown hK hH 13 0 (by decide) 8 rfl rfl 1 (by decide) (hA _ zt_237) rfl rfl dX4_take_1 ?_
  refine lv_bipush (v := (60 : Int32)) hx hb dX4_take_4 (by decide) ?_
  refine lv_icmp_ge (tgt := 29) hx hb dX4_take_6 (by decide) (fun hc10 => ?_) (fun hc10 => ?_)
  · have hf := if_t hf hc10
    exact w_X4_take_29 C0 M hf _ _ _ hH hS (lv_sub hl [0] rfl)
  · have hf := if_f hf hc10
    refine lv_aload_n hx hb dX4_take_9 rfl (lv_at hl 0 rfl) ?_
    refine hs_get hx hb (T := TX4) hA inAX4 hown hK hH 13 0 (by decide) 8 rfl rfl 0 (by decide) (hA _ zt_236) rfl rfl dX4_take_10 ?_
    refine lv_aload_n hx hb dX4_take_13 rfl (lv_at hl 0 rfl) ?_
    refine hs_get hx hb (T := TX4) hA inAX4 hown hK hH 13 0 (by decide) 8 rfl rfl 1 (by decide) (hA _ zt_237) rfl rfl dX4_take_14 ?_
    refine lv_iload_n hx hb dX4_take_17 rfl (lv_at hl 1 rfl) ?_
    obtain ⟨hg6, hf⟩ := gd_o hf
    have bhg6 := vin_lt hg6
    obtain ⟨hg7, hf⟩ := gd_o hf
    refine hs_cast hx hb hK hH hS 14 0 (by decide) (fun _ => rfl) hg7 hg6 rfl dX4_take_18 (fun H locs hH hS => ?_)
    obtain ⟨M8, eM8, hf⟩ := nm_o hf
    rw [← eM8] at hH
    refine lv_aload_n hx hb dX4_take_19 rfl (lv_at hl 0 rfl) ?_
    refine lv_dup hx hb dX4_take_20 rfl ?_
    refine hs_get hx hb (T := TX4) hA inAX4 hown hK hH 13 0 (by decide) 8 rfl rfl 1 (by decide) (hA _ zt_237) rfl rfl dX4_take_21 ?_
    refine lv_iconst (v := (1 : Int32)) hx hb dX4_take_24 (by decide) ?_
    refine lv_iadd hx hb dX4_take_25 ?_
    refine hs_put hx hb (T := TX4) hA inAX4 tyX4 tyX4_ok nmX4 hown hK hH hS 13 0 (by decide) 8 rfl rfl 1 (by decide) (hA _ zt_237) rfl rfl (by decide +kernel) (Nat.le_of_ble_eq_true rfl) rfl dX4_take_26 (fun H locs hH hS => ?_)
    obtain ⟨M9, eM9, hf⟩ := nm_o hf
    rw [← eM9] at hH
    exact w_X4_take_29 C0 M9 hf _ _ _ hH hS (lv_sub hl [0] rfl)
def f_X5_isBetween (M : Mem) (a0 : Int32) (a1 : Int32) (a2 : Int32) : Option Int32 := (if a0 < a1 then some (0 : Int32) else (if a2 < a0 then some (0 : Int32) else some (1 : Int32)))
set_option maxHeartbeats 4000000 in
set_option maxRecDepth 100000 in
theorem c_X5_isBetween {Y : LY} {l : Launch} (M : Mem) (a0 : Int32) (a1 : Int32) (a2 : Int32) {r : Int32} (hf : f_X5_isBetween M a0 a1 a2 = some r) : Met l yX5_isBetween (WS yX5_isBetween cX5_isBetween 3 (Option.some Jvm.ClassFile.FieldType.boolean)) { frames := 0, cells := 0, slots := 0, locals := 0 } (PcM Y M [.int a0, .int a1, .int a2]) (Qi Y r M) 0 0 (AZ Y) := by
  refine met_mk (lv := [(0, .int a0), (1, .int a1), (2, .int a2)]) [.int a0, .int a1, .int a2] (by decide) rfl rfl (Nat.le_of_ble_eq_true rfl) (fun p e s m below meth c C0 hH ls hl => ?_)
  have hS : va_S (AZ Y) s.heap s.heap [] := va_S.rf
  obtain ⟨hx, hb, hr, hml, hown, hA, hlocks, hK, hZ⟩ := id C0
  unfold f_X5_isBetween at hf
  refine lv_iload_n hx hb dX5_isBetween_0 rfl (lv_at hl 0 rfl) ?_
  refine lv_iload_n hx hb dX5_isBetween_1 rfl (lv_at hl 1 rfl) ?_
  refine lv_icmp_lt (tgt := 14) hx hb dX5_isBetween_2 (by decide) (fun hc4 => ?_) (fun hc4 => ?_)
  · have hf := if_t hf hc4
    refine lv_iconst (v := (0 : Int32)) hx hb dX5_isBetween_14 (by decide) ?_
    cases hf
    exact hs_zret C0 hH hS (by decide) (by decide) (by decide) dX5_isBetween_15
  · have hf := if_f hf hc4
    refine lv_iload_n hx hb dX5_isBetween_5 rfl (lv_at hl 0 rfl) ?_
    refine lv_iload_n hx hb dX5_isBetween_6 rfl (lv_at hl 2 rfl) ?_
    refine lv_icmp_gt (tgt := 14) hx hb dX5_isBetween_7 (by decide) (fun hc3 => ?_) (fun hc3 => ?_)
    · have hf := if_t hf hc3
      refine lv_iconst (v := (0 : Int32)) hx hb dX5_isBetween_14 (by decide) ?_
      cases hf
      exact hs_zret C0 hH hS (by decide) (by decide) (by decide) dX5_isBetween_15
    · have hf := if_f hf hc3
      refine lv_iconst (v := (1 : Int32)) hx hb dX5_isBetween_10 (by decide) ?_
      refine lv_goto (tgt := 15) hx hb dX5_isBetween_11 (by decide) ?_
      cases hf
      exact hs_zret C0 hH hS (by decide) (by decide) (by decide) dX5_isBetween_15
def f_X5_refusalOfNewLink (M : Mem) (i0 : Nat) (a1 : Int32) (a2 : Int32) (a3 : Int32) (a4 : Int32) : Option Int32 := bd (f_X2_hasPlace M i0 a1) fun r16 => (if r16 = 0 then some (1 : Int32) else bd (f_X2_hasPlace M i0 a2) fun r18 => (if r18 = 0 then some (1 : Int32) else (if a1 = a2 then some (2 : Int32) else bd (f_X5_isBetween M a3 (1 : Int32) (9 : Int32)) fun r20 => (if r20 = 0 then some (2 : Int32) else bd (f_X5_isBetween M a4 (0 : Int32) (5 : Int32)) fun r22 => (if r22 = 0 then some (2 : Int32) else (if (M 2 i0 2) < (20 : Int32) then some (0 : Int32) else some (3 : Int32)))))))
set_option maxHeartbeats 4000000 in
set_option maxRecDepth 100000 in
theorem c_X5_refusalOfNewLink {Y : LY} {l : Launch} (M : Mem) (i0 : Nat) (a1 : Int32) (a2 : Int32) (a3 : Int32) (a4 : Int32) (hi0 : i0 < 11) {r : Int32} (hf : f_X5_refusalOfNewLink M i0 a1 a2 a3 a4 = some r) : Met l yX5_refusalOfNewLink (WS yX5_refusalOfNewLink cX5_refusalOfNewLink 5 (Option.some Jvm.ClassFile.FieldType.int)) { frames := 1, cells := 0, slots := 0, locals := 22 } (PcM Y M [.ref (YA Y 1 i0), .int a1, .int a2, .int a3, .int a4]) (Qi Y r M) 0 0 (AZ Y) := by
  refine met_mk (lv := [(0, .ref (YA Y 1 i0)), (1, .int a1), (2, .int a2), (3, .int a3), (4, .int a4)]) [.ref (YA Y 1 i0), .int a1, .int a2, .int a3, .int a4] (by decide) rfl rfl (Nat.le_of_ble_eq_true rfl) (fun p e s m below meth c C0 hH ls hl => ?_)
  have hS : va_S (AZ Y) s.heap s.heap [] := va_S.rf
  obtain ⟨hx, hb, hr, hml, hown, hA, hlocks, hK, hZ⟩ := id C0
  unfold f_X5_refusalOfNewLink at hf
  refine lv_aload_n hx hb dX5_refusalOfNewLink_0 rfl (lv_at hl 0 rfl) ?_
  refine hs_get hx hb (T := TX5) hA inAX5 hown hK hH 1 i0 (show i0 < 11 from by omega) 9 rfl rfl 1 (by decide) (hA _ zt_173) rfl rfl dX5_refusalOfNewLink_1 ?_
  refine lv_iload_n hx hb dX5_refusalOfNewLink_4 rfl (lv_at hl 1 rfl) ?_
  obtain ⟨r16, hq15, hf⟩ := bd_o hf
  refine hs_ci (hs_runV C0 hH hS (n := 1) (As := [.int a1]) (rest := []) (c_X2_hasPlace M i0 a1 (show i0 < 11 from by omega) hq15) ⟨⟨zt_342, zt_343, zt_344, zt_4, zt_345⟩, rfl, by decide, by decide, by decide +kernel⟩ ⟨rfl, rfl, Nat.le_of_ble_eq_true rfl, Nat.le_of_ble_eq_true rfl⟩ (hs_recv hK hH 2 i0 (show i0 < 11 from by omega) 6 rfl rfl) rfl rfl hl.1 (Nat.le_of_ble_eq_true rfl) ⟨Nat.le_of_ble_eq_true rfl, Nat.le_of_ble_eq_true rfl⟩ dX5_refusalOfNewLink_5) hS (fun H locs hH hS => ?_)
  refine lv_if_eq (tgt := 22) hx hb dX5_refusalOfNewLink_8 (by decide) (fun hc28 => ?_) (fun hc28 => ?_)
  · have hf := if_t hf hc28
    refine lv_iconst (v := (1 : Int32)) hx hb dX5_refusalOfNewLink_22 (by decide) ?_
    cases hf
    exact hs_iret C0 hH hS (by decide) (by decide) dX5_refusalOfNewLink_23
  · have hf := if_f hf hc28
    refine lv_aload_n hx hb dX5_refusalOfNewLink_11 rfl (lv_at hl 0 rfl) ?_
    refine hs_get hx hb (T := TX5) hA inAX5 hown hK hH 1 i0 (show i0 < 11 from by omega) 9 rfl rfl 1 (by decide) (hA _ zt_173) rfl rfl dX5_refusalOfNewLink_12 ?_
    refine lv_iload_n hx hb dX5_refusalOfNewLink_15 rfl (lv_at hl 2 rfl) ?_
    obtain ⟨r18, hq17, hf⟩ := bd_o hf
    refine hs_ci (hs_runV C0 hH hS (n := 1) (As := [.int a2]) (rest := []) (c_X2_hasPlace M i0 a2 (show i0 < 11 from by omega) hq17) ⟨⟨zt_342, zt_343, zt_344, zt_4, zt_345⟩, rfl, by decide, by decide, by decide +kernel⟩ ⟨rfl, rfl, Nat.le_of_ble_eq_true rfl, Nat.le_of_ble_eq_true rfl⟩ (hs_recv hK hH 2 i0 (show i0 < 11 from by omega) 6 rfl rfl) rfl rfl hl.1 (Nat.le_of_ble_eq_true rfl) ⟨Nat.le_of_ble_eq_true rfl, Nat.le_of_ble_eq_true rfl⟩ dX5_refusalOfNewLink_16) hS (fun H locs hH hS => ?_)
    refine lv_if_ne (tgt := 24) hx hb dX5_refusalOfNewLink_19 (by decide) (fun hc27 => ?_) (fun hc27 => ?_)
    · have hf := if_f hf hc27
      refine lv_iload_n hx hb dX5_refusalOfNewLink_24 rfl (lv_at hl 1 rfl) ?_
      refine lv_iload_n hx hb dX5_refusalOfNewLink_25 rfl (lv_at hl 2 rfl) ?_
      refine lv_icmp_eq (tgt := 49) hx hb dX5_refusalOfNewLink_26 (by decide) (fun hc26 => ?_) (fun hc26 => ?_)
      · have hf := if_t hf hc26
        refine lv_iconst (v := (2 : Int32)) hx hb dX5_refusalOfNewLink_49 (by decide) ?_
        cases hf
        exact hs_iret C0 hH hS (by decide) (by decide) dX5_refusalOfNewLink_50
      · have hf := if_f hf hc26
        refine lv_iload_n hx hb dX5_refusalOfNewLink_29 rfl (lv_at hl 3 rfl) ?_
        refine lv_iconst (v := (1 : Int32)) hx hb dX5_refusalOfNewLink_30 (by decide) ?_
        refine lv_bipush (v := (9 : Int32)) hx hb dX5_refusalOfNewLink_31 (by decide) ?_
        obtain ⟨r20, hq19, hf⟩ := bd_o hf
        refine hs_ci (hs_runS C0 hH hS (n := 3) (As := [.int a3, .int (1 : Int32), .int (9 : Int32)]) (rest := []) (c_X5_isBetween M a3 (1 : Int32) (9 : Int32) hq19) ⟨⟨zt_346, zt_347, zt_3, zt_348⟩, by decide, by decide, by decide +kernel⟩ ⟨rfl, rfl, Nat.le_of_ble_eq_true rfl, Nat.le_of_ble_eq_true rfl⟩ rfl rfl hl.1 (Nat.le_of_ble_eq_true rfl) ⟨Nat.le_of_ble_eq_true rfl, Nat.le_of_ble_eq_true rfl⟩ dX5_refusalOfNewLink_33) hS (fun H locs hH hS => ?_)
        refine lv_if_eq (tgt := 49) hx hb dX5_refusalOfNewLink_36 (by decide) (fun hc25 => ?_) (fun hc25 => ?_)
        · have hf := if_t hf hc25
          refine lv_iconst (v := (2 : Int32)) hx hb dX5_refusalOfNewLink_49 (by decide) ?_
          cases hf
          exact hs_iret C0 hH hS (by decide) (by decide) dX5_refusalOfNewLink_50
        · have hf := if_f hf hc25
          refine lv_iload hx hb dX5_refusalOfNewLink_39 (lv_at hl 4 rfl) ?_
          refine lv_iconst (v := (0 : Int32)) hx hb dX5_refusalOfNewLink_41 (by decide) ?_
          refine lv_iconst (v := (5 : Int32)) hx hb dX5_refusalOfNewLink_42 (by decide) ?_
          obtain ⟨r22, hq21, hf⟩ := bd_o hf
          refine hs_ci (hs_runS C0 hH hS (n := 3) (As := [.int a4, .int (0 : Int32), .int (5 : Int32)]) (rest := []) (c_X5_isBetween M a4 (0 : Int32) (5 : Int32) hq21) ⟨⟨zt_346, zt_347, zt_3, zt_348⟩, by decide, by decide, by decide +kernel⟩ ⟨rfl, rfl, Nat.le_of_ble_eq_true rfl, Nat.le_of_ble_eq_true rfl⟩ rfl rfl hl.1 (Nat.le_of_ble_eq_true rfl) ⟨Nat.le_of_ble_eq_true rfl, Nat.le_of_ble_eq_true rfl⟩ dX5_refusalOfNewLink_43) hS (fun H locs hH hS => ?_)
          refine lv_if_ne (tgt := 51) hx hb dX5_refusalOfNewLink_46 (by decide) (fun hc24 => ?_) (fun hc24 => ?_)
          · have hf := if_f hf hc24
            refine lv_aload_n hx hb dX5_refusalOfNewLink_51 rfl (lv_at hl 0 rfl) ?_
            refine hs_get hx hb (T := TX5) hA inAX5 hown hK hH 1 i0 (show i0 < 11 from by omega) 9 rfl rfl 1 (by decide) (hA _ zt_173) rfl rfl dX5_refusalOfNewLink_52 ?_
            refine hs_get hx hb (T := TX2) hA inAX2 hown hK hH 2 i0 (show i0 < 11 from by omega) 6 rfl rfl 2 (by decide) (hA _ zt_119) rfl rfl dX5_refusalOfNewLink_55 ?_
            refine lv_bipush (v := (20 : Int32)) hx hb dX5_refusalOfNewLink_58 (by decide) ?_
            refine lv_icmp_lt (tgt := 67) hx hb dX5_refusalOfNewLink_60 (by decide) (fun hc23 => ?_) (fun hc23 => ?_)
            · have hf := if_t hf hc23
              refine lv_iconst (v := (0 : Int32)) hx hb dX5_refusalOfNewLink_67 (by decide) ?_
              cases hf
              exact hs_iret C0 hH hS (by decide) (by decide) dX5_refusalOfNewLink_68
            · have hf := if_f hf hc23
              refine lv_iconst (v := (3 : Int32)) hx hb dX5_refusalOfNewLink_63 (by decide) ?_
              refine lv_goto (tgt := 68) hx hb dX5_refusalOfNewLink_64 (by decide) ?_
              cases hf
              exact hs_iret C0 hH hS (by decide) (by decide) dX5_refusalOfNewLink_68
          · have hf := if_t hf hc24
            refine lv_iconst (v := (2 : Int32)) hx hb dX5_refusalOfNewLink_49 (by decide) ?_
            cases hf
            exact hs_iret C0 hH hS (by decide) (by decide) dX5_refusalOfNewLink_50
    · have hf := if_t hf hc27
      refine lv_iconst (v := (1 : Int32)) hx hb dX5_refusalOfNewLink_22 (by decide) ?_
      cases hf
      exact hs_iret C0 hH hS (by decide) (by decide) dX5_refusalOfNewLink_23
def f_X5_refusalOfBlocking (M : Mem) (i0 : Nat) (a1 : Int32) (a2 : Int32) : Option Int32 := bd (f_X2_hasLink M i0 a1) fun r7 => (if r7 = 0 then some (1 : Int32) else if vin a1 20 then ((if (M 4 (20 * i0 + (ix a1)) 4) = a2 then some (3 : Int32) else some (0 : Int32))) else none)
set_option maxHeartbeats 4000000 in
set_option maxRecDepth 100000 in
theorem c_X5_refusalOfBlocking {Y : LY} {l : Launch} (M : Mem) (i0 : Nat) (a1 : Int32) (a2 : Int32) (hi0 : i0 < 11) {r : Int32} (hf : f_X5_refusalOfBlocking M i0 a1 a2 = some r) : Met l yX5_refusalOfBlocking (WS yX5_refusalOfBlocking cX5_refusalOfBlocking 3 (Option.some Jvm.ClassFile.FieldType.int)) { frames := 1, cells := 0, slots := 0, locals := 21 } (PcM Y M [.ref (YA Y 1 i0), .int a1, .int a2]) (Qi Y r M) 0 0 (AZ Y) := by
  refine met_mk (lv := [(0, .ref (YA Y 1 i0)), (1, .int a1), (2, .int a2)]) [.ref (YA Y 1 i0), .int a1, .int a2] (by decide) rfl rfl (Nat.le_of_ble_eq_true rfl) (fun p e s m below meth c C0 hH ls hl => ?_)
  have hS : va_S (AZ Y) s.heap s.heap [] := va_S.rf
  obtain ⟨hx, hb, hr, hml, hown, hA, hlocks, hK, hZ⟩ := id C0
  unfold f_X5_refusalOfBlocking at hf
  refine lv_aload_n hx hb dX5_refusalOfBlocking_0 rfl (lv_at hl 0 rfl) ?_
  refine hs_get hx hb (T := TX5) hA inAX5 hown hK hH 1 i0 (show i0 < 11 from by omega) 9 rfl rfl 1 (by decide) (hA _ zt_173) rfl rfl dX5_refusalOfBlocking_1 ?_
  refine lv_iload_n hx hb dX5_refusalOfBlocking_4 rfl (lv_at hl 1 rfl) ?_
  obtain ⟨r7, hq6, hf⟩ := bd_o hf
  refine hs_ci (hs_runV C0 hH hS (n := 1) (As := [.int a1]) (rest := []) (c_X2_hasLink M i0 a1 (show i0 < 11 from by omega) hq6) ⟨⟨zt_353, zt_354, zt_355, zt_4, zt_356⟩, rfl, by decide, by decide, by decide +kernel⟩ ⟨rfl, rfl, Nat.le_of_ble_eq_true rfl, Nat.le_of_ble_eq_true rfl⟩ (hs_recv hK hH 2 i0 (show i0 < 11 from by omega) 6 rfl rfl) rfl rfl hl.1 (Nat.le_of_ble_eq_true rfl) ⟨Nat.le_of_ble_eq_true rfl, Nat.le_of_ble_eq_true rfl⟩ dX5_refusalOfBlocking_5) hS (fun H locs hH hS => ?_)
  refine lv_if_ne (tgt := 13) hx hb dX5_refusalOfBlocking_8 (by decide) (fun hc10 => ?_) (fun hc10 => ?_)
  · have hf := if_f hf hc10
    refine lv_aload_n hx hb dX5_refusalOfBlocking_13 rfl (lv_at hl 0 rfl) ?_
    refine hs_get hx hb (T := TX5) hA inAX5 hown hK hH 1 i0 (show i0 < 11 from by omega) 9 rfl rfl 1 (by decide) (hA _ zt_173) rfl rfl dX5_refusalOfBlocking_14 ?_
    refine hs_get hx hb (T := TX2) hA inAX2 hown hK hH 2 i0 (show i0 < 11 from by omega) 6 rfl rfl 0 (by decide) (hA _ zt_112) rfl rfl dX5_refusalOfBlocking_17 ?_
    refine lv_iload_n hx hb dX5_refusalOfBlocking_20 rfl (lv_at hl 1 rfl) ?_
    obtain ⟨hg8, hf⟩ := gd_o hf
    have bhg8 := vin_lt hg8
    refine hs_aald hx hb hK hH 3 i0 (show i0 < 11 from by omega) 3 rfl rfl hg8 (q := YA Y 4 (20 * i0 + (ix a1))) rfl dX5_refusalOfBlocking_21 ?_
    refine hs_get hx hb (T := TX1) hA inAX1 hown hK hH 4 (20 * i0 + (ix a1)) (show 20 * i0 + (ix a1) < 220 from by omega) 5 rfl rfl 4 (by decide) (hA _ zt_98) rfl rfl dX5_refusalOfBlocking_22 ?_
    refine lv_iload_n hx hb dX5_refusalOfBlocking_25 rfl (lv_at hl 2 rfl) ?_
    refine lv_icmp_ne (tgt := 33) hx hb dX5_refusalOfBlocking_26 (by decide) (fun hc9 => ?_) (fun hc9 => ?_)
    · have hf := if_f hf hc9
      refine lv_iconst (v := (0 : Int32)) hx hb dX5_refusalOfBlocking_33 (by decide) ?_
      cases hf
      exact hs_iret C0 hH hS (by decide) (by decide) dX5_refusalOfBlocking_34
    · have hf := if_t hf hc9
      refine lv_iconst (v := (3 : Int32)) hx hb dX5_refusalOfBlocking_29 (by decide) ?_
      refine lv_goto (tgt := 34) hx hb dX5_refusalOfBlocking_30 (by decide) ?_
      cases hf
      exact hs_iret C0 hH hS (by decide) (by decide) dX5_refusalOfBlocking_34
  · have hf := if_t hf hc10
    refine lv_iconst (v := (1 : Int32)) hx hb dX5_refusalOfBlocking_11 (by decide) ?_
    cases hf
    exact hs_iret C0 hH hS (by decide) (by decide) dX5_refusalOfBlocking_12
def f_X5_refusalOfNewParcel (M : Mem) (i0 : Nat) (a1 : Int32) (a2 : Int32) (a3 : Int32) (a4 : Int32) : Option Int32 := bd (f_X2_hasPlace M i0 a1) fun r16 => (if r16 = 0 then some (1 : Int32) else bd (f_X2_hasPlace M i0 a2) fun r18 => (if r18 = 0 then some (1 : Int32) else (if a1 = a2 then some (2 : Int32) else bd (f_X5_isBetween M a3 (1 : Int32) (9 : Int32)) fun r20 => (if r20 = 0 then some (2 : Int32) else bd (f_X5_isBetween M a4 (0 : Int32) (20 : Int32)) fun r22 => (if r22 = 0 then some (2 : Int32) else (if (M 1 i0 3) < (12 : Int32) then some (0 : Int32) else some (3 : Int32)))))))
set_option maxHeartbeats 4000000 in
set_option maxRecDepth 100000 in
theorem c_X5_refusalOfNewParcel {Y : LY} {l : Launch} (M : Mem) (i0 : Nat) (a1 : Int32) (a2 : Int32) (a3 : Int32) (a4 : Int32) (hi0 : i0 < 11) {r : Int32} (hf : f_X5_refusalOfNewParcel M i0 a1 a2 a3 a4 = some r) : Met l yX5_refusalOfNewParcel (WS yX5_refusalOfNewParcel cX5_refusalOfNewParcel 5 (Option.some Jvm.ClassFile.FieldType.int)) { frames := 1, cells := 0, slots := 0, locals := 22 } (PcM Y M [.ref (YA Y 1 i0), .int a1, .int a2, .int a3, .int a4]) (Qi Y r M) 0 0 (AZ Y) := by
  refine met_mk (lv := [(0, .ref (YA Y 1 i0)), (1, .int a1), (2, .int a2), (3, .int a3), (4, .int a4)]) [.ref (YA Y 1 i0), .int a1, .int a2, .int a3, .int a4] (by decide) rfl rfl (Nat.le_of_ble_eq_true rfl) (fun p e s m below meth c C0 hH ls hl => ?_)
  have hS : va_S (AZ Y) s.heap s.heap [] := va_S.rf
  obtain ⟨hx, hb, hr, hml, hown, hA, hlocks, hK, hZ⟩ := id C0
  unfold f_X5_refusalOfNewParcel at hf
  refine lv_aload_n hx hb dX5_refusalOfNewParcel_0 rfl (lv_at hl 0 rfl) ?_
  refine hs_get hx hb (T := TX5) hA inAX5 hown hK hH 1 i0 (show i0 < 11 from by omega) 9 rfl rfl 1 (by decide) (hA _ zt_173) rfl rfl dX5_refusalOfNewParcel_1 ?_
  refine lv_iload_n hx hb dX5_refusalOfNewParcel_4 rfl (lv_at hl 1 rfl) ?_
  obtain ⟨r16, hq15, hf⟩ := bd_o hf
  refine hs_ci (hs_runV C0 hH hS (n := 1) (As := [.int a1]) (rest := []) (c_X2_hasPlace M i0 a1 (show i0 < 11 from by omega) hq15) ⟨⟨zt_342, zt_343, zt_344, zt_4, zt_345⟩, rfl, by decide, by decide, by decide +kernel⟩ ⟨rfl, rfl, Nat.le_of_ble_eq_true rfl, Nat.le_of_ble_eq_true rfl⟩ (hs_recv hK hH 2 i0 (show i0 < 11 from by omega) 6 rfl rfl) rfl rfl hl.1 (Nat.le_of_ble_eq_true rfl) ⟨Nat.le_of_ble_eq_true rfl, Nat.le_of_ble_eq_true rfl⟩ dX5_refusalOfNewParcel_5) hS (fun H locs hH hS => ?_)
  refine lv_if_eq (tgt := 22) hx hb dX5_refusalOfNewParcel_8 (by decide) (fun hc28 => ?_) (fun hc28 => ?_)
  · have hf := if_t hf hc28
    refine lv_iconst (v := (1 : Int32)) hx hb dX5_refusalOfNewParcel_22 (by decide) ?_
    cases hf
    exact hs_iret C0 hH hS (by decide) (by decide) dX5_refusalOfNewParcel_23
  · have hf := if_f hf hc28
    refine lv_aload_n hx hb dX5_refusalOfNewParcel_11 rfl (lv_at hl 0 rfl) ?_
    refine hs_get hx hb (T := TX5) hA inAX5 hown hK hH 1 i0 (show i0 < 11 from by omega) 9 rfl rfl 1 (by decide) (hA _ zt_173) rfl rfl dX5_refusalOfNewParcel_12 ?_
    refine lv_iload_n hx hb dX5_refusalOfNewParcel_15 rfl (lv_at hl 2 rfl) ?_
    obtain ⟨r18, hq17, hf⟩ := bd_o hf
    refine hs_ci (hs_runV C0 hH hS (n := 1) (As := [.int a2]) (rest := []) (c_X2_hasPlace M i0 a2 (show i0 < 11 from by omega) hq17) ⟨⟨zt_342, zt_343, zt_344, zt_4, zt_345⟩, rfl, by decide, by decide, by decide +kernel⟩ ⟨rfl, rfl, Nat.le_of_ble_eq_true rfl, Nat.le_of_ble_eq_true rfl⟩ (hs_recv hK hH 2 i0 (show i0 < 11 from by omega) 6 rfl rfl) rfl rfl hl.1 (Nat.le_of_ble_eq_true rfl) ⟨Nat.le_of_ble_eq_true rfl, Nat.le_of_ble_eq_true rfl⟩ dX5_refusalOfNewParcel_16) hS (fun H locs hH hS => ?_)
    refine lv_if_ne (tgt := 24) hx hb dX5_refusalOfNewParcel_19 (by decide) (fun hc27 => ?_) (fun hc27 => ?_)
    · have hf := if_f hf hc27
      refine lv_iload_n hx hb dX5_refusalOfNewParcel_24 rfl (lv_at hl 1 rfl) ?_
      refine lv_iload_n hx hb dX5_refusalOfNewParcel_25 rfl (lv_at hl 2 rfl) ?_
      refine lv_icmp_eq (tgt := 50) hx hb dX5_refusalOfNewParcel_26 (by decide) (fun hc26 => ?_) (fun hc26 => ?_)
      · have hf := if_t hf hc26
        refine lv_iconst (v := (2 : Int32)) hx hb dX5_refusalOfNewParcel_50 (by decide) ?_
        cases hf
        exact hs_iret C0 hH hS (by decide) (by decide) dX5_refusalOfNewParcel_51
      · have hf := if_f hf hc26
        refine lv_iload_n hx hb dX5_refusalOfNewParcel_29 rfl (lv_at hl 3 rfl) ?_
        refine lv_iconst (v := (1 : Int32)) hx hb dX5_refusalOfNewParcel_30 (by decide) ?_
        refine lv_bipush (v := (9 : Int32)) hx hb dX5_refusalOfNewParcel_31 (by decide) ?_
        obtain ⟨r20, hq19, hf⟩ := bd_o hf
        refine hs_ci (hs_runS C0 hH hS (n := 3) (As := [.int a3, .int (1 : Int32), .int (9 : Int32)]) (rest := []) (c_X5_isBetween M a3 (1 : Int32) (9 : Int32) hq19) ⟨⟨zt_346, zt_347, zt_3, zt_348⟩, by decide, by decide, by decide +kernel⟩ ⟨rfl, rfl, Nat.le_of_ble_eq_true rfl, Nat.le_of_ble_eq_true rfl⟩ rfl rfl hl.1 (Nat.le_of_ble_eq_true rfl) ⟨Nat.le_of_ble_eq_true rfl, Nat.le_of_ble_eq_true rfl⟩ dX5_refusalOfNewParcel_33) hS (fun H locs hH hS => ?_)
        refine lv_if_eq (tgt := 50) hx hb dX5_refusalOfNewParcel_36 (by decide) (fun hc25 => ?_) (fun hc25 => ?_)
        · have hf := if_t hf hc25
          refine lv_iconst (v := (2 : Int32)) hx hb dX5_refusalOfNewParcel_50 (by decide) ?_
          cases hf
          exact hs_iret C0 hH hS (by decide) (by decide) dX5_refusalOfNewParcel_51
        · have hf := if_f hf hc25
          refine lv_iload hx hb dX5_refusalOfNewParcel_39 (lv_at hl 4 rfl) ?_
          refine lv_iconst (v := (0 : Int32)) hx hb dX5_refusalOfNewParcel_41 (by decide) ?_
          refine lv_bipush (v := (20 : Int32)) hx hb dX5_refusalOfNewParcel_42 (by decide) ?_
          obtain ⟨r22, hq21, hf⟩ := bd_o hf
          refine hs_ci (hs_runS C0 hH hS (n := 3) (As := [.int a4, .int (0 : Int32), .int (20 : Int32)]) (rest := []) (c_X5_isBetween M a4 (0 : Int32) (20 : Int32) hq21) ⟨⟨zt_346, zt_347, zt_3, zt_348⟩, by decide, by decide, by decide +kernel⟩ ⟨rfl, rfl, Nat.le_of_ble_eq_true rfl, Nat.le_of_ble_eq_true rfl⟩ rfl rfl hl.1 (Nat.le_of_ble_eq_true rfl) ⟨Nat.le_of_ble_eq_true rfl, Nat.le_of_ble_eq_true rfl⟩ dX5_refusalOfNewParcel_44) hS (fun H locs hH hS => ?_)
          refine lv_if_ne (tgt := 52) hx hb dX5_refusalOfNewParcel_47 (by decide) (fun hc24 => ?_) (fun hc24 => ?_)
          · have hf := if_f hf hc24
            refine lv_aload_n hx hb dX5_refusalOfNewParcel_52 rfl (lv_at hl 0 rfl) ?_
            refine hs_get hx hb (T := TX5) hA inAX5 hown hK hH 1 i0 (show i0 < 11 from by omega) 9 rfl rfl 3 (by decide) (hA _ zt_177) rfl rfl dX5_refusalOfNewParcel_53 ?_
            refine lv_bipush (v := (12 : Int32)) hx hb dX5_refusalOfNewParcel_56 (by decide) ?_
            refine lv_icmp_lt (tgt := 65) hx hb dX5_refusalOfNewParcel_58 (by decide) (fun hc23 => ?_) (fun hc23 => ?_)
            · have hf := if_t hf hc23
              refine lv_iconst (v := (0 : Int32)) hx hb dX5_refusalOfNewParcel_65 (by decide) ?_
              cases hf
              exact hs_iret C0 hH hS (by decide) (by decide) dX5_refusalOfNewParcel_66
            · have hf := if_f hf hc23
              refine lv_iconst (v := (3 : Int32)) hx hb dX5_refusalOfNewParcel_61 (by decide) ?_
              refine lv_goto (tgt := 66) hx hb dX5_refusalOfNewParcel_62 (by decide) ?_
              cases hf
              exact hs_iret C0 hH hS (by decide) (by decide) dX5_refusalOfNewParcel_66
          · have hf := if_t hf hc24
            refine lv_iconst (v := (2 : Int32)) hx hb dX5_refusalOfNewParcel_50 (by decide) ?_
            cases hf
            exact hs_iret C0 hH hS (by decide) (by decide) dX5_refusalOfNewParcel_51
    · have hf := if_t hf hc27
      refine lv_iconst (v := (1 : Int32)) hx hb dX5_refusalOfNewParcel_22 (by decide) ?_
      cases hf
      exact hs_iret C0 hH hS (by decide) (by decide) dX5_refusalOfNewParcel_23
def f_X5_positionOf_2 (M : Mem) : Nat → Nat → Int32 → Int32 → Option Int32
  | 0, _, _, _ => none
  | n + 1, i0, a1, a2 => (if (M 1 i0 3) ≤ a2 then some (-1 : Int32) else if vin a2 12 then (if ix (M 5 i0 (ix a2)) < 132 then ((if (M 6 (ix (M 5 i0 (ix a2))) 0) = a1 then some a2 else f_X5_positionOf_2 M n i0 a1 (a2 + (1 : Int32)))) else none) else none)
set_option maxHeartbeats 4000000 in
set_option maxRecDepth 100000 in
theorem w_X5_positionOf_2 {Y : LY} {p : Program} {l : Launch} {e : Env} {s : State} {m : MethodId} {args : Array Value} {below : List Frame} {meth : Method} {c : Code} (C0 : BE Y p s m args meth c cX5_positionOf 3 (Option.some Jvm.ClassFile.FieldType.int) RX5) {r : Int32} (M : Mem) : ∀ (n : Nat) (i0 : Nat) (a1 : Int32) (a2 : Int32), i0 < 11 → f_X5_positionOf_2 M n i0 a1 a2 = some r → ∀ (H : Heap) (locs : List Loc) (ls : Array Slot), HS Y M H → va_S (AZ Y) s.heap H locs → lv_has ls 3 [(0, .ref (YA Y 1 i0)), (1, .int a1), (2, .int a2)] → W p l e { frames := 0, cells := 0, slots := 0, locals := 0 } s m args below meth c H locs 0 0 (MQ below (Qi Y r M) args s 0 0 (AZ Y)) (F0 m 2 ls []) := by
  obtain ⟨hx, hb, hr, hml, hown, hA, hlocks, hK, hZ⟩ := id C0
  intro n
  induction n with
  | zero =>
    intro i0 a1 a2 hi0 hf
    cases hf
  | succ n ih =>
    intro i0 a1 a2 hi0 hf H locs ls hH hS hl
    rw [f_X5_positionOf_2] at hf
    refine lv_iload_n hx hb dX5_positionOf_2 rfl (lv_at hl 2 rfl) ?_
    refine lv_aload_n hx hb dX5_positionOf_3 rfl (lv_at hl 0 rfl) ?_
    refine hs_get hx hb (T := TX5) hA inAX5 hown hK hH 1 i0 (show i0 < 11 from by omega) 9 rfl rfl 3 (by decide) (hA _ zt_177) rfl rfl dX5_positionOf_4 ?_
    refine lv_icmp_ge (tgt := 31) hx hb dX5_positionOf_7 (by decide) (fun hc8 => ?_) (fun hc8 => ?_)
    · have hf := if_t hf hc8
      refine lv_iconst (v := (-1 : Int32)) hx hb dX5_positionOf_31 (by decide) ?_
      cases hf
      exact hs_iret C0 hH hS (by decide) (by decide) dX5_positionOf_32
    · have hf := if_f hf hc8
      refine lv_aload_n hx hb dX5_positionOf_10 rfl (lv_at hl 0 rfl) ?_
      refine hs_get hx hb (T := TX5) hA inAX5 hown hK hH 1 i0 (show i0 < 11 from by omega) 9 rfl rfl 2 (by decide) (hA _ zt_175) rfl rfl dX5_positionOf_11 ?_
      refine lv_iload_n hx hb dX5_positionOf_14 rfl (lv_at hl 2 rfl) ?_
      obtain ⟨hg5, hf⟩ := gd_o hf
      have bhg5 := vin_lt hg5
      obtain ⟨hg6, hf⟩ := gd_o hf
      refine hs_aald hx hb hK hH 5 i0 (show i0 < 11 from by omega) 4 rfl rfl hg5 (q := YA Y 6 (ix (M 5 i0 (ix a2)))) rfl dX5_positionOf_15 ?_
      refine hs_get hx hb (T := TX3) hA inAX3 hown hK hH 6 (ix (M 5 i0 (ix a2))) (show ix (M 5 i0 (ix a2)) < 132 from by omega) 7 rfl rfl 0 (by decide) (hA _ zt_138) rfl rfl dX5_positionOf_16 ?_
      refine lv_iload_n hx hb dX5_positionOf_19 rfl (lv_at hl 1 rfl) ?_
      refine lv_icmp_ne (tgt := 25) hx hb dX5_positionOf_20 (by decide) (fun hc7 => ?_) (fun hc7 => ?_)
      · have hf := if_f hf hc7
        refine lv_iinc (v := a2 + (1 : Int32)) (lv' := [(2, .int (a2 + (1 : Int32))), (0, .ref (YA Y 1 i0)), (1, .int a1)]) hx hb dX5_positionOf_25 hl (k := 2) rfl rfl (by decide) rfl (fun ls hl => ?_)
        refine lv_goto (tgt := 2) hx hb dX5_positionOf_28 (by decide) ?_
        exact ih i0 a1 (a2 + (1 : Int32)) (show i0 < 11 from by omega) hf _ _ _ hH hS (lv_sub hl [1, 2, 0] rfl)
      · have hf := if_t hf hc7
        refine lv_iload_n hx hb dX5_positionOf_23 rfl (lv_at hl 2 rfl) ?_
        cases hf
        exact hs_iret C0 hH hS (by decide) (by decide) dX5_positionOf_24
def f_X5_positionOf (M : Mem) (i0 : Nat) (a1 : Int32) : Option Int32 := f_X5_positionOf_2 M FU i0 a1 (0 : Int32)
set_option maxHeartbeats 4000000 in
set_option maxRecDepth 100000 in
theorem c_X5_positionOf {Y : LY} {l : Launch} (M : Mem) (i0 : Nat) (a1 : Int32) (hi0 : i0 < 11) {r : Int32} (hf : f_X5_positionOf M i0 a1 = some r) : Met l yX5_positionOf (WS yX5_positionOf cX5_positionOf 3 (Option.some Jvm.ClassFile.FieldType.int)) { frames := 0, cells := 0, slots := 0, locals := 0 } (PcM Y M [.ref (YA Y 1 i0), .int a1]) (Qi Y r M) 0 0 (AZ Y) := by
  refine met_mk (lv := [(0, .ref (YA Y 1 i0)), (1, .int a1)]) [.ref (YA Y 1 i0), .int a1] (by decide) rfl rfl (Nat.le_of_ble_eq_true rfl) (fun p e s m below meth c C0 hH ls hl => ?_)
  have hS : va_S (AZ Y) s.heap s.heap [] := va_S.rf
  obtain ⟨hx, hb, hr, hml, hown, hA, hlocks, hK, hZ⟩ := id C0
  unfold f_X5_positionOf at hf
  refine lv_iconst (v := (0 : Int32)) hx hb dX5_positionOf_0 (by decide) ?_
  refine lv_istore_n (lv' := [(2, .int (0 : Int32)), (0, .ref (YA Y 1 i0)), (1, .int a1)]) hx hb dX5_positionOf_1 rfl hl (by decide) rfl (fun ls hl => ?_)
  exact w_X5_positionOf_2 C0 M FU i0 a1 (0 : Int32) (show i0 < 11 from by omega) hf _ _ _ hH hS (lv_sub hl [1, 2, 0] rfl)
def f_X5_find (M : Mem) (i0 : Nat) (a1 : Int32) : Option (Option Nat) := bd (f_X5_positionOf M i0 a1) fun r7 => (if r7 = (-1 : Int32) then some none else if vin r7 12 then (if ix (M 5 i0 (ix r7)) < 132 then (some (some (ix (M 5 i0 (ix r7))))) else none) else none)
set_option maxHeartbeats 4000000 in
set_option maxRecDepth 100000 in
theorem c_X5_find {Y : LY} {l : Launch} (M : Mem) (i0 : Nat) (a1 : Int32) (hi0 : i0 < 11) {r : Option Nat} (hf : f_X5_find M i0 a1 = some r) : Met l yX5_find (WS yX5_find cX5_find 3 (Option.some (Jvm.ClassFile.FieldType.object "RiverParcelService$Parcel"))) { frames := 1, cells := 0, slots := 0, locals := 22 } (PcM Y M [.ref (YA Y 1 i0), .int a1]) (Qq Y 6 r M) 0 0 (AZ Y) := by
  refine met_mk (lv := [(0, .ref (YA Y 1 i0)), (1, .int a1)]) [.ref (YA Y 1 i0), .int a1] (by decide) rfl rfl (Nat.le_of_ble_eq_true rfl) (fun p e s m below meth c C0 hH ls hl => ?_)
  have hS : va_S (AZ Y) s.heap s.heap [] := va_S.rf
  obtain ⟨hx, hb, hr, hml, hown, hA, hlocks, hK, hZ⟩ := id C0
  unfold f_X5_find at hf
  refine lv_aload_n hx hb dX5_find_0 rfl (lv_at hl 0 rfl) ?_
  refine lv_iload_n hx hb dX5_find_1 rfl (lv_at hl 1 rfl) ?_
  obtain ⟨r7, hq6, hf⟩ := bd_o hf
  refine hs_ci (hs_runV C0 hH hS (n := 1) (As := [.int a1]) (rest := []) (c_X5_positionOf M i0 a1 (show i0 < 11 from by omega) hq6) ⟨⟨zt_369, zt_371, zs_5, zt_3, zt_372⟩, rfl, by decide, by decide, by decide +kernel⟩ ⟨rfl, rfl, Nat.le_of_ble_eq_true rfl, Nat.le_of_ble_eq_true rfl⟩ (hs_recv hK hH 1 i0 (show i0 < 11 from by omega) 9 rfl rfl) rfl rfl hl.1 (Nat.le_of_ble_eq_true rfl) ⟨Nat.le_of_ble_eq_true rfl, Nat.le_of_ble_eq_true rfl⟩ dX5_find_2) hS (fun H locs hH hS => ?_)
  refine lv_istore_n (lv' := [(2, .int r7), (0, .ref (YA Y 1 i0)), (1, .int a1)]) hx hb dX5_find_5 rfl hl (by decide) rfl (fun ls hl => ?_)
  refine lv_iload_n hx hb dX5_find_6 rfl (lv_at hl 0 rfl) ?_
  refine lv_iconst (v := (-1 : Int32)) hx hb dX5_find_7 (by decide) ?_
  refine lv_icmp_ne (tgt := 15) hx hb dX5_find_8 (by decide) (fun hc10 => ?_) (fun hc10 => ?_)
  · have hf := if_f hf hc10
    refine lv_aload_n hx hb dX5_find_15 rfl (lv_at hl 1 rfl) ?_
    refine hs_get hx hb (T := TX5) hA inAX5 hown hK hH 1 i0 (show i0 < 11 from by omega) 9 rfl rfl 2 (by decide) (hA _ zt_175) rfl rfl dX5_find_16 ?_
    refine lv_iload_n hx hb dX5_find_19 rfl (lv_at hl 0 rfl) ?_
    obtain ⟨hg8, hf⟩ := gd_o hf
    have bhg8 := vin_lt hg8
    obtain ⟨hg9, hf⟩ := gd_o hf
    refine hs_aald hx hb hK hH 5 i0 (show i0 < 11 from by omega) 4 rfl rfl hg8 (q := YA Y 6 (ix (M 5 i0 (ix r7)))) rfl dX5_find_20 ?_
    cases hf
    exact hs_qret C0 hH hS (by decide) (by decide) 6 (ix (M 5 i0 (ix r7))) dX5_find_21
  · have hf := if_t hf hc10
    refine lv_null hx hb dX5_find_11 ?_
    refine lv_goto (tgt := 21) hx hb dX5_find_12 (by decide) ?_
    cases hf
    exact hs_nret C0 hH hS (by decide) (by decide) 6 dX5_find_21
def f_X5_canStartOver (M : Mem) (i0 : Nat) (i1 : Nat) (a2 : Int32) : Option Int32 := if vin a2 20 then ((if (M 4 (20 * i0 + (ix a2)) 0) = (M 6 i1 4) then bd (f_X1_canLeaveAt M (20 * i0 + (ix a2)) (M 1 i0 4)) fun r8 => (if r8 = 0 then some (0 : Int32) else some (1 : Int32)) else some (0 : Int32))) else none
set_option maxHeartbeats 4000000 in
set_option maxRecDepth 100000 in
theorem c_X5_canStartOver {Y : LY} {l : Launch} (M : Mem) (i0 : Nat) (i1 : Nat) (a2 : Int32) (hi0 : i0 < 11) (hi1 : i1 < 132) {r : Int32} (hf : f_X5_canStartOver M i0 i1 a2 = some r) : Met l yX5_canStartOver (WS yX5_canStartOver cX5_canStartOver 3 (Option.some Jvm.ClassFile.FieldType.boolean)) { frames := 1, cells := 0, slots := 0, locals := 21 } (PcM Y M [.ref (YA Y 1 i0), .ref (YA Y 6 i1), .int a2]) (Qi Y r M) 0 0 (AZ Y) := by
  refine met_mk (lv := [(0, .ref (YA Y 1 i0)), (1, .ref (YA Y 6 i1)), (2, .int a2)]) [.ref (YA Y 1 i0), .ref (YA Y 6 i1), .int a2] (by decide) rfl rfl (Nat.le_of_ble_eq_true rfl) (fun p e s m below meth c C0 hH ls hl => ?_)
  have hS : va_S (AZ Y) s.heap s.heap [] := va_S.rf
  obtain ⟨hx, hb, hr, hml, hown, hA, hlocks, hK, hZ⟩ := id C0
  unfold f_X5_canStartOver at hf
  refine lv_aload_n hx hb dX5_canStartOver_0 rfl (lv_at hl 0 rfl) ?_
  refine hs_get hx hb (T := TX5) hA inAX5 hown hK hH 1 i0 (show i0 < 11 from by omega) 9 rfl rfl 1 (by decide) (hA _ zt_173) rfl rfl dX5_canStartOver_1 ?_
  refine hs_get hx hb (T := TX2) hA inAX2 hown hK hH 2 i0 (show i0 < 11 from by omega) 6 rfl rfl 0 (by decide) (hA _ zt_112) rfl rfl dX5_canStartOver_4 ?_
  refine lv_iload_n hx hb dX5_canStartOver_7 rfl (lv_at hl 2 rfl) ?_
  obtain ⟨hg6, hf⟩ := gd_o hf
  have bhg6 := vin_lt hg6
  refine hs_aald hx hb hK hH 3 i0 (show i0 < 11 from by omega) 3 rfl rfl hg6 (q := YA Y 4 (20 * i0 + (ix a2))) rfl dX5_canStartOver_8 ?_
  refine hs_get hx hb (T := TX1) hA inAX1 hown hK hH 4 (20 * i0 + (ix a2)) (show 20 * i0 + (ix a2) < 220 from by omega) 5 rfl rfl 0 (by decide) (hA _ zt_81) rfl rfl dX5_canStartOver_9 ?_
  refine lv_aload_n hx hb dX5_canStartOver_12 rfl (lv_at hl 1 rfl) ?_
  refine hs_get hx hb (T := TX3) hA inAX3 hown hK hH 6 i1 (show i1 < 132 from by omega) 7 rfl rfl 4 (by decide) (hA _ zt_149) rfl rfl dX5_canStartOver_13 ?_
  refine lv_icmp_ne (tgt := 42) hx hb dX5_canStartOver_16 (by decide) (fun hc10 => ?_) (fun hc10 => ?_)
  · have hf := if_f hf hc10
    refine lv_iconst (v := (0 : Int32)) hx hb dX5_canStartOver_42 (by decide) ?_
    cases hf
    exact hs_zret C0 hH hS (by decide) (by decide) (by decide) dX5_canStartOver_43
  · have hf := if_t hf hc10
    refine lv_aload_n hx hb dX5_canStartOver_19 rfl (lv_at hl 0 rfl) ?_
    refine hs_get hx hb (T := TX5) hA inAX5 hown hK hH 1 i0 (show i0 < 11 from by omega) 9 rfl rfl 1 (by decide) (hA _ zt_173) rfl rfl dX5_canStartOver_20 ?_
    refine hs_get hx hb (T := TX2) hA inAX2 hown hK hH 2 i0 (show i0 < 11 from by omega) 6 rfl rfl 0 (by decide) (hA _ zt_112) rfl rfl dX5_canStartOver_23 ?_
    refine lv_iload_n hx hb dX5_canStartOver_26 rfl (lv_at hl 2 rfl) ?_
    refine hs_aald hx hb hK hH 3 i0 (show i0 < 11 from by omega) 3 rfl rfl hg6 (q := YA Y 4 (20 * i0 + (ix a2))) rfl dX5_canStartOver_27 ?_
    refine lv_aload_n hx hb dX5_canStartOver_28 rfl (lv_at hl 0 rfl) ?_
    refine hs_get hx hb (T := TX5) hA inAX5 hown hK hH 1 i0 (show i0 < 11 from by omega) 9 rfl rfl 4 (by decide) (hA _ zt_179) rfl rfl dX5_canStartOver_29 ?_
    obtain ⟨r8, hq7, hf⟩ := bd_o hf
    refine hs_ci (hs_runV C0 hH hS (n := 1) (As := [.int (M 1 i0 4)]) (rest := []) (c_X1_canLeaveAt M (20 * i0 + (ix a2)) (M 1 i0 4) (show 20 * i0 + (ix a2) < 220 from by omega) hq7) ⟨⟨zt_381, zt_382, zt_383, zt_5, zt_384⟩, rfl, by decide, by decide, by decide +kernel⟩ ⟨rfl, rfl, Nat.le_of_ble_eq_true rfl, Nat.le_of_ble_eq_true rfl⟩ (hs_recv hK hH 4 (20 * i0 + (ix a2)) (show 20 * i0 + (ix a2) < 220 from by omega) 5 rfl rfl) rfl rfl hl.1 (Nat.le_of_ble_eq_true rfl) ⟨Nat.le_of_ble_eq_true rfl, Nat.le_of_ble_eq_true rfl⟩ dX5_canStartOver_32) hS (fun H locs hH hS => ?_)
    refine lv_if_eq (tgt := 42) hx hb dX5_canStartOver_35 (by decide) (fun hc9 => ?_) (fun hc9 => ?_)
    · have hf := if_t hf hc9
      refine lv_iconst (v := (0 : Int32)) hx hb dX5_canStartOver_42 (by decide) ?_
      cases hf
      exact hs_zret C0 hH hS (by decide) (by decide) (by decide) dX5_canStartOver_43
    · have hf := if_f hf hc9
      refine lv_iconst (v := (1 : Int32)) hx hb dX5_canStartOver_38 (by decide) ?_
      refine lv_goto (tgt := 43) hx hb dX5_canStartOver_39 (by decide) ?_
      cases hf
      exact hs_zret C0 hH hS (by decide) (by decide) (by decide) dX5_canStartOver_43
def f_X5_weightOn_37 (M : Mem) (k4 : Nat → Int32 → Int32 → Int32 → Option Int32) (i0 : Nat) (a1 : Int32) (a2 : Int32) (a3 : Int32) : Option Int32 := k4 i0 a1 a2 (a3 + (1 : Int32))
set_option maxHeartbeats 4000000 in
set_option maxRecDepth 100000 in
theorem w_X5_weightOn_37 {Y : LY} {p : Program} {l : Launch} {e : Env} {s : State} {m : MethodId} {args : Array Value} {below : List Frame} {meth : Method} {c : Code} (C0 : BE Y p s m args meth c cX5_weightOn 4 (Option.some Jvm.ClassFile.FieldType.int) RX5) {r : Int32} (M : Mem) (k4 : Nat → Int32 → Int32 → Int32 → Option Int32) (hk4 : ∀ (i0 : Nat) (a1 : Int32) (a2 : Int32) (a3 : Int32), i0 < 11 → k4 i0 a1 a2 a3 = some r → ∀ (H : Heap) (locs : List Loc) (ls : Array Slot), HS Y M H → va_S (AZ Y) s.heap H locs → lv_has ls 4 [(0, .ref (YA Y 1 i0)), (1, .int a1), (2, .int a2), (3, .int a3)] → W p l e { frames := 0, cells := 0, slots := 0, locals := 0 } s m args below meth c H locs 0 0 (MQ below (Qi Y r M) args s 0 0 (AZ Y)) (F0 m 4 ls [])) : ∀ (i0 : Nat) (a1 : Int32) (a2 : Int32) (a3 : Int32), i0 < 11 → f_X5_weightOn_37 M k4 i0 a1 a2 a3 = some r → ∀ (H : Heap) (locs : List Loc) (ls : Array Slot), HS Y M H → va_S (AZ Y) s.heap H locs → lv_has ls 4 [(0, .ref (YA Y 1 i0)), (1, .int a1), (2, .int a2), (3, .int a3)] → W p l e { frames := 0, cells := 0, slots := 0, locals := 0 } s m args below meth c H locs 0 0 (MQ below (Qi Y r M) args s 0 0 (AZ Y)) (F0 m 37 ls []) := by
  obtain ⟨hx, hb, hr, hml, hown, hA, hlocks, hK, hZ⟩ := id C0
  intro i0 a1 a2 a3 hi0 hf H locs ls hH hS hl
  unfold f_X5_weightOn_37 at hf
  refine lv_iinc (v := a3 + (1 : Int32)) (lv' := [(3, .int (a3 + (1 : Int32))), (0, .ref (YA Y 1 i0)), (1, .int a1), (2, .int a2)]) hx hb dX5_weightOn_37 hl (k := 3) rfl rfl (by decide) rfl (fun ls hl => ?_)
  refine lv_goto (tgt := 4) hx hb dX5_weightOn_40 (by decide) ?_
  exact hk4 i0 a1 a2 (a3 + (1 : Int32)) (show i0 < 11 from by omega) hf _ _ _ hH hS (lv_sub hl [1, 2, 3, 0] rfl)
def f_X5_weightOn_4 (M : Mem) : Nat → Nat → Int32 → Int32 → Int32 → Option Int32
  | 0, _, _, _, _ => none
  | n + 1, i0, a1, a2, a3 => (if (M 1 i0 3) ≤ a3 then some a2 else if vin a3 12 then (if ix (M 5 i0 (ix a3)) < 132 then ((if (M 6 (ix (M 5 i0 (ix a3))) 5) = a1 then f_X5_weightOn_37 M (f_X5_weightOn_4 M n) i0 a1 (a2 + (M 6 (ix (M 5 i0 (ix a3))) 1)) a3 else f_X5_weightOn_37 M (f_X5_weightOn_4 M n) i0 a1 a2 a3)) else none) else none)
set_option maxHeartbeats 4000000 in
set_option maxRecDepth 100000 in
theorem w_X5_weightOn_4 {Y : LY} {p : Program} {l : Launch} {e : Env} {s : State} {m : MethodId} {args : Array Value} {below : List Frame} {meth : Method} {c : Code} (C0 : BE Y p s m args meth c cX5_weightOn 4 (Option.some Jvm.ClassFile.FieldType.int) RX5) {r : Int32} (M : Mem) : ∀ (n : Nat) (i0 : Nat) (a1 : Int32) (a2 : Int32) (a3 : Int32), i0 < 11 → f_X5_weightOn_4 M n i0 a1 a2 a3 = some r → ∀ (H : Heap) (locs : List Loc) (ls : Array Slot), HS Y M H → va_S (AZ Y) s.heap H locs → lv_has ls 4 [(0, .ref (YA Y 1 i0)), (1, .int a1), (2, .int a2), (3, .int a3)] → W p l e { frames := 0, cells := 0, slots := 0, locals := 0 } s m args below meth c H locs 0 0 (MQ below (Qi Y r M) args s 0 0 (AZ Y)) (F0 m 4 ls []) := by
  obtain ⟨hx, hb, hr, hml, hown, hA, hlocks, hK, hZ⟩ := id C0
  intro n
  induction n with
  | zero =>
    intro i0 a1 a2 a3 hi0 hf
    cases hf
  | succ n ih =>
    intro i0 a1 a2 a3 hi0 hf H locs ls hH hS hl
    rw [f_X5_weightOn_4] at hf
    refine lv_iload_n hx hb dX5_weightOn_4 rfl (lv_at hl 3 rfl) ?_
    refine lv_aload_n hx hb dX5_weightOn_5 rfl (lv_at hl 0 rfl) ?_
    refine hs_get hx hb (T := TX5) hA inAX5 hown hK hH 1 i0 (show i0 < 11 from by omega) 9 rfl rfl 3 (by decide) (hA _ zt_177) rfl rfl dX5_weightOn_6 ?_
    refine lv_icmp_ge (tgt := 43) hx hb dX5_weightOn_9 (by decide) (fun hc8 => ?_) (fun hc8 => ?_)
    · have hf := if_t hf hc8
      refine lv_iload_n hx hb dX5_weightOn_43 rfl (lv_at hl 2 rfl) ?_
      cases hf
      exact hs_iret C0 hH hS (by decide) (by decide) dX5_weightOn_44
    · have hf := if_f hf hc8
      refine lv_aload_n hx hb dX5_weightOn_12 rfl (lv_at hl 0 rfl) ?_
      refine hs_get hx hb (T := TX5) hA inAX5 hown hK hH 1 i0 (show i0 < 11 from by omega) 9 rfl rfl 2 (by decide) (hA _ zt_175) rfl rfl dX5_weightOn_13 ?_
      refine lv_iload_n hx hb dX5_weightOn_16 rfl (lv_at hl 3 rfl) ?_
      obtain ⟨hg5, hf⟩ := gd_o hf
      have bhg5 := vin_lt hg5
      obtain ⟨hg6, hf⟩ := gd_o hf
      refine hs_aald hx hb hK hH 5 i0 (show i0 < 11 from by omega) 4 rfl rfl hg5 (q := YA Y 6 (ix (M 5 i0 (ix a3)))) rfl dX5_weightOn_17 ?_
      refine hs_get hx hb (T := TX3) hA inAX3 hown hK hH 6 (ix (M 5 i0 (ix a3))) (show ix (M 5 i0 (ix a3)) < 132 from by omega) 7 rfl rfl 5 (by decide) (hA _ zt_152) rfl rfl dX5_weightOn_18 ?_
      refine lv_iload_n hx hb dX5_weightOn_21 rfl (lv_at hl 1 rfl) ?_
      refine lv_icmp_ne (tgt := 37) hx hb dX5_weightOn_22 (by decide) (fun hc7 => ?_) (fun hc7 => ?_)
      · have hf := if_f hf hc7
        exact w_X5_weightOn_37 C0 M (f_X5_weightOn_4 M n) ih i0 a1 a2 a3 (show i0 < 11 from by omega) hf _ _ _ hH hS (lv_sub hl [0, 1, 2, 3] rfl)
      · have hf := if_t hf hc7
        refine lv_iload_n hx hb dX5_weightOn_25 rfl (lv_at hl 2 rfl) ?_
        refine lv_aload_n hx hb dX5_weightOn_26 rfl (lv_at hl 0 rfl) ?_
        refine hs_get hx hb (T := TX5) hA inAX5 hown hK hH 1 i0 (show i0 < 11 from by omega) 9 rfl rfl 2 (by decide) (hA _ zt_175) rfl rfl dX5_weightOn_27 ?_
        refine lv_iload_n hx hb dX5_weightOn_30 rfl (lv_at hl 3 rfl) ?_
        refine hs_aald hx hb hK hH 5 i0 (show i0 < 11 from by omega) 4 rfl rfl hg5 (q := YA Y 6 (ix (M 5 i0 (ix a3)))) rfl dX5_weightOn_31 ?_
        refine hs_get hx hb (T := TX3) hA inAX3 hown hK hH 6 (ix (M 5 i0 (ix a3))) (show ix (M 5 i0 (ix a3)) < 132 from by omega) 7 rfl rfl 1 (by decide) (hA _ zt_140) rfl rfl dX5_weightOn_32 ?_
        refine lv_iadd hx hb dX5_weightOn_35 ?_
        refine lv_istore_n (lv' := [(2, .int (a2 + (M 6 (ix (M 5 i0 (ix a3))) 1))), (0, .ref (YA Y 1 i0)), (1, .int a1), (3, .int a3)]) hx hb dX5_weightOn_36 rfl hl (by decide) rfl (fun ls hl => ?_)
        exact w_X5_weightOn_37 C0 M (f_X5_weightOn_4 M n) ih i0 a1 (a2 + (M 6 (ix (M 5 i0 (ix a3))) 1)) a3 (show i0 < 11 from by omega) hf _ _ _ hH hS (lv_sub hl [1, 2, 0, 3] rfl)
def f_X5_weightOn (M : Mem) (i0 : Nat) (a1 : Int32) : Option Int32 := f_X5_weightOn_4 M FU i0 a1 (0 : Int32) (0 : Int32)
set_option maxHeartbeats 4000000 in
set_option maxRecDepth 100000 in
theorem c_X5_weightOn {Y : LY} {l : Launch} (M : Mem) (i0 : Nat) (a1 : Int32) (hi0 : i0 < 11) {r : Int32} (hf : f_X5_weightOn M i0 a1 = some r) : Met l yX5_weightOn (WS yX5_weightOn cX5_weightOn 4 (Option.some Jvm.ClassFile.FieldType.int)) { frames := 0, cells := 0, slots := 0, locals := 0 } (PcM Y M [.ref (YA Y 1 i0), .int a1]) (Qi Y r M) 0 0 (AZ Y) := by
  refine met_mk (lv := [(0, .ref (YA Y 1 i0)), (1, .int a1)]) [.ref (YA Y 1 i0), .int a1] (by decide) rfl rfl (Nat.le_of_ble_eq_true rfl) (fun p e s m below meth c C0 hH ls hl => ?_)
  have hS : va_S (AZ Y) s.heap s.heap [] := va_S.rf
  obtain ⟨hx, hb, hr, hml, hown, hA, hlocks, hK, hZ⟩ := id C0
  unfold f_X5_weightOn at hf
  refine lv_iconst (v := (0 : Int32)) hx hb dX5_weightOn_0 (by decide) ?_
  refine lv_istore_n (lv' := [(2, .int (0 : Int32)), (0, .ref (YA Y 1 i0)), (1, .int a1)]) hx hb dX5_weightOn_1 rfl hl (by decide) rfl (fun ls hl => ?_)
  refine lv_iconst (v := (0 : Int32)) hx hb dX5_weightOn_2 (by decide) ?_
  refine lv_istore_n (lv' := [(3, .int (0 : Int32)), (2, .int (0 : Int32)), (0, .ref (YA Y 1 i0)), (1, .int a1)]) hx hb dX5_weightOn_3 rfl hl (by decide) rfl (fun ls hl => ?_)
  exact w_X5_weightOn_4 C0 M FU i0 a1 (0 : Int32) (0 : Int32) (show i0 < 11 from by omega) hf _ _ _ hH hS (lv_sub hl [2, 3, 1, 0] rfl)
def f_X5_hasRoomFor (M : Mem) (i0 : Nat) (i1 : Nat) (a2 : Int32) : Option Int32 := bd (f_X5_weightOn M i0 a2) fun r5 => (if (10 : Int32) < (r5 + (M 6 i1 1)) then some (0 : Int32) else some (1 : Int32))
set_option maxHeartbeats 4000000 in
set_option maxRecDepth 100000 in
theorem c_X5_hasRoomFor {Y : LY} {l : Launch} (M : Mem) (i0 : Nat) (i1 : Nat) (a2 : Int32) (hi0 : i0 < 11) (hi1 : i1 < 132) {r : Int32} (hf : f_X5_hasRoomFor M i0 i1 a2 = some r) : Met l yX5_hasRoomFor (WS yX5_hasRoomFor cX5_hasRoomFor 3 (Option.some Jvm.ClassFile.FieldType.boolean)) { frames := 1, cells := 0, slots := 0, locals := 23 } (PcM Y M [.ref (YA Y 1 i0), .ref (YA Y 6 i1), .int a2]) (Qi Y r M) 0 0 (AZ Y) := by
  refine met_mk (lv := [(0, .ref (YA Y 1 i0)), (1, .ref (YA Y 6 i1)), (2, .int a2)]) [.ref (YA Y 1 i0), .ref (YA Y 6 i1), .int a2] (by decide) rfl rfl (Nat.le_of_ble_eq_true rfl) (fun p e s m below meth c C0 hH ls hl => ?_)
  have hS : va_S (AZ Y) s.heap s.heap [] := va_S.rf
  obtain ⟨hx, hb, hr, hml, hown, hA, hlocks, hK, hZ⟩ := id C0
  unfold f_X5_hasRoomFor at hf
  refine lv_aload_n hx hb dX5_hasRoomFor_0 rfl (lv_at hl 0 rfl) ?_
  refine lv_iload_n hx hb dX5_hasRoomFor_1 rfl (lv_at hl 2 rfl) ?_
  obtain ⟨r5, hq4, hf⟩ := bd_o hf
  refine hs_ci (hs_runV C0 hH hS (n := 1) (As := [.int a2]) (rest := []) (c_X5_weightOn M i0 a2 (show i0 < 11 from by omega) hq4) ⟨⟨zt_389, zt_390, zt_391, zt_3, zt_392⟩, rfl, by decide, by decide, by decide +kernel⟩ ⟨rfl, rfl, Nat.le_of_ble_eq_true rfl, Nat.le_of_ble_eq_true rfl⟩ (hs_recv hK hH 1 i0 (show i0 < 11 from by omega) 9 rfl rfl) rfl rfl hl.1 (Nat.le_of_ble_eq_true rfl) ⟨Nat.le_of_ble_eq_true rfl, Nat.le_of_ble_eq_true rfl⟩ dX5_hasRoomFor_2) hS (fun H locs hH hS => ?_)
  refine lv_aload_n hx hb dX5_hasRoomFor_5 rfl (lv_at hl 1 rfl) ?_
  refine hs_get hx hb (T := TX3) hA inAX3 hown hK hH 6 i1 (show i1 < 132 from by omega) 7 rfl rfl 1 (by decide) (hA _ zt_140) rfl rfl dX5_hasRoomFor_6 ?_
  refine lv_iadd hx hb dX5_hasRoomFor_9 ?_
  refine lv_bipush (v := (10 : Int32)) hx hb dX5_hasRoomFor_10 (by decide) ?_
  refine lv_icmp_gt (tgt := 19) hx hb dX5_hasRoomFor_12 (by decide) (fun hc6 => ?_) (fun hc6 => ?_)
  · have hf := if_t hf hc6
    refine lv_iconst (v := (0 : Int32)) hx hb dX5_hasRoomFor_19 (by decide) ?_
    cases hf
    exact hs_zret C0 hH hS (by decide) (by decide) (by decide) dX5_hasRoomFor_20
  · have hf := if_f hf hc6
    refine lv_iconst (v := (1 : Int32)) hx hb dX5_hasRoomFor_15 (by decide) ?_
    refine lv_goto (tgt := 20) hx hb dX5_hasRoomFor_16 (by decide) ?_
    cases hf
    exact hs_zret C0 hH hS (by decide) (by decide) (by decide) dX5_hasRoomFor_20
def f_X5_refusalOfSending_62 (M : Mem) (b0 : Int32) : Option Int32 := (if b0 = 0 then some (3 : Int32) else some (0 : Int32))
set_option maxHeartbeats 4000000 in
set_option maxRecDepth 100000 in
theorem w_X5_refusalOfSending_62 {Y : LY} {p : Program} {l : Launch} {e : Env} {s : State} {m : MethodId} {args : Array Value} {below : List Frame} {meth : Method} {c : Code} (C0 : BE Y p s m args meth c cX5_refusalOfSending 5 (Option.some Jvm.ClassFile.FieldType.int) RX5) {r : Int32} (M : Mem) : ∀ (b0 : Int32), f_X5_refusalOfSending_62 M b0 = some r → ∀ (H : Heap) (locs : List Loc) (ls : Array Slot), HS Y M H → va_S (AZ Y) s.heap H locs → lv_has ls 5 [] → W p l e { frames := 2, cells := 0, slots := 0, locals := 45 } s m args below meth c H locs 0 0 (MQ below (Qi Y r M) args s 0 0 (AZ Y)) (F0 m 62 ls [.int b0]) := by
  obtain ⟨hx, hb, hr, hml, hown, hA, hlocks, hK, hZ⟩ := id C0
  intro b0 hf H locs ls hH hS hl
  unfold f_X5_refusalOfSending_62 at hf
  refine lv_istore (lv' := [(4, .int b0)]) hx hb dX5_refusalOfSending_62 hl (by decide) rfl (fun ls hl => ?_)
  refine lv_iload hx hb dX5_refusalOfSending_64 (lv_at hl 0 rfl) ?_
  refine lv_if_eq (tgt := 73) hx hb dX5_refusalOfSending_66 (by decide) (fun hc18 => ?_) (fun hc18 => ?_)
  · have hf := if_t hf hc18
    refine lv_iconst (v := (3 : Int32)) hx hb dX5_refusalOfSending_73 (by decide) ?_
    cases hf
    exact hs_iret C0 hH hS (by decide) (by decide) dX5_refusalOfSending_74
  · have hf := if_f hf hc18
    refine lv_iconst (v := (0 : Int32)) hx hb dX5_refusalOfSending_69 (by decide) ?_
    refine lv_goto (tgt := 74) hx hb dX5_refusalOfSending_70 (by decide) ?_
    cases hf
    exact hs_iret C0 hH hS (by decide) (by decide) dX5_refusalOfSending_74
def f_X5_refusalOfSending_61 (M : Mem) : Option Int32 := f_X5_refusalOfSending_62 M (0 : Int32)
set_option maxHeartbeats 4000000 in
set_option maxRecDepth 100000 in
theorem w_X5_refusalOfSending_61 {Y : LY} {p : Program} {l : Launch} {e : Env} {s : State} {m : MethodId} {args : Array Value} {below : List Frame} {meth : Method} {c : Code} (C0 : BE Y p s m args meth c cX5_refusalOfSending 5 (Option.some Jvm.ClassFile.FieldType.int) RX5) {r : Int32} (M : Mem) : f_X5_refusalOfSending_61 M = some r → ∀ (H : Heap) (locs : List Loc) (ls : Array Slot), HS Y M H → va_S (AZ Y) s.heap H locs → lv_has ls 5 [] → W p l e { frames := 2, cells := 0, slots := 0, locals := 45 } s m args below meth c H locs 0 0 (MQ below (Qi Y r M) args s 0 0 (AZ Y)) (F0 m 61 ls []) := by
  obtain ⟨hx, hb, hr, hml, hown, hA, hlocks, hK, hZ⟩ := id C0
  intro hf H locs ls hH hS hl
  unfold f_X5_refusalOfSending_61 at hf
  refine lv_iconst (v := (0 : Int32)) hx hb dX5_refusalOfSending_61 (by decide) ?_
  exact w_X5_refusalOfSending_62 C0 M (0 : Int32) hf _ _ _ hH hS (lv_sub hl [] rfl)
def f_X5_refusalOfSending (M : Mem) (i0 : Nat) (a1 : Int32) (a2 : Int32) : Option Int32 := bd (f_X5_find M i0 a1) fun r20 => on r20 (some (4 : Int32)) fun q21 => if q21 < 132 then (bd (f_X2_hasLink M i0 a2) fun r23 => (if r23 = 0 then some (1 : Int32) else bd (f_X3_isUnderWay M q21) fun r25 => (if r25 = 0 then (if (M 6 q21 2) ≤ 0 then f_X5_refusalOfSending_61 M else bd (f_X5_canStartOver M i0 q21 a2) fun r27 => (if r27 = 0 then f_X5_refusalOfSending_61 M else bd (f_X5_hasRoomFor M i0 q21 a2) fun r29 => (if r29 = 0 then f_X5_refusalOfSending_61 M else f_X5_refusalOfSending_62 M (1 : Int32)))) else f_X5_refusalOfSending_61 M))) else none
set_option maxHeartbeats 4000000 in
set_option maxRecDepth 100000 in
theorem c_X5_refusalOfSending {Y : LY} {l : Launch} (M : Mem) (i0 : Nat) (a1 : Int32) (a2 : Int32) (hi0 : i0 < 11) {r : Int32} (hf : f_X5_refusalOfSending M i0 a1 a2 = some r) : Met l yX5_refusalOfSending (WS yX5_refusalOfSending cX5_refusalOfSending 5 (Option.some Jvm.ClassFile.FieldType.int)) { frames := 2, cells := 0, slots := 0, locals := 45 } (PcM Y M [.ref (YA Y 1 i0), .int a1, .int a2]) (Qi Y r M) 0 0 (AZ Y) := by
  refine met_mk (lv := [(0, .ref (YA Y 1 i0)), (1, .int a1), (2, .int a2)]) [.ref (YA Y 1 i0), .int a1, .int a2] (by decide) rfl rfl (Nat.le_of_ble_eq_true rfl) (fun p e s m below meth c C0 hH ls hl => ?_)
  have hS : va_S (AZ Y) s.heap s.heap [] := va_S.rf
  obtain ⟨hx, hb, hr, hml, hown, hA, hlocks, hK, hZ⟩ := id C0
  unfold f_X5_refusalOfSending at hf
  refine lv_aload_n hx hb dX5_refusalOfSending_0 rfl (lv_at hl 0 rfl) ?_
  refine lv_iload_n hx hb dX5_refusalOfSending_1 rfl (lv_at hl 1 rfl) ?_
  obtain ⟨r20, hq19, hf⟩ := bd_o hf
  refine hs_cq (hs_runV C0 hH hS (n := 1) (As := [.int a1]) (rest := []) (c_X5_find M i0 a1 (show i0 < 11 from by omega) hq19) ⟨⟨zt_365, zt_366, zt_367, zt_3, zt_368⟩, rfl, by decide, by decide, by decide +kernel⟩ ⟨rfl, rfl, Nat.le_of_ble_eq_true rfl, Nat.le_of_ble_eq_true rfl⟩ (hs_recv hK hH 1 i0 (show i0 < 11 from by omega) 9 rfl rfl) rfl rfl hl.1 (Nat.le_of_ble_eq_true rfl) ⟨Nat.le_of_ble_eq_true rfl, Nat.le_of_ble_eq_true rfl⟩ dX5_refusalOfSending_2) hS (fun er20 H locs hH hS => ?_) (fun q21 er20 H locs hH hS => ?_)
  · subst er20
    have hf := on_n hf
    refine lv_astore_nN (lv' := [(3, .null), (0, .ref (YA Y 1 i0)), (1, .int a1), (2, .int a2)]) hx hb dX5_refusalOfSending_5 rfl hl (by decide) rfl (fun ls hl => ?_)
    refine lv_aload_nN hx hb dX5_refusalOfSending_6 rfl (lv_at hl 0 rfl) ?_
    refine lv_ifnonnullN hx hb dX5_refusalOfSending_7 ?_
    refine lv_iconst (v := (4 : Int32)) hx hb dX5_refusalOfSending_10 (by decide) ?_
    cases hf
    exact hs_iret C0 hH hS (by decide) (by decide) dX5_refusalOfSending_11
  · subst er20
    obtain ⟨hq21, hf⟩ := gd_o (on_s hf)
    refine lv_astore_n (lv' := [(3, .ref (YA Y 6 q21)), (0, .ref (YA Y 1 i0)), (1, .int a1), (2, .int a2)]) hx hb dX5_refusalOfSending_5 rfl hl (by decide) rfl (fun ls hl => ?_)
    refine lv_aload_n hx hb dX5_refusalOfSending_6 rfl (lv_at hl 0 rfl) ?_
    refine lv_ifnonnull (tgt := 12) hx hb dX5_refusalOfSending_7 (by decide) ?_
    refine lv_aload_n hx hb dX5_refusalOfSending_12 rfl (lv_at hl 1 rfl) ?_
    refine hs_get hx hb (T := TX5) hA inAX5 hown hK hH 1 i0 (show i0 < 11 from by omega) 9 rfl rfl 1 (by decide) (hA _ zt_173) rfl rfl dX5_refusalOfSending_13 ?_
    refine lv_iload_n hx hb dX5_refusalOfSending_16 rfl (lv_at hl 3 rfl) ?_
    obtain ⟨r23, hq22, hf⟩ := bd_o hf
    refine hs_ci (hs_runV C0 hH hS (n := 1) (As := [.int a2]) (rest := []) (c_X2_hasLink M i0 a2 (show i0 < 11 from by omega) hq22) ⟨⟨zt_353, zt_354, zt_355, zt_4, zt_356⟩, rfl, by decide, by decide, by decide +kernel⟩ ⟨rfl, rfl, Nat.le_of_ble_eq_true rfl, Nat.le_of_ble_eq_true rfl⟩ (hs_recv hK hH 2 i0 (show i0 < 11 from by omega) 6 rfl rfl) rfl rfl hl.1 (Nat.le_of_ble_eq_true rfl) ⟨Nat.le_of_ble_eq_true rfl, Nat.le_of_ble_eq_true rfl⟩ dX5_refusalOfSending_17) hS (fun H locs hH hS => ?_)
    refine lv_if_ne (tgt := 25) hx hb dX5_refusalOfSending_20 (by decide) (fun hc34 => ?_) (fun hc34 => ?_)
    · have hf := if_f hf hc34
      refine lv_aload_n hx hb dX5_refusalOfSending_25 rfl (lv_at hl 0 rfl) ?_
      obtain ⟨r25, hq24, hf⟩ := bd_o hf
      refine hs_ci (hs_runV C0 hH hS (n := 0) (As := []) (rest := []) (c_X3_isUnderWay M q21 (show q21 < 132 from by omega) hq24) ⟨⟨zt_373, zt_374, zt_375, zt_6, zt_376⟩, rfl, by decide, by decide, by decide +kernel⟩ ⟨rfl, rfl, Nat.le_of_ble_eq_true rfl, Nat.le_of_ble_eq_true rfl⟩ (hs_recv hK hH 6 q21 (show q21 < 132 from by omega) 7 rfl rfl) rfl rfl hl.1 (Nat.le_of_ble_eq_true rfl) ⟨Nat.le_of_ble_eq_true rfl, Nat.le_of_ble_eq_true rfl⟩ dX5_refusalOfSending_26) hS (fun H locs hH hS => ?_)
      refine lv_if_ne (tgt := 61) hx hb dX5_refusalOfSending_29 (by decide) (fun hc33 => ?_) (fun hc33 => ?_)
      · have hf := if_f hf hc33
        exact w_X5_refusalOfSending_61 C0 M hf _ _ _ hH hS (lv_sub hl [] rfl)
      · have hf := if_t hf hc33
        refine lv_aload_n hx hb dX5_refusalOfSending_32 rfl (lv_at hl 0 rfl) ?_
        refine hs_get hx hb (T := TX3) hA inAX3 hown hK hH 6 q21 (show q21 < 132 from by omega) 7 rfl rfl 2 (by decide) (hA _ zt_143) rfl rfl dX5_refusalOfSending_33 ?_
        refine lv_if_le (tgt := 61) hx hb dX5_refusalOfSending_36 (by decide) (fun hc32 => ?_) (fun hc32 => ?_)
        · have hf := if_t hf hc32
          exact w_X5_refusalOfSending_61 C0 M hf _ _ _ hH hS (lv_sub hl [] rfl)
        · have hf := if_f hf hc32
          refine lv_aload_n hx hb dX5_refusalOfSending_39 rfl (lv_at hl 1 rfl) ?_
          refine lv_aload_n hx hb dX5_refusalOfSending_40 rfl (lv_at hl 0 rfl) ?_
          refine lv_iload_n hx hb dX5_refusalOfSending_41 rfl (lv_at hl 3 rfl) ?_
          obtain ⟨r27, hq26, hf⟩ := bd_o hf
          refine hs_ci (hs_runV C0 hH hS (n := 2) (As := [.ref (YA Y 6 q21), .int a2]) (rest := []) (c_X5_canStartOver M i0 q21 a2 (show i0 < 11 from by omega) (show q21 < 132 from by omega) hq26) ⟨⟨zt_377, zt_379, zs_6, zt_3, zt_380⟩, rfl, by decide, by decide, by decide +kernel⟩ ⟨rfl, rfl, Nat.le_of_ble_eq_true rfl, Nat.le_of_ble_eq_true rfl⟩ (hs_recv hK hH 1 i0 (show i0 < 11 from by omega) 9 rfl rfl) rfl rfl hl.1 (Nat.le_of_ble_eq_true rfl) ⟨Nat.le_of_ble_eq_true rfl, Nat.le_of_ble_eq_true rfl⟩ dX5_refusalOfSending_42) hS (fun H locs hH hS => ?_)
          refine lv_if_eq (tgt := 61) hx hb dX5_refusalOfSending_45 (by decide) (fun hc31 => ?_) (fun hc31 => ?_)
          · have hf := if_t hf hc31
            exact w_X5_refusalOfSending_61 C0 M hf _ _ _ hH hS (lv_sub hl [] rfl)
          · have hf := if_f hf hc31
            refine lv_aload_n hx hb dX5_refusalOfSending_48 rfl (lv_at hl 1 rfl) ?_
            refine lv_aload_n hx hb dX5_refusalOfSending_49 rfl (lv_at hl 0 rfl) ?_
            refine lv_iload_n hx hb dX5_refusalOfSending_50 rfl (lv_at hl 3 rfl) ?_
            obtain ⟨r29, hq28, hf⟩ := bd_o hf
            refine hs_ci (hs_runV C0 hH hS (n := 2) (As := [.ref (YA Y 6 q21), .int a2]) (rest := []) (c_X5_hasRoomFor M i0 q21 a2 (show i0 < 11 from by omega) (show q21 < 132 from by omega) hq28) ⟨⟨zt_385, zt_387, zs_7, zt_3, zt_388⟩, rfl, by decide, by decide, by decide +kernel⟩ ⟨rfl, rfl, Nat.le_of_ble_eq_true rfl, Nat.le_of_ble_eq_true rfl⟩ (hs_recv hK hH 1 i0 (show i0 < 11 from by omega) 9 rfl rfl) rfl rfl hl.1 (Nat.le_of_ble_eq_true rfl) ⟨Nat.le_of_ble_eq_true rfl, Nat.le_of_ble_eq_true rfl⟩ dX5_refusalOfSending_51) hS (fun H locs hH hS => ?_)
            refine lv_if_eq (tgt := 61) hx hb dX5_refusalOfSending_54 (by decide) (fun hc30 => ?_) (fun hc30 => ?_)
            · have hf := if_t hf hc30
              exact w_X5_refusalOfSending_61 C0 M hf _ _ _ hH hS (lv_sub hl [] rfl)
            · have hf := if_f hf hc30
              refine lv_iconst (v := (1 : Int32)) hx hb dX5_refusalOfSending_57 (by decide) ?_
              refine lv_goto (tgt := 62) hx hb dX5_refusalOfSending_58 (by decide) ?_
              exact w_X5_refusalOfSending_62 C0 M (1 : Int32) hf _ _ _ hH hS (lv_sub hl [] rfl)
    · have hf := if_t hf hc34
      refine lv_iconst (v := (1 : Int32)) hx hb dX5_refusalOfSending_23 (by decide) ?_
      cases hf
      exact hs_iret C0 hH hS (by decide) (by decide) dX5_refusalOfSending_24
def f_X5_refusalOfStamps (M : Mem) (i0 : Nat) (a1 : Int32) (a2 : Int32) : Option Int32 := bd (f_X5_find M i0 a1) fun r9 => on r9 (some (4 : Int32)) fun q10 => if q10 < 132 then (bd (f_X5_isBetween M a2 (1 : Int32) (20 : Int32)) fun r12 => (if r12 = 0 then some (2 : Int32) else (if ((M 6 q10 2) + a2) ≤ (20 : Int32) then some (0 : Int32) else some (3 : Int32)))) else none
set_option maxHeartbeats 4000000 in
set_option maxRecDepth 100000 in
theorem c_X5_refusalOfStamps {Y : LY} {l : Launch} (M : Mem) (i0 : Nat) (a1 : Int32) (a2 : Int32) (hi0 : i0 < 11) {r : Int32} (hf : f_X5_refusalOfStamps M i0 a1 a2 = some r) : Met l yX5_refusalOfStamps (WS yX5_refusalOfStamps cX5_refusalOfStamps 4 (Option.some Jvm.ClassFile.FieldType.int)) { frames := 2, cells := 0, slots := 0, locals := 44 } (PcM Y M [.ref (YA Y 1 i0), .int a1, .int a2]) (Qi Y r M) 0 0 (AZ Y) := by
  refine met_mk (lv := [(0, .ref (YA Y 1 i0)), (1, .int a1), (2, .int a2)]) [.ref (YA Y 1 i0), .int a1, .int a2] (by decide) rfl rfl (Nat.le_of_ble_eq_true rfl) (fun p e s m below meth c C0 hH ls hl => ?_)
  have hS : va_S (AZ Y) s.heap s.heap [] := va_S.rf
  obtain ⟨hx, hb, hr, hml, hown, hA, hlocks, hK, hZ⟩ := id C0
  unfold f_X5_refusalOfStamps at hf
  refine lv_aload_n hx hb dX5_refusalOfStamps_0 rfl (lv_at hl 0 rfl) ?_
  refine lv_iload_n hx hb dX5_refusalOfStamps_1 rfl (lv_at hl 1 rfl) ?_
  obtain ⟨r9, hq8, hf⟩ := bd_o hf
  refine hs_cq (hs_runV C0 hH hS (n := 1) (As := [.int a1]) (rest := []) (c_X5_find M i0 a1 (show i0 < 11 from by omega) hq8) ⟨⟨zt_365, zt_366, zt_367, zt_3, zt_368⟩, rfl, by decide, by decide, by decide +kernel⟩ ⟨rfl, rfl, Nat.le_of_ble_eq_true rfl, Nat.le_of_ble_eq_true rfl⟩ (hs_recv hK hH 1 i0 (show i0 < 11 from by omega) 9 rfl rfl) rfl rfl hl.1 (Nat.le_of_ble_eq_true rfl) ⟨Nat.le_of_ble_eq_true rfl, Nat.le_of_ble_eq_true rfl⟩ dX5_refusalOfStamps_2) hS (fun er9 H locs hH hS => ?_) (fun q10 er9 H locs hH hS => ?_)
  · subst er9
    have hf := on_n hf
    refine lv_astore_nN (lv' := [(3, .null), (0, .ref (YA Y 1 i0)), (1, .int a1), (2, .int a2)]) hx hb dX5_refusalOfStamps_5 rfl hl (by decide) rfl (fun ls hl => ?_)
    refine lv_aload_nN hx hb dX5_refusalOfStamps_6 rfl (lv_at hl 0 rfl) ?_
    refine lv_ifnonnullN hx hb dX5_refusalOfStamps_7 ?_
    refine lv_iconst (v := (4 : Int32)) hx hb dX5_refusalOfStamps_10 (by decide) ?_
    cases hf
    exact hs_iret C0 hH hS (by decide) (by decide) dX5_refusalOfStamps_11
  · subst er9
    obtain ⟨hq10, hf⟩ := gd_o (on_s hf)
    refine lv_astore_n (lv' := [(3, .ref (YA Y 6 q10)), (0, .ref (YA Y 1 i0)), (1, .int a1), (2, .int a2)]) hx hb dX5_refusalOfStamps_5 rfl hl (by decide) rfl (fun ls hl => ?_)
    refine lv_aload_n hx hb dX5_refusalOfStamps_6 rfl (lv_at hl 0 rfl) ?_
    refine lv_ifnonnull (tgt := 12) hx hb dX5_refusalOfStamps_7 (by decide) ?_
    refine lv_iload_n hx hb dX5_refusalOfStamps_12 rfl (lv_at hl 3 rfl) ?_
    refine lv_iconst (v := (1 : Int32)) hx hb dX5_refusalOfStamps_13 (by decide) ?_
    refine lv_bipush (v := (20 : Int32)) hx hb dX5_refusalOfStamps_14 (by decide) ?_
    obtain ⟨r12, hq11, hf⟩ := bd_o hf
    refine hs_ci (hs_runS C0 hH hS (n := 3) (As := [.int a2, .int (1 : Int32), .int (20 : Int32)]) (rest := []) (c_X5_isBetween M a2 (1 : Int32) (20 : Int32) hq11) ⟨⟨zt_346, zt_347, zt_3, zt_348⟩, by decide, by decide, by decide +kernel⟩ ⟨rfl, rfl, Nat.le_of_ble_eq_true rfl, Nat.le_of_ble_eq_true rfl⟩ rfl rfl hl.1 (Nat.le_of_ble_eq_true rfl) ⟨Nat.le_of_ble_eq_true rfl, Nat.le_of_ble_eq_true rfl⟩ dX5_refusalOfStamps_16) hS (fun H locs hH hS => ?_)
    refine lv_if_ne (tgt := 24) hx hb dX5_refusalOfStamps_19 (by decide) (fun hc14 => ?_) (fun hc14 => ?_)
    · have hf := if_f hf hc14
      refine lv_aload_n hx hb dX5_refusalOfStamps_24 rfl (lv_at hl 0 rfl) ?_
      refine hs_get hx hb (T := TX3) hA inAX3 hown hK hH 6 q10 (show q10 < 132 from by omega) 7 rfl rfl 2 (by decide) (hA _ zt_143) rfl rfl dX5_refusalOfStamps_25 ?_
      refine lv_iload_n hx hb dX5_refusalOfStamps_28 rfl (lv_at hl 3 rfl) ?_
      refine lv_iadd hx hb dX5_refusalOfStamps_29 ?_
      refine lv_bipush (v := (20 : Int32)) hx hb dX5_refusalOfStamps_30 (by decide) ?_
      refine lv_icmp_le (tgt := 39) hx hb dX5_refusalOfStamps_32 (by decide) (fun hc13 => ?_) (fun hc13 => ?_)
      · have hf := if_t hf hc13
        refine lv_iconst (v := (0 : Int32)) hx hb dX5_refusalOfStamps_39 (by decide) ?_
        cases hf
        exact hs_iret C0 hH hS (by decide) (by decide) dX5_refusalOfStamps_40
      · have hf := if_f hf hc13
        refine lv_iconst (v := (3 : Int32)) hx hb dX5_refusalOfStamps_35 (by decide) ?_
        refine lv_goto (tgt := 40) hx hb dX5_refusalOfStamps_36 (by decide) ?_
        cases hf
        exact hs_iret C0 hH hS (by decide) (by decide) dX5_refusalOfStamps_40
    · have hf := if_t hf hc14
      refine lv_iconst (v := (2 : Int32)) hx hb dX5_refusalOfStamps_22 (by decide) ?_
      cases hf
      exact hs_iret C0 hH hS (by decide) (by decide) dX5_refusalOfStamps_23
def f_X5_refusalOfReturn (M : Mem) (i0 : Nat) (a1 : Int32) : Option Int32 := bd (f_X5_find M i0 a1) fun r8 => on r8 (some (4 : Int32)) fun q9 => if q9 < 132 then (bd (f_X3_isUnderWay M q9) fun r11 => (if r11 = 0 then some (0 : Int32) else some (3 : Int32))) else none
set_option maxHeartbeats 4000000 in
set_option maxRecDepth 100000 in
theorem c_X5_refusalOfReturn {Y : LY} {l : Launch} (M : Mem) (i0 : Nat) (a1 : Int32) (hi0 : i0 < 11) {r : Int32} (hf : f_X5_refusalOfReturn M i0 a1 = some r) : Met l yX5_refusalOfReturn (WS yX5_refusalOfReturn cX5_refusalOfReturn 3 (Option.some Jvm.ClassFile.FieldType.int)) { frames := 2, cells := 0, slots := 0, locals := 44 } (PcM Y M [.ref (YA Y 1 i0), .int a1]) (Qi Y r M) 0 0 (AZ Y) := by
  refine met_mk (lv := [(0, .ref (YA Y 1 i0)), (1, .int a1)]) [.ref (YA Y 1 i0), .int a1] (by decide) rfl rfl (Nat.le_of_ble_eq_true rfl) (fun p e s m below meth c C0 hH ls hl => ?_)
  have hS : va_S (AZ Y) s.heap s.heap [] := va_S.rf
  obtain ⟨hx, hb, hr, hml, hown, hA, hlocks, hK, hZ⟩ := id C0
  unfold f_X5_refusalOfReturn at hf
  refine lv_aload_n hx hb dX5_refusalOfReturn_0 rfl (lv_at hl 0 rfl) ?_
  refine lv_iload_n hx hb dX5_refusalOfReturn_1 rfl (lv_at hl 1 rfl) ?_
  obtain ⟨r8, hq7, hf⟩ := bd_o hf
  refine hs_cq (hs_runV C0 hH hS (n := 1) (As := [.int a1]) (rest := []) (c_X5_find M i0 a1 (show i0 < 11 from by omega) hq7) ⟨⟨zt_365, zt_366, zt_367, zt_3, zt_368⟩, rfl, by decide, by decide, by decide +kernel⟩ ⟨rfl, rfl, Nat.le_of_ble_eq_true rfl, Nat.le_of_ble_eq_true rfl⟩ (hs_recv hK hH 1 i0 (show i0 < 11 from by omega) 9 rfl rfl) rfl rfl hl.1 (Nat.le_of_ble_eq_true rfl) ⟨Nat.le_of_ble_eq_true rfl, Nat.le_of_ble_eq_true rfl⟩ dX5_refusalOfReturn_2) hS (fun er8 H locs hH hS => ?_) (fun q9 er8 H locs hH hS => ?_)
  · subst er8
    have hf := on_n hf
    refine lv_astore_nN (lv' := [(2, .null), (0, .ref (YA Y 1 i0)), (1, .int a1)]) hx hb dX5_refusalOfReturn_5 rfl hl (by decide) rfl (fun ls hl => ?_)
    refine lv_aload_nN hx hb dX5_refusalOfReturn_6 rfl (lv_at hl 0 rfl) ?_
    refine lv_ifnonnullN hx hb dX5_refusalOfReturn_7 ?_
    refine lv_iconst (v := (4 : Int32)) hx hb dX5_refusalOfReturn_10 (by decide) ?_
    cases hf
    exact hs_iret C0 hH hS (by decide) (by decide) dX5_refusalOfReturn_11
  · subst er8
    obtain ⟨hq9, hf⟩ := gd_o (on_s hf)
    refine lv_astore_n (lv' := [(2, .ref (YA Y 6 q9)), (0, .ref (YA Y 1 i0)), (1, .int a1)]) hx hb dX5_refusalOfReturn_5 rfl hl (by decide) rfl (fun ls hl => ?_)
    refine lv_aload_n hx hb dX5_refusalOfReturn_6 rfl (lv_at hl 0 rfl) ?_
    refine lv_ifnonnull (tgt := 12) hx hb dX5_refusalOfReturn_7 (by decide) ?_
    refine lv_aload_n hx hb dX5_refusalOfReturn_12 rfl (lv_at hl 0 rfl) ?_
    obtain ⟨r11, hq10, hf⟩ := bd_o hf
    refine hs_ci (hs_runV C0 hH hS (n := 0) (As := []) (rest := []) (c_X3_isUnderWay M q9 (show q9 < 132 from by omega) hq10) ⟨⟨zt_373, zt_374, zt_375, zt_6, zt_376⟩, rfl, by decide, by decide, by decide +kernel⟩ ⟨rfl, rfl, Nat.le_of_ble_eq_true rfl, Nat.le_of_ble_eq_true rfl⟩ (hs_recv hK hH 6 q9 (show q9 < 132 from by omega) 7 rfl rfl) rfl rfl hl.1 (Nat.le_of_ble_eq_true rfl) ⟨Nat.le_of_ble_eq_true rfl, Nat.le_of_ble_eq_true rfl⟩ dX5_refusalOfReturn_13) hS (fun H locs hH hS => ?_)
    refine lv_if_eq (tgt := 23) hx hb dX5_refusalOfReturn_16 (by decide) (fun hc12 => ?_) (fun hc12 => ?_)
    · have hf := if_t hf hc12
      refine lv_iconst (v := (0 : Int32)) hx hb dX5_refusalOfReturn_23 (by decide) ?_
      cases hf
      exact hs_iret C0 hH hS (by decide) (by decide) dX5_refusalOfReturn_24
    · have hf := if_f hf hc12
      refine lv_iconst (v := (3 : Int32)) hx hb dX5_refusalOfReturn_19 (by decide) ?_
      refine lv_goto (tgt := 24) hx hb dX5_refusalOfReturn_20 (by decide) ?_
      cases hf
      exact hs_iret C0 hH hS (by decide) (by decide) dX5_refusalOfReturn_24
def f_X5_refusalOf (M : Mem) (i0 : Nat) (a1 : Int32) (a2 : Int32) (a3 : Int32) (a4 : Int32) (a5 : Int32) : Option Int32 := (if a1 = (0 : Int32) then (if (M 2 i0 1) < (9 : Int32) then some (0 : Int32) else some (3 : Int32)) else (if a1 = (1 : Int32) then bd (f_X5_refusalOfNewLink M i0 a2 a3 a4 a5) fun r32 => some r32 else (if a1 = (2 : Int32) then bd (f_X5_refusalOfBlocking M i0 a2 (1 : Int32)) fun r35 => some r35 else (if a1 = (3 : Int32) then bd (f_X5_refusalOfBlocking M i0 a2 (0 : Int32)) fun r38 => some r38 else (if a1 = (4 : Int32) then bd (f_X5_refusalOfNewParcel M i0 a2 a3 a4 a5) fun r41 => some r41 else (if a1 = (5 : Int32) then bd (f_X5_refusalOfSending M i0 a2 a3) fun r44 => some r44 else (if a1 = (6 : Int32) then bd (f_X5_refusalOfStamps M i0 a2 a3) fun r47 => some r47 else (if a1 = (7 : Int32) then bd (f_X5_refusalOfReturn M i0 a2) fun r50 => some r50 else (if a1 = (9 : Int32) then bd (f_X5_isBetween M a2 (1 : Int32) (120 : Int32)) fun r53 => (if r53 = 0 then some (2 : Int32) else some (0 : Int32)) else some (0 : Int32))))))))))
set_option maxHeartbeats 4000000 in
set_option maxRecDepth 100000 in
theorem c_X5_refusalOf {Y : LY} {l : Launch} (M : Mem) (i0 : Nat) (a1 : Int32) (a2 : Int32) (a3 : Int32) (a4 : Int32) (a5 : Int32) (hi0 : i0 < 11) {r : Int32} (hf : f_X5_refusalOf M i0 a1 a2 a3 a4 a5 = some r) : Met l yX5_refusalOf (WS yX5_refusalOf cX5_refusalOf 6 (Option.some Jvm.ClassFile.FieldType.int)) { frames := 3, cells := 0, slots := 0, locals := 69 } (PcM Y M [.ref (YA Y 1 i0), .int a1, .int a2, .int a3, .int a4, .int a5]) (Qi Y r M) 0 0 (AZ Y) := by
  refine met_mk (lv := [(0, .ref (YA Y 1 i0)), (1, .int a1), (2, .int a2), (3, .int a3), (4, .int a4), (5, .int a5)]) [.ref (YA Y 1 i0), .int a1, .int a2, .int a3, .int a4, .int a5] (by decide) rfl rfl (Nat.le_of_ble_eq_true rfl) (fun p e s m below meth c C0 hH ls hl => ?_)
  have hS : va_S (AZ Y) s.heap s.heap [] := va_S.rf
  obtain ⟨hx, hb, hr, hml, hown, hA, hlocks, hK, hZ⟩ := id C0
  unfold f_X5_refusalOf at hf
  refine lv_iload_n hx hb dX5_refusalOf_0 rfl (lv_at hl 1 rfl) ?_
  by_cases hw30 : a1 = (0 : Int32)
  · have hf := if_t hf hw30
    refine lv_tableIn (tgt := 56) (off := 55) hx hb dX5_refusalOf_1 (by rw [hw30]; decide) (by rw [hw30]; decide) (by rw [hw30]; rfl) (by decide) ?_
    refine lv_aload_n hx hb dX5_refusalOf_56 rfl (lv_at hl 0 rfl) ?_
    refine hs_get hx hb (T := TX5) hA inAX5 hown hK hH 1 i0 (show i0 < 11 from by omega) 9 rfl rfl 1 (by decide) (hA _ zt_173) rfl rfl dX5_refusalOf_57 ?_
    refine hs_get hx hb (T := TX2) hA inAX2 hown hK hH 2 i0 (show i0 < 11 from by omega) 6 rfl rfl 1 (by decide) (hA _ zt_116) rfl rfl dX5_refusalOf_60 ?_
    refine lv_bipush (v := (9 : Int32)) hx hb dX5_refusalOf_63 (by decide) ?_
    refine lv_icmp_lt (tgt := 72) hx hb dX5_refusalOf_65 (by decide) (fun hc29 => ?_) (fun hc29 => ?_)
    · have hf := if_t hf hc29
      refine lv_iconst (v := (0 : Int32)) hx hb dX5_refusalOf_72 (by decide) ?_
      cases hf
      exact hs_iret C0 hH hS (by decide) (by decide) dX5_refusalOf_73
    · have hf := if_f hf hc29
      refine lv_iconst (v := (3 : Int32)) hx hb dX5_refusalOf_68 (by decide) ?_
      refine lv_goto (tgt := 73) hx hb dX5_refusalOf_69 (by decide) ?_
      cases hf
      exact hs_iret C0 hH hS (by decide) (by decide) dX5_refusalOf_73
  have hf := if_f hf hw30
  by_cases hw33 : a1 = (1 : Int32)
  · have hf := if_t hf hw33
    refine lv_tableIn (tgt := 74) (off := 73) hx hb dX5_refusalOf_1 (by rw [hw33]; decide) (by rw [hw33]; decide) (by rw [hw33]; rfl) (by decide) ?_
    refine lv_aload_n hx hb dX5_refusalOf_74 rfl (lv_at hl 0 rfl) ?_
    refine lv_iload_n hx hb dX5_refusalOf_75 rfl (lv_at hl 2 rfl) ?_
    refine lv_iload_n hx hb dX5_refusalOf_76 rfl (lv_at hl 3 rfl) ?_
    refine lv_iload hx hb dX5_refusalOf_77 (lv_at hl 4 rfl) ?_
    refine lv_iload hx hb dX5_refusalOf_79 (lv_at hl 5 rfl) ?_
    obtain ⟨r32, hq31, hf⟩ := bd_o hf
    refine hs_ci (hs_runV C0 hH hS (n := 4) (As := [.int a2, .int a3, .int a4, .int a5]) (rest := []) (c_X5_refusalOfNewLink M i0 a2 a3 a4 a5 (show i0 < 11 from by omega) hq31) ⟨⟨zt_338, zt_340, zs_1, zt_3, zt_341⟩, rfl, by decide, by decide, by decide +kernel⟩ ⟨rfl, rfl, Nat.le_of_ble_eq_true rfl, Nat.le_of_ble_eq_true rfl⟩ (hs_recv hK hH 1 i0 (show i0 < 11 from by omega) 9 rfl rfl) rfl rfl hl.1 (Nat.le_of_ble_eq_true rfl) ⟨Nat.le_of_ble_eq_true rfl, Nat.le_of_ble_eq_true rfl⟩ dX5_refusalOf_81) hS (fun H locs hH hS => ?_)
    cases hf
    exact hs_iret C0 hH hS (by decide) (by decide) dX5_refusalOf_84
  have hf := if_f hf hw33
  by_cases hw36 : a1 = (2 : Int32)
  · have hf := if_t hf hw36
    refine lv_tableIn (tgt := 85) (off := 84) hx hb dX5_refusalOf_1 (by rw [hw36]; decide) (by rw [hw36]; decide) (by rw [hw36]; rfl) (by decide) ?_
    refine lv_aload_n hx hb dX5_refusalOf_85 rfl (lv_at hl 0 rfl) ?_
    refine lv_iload_n hx hb dX5_refusalOf_86 rfl (lv_at hl 2 rfl) ?_
    refine lv_iconst (v := (1 : Int32)) hx hb dX5_refusalOf_87 (by decide) ?_
    obtain ⟨r35, hq34, hf⟩ := bd_o hf
    refine hs_ci (hs_runV C0 hH hS (n := 2) (As := [.int a2, .int (1 : Int32)]) (rest := []) (c_X5_refusalOfBlocking M i0 a2 (1 : Int32) (show i0 < 11 from by omega) hq34) ⟨⟨zt_349, zt_351, zs_2, zt_3, zt_352⟩, rfl, by decide, by decide, by decide +kernel⟩ ⟨rfl, rfl, Nat.le_of_ble_eq_true rfl, Nat.le_of_ble_eq_true rfl⟩ (hs_recv hK hH 1 i0 (show i0 < 11 from by omega) 9 rfl rfl) rfl rfl hl.1 (Nat.le_of_ble_eq_true rfl) ⟨Nat.le_of_ble_eq_true rfl, Nat.le_of_ble_eq_true rfl⟩ dX5_refusalOf_88) hS (fun H locs hH hS => ?_)
    cases hf
    exact hs_iret C0 hH hS (by decide) (by decide) dX5_refusalOf_91
  have hf := if_f hf hw36
  by_cases hw39 : a1 = (3 : Int32)
  · have hf := if_t hf hw39
    refine lv_tableIn (tgt := 92) (off := 91) hx hb dX5_refusalOf_1 (by rw [hw39]; decide) (by rw [hw39]; decide) (by rw [hw39]; rfl) (by decide) ?_
    refine lv_aload_n hx hb dX5_refusalOf_92 rfl (lv_at hl 0 rfl) ?_
    refine lv_iload_n hx hb dX5_refusalOf_93 rfl (lv_at hl 2 rfl) ?_
    refine lv_iconst (v := (0 : Int32)) hx hb dX5_refusalOf_94 (by decide) ?_
    obtain ⟨r38, hq37, hf⟩ := bd_o hf
    refine hs_ci (hs_runV C0 hH hS (n := 2) (As := [.int a2, .int (0 : Int32)]) (rest := []) (c_X5_refusalOfBlocking M i0 a2 (0 : Int32) (show i0 < 11 from by omega) hq37) ⟨⟨zt_349, zt_351, zs_2, zt_3, zt_352⟩, rfl, by decide, by decide, by decide +kernel⟩ ⟨rfl, rfl, Nat.le_of_ble_eq_true rfl, Nat.le_of_ble_eq_true rfl⟩ (hs_recv hK hH 1 i0 (show i0 < 11 from by omega) 9 rfl rfl) rfl rfl hl.1 (Nat.le_of_ble_eq_true rfl) ⟨Nat.le_of_ble_eq_true rfl, Nat.le_of_ble_eq_true rfl⟩ dX5_refusalOf_95) hS (fun H locs hH hS => ?_)
    cases hf
    exact hs_iret C0 hH hS (by decide) (by decide) dX5_refusalOf_98
  have hf := if_f hf hw39
  by_cases hw42 : a1 = (4 : Int32)
  · have hf := if_t hf hw42
    refine lv_tableIn (tgt := 99) (off := 98) hx hb dX5_refusalOf_1 (by rw [hw42]; decide) (by rw [hw42]; decide) (by rw [hw42]; rfl) (by decide) ?_
    refine lv_aload_n hx hb dX5_refusalOf_99 rfl (lv_at hl 0 rfl) ?_
    refine lv_iload_n hx hb dX5_refusalOf_100 rfl (lv_at hl 2 rfl) ?_
    refine lv_iload_n hx hb dX5_refusalOf_101 rfl (lv_at hl 3 rfl) ?_
    refine lv_iload hx hb dX5_refusalOf_102 (lv_at hl 4 rfl) ?_
    refine lv_iload hx hb dX5_refusalOf_104 (lv_at hl 5 rfl) ?_
    obtain ⟨r41, hq40, hf⟩ := bd_o hf
    refine hs_ci (hs_runV C0 hH hS (n := 4) (As := [.int a2, .int a3, .int a4, .int a5]) (rest := []) (c_X5_refusalOfNewParcel M i0 a2 a3 a4 a5 (show i0 < 11 from by omega) hq40) ⟨⟨zt_357, zt_359, zs_3, zt_3, zt_360⟩, rfl, by decide, by decide, by decide +kernel⟩ ⟨rfl, rfl, Nat.le_of_ble_eq_true rfl, Nat.le_of_ble_eq_true rfl⟩ (hs_recv hK hH 1 i0 (show i0 < 11 from by omega) 9 rfl rfl) rfl rfl hl.1 (Nat.le_of_ble_eq_true rfl) ⟨Nat.le_of_ble_eq_true rfl, Nat.le_of_ble_eq_true rfl⟩ dX5_refusalOf_106) hS (fun H locs hH hS => ?_)
    cases hf
    exact hs_iret C0 hH hS (by decide) (by decide) dX5_refusalOf_109
  have hf := if_f hf hw42
  by_cases hw45 : a1 = (5 : Int32)
  · have hf := if_t hf hw45
    refine lv_tableIn (tgt := 110) (off := 109) hx hb dX5_refusalOf_1 (by rw [hw45]; decide) (by rw [hw45]; decide) (by rw [hw45]; rfl) (by decide) ?_
    refine lv_aload_n hx hb dX5_refusalOf_110 rfl (lv_at hl 0 rfl) ?_
    refine lv_iload_n hx hb dX5_refusalOf_111 rfl (lv_at hl 2 rfl) ?_
    refine lv_iload_n hx hb dX5_refusalOf_112 rfl (lv_at hl 3 rfl) ?_
    obtain ⟨r44, hq43, hf⟩ := bd_o hf
    refine hs_ci (hs_runV C0 hH hS (n := 2) (As := [.int a2, .int a3]) (rest := []) (c_X5_refusalOfSending M i0 a2 a3 (show i0 < 11 from by omega) hq43) ⟨⟨zt_361, zt_363, zs_4, zt_3, zt_364⟩, rfl, by decide, by decide, by decide +kernel⟩ ⟨rfl, rfl, Nat.le_of_ble_eq_true rfl, Nat.le_of_ble_eq_true rfl⟩ (hs_recv hK hH 1 i0 (show i0 < 11 from by omega) 9 rfl rfl) rfl rfl hl.1 (Nat.le_of_ble_eq_true rfl) ⟨Nat.le_of_ble_eq_true rfl, Nat.le_of_ble_eq_true rfl⟩ dX5_refusalOf_113) hS (fun H locs hH hS => ?_)
    cases hf
    exact hs_iret C0 hH hS (by decide) (by decide) dX5_refusalOf_116
  have hf := if_f hf hw45
  by_cases hw48 : a1 = (6 : Int32)
  · have hf := if_t hf hw48
    refine lv_tableIn (tgt := 117) (off := 116) hx hb dX5_refusalOf_1 (by rw [hw48]; decide) (by rw [hw48]; decide) (by rw [hw48]; rfl) (by decide) ?_
    refine lv_aload_n hx hb dX5_refusalOf_117 rfl (lv_at hl 0 rfl) ?_
    refine lv_iload_n hx hb dX5_refusalOf_118 rfl (lv_at hl 2 rfl) ?_
    refine lv_iload_n hx hb dX5_refusalOf_119 rfl (lv_at hl 3 rfl) ?_
    obtain ⟨r47, hq46, hf⟩ := bd_o hf
    refine hs_ci (hs_runV C0 hH hS (n := 2) (As := [.int a2, .int a3]) (rest := []) (c_X5_refusalOfStamps M i0 a2 a3 (show i0 < 11 from by omega) hq46) ⟨⟨zt_393, zt_395, zs_8, zt_3, zt_396⟩, rfl, by decide, by decide, by decide +kernel⟩ ⟨rfl, rfl, Nat.le_of_ble_eq_true rfl, Nat.le_of_ble_eq_true rfl⟩ (hs_recv hK hH 1 i0 (show i0 < 11 from by omega) 9 rfl rfl) rfl rfl hl.1 (Nat.le_of_ble_eq_true rfl) ⟨Nat.le_of_ble_eq_true rfl, Nat.le_of_ble_eq_true rfl⟩ dX5_refusalOf_120) hS (fun H locs hH hS => ?_)
    cases hf
    exact hs_iret C0 hH hS (by decide) (by decide) dX5_refusalOf_123
  have hf := if_f hf hw48
  by_cases hw51 : a1 = (7 : Int32)
  · have hf := if_t hf hw51
    refine lv_tableIn (tgt := 124) (off := 123) hx hb dX5_refusalOf_1 (by rw [hw51]; decide) (by rw [hw51]; decide) (by rw [hw51]; rfl) (by decide) ?_
    refine lv_aload_n hx hb dX5_refusalOf_124 rfl (lv_at hl 0 rfl) ?_
    refine lv_iload_n hx hb dX5_refusalOf_125 rfl (lv_at hl 2 rfl) ?_
    obtain ⟨r50, hq49, hf⟩ := bd_o hf
    refine hs_ci (hs_runV C0 hH hS (n := 1) (As := [.int a2]) (rest := []) (c_X5_refusalOfReturn M i0 a2 (show i0 < 11 from by omega) hq49) ⟨⟨zt_397, zt_399, zs_9, zt_3, zt_400⟩, rfl, by decide, by decide, by decide +kernel⟩ ⟨rfl, rfl, Nat.le_of_ble_eq_true rfl, Nat.le_of_ble_eq_true rfl⟩ (hs_recv hK hH 1 i0 (show i0 < 11 from by omega) 9 rfl rfl) rfl rfl hl.1 (Nat.le_of_ble_eq_true rfl) ⟨Nat.le_of_ble_eq_true rfl, Nat.le_of_ble_eq_true rfl⟩ dX5_refusalOf_126) hS (fun H locs hH hS => ?_)
    cases hf
    exact hs_iret C0 hH hS (by decide) (by decide) dX5_refusalOf_129
  have hf := if_f hf hw51
  by_cases hw55 : a1 = (9 : Int32)
  · have hf := if_t hf hw55
    refine lv_tableIn (tgt := 130) (off := 129) hx hb dX5_refusalOf_1 (by rw [hw55]; decide) (by rw [hw55]; decide) (by rw [hw55]; rfl) (by decide) ?_
    refine lv_iload_n hx hb dX5_refusalOf_130 rfl (lv_at hl 2 rfl) ?_
    refine lv_iconst (v := (1 : Int32)) hx hb dX5_refusalOf_131 (by decide) ?_
    refine lv_bipush (v := (120 : Int32)) hx hb dX5_refusalOf_132 (by decide) ?_
    obtain ⟨r53, hq52, hf⟩ := bd_o hf
    refine hs_ci (hs_runS C0 hH hS (n := 3) (As := [.int a2, .int (1 : Int32), .int (120 : Int32)]) (rest := []) (c_X5_isBetween M a2 (1 : Int32) (120 : Int32) hq52) ⟨⟨zt_346, zt_347, zt_3, zt_348⟩, by decide, by decide, by decide +kernel⟩ ⟨rfl, rfl, Nat.le_of_ble_eq_true rfl, Nat.le_of_ble_eq_true rfl⟩ rfl rfl hl.1 (Nat.le_of_ble_eq_true rfl) ⟨Nat.le_of_ble_eq_true rfl, Nat.le_of_ble_eq_true rfl⟩ dX5_refusalOf_134) hS (fun H locs hH hS => ?_)
    refine lv_if_eq (tgt := 144) hx hb dX5_refusalOf_137 (by decide) (fun hc54 => ?_) (fun hc54 => ?_)
    · have hf := if_t hf hc54
      refine lv_iconst (v := (2 : Int32)) hx hb dX5_refusalOf_144 (by decide) ?_
      cases hf
      exact hs_iret C0 hH hS (by decide) (by decide) dX5_refusalOf_145
    · have hf := if_f hf hc54
      refine lv_iconst (v := (0 : Int32)) hx hb dX5_refusalOf_140 (by decide) ?_
      refine lv_goto (tgt := 145) hx hb dX5_refusalOf_141 (by decide) ?_
      cases hf
      exact hs_iret C0 hH hS (by decide) (by decide) dX5_refusalOf_145
  have hf := if_f hf hw55
  have ehw30 := lv_neT hw30 (show ((0 : Int32)).toInt = 0 from by decide)
  have ehw33 := lv_neT hw33 (show ((1 : Int32)).toInt = 1 from by decide)
  have ehw36 := lv_neT hw36 (show ((2 : Int32)).toInt = 2 from by decide)
  have ehw39 := lv_neT hw39 (show ((3 : Int32)).toInt = 3 from by decide)
  have ehw42 := lv_neT hw42 (show ((4 : Int32)).toInt = 4 from by decide)
  have ehw45 := lv_neT hw45 (show ((5 : Int32)).toInt = 5 from by decide)
  have ehw48 := lv_neT hw48 (show ((6 : Int32)).toInt = 6 from by decide)
  have ehw51 := lv_neT hw51 (show ((7 : Int32)).toInt = 7 from by decide)
  have ehw55 := lv_neT hw55 (show ((9 : Int32)).toInt = 9 from by decide)
  by_cases hw56 : (a1).toInt = 8
  · refine lv_tableIn (tgt := 146) (off := 145) hx hb dX5_refusalOf_1 (by rw [hw56]; decide) (by rw [hw56]; decide) (by rw [hw56]; rfl) (by decide) ?_
    refine lv_iconst (v := (0 : Int32)) hx hb dX5_refusalOf_146 (by decide) ?_
    cases hf
    exact hs_iret C0 hH hS (by decide) (by decide) dX5_refusalOf_147
  refine lv_tableOut (tgt := 146) hx hb dX5_refusalOf_1 (by omega) (by decide) ?_
  refine lv_iconst (v := (0 : Int32)) hx hb dX5_refusalOf_146 (by decide) ?_
  cases hf
  exact hs_iret C0 hH hS (by decide) (by decide) dX5_refusalOf_147
def f_X5_putParcel (M : Mem) (i0 : Nat) (a1 : Int32) (a2 : Int32) (a3 : Int32) (a4 : Int32) : Option (Int32 × Mem) := (if (M 1 i0 3) < (12 : Int32) then if vin (M 1 i0 3) 12 then (if ix (M 5 i0 (ix (M 1 i0 3))) < 132 then (nm (mu M 6 (ix (M 5 i0 (ix (M 1 i0 3)))) 0 (M 1 i0 5)) fun M15 => nm (mu M15 6 (ix (M 5 i0 (ix (M 1 i0 3)))) 1 a3) fun M16 => nm (mu M16 6 (ix (M 5 i0 (ix (M 1 i0 3)))) 2 a4) fun M17 => nm (mu M17 6 (ix (M 5 i0 (ix (M 1 i0 3)))) 3 a2) fun M18 => nm (mu M18 6 (ix (M 5 i0 (ix (M 1 i0 3)))) 4 a1) fun M19 => nm (mu M19 6 (ix (M 5 i0 (ix (M 1 i0 3)))) 5 (-1 : Int32)) fun M20 => nm (mu M20 6 (ix (M 5 i0 (ix (M 1 i0 3)))) 6 (-1 : Int32)) fun M21 => nm (mu M21 1 i0 3 ((M21 1 i0 3) + (1 : Int32))) fun M22 => nm (mu M22 1 i0 5 ((M22 1 i0 5) + (1 : Int32))) fun M23 => some ((M23 6 (ix (M 5 i0 (ix (M 1 i0 3)))) 0), M23)) else none) else none else some ((-1 : Int32), M))
set_option maxHeartbeats 4000000 in
set_option maxRecDepth 100000 in
theorem c_X5_putParcel {Y : LY} {l : Launch} (M : Mem) (i0 : Nat) (a1 : Int32) (a2 : Int32) (a3 : Int32) (a4 : Int32) (hi0 : i0 < 11) {r : Int32} {MZ : Mem} (hf : f_X5_putParcel M i0 a1 a2 a3 a4 = some (r, MZ)) : Met l yX5_putParcel (WS yX5_putParcel cX5_putParcel 6 (Option.some Jvm.ClassFile.FieldType.int)) { frames := 0, cells := 0, slots := 0, locals := 0 } (PcM Y M [.ref (YA Y 1 i0), .int a1, .int a2, .int a3, .int a4]) (Qi Y r MZ) 0 0 (AZ Y) := by
  refine met_mk (lv := [(0, .ref (YA Y 1 i0)), (1, .int a1), (2, .int a2), (3, .int a3), (4, .int a4)]) [.ref (YA Y 1 i0), .int a1, .int a2, .int a3, .int a4] (by decide) rfl rfl (Nat.le_of_ble_eq_true rfl) (fun p e s m below meth c C0 hH ls hl => ?_)
  have hS : va_S (AZ Y) s.heap s.heap [] := va_S.rf
  obtain ⟨hx, hb, hr, hml, hown, hA, hlocks, hK, hZ⟩ := id C0
  unfold f_X5_putParcel at hf
  refine lv_aload_n hx hb dX5_putParcel_0 rfl (lv_at hl 0 rfl) ?_
  refine hs_get hx hb (T := TX5) hA inAX5 hown hK hH 1 i0 (show i0 < 11 from by omega) 9 rfl rfl 3 (by decide) (hA _ zt_177) rfl rfl dX5_putParcel_1 ?_
  refine lv_bipush (v := (12 : Int32)) hx hb dX5_putParcel_4 (by decide) ?_
  refine lv_icmp_lt (tgt := 11) hx hb dX5_putParcel_6 (by decide) (fun hc24 => ?_) (fun hc24 => ?_)
  · have hf := if_t hf hc24
    refine lv_aload_n hx hb dX5_putParcel_11 rfl (lv_at hl 0 rfl) ?_
    refine hs_get hx hb (T := TX5) hA inAX5 hown hK hH 1 i0 (show i0 < 11 from by omega) 9 rfl rfl 2 (by decide) (hA _ zt_175) rfl rfl dX5_putParcel_12 ?_
    refine lv_aload_n hx hb dX5_putParcel_15 rfl (lv_at hl 0 rfl) ?_
    refine hs_get hx hb (T := TX5) hA inAX5 hown hK hH 1 i0 (show i0 < 11 from by omega) 9 rfl rfl 3 (by decide) (hA _ zt_177) rfl rfl dX5_putParcel_16 ?_
    obtain ⟨hg13, hf⟩ := gd_o hf
    have bhg13 := vin_lt hg13
    obtain ⟨hg14, hf⟩ := gd_o hf
    refine hs_aald hx hb hK hH 5 i0 (show i0 < 11 from by omega) 4 rfl rfl hg13 (q := YA Y 6 (ix (M 5 i0 (ix (M 1 i0 3))))) rfl dX5_putParcel_19 ?_
    refine lv_astore (lv' := [(5, .ref (YA Y 6 (ix (M 5 i0 (ix (M 1 i0 3)))))), (0, .ref (YA Y 1 i0)), (1, .int a1), (2, .int a2), (3, .int a3), (4, .int a4)]) hx hb dX5_putParcel_20 hl (by decide) rfl (fun ls hl => ?_)
    refine lv_aload hx hb dX5_putParcel_22 (lv_at hl 0 rfl) ?_
    refine lv_aload_n hx hb dX5_putParcel_24 rfl (lv_at hl 1 rfl) ?_
    refine hs_get hx hb (T := TX5) hA inAX5 hown hK hH 1 i0 (show i0 < 11 from by omega) 9 rfl rfl 5 (by decide) (hA _ zt_181) rfl rfl dX5_putParcel_25 ?_
    refine hs_put hx hb (T := TX3) hA inAX3 tyX3 tyX3_ok nmX3 hown hK hH hS 6 (ix (M 5 i0 (ix (M 1 i0 3)))) (show ix (M 5 i0 (ix (M 1 i0 3))) < 132 from by omega) 7 rfl rfl 0 (by decide) (hA _ zt_138) rfl rfl (by decide +kernel) (Nat.le_of_ble_eq_true rfl) rfl dX5_putParcel_28 (fun H locs hH hS => ?_)
    obtain ⟨M15, eM15, hf⟩ := nm_o hf
    rw [← eM15] at hH
    refine lv_aload hx hb dX5_putParcel_31 (lv_at hl 0 rfl) ?_
    refine lv_iload_n hx hb dX5_putParcel_33 rfl (lv_at hl 4 rfl) ?_
    refine hs_put hx hb (T := TX3) hA inAX3 tyX3 tyX3_ok nmX3 hown hK hH hS 6 (ix (M 5 i0 (ix (M 1 i0 3)))) (show ix (M 5 i0 (ix (M 1 i0 3))) < 132 from by omega) 7 rfl rfl 1 (by decide) (hA _ zt_140) rfl rfl (by decide +kernel) (Nat.le_of_ble_eq_true rfl) rfl dX5_putParcel_34 (fun H locs hH hS => ?_)
    obtain ⟨M16, eM16, hf⟩ := nm_o hf
    rw [← eM16] at hH
    refine lv_aload hx hb dX5_putParcel_37 (lv_at hl 0 rfl) ?_
    refine lv_iload hx hb dX5_putParcel_39 (lv_at hl 5 rfl) ?_
    refine hs_put hx hb (T := TX3) hA inAX3 tyX3 tyX3_ok nmX3 hown hK hH hS 6 (ix (M 5 i0 (ix (M 1 i0 3)))) (show ix (M 5 i0 (ix (M 1 i0 3))) < 132 from by omega) 7 rfl rfl 2 (by decide) (hA _ zt_143) rfl rfl (by decide +kernel) (Nat.le_of_ble_eq_true rfl) rfl dX5_putParcel_41 (fun H locs hH hS => ?_)
    obtain ⟨M17, eM17, hf⟩ := nm_o hf
    rw [← eM17] at hH
    refine lv_aload hx hb dX5_putParcel_44 (lv_at hl 0 rfl) ?_
    refine lv_iload_n hx hb dX5_putParcel_46 rfl (lv_at hl 3 rfl) ?_
    refine hs_put hx hb (T := TX3) hA inAX3 tyX3 tyX3_ok nmX3 hown hK hH hS 6 (ix (M 5 i0 (ix (M 1 i0 3)))) (show ix (M 5 i0 (ix (M 1 i0 3))) < 132 from by omega) 7 rfl rfl 3 (by decide) (hA _ zt_146) rfl rfl (by decide +kernel) (Nat.le_of_ble_eq_true rfl) rfl dX5_putParcel_47 (fun H locs hH hS => ?_)
    obtain ⟨M18, eM18, hf⟩ := nm_o hf
    rw [← eM18] at hH
    refine lv_aload hx hb dX5_putParcel_50 (lv_at hl 0 rfl) ?_
    refine lv_iload_n hx hb dX5_putParcel_52 rfl (lv_at hl 2 rfl) ?_
    refine hs_put hx hb (T := TX3) hA inAX3 tyX3 tyX3_ok nmX3 hown hK hH hS 6 (ix (M 5 i0 (ix (M 1 i0 3)))) (show ix (M 5 i0 (ix (M 1 i0 3))) < 132 from by omega) 7 rfl rfl 4 (by decide) (hA _ zt_149) rfl rfl (by decide +kernel) (Nat.le_of_ble_eq_true rfl) rfl dX5_putParcel_53 (fun H locs hH hS => ?_)
    obtain ⟨M19, eM19, hf⟩ := nm_o hf
    rw [← eM19] at hH
    refine lv_aload hx hb dX5_putParcel_56 (lv_at hl 0 rfl) ?_
    refine lv_iconst (v := (-1 : Int32)) hx hb dX5_putParcel_58 (by decide) ?_
    refine hs_put hx hb (T := TX3) hA inAX3 tyX3 tyX3_ok nmX3 hown hK hH hS 6 (ix (M 5 i0 (ix (M 1 i0 3)))) (show ix (M 5 i0 (ix (M 1 i0 3))) < 132 from by omega) 7 rfl rfl 5 (by decide) (hA _ zt_152) rfl rfl (by decide +kernel) (Nat.le_of_ble_eq_true rfl) rfl dX5_putParcel_59 (fun H locs hH hS => ?_)
    obtain ⟨M20, eM20, hf⟩ := nm_o hf
    rw [← eM20] at hH
    refine lv_aload hx hb dX5_putParcel_62 (lv_at hl 0 rfl) ?_
    refine lv_iconst (v := (-1 : Int32)) hx hb dX5_putParcel_64 (by decide) ?_
    refine hs_put hx hb (T := TX3) hA inAX3 tyX3 tyX3_ok nmX3 hown hK hH hS 6 (ix (M 5 i0 (ix (M 1 i0 3)))) (show ix (M 5 i0 (ix (M 1 i0 3))) < 132 from by omega) 7 rfl rfl 6 (by decide) (hA _ zt_155) rfl rfl (by decide +kernel) (Nat.le_of_ble_eq_true rfl) rfl dX5_putParcel_65 (fun H locs hH hS => ?_)
    obtain ⟨M21, eM21, hf⟩ := nm_o hf
    rw [← eM21] at hH
    refine lv_aload_n hx hb dX5_putParcel_68 rfl (lv_at hl 1 rfl) ?_
    refine lv_dup hx hb dX5_putParcel_69 rfl ?_
    refine hs_get hx hb (T := TX5) hA inAX5 hown hK hH 1 i0 (show i0 < 11 from by omega) 9 rfl rfl 3 (by decide) (hA _ zt_177) rfl rfl dX5_putParcel_70 ?_
    refine lv_iconst (v := (1 : Int32)) hx hb dX5_putParcel_73 (by decide) ?_
    refine lv_iadd hx hb dX5_putParcel_74 ?_
    refine hs_put hx hb (T := TX5) hA inAX5 tyX5 tyX5_ok nmX5 hown hK hH hS 1 i0 (show i0 < 11 from by omega) 9 rfl rfl 3 (by decide) (hA _ zt_177) rfl rfl (by decide +kernel) (Nat.le_of_ble_eq_true rfl) rfl dX5_putParcel_75 (fun H locs hH hS => ?_)
    obtain ⟨M22, eM22, hf⟩ := nm_o hf
    rw [← eM22] at hH
    refine lv_aload_n hx hb dX5_putParcel_78 rfl (lv_at hl 1 rfl) ?_
    refine lv_dup hx hb dX5_putParcel_79 rfl ?_
    refine hs_get hx hb (T := TX5) hA inAX5 hown hK hH 1 i0 (show i0 < 11 from by omega) 9 rfl rfl 5 (by decide) (hA _ zt_181) rfl rfl dX5_putParcel_80 ?_
    refine lv_iconst (v := (1 : Int32)) hx hb dX5_putParcel_83 (by decide) ?_
    refine lv_iadd hx hb dX5_putParcel_84 ?_
    refine hs_put hx hb (T := TX5) hA inAX5 tyX5 tyX5_ok nmX5 hown hK hH hS 1 i0 (show i0 < 11 from by omega) 9 rfl rfl 5 (by decide) (hA _ zt_181) rfl rfl (by decide +kernel) (Nat.le_of_ble_eq_true rfl) rfl dX5_putParcel_85 (fun H locs hH hS => ?_)
    obtain ⟨M23, eM23, hf⟩ := nm_o hf
    rw [← eM23] at hH
    refine lv_aload hx hb dX5_putParcel_88 (lv_at hl 0 rfl) ?_
    refine hs_get hx hb (T := TX3) hA inAX3 hown hK hH 6 (ix (M 5 i0 (ix (M 1 i0 3)))) (show ix (M 5 i0 (ix (M 1 i0 3))) < 132 from by omega) 7 rfl rfl 0 (by decide) (hA _ zt_138) rfl rfl dX5_putParcel_90 ?_
    cases hf
    exact hs_iret C0 hH hS (by decide) (by decide) dX5_putParcel_93
  · have hf := if_f hf hc24
    refine lv_iconst (v := (-1 : Int32)) hx hb dX5_putParcel_9 (by decide) ?_
    cases hf
    exact hs_iret C0 hH hS (by decide) (by decide) dX5_putParcel_10
def f_X5_sendOver (M : Mem) (i0 : Nat) (o1 : Option Nat) (a2 : Int32) : Option (Int32 × Mem) := on o1 (some ((-1 : Int32), M)) fun q1 => bd (f_X2_hasLink M i0 a2) fun r11 => (if r11 = 0 then some ((-1 : Int32), M) else nm (mu M 6 q1 2 ((M 6 q1 2) - (1 : Int32))) fun M12 => nm (mu M12 1 i0 8 ((M12 1 i0 8) + (1 : Int32))) fun M13 => nm (mu M13 6 q1 5 a2) fun M14 => if vin a2 20 then (nm (mu M14 6 q1 4 (M14 4 (20 * i0 + (ix a2)) 1)) fun M16 => nm (mu M16 6 q1 6 ((M16 1 i0 4) + (M16 4 (20 * i0 + (ix a2)) 2))) fun M17 => some ((M17 6 q1 6), M17)) else none)
set_option maxHeartbeats 4000000 in
set_option maxRecDepth 100000 in
set_option maxHeartbeats 4000000 in
set_option maxRecDepth 100000 in
theorem c_X5_sendOver_n {Y : LY} {l : Launch} (M : Mem) (i0 : Nat) (a2 : Int32) (hi0 : i0 < 11) {r : Int32} {MZ : Mem} (hf : f_X5_sendOver M i0 none a2 = some (r, MZ)) : Met l yX5_sendOver (WS yX5_sendOver cX5_sendOver 3 (Option.some Jvm.ClassFile.FieldType.int)) { frames := 1, cells := 0, slots := 0, locals := 21 } (PcM Y M [.ref (YA Y 1 i0), .null, .int a2]) (Qi Y r MZ) 0 0 (AZ Y) := by
  refine met_mk (lv := [(0, .ref (YA Y 1 i0)), (1, .null), (2, .int a2)]) [.ref (YA Y 1 i0), .null, .int a2] (by decide) rfl rfl (Nat.le_of_ble_eq_true rfl) (fun p e s m below meth c C0 hH ls hl => ?_)
  have hS : va_S (AZ Y) s.heap s.heap [] := va_S.rf
  obtain ⟨hx, hb, hr, hml, hown, hA, hlocks, hK, hZ⟩ := id C0
  have hf := on_n hf
  refine lv_aload_nN hx hb dX5_sendOver_0 rfl (lv_at hl 1 rfl) ?_
  refine lv_ifnullN (tgt := 15) hx hb dX5_sendOver_1 (by decide) ?_
  refine lv_iconst (v := (-1 : Int32)) hx hb dX5_sendOver_15 (by decide) ?_
  cases hf
  exact hs_iret C0 hH hS (by decide) (by decide) dX5_sendOver_16
set_option maxHeartbeats 4000000 in
set_option maxRecDepth 100000 in
theorem c_X5_sendOver_s {Y : LY} {l : Launch} (M : Mem) (i0 : Nat) (a2 : Int32) (q1 : Nat) (hi0 : i0 < 11) (hq1 : q1 < 132) {r : Int32} {MZ : Mem} (hf : f_X5_sendOver M i0 (some q1) a2 = some (r, MZ)) : Met l yX5_sendOver (WS yX5_sendOver cX5_sendOver 3 (Option.some Jvm.ClassFile.FieldType.int)) { frames := 1, cells := 0, slots := 0, locals := 21 } (PcM Y M [.ref (YA Y 1 i0), .ref (YA Y 6 q1), .int a2]) (Qi Y r MZ) 0 0 (AZ Y) := by
  refine met_mk (lv := [(0, .ref (YA Y 1 i0)), (1, .ref (YA Y 6 q1)), (2, .int a2)]) [.ref (YA Y 1 i0), .ref (YA Y 6 q1), .int a2] (by decide) rfl rfl (Nat.le_of_ble_eq_true rfl) (fun p e s m below meth c C0 hH ls hl => ?_)
  have hS : va_S (AZ Y) s.heap s.heap [] := va_S.rf
  obtain ⟨hx, hb, hr, hml, hown, hA, hlocks, hK, hZ⟩ := id C0
  have hf := on_s hf
  refine lv_aload_n hx hb dX5_sendOver_0 rfl (lv_at hl 1 rfl) ?_
  refine lv_ifnull hx hb dX5_sendOver_1 ?_
  refine lv_aload_n hx hb dX5_sendOver_4 rfl (lv_at hl 0 rfl) ?_
  refine hs_get hx hb (T := TX5) hA inAX5 hown hK hH 1 i0 (show i0 < 11 from by omega) 9 rfl rfl 1 (by decide) (hA _ zt_173) rfl rfl dX5_sendOver_5 ?_
  refine lv_iload_n hx hb dX5_sendOver_8 rfl (lv_at hl 2 rfl) ?_
  obtain ⟨r11, hq10, hf⟩ := bd_o hf
  refine hs_ci (hs_runV C0 hH hS (n := 1) (As := [.int a2]) (rest := []) (c_X2_hasLink M i0 a2 (show i0 < 11 from by omega) hq10) ⟨⟨zt_353, zt_354, zt_355, zt_4, zt_356⟩, rfl, by decide, by decide, by decide +kernel⟩ ⟨rfl, rfl, Nat.le_of_ble_eq_true rfl, Nat.le_of_ble_eq_true rfl⟩ (hs_recv hK hH 2 i0 (show i0 < 11 from by omega) 6 rfl rfl) rfl rfl hl.1 (Nat.le_of_ble_eq_true rfl) ⟨Nat.le_of_ble_eq_true rfl, Nat.le_of_ble_eq_true rfl⟩ dX5_sendOver_9) hS (fun H locs hH hS => ?_)
  refine lv_if_ne (tgt := 17) hx hb dX5_sendOver_12 (by decide) (fun hc18 => ?_) (fun hc18 => ?_)
  · have hf := if_f hf hc18
    refine lv_aload_n hx hb dX5_sendOver_17 rfl (lv_at hl 1 rfl) ?_
    refine lv_dup hx hb dX5_sendOver_18 rfl ?_
    refine hs_get hx hb (T := TX3) hA inAX3 hown hK hH 6 q1 (show q1 < 132 from by omega) 7 rfl rfl 2 (by decide) (hA _ zt_143) rfl rfl dX5_sendOver_19 ?_
    refine lv_iconst (v := (1 : Int32)) hx hb dX5_sendOver_22 (by decide) ?_
    refine lv_isub hx hb dX5_sendOver_23 ?_
    refine hs_put hx hb (T := TX3) hA inAX3 tyX3 tyX3_ok nmX3 hown hK hH hS 6 q1 (show q1 < 132 from by omega) 7 rfl rfl 2 (by decide) (hA _ zt_143) rfl rfl (by decide +kernel) (Nat.le_of_ble_eq_true rfl) rfl dX5_sendOver_24 (fun H locs hH hS => ?_)
    obtain ⟨M12, eM12, hf⟩ := nm_o hf
    rw [← eM12] at hH
    refine lv_aload_n hx hb dX5_sendOver_27 rfl (lv_at hl 0 rfl) ?_
    refine lv_dup hx hb dX5_sendOver_28 rfl ?_
    refine hs_get hx hb (T := TX5) hA inAX5 hown hK hH 1 i0 (show i0 < 11 from by omega) 9 rfl rfl 8 (by decide) (hA _ zt_187) rfl rfl dX5_sendOver_29 ?_
    refine lv_iconst (v := (1 : Int32)) hx hb dX5_sendOver_32 (by decide) ?_
    refine lv_iadd hx hb dX5_sendOver_33 ?_
    refine hs_put hx hb (T := TX5) hA inAX5 tyX5 tyX5_ok nmX5 hown hK hH hS 1 i0 (show i0 < 11 from by omega) 9 rfl rfl 8 (by decide) (hA _ zt_187) rfl rfl (by decide +kernel) (Nat.le_of_ble_eq_true rfl) rfl dX5_sendOver_34 (fun H locs hH hS => ?_)
    obtain ⟨M13, eM13, hf⟩ := nm_o hf
    rw [← eM13] at hH
    refine lv_aload_n hx hb dX5_sendOver_37 rfl (lv_at hl 1 rfl) ?_
    refine lv_iload_n hx hb dX5_sendOver_38 rfl (lv_at hl 2 rfl) ?_
    refine hs_put hx hb (T := TX3) hA inAX3 tyX3 tyX3_ok nmX3 hown hK hH hS 6 q1 (show q1 < 132 from by omega) 7 rfl rfl 5 (by decide) (hA _ zt_152) rfl rfl (by decide +kernel) (Nat.le_of_ble_eq_true rfl) rfl dX5_sendOver_39 (fun H locs hH hS => ?_)
    obtain ⟨M14, eM14, hf⟩ := nm_o hf
    rw [← eM14] at hH
    refine lv_aload_n hx hb dX5_sendOver_42 rfl (lv_at hl 1 rfl) ?_
    refine lv_aload_n hx hb dX5_sendOver_43 rfl (lv_at hl 0 rfl) ?_
    refine hs_get hx hb (T := TX5) hA inAX5 hown hK hH 1 i0 (show i0 < 11 from by omega) 9 rfl rfl 1 (by decide) (hA _ zt_173) rfl rfl dX5_sendOver_44 ?_
    refine hs_get hx hb (T := TX2) hA inAX2 hown hK hH 2 i0 (show i0 < 11 from by omega) 6 rfl rfl 0 (by decide) (hA _ zt_112) rfl rfl dX5_sendOver_47 ?_
    refine lv_iload_n hx hb dX5_sendOver_50 rfl (lv_at hl 2 rfl) ?_
    obtain ⟨hg15, hf⟩ := gd_o hf
    have bhg15 := vin_lt hg15
    refine hs_aald hx hb hK hH 3 i0 (show i0 < 11 from by omega) 3 rfl rfl hg15 (q := YA Y 4 (20 * i0 + (ix a2))) rfl dX5_sendOver_51 ?_
    refine hs_get hx hb (T := TX1) hA inAX1 hown hK hH 4 (20 * i0 + (ix a2)) (show 20 * i0 + (ix a2) < 220 from by omega) 5 rfl rfl 1 (by decide) (hA _ zt_85) rfl rfl dX5_sendOver_52 ?_
    refine hs_put hx hb (T := TX3) hA inAX3 tyX3 tyX3_ok nmX3 hown hK hH hS 6 q1 (show q1 < 132 from by omega) 7 rfl rfl 4 (by decide) (hA _ zt_149) rfl rfl (by decide +kernel) (Nat.le_of_ble_eq_true rfl) rfl dX5_sendOver_55 (fun H locs hH hS => ?_)
    obtain ⟨M16, eM16, hf⟩ := nm_o hf
    rw [← eM16] at hH
    refine lv_aload_n hx hb dX5_sendOver_58 rfl (lv_at hl 1 rfl) ?_
    refine lv_aload_n hx hb dX5_sendOver_59 rfl (lv_at hl 0 rfl) ?_
    refine hs_get hx hb (T := TX5) hA inAX5 hown hK hH 1 i0 (show i0 < 11 from by omega) 9 rfl rfl 4 (by decide) (hA _ zt_179) rfl rfl dX5_sendOver_60 ?_
    refine lv_aload_n hx hb dX5_sendOver_63 rfl (lv_at hl 0 rfl) ?_
    refine hs_get hx hb (T := TX5) hA inAX5 hown hK hH 1 i0 (show i0 < 11 from by omega) 9 rfl rfl 1 (by decide) (hA _ zt_173) rfl rfl dX5_sendOver_64 ?_
    refine hs_get hx hb (T := TX2) hA inAX2 hown hK hH 2 i0 (show i0 < 11 from by omega) 6 rfl rfl 0 (by decide) (hA _ zt_112) rfl rfl dX5_sendOver_67 ?_
    refine lv_iload_n hx hb dX5_sendOver_70 rfl (lv_at hl 2 rfl) ?_
    refine hs_aald hx hb hK hH 3 i0 (show i0 < 11 from by omega) 3 rfl rfl hg15 (q := YA Y 4 (20 * i0 + (ix a2))) rfl dX5_sendOver_71 ?_
    refine hs_get hx hb (T := TX1) hA inAX1 hown hK hH 4 (20 * i0 + (ix a2)) (show 20 * i0 + (ix a2) < 220 from by omega) 5 rfl rfl 2 (by decide) (hA _ zt_90) rfl rfl dX5_sendOver_72 ?_
    refine lv_iadd hx hb dX5_sendOver_75 ?_
    refine hs_put hx hb (T := TX3) hA inAX3 tyX3 tyX3_ok nmX3 hown hK hH hS 6 q1 (show q1 < 132 from by omega) 7 rfl rfl 6 (by decide) (hA _ zt_155) rfl rfl (by decide +kernel) (Nat.le_of_ble_eq_true rfl) rfl dX5_sendOver_76 (fun H locs hH hS => ?_)
    obtain ⟨M17, eM17, hf⟩ := nm_o hf
    rw [← eM17] at hH
    refine lv_aload_n hx hb dX5_sendOver_79 rfl (lv_at hl 1 rfl) ?_
    refine hs_get hx hb (T := TX3) hA inAX3 hown hK hH 6 q1 (show q1 < 132 from by omega) 7 rfl rfl 6 (by decide) (hA _ zt_155) rfl rfl dX5_sendOver_80 ?_
    cases hf
    exact hs_iret C0 hH hS (by decide) (by decide) dX5_sendOver_83
  · have hf := if_t hf hc18
    refine lv_iconst (v := (-1 : Int32)) hx hb dX5_sendOver_15 (by decide) ?_
    cases hf
    exact hs_iret C0 hH hS (by decide) (by decide) dX5_sendOver_16
def f_X5_putStamps (M : Mem) (o0 : Option Nat) (a1 : Int32) : Option (Int32 × Mem) := on o0 (some ((-1 : Int32), M)) fun q0 => nm (mu M 6 q0 2 ((M 6 q0 2) + a1)) fun M2 => some ((M2 6 q0 2), M2)
set_option maxHeartbeats 4000000 in
set_option maxRecDepth 100000 in
set_option maxHeartbeats 4000000 in
set_option maxRecDepth 100000 in
theorem c_X5_putStamps_n {Y : LY} {l : Launch} (M : Mem) (a1 : Int32) {r : Int32} {MZ : Mem} (hf : f_X5_putStamps M none a1 = some (r, MZ)) : Met l yX5_putStamps (WS yX5_putStamps cX5_putStamps 2 (Option.some Jvm.ClassFile.FieldType.int)) { frames := 0, cells := 0, slots := 0, locals := 0 } (PcM Y M [.null, .int a1]) (Qi Y r MZ) 0 0 (AZ Y) := by
  refine met_mk (lv := [(0, .null), (1, .int a1)]) [.null, .int a1] (by decide) rfl rfl (Nat.le_of_ble_eq_true rfl) (fun p e s m below meth c C0 hH ls hl => ?_)
  have hS : va_S (AZ Y) s.heap s.heap [] := va_S.rf
  obtain ⟨hx, hb, hr, hml, hown, hA, hlocks, hK, hZ⟩ := id C0
  have hf := on_n hf
  refine lv_aload_nN hx hb dX5_putStamps_0 rfl (lv_at hl 0 rfl) ?_
  refine lv_ifnonnullN hx hb dX5_putStamps_1 ?_
  refine lv_iconst (v := (-1 : Int32)) hx hb dX5_putStamps_4 (by decide) ?_
  cases hf
  exact hs_iret C0 hH hS (by decide) (by decide) dX5_putStamps_5
set_option maxHeartbeats 4000000 in
set_option maxRecDepth 100000 in
theorem c_X5_putStamps_s {Y : LY} {l : Launch} (M : Mem) (a1 : Int32) (q0 : Nat) (hq0 : q0 < 132) {r : Int32} {MZ : Mem} (hf : f_X5_putStamps M (some q0) a1 = some (r, MZ)) : Met l yX5_putStamps (WS yX5_putStamps cX5_putStamps 2 (Option.some Jvm.ClassFile.FieldType.int)) { frames := 0, cells := 0, slots := 0, locals := 0 } (PcM Y M [.ref (YA Y 6 q0), .int a1]) (Qi Y r MZ) 0 0 (AZ Y) := by
  refine met_mk (lv := [(0, .ref (YA Y 6 q0)), (1, .int a1)]) [.ref (YA Y 6 q0), .int a1] (by decide) rfl rfl (Nat.le_of_ble_eq_true rfl) (fun p e s m below meth c C0 hH ls hl => ?_)
  have hS : va_S (AZ Y) s.heap s.heap [] := va_S.rf
  obtain ⟨hx, hb, hr, hml, hown, hA, hlocks, hK, hZ⟩ := id C0
  have hf := on_s hf
  refine lv_aload_n hx hb dX5_putStamps_0 rfl (lv_at hl 0 rfl) ?_
  refine lv_ifnonnull (tgt := 6) hx hb dX5_putStamps_1 (by decide) ?_
  refine lv_aload_n hx hb dX5_putStamps_6 rfl (lv_at hl 0 rfl) ?_
  refine lv_dup hx hb dX5_putStamps_7 rfl ?_
  refine hs_get hx hb (T := TX3) hA inAX3 hown hK hH 6 q0 (show q0 < 132 from by omega) 7 rfl rfl 2 (by decide) (hA _ zt_143) rfl rfl dX5_putStamps_8 ?_
  refine lv_iload_n hx hb dX5_putStamps_11 rfl (lv_at hl 1 rfl) ?_
  refine lv_iadd hx hb dX5_putStamps_12 ?_
  refine hs_put hx hb (T := TX3) hA inAX3 tyX3 tyX3_ok nmX3 hown hK hH hS 6 q0 (show q0 < 132 from by omega) 7 rfl rfl 2 (by decide) (hA _ zt_143) rfl rfl (by decide +kernel) (Nat.le_of_ble_eq_true rfl) rfl dX5_putStamps_13 (fun H locs hH hS => ?_)
  obtain ⟨M2, eM2, hf⟩ := nm_o hf
  rw [← eM2] at hH
  refine lv_aload_n hx hb dX5_putStamps_16 rfl (lv_at hl 0 rfl) ?_
  refine hs_get hx hb (T := TX3) hA inAX3 hown hK hH 6 q0 (show q0 < 132 from by omega) 7 rfl rfl 2 (by decide) (hA _ zt_143) rfl rfl dX5_putStamps_17 ?_
  cases hf
  exact hs_iret C0 hH hS (by decide) (by decide) dX5_putStamps_20
def f_X5_removeAt_9 : Nat → Mem → Nat → Nat → Int32 → Option Mem
  | 0, _, _, _, _ => none
  | n + 1, M, i0, i2, a3 => (if (M 1 i0 3) ≤ (a3 + (1 : Int32)) then if vin ((M 1 i0 3) - (1 : Int32)) 12 then (nm (mu M 5 i0 (ix ((M 1 i0 3) - (1 : Int32))) (nI (i2))) fun M12 => nm (mu M12 1 i0 3 ((M12 1 i0 3) - (1 : Int32))) fun M13 => some M13) else none else if vin (a3 + (1 : Int32)) 12 then (if ix (M 5 i0 (ix (a3 + (1 : Int32)))) < 132 then (if vin a3 12 then (nm (mu M 5 i0 (ix a3) (nI (ix (M 5 i0 (ix (a3 + (1 : Int32))))))) fun M17 => f_X5_removeAt_9 n M17 i0 i2 (a3 + (1 : Int32))) else none) else none) else none)
set_option maxHeartbeats 4000000 in
set_option maxRecDepth 100000 in
theorem w_X5_removeAt_9 {Y : LY} {p : Program} {l : Launch} {e : Env} {s : State} {m : MethodId} {args : Array Value} {below : List Frame} {meth : Method} {c : Code} (C0 : BE Y p s m args meth c cX5_removeAt 4 (Option.none : Option Jvm.ClassFile.FieldType) RX5) {MZ : Mem} : ∀ (n : Nat) (M : Mem) (i0 : Nat) (i2 : Nat) (a3 : Int32), i0 < 11 → i2 < 132 → f_X5_removeAt_9 n M i0 i2 a3 = some MZ → ∀ (H : Heap) (locs : List Loc) (ls : Array Slot), HS Y M H → va_S (AZ Y) s.heap H locs → lv_has ls 4 [(0, .ref (YA Y 1 i0)), (2, .ref (YA Y 6 i2)), (3, .int a3)] → W p l e { frames := 0, cells := 0, slots := 0, locals := 0 } s m args below meth c H locs 0 0 (MQ below (Qv Y MZ) args s 0 0 (AZ Y)) (F0 m 9 ls []) := by
  obtain ⟨hx, hb, hr, hml, hown, hA, hlocks, hK, hZ⟩ := id C0
  intro n
  induction n with
  | zero =>
    intro M i0 i2 a3 hi0 hi2 hf
    cases hf
  | succ n ih =>
    intro M i0 i2 a3 hi0 hi2 hf H locs ls hH hS hl
    rw [f_X5_removeAt_9] at hf
    refine lv_iload_n hx hb dX5_removeAt_9 rfl (lv_at hl 2 rfl) ?_
    refine lv_iconst (v := (1 : Int32)) hx hb dX5_removeAt_10 (by decide) ?_
    refine lv_iadd hx hb dX5_removeAt_11 ?_
    refine lv_aload_n hx hb dX5_removeAt_12 rfl (lv_at hl 0 rfl) ?_
    refine hs_get hx hb (T := TX5) hA inAX5 hown hK hH 1 i0 (show i0 < 11 from by omega) 9 rfl rfl 3 (by decide) (hA _ zt_177) rfl rfl dX5_removeAt_13 ?_
    refine lv_icmp_ge (tgt := 39) hx hb dX5_removeAt_16 (by decide) (fun hc18 => ?_) (fun hc18 => ?_)
    · have hf := if_t hf hc18
      refine lv_aload_n hx hb dX5_removeAt_39 rfl (lv_at hl 0 rfl) ?_
      refine hs_get hx hb (T := TX5) hA inAX5 hown hK hH 1 i0 (show i0 < 11 from by omega) 9 rfl rfl 2 (by decide) (hA _ zt_175) rfl rfl dX5_removeAt_40 ?_
      refine lv_aload_n hx hb dX5_removeAt_43 rfl (lv_at hl 0 rfl) ?_
      refine hs_get hx hb (T := TX5) hA inAX5 hown hK hH 1 i0 (show i0 < 11 from by omega) 9 rfl rfl 3 (by decide) (hA _ zt_177) rfl rfl dX5_removeAt_44 ?_
      refine lv_iconst (v := (1 : Int32)) hx hb dX5_removeAt_47 (by decide) ?_
      refine lv_isub hx hb dX5_removeAt_48 ?_
      refine lv_aload_n hx hb dX5_removeAt_49 rfl (lv_at hl 1 rfl) ?_
      obtain ⟨hg11, hf⟩ := gd_o hf
      have bhg11 := vin_lt hg11
      refine hs_past hx hb hK hH hS i0 (show i0 < 11 from by omega) hg11 (i2) (show i2 < 132 from by omega) dX5_removeAt_50 (fun H locs hH hS => ?_)
      obtain ⟨M12, eM12, hf⟩ := nm_o hf
      rw [← eM12] at hH
      refine lv_aload_n hx hb dX5_removeAt_51 rfl (lv_at hl 0 rfl) ?_
      refine lv_dup hx hb dX5_removeAt_52 rfl ?_
      refine hs_get hx hb (T := TX5) hA inAX5 hown hK hH 1 i0 (show i0 < 11 from by omega) 9 rfl rfl 3 (by decide) (hA _ zt_177) rfl rfl dX5_removeAt_53 ?_
      refine lv_iconst (v := (1 : Int32)) hx hb dX5_removeAt_56 (by decide) ?_
      refine lv_isub hx hb dX5_removeAt_57 ?_
      refine hs_put hx hb (T := TX5) hA inAX5 tyX5 tyX5_ok nmX5 hown hK hH hS 1 i0 (show i0 < 11 from by omega) 9 rfl rfl 3 (by decide) (hA _ zt_177) rfl rfl (by decide +kernel) (Nat.le_of_ble_eq_true rfl) rfl dX5_removeAt_58 (fun H locs hH hS => ?_)
      obtain ⟨M13, eM13, hf⟩ := nm_o hf
      rw [← eM13] at hH
      cases hf
      exact hs_vret C0 hH hS (by decide) (by decide) dX5_removeAt_61
    · have hf := if_f hf hc18
      refine lv_aload_n hx hb dX5_removeAt_19 rfl (lv_at hl 0 rfl) ?_
      refine hs_get hx hb (T := TX5) hA inAX5 hown hK hH 1 i0 (show i0 < 11 from by omega) 9 rfl rfl 2 (by decide) (hA _ zt_175) rfl rfl dX5_removeAt_20 ?_
      refine lv_iload_n hx hb dX5_removeAt_23 rfl (lv_at hl 2 rfl) ?_
      refine lv_aload_n hx hb dX5_removeAt_24 rfl (lv_at hl 0 rfl) ?_
      refine hs_get hx hb (T := TX5) hA inAX5 hown hK hH 1 i0 (show i0 < 11 from by omega) 9 rfl rfl 2 (by decide) (hA _ zt_175) rfl rfl dX5_removeAt_25 ?_
      refine lv_iload_n hx hb dX5_removeAt_28 rfl (lv_at hl 2 rfl) ?_
      refine lv_iconst (v := (1 : Int32)) hx hb dX5_removeAt_29 (by decide) ?_
      refine lv_iadd hx hb dX5_removeAt_30 ?_
      obtain ⟨hg14, hf⟩ := gd_o hf
      have bhg14 := vin_lt hg14
      obtain ⟨hg15, hf⟩ := gd_o hf
      refine hs_aald hx hb hK hH 5 i0 (show i0 < 11 from by omega) 4 rfl rfl hg14 (q := YA Y 6 (ix (M 5 i0 (ix (a3 + (1 : Int32)))))) rfl dX5_removeAt_31 ?_
      obtain ⟨hg16, hf⟩ := gd_o hf
      have bhg16 := vin_lt hg16
      refine hs_past hx hb hK hH hS i0 (show i0 < 11 from by omega) hg16 (ix (M 5 i0 (ix (a3 + (1 : Int32))))) (show ix (M 5 i0 (ix (a3 + (1 : Int32)))) < 132 from by omega) dX5_removeAt_32 (fun H locs hH hS => ?_)
      obtain ⟨M17, eM17, hf⟩ := nm_o hf
      rw [← eM17] at hH
      refine lv_iinc (v := a3 + (1 : Int32)) (lv' := [(3, .int (a3 + (1 : Int32))), (0, .ref (YA Y 1 i0)), (2, .ref (YA Y 6 i2))]) hx hb dX5_removeAt_33 hl (k := 2) rfl rfl (by decide) rfl (fun ls hl => ?_)
      refine lv_goto (tgt := 9) hx hb dX5_removeAt_36 (by decide) ?_
      exact ih M17 i0 i2 (a3 + (1 : Int32)) (show i0 < 11 from by omega) (show i2 < 132 from by omega) hf _ _ _ hH hS (lv_sub hl [1, 2, 0] rfl)
def f_X5_removeAt (M : Mem) (i0 : Nat) (a1 : Int32) : Option Mem := if vin a1 12 then (if ix (M 5 i0 (ix a1)) < 132 then (f_X5_removeAt_9 FU M i0 (ix (M 5 i0 (ix a1))) a1) else none) else none
set_option maxHeartbeats 4000000 in
set_option maxRecDepth 100000 in
theorem c_X5_removeAt {Y : LY} {l : Launch} (M : Mem) (i0 : Nat) (a1 : Int32) (hi0 : i0 < 11) {MZ : Mem} (hf : f_X5_removeAt M i0 a1 = some MZ) : Met l yX5_removeAt (WS yX5_removeAt cX5_removeAt 4 (Option.none : Option Jvm.ClassFile.FieldType)) { frames := 0, cells := 0, slots := 0, locals := 0 } (PcM Y M [.ref (YA Y 1 i0), .int a1]) (Qv Y MZ) 0 0 (AZ Y) := by
  refine met_mk (lv := [(0, .ref (YA Y 1 i0)), (1, .int a1)]) [.ref (YA Y 1 i0), .int a1] (by decide) rfl rfl (Nat.le_of_ble_eq_true rfl) (fun p e s m below meth c C0 hH ls hl => ?_)
  have hS : va_S (AZ Y) s.heap s.heap [] := va_S.rf
  obtain ⟨hx, hb, hr, hml, hown, hA, hlocks, hK, hZ⟩ := id C0
  unfold f_X5_removeAt at hf
  refine lv_aload_n hx hb dX5_removeAt_0 rfl (lv_at hl 0 rfl) ?_
  refine hs_get hx hb (T := TX5) hA inAX5 hown hK hH 1 i0 (show i0 < 11 from by omega) 9 rfl rfl 2 (by decide) (hA _ zt_175) rfl rfl dX5_removeAt_1 ?_
  refine lv_iload_n hx hb dX5_removeAt_4 rfl (lv_at hl 1 rfl) ?_
  obtain ⟨hg19, hf⟩ := gd_o hf
  have bhg19 := vin_lt hg19
  obtain ⟨hg20, hf⟩ := gd_o hf
  refine hs_aald hx hb hK hH 5 i0 (show i0 < 11 from by omega) 4 rfl rfl hg19 (q := YA Y 6 (ix (M 5 i0 (ix a1)))) rfl dX5_removeAt_5 ?_
  refine lv_astore_n (lv' := [(2, .ref (YA Y 6 (ix (M 5 i0 (ix a1))))), (0, .ref (YA Y 1 i0)), (1, .int a1)]) hx hb dX5_removeAt_6 rfl hl (by decide) rfl (fun ls hl => ?_)
  refine lv_iload_n hx hb dX5_removeAt_7 rfl (lv_at hl 2 rfl) ?_
  refine lv_istore_n (lv' := [(3, .int a1), (2, .ref (YA Y 6 (ix (M 5 i0 (ix a1))))), (0, .ref (YA Y 1 i0)), (1, .int a1)]) hx hb dX5_removeAt_8 rfl hl (by decide) rfl (fun ls hl => ?_)
  exact w_X5_removeAt_9 C0 FU M i0 (ix (M 5 i0 (ix a1))) a1 (show i0 < 11 from by omega) (show ix (M 5 i0 (ix a1)) < 132 from by omega) hf _ _ _ hH hS (lv_sub hl [2, 1, 0] rfl)
def f_X5_giveBack (M : Mem) (i0 : Nat) (a1 : Int32) : Option (Int32 × Mem) := bd (f_X5_positionOf M i0 a1) fun r11 => (if r11 = (-1 : Int32) then some ((-1 : Int32), M) else if vin r11 12 then (if ix (M 5 i0 (ix r11)) < 132 then (bd (f_X5_removeAt M i0 r11) fun M15 => nm (mu M15 1 i0 7 ((M15 1 i0 7) + (1 : Int32))) fun M17 => some ((M 6 (ix (M 5 i0 (ix r11))) 2), M17)) else none) else none)
set_option maxHeartbeats 4000000 in
set_option maxRecDepth 100000 in
theorem c_X5_giveBack {Y : LY} {l : Launch} (M : Mem) (i0 : Nat) (a1 : Int32) (hi0 : i0 < 11) {r : Int32} {MZ : Mem} (hf : f_X5_giveBack M i0 a1 = some (r, MZ)) : Met l yX5_giveBack (WS yX5_giveBack cX5_giveBack 4 (Option.some Jvm.ClassFile.FieldType.int)) { frames := 1, cells := 0, slots := 0, locals := 23 } (PcM Y M [.ref (YA Y 1 i0), .int a1]) (Qi Y r MZ) 0 0 (AZ Y) := by
  refine met_mk (lv := [(0, .ref (YA Y 1 i0)), (1, .int a1)]) [.ref (YA Y 1 i0), .int a1] (by decide) rfl rfl (Nat.le_of_ble_eq_true rfl) (fun p e s m below meth c C0 hH ls hl => ?_)
  have hS : va_S (AZ Y) s.heap s.heap [] := va_S.rf
  obtain ⟨hx, hb, hr, hml, hown, hA, hlocks, hK, hZ⟩ := id C0
  unfold f_X5_giveBack at hf
  refine lv_aload_n hx hb dX5_giveBack_0 rfl (lv_at hl 0 rfl) ?_
  refine lv_iload_n hx hb dX5_giveBack_1 rfl (lv_at hl 1 rfl) ?_
  obtain ⟨r11, hq10, hf⟩ := bd_o hf
  refine hs_ci (hs_runV C0 hH hS (n := 1) (As := [.int a1]) (rest := []) (c_X5_positionOf M i0 a1 (show i0 < 11 from by omega) hq10) ⟨⟨zt_369, zt_371, zs_5, zt_3, zt_372⟩, rfl, by decide, by decide, by decide +kernel⟩ ⟨rfl, rfl, Nat.le_of_ble_eq_true rfl, Nat.le_of_ble_eq_true rfl⟩ (hs_recv hK hH 1 i0 (show i0 < 11 from by omega) 9 rfl rfl) rfl rfl hl.1 (Nat.le_of_ble_eq_true rfl) ⟨Nat.le_of_ble_eq_true rfl, Nat.le_of_ble_eq_true rfl⟩ dX5_giveBack_2) hS (fun H locs hH hS => ?_)
  refine lv_istore_n (lv' := [(2, .int r11), (0, .ref (YA Y 1 i0)), (1, .int a1)]) hx hb dX5_giveBack_5 rfl hl (by decide) rfl (fun ls hl => ?_)
  refine lv_iload_n hx hb dX5_giveBack_6 rfl (lv_at hl 0 rfl) ?_
  refine lv_iconst (v := (-1 : Int32)) hx hb dX5_giveBack_7 (by decide) ?_
  refine lv_icmp_ne (tgt := 13) hx hb dX5_giveBack_8 (by decide) (fun hc18 => ?_) (fun hc18 => ?_)
  · have hf := if_f hf hc18
    refine lv_aload_n hx hb dX5_giveBack_13 rfl (lv_at hl 1 rfl) ?_
    refine hs_get hx hb (T := TX5) hA inAX5 hown hK hH 1 i0 (show i0 < 11 from by omega) 9 rfl rfl 2 (by decide) (hA _ zt_175) rfl rfl dX5_giveBack_14 ?_
    refine lv_iload_n hx hb dX5_giveBack_17 rfl (lv_at hl 0 rfl) ?_
    obtain ⟨hg12, hf⟩ := gd_o hf
    have bhg12 := vin_lt hg12
    obtain ⟨hg13, hf⟩ := gd_o hf
    refine hs_aald hx hb hK hH 5 i0 (show i0 < 11 from by omega) 4 rfl rfl hg12 (q := YA Y 6 (ix (M 5 i0 (ix r11)))) rfl dX5_giveBack_18 ?_
    refine hs_get hx hb (T := TX3) hA inAX3 hown hK hH 6 (ix (M 5 i0 (ix r11))) (show ix (M 5 i0 (ix r11)) < 132 from by omega) 7 rfl rfl 2 (by decide) (hA _ zt_143) rfl rfl dX5_giveBack_19 ?_
    refine lv_istore_n (lv' := [(3, .int (M 6 (ix (M 5 i0 (ix r11))) 2)), (2, .int r11), (0, .ref (YA Y 1 i0)), (1, .int a1)]) hx hb dX5_giveBack_22 rfl hl (by decide) rfl (fun ls hl => ?_)
    refine lv_aload_n hx hb dX5_giveBack_23 rfl (lv_at hl 2 rfl) ?_
    refine lv_iload_n hx hb dX5_giveBack_24 rfl (lv_at hl 1 rfl) ?_
    obtain ⟨M15, hq14, hf⟩ := bd_o hf
    refine hs_cv (hs_runV C0 hH hS (n := 1) (As := [.int r11]) (rest := []) (c_X5_removeAt M i0 r11 (show i0 < 11 from by omega) hq14) ⟨⟨zt_579, zt_581, zs_14, zt_3, zt_582⟩, rfl, by decide, by decide, by decide +kernel⟩ ⟨rfl, rfl, Nat.le_of_ble_eq_true rfl, Nat.le_of_ble_eq_true rfl⟩ (hs_recv hK hH 1 i0 (show i0 < 11 from by omega) 9 rfl rfl) rfl rfl hl.1 (Nat.le_of_ble_eq_true rfl) ⟨Nat.le_of_ble_eq_true rfl, Nat.le_of_ble_eq_true rfl⟩ dX5_giveBack_25) hS (fun H locs hH hS => ?_)
    refine lv_aload_n hx hb dX5_giveBack_28 rfl (lv_at hl 2 rfl) ?_
    refine lv_dup hx hb dX5_giveBack_29 rfl ?_
    refine hs_get hx hb (T := TX5) hA inAX5 hown hK hH 1 i0 (show i0 < 11 from by omega) 9 rfl rfl 7 (by decide) (hA _ zt_185) rfl rfl dX5_giveBack_30 ?_
    refine lv_iconst (v := (1 : Int32)) hx hb dX5_giveBack_33 (by decide) ?_
    refine lv_iadd hx hb dX5_giveBack_34 ?_
    refine hs_put hx hb (T := TX5) hA inAX5 tyX5 tyX5_ok nmX5 hown hK hH hS 1 i0 (show i0 < 11 from by omega) 9 rfl rfl 7 (by decide) (hA _ zt_185) rfl rfl (by decide +kernel) (Nat.le_of_ble_eq_true rfl) rfl dX5_giveBack_35 (fun H locs hH hS => ?_)
    obtain ⟨M17, eM17, hf⟩ := nm_o hf
    rw [← eM17] at hH
    refine lv_iload_n hx hb dX5_giveBack_38 rfl (lv_at hl 0 rfl) ?_
    cases hf
    exact hs_iret C0 hH hS (by decide) (by decide) dX5_giveBack_39
  · have hf := if_t hf hc18
    refine lv_iconst (v := (-1 : Int32)) hx hb dX5_giveBack_11 (by decide) ?_
    cases hf
    exact hs_iret C0 hH hS (by decide) (by decide) dX5_giveBack_12
def f_X6_startIn_2 : Nat → Mem → Int32 → Int32 → Int32 → Option Mem
  | 0, _, _, _, _ => none
  | n + 1, M, a1, a2, a3 => (if (9 : Int32) ≤ a3 then if vin a1 9 then (nm (mu M 8 0 (ix a1) a2) fun M8 => some M8) else none else if vin a3 9 then (nm (mu M 8 0 (ix a3) (2147483647 : Int32)) fun M10 => nm (mu M10 9 0 (ix a3) (0 : Int32)) fun M11 => f_X6_startIn_2 n M11 a1 a2 (a3 + (1 : Int32))) else none)
set_option maxHeartbeats 4000000 in
set_option maxRecDepth 100000 in
theorem w_X6_startIn_2 {Y : LY} {p : Program} {l : Launch} {e : Env} {s : State} {m : MethodId} {args : Array Value} {below : List Frame} {meth : Method} {c : Code} (C0 : BE Y p s m args meth c cX6_startIn 4 (Option.none : Option Jvm.ClassFile.FieldType) RX6) {MZ : Mem} : ∀ (n : Nat) (M : Mem) (a1 : Int32) (a2 : Int32) (a3 : Int32), f_X6_startIn_2 n M a1 a2 a3 = some MZ → ∀ (H : Heap) (locs : List Loc) (ls : Array Slot), HS Y M H → va_S (AZ Y) s.heap H locs → lv_has ls 4 [(0, .ref (YA Y 7 0)), (1, .int a1), (2, .int a2), (3, .int a3)] → W p l e { frames := 0, cells := 0, slots := 0, locals := 0 } s m args below meth c H locs 0 0 (MQ below (Qv Y MZ) args s 0 0 (AZ Y)) (F0 m 2 ls []) := by
  obtain ⟨hx, hb, hr, hml, hown, hA, hlocks, hK, hZ⟩ := id C0
  intro n
  induction n with
  | zero =>
    intro M a1 a2 a3 hf
    cases hf
  | succ n ih =>
    intro M a1 a2 a3 hf H locs ls hH hS hl
    rw [f_X6_startIn_2] at hf
    refine lv_iload_n hx hb dX6_startIn_2 rfl (lv_at hl 3 rfl) ?_
    refine lv_bipush (v := (9 : Int32)) hx hb dX6_startIn_3 (by decide) ?_
    refine lv_icmp_ge (tgt := 29) hx hb dX6_startIn_5 (by decide) (fun hc12 => ?_) (fun hc12 => ?_)
    · have hf := if_t hf hc12
      refine lv_aload_n hx hb dX6_startIn_29 rfl (lv_at hl 0 rfl) ?_
      refine hs_get hx hb (T := TX6) hA inAX6 hown hK hH 7 0 (by decide) 10 rfl rfl 0 (by decide) (hA _ zt_46) rfl rfl dX6_startIn_30 ?_
      refine lv_iload_n hx hb dX6_startIn_33 rfl (lv_at hl 1 rfl) ?_
      refine lv_iload_n hx hb dX6_startIn_34 rfl (lv_at hl 2 rfl) ?_
      obtain ⟨hg7, hf⟩ := gd_o hf
      have bhg7 := vin_lt hg7
      refine hs_iast hx hb hK hH hS 8 0 (by decide) (fun _ => rfl) hg7 rfl dX6_startIn_35 (fun H locs hH hS => ?_)
      obtain ⟨M8, eM8, hf⟩ := nm_o hf
      rw [← eM8] at hH
      cases hf
      exact hs_vret C0 hH hS (by decide) (by decide) dX6_startIn_36
    · have hf := if_f hf hc12
      refine lv_aload_n hx hb dX6_startIn_8 rfl (lv_at hl 0 rfl) ?_
      refine hs_get hx hb (T := TX6) hA inAX6 hown hK hH 7 0 (by decide) 10 rfl rfl 0 (by decide) (hA _ zt_46) rfl rfl dX6_startIn_9 ?_
      refine lv_iload_n hx hb dX6_startIn_12 rfl (lv_at hl 3 rfl) ?_
      refine lv_ldc (v := (2147483647 : Int32)) hx hb hown (hA _ zt_599) dX6_startIn_13 ?_
      obtain ⟨hg9, hf⟩ := gd_o hf
      have bhg9 := vin_lt hg9
      refine hs_iast hx hb hK hH hS 8 0 (by decide) (fun _ => rfl) hg9 rfl dX6_startIn_15 (fun H locs hH hS => ?_)
      obtain ⟨M10, eM10, hf⟩ := nm_o hf
      rw [← eM10] at hH
      refine lv_aload_n hx hb dX6_startIn_16 rfl (lv_at hl 0 rfl) ?_
      refine hs_get hx hb (T := TX6) hA inAX6 hown hK hH 7 0 (by decide) 10 rfl rfl 1 (by decide) (hA _ zt_47) rfl rfl dX6_startIn_17 ?_
      refine lv_iload_n hx hb dX6_startIn_20 rfl (lv_at hl 3 rfl) ?_
      refine lv_iconst (v := (0 : Int32)) hx hb dX6_startIn_21 (by decide) ?_
      refine hs_zast hx hb hK hH hS 9 0 (by decide) (fun _ => rfl) (by decide) hg9 rfl dX6_startIn_22 (fun H locs hH hS => ?_)
      obtain ⟨M11, eM11, hf⟩ := nm_o hf
      rw [← eM11] at hH
      refine lv_iinc (v := a3 + (1 : Int32)) (lv' := [(3, .int (a3 + (1 : Int32))), (0, .ref (YA Y 7 0)), (1, .int a1), (2, .int a2)]) hx hb dX6_startIn_23 hl (k := 3) rfl rfl (by decide) rfl (fun ls hl => ?_)
      refine lv_goto (tgt := 2) hx hb dX6_startIn_26 (by decide) ?_
      exact ih M11 a1 a2 (a3 + (1 : Int32)) hf _ _ _ hH hS (lv_sub hl [1, 2, 3, 0] rfl)
def f_X6_startIn (M : Mem) (a1 : Int32) (a2 : Int32) : Option Mem := f_X6_startIn_2 FU M a1 a2 (0 : Int32)
set_option maxHeartbeats 4000000 in
set_option maxRecDepth 100000 in
theorem c_X6_startIn {Y : LY} {l : Launch} (M : Mem) (a1 : Int32) (a2 : Int32) {MZ : Mem} (hf : f_X6_startIn M a1 a2 = some MZ) : Met l yX6_startIn (WS yX6_startIn cX6_startIn 4 (Option.none : Option Jvm.ClassFile.FieldType)) { frames := 0, cells := 0, slots := 0, locals := 0 } (PcM Y M [.ref (YA Y 7 0), .int a1, .int a2]) (Qv Y MZ) 0 0 (AZ Y) := by
  refine met_mk (lv := [(0, .ref (YA Y 7 0)), (1, .int a1), (2, .int a2)]) [.ref (YA Y 7 0), .int a1, .int a2] (by decide) rfl rfl (Nat.le_of_ble_eq_true rfl) (fun p e s m below meth c C0 hH ls hl => ?_)
  have hS : va_S (AZ Y) s.heap s.heap [] := va_S.rf
  obtain ⟨hx, hb, hr, hml, hown, hA, hlocks, hK, hZ⟩ := id C0
  unfold f_X6_startIn at hf
  refine lv_iconst (v := (0 : Int32)) hx hb dX6_startIn_0 (by decide) ?_
  refine lv_istore_n (lv' := [(3, .int (0 : Int32)), (0, .ref (YA Y 7 0)), (1, .int a1), (2, .int a2)]) hx hb dX6_startIn_1 rfl hl (by decide) rfl (fun ls hl => ?_)
  exact w_X6_startIn_2 C0 FU M a1 a2 (0 : Int32) hf _ _ _ hH hS (lv_sub hl [1, 2, 3, 0] rfl)
def f_X6_earliestUnsettled_49 (M : Mem) (k8 : Nat → Int32 → Int32 → Int32 → Option Int32) (i1 : Nat) (a2 : Int32) (a3 : Int32) (a4 : Int32) : Option Int32 := k8 i1 a2 a3 (a4 + (1 : Int32))
set_option maxHeartbeats 4000000 in
set_option maxRecDepth 100000 in
theorem w_X6_earliestUnsettled_49 {Y : LY} {p : Program} {l : Launch} {e : Env} {s : State} {m : MethodId} {args : Array Value} {below : List Frame} {meth : Method} {c : Code} (C0 : BE Y p s m args meth c cX6_earliestUnsettled 5 (Option.some Jvm.ClassFile.FieldType.int) RX6) {r : Int32} (M : Mem) (k8 : Nat → Int32 → Int32 → Int32 → Option Int32) (hk8 : ∀ (i1 : Nat) (a2 : Int32) (a3 : Int32) (a4 : Int32), i1 < 11 → k8 i1 a2 a3 a4 = some r → ∀ (H : Heap) (locs : List Loc) (ls : Array Slot), HS Y M H → va_S (AZ Y) s.heap H locs → lv_has ls 5 [(0, .ref (YA Y 7 0)), (1, .ref (YA Y 2 i1)), (2, .int a2), (3, .int a3), (4, .int a4)] → W p l e { frames := 0, cells := 0, slots := 0, locals := 0 } s m args below meth c H locs 0 0 (MQ below (Qi Y r M) args s 0 0 (AZ Y)) (F0 m 8 ls [])) : ∀ (i1 : Nat) (a2 : Int32) (a3 : Int32) (a4 : Int32), i1 < 11 → f_X6_earliestUnsettled_49 M k8 i1 a2 a3 a4 = some r → ∀ (H : Heap) (locs : List Loc) (ls : Array Slot), HS Y M H → va_S (AZ Y) s.heap H locs → lv_has ls 5 [(0, .ref (YA Y 7 0)), (1, .ref (YA Y 2 i1)), (2, .int a2), (3, .int a3), (4, .int a4)] → W p l e { frames := 0, cells := 0, slots := 0, locals := 0 } s m args below meth c H locs 0 0 (MQ below (Qi Y r M) args s 0 0 (AZ Y)) (F0 m 49 ls []) := by
  obtain ⟨hx, hb, hr, hml, hown, hA, hlocks, hK, hZ⟩ := id C0
  intro i1 a2 a3 a4 hi1 hf H locs ls hH hS hl
  unfold f_X6_earliestUnsettled_49 at hf
  refine lv_iinc (v := a4 + (1 : Int32)) (lv' := [(4, .int (a4 + (1 : Int32))), (0, .ref (YA Y 7 0)), (1, .ref (YA Y 2 i1)), (2, .int a2), (3, .int a3)]) hx hb dX6_earliestUnsettled_49 hl (k := 4) rfl rfl (by decide) rfl (fun ls hl => ?_)
  refine lv_goto (tgt := 8) hx hb dX6_earliestUnsettled_52 (by decide) ?_
  exact hk8 i1 a2 a3 (a4 + (1 : Int32)) (show i1 < 11 from by omega) hf _ _ _ hH hS (lv_sub hl [1, 2, 3, 4, 0] rfl)
def f_X6_earliestUnsettled_8 (M : Mem) : Nat → Nat → Int32 → Int32 → Int32 → Option Int32
  | 0, _, _, _, _ => none
  | n + 1, i1, a2, a3, a4 => (if (M 2 i1 1) ≤ a4 then some a2 else if vin a4 9 then ((if (M 9 0 (ix a4)) = 0 then (if a3 ≤ (M 8 0 (ix a4)) then f_X6_earliestUnsettled_49 M (f_X6_earliestUnsettled_8 M n) i1 a2 a3 a4 else f_X6_earliestUnsettled_49 M (f_X6_earliestUnsettled_8 M n) i1 a4 (M 8 0 (ix a4)) a4) else f_X6_earliestUnsettled_49 M (f_X6_earliestUnsettled_8 M n) i1 a2 a3 a4)) else none)
set_option maxHeartbeats 4000000 in
set_option maxRecDepth 100000 in
theorem w_X6_earliestUnsettled_8 {Y : LY} {p : Program} {l : Launch} {e : Env} {s : State} {m : MethodId} {args : Array Value} {below : List Frame} {meth : Method} {c : Code} (C0 : BE Y p s m args meth c cX6_earliestUnsettled 5 (Option.some Jvm.ClassFile.FieldType.int) RX6) {r : Int32} (M : Mem) : ∀ (n : Nat) (i1 : Nat) (a2 : Int32) (a3 : Int32) (a4 : Int32), i1 < 11 → f_X6_earliestUnsettled_8 M n i1 a2 a3 a4 = some r → ∀ (H : Heap) (locs : List Loc) (ls : Array Slot), HS Y M H → va_S (AZ Y) s.heap H locs → lv_has ls 5 [(0, .ref (YA Y 7 0)), (1, .ref (YA Y 2 i1)), (2, .int a2), (3, .int a3), (4, .int a4)] → W p l e { frames := 0, cells := 0, slots := 0, locals := 0 } s m args below meth c H locs 0 0 (MQ below (Qi Y r M) args s 0 0 (AZ Y)) (F0 m 8 ls []) := by
  obtain ⟨hx, hb, hr, hml, hown, hA, hlocks, hK, hZ⟩ := id C0
  intro n
  induction n with
  | zero =>
    intro i1 a2 a3 a4 hi1 hf
    cases hf
  | succ n ih =>
    intro i1 a2 a3 a4 hi1 hf H locs ls hH hS hl
    rw [f_X6_earliestUnsettled_8] at hf
    refine lv_iload hx hb dX6_earliestUnsettled_8 (lv_at hl 4 rfl) ?_
    refine lv_aload_n hx hb dX6_earliestUnsettled_10 rfl (lv_at hl 1 rfl) ?_
    refine hs_get hx hb (T := TX2) hA inAX2 hown hK hH 2 i1 (show i1 < 11 from by omega) 6 rfl rfl 1 (by decide) (hA _ zt_115) rfl rfl dX6_earliestUnsettled_11 ?_
    refine lv_icmp_ge (tgt := 55) hx hb dX6_earliestUnsettled_14 (by decide) (fun hc8 => ?_) (fun hc8 => ?_)
    · have hf := if_t hf hc8
      refine lv_iload_n hx hb dX6_earliestUnsettled_55 rfl (lv_at hl 2 rfl) ?_
      cases hf
      exact hs_iret C0 hH hS (by decide) (by decide) dX6_earliestUnsettled_56
    · have hf := if_f hf hc8
      refine lv_aload_n hx hb dX6_earliestUnsettled_17 rfl (lv_at hl 0 rfl) ?_
      refine hs_get hx hb (T := TX6) hA inAX6 hown hK hH 7 0 (by decide) 10 rfl rfl 1 (by decide) (hA _ zt_47) rfl rfl dX6_earliestUnsettled_18 ?_
      refine lv_iload hx hb dX6_earliestUnsettled_21 (lv_at hl 4 rfl) ?_
      obtain ⟨hg5, hf⟩ := gd_o hf
      have bhg5 := vin_lt hg5
      refine hs_zald hx hb hK hH 9 0 (by decide) rfl hg5 rfl dX6_earliestUnsettled_23 ?_
      refine lv_if_ne (tgt := 49) hx hb dX6_earliestUnsettled_24 (by decide) (fun hc7 => ?_) (fun hc7 => ?_)
      · have hf := if_f hf hc7
        exact w_X6_earliestUnsettled_49 C0 M (f_X6_earliestUnsettled_8 M n) ih i1 a2 a3 a4 (show i1 < 11 from by omega) hf _ _ _ hH hS (lv_sub hl [0, 1, 2, 3, 4] rfl)
      · have hf := if_t hf hc7
        refine lv_aload_n hx hb dX6_earliestUnsettled_27 rfl (lv_at hl 0 rfl) ?_
        refine hs_get hx hb (T := TX6) hA inAX6 hown hK hH 7 0 (by decide) 10 rfl rfl 0 (by decide) (hA _ zt_46) rfl rfl dX6_earliestUnsettled_28 ?_
        refine lv_iload hx hb dX6_earliestUnsettled_31 (lv_at hl 4 rfl) ?_
        refine hs_iald hx hb hK hH 8 0 (by decide) rfl hg5 rfl dX6_earliestUnsettled_33 ?_
        refine lv_iload_n hx hb dX6_earliestUnsettled_34 rfl (lv_at hl 3 rfl) ?_
        refine lv_icmp_ge (tgt := 49) hx hb dX6_earliestUnsettled_35 (by decide) (fun hc6 => ?_) (fun hc6 => ?_)
        · have hf := if_t hf hc6
          exact w_X6_earliestUnsettled_49 C0 M (f_X6_earliestUnsettled_8 M n) ih i1 a2 a3 a4 (show i1 < 11 from by omega) hf _ _ _ hH hS (lv_sub hl [0, 1, 2, 3, 4] rfl)
        · have hf := if_f hf hc6
          refine lv_iload hx hb dX6_earliestUnsettled_38 (lv_at hl 4 rfl) ?_
          refine lv_istore_n (lv' := [(2, .int a4), (0, .ref (YA Y 7 0)), (1, .ref (YA Y 2 i1)), (3, .int a3), (4, .int a4)]) hx hb dX6_earliestUnsettled_40 rfl hl (by decide) rfl (fun ls hl => ?_)
          refine lv_aload_n hx hb dX6_earliestUnsettled_41 rfl (lv_at hl 1 rfl) ?_
          refine hs_get hx hb (T := TX6) hA inAX6 hown hK hH 7 0 (by decide) 10 rfl rfl 0 (by decide) (hA _ zt_46) rfl rfl dX6_earliestUnsettled_42 ?_
          refine lv_iload hx hb dX6_earliestUnsettled_45 (lv_at hl 4 rfl) ?_
          refine hs_iald hx hb hK hH 8 0 (by decide) rfl hg5 rfl dX6_earliestUnsettled_47 ?_
          refine lv_istore_n (lv' := [(3, .int (M 8 0 (ix a4))), (2, .int a4), (0, .ref (YA Y 7 0)), (1, .ref (YA Y 2 i1)), (4, .int a4)]) hx hb dX6_earliestUnsettled_48 rfl hl (by decide) rfl (fun ls hl => ?_)
          exact w_X6_earliestUnsettled_49 C0 M (f_X6_earliestUnsettled_8 M n) ih i1 a4 (M 8 0 (ix a4)) a4 (show i1 < 11 from by omega) hf _ _ _ hH hS (lv_sub hl [2, 3, 1, 0, 4] rfl)
def f_X6_earliestUnsettled (M : Mem) (i1 : Nat) : Option Int32 := f_X6_earliestUnsettled_8 M FU i1 (-1 : Int32) (2147483647 : Int32) (0 : Int32)
set_option maxHeartbeats 4000000 in
set_option maxRecDepth 100000 in
theorem c_X6_earliestUnsettled {Y : LY} {l : Launch} (M : Mem) (i1 : Nat) (hi1 : i1 < 11) {r : Int32} (hf : f_X6_earliestUnsettled M i1 = some r) : Met l yX6_earliestUnsettled (WS yX6_earliestUnsettled cX6_earliestUnsettled 5 (Option.some Jvm.ClassFile.FieldType.int)) { frames := 0, cells := 0, slots := 0, locals := 0 } (PcM Y M [.ref (YA Y 7 0), .ref (YA Y 2 i1)]) (Qi Y r M) 0 0 (AZ Y) := by
  refine met_mk (lv := [(0, .ref (YA Y 7 0)), (1, .ref (YA Y 2 i1))]) [.ref (YA Y 7 0), .ref (YA Y 2 i1)] (by decide) rfl rfl (Nat.le_of_ble_eq_true rfl) (fun p e s m below meth c C0 hH ls hl => ?_)
  have hS : va_S (AZ Y) s.heap s.heap [] := va_S.rf
  obtain ⟨hx, hb, hr, hml, hown, hA, hlocks, hK, hZ⟩ := id C0
  unfold f_X6_earliestUnsettled at hf
  refine lv_iconst (v := (-1 : Int32)) hx hb dX6_earliestUnsettled_0 (by decide) ?_
  refine lv_istore_n (lv' := [(2, .int (-1 : Int32)), (0, .ref (YA Y 7 0)), (1, .ref (YA Y 2 i1))]) hx hb dX6_earliestUnsettled_1 rfl hl (by decide) rfl (fun ls hl => ?_)
  refine lv_ldc (v := (2147483647 : Int32)) hx hb hown (hA _ zt_599) dX6_earliestUnsettled_2 ?_
  refine lv_istore_n (lv' := [(3, .int (2147483647 : Int32)), (2, .int (-1 : Int32)), (0, .ref (YA Y 7 0)), (1, .ref (YA Y 2 i1))]) hx hb dX6_earliestUnsettled_4 rfl hl (by decide) rfl (fun ls hl => ?_)
  refine lv_iconst (v := (0 : Int32)) hx hb dX6_earliestUnsettled_5 (by decide) ?_
  refine lv_istore (lv' := [(4, .int (0 : Int32)), (3, .int (2147483647 : Int32)), (2, .int (-1 : Int32)), (0, .ref (YA Y 7 0)), (1, .ref (YA Y 2 i1))]) hx hb dX6_earliestUnsettled_6 hl (by decide) rfl (fun ls hl => ?_)
  exact w_X6_earliestUnsettled_8 C0 M FU i1 (-1 : Int32) (2147483647 : Int32) (0 : Int32) (show i1 < 11 from by omega) hf _ _ _ hH hS (lv_sub hl [3, 4, 2, 1, 0] rfl)
def f_X6_leavePlace_73 (k2 : Mem → Nat → Int32 → Int32 → Option Mem) (M : Mem) (i1 : Nat) (a2 : Int32) (a3 : Int32) : Option Mem := k2 M i1 a2 (a3 + (1 : Int32))
set_option maxHeartbeats 4000000 in
set_option maxRecDepth 100000 in
theorem w_X6_leavePlace_73 {Y : LY} {p : Program} {l : Launch} {e : Env} {s : State} {m : MethodId} {args : Array Value} {below : List Frame} {meth : Method} {c : Code} (C0 : BE Y p s m args meth c cX6_leavePlace 6 (Option.none : Option Jvm.ClassFile.FieldType) RX6) {MZ : Mem} (k2 : Mem → Nat → Int32 → Int32 → Option Mem) (hk2 : ∀ (M : Mem) (i1 : Nat) (a2 : Int32) (a3 : Int32), i1 < 11 → k2 M i1 a2 a3 = some MZ → ∀ (H : Heap) (locs : List Loc) (ls : Array Slot), HS Y M H → va_S (AZ Y) s.heap H locs → lv_has ls 6 [(0, .ref (YA Y 7 0)), (1, .ref (YA Y 2 i1)), (2, .int a2), (3, .int a3)] → W p l e { frames := 1, cells := 0, slots := 0, locals := 22 } s m args below meth c H locs 0 0 (MQ below (Qv Y MZ) args s 0 0 (AZ Y)) (F0 m 2 ls [])) : ∀ (M : Mem) (i1 : Nat) (a2 : Int32) (a3 : Int32), i1 < 11 → f_X6_leavePlace_73 k2 M i1 a2 a3 = some MZ → ∀ (H : Heap) (locs : List Loc) (ls : Array Slot), HS Y M H → va_S (AZ Y) s.heap H locs → lv_has ls 6 [(0, .ref (YA Y 7 0)), (1, .ref (YA Y 2 i1)), (2, .int a2), (3, .int a3)] → W p l e { frames := 1, cells := 0, slots := 0, locals := 22 } s m args below meth c H locs 0 0 (MQ below (Qv Y MZ) args s 0 0 (AZ Y)) (F0 m 73 ls []) := by
  obtain ⟨hx, hb, hr, hml, hown, hA, hlocks, hK, hZ⟩ := id C0
  intro M i1 a2 a3 hi1 hf H locs ls hH hS hl
  unfold f_X6_leavePlace_73 at hf
  refine lv_iinc (v := a3 + (1 : Int32)) (lv' := [(3, .int (a3 + (1 : Int32))), (0, .ref (YA Y 7 0)), (1, .ref (YA Y 2 i1)), (2, .int a2)]) hx hb dX6_leavePlace_73 hl (k := 3) rfl rfl (by decide) rfl (fun ls hl => ?_)
  refine lv_goto (tgt := 2) hx hb dX6_leavePlace_76 (by decide) ?_
  exact hk2 M i1 a2 (a3 + (1 : Int32)) (show i1 < 11 from by omega) hf _ _ _ hH hS (lv_sub hl [1, 2, 3, 0] rfl)
def f_X6_leavePlace_2 : Nat → Mem → Nat → Int32 → Int32 → Option Mem
  | 0, _, _, _, _ => none
  | n + 1, M, i1, a2, a3 => (if (M 2 i1 2) ≤ a3 then some M else if vin a3 20 then ((if (M 4 (20 * i1 + (ix a3)) 0) = a2 then (if (M 4 (20 * i1 + (ix a3)) 4) = 0 then if vin a2 9 then (bd (f_X1_arrivalWhenReadyAt M (20 * i1 + (ix a3)) (M 8 0 (ix a2))) fun r13 => if vin (M 4 (20 * i1 + (ix a3)) 1) 9 then (nm (mu M 8 0 (ix (M 4 (20 * i1 + (ix a3)) 1)) (if r13 < (M 8 0 (ix (M 4 (20 * i1 + (ix a3)) 1))) then r13 else (M 8 0 (ix (M 4 (20 * i1 + (ix a3)) 1))))) fun M15 => f_X6_leavePlace_73 (f_X6_leavePlace_2 n) M15 i1 a2 a3) else none) else none else f_X6_leavePlace_73 (f_X6_leavePlace_2 n) M i1 a2 a3) else f_X6_leavePlace_73 (f_X6_leavePlace_2 n) M i1 a2 a3)) else none)
set_option maxHeartbeats 4000000 in
set_option maxRecDepth 100000 in
theorem w_X6_leavePlace_2 {Y : LY} {p : Program} {l : Launch} {e : Env} {s : State} {m : MethodId} {args : Array Value} {below : List Frame} {meth : Method} {c : Code} (C0 : BE Y p s m args meth c cX6_leavePlace 6 (Option.none : Option Jvm.ClassFile.FieldType) RX6) {MZ : Mem} : ∀ (n : Nat) (M : Mem) (i1 : Nat) (a2 : Int32) (a3 : Int32), i1 < 11 → f_X6_leavePlace_2 n M i1 a2 a3 = some MZ → ∀ (H : Heap) (locs : List Loc) (ls : Array Slot), HS Y M H → va_S (AZ Y) s.heap H locs → lv_has ls 6 [(0, .ref (YA Y 7 0)), (1, .ref (YA Y 2 i1)), (2, .int a2), (3, .int a3)] → W p l e { frames := 1, cells := 0, slots := 0, locals := 22 } s m args below meth c H locs 0 0 (MQ below (Qv Y MZ) args s 0 0 (AZ Y)) (F0 m 2 ls []) := by
  obtain ⟨hx, hb, hr, hml, hown, hA, hlocks, hK, hZ⟩ := id C0
  intro n
  induction n with
  | zero =>
    intro M i1 a2 a3 hi1 hf
    cases hf
  | succ n ih =>
    intro M i1 a2 a3 hi1 hf H locs ls hH hS hl
    rw [f_X6_leavePlace_2] at hf
    refine lv_iload_n hx hb dX6_leavePlace_2 rfl (lv_at hl 3 rfl) ?_
    refine lv_aload_n hx hb dX6_leavePlace_3 rfl (lv_at hl 1 rfl) ?_
    refine hs_get hx hb (T := TX2) hA inAX2 hown hK hH 2 i1 (show i1 < 11 from by omega) 6 rfl rfl 2 (by decide) (hA _ zt_120) rfl rfl dX6_leavePlace_4 ?_
    refine lv_icmp_ge (tgt := 79) hx hb dX6_leavePlace_7 (by decide) (fun hc18 => ?_) (fun hc18 => ?_)
    · have hf := if_t hf hc18
      cases hf
      exact hs_vret C0 hH hS (by decide) (by decide) dX6_leavePlace_79
    · have hf := if_f hf hc18
      refine lv_aload_n hx hb dX6_leavePlace_10 rfl (lv_at hl 1 rfl) ?_
      refine hs_get hx hb (T := TX2) hA inAX2 hown hK hH 2 i1 (show i1 < 11 from by omega) 6 rfl rfl 0 (by decide) (hA _ zt_111) rfl rfl dX6_leavePlace_11 ?_
      refine lv_iload_n hx hb dX6_leavePlace_14 rfl (lv_at hl 3 rfl) ?_
      obtain ⟨hg10, hf⟩ := gd_o hf
      have bhg10 := vin_lt hg10
      refine hs_aald hx hb hK hH 3 i1 (show i1 < 11 from by omega) 3 rfl rfl hg10 (q := YA Y 4 (20 * i1 + (ix a3))) rfl dX6_leavePlace_15 ?_
      refine lv_astore (lv' := [(4, .ref (YA Y 4 (20 * i1 + (ix a3)))), (0, .ref (YA Y 7 0)), (1, .ref (YA Y 2 i1)), (2, .int a2), (3, .int a3)]) hx hb dX6_leavePlace_16 hl (by decide) rfl (fun ls hl => ?_)
      refine lv_aload hx hb dX6_leavePlace_18 (lv_at hl 0 rfl) ?_
      refine hs_get hx hb (T := TX1) hA inAX1 hown hK hH 4 (20 * i1 + (ix a3)) (show 20 * i1 + (ix a3) < 220 from by omega) 5 rfl rfl 0 (by decide) (hA _ zt_79) rfl rfl dX6_leavePlace_20 ?_
      refine lv_iload_n hx hb dX6_leavePlace_23 rfl (lv_at hl 3 rfl) ?_
      refine lv_icmp_ne (tgt := 73) hx hb dX6_leavePlace_24 (by decide) (fun hc17 => ?_) (fun hc17 => ?_)
      · have hf := if_f hf hc17
        exact w_X6_leavePlace_73 C0 (f_X6_leavePlace_2 n) ih M i1 a2 a3 (show i1 < 11 from by omega) hf _ _ _ hH hS (lv_sub hl [1, 2, 3, 4] rfl)
      · have hf := if_t hf hc17
        refine lv_aload hx hb dX6_leavePlace_27 (lv_at hl 0 rfl) ?_
        refine hs_get hx hb (T := TX1) hA inAX1 hown hK hH 4 (20 * i1 + (ix a3)) (show 20 * i1 + (ix a3) < 220 from by omega) 5 rfl rfl 4 (by decide) (hA _ zt_96) rfl rfl dX6_leavePlace_29 ?_
        refine lv_if_ne (tgt := 73) hx hb dX6_leavePlace_32 (by decide) (fun hc16 => ?_) (fun hc16 => ?_)
        · have hf := if_f hf hc16
          exact w_X6_leavePlace_73 C0 (f_X6_leavePlace_2 n) ih M i1 a2 a3 (show i1 < 11 from by omega) hf _ _ _ hH hS (lv_sub hl [1, 2, 3, 4] rfl)
        · have hf := if_t hf hc16
          refine lv_aload hx hb dX6_leavePlace_35 (lv_at hl 0 rfl) ?_
          refine lv_aload_n hx hb dX6_leavePlace_37 rfl (lv_at hl 1 rfl) ?_
          refine hs_get hx hb (T := TX6) hA inAX6 hown hK hH 7 0 (by decide) 10 rfl rfl 0 (by decide) (hA _ zt_46) rfl rfl dX6_leavePlace_38 ?_
          refine lv_iload_n hx hb dX6_leavePlace_41 rfl (lv_at hl 3 rfl) ?_
          obtain ⟨hg11, hf⟩ := gd_o hf
          have bhg11 := vin_lt hg11
          refine hs_iald hx hb hK hH 8 0 (by decide) rfl hg11 rfl dX6_leavePlace_42 ?_
          obtain ⟨r13, hq12, hf⟩ := bd_o hf
          refine hs_ci (hs_runV C0 hH hS (n := 1) (As := [.int (M 8 0 (ix a2))]) (rest := []) (c_X1_arrivalWhenReadyAt M (20 * i1 + (ix a3)) (M 8 0 (ix a2)) (show 20 * i1 + (ix a3) < 220 from by omega) hq12) ⟨⟨zt_608, zt_609, zt_610, zt_5, zt_611⟩, rfl, by decide, by decide, by decide +kernel⟩ ⟨rfl, rfl, Nat.le_of_ble_eq_true rfl, Nat.le_of_ble_eq_true rfl⟩ (hs_recv hK hH 4 (20 * i1 + (ix a3)) (show 20 * i1 + (ix a3) < 220 from by omega) 5 rfl rfl) rfl rfl hl.1 (Nat.le_of_ble_eq_true rfl) ⟨Nat.le_of_ble_eq_true rfl, Nat.le_of_ble_eq_true rfl⟩ dX6_leavePlace_43) hS (fun H locs hH hS => ?_)
          refine lv_istore (lv' := [(5, .int r13), (4, .ref (YA Y 4 (20 * i1 + (ix a3)))), (0, .ref (YA Y 7 0)), (1, .ref (YA Y 2 i1)), (2, .int a2), (3, .int a3)]) hx hb dX6_leavePlace_46 hl (by decide) rfl (fun ls hl => ?_)
          refine lv_aload_n hx hb dX6_leavePlace_48 rfl (lv_at hl 2 rfl) ?_
          refine hs_get hx hb (T := TX6) hA inAX6 hown hK hH 7 0 (by decide) 10 rfl rfl 0 (by decide) (hA _ zt_46) rfl rfl dX6_leavePlace_49 ?_
          refine lv_aload hx hb dX6_leavePlace_52 (lv_at hl 1 rfl) ?_
          refine hs_get hx hb (T := TX1) hA inAX1 hown hK hH 4 (20 * i1 + (ix a3)) (show 20 * i1 + (ix a3) < 220 from by omega) 5 rfl rfl 1 (by decide) (hA _ zt_84) rfl rfl dX6_leavePlace_54 ?_
          refine lv_aload_n hx hb dX6_leavePlace_57 rfl (lv_at hl 2 rfl) ?_
          refine hs_get hx hb (T := TX6) hA inAX6 hown hK hH 7 0 (by decide) 10 rfl rfl 0 (by decide) (hA _ zt_46) rfl rfl dX6_leavePlace_58 ?_
          refine lv_aload hx hb dX6_leavePlace_61 (lv_at hl 1 rfl) ?_
          refine hs_get hx hb (T := TX1) hA inAX1 hown hK hH 4 (20 * i1 + (ix a3)) (show 20 * i1 + (ix a3) < 220 from by omega) 5 rfl rfl 1 (by decide) (hA _ zt_84) rfl rfl dX6_leavePlace_63 ?_
          obtain ⟨hg14, hf⟩ := gd_o hf
          have bhg14 := vin_lt hg14
          refine hs_iald hx hb hK hH 8 0 (by decide) rfl hg14 rfl dX6_leavePlace_66 ?_
          refine lv_iload hx hb dX6_leavePlace_67 (lv_at hl 0 rfl) ?_
          refine va_mmin hx hb (by rw [hml]; exact hl.1.symm) hown (hA _ zt_612) (hA _ zt_613) (hA _ zt_21) (hA _ zt_614) (Nat.le_of_ble_eq_true rfl) (Nat.le_of_ble_eq_true rfl) (Nat.le_of_ble_eq_true rfl) (Nat.le_of_ble_eq_true rfl) dX6_leavePlace_69 ?_
          refine hs_iast hx hb hK hH hS 8 0 (by decide) (fun _ => rfl) hg14 rfl dX6_leavePlace_72 (fun H locs hH hS => ?_)
          obtain ⟨M15, eM15, hf⟩ := nm_o hf
          rw [← eM15] at hH
          exact w_X6_leavePlace_73 C0 (f_X6_leavePlace_2 n) ih M15 i1 a2 a3 (show i1 < 11 from by omega) hf _ _ _ hH hS (lv_sub hl [2, 3, 4, 5] rfl)
def f_X6_leavePlace (M : Mem) (i1 : Nat) (a2 : Int32) : Option Mem := f_X6_leavePlace_2 FU M i1 a2 (0 : Int32)
set_option maxHeartbeats 4000000 in
set_option maxRecDepth 100000 in
theorem c_X6_leavePlace {Y : LY} {l : Launch} (M : Mem) (i1 : Nat) (a2 : Int32) (hi1 : i1 < 11) {MZ : Mem} (hf : f_X6_leavePlace M i1 a2 = some MZ) : Met l yX6_leavePlace (WS yX6_leavePlace cX6_leavePlace 6 (Option.none : Option Jvm.ClassFile.FieldType)) { frames := 1, cells := 0, slots := 0, locals := 22 } (PcM Y M [.ref (YA Y 7 0), .ref (YA Y 2 i1), .int a2]) (Qv Y MZ) 0 0 (AZ Y) := by
  refine met_mk (lv := [(0, .ref (YA Y 7 0)), (1, .ref (YA Y 2 i1)), (2, .int a2)]) [.ref (YA Y 7 0), .ref (YA Y 2 i1), .int a2] (by decide) rfl rfl (Nat.le_of_ble_eq_true rfl) (fun p e s m below meth c C0 hH ls hl => ?_)
  have hS : va_S (AZ Y) s.heap s.heap [] := va_S.rf
  obtain ⟨hx, hb, hr, hml, hown, hA, hlocks, hK, hZ⟩ := id C0
  unfold f_X6_leavePlace at hf
  refine lv_iconst (v := (0 : Int32)) hx hb dX6_leavePlace_0 (by decide) ?_
  refine lv_istore_n (lv' := [(3, .int (0 : Int32)), (0, .ref (YA Y 7 0)), (1, .ref (YA Y 2 i1)), (2, .int a2)]) hx hb dX6_leavePlace_1 rfl hl (by decide) rfl (fun ls hl => ?_)
  exact w_X6_leavePlace_2 C0 FU M i1 a2 (0 : Int32) (show i1 < 11 from by omega) hf _ _ _ hH hS (lv_sub hl [1, 2, 3, 0] rfl)
def f_X6_arrivalBySettling_62 (M : Mem) (a3 : Int32) : Option (Int32 × Mem) := if vin a3 9 then (some ((M 8 0 (ix a3)), M)) else none
set_option maxHeartbeats 4000000 in
set_option maxRecDepth 100000 in
theorem w_X6_arrivalBySettling_62 {Y : LY} {p : Program} {l : Launch} {e : Env} {s : State} {m : MethodId} {args : Array Value} {below : List Frame} {meth : Method} {c : Code} (C0 : BE Y p s m args meth c cX6_arrivalBySettling 7 (Option.some Jvm.ClassFile.FieldType.int) RX6) {r : Int32} {MZ : Mem} : ∀ (M : Mem) (a3 : Int32), f_X6_arrivalBySettling_62 M a3 = some (r, MZ) → ∀ (H : Heap) (locs : List Loc) (ls : Array Slot), HS Y M H → va_S (AZ Y) s.heap H locs → lv_has ls 7 [(0, .ref (YA Y 7 0)), (3, .int a3)] → W p l e { frames := 2, cells := 0, slots := 0, locals := 47 } s m args below meth c H locs 0 0 (MQ below (Qi Y r MZ) args s 0 0 (AZ Y)) (F0 m 62 ls []) := by
  obtain ⟨hx, hb, hr, hml, hown, hA, hlocks, hK, hZ⟩ := id C0
  intro M a3 hf H locs ls hH hS hl
  unfold f_X6_arrivalBySettling_62 at hf
  refine lv_aload_n hx hb dX6_arrivalBySettling_62 rfl (lv_at hl 0 rfl) ?_
  refine hs_get hx hb (T := TX6) hA inAX6 hown hK hH 7 0 (by decide) 10 rfl rfl 0 (by decide) (hA _ zt_46) rfl rfl dX6_arrivalBySettling_63 ?_
  refine lv_iload_n hx hb dX6_arrivalBySettling_66 rfl (lv_at hl 1 rfl) ?_
  obtain ⟨hg15, hf⟩ := gd_o hf
  have bhg15 := vin_lt hg15
  refine hs_iald hx hb hK hH 8 0 (by decide) rfl hg15 rfl dX6_arrivalBySettling_67 ?_
  cases hf
  exact hs_iret C0 hH hS (by decide) (by decide) dX6_arrivalBySettling_68
def f_X6_arrivalBySettling_10 : Nat → Mem → Nat → Int32 → Int32 → Option (Int32 × Mem)
  | 0, _, _, _, _ => none
  | n + 1, M, i1, a3, a5 => (if (M 2 i1 1) ≤ a5 then f_X6_arrivalBySettling_62 M a3 else bd (f_X6_earliestUnsettled M i1) fun r17 => (if r17 = (-1 : Int32) then f_X6_arrivalBySettling_62 M a3 else (if r17 = a3 then f_X6_arrivalBySettling_62 M a3 else if vin r17 9 then (nm (mu M 9 0 (ix r17) (1 : Int32)) fun M19 => bd (f_X6_leavePlace M19 i1 r17) fun M21 => f_X6_arrivalBySettling_10 n M21 i1 a3 (a5 + (1 : Int32))) else none)))
set_option maxHeartbeats 4000000 in
set_option maxRecDepth 100000 in
theorem w_X6_arrivalBySettling_10 {Y : LY} {p : Program} {l : Launch} {e : Env} {s : State} {m : MethodId} {args : Array Value} {below : List Frame} {meth : Method} {c : Code} (C0 : BE Y p s m args meth c cX6_arrivalBySettling 7 (Option.some Jvm.ClassFile.FieldType.int) RX6) {r : Int32} {MZ : Mem} : ∀ (n : Nat) (M : Mem) (i1 : Nat) (a3 : Int32) (a5 : Int32), i1 < 11 → f_X6_arrivalBySettling_10 n M i1 a3 a5 = some (r, MZ) → ∀ (H : Heap) (locs : List Loc) (ls : Array Slot), HS Y M H → va_S (AZ Y) s.heap H locs → lv_has ls 7 [(0, .ref (YA Y 7 0)), (1, .ref (YA Y 2 i1)), (3, .int a3), (5, .int a5)] → W p l e { frames := 2, cells := 0, slots := 0, locals := 47 } s m args below meth c H locs 0 0 (MQ below (Qi Y r MZ) args s 0 0 (AZ Y)) (F0 m 10 ls []) := by
  obtain ⟨hx, hb, hr, hml, hown, hA, hlocks, hK, hZ⟩ := id C0
  intro n
  induction n with
  | zero =>
    intro M i1 a3 a5 hi1 hf
    cases hf
  | succ n ih =>
    intro M i1 a3 a5 hi1 hf H locs ls hH hS hl
    rw [f_X6_arrivalBySettling_10] at hf
    refine lv_iload hx hb dX6_arrivalBySettling_10 (lv_at hl 3 rfl) ?_
    refine lv_aload_n hx hb dX6_arrivalBySettling_12 rfl (lv_at hl 1 rfl) ?_
    refine hs_get hx hb (T := TX2) hA inAX2 hown hK hH 2 i1 (show i1 < 11 from by omega) 6 rfl rfl 1 (by decide) (hA _ zt_115) rfl rfl dX6_arrivalBySettling_13 ?_
    refine lv_icmp_ge (tgt := 62) hx hb dX6_arrivalBySettling_16 (by decide) (fun hc25 => ?_) (fun hc25 => ?_)
    · have hf := if_t hf hc25
      exact w_X6_arrivalBySettling_62 C0 M a3 hf _ _ _ hH hS (lv_sub hl [0, 2] rfl)
    · have hf := if_f hf hc25
      refine lv_aload_n hx hb dX6_arrivalBySettling_19 rfl (lv_at hl 0 rfl) ?_
      refine lv_aload_n hx hb dX6_arrivalBySettling_20 rfl (lv_at hl 1 rfl) ?_
      obtain ⟨r17, hq16, hf⟩ := bd_o hf
      refine hs_ci (hs_runV C0 hH hS (n := 1) (As := [.ref (YA Y 2 i1)]) (rest := []) (c_X6_earliestUnsettled M i1 (show i1 < 11 from by omega) hq16) ⟨⟨zt_600, zt_602, zs_16, zt_2, zt_603⟩, rfl, by decide, by decide, by decide +kernel⟩ ⟨rfl, rfl, Nat.le_of_ble_eq_true rfl, Nat.le_of_ble_eq_true rfl⟩ (hs_recv hK hH 7 0 (by decide) 10 rfl rfl) rfl rfl hl.1 (Nat.le_of_ble_eq_true rfl) ⟨Nat.le_of_ble_eq_true rfl, Nat.le_of_ble_eq_true rfl⟩ dX6_arrivalBySettling_21) hS (fun H locs hH hS => ?_)
      refine lv_istore (lv' := [(6, .int r17), (0, .ref (YA Y 7 0)), (1, .ref (YA Y 2 i1)), (3, .int a3), (5, .int a5)]) hx hb dX6_arrivalBySettling_24 hl (by decide) rfl (fun ls hl => ?_)
      refine lv_iload hx hb dX6_arrivalBySettling_26 (lv_at hl 0 rfl) ?_
      refine lv_iconst (v := (-1 : Int32)) hx hb dX6_arrivalBySettling_28 (by decide) ?_
      refine lv_icmp_eq (tgt := 62) hx hb dX6_arrivalBySettling_29 (by decide) (fun hc24 => ?_) (fun hc24 => ?_)
      · have hf := if_t hf hc24
        exact w_X6_arrivalBySettling_62 C0 M a3 hf _ _ _ hH hS (lv_sub hl [1, 3] rfl)
      · have hf := if_f hf hc24
        refine lv_iload hx hb dX6_arrivalBySettling_32 (lv_at hl 0 rfl) ?_
        refine lv_iload_n hx hb dX6_arrivalBySettling_34 rfl (lv_at hl 3 rfl) ?_
        refine lv_icmp_ne (tgt := 41) hx hb dX6_arrivalBySettling_35 (by decide) (fun hc23 => ?_) (fun hc23 => ?_)
        · have hf := if_f hf hc23
          refine lv_aload_n hx hb dX6_arrivalBySettling_41 rfl (lv_at hl 1 rfl) ?_
          refine hs_get hx hb (T := TX6) hA inAX6 hown hK hH 7 0 (by decide) 10 rfl rfl 1 (by decide) (hA _ zt_47) rfl rfl dX6_arrivalBySettling_42 ?_
          refine lv_iload hx hb dX6_arrivalBySettling_45 (lv_at hl 0 rfl) ?_
          refine lv_iconst (v := (1 : Int32)) hx hb dX6_arrivalBySettling_47 (by decide) ?_
          obtain ⟨hg18, hf⟩ := gd_o hf
          have bhg18 := vin_lt hg18
          refine hs_zast hx hb hK hH hS 9 0 (by decide) (fun _ => rfl) (by decide) hg18 rfl dX6_arrivalBySettling_48 (fun H locs hH hS => ?_)
          obtain ⟨M19, eM19, hf⟩ := nm_o hf
          rw [← eM19] at hH
          refine lv_aload_n hx hb dX6_arrivalBySettling_49 rfl (lv_at hl 1 rfl) ?_
          refine lv_aload_n hx hb dX6_arrivalBySettling_50 rfl (lv_at hl 2 rfl) ?_
          refine lv_iload hx hb dX6_arrivalBySettling_51 (lv_at hl 0 rfl) ?_
          obtain ⟨M21, hq20, hf⟩ := bd_o hf
          refine hs_cv (hs_runV C0 hH hS (n := 2) (As := [.ref (YA Y 2 i1), .int r17]) (rest := []) (c_X6_leavePlace M19 i1 r17 (show i1 < 11 from by omega) hq20) ⟨⟨zt_604, zt_606, zs_17, zt_2, zt_607⟩, rfl, by decide, by decide, by decide +kernel⟩ ⟨rfl, rfl, Nat.le_of_ble_eq_true rfl, Nat.le_of_ble_eq_true rfl⟩ (hs_recv hK hH 7 0 (by decide) 10 rfl rfl) rfl rfl hl.1 (Nat.le_of_ble_eq_true rfl) ⟨Nat.le_of_ble_eq_true rfl, Nat.le_of_ble_eq_true rfl⟩ dX6_arrivalBySettling_53) hS (fun H locs hH hS => ?_)
          refine lv_iinc (v := a5 + (1 : Int32)) (lv' := [(5, .int (a5 + (1 : Int32))), (6, .int r17), (0, .ref (YA Y 7 0)), (1, .ref (YA Y 2 i1)), (3, .int a3)]) hx hb dX6_arrivalBySettling_56 hl (k := 4) rfl rfl (by decide) rfl (fun ls hl => ?_)
          refine lv_goto (tgt := 10) hx hb dX6_arrivalBySettling_59 (by decide) ?_
          exact ih M21 i1 a3 (a5 + (1 : Int32)) (show i1 < 11 from by omega) hf _ _ _ hH hS (lv_sub hl [2, 3, 4, 0] rfl)
        · have hf := if_t hf hc23
          refine lv_goto (tgt := 62) hx hb dX6_arrivalBySettling_38 (by decide) ?_
          exact w_X6_arrivalBySettling_62 C0 M a3 hf _ _ _ hH hS (lv_sub hl [1, 3] rfl)
def f_X6_arrivalBySettling (M : Mem) (i1 : Nat) (a2 : Int32) (a3 : Int32) (a4 : Int32) : Option (Int32 × Mem) := bd (f_X6_startIn M a2 a4) fun M27 => f_X6_arrivalBySettling_10 FU M27 i1 a3 (0 : Int32)
set_option maxHeartbeats 4000000 in
set_option maxRecDepth 100000 in
theorem c_X6_arrivalBySettling {Y : LY} {l : Launch} (M : Mem) (i1 : Nat) (a2 : Int32) (a3 : Int32) (a4 : Int32) (hi1 : i1 < 11) {r : Int32} {MZ : Mem} (hf : f_X6_arrivalBySettling M i1 a2 a3 a4 = some (r, MZ)) : Met l yX6_arrivalBySettling (WS yX6_arrivalBySettling cX6_arrivalBySettling 7 (Option.some Jvm.ClassFile.FieldType.int)) { frames := 2, cells := 0, slots := 0, locals := 47 } (PcM Y M [.ref (YA Y 7 0), .ref (YA Y 2 i1), .int a2, .int a3, .int a4]) (Qi Y r MZ) 0 0 (AZ Y) := by
  refine met_mk (lv := [(0, .ref (YA Y 7 0)), (1, .ref (YA Y 2 i1)), (2, .int a2), (3, .int a3), (4, .int a4)]) [.ref (YA Y 7 0), .ref (YA Y 2 i1), .int a2, .int a3, .int a4] (by decide) rfl rfl (Nat.le_of_ble_eq_true rfl) (fun p e s m below meth c C0 hH ls hl => ?_)
  have hS : va_S (AZ Y) s.heap s.heap [] := va_S.rf
  obtain ⟨hx, hb, hr, hml, hown, hA, hlocks, hK, hZ⟩ := id C0
  unfold f_X6_arrivalBySettling at hf
  refine lv_aload_n hx hb dX6_arrivalBySettling_0 rfl (lv_at hl 0 rfl) ?_
  refine lv_iload_n hx hb dX6_arrivalBySettling_1 rfl (lv_at hl 2 rfl) ?_
  refine lv_iload hx hb dX6_arrivalBySettling_2 (lv_at hl 4 rfl) ?_
  obtain ⟨M27, hq26, hf⟩ := bd_o hf
  refine hs_cv (hs_runV C0 hH hS (n := 2) (As := [.int a2, .int a4]) (rest := []) (c_X6_startIn M a2 a4 hq26) ⟨⟨zt_595, zt_597, zs_15, zt_2, zt_598⟩, rfl, by decide, by decide, by decide +kernel⟩ ⟨rfl, rfl, Nat.le_of_ble_eq_true rfl, Nat.le_of_ble_eq_true rfl⟩ (hs_recv hK hH 7 0 (by decide) 10 rfl rfl) rfl rfl hl.1 (Nat.le_of_ble_eq_true rfl) ⟨Nat.le_of_ble_eq_true rfl, Nat.le_of_ble_eq_true rfl⟩ dX6_arrivalBySettling_4) hS (fun H locs hH hS => ?_)
  refine lv_iconst (v := (0 : Int32)) hx hb dX6_arrivalBySettling_7 (by decide) ?_
  refine lv_istore (lv' := [(5, .int (0 : Int32)), (0, .ref (YA Y 7 0)), (1, .ref (YA Y 2 i1)), (2, .int a2), (3, .int a3), (4, .int a4)]) hx hb dX6_arrivalBySettling_8 hl (by decide) rfl (fun ls hl => ?_)
  exact w_X6_arrivalBySettling_10 C0 FU M27 i1 a3 (0 : Int32) (show i1 < 11 from by omega) hf _ _ _ hH hS (lv_sub hl [1, 2, 4, 0] rfl)
def f_X5_nextLinkOf_105 (k34 : Mem → Nat → Nat → Int32 → Int32 → Option (Int32 × Mem)) (M : Mem) (i0 : Nat) (i1 : Nat) (a2 : Int32) (a3 : Int32) : Option (Int32 × Mem) := k34 M i0 i1 a2 (a3 + (1 : Int32))
set_option maxHeartbeats 4000000 in
set_option maxRecDepth 100000 in
theorem w_X5_nextLinkOf_105 {Y : LY} {p : Program} {l : Launch} {e : Env} {s : State} {m : MethodId} {args : Array Value} {below : List Frame} {meth : Method} {c : Code} (C0 : BE Y p s m args meth c cX5_nextLinkOf 6 (Option.some Jvm.ClassFile.FieldType.int) RX5) {r : Int32} {MZ : Mem} (k34 : Mem → Nat → Nat → Int32 → Int32 → Option (Int32 × Mem)) (hk34 : ∀ (M : Mem) (i0 : Nat) (i1 : Nat) (a2 : Int32) (a3 : Int32), i0 < 11 → i1 < 132 → k34 M i0 i1 a2 a3 = some (r, MZ) → ∀ (H : Heap) (locs : List Loc) (ls : Array Slot), HS Y M H → va_S (AZ Y) s.heap H locs → lv_has ls 6 [(0, .ref (YA Y 1 i0)), (1, .ref (YA Y 6 i1)), (2, .int a2), (3, .int a3)] → W p l e { frames := 3, cells := 0, slots := 0, locals := 73 } s m args below meth c H locs 0 0 (MQ below (Qi Y r MZ) args s 0 0 (AZ Y)) (F0 m 34 ls [])) : ∀ (M : Mem) (i0 : Nat) (i1 : Nat) (a2 : Int32) (a3 : Int32), i0 < 11 → i1 < 132 → f_X5_nextLinkOf_105 k34 M i0 i1 a2 a3 = some (r, MZ) → ∀ (H : Heap) (locs : List Loc) (ls : Array Slot), HS Y M H → va_S (AZ Y) s.heap H locs → lv_has ls 6 [(0, .ref (YA Y 1 i0)), (1, .ref (YA Y 6 i1)), (2, .int a2), (3, .int a3)] → W p l e { frames := 3, cells := 0, slots := 0, locals := 73 } s m args below meth c H locs 0 0 (MQ below (Qi Y r MZ) args s 0 0 (AZ Y)) (F0 m 105 ls []) := by
  obtain ⟨hx, hb, hr, hml, hown, hA, hlocks, hK, hZ⟩ := id C0
  intro M i0 i1 a2 a3 hi0 hi1 hf H locs ls hH hS hl
  unfold f_X5_nextLinkOf_105 at hf
  refine lv_iinc (v := a3 + (1 : Int32)) (lv' := [(3, .int (a3 + (1 : Int32))), (0, .ref (YA Y 1 i0)), (1, .ref (YA Y 6 i1)), (2, .int a2)]) hx hb dX5_nextLinkOf_105 hl (k := 3) rfl rfl (by decide) rfl (fun ls hl => ?_)
  refine lv_goto (tgt := 34) hx hb dX5_nextLinkOf_108 (by decide) ?_
  exact hk34 M i0 i1 a2 (a3 + (1 : Int32)) (show i0 < 11 from by omega) (show i1 < 132 from by omega) hf _ _ _ hH hS (lv_sub hl [1, 2, 3, 0] rfl)
def f_X5_nextLinkOf_34 : Nat → Mem → Nat → Nat → Int32 → Int32 → Option (Int32 × Mem)
  | 0, _, _, _, _, _ => none
  | n + 1, M, i0, i1, a2, a3 => (if (M 2 i0 2) ≤ a3 then some ((-1 : Int32), M) else if vin a3 20 then (bd (f_X5_canStartOver M i0 i1 a3) fun r16 => (if r16 = 0 then f_X5_nextLinkOf_105 (f_X5_nextLinkOf_34 n) M i0 i1 a2 a3 else bd2 (f_X6_arrivalBySettling M i0 (M 4 (20 * i0 + (ix a3)) 1) (M 6 i1 3) ((M 1 i0 4) + (M 4 (20 * i0 + (ix a3)) 2))) fun r19 M18 => (if r19 = a2 then some (a3, M18) else f_X5_nextLinkOf_105 (f_X5_nextLinkOf_34 n) M18 i0 i1 a2 a3))) else none)
set_option maxHeartbeats 4000000 in
set_option maxRecDepth 100000 in
theorem w_X5_nextLinkOf_34 {Y : LY} {p : Program} {l : Launch} {e : Env} {s : State} {m : MethodId} {args : Array Value} {below : List Frame} {meth : Method} {c : Code} (C0 : BE Y p s m args meth c cX5_nextLinkOf 6 (Option.some Jvm.ClassFile.FieldType.int) RX5) {r : Int32} {MZ : Mem} : ∀ (n : Nat) (M : Mem) (i0 : Nat) (i1 : Nat) (a2 : Int32) (a3 : Int32), i0 < 11 → i1 < 132 → f_X5_nextLinkOf_34 n M i0 i1 a2 a3 = some (r, MZ) → ∀ (H : Heap) (locs : List Loc) (ls : Array Slot), HS Y M H → va_S (AZ Y) s.heap H locs → lv_has ls 6 [(0, .ref (YA Y 1 i0)), (1, .ref (YA Y 6 i1)), (2, .int a2), (3, .int a3)] → W p l e { frames := 3, cells := 0, slots := 0, locals := 73 } s m args below meth c H locs 0 0 (MQ below (Qi Y r MZ) args s 0 0 (AZ Y)) (F0 m 34 ls []) := by
  obtain ⟨hx, hb, hr, hml, hown, hA, hlocks, hK, hZ⟩ := id C0
  intro n
  induction n with
  | zero =>
    intro M i0 i1 a2 a3 hi0 hi1 hf
    cases hf
  | succ n ih =>
    intro M i0 i1 a2 a3 hi0 hi1 hf H locs ls hH hS hl
    rw [f_X5_nextLinkOf_34] at hf
    refine lv_iload_n hx hb dX5_nextLinkOf_34 rfl (lv_at hl 3 rfl) ?_
    refine lv_aload_n hx hb dX5_nextLinkOf_35 rfl (lv_at hl 0 rfl) ?_
    refine hs_get hx hb (T := TX5) hA inAX5 hown hK hH 1 i0 (show i0 < 11 from by omega) 9 rfl rfl 1 (by decide) (hA _ zt_173) rfl rfl dX5_nextLinkOf_36 ?_
    refine hs_get hx hb (T := TX2) hA inAX2 hown hK hH 2 i0 (show i0 < 11 from by omega) 6 rfl rfl 2 (by decide) (hA _ zt_119) rfl rfl dX5_nextLinkOf_39 ?_
    refine lv_icmp_ge (tgt := 111) hx hb dX5_nextLinkOf_42 (by decide) (fun hc22 => ?_) (fun hc22 => ?_)
    · have hf := if_t hf hc22
      refine lv_iconst (v := (-1 : Int32)) hx hb dX5_nextLinkOf_111 (by decide) ?_
      cases hf
      exact hs_iret C0 hH hS (by decide) (by decide) dX5_nextLinkOf_112
    · have hf := if_f hf hc22
      refine lv_aload_n hx hb dX5_nextLinkOf_45 rfl (lv_at hl 0 rfl) ?_
      refine hs_get hx hb (T := TX5) hA inAX5 hown hK hH 1 i0 (show i0 < 11 from by omega) 9 rfl rfl 1 (by decide) (hA _ zt_173) rfl rfl dX5_nextLinkOf_46 ?_
      refine hs_get hx hb (T := TX2) hA inAX2 hown hK hH 2 i0 (show i0 < 11 from by omega) 6 rfl rfl 0 (by decide) (hA _ zt_112) rfl rfl dX5_nextLinkOf_49 ?_
      refine lv_iload_n hx hb dX5_nextLinkOf_52 rfl (lv_at hl 3 rfl) ?_
      obtain ⟨hg14, hf⟩ := gd_o hf
      have bhg14 := vin_lt hg14
      refine hs_aald hx hb hK hH 3 i0 (show i0 < 11 from by omega) 3 rfl rfl hg14 (q := YA Y 4 (20 * i0 + (ix a3))) rfl dX5_nextLinkOf_53 ?_
      refine lv_astore (lv' := [(4, .ref (YA Y 4 (20 * i0 + (ix a3)))), (0, .ref (YA Y 1 i0)), (1, .ref (YA Y 6 i1)), (2, .int a2), (3, .int a3)]) hx hb dX5_nextLinkOf_54 hl (by decide) rfl (fun ls hl => ?_)
      refine lv_aload_n hx hb dX5_nextLinkOf_56 rfl (lv_at hl 1 rfl) ?_
      refine hs_get hx hb (T := TX5) hA inAX5 hown hK hH 1 i0 (show i0 < 11 from by omega) 9 rfl rfl 4 (by decide) (hA _ zt_179) rfl rfl dX5_nextLinkOf_57 ?_
      refine lv_aload hx hb dX5_nextLinkOf_60 (lv_at hl 0 rfl) ?_
      refine hs_get hx hb (T := TX1) hA inAX1 hown hK hH 4 (20 * i0 + (ix a3)) (show 20 * i0 + (ix a3) < 220 from by omega) 5 rfl rfl 2 (by decide) (hA _ zt_90) rfl rfl dX5_nextLinkOf_62 ?_
      refine lv_iadd hx hb dX5_nextLinkOf_65 ?_
      refine lv_istore (lv' := [(5, .int ((M 1 i0 4) + (M 4 (20 * i0 + (ix a3)) 2))), (4, .ref (YA Y 4 (20 * i0 + (ix a3)))), (0, .ref (YA Y 1 i0)), (1, .ref (YA Y 6 i1)), (2, .int a2), (3, .int a3)]) hx hb dX5_nextLinkOf_66 hl (by decide) rfl (fun ls hl => ?_)
      refine lv_aload_n hx hb dX5_nextLinkOf_68 rfl (lv_at hl 2 rfl) ?_
      refine lv_aload_n hx hb dX5_nextLinkOf_69 rfl (lv_at hl 3 rfl) ?_
      refine lv_iload_n hx hb dX5_nextLinkOf_70 rfl (lv_at hl 5 rfl) ?_
      obtain ⟨r16, hq15, hf⟩ := bd_o hf
      refine hs_ci (hs_runV C0 hH hS (n := 2) (As := [.ref (YA Y 6 i1), .int a3]) (rest := []) (c_X5_canStartOver M i0 i1 a3 (show i0 < 11 from by omega) (show i1 < 132 from by omega) hq15) ⟨⟨zt_377, zt_379, zs_6, zt_3, zt_380⟩, rfl, by decide, by decide, by decide +kernel⟩ ⟨rfl, rfl, Nat.le_of_ble_eq_true rfl, Nat.le_of_ble_eq_true rfl⟩ (hs_recv hK hH 1 i0 (show i0 < 11 from by omega) 9 rfl rfl) rfl rfl hl.1 (Nat.le_of_ble_eq_true rfl) ⟨Nat.le_of_ble_eq_true rfl, Nat.le_of_ble_eq_true rfl⟩ dX5_nextLinkOf_71) hS (fun H locs hH hS => ?_)
      refine lv_if_eq (tgt := 105) hx hb dX5_nextLinkOf_74 (by decide) (fun hc21 => ?_) (fun hc21 => ?_)
      · have hf := if_t hf hc21
        exact w_X5_nextLinkOf_105 C0 (f_X5_nextLinkOf_34 n) ih M i0 i1 a2 a3 (show i0 < 11 from by omega) (show i1 < 132 from by omega) hf _ _ _ hH hS (lv_sub hl [2, 3, 4, 5] rfl)
      · have hf := if_f hf hc21
        refine lv_aload_n hx hb dX5_nextLinkOf_77 rfl (lv_at hl 2 rfl) ?_
        refine hs_get hx hb (T := TX5) hA inAX5 hown hK hH 1 i0 (show i0 < 11 from by omega) 9 rfl rfl 0 (by decide) (hA _ zt_172) rfl rfl dX5_nextLinkOf_78 ?_
        refine lv_aload_n hx hb dX5_nextLinkOf_81 rfl (lv_at hl 2 rfl) ?_
        refine hs_get hx hb (T := TX5) hA inAX5 hown hK hH 1 i0 (show i0 < 11 from by omega) 9 rfl rfl 1 (by decide) (hA _ zt_173) rfl rfl dX5_nextLinkOf_82 ?_
        refine lv_aload hx hb dX5_nextLinkOf_85 (lv_at hl 1 rfl) ?_
        refine hs_get hx hb (T := TX1) hA inAX1 hown hK hH 4 (20 * i0 + (ix a3)) (show 20 * i0 + (ix a3) < 220 from by omega) 5 rfl rfl 1 (by decide) (hA _ zt_85) rfl rfl dX5_nextLinkOf_87 ?_
        refine lv_aload_n hx hb dX5_nextLinkOf_90 rfl (lv_at hl 3 rfl) ?_
        refine hs_get hx hb (T := TX3) hA inAX3 hown hK hH 6 i1 (show i1 < 132 from by omega) 7 rfl rfl 3 (by decide) (hA _ zt_146) rfl rfl dX5_nextLinkOf_91 ?_
        refine lv_iload hx hb dX5_nextLinkOf_94 (lv_at hl 0 rfl) ?_
        obtain ⟨r19, M18, hq17, hf⟩ := bd2_o hf
        refine hs_ci (hs_runV C0 hH hS (n := 4) (As := [.ref (YA Y 2 i0), .int (M 4 (20 * i0 + (ix a3)) 1), .int (M 6 i1 3), .int ((M 1 i0 4) + (M 4 (20 * i0 + (ix a3)) 2))]) (rest := []) (c_X6_arrivalBySettling M i0 (M 4 (20 * i0 + (ix a3)) 1) (M 6 i1 3) ((M 1 i0 4) + (M 4 (20 * i0 + (ix a3)) 2)) (show i0 < 11 from by omega) hq17) ⟨⟨zt_591, zt_592, zt_593, zt_2, zt_594⟩, rfl, by decide, by decide, by decide +kernel⟩ ⟨rfl, rfl, Nat.le_of_ble_eq_true rfl, Nat.le_of_ble_eq_true rfl⟩ (hs_recv hK hH 7 0 (by decide) 10 rfl rfl) rfl rfl hl.1 (Nat.le_of_ble_eq_true rfl) ⟨Nat.le_of_ble_eq_true rfl, Nat.le_of_ble_eq_true rfl⟩ dX5_nextLinkOf_96) hS (fun H locs hH hS => ?_)
        refine lv_iload_n hx hb dX5_nextLinkOf_99 rfl (lv_at hl 4 rfl) ?_
        refine lv_icmp_ne (tgt := 105) hx hb dX5_nextLinkOf_100 (by decide) (fun hc20 => ?_) (fun hc20 => ?_)
        · have hf := if_f hf hc20
          exact w_X5_nextLinkOf_105 C0 (f_X5_nextLinkOf_34 n) ih M18 i0 i1 a2 a3 (show i0 < 11 from by omega) (show i1 < 132 from by omega) hf _ _ _ hH hS (lv_sub hl [2, 3, 4, 5] rfl)
        · have hf := if_t hf hc20
          refine lv_iload_n hx hb dX5_nextLinkOf_103 rfl (lv_at hl 5 rfl) ?_
          cases hf
          exact hs_iret C0 hH hS (by decide) (by decide) dX5_nextLinkOf_104
def f_X5_nextLinkOf (M : Mem) (i0 : Nat) (i1 : Nat) : Option (Int32 × Mem) := bd2 (f_X6_arrivalBySettling M i0 (M 6 i1 4) (M 6 i1 3) (M 1 i0 4)) fun r25 M24 => (if r25 = (2147483647 : Int32) then some ((-1 : Int32), M24) else f_X5_nextLinkOf_34 FU M24 i0 i1 r25 (0 : Int32))
set_option maxHeartbeats 4000000 in
set_option maxRecDepth 100000 in
theorem c_X5_nextLinkOf {Y : LY} {l : Launch} (M : Mem) (i0 : Nat) (i1 : Nat) (hi0 : i0 < 11) (hi1 : i1 < 132) {r : Int32} {MZ : Mem} (hf : f_X5_nextLinkOf M i0 i1 = some (r, MZ)) : Met l yX5_nextLinkOf (WS yX5_nextLinkOf cX5_nextLinkOf 6 (Option.some Jvm.ClassFile.FieldType.int)) { frames := 3, cells := 0, slots := 0, locals := 73 } (PcM Y M [.ref (YA Y 1 i0), .ref (YA Y 6 i1)]) (Qi Y r MZ) 0 0 (AZ Y) := by
  refine met_mk (lv := [(0, .ref (YA Y 1 i0)), (1, .ref (YA Y 6 i1))]) [.ref (YA Y 1 i0), .ref (YA Y 6 i1)] (by decide) rfl rfl (Nat.le_of_ble_eq_true rfl) (fun p e s m below meth c C0 hH ls hl => ?_)
  have hS : va_S (AZ Y) s.heap s.heap [] := va_S.rf
  obtain ⟨hx, hb, hr, hml, hown, hA, hlocks, hK, hZ⟩ := id C0
  unfold f_X5_nextLinkOf at hf
  refine lv_aload_n hx hb dX5_nextLinkOf_0 rfl (lv_at hl 0 rfl) ?_
  refine hs_get hx hb (T := TX5) hA inAX5 hown hK hH 1 i0 (show i0 < 11 from by omega) 9 rfl rfl 0 (by decide) (hA _ zt_172) rfl rfl dX5_nextLinkOf_1 ?_
  refine lv_aload_n hx hb dX5_nextLinkOf_4 rfl (lv_at hl 0 rfl) ?_
  refine hs_get hx hb (T := TX5) hA inAX5 hown hK hH 1 i0 (show i0 < 11 from by omega) 9 rfl rfl 1 (by decide) (hA _ zt_173) rfl rfl dX5_nextLinkOf_5 ?_
  refine lv_aload_n hx hb dX5_nextLinkOf_8 rfl (lv_at hl 1 rfl) ?_
  refine hs_get hx hb (T := TX3) hA inAX3 hown hK hH 6 i1 (show i1 < 132 from by omega) 7 rfl rfl 4 (by decide) (hA _ zt_149) rfl rfl dX5_nextLinkOf_9 ?_
  refine lv_aload_n hx hb dX5_nextLinkOf_12 rfl (lv_at hl 1 rfl) ?_
  refine hs_get hx hb (T := TX3) hA inAX3 hown hK hH 6 i1 (show i1 < 132 from by omega) 7 rfl rfl 3 (by decide) (hA _ zt_146) rfl rfl dX5_nextLinkOf_13 ?_
  refine lv_aload_n hx hb dX5_nextLinkOf_16 rfl (lv_at hl 0 rfl) ?_
  refine hs_get hx hb (T := TX5) hA inAX5 hown hK hH 1 i0 (show i0 < 11 from by omega) 9 rfl rfl 4 (by decide) (hA _ zt_179) rfl rfl dX5_nextLinkOf_17 ?_
  obtain ⟨r25, M24, hq23, hf⟩ := bd2_o hf
  refine hs_ci (hs_runV C0 hH hS (n := 4) (As := [.ref (YA Y 2 i0), .int (M 6 i1 4), .int (M 6 i1 3), .int (M 1 i0 4)]) (rest := []) (c_X6_arrivalBySettling M i0 (M 6 i1 4) (M 6 i1 3) (M 1 i0 4) (show i0 < 11 from by omega) hq23) ⟨⟨zt_591, zt_592, zt_593, zt_2, zt_594⟩, rfl, by decide, by decide, by decide +kernel⟩ ⟨rfl, rfl, Nat.le_of_ble_eq_true rfl, Nat.le_of_ble_eq_true rfl⟩ (hs_recv hK hH 7 0 (by decide) 10 rfl rfl) rfl rfl hl.1 (Nat.le_of_ble_eq_true rfl) ⟨Nat.le_of_ble_eq_true rfl, Nat.le_of_ble_eq_true rfl⟩ dX5_nextLinkOf_20) hS (fun H locs hH hS => ?_)
  refine lv_istore_n (lv' := [(2, .int r25), (0, .ref (YA Y 1 i0)), (1, .ref (YA Y 6 i1))]) hx hb dX5_nextLinkOf_23 rfl hl (by decide) rfl (fun ls hl => ?_)
  refine lv_iload_n hx hb dX5_nextLinkOf_24 rfl (lv_at hl 0 rfl) ?_
  refine lv_ldc (v := (2147483647 : Int32)) hx hb hown (hA _ zt_615) dX5_nextLinkOf_25 ?_
  refine lv_icmp_ne (tgt := 32) hx hb dX5_nextLinkOf_27 (by decide) (fun hc26 => ?_) (fun hc26 => ?_)
  · have hf := if_f hf hc26
    refine lv_iconst (v := (0 : Int32)) hx hb dX5_nextLinkOf_32 (by decide) ?_
    refine lv_istore_n (lv' := [(3, .int (0 : Int32)), (2, .int r25), (0, .ref (YA Y 1 i0)), (1, .ref (YA Y 6 i1))]) hx hb dX5_nextLinkOf_33 rfl hl (by decide) rfl (fun ls hl => ?_)
    exact w_X5_nextLinkOf_34 C0 FU M24 i0 i1 r25 (0 : Int32) (show i0 < 11 from by omega) (show i1 < 132 from by omega) hf _ _ _ hH hS (lv_sub hl [2, 3, 1, 0] rfl)
  · have hf := if_t hf hc26
    refine lv_iconst (v := (-1 : Int32)) hx hb dX5_nextLinkOf_30 (by decide) ?_
    cases hf
    exact hs_iret C0 hH hS (by decide) (by decide) dX5_nextLinkOf_31
