def f_L_law_2673 (xs : Nat → Int32) (L : Nat) (k28 : Mem → Int32 → Option Unit) (M : Mem) (a5 : Int32) : Option Unit := bd2 (f_L_meanStamps M) fun r1247 M1246 => bd2 (f_X8_meanStamps M1246) fun r1250 M1249 => bd (f_X8_thrown M1249) fun r1252 => (if r1252 = r1247 then (if r1247 = 0 then (if (Op.cmpValue (FP.dcmp (dOf (M1249 36 0 0) (M1249 36 0 1)) r1250) .l) = 0 then f_L_law_3289 xs L k28 M1249 a5 else (if (Op.cmpValue (FP.dcmp (dOf (M1249 36 0 0) (M1249 36 0 1)) (dOf (M1249 36 0 0) (M1249 36 0 1))) .l) = 0 then none else (if (Op.cmpValue (FP.dcmp r1250 r1250) .l) = 0 then none else f_L_law_3289 xs L k28 M1249 a5))) else f_L_law_3289 xs L k28 M1249 a5) else none)
set_option maxHeartbeats 8000000 in
set_option maxRecDepth 100000 in
theorem w_L_law_2673 {Y : LY} {p : Program} {l : Launch} {e : Env} {s : State} {m : MethodId} {b : Nat} {below : List Frame} {meth : Method} {c : Code} (C0 : BE Y p s m #[Value.ref b] meth c cL_law 9 ret RL) (hl9 : l.stackTraces = false) (xs : Nat → Int32) (L : Nat) (hX : va_X b L xs s s.heap) (hbl : b < YZ Y) (C S : Nat) (hC9 : C + 60 ≤ 603072) (hS9 : S + 8000 ≤ 7182442) (k28 : Mem → Int32 → Option Unit) (hk28 : ∀ (M : Mem) (a5 : Int32), k28 M a5 = some () → ∀ (H : Heap) (locs : List Loc) (ls : Array Slot), HS Y M H → va_S (AZ Y) s.heap H locs → lv_has ls 9 [(0, .ref b), (1, .ref (YA Y 0 0)), (2, .ref (YA Y 20 0)), (3, .ref (YA Y 33 0)), (4, .ref (YA Y 36 0)), (5, .int a5)] → W p l e room_1 s m #[Value.ref b] below meth c H locs (C + 60) (S + 8000) (lw_Z below #[Value.ref b] s) (F0 m 28 ls [])) : ∀ (M : Mem) (a5 : Int32), f_L_law_2673 xs L k28 M a5 = some () → ∀ (H : Heap) (locs : List Loc) (ls : Array Slot), HS Y M H → va_S (AZ Y) s.heap H locs → lv_has ls 9 [(0, .ref b), (1, .ref (YA Y 0 0)), (2, .ref (YA Y 20 0)), (3, .ref (YA Y 33 0)), (4, .ref (YA Y 36 0)), (5, .int a5)] → W p l e room_1 s m #[Value.ref b] below meth c H locs (C + 0) (S + 0) (lw_Z below #[Value.ref b] s) (F0 m 2673 ls []) := by
  obtain ⟨hx, hb, hr, hml, hown, hA, hlocks, hK, hZ⟩ := id C0
  have hR1 : room_1.cells = 603072 := rfl
  have hR2 : room_1.slots = 7182442 := rfl
  intro M a5 hf H locs ls hH hS hl
  unfold f_L_law_2673 at hf
  refine lv_aload_n hx hb dL_law_2673 rfl (lv_at hl 1 rfl) ?_
  refine lv_aload hx hb dL_law_2674 (lv_at hl 4 rfl) ?_
  obtain ⟨r1247, M1246, hq1245, hf⟩ := bd2_o hf
  refine hs_ci (hs_runSX C0 hH hS (n := 2) (As := [.ref (YA Y 0 0), .ref (YA Y 36 0)]) (rest := []) (c_L_meanStamps hl9 M hq1245) ⟨⟨zt_1061, zt_1062, zt_0, zt_1063⟩, by decide, by decide, by decide +kernel⟩ ⟨rfl, rfl, Nat.le_of_ble_eq_true rfl, Nat.le_of_ble_eq_true rfl⟩ rfl rfl hl.1 (Nat.le_of_ble_eq_true rfl) ⟨by omega, by omega⟩ dL_law_2676) hS (fun H locs hH hS => ?_)
  refine lv_istore (lv' := [(6, .int r1247), (0, .ref b), (1, .ref (YA Y 0 0)), (2, .ref (YA Y 20 0)), (3, .ref (YA Y 33 0)), (4, .ref (YA Y 36 0)), (5, .int a5)]) hx hb dL_law_2679 hl (by decide) rfl (fun ls hl => ?_)
  refine lv_aload_n hx hb dL_law_2681 rfl (lv_at hl 3 rfl) ?_
  obtain ⟨r1250, M1249, hq1248, hf⟩ := bd2_o hf
  refine hs_cd (hs_runV C0 hH hS (n := 0) (As := []) (rest := []) (c_X8_meanStamps M1246 hq1248) ⟨⟨zt_1956, zt_1957, zt_1958, zt_13, zt_1959⟩, rfl, by decide, by decide, by decide +kernel⟩ ⟨rfl, rfl, Nat.le_of_ble_eq_true rfl, Nat.le_of_ble_eq_true rfl⟩ (hs_recv hK hH 20 0 (by decide) 12 rfl rfl) rfl rfl hl.1 (Nat.le_of_ble_eq_true rfl) ⟨by omega, by omega⟩ dL_law_2682) hS (fun H locs hH hS => ?_)
  refine lv_dstore (lv' := [(7, .double r1250), (6, .int r1247), (0, .ref b), (1, .ref (YA Y 0 0)), (2, .ref (YA Y 20 0)), (3, .ref (YA Y 33 0)), (4, .ref (YA Y 36 0)), (5, .int a5)]) hx hb dL_law_2685 hl (by decide) rfl (fun ls hl => ?_)
  refine lv_aload_n hx hb dL_law_2687 rfl (lv_at hl 4 rfl) ?_
  obtain ⟨r1252, hq1251, hf⟩ := bd_o hf
  refine hs_ci (hs_runV C0 hH hS (n := 0) (As := []) (rest := []) (c_X8_thrown M1249 hq1251) ⟨⟨zt_1621, zt_1622, zt_1623, zt_13, zt_1624⟩, rfl, by decide, by decide, by decide +kernel⟩ ⟨rfl, rfl, Nat.le_of_ble_eq_true rfl, Nat.le_of_ble_eq_true rfl⟩ (hs_recv hK hH 20 0 (by decide) 12 rfl rfl) rfl rfl hl.1 (Nat.le_of_ble_eq_true rfl) ⟨by omega, by omega⟩ dL_law_2688) hS (fun H locs hH hS => ?_)
  refine lv_iload hx hb dL_law_2691 (lv_at hl 1 rfl) ?_
  refine lv_icmp_eq (tgt := 2698) hx hb dL_law_2693 (by decide) (fun hc1257 => ?_) (fun hc1257 => ?_)
  · have hf := if_t hf hc1257
    refine lv_iload hx hb dL_law_2698 (lv_at hl 1 rfl) ?_
    refine lv_if_ne (tgt := 2735) hx hb dL_law_2700 (by decide) (fun hc1256 => ?_) (fun hc1256 => ?_)
    · have hf := if_f hf hc1256
      refine lv_goto (tgt := 3289) hx hb dL_law_2735 (by decide) ?_
      refine W.widen (k := C + 14) (n := S + 1696) (by omega) (by omega) ?_
      exact w_L_law_3289 C0 hl9 xs L hX hbl C S hC9 hS9 k28 hk28 M1249 a5 hf _ _ _ hH hS (lv_sub hl [2, 3, 4, 5, 6, 7] rfl)
    · have hf := if_t hf hc1256
      refine lv_aload hx hb dL_law_2703 (lv_at hl 6 rfl) ?_
      refine lv_iconst (v := (0 : Int32)) hx hb dL_law_2705 (by decide) ?_
      refine hl_daload hx hb hK hH dL_law_2706 ?_
      refine lv_dload hx hb dL_law_2707 (lv_at hl 0 rfl) ?_
      refine lv_dcmp hx hb dL_law_2709 ?_
      refine lv_if_eq (tgt := 2735) hx hb dL_law_2710 (by decide) (fun hc1255 => ?_) (fun hc1255 => ?_)
      · have hf := if_t hf hc1255
        refine lv_goto (tgt := 3289) hx hb dL_law_2735 (by decide) ?_
        refine W.widen (k := C + 14) (n := S + 1696) (by omega) (by omega) ?_
        exact w_L_law_3289 C0 hl9 xs L hX hbl C S hC9 hS9 k28 hk28 M1249 a5 hf _ _ _ hH hS (lv_sub hl [2, 3, 4, 5, 6, 7] rfl)
      · have hf := if_f hf hc1255
        refine lv_aload hx hb dL_law_2713 (lv_at hl 6 rfl) ?_
        refine lv_iconst (v := (0 : Int32)) hx hb dL_law_2715 (by decide) ?_
        refine hl_daload hx hb hK hH dL_law_2716 ?_
        refine lv_aload hx hb dL_law_2717 (lv_at hl 6 rfl) ?_
        refine lv_iconst (v := (0 : Int32)) hx hb dL_law_2719 (by decide) ?_
        refine hl_daload hx hb hK hH dL_law_2720 ?_
        refine lv_dcmp hx hb dL_law_2721 ?_
        refine lv_if_eq (tgt := 2733) hx hb dL_law_2722 (by decide) (fun hc1254 => ?_) (fun hc1254 => ?_)
        · have hf := if_t hf hc1254
          refine lv_iconst (v := (0 : Int32)) hx hb dL_law_2733 (by decide) ?_
          cases hf
        · have hf := if_f hf hc1254
          refine lv_dload hx hb dL_law_2725 (lv_at hl 0 rfl) ?_
          refine lv_dload hx hb dL_law_2727 (lv_at hl 0 rfl) ?_
          refine lv_dcmp hx hb dL_law_2729 ?_
          refine lv_if_ne (tgt := 2735) hx hb dL_law_2730 (by decide) (fun hc1253 => ?_) (fun hc1253 => ?_)
          · have hf := if_f hf hc1253
            refine lv_goto (tgt := 3289) hx hb dL_law_2735 (by decide) ?_
            refine W.widen (k := C + 14) (n := S + 1696) (by omega) (by omega) ?_
            exact w_L_law_3289 C0 hl9 xs L hX hbl C S hC9 hS9 k28 hk28 M1249 a5 hf _ _ _ hH hS (lv_sub hl [2, 3, 4, 5, 6, 7] rfl)
          · have hf := if_t hf hc1253
            refine lv_iconst (v := (0 : Int32)) hx hb dL_law_2733 (by decide) ?_
            cases hf
  · have hf := if_f hf hc1257
    refine lv_iconst (v := (0 : Int32)) hx hb dL_law_2696 (by decide) ?_
    cases hf
def f_L_law_2738 (xs : Nat → Int32) (L : Nat) (k28 : Mem → Int32 → Option Unit) (M : Mem) (a5 : Int32) : Option Unit := bd2 (f_L_blockedShare M) fun r1260 M1259 => bd2 (f_X8_blockedShare M1259) fun r1263 M1262 => bd (f_X8_thrown M1262) fun r1265 => (if r1265 = r1260 then (if r1260 = 0 then if nn64 (FP.f2d r1263) then ((if (Op.cmpValue (FP.dcmp (dOf (M1262 36 0 0) (M1262 36 0 1)) (FP.f2d r1263)) .l) = 0 then f_L_law_3289 xs L k28 M1262 a5 else (if (Op.cmpValue (FP.dcmp (dOf (M1262 36 0 0) (M1262 36 0 1)) (dOf (M1262 36 0 0) (M1262 36 0 1))) .l) = 0 then none else (if (Op.cmpValue (FP.fcmp r1263 r1263) .l) = 0 then none else f_L_law_3289 xs L k28 M1262 a5)))) else none else f_L_law_3289 xs L k28 M1262 a5) else none)
set_option maxHeartbeats 8000000 in
set_option maxRecDepth 100000 in
theorem w_L_law_2738 {Y : LY} {p : Program} {l : Launch} {e : Env} {s : State} {m : MethodId} {b : Nat} {below : List Frame} {meth : Method} {c : Code} (C0 : BE Y p s m #[Value.ref b] meth c cL_law 9 ret RL) (hl9 : l.stackTraces = false) (xs : Nat → Int32) (L : Nat) (hX : va_X b L xs s s.heap) (hbl : b < YZ Y) (C S : Nat) (hC9 : C + 60 ≤ 603072) (hS9 : S + 8000 ≤ 7182442) (k28 : Mem → Int32 → Option Unit) (hk28 : ∀ (M : Mem) (a5 : Int32), k28 M a5 = some () → ∀ (H : Heap) (locs : List Loc) (ls : Array Slot), HS Y M H → va_S (AZ Y) s.heap H locs → lv_has ls 9 [(0, .ref b), (1, .ref (YA Y 0 0)), (2, .ref (YA Y 20 0)), (3, .ref (YA Y 33 0)), (4, .ref (YA Y 36 0)), (5, .int a5)] → W p l e room_1 s m #[Value.ref b] below meth c H locs (C + 60) (S + 8000) (lw_Z below #[Value.ref b] s) (F0 m 28 ls [])) : ∀ (M : Mem) (a5 : Int32), f_L_law_2738 xs L k28 M a5 = some () → ∀ (H : Heap) (locs : List Loc) (ls : Array Slot), HS Y M H → va_S (AZ Y) s.heap H locs → lv_has ls 9 [(0, .ref b), (1, .ref (YA Y 0 0)), (2, .ref (YA Y 20 0)), (3, .ref (YA Y 33 0)), (4, .ref (YA Y 36 0)), (5, .int a5)] → W p l e room_1 s m #[Value.ref b] below meth c H locs (C + 0) (S + 0) (lw_Z below #[Value.ref b] s) (F0 m 2738 ls []) := by
  obtain ⟨hx, hb, hr, hml, hown, hA, hlocks, hK, hZ⟩ := id C0
  have hR1 : room_1.cells = 603072 := rfl
  have hR2 : room_1.slots = 7182442 := rfl
  intro M a5 hf H locs ls hH hS hl
  unfold f_L_law_2738 at hf
  refine lv_aload_n hx hb dL_law_2738 rfl (lv_at hl 1 rfl) ?_
  refine lv_aload hx hb dL_law_2739 (lv_at hl 4 rfl) ?_
  obtain ⟨r1260, M1259, hq1258, hf⟩ := bd2_o hf
  refine hs_ci (hs_runSX C0 hH hS (n := 2) (As := [.ref (YA Y 0 0), .ref (YA Y 36 0)]) (rest := []) (c_L_blockedShare hl9 M hq1258) ⟨⟨zt_1089, zt_1090, zt_0, zt_1091⟩, by decide, by decide, by decide +kernel⟩ ⟨rfl, rfl, Nat.le_of_ble_eq_true rfl, Nat.le_of_ble_eq_true rfl⟩ rfl rfl hl.1 (Nat.le_of_ble_eq_true rfl) ⟨by omega, by omega⟩ dL_law_2741) hS (fun H locs hH hS => ?_)
  refine lv_istore (lv' := [(6, .int r1260), (0, .ref b), (1, .ref (YA Y 0 0)), (2, .ref (YA Y 20 0)), (3, .ref (YA Y 33 0)), (4, .ref (YA Y 36 0)), (5, .int a5)]) hx hb dL_law_2744 hl (by decide) rfl (fun ls hl => ?_)
  refine lv_aload_n hx hb dL_law_2746 rfl (lv_at hl 3 rfl) ?_
  obtain ⟨r1263, M1262, hq1261, hf⟩ := bd2_o hf
  refine hs_cf (hs_runV C0 hH hS (n := 0) (As := []) (rest := []) (c_X8_blockedShare M1259 hq1261) ⟨⟨zt_1960, zt_1961, zt_1962, zt_13, zt_1963⟩, rfl, by decide, by decide, by decide +kernel⟩ ⟨rfl, rfl, Nat.le_of_ble_eq_true rfl, Nat.le_of_ble_eq_true rfl⟩ (hs_recv hK hH 20 0 (by decide) 12 rfl rfl) rfl rfl hl.1 (Nat.le_of_ble_eq_true rfl) ⟨by omega, by omega⟩ dL_law_2747) hS (fun H locs hH hS => ?_)
  refine lv_fstore (lv' := [(7, .float r1263), (6, .int r1260), (0, .ref b), (1, .ref (YA Y 0 0)), (2, .ref (YA Y 20 0)), (3, .ref (YA Y 33 0)), (4, .ref (YA Y 36 0)), (5, .int a5)]) hx hb dL_law_2750 hl (by decide) rfl (fun ls hl => ?_)
  refine lv_aload_n hx hb dL_law_2752 rfl (lv_at hl 4 rfl) ?_
  obtain ⟨r1265, hq1264, hf⟩ := bd_o hf
  refine hs_ci (hs_runV C0 hH hS (n := 0) (As := []) (rest := []) (c_X8_thrown M1262 hq1264) ⟨⟨zt_1621, zt_1622, zt_1623, zt_13, zt_1624⟩, rfl, by decide, by decide, by decide +kernel⟩ ⟨rfl, rfl, Nat.le_of_ble_eq_true rfl, Nat.le_of_ble_eq_true rfl⟩ (hs_recv hK hH 20 0 (by decide) 12 rfl rfl) rfl rfl hl.1 (Nat.le_of_ble_eq_true rfl) ⟨by omega, by omega⟩ dL_law_2753) hS (fun H locs hH hS => ?_)
  refine lv_iload hx hb dL_law_2756 (lv_at hl 1 rfl) ?_
  refine lv_icmp_eq (tgt := 2763) hx hb dL_law_2758 (by decide) (fun hc1271 => ?_) (fun hc1271 => ?_)
  · have hf := if_t hf hc1271
    refine lv_iload hx hb dL_law_2763 (lv_at hl 1 rfl) ?_
    refine lv_if_ne (tgt := 2801) hx hb dL_law_2765 (by decide) (fun hc1270 => ?_) (fun hc1270 => ?_)
    · have hf := if_f hf hc1270
      refine lv_goto (tgt := 3289) hx hb dL_law_2801 (by decide) ?_
      refine W.widen (k := C + 14) (n := S + 1696) (by omega) (by omega) ?_
      exact w_L_law_3289 C0 hl9 xs L hX hbl C S hC9 hS9 k28 hk28 M1262 a5 hf _ _ _ hH hS (lv_sub hl [2, 3, 4, 5, 6, 7] rfl)
    · have hf := if_t hf hc1270
      refine lv_aload hx hb dL_law_2768 (lv_at hl 6 rfl) ?_
      refine lv_iconst (v := (0 : Int32)) hx hb dL_law_2770 (by decide) ?_
      refine hl_daload hx hb hK hH dL_law_2771 ?_
      refine lv_fload hx hb dL_law_2772 (lv_at hl 0 rfl) ?_
      obtain ⟨hg1266, hf⟩ := gd_o hf
      refine lv_f2d hx hb dL_law_2774 hg1266 ?_
      refine lv_dcmp hx hb dL_law_2775 ?_
      refine lv_if_eq (tgt := 2801) hx hb dL_law_2776 (by decide) (fun hc1269 => ?_) (fun hc1269 => ?_)
      · have hf := if_t hf hc1269
        refine lv_goto (tgt := 3289) hx hb dL_law_2801 (by decide) ?_
        refine W.widen (k := C + 14) (n := S + 1696) (by omega) (by omega) ?_
        exact w_L_law_3289 C0 hl9 xs L hX hbl C S hC9 hS9 k28 hk28 M1262 a5 hf _ _ _ hH hS (lv_sub hl [2, 3, 4, 5, 6, 7] rfl)
      · have hf := if_f hf hc1269
        refine lv_aload hx hb dL_law_2779 (lv_at hl 6 rfl) ?_
        refine lv_iconst (v := (0 : Int32)) hx hb dL_law_2781 (by decide) ?_
        refine hl_daload hx hb hK hH dL_law_2782 ?_
        refine lv_aload hx hb dL_law_2783 (lv_at hl 6 rfl) ?_
        refine lv_iconst (v := (0 : Int32)) hx hb dL_law_2785 (by decide) ?_
        refine hl_daload hx hb hK hH dL_law_2786 ?_
        refine lv_dcmp hx hb dL_law_2787 ?_
        refine lv_if_eq (tgt := 2799) hx hb dL_law_2788 (by decide) (fun hc1268 => ?_) (fun hc1268 => ?_)
        · have hf := if_t hf hc1268
          refine lv_iconst (v := (0 : Int32)) hx hb dL_law_2799 (by decide) ?_
          cases hf
        · have hf := if_f hf hc1268
          refine lv_fload hx hb dL_law_2791 (lv_at hl 0 rfl) ?_
          refine lv_fload hx hb dL_law_2793 (lv_at hl 0 rfl) ?_
          refine lv_fcmp hx hb dL_law_2795 ?_
          refine lv_if_ne (tgt := 2801) hx hb dL_law_2796 (by decide) (fun hc1267 => ?_) (fun hc1267 => ?_)
          · have hf := if_f hf hc1267
            refine lv_goto (tgt := 3289) hx hb dL_law_2801 (by decide) ?_
            refine W.widen (k := C + 14) (n := S + 1696) (by omega) (by omega) ?_
            exact w_L_law_3289 C0 hl9 xs L hX hbl C S hC9 hS9 k28 hk28 M1262 a5 hf _ _ _ hH hS (lv_sub hl [2, 3, 4, 5, 6, 7] rfl)
          · have hf := if_t hf hc1267
            refine lv_iconst (v := (0 : Int32)) hx hb dL_law_2799 (by decide) ?_
            cases hf
  · have hf := if_f hf hc1271
    refine lv_iconst (v := (0 : Int32)) hx hb dL_law_2761 (by decide) ?_
    cases hf
def f_L_law_2804 (xs : Nat → Int32) (L : Nat) (k28 : Mem → Int32 → Option Unit) (M : Mem) (a5 : Int32) : Option Unit := bd2 (f_X7_isConsistent M) fun r1274 M1273 => bd2 (f_X8_isConsistent M1273) fun r1277 M1276 => (if r1274 = r1277 then f_L_law_3289 xs L k28 M1276 a5 else none)
set_option maxHeartbeats 8000000 in
set_option maxRecDepth 100000 in
theorem w_L_law_2804 {Y : LY} {p : Program} {l : Launch} {e : Env} {s : State} {m : MethodId} {b : Nat} {below : List Frame} {meth : Method} {c : Code} (C0 : BE Y p s m #[Value.ref b] meth c cL_law 9 ret RL) (hl9 : l.stackTraces = false) (xs : Nat → Int32) (L : Nat) (hX : va_X b L xs s s.heap) (hbl : b < YZ Y) (C S : Nat) (hC9 : C + 60 ≤ 603072) (hS9 : S + 8000 ≤ 7182442) (k28 : Mem → Int32 → Option Unit) (hk28 : ∀ (M : Mem) (a5 : Int32), k28 M a5 = some () → ∀ (H : Heap) (locs : List Loc) (ls : Array Slot), HS Y M H → va_S (AZ Y) s.heap H locs → lv_has ls 9 [(0, .ref b), (1, .ref (YA Y 0 0)), (2, .ref (YA Y 20 0)), (3, .ref (YA Y 33 0)), (4, .ref (YA Y 36 0)), (5, .int a5)] → W p l e room_1 s m #[Value.ref b] below meth c H locs (C + 60) (S + 8000) (lw_Z below #[Value.ref b] s) (F0 m 28 ls [])) : ∀ (M : Mem) (a5 : Int32), f_L_law_2804 xs L k28 M a5 = some () → ∀ (H : Heap) (locs : List Loc) (ls : Array Slot), HS Y M H → va_S (AZ Y) s.heap H locs → lv_has ls 9 [(0, .ref b), (1, .ref (YA Y 0 0)), (2, .ref (YA Y 20 0)), (3, .ref (YA Y 33 0)), (4, .ref (YA Y 36 0)), (5, .int a5)] → W p l e room_1 s m #[Value.ref b] below meth c H locs (C + 0) (S + 0) (lw_Z below #[Value.ref b] s) (F0 m 2804 ls []) := by
  obtain ⟨hx, hb, hr, hml, hown, hA, hlocks, hK, hZ⟩ := id C0
  have hR1 : room_1.cells = 603072 := rfl
  have hR2 : room_1.slots = 7182442 := rfl
  intro M a5 hf H locs ls hH hS hl
  unfold f_L_law_2804 at hf
  refine lv_aload_n hx hb dL_law_2804 rfl (lv_at hl 1 rfl) ?_
  obtain ⟨r1274, M1273, hq1272, hf⟩ := bd2_o hf
  refine hs_ci (hs_runV C0 hH hS (n := 0) (As := []) (rest := []) (c_X7_isConsistent M hq1272) ⟨⟨zt_656, zt_657, zt_658, zt_1, zt_659⟩, rfl, by decide, by decide, by decide +kernel⟩ ⟨rfl, rfl, Nat.le_of_ble_eq_true rfl, Nat.le_of_ble_eq_true rfl⟩ (hs_recv hK hH 0 0 (by decide) 11 rfl rfl) rfl rfl hl.1 (Nat.le_of_ble_eq_true rfl) ⟨by omega, by omega⟩ dL_law_2805) hS (fun H locs hH hS => ?_)
  refine lv_aload_n hx hb dL_law_2808 rfl (lv_at hl 2 rfl) ?_
  obtain ⟨r1277, M1276, hq1275, hf⟩ := bd2_o hf
  refine hs_ci (hs_runV C0 hH hS (n := 0) (As := []) (rest := [.int r1274]) (c_X8_isConsistent M1273 hq1275) ⟨⟨zt_1964, zt_1965, zt_1966, zt_13, zt_1967⟩, rfl, by decide, by decide, by decide +kernel⟩ ⟨rfl, rfl, Nat.le_of_ble_eq_true rfl, Nat.le_of_ble_eq_true rfl⟩ (hs_recv hK hH 20 0 (by decide) 12 rfl rfl) rfl rfl hl.1 (Nat.le_of_ble_eq_true rfl) ⟨by omega, by omega⟩ dL_law_2809) hS (fun H locs hH hS => ?_)
  refine lv_icmp_eq (tgt := 3289) hx hb dL_law_2812 (by decide) (fun hc1278 => ?_) (fun hc1278 => ?_)
  · have hf := if_t hf hc1278
    refine W.widen (k := C + 14) (n := S + 1696) (by omega) (by omega) ?_
    exact w_L_law_3289 C0 hl9 xs L hX hbl C S hC9 hS9 k28 hk28 M1276 a5 hf _ _ _ hH hS (lv_sub hl [0, 1, 2, 3, 4, 5] rfl)
  · have hf := if_f hf hc1278
    refine lv_iconst (v := (0 : Int32)) hx hb dL_law_2815 (by decide) ?_
    cases hf
def f_L_law_2817 (xs : Nat → Int32) (L : Nat) (k28 : Mem → Int32 → Option Unit) (M : Mem) (a5 : Int32) : Option Unit := if vin (a5 + (1 : Int32)) L then (bd2 (f_L_formatParcel M (xs (ix (a5 + (1 : Int32))))) fun r1282 M1281 => bd2 (f_X8_formatParcel M1281 (xs (ix (a5 + (1 : Int32))))) fun r1285 M1284 => bd (f_X8_thrown M1284) fun r1287 => (if r1287 = r1282 then (if r1282 = 0 then (if (lg_cmp ((M1284 33 0 0).toInt64) r1285.toInt64) = 0 then f_L_law_3289 xs L k28 M1284 a5 else none) else f_L_law_3289 xs L k28 M1284 a5) else none)) else none
set_option maxHeartbeats 8000000 in
set_option maxRecDepth 100000 in
theorem w_L_law_2817 {Y : LY} {p : Program} {l : Launch} {e : Env} {s : State} {m : MethodId} {b : Nat} {below : List Frame} {meth : Method} {c : Code} (C0 : BE Y p s m #[Value.ref b] meth c cL_law 9 ret RL) (hl9 : l.stackTraces = false) (xs : Nat → Int32) (L : Nat) (hX : va_X b L xs s s.heap) (hbl : b < YZ Y) (C S : Nat) (hC9 : C + 60 ≤ 603072) (hS9 : S + 8000 ≤ 7182442) (k28 : Mem → Int32 → Option Unit) (hk28 : ∀ (M : Mem) (a5 : Int32), k28 M a5 = some () → ∀ (H : Heap) (locs : List Loc) (ls : Array Slot), HS Y M H → va_S (AZ Y) s.heap H locs → lv_has ls 9 [(0, .ref b), (1, .ref (YA Y 0 0)), (2, .ref (YA Y 20 0)), (3, .ref (YA Y 33 0)), (4, .ref (YA Y 36 0)), (5, .int a5)] → W p l e room_1 s m #[Value.ref b] below meth c H locs (C + 60) (S + 8000) (lw_Z below #[Value.ref b] s) (F0 m 28 ls [])) : ∀ (M : Mem) (a5 : Int32), f_L_law_2817 xs L k28 M a5 = some () → ∀ (H : Heap) (locs : List Loc) (ls : Array Slot), HS Y M H → va_S (AZ Y) s.heap H locs → lv_has ls 9 [(0, .ref b), (1, .ref (YA Y 0 0)), (2, .ref (YA Y 20 0)), (3, .ref (YA Y 33 0)), (4, .ref (YA Y 36 0)), (5, .int a5)] → W p l e room_1 s m #[Value.ref b] below meth c H locs (C + 0) (S + 0) (lw_Z below #[Value.ref b] s) (F0 m 2817 ls []) := by
  obtain ⟨hx, hb, hr, hml, hown, hA, hlocks, hK, hZ⟩ := id C0
  have hR1 : room_1.cells = 603072 := rfl
  have hR2 : room_1.slots = 7182442 := rfl
  intro M a5 hf H locs ls hH hS hl
  unfold f_L_law_2817 at hf
  refine lv_aload_n hx hb dL_law_2817 rfl (lv_at hl 1 rfl) ?_
  refine lv_aload_n hx hb dL_law_2818 rfl (lv_at hl 0 rfl) ?_
  refine lv_iload hx hb dL_law_2819 (lv_at hl 5 rfl) ?_
  refine lv_iconst (v := (1 : Int32)) hx hb dL_law_2821 (by decide) ?_
  refine lv_iadd hx hb dL_law_2822 ?_
  obtain ⟨hg1279, hf⟩ := gd_o hf
  refine hl_sld hx hb hX (Nat.lt_of_lt_of_le hbl hZ) (Nat.not_le.mpr hbl) hS hg1279 dL_law_2823 ?_
  refine lv_aload_n hx hb dL_law_2824 rfl (lv_at hl 3 rfl) ?_
  obtain ⟨r1282, M1281, hq1280, hf⟩ := bd2_o hf
  refine hs_ci (hs_runSX C0 hH hS (n := 3) (As := [.ref (YA Y 0 0), .int (xs (ix (a5 + (1 : Int32)))), .ref (YA Y 33 0)]) (rest := []) (c_L_formatParcel hl9 M (xs (ix (a5 + (1 : Int32)))) hq1280) ⟨⟨zt_1097, zt_1098, zt_0, zt_1099⟩, by decide, by decide, by decide +kernel⟩ ⟨rfl, rfl, Nat.le_of_ble_eq_true rfl, Nat.le_of_ble_eq_true rfl⟩ rfl rfl hl.1 (Nat.le_of_ble_eq_true rfl) ⟨by omega, by omega⟩ dL_law_2825) hS (fun H locs hH hS => ?_)
  refine lv_istore (lv' := [(6, .int r1282), (0, .ref b), (1, .ref (YA Y 0 0)), (2, .ref (YA Y 20 0)), (3, .ref (YA Y 33 0)), (4, .ref (YA Y 36 0)), (5, .int a5)]) hx hb dL_law_2828 hl (by decide) rfl (fun ls hl => ?_)
  refine lv_aload_n hx hb dL_law_2830 rfl (lv_at hl 3 rfl) ?_
  refine lv_aload_n hx hb dL_law_2831 rfl (lv_at hl 1 rfl) ?_
  refine lv_iload hx hb dL_law_2832 (lv_at hl 6 rfl) ?_
  refine lv_iconst (v := (1 : Int32)) hx hb dL_law_2834 (by decide) ?_
  refine lv_iadd hx hb dL_law_2835 ?_
  refine hl_sld hx hb hX (Nat.lt_of_lt_of_le hbl hZ) (Nat.not_le.mpr hbl) hS hg1279 dL_law_2836 ?_
  obtain ⟨r1285, M1284, hq1283, hf⟩ := bd2_o hf
  refine hs_ci (hs_runV C0 hH hS (n := 1) (As := [.int (xs (ix (a5 + (1 : Int32))))]) (rest := []) (c_X8_formatParcel M1281 (xs (ix (a5 + (1 : Int32)))) hq1283) ⟨⟨zt_1968, zt_1969, zt_1970, zt_13, zt_1971⟩, rfl, by decide, by decide, by decide +kernel⟩ ⟨rfl, rfl, Nat.le_of_ble_eq_true rfl, Nat.le_of_ble_eq_true rfl⟩ (hs_recv hK hH 20 0 (by decide) 12 rfl rfl) rfl rfl hl.1 (Nat.le_of_ble_eq_true rfl) ⟨by omega, by omega⟩ dL_law_2837) hS (fun H locs hH hS => ?_)
  refine lv_istore (lv' := [(7, .int r1285), (6, .int r1282), (0, .ref b), (1, .ref (YA Y 0 0)), (2, .ref (YA Y 20 0)), (3, .ref (YA Y 33 0)), (4, .ref (YA Y 36 0)), (5, .int a5)]) hx hb dL_law_2840 hl (by decide) rfl (fun ls hl => ?_)
  refine lv_aload_n hx hb dL_law_2842 rfl (lv_at hl 4 rfl) ?_
  obtain ⟨r1287, hq1286, hf⟩ := bd_o hf
  refine hs_ci (hs_runV C0 hH hS (n := 0) (As := []) (rest := []) (c_X8_thrown M1284 hq1286) ⟨⟨zt_1621, zt_1622, zt_1623, zt_13, zt_1624⟩, rfl, by decide, by decide, by decide +kernel⟩ ⟨rfl, rfl, Nat.le_of_ble_eq_true rfl, Nat.le_of_ble_eq_true rfl⟩ (hs_recv hK hH 20 0 (by decide) 12 rfl rfl) rfl rfl hl.1 (Nat.le_of_ble_eq_true rfl) ⟨by omega, by omega⟩ dL_law_2843) hS (fun H locs hH hS => ?_)
  refine lv_iload hx hb dL_law_2846 (lv_at hl 1 rfl) ?_
  refine lv_icmp_eq (tgt := 2853) hx hb dL_law_2848 (by decide) (fun hc1290 => ?_) (fun hc1290 => ?_)
  · have hf := if_t hf hc1290
    refine lv_iload hx hb dL_law_2853 (lv_at hl 1 rfl) ?_
    refine lv_if_ne (tgt := 2870) hx hb dL_law_2855 (by decide) (fun hc1289 => ?_) (fun hc1289 => ?_)
    · have hf := if_f hf hc1289
      refine lv_goto (tgt := 3289) hx hb dL_law_2870 (by decide) ?_
      refine W.widen (k := C + 14) (n := S + 1696) (by omega) (by omega) ?_
      exact w_L_law_3289 C0 hl9 xs L hX hbl C S hC9 hS9 k28 hk28 M1284 a5 hf _ _ _ hH hS (lv_sub hl [2, 3, 4, 5, 6, 7] rfl)
    · have hf := if_t hf hc1289
      refine lv_aload_n hx hb dL_law_2858 rfl (lv_at hl 5 rfl) ?_
      refine lv_iconst (v := (0 : Int32)) hx hb dL_law_2859 (by decide) ?_
      refine hl_laload hx hb hK hH dL_law_2860 ?_
      refine lv_iload hx hb dL_law_2861 (lv_at hl 0 rfl) ?_
      refine lv_i2l (v := r1285.toInt64) hx hb dL_law_2863 rfl ?_
      refine W.lcmp hx hb dL_law_2864 ?_
      refine lv_if_eq (tgt := 2870) hx hb dL_law_2865 (by decide) (fun hc1288 => ?_) (fun hc1288 => ?_)
      · have hf := if_t hf hc1288
        refine lv_goto (tgt := 3289) hx hb dL_law_2870 (by decide) ?_
        refine W.widen (k := C + 14) (n := S + 1696) (by omega) (by omega) ?_
        exact w_L_law_3289 C0 hl9 xs L hX hbl C S hC9 hS9 k28 hk28 M1284 a5 hf _ _ _ hH hS (lv_sub hl [2, 3, 4, 5, 6, 7] rfl)
      · have hf := if_f hf hc1288
        refine lv_iconst (v := (0 : Int32)) hx hb dL_law_2868 (by decide) ?_
        cases hf
  · have hf := if_f hf hc1290
    refine lv_iconst (v := (0 : Int32)) hx hb dL_law_2851 (by decide) ?_
    cases hf
def f_L_law_2873 (xs : Nat → Int32) (L : Nat) (k28 : Mem → Int32 → Option Unit) (M : Mem) (a5 : Int32) : Option Unit := if vin (a5 + (1 : Int32)) L then (bd2 (f_L_formatLink M (xs (ix (a5 + (1 : Int32))))) fun r1294 M1293 => bd2 (f_X8_formatLink M1293 (xs (ix (a5 + (1 : Int32))))) fun r1297 M1296 => bd (f_X8_thrown M1296) fun r1299 => (if r1299 = r1294 then (if r1294 = 0 then (if (lg_cmp ((M1296 33 0 0).toInt64) r1297.toInt64) = 0 then f_L_law_3289 xs L k28 M1296 a5 else none) else f_L_law_3289 xs L k28 M1296 a5) else none)) else none
set_option maxHeartbeats 8000000 in
set_option maxRecDepth 100000 in
theorem w_L_law_2873 {Y : LY} {p : Program} {l : Launch} {e : Env} {s : State} {m : MethodId} {b : Nat} {below : List Frame} {meth : Method} {c : Code} (C0 : BE Y p s m #[Value.ref b] meth c cL_law 9 ret RL) (hl9 : l.stackTraces = false) (xs : Nat → Int32) (L : Nat) (hX : va_X b L xs s s.heap) (hbl : b < YZ Y) (C S : Nat) (hC9 : C + 60 ≤ 603072) (hS9 : S + 8000 ≤ 7182442) (k28 : Mem → Int32 → Option Unit) (hk28 : ∀ (M : Mem) (a5 : Int32), k28 M a5 = some () → ∀ (H : Heap) (locs : List Loc) (ls : Array Slot), HS Y M H → va_S (AZ Y) s.heap H locs → lv_has ls 9 [(0, .ref b), (1, .ref (YA Y 0 0)), (2, .ref (YA Y 20 0)), (3, .ref (YA Y 33 0)), (4, .ref (YA Y 36 0)), (5, .int a5)] → W p l e room_1 s m #[Value.ref b] below meth c H locs (C + 60) (S + 8000) (lw_Z below #[Value.ref b] s) (F0 m 28 ls [])) : ∀ (M : Mem) (a5 : Int32), f_L_law_2873 xs L k28 M a5 = some () → ∀ (H : Heap) (locs : List Loc) (ls : Array Slot), HS Y M H → va_S (AZ Y) s.heap H locs → lv_has ls 9 [(0, .ref b), (1, .ref (YA Y 0 0)), (2, .ref (YA Y 20 0)), (3, .ref (YA Y 33 0)), (4, .ref (YA Y 36 0)), (5, .int a5)] → W p l e room_1 s m #[Value.ref b] below meth c H locs (C + 0) (S + 0) (lw_Z below #[Value.ref b] s) (F0 m 2873 ls []) := by
  obtain ⟨hx, hb, hr, hml, hown, hA, hlocks, hK, hZ⟩ := id C0
  have hR1 : room_1.cells = 603072 := rfl
  have hR2 : room_1.slots = 7182442 := rfl
  intro M a5 hf H locs ls hH hS hl
  unfold f_L_law_2873 at hf
  refine lv_aload_n hx hb dL_law_2873 rfl (lv_at hl 1 rfl) ?_
  refine lv_aload_n hx hb dL_law_2874 rfl (lv_at hl 0 rfl) ?_
  refine lv_iload hx hb dL_law_2875 (lv_at hl 5 rfl) ?_
  refine lv_iconst (v := (1 : Int32)) hx hb dL_law_2877 (by decide) ?_
  refine lv_iadd hx hb dL_law_2878 ?_
  obtain ⟨hg1291, hf⟩ := gd_o hf
  refine hl_sld hx hb hX (Nat.lt_of_lt_of_le hbl hZ) (Nat.not_le.mpr hbl) hS hg1291 dL_law_2879 ?_
  refine lv_aload_n hx hb dL_law_2880 rfl (lv_at hl 3 rfl) ?_
  obtain ⟨r1294, M1293, hq1292, hf⟩ := bd2_o hf
  refine hs_ci (hs_runSX C0 hH hS (n := 3) (As := [.ref (YA Y 0 0), .int (xs (ix (a5 + (1 : Int32)))), .ref (YA Y 33 0)]) (rest := []) (c_L_formatLink hl9 M (xs (ix (a5 + (1 : Int32)))) hq1292) ⟨⟨zt_1390, zt_1391, zt_0, zt_1392⟩, by decide, by decide, by decide +kernel⟩ ⟨rfl, rfl, Nat.le_of_ble_eq_true rfl, Nat.le_of_ble_eq_true rfl⟩ rfl rfl hl.1 (Nat.le_of_ble_eq_true rfl) ⟨by omega, by omega⟩ dL_law_2881) hS (fun H locs hH hS => ?_)
  refine lv_istore (lv' := [(6, .int r1294), (0, .ref b), (1, .ref (YA Y 0 0)), (2, .ref (YA Y 20 0)), (3, .ref (YA Y 33 0)), (4, .ref (YA Y 36 0)), (5, .int a5)]) hx hb dL_law_2884 hl (by decide) rfl (fun ls hl => ?_)
  refine lv_aload_n hx hb dL_law_2886 rfl (lv_at hl 3 rfl) ?_
  refine lv_aload_n hx hb dL_law_2887 rfl (lv_at hl 1 rfl) ?_
  refine lv_iload hx hb dL_law_2888 (lv_at hl 6 rfl) ?_
  refine lv_iconst (v := (1 : Int32)) hx hb dL_law_2890 (by decide) ?_
  refine lv_iadd hx hb dL_law_2891 ?_
  refine hl_sld hx hb hX (Nat.lt_of_lt_of_le hbl hZ) (Nat.not_le.mpr hbl) hS hg1291 dL_law_2892 ?_
  obtain ⟨r1297, M1296, hq1295, hf⟩ := bd2_o hf
  refine hs_ci (hs_runV C0 hH hS (n := 1) (As := [.int (xs (ix (a5 + (1 : Int32))))]) (rest := []) (c_X8_formatLink M1293 (xs (ix (a5 + (1 : Int32)))) hq1295) ⟨⟨zt_1980, zt_1981, zt_1982, zt_13, zt_1983⟩, rfl, by decide, by decide, by decide +kernel⟩ ⟨rfl, rfl, Nat.le_of_ble_eq_true rfl, Nat.le_of_ble_eq_true rfl⟩ (hs_recv hK hH 20 0 (by decide) 12 rfl rfl) rfl rfl hl.1 (Nat.le_of_ble_eq_true rfl) ⟨by omega, by omega⟩ dL_law_2893) hS (fun H locs hH hS => ?_)
  refine lv_istore (lv' := [(7, .int r1297), (6, .int r1294), (0, .ref b), (1, .ref (YA Y 0 0)), (2, .ref (YA Y 20 0)), (3, .ref (YA Y 33 0)), (4, .ref (YA Y 36 0)), (5, .int a5)]) hx hb dL_law_2896 hl (by decide) rfl (fun ls hl => ?_)
  refine lv_aload_n hx hb dL_law_2898 rfl (lv_at hl 4 rfl) ?_
  obtain ⟨r1299, hq1298, hf⟩ := bd_o hf
  refine hs_ci (hs_runV C0 hH hS (n := 0) (As := []) (rest := []) (c_X8_thrown M1296 hq1298) ⟨⟨zt_1621, zt_1622, zt_1623, zt_13, zt_1624⟩, rfl, by decide, by decide, by decide +kernel⟩ ⟨rfl, rfl, Nat.le_of_ble_eq_true rfl, Nat.le_of_ble_eq_true rfl⟩ (hs_recv hK hH 20 0 (by decide) 12 rfl rfl) rfl rfl hl.1 (Nat.le_of_ble_eq_true rfl) ⟨by omega, by omega⟩ dL_law_2899) hS (fun H locs hH hS => ?_)
  refine lv_iload hx hb dL_law_2902 (lv_at hl 1 rfl) ?_
  refine lv_icmp_eq (tgt := 2909) hx hb dL_law_2904 (by decide) (fun hc1302 => ?_) (fun hc1302 => ?_)
  · have hf := if_t hf hc1302
    refine lv_iload hx hb dL_law_2909 (lv_at hl 1 rfl) ?_
    refine lv_if_ne (tgt := 2926) hx hb dL_law_2911 (by decide) (fun hc1301 => ?_) (fun hc1301 => ?_)
    · have hf := if_f hf hc1301
      refine lv_goto (tgt := 3289) hx hb dL_law_2926 (by decide) ?_
      refine W.widen (k := C + 14) (n := S + 1696) (by omega) (by omega) ?_
      exact w_L_law_3289 C0 hl9 xs L hX hbl C S hC9 hS9 k28 hk28 M1296 a5 hf _ _ _ hH hS (lv_sub hl [2, 3, 4, 5, 6, 7] rfl)
    · have hf := if_t hf hc1301
      refine lv_aload_n hx hb dL_law_2914 rfl (lv_at hl 5 rfl) ?_
      refine lv_iconst (v := (0 : Int32)) hx hb dL_law_2915 (by decide) ?_
      refine hl_laload hx hb hK hH dL_law_2916 ?_
      refine lv_iload hx hb dL_law_2917 (lv_at hl 0 rfl) ?_
      refine lv_i2l (v := r1297.toInt64) hx hb dL_law_2919 rfl ?_
      refine W.lcmp hx hb dL_law_2920 ?_
      refine lv_if_eq (tgt := 2926) hx hb dL_law_2921 (by decide) (fun hc1300 => ?_) (fun hc1300 => ?_)
      · have hf := if_t hf hc1300
        refine lv_goto (tgt := 3289) hx hb dL_law_2926 (by decide) ?_
        refine W.widen (k := C + 14) (n := S + 1696) (by omega) (by omega) ?_
        exact w_L_law_3289 C0 hl9 xs L hX hbl C S hC9 hS9 k28 hk28 M1296 a5 hf _ _ _ hH hS (lv_sub hl [2, 3, 4, 5, 6, 7] rfl)
      · have hf := if_f hf hc1300
        refine lv_iconst (v := (0 : Int32)) hx hb dL_law_2924 (by decide) ?_
        cases hf
  · have hf := if_f hf hc1302
    refine lv_iconst (v := (0 : Int32)) hx hb dL_law_2907 (by decide) ?_
    cases hf
def f_L_law_2929 (xs : Nat → Int32) (L : Nat) (k28 : Mem → Int32 → Option Unit) (M : Mem) (a5 : Int32) : Option Unit := if vin (a5 + (1 : Int32)) L then (bd2 (f_L_lineChar M (xs (ix (a5 + (1 : Int32))))) fun r1306 M1305 => bd2 (f_X8_lineChar M1305 (xs (ix (a5 + (1 : Int32))))) fun r1309 M1308 => bd (f_X8_thrown M1308) fun r1311 => (if r1311 = r1306 then (if r1306 = 0 then (if (lg_cmp ((M1308 33 0 0).toInt64) r1309.toInt64) = 0 then f_L_law_3289 xs L k28 M1308 a5 else none) else f_L_law_3289 xs L k28 M1308 a5) else none)) else none
set_option maxHeartbeats 8000000 in
set_option maxRecDepth 100000 in
theorem w_L_law_2929 {Y : LY} {p : Program} {l : Launch} {e : Env} {s : State} {m : MethodId} {b : Nat} {below : List Frame} {meth : Method} {c : Code} (C0 : BE Y p s m #[Value.ref b] meth c cL_law 9 ret RL) (hl9 : l.stackTraces = false) (xs : Nat → Int32) (L : Nat) (hX : va_X b L xs s s.heap) (hbl : b < YZ Y) (C S : Nat) (hC9 : C + 60 ≤ 603072) (hS9 : S + 8000 ≤ 7182442) (k28 : Mem → Int32 → Option Unit) (hk28 : ∀ (M : Mem) (a5 : Int32), k28 M a5 = some () → ∀ (H : Heap) (locs : List Loc) (ls : Array Slot), HS Y M H → va_S (AZ Y) s.heap H locs → lv_has ls 9 [(0, .ref b), (1, .ref (YA Y 0 0)), (2, .ref (YA Y 20 0)), (3, .ref (YA Y 33 0)), (4, .ref (YA Y 36 0)), (5, .int a5)] → W p l e room_1 s m #[Value.ref b] below meth c H locs (C + 60) (S + 8000) (lw_Z below #[Value.ref b] s) (F0 m 28 ls [])) : ∀ (M : Mem) (a5 : Int32), f_L_law_2929 xs L k28 M a5 = some () → ∀ (H : Heap) (locs : List Loc) (ls : Array Slot), HS Y M H → va_S (AZ Y) s.heap H locs → lv_has ls 9 [(0, .ref b), (1, .ref (YA Y 0 0)), (2, .ref (YA Y 20 0)), (3, .ref (YA Y 33 0)), (4, .ref (YA Y 36 0)), (5, .int a5)] → W p l e room_1 s m #[Value.ref b] below meth c H locs (C + 0) (S + 0) (lw_Z below #[Value.ref b] s) (F0 m 2929 ls []) := by
  obtain ⟨hx, hb, hr, hml, hown, hA, hlocks, hK, hZ⟩ := id C0
  have hR1 : room_1.cells = 603072 := rfl
  have hR2 : room_1.slots = 7182442 := rfl
  intro M a5 hf H locs ls hH hS hl
  unfold f_L_law_2929 at hf
  refine lv_aload_n hx hb dL_law_2929 rfl (lv_at hl 1 rfl) ?_
  refine lv_aload_n hx hb dL_law_2930 rfl (lv_at hl 0 rfl) ?_
  refine lv_iload hx hb dL_law_2931 (lv_at hl 5 rfl) ?_
  refine lv_iconst (v := (1 : Int32)) hx hb dL_law_2933 (by decide) ?_
  refine lv_iadd hx hb dL_law_2934 ?_
  obtain ⟨hg1303, hf⟩ := gd_o hf
  refine hl_sld hx hb hX (Nat.lt_of_lt_of_le hbl hZ) (Nat.not_le.mpr hbl) hS hg1303 dL_law_2935 ?_
  refine lv_aload_n hx hb dL_law_2936 rfl (lv_at hl 3 rfl) ?_
  obtain ⟨r1306, M1305, hq1304, hf⟩ := bd2_o hf
  refine hs_ci (hs_runSX C0 hH hS (n := 3) (As := [.ref (YA Y 0 0), .int (xs (ix (a5 + (1 : Int32)))), .ref (YA Y 33 0)]) (rest := []) (c_L_lineChar hl9 M (xs (ix (a5 + (1 : Int32)))) hq1304) ⟨⟨zt_1409, zt_1410, zt_0, zt_1411⟩, by decide, by decide, by decide +kernel⟩ ⟨rfl, rfl, Nat.le_of_ble_eq_true rfl, Nat.le_of_ble_eq_true rfl⟩ rfl rfl hl.1 (Nat.le_of_ble_eq_true rfl) ⟨by omega, by omega⟩ dL_law_2937) hS (fun H locs hH hS => ?_)
  refine lv_istore (lv' := [(6, .int r1306), (0, .ref b), (1, .ref (YA Y 0 0)), (2, .ref (YA Y 20 0)), (3, .ref (YA Y 33 0)), (4, .ref (YA Y 36 0)), (5, .int a5)]) hx hb dL_law_2940 hl (by decide) rfl (fun ls hl => ?_)
  refine lv_aload_n hx hb dL_law_2942 rfl (lv_at hl 3 rfl) ?_
  refine lv_aload_n hx hb dL_law_2943 rfl (lv_at hl 1 rfl) ?_
  refine lv_iload hx hb dL_law_2944 (lv_at hl 6 rfl) ?_
  refine lv_iconst (v := (1 : Int32)) hx hb dL_law_2946 (by decide) ?_
  refine lv_iadd hx hb dL_law_2947 ?_
  refine hl_sld hx hb hX (Nat.lt_of_lt_of_le hbl hZ) (Nat.not_le.mpr hbl) hS hg1303 dL_law_2948 ?_
  obtain ⟨r1309, M1308, hq1307, hf⟩ := bd2_o hf
  refine hs_ci (hs_runV C0 hH hS (n := 1) (As := [.int (xs (ix (a5 + (1 : Int32))))]) (rest := []) (c_X8_lineChar M1305 (xs (ix (a5 + (1 : Int32)))) hq1307) ⟨⟨zt_1984, zt_1985, zt_1986, zt_13, zt_1987⟩, rfl, by decide, by decide, by decide +kernel⟩ ⟨rfl, rfl, Nat.le_of_ble_eq_true rfl, Nat.le_of_ble_eq_true rfl⟩ (hs_recv hK hH 20 0 (by decide) 12 rfl rfl) rfl rfl hl.1 (Nat.le_of_ble_eq_true rfl) ⟨by omega, by omega⟩ dL_law_2949) hS (fun H locs hH hS => ?_)
  refine lv_istore (lv' := [(7, .int r1309), (6, .int r1306), (0, .ref b), (1, .ref (YA Y 0 0)), (2, .ref (YA Y 20 0)), (3, .ref (YA Y 33 0)), (4, .ref (YA Y 36 0)), (5, .int a5)]) hx hb dL_law_2952 hl (by decide) rfl (fun ls hl => ?_)
  refine lv_aload_n hx hb dL_law_2954 rfl (lv_at hl 4 rfl) ?_
  obtain ⟨r1311, hq1310, hf⟩ := bd_o hf
  refine hs_ci (hs_runV C0 hH hS (n := 0) (As := []) (rest := []) (c_X8_thrown M1308 hq1310) ⟨⟨zt_1621, zt_1622, zt_1623, zt_13, zt_1624⟩, rfl, by decide, by decide, by decide +kernel⟩ ⟨rfl, rfl, Nat.le_of_ble_eq_true rfl, Nat.le_of_ble_eq_true rfl⟩ (hs_recv hK hH 20 0 (by decide) 12 rfl rfl) rfl rfl hl.1 (Nat.le_of_ble_eq_true rfl) ⟨by omega, by omega⟩ dL_law_2955) hS (fun H locs hH hS => ?_)
  refine lv_iload hx hb dL_law_2958 (lv_at hl 1 rfl) ?_
  refine lv_icmp_eq (tgt := 2965) hx hb dL_law_2960 (by decide) (fun hc1314 => ?_) (fun hc1314 => ?_)
  · have hf := if_t hf hc1314
    refine lv_iload hx hb dL_law_2965 (lv_at hl 1 rfl) ?_
    refine lv_if_ne (tgt := 2982) hx hb dL_law_2967 (by decide) (fun hc1313 => ?_) (fun hc1313 => ?_)
    · have hf := if_f hf hc1313
      refine lv_goto (tgt := 3289) hx hb dL_law_2982 (by decide) ?_
      refine W.widen (k := C + 14) (n := S + 1696) (by omega) (by omega) ?_
      exact w_L_law_3289 C0 hl9 xs L hX hbl C S hC9 hS9 k28 hk28 M1308 a5 hf _ _ _ hH hS (lv_sub hl [2, 3, 4, 5, 6, 7] rfl)
    · have hf := if_t hf hc1313
      refine lv_aload_n hx hb dL_law_2970 rfl (lv_at hl 5 rfl) ?_
      refine lv_iconst (v := (0 : Int32)) hx hb dL_law_2971 (by decide) ?_
      refine hl_laload hx hb hK hH dL_law_2972 ?_
      refine lv_iload hx hb dL_law_2973 (lv_at hl 0 rfl) ?_
      refine lv_i2l (v := r1309.toInt64) hx hb dL_law_2975 rfl ?_
      refine W.lcmp hx hb dL_law_2976 ?_
      refine lv_if_eq (tgt := 2982) hx hb dL_law_2977 (by decide) (fun hc1312 => ?_) (fun hc1312 => ?_)
      · have hf := if_t hf hc1312
        refine lv_goto (tgt := 3289) hx hb dL_law_2982 (by decide) ?_
        refine W.widen (k := C + 14) (n := S + 1696) (by omega) (by omega) ?_
        exact w_L_law_3289 C0 hl9 xs L hX hbl C S hC9 hS9 k28 hk28 M1308 a5 hf _ _ _ hH hS (lv_sub hl [2, 3, 4, 5, 6, 7] rfl)
      · have hf := if_f hf hc1312
        refine lv_iconst (v := (0 : Int32)) hx hb dL_law_2980 (by decide) ?_
        cases hf
  · have hf := if_f hf hc1314
    refine lv_iconst (v := (0 : Int32)) hx hb dL_law_2963 (by decide) ?_
    cases hf
def f_L_law_2985 (xs : Nat → Int32) (L : Nat) (k28 : Mem → Int32 → Option Unit) (M : Mem) (a5 : Int32) : Option Unit := if vin (a5 + (1 : Int32)) L then (bd2 (f_L_append M ((((xs (ix (a5 + (1 : Int32))))).toUInt32 % 65536).toInt32)) fun r1318 M1317 => bd2 (f_X8_append M1317 ((((xs (ix (a5 + (1 : Int32))))).toUInt32 % 65536).toInt32)) fun r1321 M1320 => bd (f_X8_thrown M1320) fun r1323 => (if r1323 = r1318 then (if r1318 = 0 then (if (lg_cmp ((M1320 33 0 0).toInt64) r1321.toInt64) = 0 then f_L_law_3289 xs L k28 M1320 a5 else none) else f_L_law_3289 xs L k28 M1320 a5) else none)) else none
set_option maxHeartbeats 8000000 in
set_option maxRecDepth 100000 in
theorem w_L_law_2985 {Y : LY} {p : Program} {l : Launch} {e : Env} {s : State} {m : MethodId} {b : Nat} {below : List Frame} {meth : Method} {c : Code} (C0 : BE Y p s m #[Value.ref b] meth c cL_law 9 ret RL) (hl9 : l.stackTraces = false) (xs : Nat → Int32) (L : Nat) (hX : va_X b L xs s s.heap) (hbl : b < YZ Y) (C S : Nat) (hC9 : C + 60 ≤ 603072) (hS9 : S + 8000 ≤ 7182442) (k28 : Mem → Int32 → Option Unit) (hk28 : ∀ (M : Mem) (a5 : Int32), k28 M a5 = some () → ∀ (H : Heap) (locs : List Loc) (ls : Array Slot), HS Y M H → va_S (AZ Y) s.heap H locs → lv_has ls 9 [(0, .ref b), (1, .ref (YA Y 0 0)), (2, .ref (YA Y 20 0)), (3, .ref (YA Y 33 0)), (4, .ref (YA Y 36 0)), (5, .int a5)] → W p l e room_1 s m #[Value.ref b] below meth c H locs (C + 60) (S + 8000) (lw_Z below #[Value.ref b] s) (F0 m 28 ls [])) : ∀ (M : Mem) (a5 : Int32), f_L_law_2985 xs L k28 M a5 = some () → ∀ (H : Heap) (locs : List Loc) (ls : Array Slot), HS Y M H → va_S (AZ Y) s.heap H locs → lv_has ls 9 [(0, .ref b), (1, .ref (YA Y 0 0)), (2, .ref (YA Y 20 0)), (3, .ref (YA Y 33 0)), (4, .ref (YA Y 36 0)), (5, .int a5)] → W p l e room_1 s m #[Value.ref b] below meth c H locs (C + 0) (S + 0) (lw_Z below #[Value.ref b] s) (F0 m 2985 ls []) := by
  obtain ⟨hx, hb, hr, hml, hown, hA, hlocks, hK, hZ⟩ := id C0
  have hR1 : room_1.cells = 603072 := rfl
  have hR2 : room_1.slots = 7182442 := rfl
  intro M a5 hf H locs ls hH hS hl
  unfold f_L_law_2985 at hf
  refine lv_aload_n hx hb dL_law_2985 rfl (lv_at hl 1 rfl) ?_
  refine lv_aload_n hx hb dL_law_2986 rfl (lv_at hl 0 rfl) ?_
  refine lv_iload hx hb dL_law_2987 (lv_at hl 5 rfl) ?_
  refine lv_iconst (v := (1 : Int32)) hx hb dL_law_2989 (by decide) ?_
  refine lv_iadd hx hb dL_law_2990 ?_
  obtain ⟨hg1315, hf⟩ := gd_o hf
  refine hl_sld hx hb hX (Nat.lt_of_lt_of_le hbl hZ) (Nat.not_le.mpr hbl) hS hg1315 dL_law_2991 ?_
  refine lv_i2c (v := (((xs (ix (a5 + (1 : Int32))))).toUInt32 % 65536).toInt32) hx hb dL_law_2992 rfl ?_
  refine lv_aload_n hx hb dL_law_2993 rfl (lv_at hl 3 rfl) ?_
  obtain ⟨r1318, M1317, hq1316, hf⟩ := bd2_o hf
  refine hs_ci (hs_runSX C0 hH hS (n := 3) (As := [.ref (YA Y 0 0), .int ((((xs (ix (a5 + (1 : Int32))))).toUInt32 % 65536).toInt32), .ref (YA Y 33 0)]) (rest := []) (c_L_append hl9 M ((((xs (ix (a5 + (1 : Int32))))).toUInt32 % 65536).toInt32) hq1316) ⟨⟨zt_1426, zt_1427, zt_0, zt_1428⟩, by decide, by decide, by decide +kernel⟩ ⟨rfl, rfl, Nat.le_of_ble_eq_true rfl, Nat.le_of_ble_eq_true rfl⟩ rfl rfl hl.1 (Nat.le_of_ble_eq_true rfl) ⟨by omega, by omega⟩ dL_law_2994) hS (fun H locs hH hS => ?_)
  refine lv_istore (lv' := [(6, .int r1318), (0, .ref b), (1, .ref (YA Y 0 0)), (2, .ref (YA Y 20 0)), (3, .ref (YA Y 33 0)), (4, .ref (YA Y 36 0)), (5, .int a5)]) hx hb dL_law_2997 hl (by decide) rfl (fun ls hl => ?_)
  refine lv_aload_n hx hb dL_law_2999 rfl (lv_at hl 3 rfl) ?_
  refine lv_aload_n hx hb dL_law_3000 rfl (lv_at hl 1 rfl) ?_
  refine lv_iload hx hb dL_law_3001 (lv_at hl 6 rfl) ?_
  refine lv_iconst (v := (1 : Int32)) hx hb dL_law_3003 (by decide) ?_
  refine lv_iadd hx hb dL_law_3004 ?_
  refine hl_sld hx hb hX (Nat.lt_of_lt_of_le hbl hZ) (Nat.not_le.mpr hbl) hS hg1315 dL_law_3005 ?_
  refine lv_i2c (v := (((xs (ix (a5 + (1 : Int32))))).toUInt32 % 65536).toInt32) hx hb dL_law_3006 rfl ?_
  obtain ⟨r1321, M1320, hq1319, hf⟩ := bd2_o hf
  refine hs_ci (hs_runV C0 hH hS (n := 1) (As := [.int ((((xs (ix (a5 + (1 : Int32))))).toUInt32 % 65536).toInt32)]) (rest := []) (c_X8_append M1317 ((((xs (ix (a5 + (1 : Int32))))).toUInt32 % 65536).toInt32) hq1319) ⟨⟨zt_1988, zt_1989, zt_1990, zt_13, zt_1991⟩, rfl, by decide, by decide, by decide +kernel⟩ ⟨rfl, rfl, Nat.le_of_ble_eq_true rfl, Nat.le_of_ble_eq_true rfl⟩ (hs_recv hK hH 20 0 (by decide) 12 rfl rfl) rfl rfl hl.1 (Nat.le_of_ble_eq_true rfl) ⟨by omega, by omega⟩ dL_law_3007) hS (fun H locs hH hS => ?_)
  refine lv_istore (lv' := [(7, .int r1321), (6, .int r1318), (0, .ref b), (1, .ref (YA Y 0 0)), (2, .ref (YA Y 20 0)), (3, .ref (YA Y 33 0)), (4, .ref (YA Y 36 0)), (5, .int a5)]) hx hb dL_law_3010 hl (by decide) rfl (fun ls hl => ?_)
  refine lv_aload_n hx hb dL_law_3012 rfl (lv_at hl 4 rfl) ?_
  obtain ⟨r1323, hq1322, hf⟩ := bd_o hf
  refine hs_ci (hs_runV C0 hH hS (n := 0) (As := []) (rest := []) (c_X8_thrown M1320 hq1322) ⟨⟨zt_1621, zt_1622, zt_1623, zt_13, zt_1624⟩, rfl, by decide, by decide, by decide +kernel⟩ ⟨rfl, rfl, Nat.le_of_ble_eq_true rfl, Nat.le_of_ble_eq_true rfl⟩ (hs_recv hK hH 20 0 (by decide) 12 rfl rfl) rfl rfl hl.1 (Nat.le_of_ble_eq_true rfl) ⟨by omega, by omega⟩ dL_law_3013) hS (fun H locs hH hS => ?_)
  refine lv_iload hx hb dL_law_3016 (lv_at hl 1 rfl) ?_
  refine lv_icmp_eq (tgt := 3023) hx hb dL_law_3018 (by decide) (fun hc1326 => ?_) (fun hc1326 => ?_)
  · have hf := if_t hf hc1326
    refine lv_iload hx hb dL_law_3023 (lv_at hl 1 rfl) ?_
    refine lv_if_ne (tgt := 3040) hx hb dL_law_3025 (by decide) (fun hc1325 => ?_) (fun hc1325 => ?_)
    · have hf := if_f hf hc1325
      refine lv_goto (tgt := 3289) hx hb dL_law_3040 (by decide) ?_
      refine W.widen (k := C + 14) (n := S + 1696) (by omega) (by omega) ?_
      exact w_L_law_3289 C0 hl9 xs L hX hbl C S hC9 hS9 k28 hk28 M1320 a5 hf _ _ _ hH hS (lv_sub hl [2, 3, 4, 5, 6, 7] rfl)
    · have hf := if_t hf hc1325
      refine lv_aload_n hx hb dL_law_3028 rfl (lv_at hl 5 rfl) ?_
      refine lv_iconst (v := (0 : Int32)) hx hb dL_law_3029 (by decide) ?_
      refine hl_laload hx hb hK hH dL_law_3030 ?_
      refine lv_iload hx hb dL_law_3031 (lv_at hl 0 rfl) ?_
      refine lv_i2l (v := r1321.toInt64) hx hb dL_law_3033 rfl ?_
      refine W.lcmp hx hb dL_law_3034 ?_
      refine lv_if_eq (tgt := 3040) hx hb dL_law_3035 (by decide) (fun hc1324 => ?_) (fun hc1324 => ?_)
      · have hf := if_t hf hc1324
        refine lv_goto (tgt := 3289) hx hb dL_law_3040 (by decide) ?_
        refine W.widen (k := C + 14) (n := S + 1696) (by omega) (by omega) ?_
        exact w_L_law_3289 C0 hl9 xs L hX hbl C S hC9 hS9 k28 hk28 M1320 a5 hf _ _ _ hH hS (lv_sub hl [2, 3, 4, 5, 6, 7] rfl)
      · have hf := if_f hf hc1324
        refine lv_iconst (v := (0 : Int32)) hx hb dL_law_3038 (by decide) ?_
        cases hf
  · have hf := if_f hf hc1326
    refine lv_iconst (v := (0 : Int32)) hx hb dL_law_3021 (by decide) ?_
    cases hf
def f_L_law_3043 (xs : Nat → Int32) (L : Nat) (k28 : Mem → Int32 → Option Unit) (M : Mem) (a5 : Int32) : Option Unit := bd2 (f_L_run M) fun r1329 M1328 => bd2 (f_X8_run M1328) fun r1332 M1331 => bd (f_X8_thrown M1331) fun r1334 => (if r1334 = r1329 then (if r1329 = 0 then (if (lg_cmp ((M1331 33 0 0).toInt64) r1332.toInt64) = 0 then f_L_law_3289 xs L k28 M1331 a5 else none) else f_L_law_3289 xs L k28 M1331 a5) else none)
set_option maxHeartbeats 8000000 in
set_option maxRecDepth 100000 in
theorem w_L_law_3043 {Y : LY} {p : Program} {l : Launch} {e : Env} {s : State} {m : MethodId} {b : Nat} {below : List Frame} {meth : Method} {c : Code} (C0 : BE Y p s m #[Value.ref b] meth c cL_law 9 ret RL) (hl9 : l.stackTraces = false) (xs : Nat → Int32) (L : Nat) (hX : va_X b L xs s s.heap) (hbl : b < YZ Y) (C S : Nat) (hC9 : C + 60 ≤ 603072) (hS9 : S + 8000 ≤ 7182442) (k28 : Mem → Int32 → Option Unit) (hk28 : ∀ (M : Mem) (a5 : Int32), k28 M a5 = some () → ∀ (H : Heap) (locs : List Loc) (ls : Array Slot), HS Y M H → va_S (AZ Y) s.heap H locs → lv_has ls 9 [(0, .ref b), (1, .ref (YA Y 0 0)), (2, .ref (YA Y 20 0)), (3, .ref (YA Y 33 0)), (4, .ref (YA Y 36 0)), (5, .int a5)] → W p l e room_1 s m #[Value.ref b] below meth c H locs (C + 60) (S + 8000) (lw_Z below #[Value.ref b] s) (F0 m 28 ls [])) : ∀ (M : Mem) (a5 : Int32), f_L_law_3043 xs L k28 M a5 = some () → ∀ (H : Heap) (locs : List Loc) (ls : Array Slot), HS Y M H → va_S (AZ Y) s.heap H locs → lv_has ls 9 [(0, .ref b), (1, .ref (YA Y 0 0)), (2, .ref (YA Y 20 0)), (3, .ref (YA Y 33 0)), (4, .ref (YA Y 36 0)), (5, .int a5)] → W p l e room_1 s m #[Value.ref b] below meth c H locs (C + 0) (S + 0) (lw_Z below #[Value.ref b] s) (F0 m 3043 ls []) := by
  obtain ⟨hx, hb, hr, hml, hown, hA, hlocks, hK, hZ⟩ := id C0
  have hR1 : room_1.cells = 603072 := rfl
  have hR2 : room_1.slots = 7182442 := rfl
  intro M a5 hf H locs ls hH hS hl
  unfold f_L_law_3043 at hf
  refine lv_aload_n hx hb dL_law_3043 rfl (lv_at hl 1 rfl) ?_
  refine lv_aload_n hx hb dL_law_3044 rfl (lv_at hl 3 rfl) ?_
  obtain ⟨r1329, M1328, hq1327, hf⟩ := bd2_o hf
  refine hs_ci (hs_runSX C0 hH hS (n := 2) (As := [.ref (YA Y 0 0), .ref (YA Y 33 0)]) (rest := []) (c_L_run hl9 M hq1327) ⟨⟨zt_1439, zt_1440, zt_0, zt_1441⟩, by decide, by decide, by decide +kernel⟩ ⟨rfl, rfl, Nat.le_of_ble_eq_true rfl, Nat.le_of_ble_eq_true rfl⟩ rfl rfl hl.1 (Nat.le_of_ble_eq_true rfl) ⟨by omega, by omega⟩ dL_law_3045) hS (fun H locs hH hS => ?_)
  refine lv_istore (lv' := [(6, .int r1329), (0, .ref b), (1, .ref (YA Y 0 0)), (2, .ref (YA Y 20 0)), (3, .ref (YA Y 33 0)), (4, .ref (YA Y 36 0)), (5, .int a5)]) hx hb dL_law_3048 hl (by decide) rfl (fun ls hl => ?_)
  refine lv_aload_n hx hb dL_law_3050 rfl (lv_at hl 3 rfl) ?_
  obtain ⟨r1332, M1331, hq1330, hf⟩ := bd2_o hf
  refine hs_ci (hs_runV C0 hH hS (n := 0) (As := []) (rest := []) (c_X8_run M1328 hq1330) ⟨⟨zt_1994, zt_1995, zt_1996, zt_13, zt_1997⟩, rfl, by decide, by decide, by decide +kernel⟩ ⟨rfl, rfl, Nat.le_of_ble_eq_true rfl, Nat.le_of_ble_eq_true rfl⟩ (hs_recv hK hH 20 0 (by decide) 12 rfl rfl) rfl rfl hl.1 (Nat.le_of_ble_eq_true rfl) ⟨by omega, by omega⟩ dL_law_3051) hS (fun H locs hH hS => ?_)
  refine lv_istore (lv' := [(7, .int r1332), (6, .int r1329), (0, .ref b), (1, .ref (YA Y 0 0)), (2, .ref (YA Y 20 0)), (3, .ref (YA Y 33 0)), (4, .ref (YA Y 36 0)), (5, .int a5)]) hx hb dL_law_3054 hl (by decide) rfl (fun ls hl => ?_)
  refine lv_aload_n hx hb dL_law_3056 rfl (lv_at hl 4 rfl) ?_
  obtain ⟨r1334, hq1333, hf⟩ := bd_o hf
  refine hs_ci (hs_runV C0 hH hS (n := 0) (As := []) (rest := []) (c_X8_thrown M1331 hq1333) ⟨⟨zt_1621, zt_1622, zt_1623, zt_13, zt_1624⟩, rfl, by decide, by decide, by decide +kernel⟩ ⟨rfl, rfl, Nat.le_of_ble_eq_true rfl, Nat.le_of_ble_eq_true rfl⟩ (hs_recv hK hH 20 0 (by decide) 12 rfl rfl) rfl rfl hl.1 (Nat.le_of_ble_eq_true rfl) ⟨by omega, by omega⟩ dL_law_3057) hS (fun H locs hH hS => ?_)
  refine lv_iload hx hb dL_law_3060 (lv_at hl 1 rfl) ?_
  refine lv_icmp_eq (tgt := 3067) hx hb dL_law_3062 (by decide) (fun hc1337 => ?_) (fun hc1337 => ?_)
  · have hf := if_t hf hc1337
    refine lv_iload hx hb dL_law_3067 (lv_at hl 1 rfl) ?_
    refine lv_if_ne (tgt := 3084) hx hb dL_law_3069 (by decide) (fun hc1336 => ?_) (fun hc1336 => ?_)
    · have hf := if_f hf hc1336
      refine lv_goto (tgt := 3289) hx hb dL_law_3084 (by decide) ?_
      refine W.widen (k := C + 14) (n := S + 1696) (by omega) (by omega) ?_
      exact w_L_law_3289 C0 hl9 xs L hX hbl C S hC9 hS9 k28 hk28 M1331 a5 hf _ _ _ hH hS (lv_sub hl [2, 3, 4, 5, 6, 7] rfl)
    · have hf := if_t hf hc1336
      refine lv_aload_n hx hb dL_law_3072 rfl (lv_at hl 5 rfl) ?_
      refine lv_iconst (v := (0 : Int32)) hx hb dL_law_3073 (by decide) ?_
      refine hl_laload hx hb hK hH dL_law_3074 ?_
      refine lv_iload hx hb dL_law_3075 (lv_at hl 0 rfl) ?_
      refine lv_i2l (v := r1332.toInt64) hx hb dL_law_3077 rfl ?_
      refine W.lcmp hx hb dL_law_3078 ?_
      refine lv_if_eq (tgt := 3084) hx hb dL_law_3079 (by decide) (fun hc1335 => ?_) (fun hc1335 => ?_)
      · have hf := if_t hf hc1335
        refine lv_goto (tgt := 3289) hx hb dL_law_3084 (by decide) ?_
        refine W.widen (k := C + 14) (n := S + 1696) (by omega) (by omega) ?_
        exact w_L_law_3289 C0 hl9 xs L hX hbl C S hC9 hS9 k28 hk28 M1331 a5 hf _ _ _ hH hS (lv_sub hl [2, 3, 4, 5, 6, 7] rfl)
      · have hf := if_f hf hc1335
        refine lv_iconst (v := (0 : Int32)) hx hb dL_law_3082 (by decide) ?_
        cases hf
  · have hf := if_f hf hc1337
    refine lv_iconst (v := (0 : Int32)) hx hb dL_law_3065 (by decide) ?_
    cases hf
def f_L_law_3087 (xs : Nat → Int32) (L : Nat) (k28 : Mem → Int32 → Option Unit) (M : Mem) (a5 : Int32) : Option Unit := bd2 (f_L_errorPosition M) fun r1340 M1339 => bd2 (f_X8_errorPosition M1339) fun r1343 M1342 => bd (f_X8_thrown M1342) fun r1345 => (if r1345 = r1340 then (if r1340 = 0 then (if (lg_cmp ((M1342 33 0 0).toInt64) r1343.toInt64) = 0 then f_L_law_3289 xs L k28 M1342 a5 else none) else f_L_law_3289 xs L k28 M1342 a5) else none)
set_option maxHeartbeats 8000000 in
set_option maxRecDepth 100000 in
theorem w_L_law_3087 {Y : LY} {p : Program} {l : Launch} {e : Env} {s : State} {m : MethodId} {b : Nat} {below : List Frame} {meth : Method} {c : Code} (C0 : BE Y p s m #[Value.ref b] meth c cL_law 9 ret RL) (hl9 : l.stackTraces = false) (xs : Nat → Int32) (L : Nat) (hX : va_X b L xs s s.heap) (hbl : b < YZ Y) (C S : Nat) (hC9 : C + 60 ≤ 603072) (hS9 : S + 8000 ≤ 7182442) (k28 : Mem → Int32 → Option Unit) (hk28 : ∀ (M : Mem) (a5 : Int32), k28 M a5 = some () → ∀ (H : Heap) (locs : List Loc) (ls : Array Slot), HS Y M H → va_S (AZ Y) s.heap H locs → lv_has ls 9 [(0, .ref b), (1, .ref (YA Y 0 0)), (2, .ref (YA Y 20 0)), (3, .ref (YA Y 33 0)), (4, .ref (YA Y 36 0)), (5, .int a5)] → W p l e room_1 s m #[Value.ref b] below meth c H locs (C + 60) (S + 8000) (lw_Z below #[Value.ref b] s) (F0 m 28 ls [])) : ∀ (M : Mem) (a5 : Int32), f_L_law_3087 xs L k28 M a5 = some () → ∀ (H : Heap) (locs : List Loc) (ls : Array Slot), HS Y M H → va_S (AZ Y) s.heap H locs → lv_has ls 9 [(0, .ref b), (1, .ref (YA Y 0 0)), (2, .ref (YA Y 20 0)), (3, .ref (YA Y 33 0)), (4, .ref (YA Y 36 0)), (5, .int a5)] → W p l e room_1 s m #[Value.ref b] below meth c H locs (C + 0) (S + 0) (lw_Z below #[Value.ref b] s) (F0 m 3087 ls []) := by
  obtain ⟨hx, hb, hr, hml, hown, hA, hlocks, hK, hZ⟩ := id C0
  have hR1 : room_1.cells = 603072 := rfl
  have hR2 : room_1.slots = 7182442 := rfl
  intro M a5 hf H locs ls hH hS hl
  unfold f_L_law_3087 at hf
  refine lv_aload_n hx hb dL_law_3087 rfl (lv_at hl 1 rfl) ?_
  refine lv_aload_n hx hb dL_law_3088 rfl (lv_at hl 3 rfl) ?_
  obtain ⟨r1340, M1339, hq1338, hf⟩ := bd2_o hf
  refine hs_ci (hs_runSX C0 hH hS (n := 2) (As := [.ref (YA Y 0 0), .ref (YA Y 33 0)]) (rest := []) (c_L_errorPosition hl9 M hq1338) ⟨⟨zt_1505, zt_1506, zt_0, zt_1507⟩, by decide, by decide, by decide +kernel⟩ ⟨rfl, rfl, Nat.le_of_ble_eq_true rfl, Nat.le_of_ble_eq_true rfl⟩ rfl rfl hl.1 (Nat.le_of_ble_eq_true rfl) ⟨by omega, by omega⟩ dL_law_3089) hS (fun H locs hH hS => ?_)
  refine lv_istore (lv' := [(6, .int r1340), (0, .ref b), (1, .ref (YA Y 0 0)), (2, .ref (YA Y 20 0)), (3, .ref (YA Y 33 0)), (4, .ref (YA Y 36 0)), (5, .int a5)]) hx hb dL_law_3092 hl (by decide) rfl (fun ls hl => ?_)
  refine lv_aload_n hx hb dL_law_3094 rfl (lv_at hl 3 rfl) ?_
  obtain ⟨r1343, M1342, hq1341, hf⟩ := bd2_o hf
  refine hs_ci (hs_runV C0 hH hS (n := 0) (As := []) (rest := []) (c_X8_errorPosition M1339 hq1341) ⟨⟨zt_2040, zt_2041, zt_2042, zt_13, zt_2043⟩, rfl, by decide, by decide, by decide +kernel⟩ ⟨rfl, rfl, Nat.le_of_ble_eq_true rfl, Nat.le_of_ble_eq_true rfl⟩ (hs_recv hK hH 20 0 (by decide) 12 rfl rfl) rfl rfl hl.1 (Nat.le_of_ble_eq_true rfl) ⟨by omega, by omega⟩ dL_law_3095) hS (fun H locs hH hS => ?_)
  refine lv_istore (lv' := [(7, .int r1343), (6, .int r1340), (0, .ref b), (1, .ref (YA Y 0 0)), (2, .ref (YA Y 20 0)), (3, .ref (YA Y 33 0)), (4, .ref (YA Y 36 0)), (5, .int a5)]) hx hb dL_law_3098 hl (by decide) rfl (fun ls hl => ?_)
  refine lv_aload_n hx hb dL_law_3100 rfl (lv_at hl 4 rfl) ?_
  obtain ⟨r1345, hq1344, hf⟩ := bd_o hf
  refine hs_ci (hs_runV C0 hH hS (n := 0) (As := []) (rest := []) (c_X8_thrown M1342 hq1344) ⟨⟨zt_1621, zt_1622, zt_1623, zt_13, zt_1624⟩, rfl, by decide, by decide, by decide +kernel⟩ ⟨rfl, rfl, Nat.le_of_ble_eq_true rfl, Nat.le_of_ble_eq_true rfl⟩ (hs_recv hK hH 20 0 (by decide) 12 rfl rfl) rfl rfl hl.1 (Nat.le_of_ble_eq_true rfl) ⟨by omega, by omega⟩ dL_law_3101) hS (fun H locs hH hS => ?_)
  refine lv_iload hx hb dL_law_3104 (lv_at hl 1 rfl) ?_
  refine lv_icmp_eq (tgt := 3111) hx hb dL_law_3106 (by decide) (fun hc1348 => ?_) (fun hc1348 => ?_)
  · have hf := if_t hf hc1348
    refine lv_iload hx hb dL_law_3111 (lv_at hl 1 rfl) ?_
    refine lv_if_ne (tgt := 3128) hx hb dL_law_3113 (by decide) (fun hc1347 => ?_) (fun hc1347 => ?_)
    · have hf := if_f hf hc1347
      refine lv_goto (tgt := 3289) hx hb dL_law_3128 (by decide) ?_
      refine W.widen (k := C + 14) (n := S + 1696) (by omega) (by omega) ?_
      exact w_L_law_3289 C0 hl9 xs L hX hbl C S hC9 hS9 k28 hk28 M1342 a5 hf _ _ _ hH hS (lv_sub hl [2, 3, 4, 5, 6, 7] rfl)
    · have hf := if_t hf hc1347
      refine lv_aload_n hx hb dL_law_3116 rfl (lv_at hl 5 rfl) ?_
      refine lv_iconst (v := (0 : Int32)) hx hb dL_law_3117 (by decide) ?_
      refine hl_laload hx hb hK hH dL_law_3118 ?_
      refine lv_iload hx hb dL_law_3119 (lv_at hl 0 rfl) ?_
      refine lv_i2l (v := r1343.toInt64) hx hb dL_law_3121 rfl ?_
      refine W.lcmp hx hb dL_law_3122 ?_
      refine lv_if_eq (tgt := 3128) hx hb dL_law_3123 (by decide) (fun hc1346 => ?_) (fun hc1346 => ?_)
      · have hf := if_t hf hc1346
        refine lv_goto (tgt := 3289) hx hb dL_law_3128 (by decide) ?_
        refine W.widen (k := C + 14) (n := S + 1696) (by omega) (by omega) ?_
        exact w_L_law_3289 C0 hl9 xs L hX hbl C S hC9 hS9 k28 hk28 M1342 a5 hf _ _ _ hH hS (lv_sub hl [2, 3, 4, 5, 6, 7] rfl)
      · have hf := if_f hf hc1346
        refine lv_iconst (v := (0 : Int32)) hx hb dL_law_3126 (by decide) ?_
        cases hf
  · have hf := if_f hf hc1348
    refine lv_iconst (v := (0 : Int32)) hx hb dL_law_3109 (by decide) ?_
    cases hf
def f_L_law_3131 (xs : Nat → Int32) (L : Nat) (k28 : Mem → Int32 → Option Unit) (M : Mem) (a5 : Int32) : Option Unit := bd2 (f_L_failedCommand M) fun r1351 M1350 => bd2 (f_X8_failedCommand M1350) fun r1354 M1353 => bd (f_X8_thrown M1353) fun r1356 => (if r1356 = r1351 then (if r1351 = 0 then (if (lg_cmp ((M1353 33 0 0).toInt64) r1354.toInt64) = 0 then f_L_law_3289 xs L k28 M1353 a5 else none) else f_L_law_3289 xs L k28 M1353 a5) else none)
set_option maxHeartbeats 8000000 in
set_option maxRecDepth 100000 in
theorem w_L_law_3131 {Y : LY} {p : Program} {l : Launch} {e : Env} {s : State} {m : MethodId} {b : Nat} {below : List Frame} {meth : Method} {c : Code} (C0 : BE Y p s m #[Value.ref b] meth c cL_law 9 ret RL) (hl9 : l.stackTraces = false) (xs : Nat → Int32) (L : Nat) (hX : va_X b L xs s s.heap) (hbl : b < YZ Y) (C S : Nat) (hC9 : C + 60 ≤ 603072) (hS9 : S + 8000 ≤ 7182442) (k28 : Mem → Int32 → Option Unit) (hk28 : ∀ (M : Mem) (a5 : Int32), k28 M a5 = some () → ∀ (H : Heap) (locs : List Loc) (ls : Array Slot), HS Y M H → va_S (AZ Y) s.heap H locs → lv_has ls 9 [(0, .ref b), (1, .ref (YA Y 0 0)), (2, .ref (YA Y 20 0)), (3, .ref (YA Y 33 0)), (4, .ref (YA Y 36 0)), (5, .int a5)] → W p l e room_1 s m #[Value.ref b] below meth c H locs (C + 60) (S + 8000) (lw_Z below #[Value.ref b] s) (F0 m 28 ls [])) : ∀ (M : Mem) (a5 : Int32), f_L_law_3131 xs L k28 M a5 = some () → ∀ (H : Heap) (locs : List Loc) (ls : Array Slot), HS Y M H → va_S (AZ Y) s.heap H locs → lv_has ls 9 [(0, .ref b), (1, .ref (YA Y 0 0)), (2, .ref (YA Y 20 0)), (3, .ref (YA Y 33 0)), (4, .ref (YA Y 36 0)), (5, .int a5)] → W p l e room_1 s m #[Value.ref b] below meth c H locs (C + 0) (S + 0) (lw_Z below #[Value.ref b] s) (F0 m 3131 ls []) := by
  obtain ⟨hx, hb, hr, hml, hown, hA, hlocks, hK, hZ⟩ := id C0
  have hR1 : room_1.cells = 603072 := rfl
  have hR2 : room_1.slots = 7182442 := rfl
  intro M a5 hf H locs ls hH hS hl
  unfold f_L_law_3131 at hf
  refine lv_aload_n hx hb dL_law_3131 rfl (lv_at hl 1 rfl) ?_
  refine lv_aload_n hx hb dL_law_3132 rfl (lv_at hl 3 rfl) ?_
  obtain ⟨r1351, M1350, hq1349, hf⟩ := bd2_o hf
  refine hs_ci (hs_runSX C0 hH hS (n := 2) (As := [.ref (YA Y 0 0), .ref (YA Y 33 0)]) (rest := []) (c_L_failedCommand hl9 M hq1349) ⟨⟨zt_1513, zt_1514, zt_0, zt_1515⟩, by decide, by decide, by decide +kernel⟩ ⟨rfl, rfl, Nat.le_of_ble_eq_true rfl, Nat.le_of_ble_eq_true rfl⟩ rfl rfl hl.1 (Nat.le_of_ble_eq_true rfl) ⟨by omega, by omega⟩ dL_law_3133) hS (fun H locs hH hS => ?_)
  refine lv_istore (lv' := [(6, .int r1351), (0, .ref b), (1, .ref (YA Y 0 0)), (2, .ref (YA Y 20 0)), (3, .ref (YA Y 33 0)), (4, .ref (YA Y 36 0)), (5, .int a5)]) hx hb dL_law_3136 hl (by decide) rfl (fun ls hl => ?_)
  refine lv_aload_n hx hb dL_law_3138 rfl (lv_at hl 3 rfl) ?_
  obtain ⟨r1354, M1353, hq1352, hf⟩ := bd2_o hf
  refine hs_ci (hs_runV C0 hH hS (n := 0) (As := []) (rest := []) (c_X8_failedCommand M1350 hq1352) ⟨⟨zt_2044, zt_2045, zt_2046, zt_13, zt_2047⟩, rfl, by decide, by decide, by decide +kernel⟩ ⟨rfl, rfl, Nat.le_of_ble_eq_true rfl, Nat.le_of_ble_eq_true rfl⟩ (hs_recv hK hH 20 0 (by decide) 12 rfl rfl) rfl rfl hl.1 (Nat.le_of_ble_eq_true rfl) ⟨by omega, by omega⟩ dL_law_3139) hS (fun H locs hH hS => ?_)
  refine lv_istore (lv' := [(7, .int r1354), (6, .int r1351), (0, .ref b), (1, .ref (YA Y 0 0)), (2, .ref (YA Y 20 0)), (3, .ref (YA Y 33 0)), (4, .ref (YA Y 36 0)), (5, .int a5)]) hx hb dL_law_3142 hl (by decide) rfl (fun ls hl => ?_)
  refine lv_aload_n hx hb dL_law_3144 rfl (lv_at hl 4 rfl) ?_
  obtain ⟨r1356, hq1355, hf⟩ := bd_o hf
  refine hs_ci (hs_runV C0 hH hS (n := 0) (As := []) (rest := []) (c_X8_thrown M1353 hq1355) ⟨⟨zt_1621, zt_1622, zt_1623, zt_13, zt_1624⟩, rfl, by decide, by decide, by decide +kernel⟩ ⟨rfl, rfl, Nat.le_of_ble_eq_true rfl, Nat.le_of_ble_eq_true rfl⟩ (hs_recv hK hH 20 0 (by decide) 12 rfl rfl) rfl rfl hl.1 (Nat.le_of_ble_eq_true rfl) ⟨by omega, by omega⟩ dL_law_3145) hS (fun H locs hH hS => ?_)
  refine lv_iload hx hb dL_law_3148 (lv_at hl 1 rfl) ?_
  refine lv_icmp_eq (tgt := 3155) hx hb dL_law_3150 (by decide) (fun hc1359 => ?_) (fun hc1359 => ?_)
  · have hf := if_t hf hc1359
    refine lv_iload hx hb dL_law_3155 (lv_at hl 1 rfl) ?_
    refine lv_if_ne (tgt := 3172) hx hb dL_law_3157 (by decide) (fun hc1358 => ?_) (fun hc1358 => ?_)
    · have hf := if_f hf hc1358
      refine lv_goto (tgt := 3289) hx hb dL_law_3172 (by decide) ?_
      refine W.widen (k := C + 14) (n := S + 1696) (by omega) (by omega) ?_
      exact w_L_law_3289 C0 hl9 xs L hX hbl C S hC9 hS9 k28 hk28 M1353 a5 hf _ _ _ hH hS (lv_sub hl [2, 3, 4, 5, 6, 7] rfl)
    · have hf := if_t hf hc1358
      refine lv_aload_n hx hb dL_law_3160 rfl (lv_at hl 5 rfl) ?_
      refine lv_iconst (v := (0 : Int32)) hx hb dL_law_3161 (by decide) ?_
      refine hl_laload hx hb hK hH dL_law_3162 ?_
      refine lv_iload hx hb dL_law_3163 (lv_at hl 0 rfl) ?_
      refine lv_i2l (v := r1354.toInt64) hx hb dL_law_3165 rfl ?_
      refine W.lcmp hx hb dL_law_3166 ?_
      refine lv_if_eq (tgt := 3172) hx hb dL_law_3167 (by decide) (fun hc1357 => ?_) (fun hc1357 => ?_)
      · have hf := if_t hf hc1357
        refine lv_goto (tgt := 3289) hx hb dL_law_3172 (by decide) ?_
        refine W.widen (k := C + 14) (n := S + 1696) (by omega) (by omega) ?_
        exact w_L_law_3289 C0 hl9 xs L hX hbl C S hC9 hS9 k28 hk28 M1353 a5 hf _ _ _ hH hS (lv_sub hl [2, 3, 4, 5, 6, 7] rfl)
      · have hf := if_f hf hc1357
        refine lv_iconst (v := (0 : Int32)) hx hb dL_law_3170 (by decide) ?_
        cases hf
  · have hf := if_f hf hc1359
    refine lv_iconst (v := (0 : Int32)) hx hb dL_law_3153 (by decide) ?_
    cases hf
def f_L_law_3175 (xs : Nat → Int32) (L : Nat) (k28 : Mem → Int32 → Option Unit) (M : Mem) (a5 : Int32) : Option Unit := bd (f_X7_undoableCount M) fun r1361 => bd2 (f_X8_undoableCount M) fun r1364 M1363 => (if r1361 = r1364 then f_L_law_3289 xs L k28 M1363 a5 else none)
set_option maxHeartbeats 8000000 in
set_option maxRecDepth 100000 in
theorem w_L_law_3175 {Y : LY} {p : Program} {l : Launch} {e : Env} {s : State} {m : MethodId} {b : Nat} {below : List Frame} {meth : Method} {c : Code} (C0 : BE Y p s m #[Value.ref b] meth c cL_law 9 ret RL) (hl9 : l.stackTraces = false) (xs : Nat → Int32) (L : Nat) (hX : va_X b L xs s s.heap) (hbl : b < YZ Y) (C S : Nat) (hC9 : C + 60 ≤ 603072) (hS9 : S + 8000 ≤ 7182442) (k28 : Mem → Int32 → Option Unit) (hk28 : ∀ (M : Mem) (a5 : Int32), k28 M a5 = some () → ∀ (H : Heap) (locs : List Loc) (ls : Array Slot), HS Y M H → va_S (AZ Y) s.heap H locs → lv_has ls 9 [(0, .ref b), (1, .ref (YA Y 0 0)), (2, .ref (YA Y 20 0)), (3, .ref (YA Y 33 0)), (4, .ref (YA Y 36 0)), (5, .int a5)] → W p l e room_1 s m #[Value.ref b] below meth c H locs (C + 60) (S + 8000) (lw_Z below #[Value.ref b] s) (F0 m 28 ls [])) : ∀ (M : Mem) (a5 : Int32), f_L_law_3175 xs L k28 M a5 = some () → ∀ (H : Heap) (locs : List Loc) (ls : Array Slot), HS Y M H → va_S (AZ Y) s.heap H locs → lv_has ls 9 [(0, .ref b), (1, .ref (YA Y 0 0)), (2, .ref (YA Y 20 0)), (3, .ref (YA Y 33 0)), (4, .ref (YA Y 36 0)), (5, .int a5)] → W p l e room_1 s m #[Value.ref b] below meth c H locs (C + 0) (S + 0) (lw_Z below #[Value.ref b] s) (F0 m 3175 ls []) := by
  obtain ⟨hx, hb, hr, hml, hown, hA, hlocks, hK, hZ⟩ := id C0
  have hR1 : room_1.cells = 603072 := rfl
  have hR2 : room_1.slots = 7182442 := rfl
  intro M a5 hf H locs ls hH hS hl
  unfold f_L_law_3175 at hf
  refine lv_aload_n hx hb dL_law_3175 rfl (lv_at hl 1 rfl) ?_
  obtain ⟨r1361, hq1360, hf⟩ := bd_o hf
  refine hs_ci (hs_runV C0 hH hS (n := 0) (As := []) (rest := []) (c_X7_undoableCount M hq1360) ⟨⟨zt_678, zt_679, zt_680, zt_1, zt_681⟩, rfl, by decide, by decide, by decide +kernel⟩ ⟨rfl, rfl, Nat.le_of_ble_eq_true rfl, Nat.le_of_ble_eq_true rfl⟩ (hs_recv hK hH 0 0 (by decide) 11 rfl rfl) rfl rfl hl.1 (Nat.le_of_ble_eq_true rfl) ⟨by omega, by omega⟩ dL_law_3176) hS (fun H locs hH hS => ?_)
  refine lv_aload_n hx hb dL_law_3179 rfl (lv_at hl 2 rfl) ?_
  obtain ⟨r1364, M1363, hq1362, hf⟩ := bd2_o hf
  refine hs_ci (hs_runV C0 hH hS (n := 0) (As := []) (rest := [.int r1361]) (c_X8_undoableCount M hq1362) ⟨⟨zt_2048, zt_2049, zt_2050, zt_13, zt_2051⟩, rfl, by decide, by decide, by decide +kernel⟩ ⟨rfl, rfl, Nat.le_of_ble_eq_true rfl, Nat.le_of_ble_eq_true rfl⟩ (hs_recv hK hH 20 0 (by decide) 12 rfl rfl) rfl rfl hl.1 (Nat.le_of_ble_eq_true rfl) ⟨by omega, by omega⟩ dL_law_3180) hS (fun H locs hH hS => ?_)
  refine lv_icmp_eq (tgt := 3289) hx hb dL_law_3183 (by decide) (fun hc1365 => ?_) (fun hc1365 => ?_)
  · have hf := if_t hf hc1365
    refine W.widen (k := C + 14) (n := S + 1696) (by omega) (by omega) ?_
    exact w_L_law_3289 C0 hl9 xs L hX hbl C S hC9 hS9 k28 hk28 M1363 a5 hf _ _ _ hH hS (lv_sub hl [0, 1, 2, 3, 4, 5] rfl)
  · have hf := if_f hf hc1365
    refine lv_iconst (v := (0 : Int32)) hx hb dL_law_3186 (by decide) ?_
    cases hf
def f_L_law_3188 (xs : Nat → Int32) (L : Nat) (k28 : Mem → Int32 → Option Unit) (M : Mem) (a5 : Int32) : Option Unit := bd2 (f_L_undo M) fun r1368 M1367 => bd2 (f_X8_undo M1367) fun r1371 M1370 => bd (f_X8_thrown M1370) fun r1373 => (if r1373 = r1368 then (if r1368 = 0 then (if (lg_cmp ((M1370 33 0 0).toInt64) r1371.toInt64) = 0 then f_L_law_3289 xs L k28 M1370 a5 else none) else f_L_law_3289 xs L k28 M1370 a5) else none)
set_option maxHeartbeats 8000000 in
set_option maxRecDepth 100000 in
theorem w_L_law_3188 {Y : LY} {p : Program} {l : Launch} {e : Env} {s : State} {m : MethodId} {b : Nat} {below : List Frame} {meth : Method} {c : Code} (C0 : BE Y p s m #[Value.ref b] meth c cL_law 9 ret RL) (hl9 : l.stackTraces = false) (xs : Nat → Int32) (L : Nat) (hX : va_X b L xs s s.heap) (hbl : b < YZ Y) (C S : Nat) (hC9 : C + 60 ≤ 603072) (hS9 : S + 8000 ≤ 7182442) (k28 : Mem → Int32 → Option Unit) (hk28 : ∀ (M : Mem) (a5 : Int32), k28 M a5 = some () → ∀ (H : Heap) (locs : List Loc) (ls : Array Slot), HS Y M H → va_S (AZ Y) s.heap H locs → lv_has ls 9 [(0, .ref b), (1, .ref (YA Y 0 0)), (2, .ref (YA Y 20 0)), (3, .ref (YA Y 33 0)), (4, .ref (YA Y 36 0)), (5, .int a5)] → W p l e room_1 s m #[Value.ref b] below meth c H locs (C + 60) (S + 8000) (lw_Z below #[Value.ref b] s) (F0 m 28 ls [])) : ∀ (M : Mem) (a5 : Int32), f_L_law_3188 xs L k28 M a5 = some () → ∀ (H : Heap) (locs : List Loc) (ls : Array Slot), HS Y M H → va_S (AZ Y) s.heap H locs → lv_has ls 9 [(0, .ref b), (1, .ref (YA Y 0 0)), (2, .ref (YA Y 20 0)), (3, .ref (YA Y 33 0)), (4, .ref (YA Y 36 0)), (5, .int a5)] → W p l e room_1 s m #[Value.ref b] below meth c H locs (C + 0) (S + 0) (lw_Z below #[Value.ref b] s) (F0 m 3188 ls []) := by
  obtain ⟨hx, hb, hr, hml, hown, hA, hlocks, hK, hZ⟩ := id C0
  have hR1 : room_1.cells = 603072 := rfl
  have hR2 : room_1.slots = 7182442 := rfl
  intro M a5 hf H locs ls hH hS hl
  unfold f_L_law_3188 at hf
  refine lv_aload_n hx hb dL_law_3188 rfl (lv_at hl 1 rfl) ?_
  refine lv_aload_n hx hb dL_law_3189 rfl (lv_at hl 3 rfl) ?_
  obtain ⟨r1368, M1367, hq1366, hf⟩ := bd2_o hf
  refine hs_ci (hs_runSX C0 hH hS (n := 2) (As := [.ref (YA Y 0 0), .ref (YA Y 33 0)]) (rest := []) (c_L_undo hl9 M hq1366) ⟨⟨zt_1521, zt_1522, zt_0, zt_1523⟩, by decide, by decide, by decide +kernel⟩ ⟨rfl, rfl, Nat.le_of_ble_eq_true rfl, Nat.le_of_ble_eq_true rfl⟩ rfl rfl hl.1 (Nat.le_of_ble_eq_true rfl) ⟨by omega, by omega⟩ dL_law_3190) hS (fun H locs hH hS => ?_)
  refine lv_istore (lv' := [(6, .int r1368), (0, .ref b), (1, .ref (YA Y 0 0)), (2, .ref (YA Y 20 0)), (3, .ref (YA Y 33 0)), (4, .ref (YA Y 36 0)), (5, .int a5)]) hx hb dL_law_3193 hl (by decide) rfl (fun ls hl => ?_)
  refine lv_aload_n hx hb dL_law_3195 rfl (lv_at hl 3 rfl) ?_
  obtain ⟨r1371, M1370, hq1369, hf⟩ := bd2_o hf
  refine hs_ci (hs_runV C0 hH hS (n := 0) (As := []) (rest := []) (c_X8_undo M1367 hq1369) ⟨⟨zt_2052, zt_2053, zt_2054, zt_13, zt_2055⟩, rfl, by decide, by decide, by decide +kernel⟩ ⟨rfl, rfl, Nat.le_of_ble_eq_true rfl, Nat.le_of_ble_eq_true rfl⟩ (hs_recv hK hH 20 0 (by decide) 12 rfl rfl) rfl rfl hl.1 (Nat.le_of_ble_eq_true rfl) ⟨by omega, by omega⟩ dL_law_3196) hS (fun H locs hH hS => ?_)
  refine lv_istore (lv' := [(7, .int r1371), (6, .int r1368), (0, .ref b), (1, .ref (YA Y 0 0)), (2, .ref (YA Y 20 0)), (3, .ref (YA Y 33 0)), (4, .ref (YA Y 36 0)), (5, .int a5)]) hx hb dL_law_3199 hl (by decide) rfl (fun ls hl => ?_)
  refine lv_aload_n hx hb dL_law_3201 rfl (lv_at hl 4 rfl) ?_
  obtain ⟨r1373, hq1372, hf⟩ := bd_o hf
  refine hs_ci (hs_runV C0 hH hS (n := 0) (As := []) (rest := []) (c_X8_thrown M1370 hq1372) ⟨⟨zt_1621, zt_1622, zt_1623, zt_13, zt_1624⟩, rfl, by decide, by decide, by decide +kernel⟩ ⟨rfl, rfl, Nat.le_of_ble_eq_true rfl, Nat.le_of_ble_eq_true rfl⟩ (hs_recv hK hH 20 0 (by decide) 12 rfl rfl) rfl rfl hl.1 (Nat.le_of_ble_eq_true rfl) ⟨by omega, by omega⟩ dL_law_3202) hS (fun H locs hH hS => ?_)
  refine lv_iload hx hb dL_law_3205 (lv_at hl 1 rfl) ?_
  refine lv_icmp_eq (tgt := 3212) hx hb dL_law_3207 (by decide) (fun hc1376 => ?_) (fun hc1376 => ?_)
  · have hf := if_t hf hc1376
    refine lv_iload hx hb dL_law_3212 (lv_at hl 1 rfl) ?_
    refine lv_if_ne (tgt := 3229) hx hb dL_law_3214 (by decide) (fun hc1375 => ?_) (fun hc1375 => ?_)
    · have hf := if_f hf hc1375
      refine lv_goto (tgt := 3289) hx hb dL_law_3229 (by decide) ?_
      refine W.widen (k := C + 14) (n := S + 1696) (by omega) (by omega) ?_
      exact w_L_law_3289 C0 hl9 xs L hX hbl C S hC9 hS9 k28 hk28 M1370 a5 hf _ _ _ hH hS (lv_sub hl [2, 3, 4, 5, 6, 7] rfl)
    · have hf := if_t hf hc1375
      refine lv_aload_n hx hb dL_law_3217 rfl (lv_at hl 5 rfl) ?_
      refine lv_iconst (v := (0 : Int32)) hx hb dL_law_3218 (by decide) ?_
      refine hl_laload hx hb hK hH dL_law_3219 ?_
      refine lv_iload hx hb dL_law_3220 (lv_at hl 0 rfl) ?_
      refine lv_i2l (v := r1371.toInt64) hx hb dL_law_3222 rfl ?_
      refine W.lcmp hx hb dL_law_3223 ?_
      refine lv_if_eq (tgt := 3229) hx hb dL_law_3224 (by decide) (fun hc1374 => ?_) (fun hc1374 => ?_)
      · have hf := if_t hf hc1374
        refine lv_goto (tgt := 3289) hx hb dL_law_3229 (by decide) ?_
        refine W.widen (k := C + 14) (n := S + 1696) (by omega) (by omega) ?_
        exact w_L_law_3289 C0 hl9 xs L hX hbl C S hC9 hS9 k28 hk28 M1370 a5 hf _ _ _ hH hS (lv_sub hl [2, 3, 4, 5, 6, 7] rfl)
      · have hf := if_f hf hc1374
        refine lv_iconst (v := (0 : Int32)) hx hb dL_law_3227 (by decide) ?_
        cases hf
  · have hf := if_f hf hc1376
    refine lv_iconst (v := (0 : Int32)) hx hb dL_law_3210 (by decide) ?_
    cases hf
def f_L_law_3232 (xs : Nat → Int32) (L : Nat) (k28 : Mem → Int32 → Option Unit) (M : Mem) (a5 : Int32) : Option Unit := bd2 (f_X7_save M) fun r1379 M1378 => bd2 (f_X8_save M1378) fun r1382 M1381 => (if r1379 = r1382 then f_L_law_3289 xs L k28 M1381 a5 else none)
set_option maxHeartbeats 8000000 in
set_option maxRecDepth 100000 in
theorem w_L_law_3232 {Y : LY} {p : Program} {l : Launch} {e : Env} {s : State} {m : MethodId} {b : Nat} {below : List Frame} {meth : Method} {c : Code} (C0 : BE Y p s m #[Value.ref b] meth c cL_law 9 ret RL) (hl9 : l.stackTraces = false) (xs : Nat → Int32) (L : Nat) (hX : va_X b L xs s s.heap) (hbl : b < YZ Y) (C S : Nat) (hC9 : C + 60 ≤ 603072) (hS9 : S + 8000 ≤ 7182442) (k28 : Mem → Int32 → Option Unit) (hk28 : ∀ (M : Mem) (a5 : Int32), k28 M a5 = some () → ∀ (H : Heap) (locs : List Loc) (ls : Array Slot), HS Y M H → va_S (AZ Y) s.heap H locs → lv_has ls 9 [(0, .ref b), (1, .ref (YA Y 0 0)), (2, .ref (YA Y 20 0)), (3, .ref (YA Y 33 0)), (4, .ref (YA Y 36 0)), (5, .int a5)] → W p l e room_1 s m #[Value.ref b] below meth c H locs (C + 60) (S + 8000) (lw_Z below #[Value.ref b] s) (F0 m 28 ls [])) : ∀ (M : Mem) (a5 : Int32), f_L_law_3232 xs L k28 M a5 = some () → ∀ (H : Heap) (locs : List Loc) (ls : Array Slot), HS Y M H → va_S (AZ Y) s.heap H locs → lv_has ls 9 [(0, .ref b), (1, .ref (YA Y 0 0)), (2, .ref (YA Y 20 0)), (3, .ref (YA Y 33 0)), (4, .ref (YA Y 36 0)), (5, .int a5)] → W p l e room_1 s m #[Value.ref b] below meth c H locs (C + 0) (S + 0) (lw_Z below #[Value.ref b] s) (F0 m 3232 ls []) := by
  obtain ⟨hx, hb, hr, hml, hown, hA, hlocks, hK, hZ⟩ := id C0
  have hR1 : room_1.cells = 603072 := rfl
  have hR2 : room_1.slots = 7182442 := rfl
  intro M a5 hf H locs ls hH hS hl
  unfold f_L_law_3232 at hf
  refine lv_aload_n hx hb dL_law_3232 rfl (lv_at hl 1 rfl) ?_
  obtain ⟨r1379, M1378, hq1377, hf⟩ := bd2_o hf
  refine hs_ci (hs_runV C0 hH hS (n := 0) (As := []) (rest := []) (c_X7_save M hq1377) ⟨⟨zt_682, zt_683, zt_684, zt_1, zt_685⟩, rfl, by decide, by decide, by decide +kernel⟩ ⟨rfl, rfl, Nat.le_of_ble_eq_true rfl, Nat.le_of_ble_eq_true rfl⟩ (hs_recv hK hH 0 0 (by decide) 11 rfl rfl) rfl rfl hl.1 (Nat.le_of_ble_eq_true rfl) ⟨by omega, by omega⟩ dL_law_3233) hS (fun H locs hH hS => ?_)
  refine lv_aload_n hx hb dL_law_3236 rfl (lv_at hl 2 rfl) ?_
  obtain ⟨r1382, M1381, hq1380, hf⟩ := bd2_o hf
  refine hs_ci (hs_runV C0 hH hS (n := 0) (As := []) (rest := [.int r1379]) (c_X8_save M1378 hq1380) ⟨⟨zt_2056, zt_2057, zt_2058, zt_13, zt_2059⟩, rfl, by decide, by decide, by decide +kernel⟩ ⟨rfl, rfl, Nat.le_of_ble_eq_true rfl, Nat.le_of_ble_eq_true rfl⟩ (hs_recv hK hH 20 0 (by decide) 12 rfl rfl) rfl rfl hl.1 (Nat.le_of_ble_eq_true rfl) ⟨by omega, by omega⟩ dL_law_3237) hS (fun H locs hH hS => ?_)
  refine lv_icmp_eq (tgt := 3289) hx hb dL_law_3240 (by decide) (fun hc1383 => ?_) (fun hc1383 => ?_)
  · have hf := if_t hf hc1383
    refine W.widen (k := C + 14) (n := S + 1696) (by omega) (by omega) ?_
    exact w_L_law_3289 C0 hl9 xs L hX hbl C S hC9 hS9 k28 hk28 M1381 a5 hf _ _ _ hH hS (lv_sub hl [0, 1, 2, 3, 4, 5] rfl)
  · have hf := if_f hf hc1383
    refine lv_iconst (v := (0 : Int32)) hx hb dL_law_3243 (by decide) ?_
    cases hf
def f_L_law_3245 (xs : Nat → Int32) (L : Nat) (k28 : Mem → Int32 → Option Unit) (M : Mem) (a5 : Int32) : Option Unit := bd2 (f_L_restore M) fun r1386 M1385 => bd2 (f_X8_restore M1385) fun r1389 M1388 => bd (f_X8_thrown M1388) fun r1391 => (if r1391 = r1386 then (if r1386 = 0 then (if (lg_cmp ((M1388 33 0 0).toInt64) r1389.toInt64) = 0 then f_L_law_3289 xs L k28 M1388 a5 else none) else f_L_law_3289 xs L k28 M1388 a5) else none)
set_option maxHeartbeats 8000000 in
set_option maxRecDepth 100000 in
theorem w_L_law_3245 {Y : LY} {p : Program} {l : Launch} {e : Env} {s : State} {m : MethodId} {b : Nat} {below : List Frame} {meth : Method} {c : Code} (C0 : BE Y p s m #[Value.ref b] meth c cL_law 9 ret RL) (hl9 : l.stackTraces = false) (xs : Nat → Int32) (L : Nat) (hX : va_X b L xs s s.heap) (hbl : b < YZ Y) (C S : Nat) (hC9 : C + 60 ≤ 603072) (hS9 : S + 8000 ≤ 7182442) (k28 : Mem → Int32 → Option Unit) (hk28 : ∀ (M : Mem) (a5 : Int32), k28 M a5 = some () → ∀ (H : Heap) (locs : List Loc) (ls : Array Slot), HS Y M H → va_S (AZ Y) s.heap H locs → lv_has ls 9 [(0, .ref b), (1, .ref (YA Y 0 0)), (2, .ref (YA Y 20 0)), (3, .ref (YA Y 33 0)), (4, .ref (YA Y 36 0)), (5, .int a5)] → W p l e room_1 s m #[Value.ref b] below meth c H locs (C + 60) (S + 8000) (lw_Z below #[Value.ref b] s) (F0 m 28 ls [])) : ∀ (M : Mem) (a5 : Int32), f_L_law_3245 xs L k28 M a5 = some () → ∀ (H : Heap) (locs : List Loc) (ls : Array Slot), HS Y M H → va_S (AZ Y) s.heap H locs → lv_has ls 9 [(0, .ref b), (1, .ref (YA Y 0 0)), (2, .ref (YA Y 20 0)), (3, .ref (YA Y 33 0)), (4, .ref (YA Y 36 0)), (5, .int a5)] → W p l e room_1 s m #[Value.ref b] below meth c H locs (C + 0) (S + 0) (lw_Z below #[Value.ref b] s) (F0 m 3245 ls []) := by
  obtain ⟨hx, hb, hr, hml, hown, hA, hlocks, hK, hZ⟩ := id C0
  have hR1 : room_1.cells = 603072 := rfl
  have hR2 : room_1.slots = 7182442 := rfl
  intro M a5 hf H locs ls hH hS hl
  unfold f_L_law_3245 at hf
  refine lv_aload_n hx hb dL_law_3245 rfl (lv_at hl 1 rfl) ?_
  refine lv_aload_n hx hb dL_law_3246 rfl (lv_at hl 3 rfl) ?_
  obtain ⟨r1386, M1385, hq1384, hf⟩ := bd2_o hf
  refine hs_ci (hs_runSX C0 hH hS (n := 2) (As := [.ref (YA Y 0 0), .ref (YA Y 33 0)]) (rest := []) (c_L_restore hl9 M hq1384) ⟨⟨zt_1533, zt_1534, zt_0, zt_1535⟩, by decide, by decide, by decide +kernel⟩ ⟨rfl, rfl, Nat.le_of_ble_eq_true rfl, Nat.le_of_ble_eq_true rfl⟩ rfl rfl hl.1 (Nat.le_of_ble_eq_true rfl) ⟨by omega, by omega⟩ dL_law_3247) hS (fun H locs hH hS => ?_)
  refine lv_istore (lv' := [(6, .int r1386), (0, .ref b), (1, .ref (YA Y 0 0)), (2, .ref (YA Y 20 0)), (3, .ref (YA Y 33 0)), (4, .ref (YA Y 36 0)), (5, .int a5)]) hx hb dL_law_3250 hl (by decide) rfl (fun ls hl => ?_)
  refine lv_aload_n hx hb dL_law_3252 rfl (lv_at hl 3 rfl) ?_
  obtain ⟨r1389, M1388, hq1387, hf⟩ := bd2_o hf
  refine hs_ci (hs_runV C0 hH hS (n := 0) (As := []) (rest := []) (c_X8_restore M1385 hq1387) ⟨⟨zt_2060, zt_2061, zt_2062, zt_13, zt_2063⟩, rfl, by decide, by decide, by decide +kernel⟩ ⟨rfl, rfl, Nat.le_of_ble_eq_true rfl, Nat.le_of_ble_eq_true rfl⟩ (hs_recv hK hH 20 0 (by decide) 12 rfl rfl) rfl rfl hl.1 (Nat.le_of_ble_eq_true rfl) ⟨by omega, by omega⟩ dL_law_3253) hS (fun H locs hH hS => ?_)
  refine lv_istore (lv' := [(7, .int r1389), (6, .int r1386), (0, .ref b), (1, .ref (YA Y 0 0)), (2, .ref (YA Y 20 0)), (3, .ref (YA Y 33 0)), (4, .ref (YA Y 36 0)), (5, .int a5)]) hx hb dL_law_3256 hl (by decide) rfl (fun ls hl => ?_)
  refine lv_aload_n hx hb dL_law_3258 rfl (lv_at hl 4 rfl) ?_
  obtain ⟨r1391, hq1390, hf⟩ := bd_o hf
  refine hs_ci (hs_runV C0 hH hS (n := 0) (As := []) (rest := []) (c_X8_thrown M1388 hq1390) ⟨⟨zt_1621, zt_1622, zt_1623, zt_13, zt_1624⟩, rfl, by decide, by decide, by decide +kernel⟩ ⟨rfl, rfl, Nat.le_of_ble_eq_true rfl, Nat.le_of_ble_eq_true rfl⟩ (hs_recv hK hH 20 0 (by decide) 12 rfl rfl) rfl rfl hl.1 (Nat.le_of_ble_eq_true rfl) ⟨by omega, by omega⟩ dL_law_3259) hS (fun H locs hH hS => ?_)
  refine lv_iload hx hb dL_law_3262 (lv_at hl 1 rfl) ?_
  refine lv_icmp_eq (tgt := 3269) hx hb dL_law_3264 (by decide) (fun hc1394 => ?_) (fun hc1394 => ?_)
  · have hf := if_t hf hc1394
    refine lv_iload hx hb dL_law_3269 (lv_at hl 1 rfl) ?_
    refine lv_if_ne (tgt := 3286) hx hb dL_law_3271 (by decide) (fun hc1393 => ?_) (fun hc1393 => ?_)
    · have hf := if_f hf hc1393
      refine lv_goto (tgt := 3289) hx hb dL_law_3286 (by decide) ?_
      refine W.widen (k := C + 14) (n := S + 1696) (by omega) (by omega) ?_
      exact w_L_law_3289 C0 hl9 xs L hX hbl C S hC9 hS9 k28 hk28 M1388 a5 hf _ _ _ hH hS (lv_sub hl [2, 3, 4, 5, 6, 7] rfl)
    · have hf := if_t hf hc1393
      refine lv_aload_n hx hb dL_law_3274 rfl (lv_at hl 5 rfl) ?_
      refine lv_iconst (v := (0 : Int32)) hx hb dL_law_3275 (by decide) ?_
      refine hl_laload hx hb hK hH dL_law_3276 ?_
      refine lv_iload hx hb dL_law_3277 (lv_at hl 0 rfl) ?_
      refine lv_i2l (v := r1389.toInt64) hx hb dL_law_3279 rfl ?_
      refine W.lcmp hx hb dL_law_3280 ?_
      refine lv_if_eq (tgt := 3286) hx hb dL_law_3281 (by decide) (fun hc1392 => ?_) (fun hc1392 => ?_)
      · have hf := if_t hf hc1392
        refine lv_goto (tgt := 3289) hx hb dL_law_3286 (by decide) ?_
        refine W.widen (k := C + 14) (n := S + 1696) (by omega) (by omega) ?_
        exact w_L_law_3289 C0 hl9 xs L hX hbl C S hC9 hS9 k28 hk28 M1388 a5 hf _ _ _ hH hS (lv_sub hl [2, 3, 4, 5, 6, 7] rfl)
      · have hf := if_f hf hc1392
        refine lv_iconst (v := (0 : Int32)) hx hb dL_law_3284 (by decide) ?_
        cases hf
  · have hf := if_f hf hc1394
    refine lv_iconst (v := (0 : Int32)) hx hb dL_law_3267 (by decide) ?_
    cases hf
def f_L_law_28 (xs : Nat → Int32) (L : Nat) : Nat → Mem → Int32 → Option Unit
  | 0, _, _ => none
  | n + 1, M, a5 => (if ((nI L) - (5 : Int32)) < a5 then some () else if vin a5 L then ((if ((xs (ix a5)) &&& (63 : Int32)) = (0 : Int32) then f_L_law_300 xs L (f_L_law_28 xs L n) M a5 else (if ((xs (ix a5)) &&& (63 : Int32)) = (1 : Int32) then f_L_law_344 xs L (f_L_law_28 xs L n) M a5 else (if ((xs (ix a5)) &&& (63 : Int32)) = (2 : Int32) then f_L_law_436 xs L (f_L_law_28 xs L n) M a5 else (if ((xs (ix a5)) &&& (63 : Int32)) = (3 : Int32) then f_L_law_492 xs L (f_L_law_28 xs L n) M a5 else (if ((xs (ix a5)) &&& (63 : Int32)) = (4 : Int32) then f_L_law_548 xs L (f_L_law_28 xs L n) M a5 else (if ((xs (ix a5)) &&& (63 : Int32)) = (5 : Int32) then f_L_law_640 xs L (f_L_law_28 xs L n) M a5 else (if ((xs (ix a5)) &&& (63 : Int32)) = (6 : Int32) then f_L_law_708 xs L (f_L_law_28 xs L n) M a5 else (if ((xs (ix a5)) &&& (63 : Int32)) = (7 : Int32) then f_L_law_776 xs L (f_L_law_28 xs L n) M a5 else (if ((xs (ix a5)) &&& (63 : Int32)) = (8 : Int32) then f_L_law_832 xs L (f_L_law_28 xs L n) M a5 else (if ((xs (ix a5)) &&& (63 : Int32)) = (9 : Int32) then f_L_law_845 xs L (f_L_law_28 xs L n) M a5 else (if ((xs (ix a5)) &&& (63 : Int32)) = (10 : Int32) then f_L_law_901 xs L (f_L_law_28 xs L n) M a5 else (if ((xs (ix a5)) &&& (63 : Int32)) = (11 : Int32) then f_L_law_914 xs L (f_L_law_28 xs L n) M a5 else (if ((xs (ix a5)) &&& (63 : Int32)) = (12 : Int32) then f_L_law_927 xs L (f_L_law_28 xs L n) M a5 else (if ((xs (ix a5)) &&& (63 : Int32)) = (13 : Int32) then f_L_law_940 xs L (f_L_law_28 xs L n) M a5 else (if ((xs (ix a5)) &&& (63 : Int32)) = (14 : Int32) then f_L_law_996 xs L (f_L_law_28 xs L n) M a5 else (if ((xs (ix a5)) &&& (63 : Int32)) = (15 : Int32) then f_L_law_1052 xs L (f_L_law_28 xs L n) M a5 else (if ((xs (ix a5)) &&& (63 : Int32)) = (16 : Int32) then f_L_law_1108 xs L (f_L_law_28 xs L n) M a5 else (if ((xs (ix a5)) &&& (63 : Int32)) = (17 : Int32) then f_L_law_1171 xs L (f_L_law_28 xs L n) M a5 else (if ((xs (ix a5)) &&& (63 : Int32)) = (18 : Int32) then f_L_law_1246 xs L (f_L_law_28 xs L n) M a5 else (if ((xs (ix a5)) &&& (63 : Int32)) = (19 : Int32) then f_L_law_1302 xs L (f_L_law_28 xs L n) M a5 else (if ((xs (ix a5)) &&& (63 : Int32)) = (20 : Int32) then f_L_law_1346 xs L (f_L_law_28 xs L n) M a5 else (if ((xs (ix a5)) &&& (63 : Int32)) = (21 : Int32) then f_L_law_1402 xs L (f_L_law_28 xs L n) M a5 else (if ((xs (ix a5)) &&& (63 : Int32)) = (22 : Int32) then f_L_law_1415 xs L (f_L_law_28 xs L n) M a5 else (if ((xs (ix a5)) &&& (63 : Int32)) = (23 : Int32) then f_L_law_1471 xs L (f_L_law_28 xs L n) M a5 else (if ((xs (ix a5)) &&& (63 : Int32)) = (24 : Int32) then f_L_law_1534 xs L (f_L_law_28 xs L n) M a5 else (if ((xs (ix a5)) &&& (63 : Int32)) = (25 : Int32) then f_L_law_1590 xs L (f_L_law_28 xs L n) M a5 else (if ((xs (ix a5)) &&& (63 : Int32)) = (26 : Int32) then f_L_law_1646 xs L (f_L_law_28 xs L n) M a5 else (if ((xs (ix a5)) &&& (63 : Int32)) = (27 : Int32) then f_L_law_1702 xs L (f_L_law_28 xs L n) M a5 else (if ((xs (ix a5)) &&& (63 : Int32)) = (28 : Int32) then f_L_law_1758 xs L (f_L_law_28 xs L n) M a5 else (if ((xs (ix a5)) &&& (63 : Int32)) = (29 : Int32) then f_L_law_1814 xs L (f_L_law_28 xs L n) M a5 else (if ((xs (ix a5)) &&& (63 : Int32)) = (30 : Int32) then f_L_law_1870 xs L (f_L_law_28 xs L n) M a5 else (if ((xs (ix a5)) &&& (63 : Int32)) = (31 : Int32) then f_L_law_1926 xs L (f_L_law_28 xs L n) M a5 else (if ((xs (ix a5)) &&& (63 : Int32)) = (32 : Int32) then f_L_law_2006 xs L (f_L_law_28 xs L n) M a5 else (if ((xs (ix a5)) &&& (63 : Int32)) = (33 : Int32) then f_L_law_2086 xs L (f_L_law_28 xs L n) M a5 else (if ((xs (ix a5)) &&& (63 : Int32)) = (34 : Int32) then f_L_law_2154 xs L (f_L_law_28 xs L n) M a5 else (if ((xs (ix a5)) &&& (63 : Int32)) = (35 : Int32) then f_L_law_2210 xs L (f_L_law_28 xs L n) M a5 else (if ((xs (ix a5)) &&& (63 : Int32)) = (36 : Int32) then f_L_law_2266 xs L (f_L_law_28 xs L n) M a5 else (if ((xs (ix a5)) &&& (63 : Int32)) = (37 : Int32) then f_L_law_2322 xs L (f_L_law_28 xs L n) M a5 else (if ((xs (ix a5)) &&& (63 : Int32)) = (38 : Int32) then f_L_law_2397 xs L (f_L_law_28 xs L n) M a5 else (if ((xs (ix a5)) &&& (63 : Int32)) = (39 : Int32) then f_L_law_2453 xs L (f_L_law_28 xs L n) M a5 else (if ((xs (ix a5)) &&& (63 : Int32)) = (40 : Int32) then f_L_law_2509 xs L (f_L_law_28 xs L n) M a5 else (if ((xs (ix a5)) &&& (63 : Int32)) = (41 : Int32) then f_L_law_2565 xs L (f_L_law_28 xs L n) M a5 else (if ((xs (ix a5)) &&& (63 : Int32)) = (42 : Int32) then f_L_law_2621 xs L (f_L_law_28 xs L n) M a5 else (if ((xs (ix a5)) &&& (63 : Int32)) = (43 : Int32) then f_L_law_2634 xs L (f_L_law_28 xs L n) M a5 else (if ((xs (ix a5)) &&& (63 : Int32)) = (44 : Int32) then f_L_law_2647 xs L (f_L_law_28 xs L n) M a5 else (if ((xs (ix a5)) &&& (63 : Int32)) = (45 : Int32) then f_L_law_2660 xs L (f_L_law_28 xs L n) M a5 else (if ((xs (ix a5)) &&& (63 : Int32)) = (46 : Int32) then f_L_law_2673 xs L (f_L_law_28 xs L n) M a5 else (if ((xs (ix a5)) &&& (63 : Int32)) = (47 : Int32) then f_L_law_2738 xs L (f_L_law_28 xs L n) M a5 else (if ((xs (ix a5)) &&& (63 : Int32)) = (48 : Int32) then f_L_law_2804 xs L (f_L_law_28 xs L n) M a5 else (if ((xs (ix a5)) &&& (63 : Int32)) = (49 : Int32) then f_L_law_2817 xs L (f_L_law_28 xs L n) M a5 else (if ((xs (ix a5)) &&& (63 : Int32)) = (50 : Int32) then f_L_law_2873 xs L (f_L_law_28 xs L n) M a5 else (if ((xs (ix a5)) &&& (63 : Int32)) = (51 : Int32) then f_L_law_2929 xs L (f_L_law_28 xs L n) M a5 else (if ((xs (ix a5)) &&& (63 : Int32)) = (52 : Int32) then f_L_law_2985 xs L (f_L_law_28 xs L n) M a5 else (if ((xs (ix a5)) &&& (63 : Int32)) = (53 : Int32) then f_L_law_3043 xs L (f_L_law_28 xs L n) M a5 else (if ((xs (ix a5)) &&& (63 : Int32)) = (54 : Int32) then f_L_law_3087 xs L (f_L_law_28 xs L n) M a5 else (if ((xs (ix a5)) &&& (63 : Int32)) = (55 : Int32) then f_L_law_3131 xs L (f_L_law_28 xs L n) M a5 else (if ((xs (ix a5)) &&& (63 : Int32)) = (56 : Int32) then f_L_law_3175 xs L (f_L_law_28 xs L n) M a5 else (if ((xs (ix a5)) &&& (63 : Int32)) = (57 : Int32) then f_L_law_3188 xs L (f_L_law_28 xs L n) M a5 else (if ((xs (ix a5)) &&& (63 : Int32)) = (58 : Int32) then f_L_law_3232 xs L (f_L_law_28 xs L n) M a5 else (if ((xs (ix a5)) &&& (63 : Int32)) = (59 : Int32) then f_L_law_3245 xs L (f_L_law_28 xs L n) M a5 else f_L_law_3289 xs L (f_L_law_28 xs L n) M a5))))))))))))))))))))))))))))))))))))))))))))))))))))))))))))) else none)
set_option maxHeartbeats 8000000 in
set_option maxRecDepth 100000 in
theorem w_L_law_28 {Y : LY} {p : Program} {l : Launch} {e : Env} {s : State} {m : MethodId} {b : Nat} {below : List Frame} {meth : Method} {c : Code} (C0 : BE Y p s m #[Value.ref b] meth c cL_law 9 ret RL) (hl9 : l.stackTraces = false) (xs : Nat → Int32) (L : Nat) (hX : va_X b L xs s s.heap) (hbl : b < YZ Y) (hYs : s.heap.size ≤ YZ Y) : ∀ (n C S : Nat), C + n * 60 ≤ 603072 → S + n * 8000 ≤ 7182442 → ∀ (M : Mem) (a5 : Int32), f_L_law_28 xs L n M a5 = some () → ∀ (H : Heap) (locs : List Loc) (ls : Array Slot), HS Y M H → va_S (AZ Y) s.heap H locs → lv_has ls 9 [(0, .ref b), (1, .ref (YA Y 0 0)), (2, .ref (YA Y 20 0)), (3, .ref (YA Y 33 0)), (4, .ref (YA Y 36 0)), (5, .int a5)] → W p l e room_1 s m #[Value.ref b] below meth c H locs C S (lw_Z below #[Value.ref b] s) (F0 m 28 ls []) := by
  obtain ⟨hx, hb, hr, hml, hown, hA, hlocks, hK, hZ⟩ := id C0
  have hR1 : room_1.cells = 603072 := rfl
  have hR2 : room_1.slots = 7182442 := rfl
  intro n
  induction n with
  | zero =>
    intro C S hC hS9 M a5 hf
    cases hf
  | succ n ih =>
    intro C S hC hS9 M a5 hf H locs ls hH hS hl
    rw [f_L_law_28] at hf
    refine lv_iload hx hb dL_law_28 (lv_at hl 5 rfl) ?_
    refine lv_aload_n hx hb dL_law_30 rfl (lv_at hl 0 rfl) ?_
    refine va_slen hx hb hX (Nat.lt_of_lt_of_le hbl hZ) (Nat.not_le.mpr hbl) hS dL_law_31 ?_
    refine lv_iconst (v := (5 : Int32)) hx hb dL_law_32 (by decide) ?_
    refine lv_isub hx hb dL_law_33 ?_
    refine lv_icmp_gt (tgt := 3295) hx hb dL_law_34 (by decide) (fun hc1456 => ?_) (fun hc1456 => ?_)
    · have hf := if_t hf hc1456
      refine lv_iconst (v := (1 : Int32)) hx hb dL_law_3295 (by decide) ?_
      refine va_forget (fun q hq => Nat.le_trans hYs (hS.2.2 q hq)) ?_
      refine W.widen (k := 603072) (n := 7182442) (by omega) (by omega) ?_
      exact lw_ret (d0 := s.drawn) (Drawn.sameBut.refl s.drawn lw_cs) hx hb hr hlocks dL_law_3296
    · have hf := if_f hf hc1456
      refine lv_aload_n hx hb dL_law_37 rfl (lv_at hl 0 rfl) ?_
      refine lv_iload hx hb dL_law_38 (lv_at hl 5 rfl) ?_
      obtain ⟨hg1395, hf⟩ := gd_o hf
      refine hl_sld hx hb hX (Nat.lt_of_lt_of_le hbl hZ) (Nat.not_le.mpr hbl) hS hg1395 dL_law_40 ?_
      refine lv_bipush (v := (63 : Int32)) hx hb dL_law_41 (by decide) ?_
      refine lv_iand hx hb dL_law_43 ?_
      by_cases hw1396 : ((xs (ix a5)) &&& (63 : Int32)) = (0 : Int32)
      · have hf := if_t hf hw1396
        refine lv_tableIn (tgt := 300) (off := 256) hx hb dL_law_44 (by rw [hw1396]; decide) (by rw [hw1396]; decide) (by rw [hw1396]; rfl) (by decide) ?_
        refine W.widen (k := C + 0) (n := S + 0) (by omega) (by omega) ?_
        exact w_L_law_300 C0 hl9 xs L hX hbl C S (by omega) (by omega) (f_L_law_28 xs L n) (ih (C + 60) (S + 8000) (by omega) (by omega)) M a5 hf _ _ _ hH hS (lv_sub hl [0, 1, 2, 3, 4, 5] rfl)
      have hf := if_f hf hw1396
      by_cases hw1397 : ((xs (ix a5)) &&& (63 : Int32)) = (1 : Int32)
      · have hf := if_t hf hw1397
        refine lv_tableIn (tgt := 344) (off := 300) hx hb dL_law_44 (by rw [hw1397]; decide) (by rw [hw1397]; decide) (by rw [hw1397]; rfl) (by decide) ?_
        refine W.widen (k := C + 0) (n := S + 0) (by omega) (by omega) ?_
        exact w_L_law_344 C0 hl9 xs L hX hbl C S (by omega) (by omega) (f_L_law_28 xs L n) (ih (C + 60) (S + 8000) (by omega) (by omega)) M a5 hf _ _ _ hH hS (lv_sub hl [0, 1, 2, 3, 4, 5] rfl)
      have hf := if_f hf hw1397
      by_cases hw1398 : ((xs (ix a5)) &&& (63 : Int32)) = (2 : Int32)
      · have hf := if_t hf hw1398
        refine lv_tableIn (tgt := 436) (off := 392) hx hb dL_law_44 (by rw [hw1398]; decide) (by rw [hw1398]; decide) (by rw [hw1398]; rfl) (by decide) ?_
        refine W.widen (k := C + 0) (n := S + 0) (by omega) (by omega) ?_
        exact w_L_law_436 C0 hl9 xs L hX hbl C S (by omega) (by omega) (f_L_law_28 xs L n) (ih (C + 60) (S + 8000) (by omega) (by omega)) M a5 hf _ _ _ hH hS (lv_sub hl [0, 1, 2, 3, 4, 5] rfl)
      have hf := if_f hf hw1398
      by_cases hw1399 : ((xs (ix a5)) &&& (63 : Int32)) = (3 : Int32)
      · have hf := if_t hf hw1399
        refine lv_tableIn (tgt := 492) (off := 448) hx hb dL_law_44 (by rw [hw1399]; decide) (by rw [hw1399]; decide) (by rw [hw1399]; rfl) (by decide) ?_
        refine W.widen (k := C + 0) (n := S + 0) (by omega) (by omega) ?_
        exact w_L_law_492 C0 hl9 xs L hX hbl C S (by omega) (by omega) (f_L_law_28 xs L n) (ih (C + 60) (S + 8000) (by omega) (by omega)) M a5 hf _ _ _ hH hS (lv_sub hl [0, 1, 2, 3, 4, 5] rfl)
      have hf := if_f hf hw1399
      by_cases hw1400 : ((xs (ix a5)) &&& (63 : Int32)) = (4 : Int32)
      · have hf := if_t hf hw1400
        refine lv_tableIn (tgt := 548) (off := 504) hx hb dL_law_44 (by rw [hw1400]; decide) (by rw [hw1400]; decide) (by rw [hw1400]; rfl) (by decide) ?_
        refine W.widen (k := C + 0) (n := S + 0) (by omega) (by omega) ?_
        exact w_L_law_548 C0 hl9 xs L hX hbl C S (by omega) (by omega) (f_L_law_28 xs L n) (ih (C + 60) (S + 8000) (by omega) (by omega)) M a5 hf _ _ _ hH hS (lv_sub hl [0, 1, 2, 3, 4, 5] rfl)
      have hf := if_f hf hw1400
      by_cases hw1401 : ((xs (ix a5)) &&& (63 : Int32)) = (5 : Int32)
      · have hf := if_t hf hw1401
        refine lv_tableIn (tgt := 640) (off := 596) hx hb dL_law_44 (by rw [hw1401]; decide) (by rw [hw1401]; decide) (by rw [hw1401]; rfl) (by decide) ?_
        refine W.widen (k := C + 0) (n := S + 0) (by omega) (by omega) ?_
        exact w_L_law_640 C0 hl9 xs L hX hbl C S (by omega) (by omega) (f_L_law_28 xs L n) (ih (C + 60) (S + 8000) (by omega) (by omega)) M a5 hf _ _ _ hH hS (lv_sub hl [0, 1, 2, 3, 4, 5] rfl)
      have hf := if_f hf hw1401
      by_cases hw1402 : ((xs (ix a5)) &&& (63 : Int32)) = (6 : Int32)
      · have hf := if_t hf hw1402
        refine lv_tableIn (tgt := 708) (off := 664) hx hb dL_law_44 (by rw [hw1402]; decide) (by rw [hw1402]; decide) (by rw [hw1402]; rfl) (by decide) ?_
        refine W.widen (k := C + 0) (n := S + 0) (by omega) (by omega) ?_
        exact w_L_law_708 C0 hl9 xs L hX hbl C S (by omega) (by omega) (f_L_law_28 xs L n) (ih (C + 60) (S + 8000) (by omega) (by omega)) M a5 hf _ _ _ hH hS (lv_sub hl [0, 1, 2, 3, 4, 5] rfl)
      have hf := if_f hf hw1402
      by_cases hw1403 : ((xs (ix a5)) &&& (63 : Int32)) = (7 : Int32)
      · have hf := if_t hf hw1403
        refine lv_tableIn (tgt := 776) (off := 732) hx hb dL_law_44 (by rw [hw1403]; decide) (by rw [hw1403]; decide) (by rw [hw1403]; rfl) (by decide) ?_
        refine W.widen (k := C + 0) (n := S + 0) (by omega) (by omega) ?_
        exact w_L_law_776 C0 hl9 xs L hX hbl C S (by omega) (by omega) (f_L_law_28 xs L n) (ih (C + 60) (S + 8000) (by omega) (by omega)) M a5 hf _ _ _ hH hS (lv_sub hl [0, 1, 2, 3, 4, 5] rfl)
      have hf := if_f hf hw1403
      by_cases hw1404 : ((xs (ix a5)) &&& (63 : Int32)) = (8 : Int32)
      · have hf := if_t hf hw1404
        refine lv_tableIn (tgt := 832) (off := 788) hx hb dL_law_44 (by rw [hw1404]; decide) (by rw [hw1404]; decide) (by rw [hw1404]; rfl) (by decide) ?_
        refine W.widen (k := C + 0) (n := S + 0) (by omega) (by omega) ?_
        exact w_L_law_832 C0 hl9 xs L hX hbl C S (by omega) (by omega) (f_L_law_28 xs L n) (ih (C + 60) (S + 8000) (by omega) (by omega)) M a5 hf _ _ _ hH hS (lv_sub hl [0, 1, 2, 3, 4, 5] rfl)
      have hf := if_f hf hw1404
      by_cases hw1405 : ((xs (ix a5)) &&& (63 : Int32)) = (9 : Int32)
      · have hf := if_t hf hw1405
        refine lv_tableIn (tgt := 845) (off := 801) hx hb dL_law_44 (by rw [hw1405]; decide) (by rw [hw1405]; decide) (by rw [hw1405]; rfl) (by decide) ?_
        refine W.widen (k := C + 0) (n := S + 0) (by omega) (by omega) ?_
        exact w_L_law_845 C0 hl9 xs L hX hbl C S (by omega) (by omega) (f_L_law_28 xs L n) (ih (C + 60) (S + 8000) (by omega) (by omega)) M a5 hf _ _ _ hH hS (lv_sub hl [0, 1, 2, 3, 4, 5] rfl)
      have hf := if_f hf hw1405
      by_cases hw1406 : ((xs (ix a5)) &&& (63 : Int32)) = (10 : Int32)
      · have hf := if_t hf hw1406
        refine lv_tableIn (tgt := 901) (off := 857) hx hb dL_law_44 (by rw [hw1406]; decide) (by rw [hw1406]; decide) (by rw [hw1406]; rfl) (by decide) ?_
        refine W.widen (k := C + 0) (n := S + 0) (by omega) (by omega) ?_
        exact w_L_law_901 C0 hl9 xs L hX hbl C S (by omega) (by omega) (f_L_law_28 xs L n) (ih (C + 60) (S + 8000) (by omega) (by omega)) M a5 hf _ _ _ hH hS (lv_sub hl [0, 1, 2, 3, 4, 5] rfl)
      have hf := if_f hf hw1406
      by_cases hw1407 : ((xs (ix a5)) &&& (63 : Int32)) = (11 : Int32)
      · have hf := if_t hf hw1407
        refine lv_tableIn (tgt := 914) (off := 870) hx hb dL_law_44 (by rw [hw1407]; decide) (by rw [hw1407]; decide) (by rw [hw1407]; rfl) (by decide) ?_
        refine W.widen (k := C + 0) (n := S + 0) (by omega) (by omega) ?_
        exact w_L_law_914 C0 hl9 xs L hX hbl C S (by omega) (by omega) (f_L_law_28 xs L n) (ih (C + 60) (S + 8000) (by omega) (by omega)) M a5 hf _ _ _ hH hS (lv_sub hl [0, 1, 2, 3, 4, 5] rfl)
      have hf := if_f hf hw1407
      by_cases hw1408 : ((xs (ix a5)) &&& (63 : Int32)) = (12 : Int32)
      · have hf := if_t hf hw1408
        refine lv_tableIn (tgt := 927) (off := 883) hx hb dL_law_44 (by rw [hw1408]; decide) (by rw [hw1408]; decide) (by rw [hw1408]; rfl) (by decide) ?_
        refine W.widen (k := C + 0) (n := S + 0) (by omega) (by omega) ?_
        exact w_L_law_927 C0 hl9 xs L hX hbl C S (by omega) (by omega) (f_L_law_28 xs L n) (ih (C + 60) (S + 8000) (by omega) (by omega)) M a5 hf _ _ _ hH hS (lv_sub hl [0, 1, 2, 3, 4, 5] rfl)
      have hf := if_f hf hw1408
      by_cases hw1409 : ((xs (ix a5)) &&& (63 : Int32)) = (13 : Int32)
      · have hf := if_t hf hw1409
        refine lv_tableIn (tgt := 940) (off := 896) hx hb dL_law_44 (by rw [hw1409]; decide) (by rw [hw1409]; decide) (by rw [hw1409]; rfl) (by decide) ?_
        refine W.widen (k := C + 0) (n := S + 0) (by omega) (by omega) ?_
        exact w_L_law_940 C0 hl9 xs L hX hbl C S (by omega) (by omega) (f_L_law_28 xs L n) (ih (C + 60) (S + 8000) (by omega) (by omega)) M a5 hf _ _ _ hH hS (lv_sub hl [0, 1, 2, 3, 4, 5] rfl)
      have hf := if_f hf hw1409
      by_cases hw1410 : ((xs (ix a5)) &&& (63 : Int32)) = (14 : Int32)
      · have hf := if_t hf hw1410
        refine lv_tableIn (tgt := 996) (off := 952) hx hb dL_law_44 (by rw [hw1410]; decide) (by rw [hw1410]; decide) (by rw [hw1410]; rfl) (by decide) ?_
        refine W.widen (k := C + 0) (n := S + 0) (by omega) (by omega) ?_
        exact w_L_law_996 C0 hl9 xs L hX hbl C S (by omega) (by omega) (f_L_law_28 xs L n) (ih (C + 60) (S + 8000) (by omega) (by omega)) M a5 hf _ _ _ hH hS (lv_sub hl [0, 1, 2, 3, 4, 5] rfl)
      have hf := if_f hf hw1410
      by_cases hw1411 : ((xs (ix a5)) &&& (63 : Int32)) = (15 : Int32)
      · have hf := if_t hf hw1411
        refine lv_tableIn (tgt := 1052) (off := 1008) hx hb dL_law_44 (by rw [hw1411]; decide) (by rw [hw1411]; decide) (by rw [hw1411]; rfl) (by decide) ?_
        refine W.widen (k := C + 0) (n := S + 0) (by omega) (by omega) ?_
        exact w_L_law_1052 C0 hl9 xs L hX hbl C S (by omega) (by omega) (f_L_law_28 xs L n) (ih (C + 60) (S + 8000) (by omega) (by omega)) M a5 hf _ _ _ hH hS (lv_sub hl [0, 1, 2, 3, 4, 5] rfl)
      have hf := if_f hf hw1411
      by_cases hw1412 : ((xs (ix a5)) &&& (63 : Int32)) = (16 : Int32)
      · have hf := if_t hf hw1412
        refine lv_tableIn (tgt := 1108) (off := 1064) hx hb dL_law_44 (by rw [hw1412]; decide) (by rw [hw1412]; decide) (by rw [hw1412]; rfl) (by decide) ?_
        refine W.widen (k := C + 0) (n := S + 0) (by omega) (by omega) ?_
        exact w_L_law_1108 C0 hl9 xs L hX hbl C S (by omega) (by omega) (f_L_law_28 xs L n) (ih (C + 60) (S + 8000) (by omega) (by omega)) M a5 hf _ _ _ hH hS (lv_sub hl [0, 1, 2, 3, 4, 5] rfl)
      have hf := if_f hf hw1412
      by_cases hw1413 : ((xs (ix a5)) &&& (63 : Int32)) = (17 : Int32)
      · have hf := if_t hf hw1413
        refine lv_tableIn (tgt := 1171) (off := 1127) hx hb dL_law_44 (by rw [hw1413]; decide) (by rw [hw1413]; decide) (by rw [hw1413]; rfl) (by decide) ?_
        refine W.widen (k := C + 0) (n := S + 0) (by omega) (by omega) ?_
        exact w_L_law_1171 C0 hl9 xs L hX hbl C S (by omega) (by omega) (f_L_law_28 xs L n) (ih (C + 60) (S + 8000) (by omega) (by omega)) M a5 hf _ _ _ hH hS (lv_sub hl [0, 1, 2, 3, 4, 5] rfl)
      have hf := if_f hf hw1413
      by_cases hw1414 : ((xs (ix a5)) &&& (63 : Int32)) = (18 : Int32)
      · have hf := if_t hf hw1414
        refine lv_tableIn (tgt := 1246) (off := 1202) hx hb dL_law_44 (by rw [hw1414]; decide) (by rw [hw1414]; decide) (by rw [hw1414]; rfl) (by decide) ?_
        refine W.widen (k := C + 0) (n := S + 0) (by omega) (by omega) ?_
        exact w_L_law_1246 C0 hl9 xs L hX hbl C S (by omega) (by omega) (f_L_law_28 xs L n) (ih (C + 60) (S + 8000) (by omega) (by omega)) M a5 hf _ _ _ hH hS (lv_sub hl [0, 1, 2, 3, 4, 5] rfl)
      have hf := if_f hf hw1414
      by_cases hw1415 : ((xs (ix a5)) &&& (63 : Int32)) = (19 : Int32)
      · have hf := if_t hf hw1415
        refine lv_tableIn (tgt := 1302) (off := 1258) hx hb dL_law_44 (by rw [hw1415]; decide) (by rw [hw1415]; decide) (by rw [hw1415]; rfl) (by decide) ?_
        refine W.widen (k := C + 0) (n := S + 0) (by omega) (by omega) ?_
        exact w_L_law_1302 C0 hl9 xs L hX hbl C S (by omega) (by omega) (f_L_law_28 xs L n) (ih (C + 60) (S + 8000) (by omega) (by omega)) M a5 hf _ _ _ hH hS (lv_sub hl [0, 1, 2, 3, 4, 5] rfl)
      have hf := if_f hf hw1415
      by_cases hw1416 : ((xs (ix a5)) &&& (63 : Int32)) = (20 : Int32)
      · have hf := if_t hf hw1416
        refine lv_tableIn (tgt := 1346) (off := 1302) hx hb dL_law_44 (by rw [hw1416]; decide) (by rw [hw1416]; decide) (by rw [hw1416]; rfl) (by decide) ?_
        refine W.widen (k := C + 0) (n := S + 0) (by omega) (by omega) ?_
        exact w_L_law_1346 C0 hl9 xs L hX hbl C S (by omega) (by omega) (f_L_law_28 xs L n) (ih (C + 60) (S + 8000) (by omega) (by omega)) M a5 hf _ _ _ hH hS (lv_sub hl [0, 1, 2, 3, 4, 5] rfl)
      have hf := if_f hf hw1416
      by_cases hw1417 : ((xs (ix a5)) &&& (63 : Int32)) = (21 : Int32)
      · have hf := if_t hf hw1417
        refine lv_tableIn (tgt := 1402) (off := 1358) hx hb dL_law_44 (by rw [hw1417]; decide) (by rw [hw1417]; decide) (by rw [hw1417]; rfl) (by decide) ?_
        refine W.widen (k := C + 0) (n := S + 0) (by omega) (by omega) ?_
        exact w_L_law_1402 C0 hl9 xs L hX hbl C S (by omega) (by omega) (f_L_law_28 xs L n) (ih (C + 60) (S + 8000) (by omega) (by omega)) M a5 hf _ _ _ hH hS (lv_sub hl [0, 1, 2, 3, 4, 5] rfl)
      have hf := if_f hf hw1417
      by_cases hw1418 : ((xs (ix a5)) &&& (63 : Int32)) = (22 : Int32)
      · have hf := if_t hf hw1418
        refine lv_tableIn (tgt := 1415) (off := 1371) hx hb dL_law_44 (by rw [hw1418]; decide) (by rw [hw1418]; decide) (by rw [hw1418]; rfl) (by decide) ?_
        refine W.widen (k := C + 0) (n := S + 0) (by omega) (by omega) ?_
        exact w_L_law_1415 C0 hl9 xs L hX hbl C S (by omega) (by omega) (f_L_law_28 xs L n) (ih (C + 60) (S + 8000) (by omega) (by omega)) M a5 hf _ _ _ hH hS (lv_sub hl [0, 1, 2, 3, 4, 5] rfl)
      have hf := if_f hf hw1418
      by_cases hw1419 : ((xs (ix a5)) &&& (63 : Int32)) = (23 : Int32)
      · have hf := if_t hf hw1419
        refine lv_tableIn (tgt := 1471) (off := 1427) hx hb dL_law_44 (by rw [hw1419]; decide) (by rw [hw1419]; decide) (by rw [hw1419]; rfl) (by decide) ?_
        refine W.widen (k := C + 0) (n := S + 0) (by omega) (by omega) ?_
        exact w_L_law_1471 C0 hl9 xs L hX hbl C S (by omega) (by omega) (f_L_law_28 xs L n) (ih (C + 60) (S + 8000) (by omega) (by omega)) M a5 hf _ _ _ hH hS (lv_sub hl [0, 1, 2, 3, 4, 5] rfl)
      have hf := if_f hf hw1419
      by_cases hw1420 : ((xs (ix a5)) &&& (63 : Int32)) = (24 : Int32)
      · have hf := if_t hf hw1420
        refine lv_tableIn (tgt := 1534) (off := 1490) hx hb dL_law_44 (by rw [hw1420]; decide) (by rw [hw1420]; decide) (by rw [hw1420]; rfl) (by decide) ?_
        refine W.widen (k := C + 0) (n := S + 0) (by omega) (by omega) ?_
        exact w_L_law_1534 C0 hl9 xs L hX hbl C S (by omega) (by omega) (f_L_law_28 xs L n) (ih (C + 60) (S + 8000) (by omega) (by omega)) M a5 hf _ _ _ hH hS (lv_sub hl [0, 1, 2, 3, 4, 5] rfl)
      have hf := if_f hf hw1420
      by_cases hw1421 : ((xs (ix a5)) &&& (63 : Int32)) = (25 : Int32)
      · have hf := if_t hf hw1421
        refine lv_tableIn (tgt := 1590) (off := 1546) hx hb dL_law_44 (by rw [hw1421]; decide) (by rw [hw1421]; decide) (by rw [hw1421]; rfl) (by decide) ?_
        refine W.widen (k := C + 0) (n := S + 0) (by omega) (by omega) ?_
        exact w_L_law_1590 C0 hl9 xs L hX hbl C S (by omega) (by omega) (f_L_law_28 xs L n) (ih (C + 60) (S + 8000) (by omega) (by omega)) M a5 hf _ _ _ hH hS (lv_sub hl [0, 1, 2, 3, 4, 5] rfl)
      have hf := if_f hf hw1421
      by_cases hw1422 : ((xs (ix a5)) &&& (63 : Int32)) = (26 : Int32)
      · have hf := if_t hf hw1422
        refine lv_tableIn (tgt := 1646) (off := 1602) hx hb dL_law_44 (by rw [hw1422]; decide) (by rw [hw1422]; decide) (by rw [hw1422]; rfl) (by decide) ?_
        refine W.widen (k := C + 0) (n := S + 0) (by omega) (by omega) ?_
        exact w_L_law_1646 C0 hl9 xs L hX hbl C S (by omega) (by omega) (f_L_law_28 xs L n) (ih (C + 60) (S + 8000) (by omega) (by omega)) M a5 hf _ _ _ hH hS (lv_sub hl [0, 1, 2, 3, 4, 5] rfl)
      have hf := if_f hf hw1422
      by_cases hw1423 : ((xs (ix a5)) &&& (63 : Int32)) = (27 : Int32)
      · have hf := if_t hf hw1423
        refine lv_tableIn (tgt := 1702) (off := 1658) hx hb dL_law_44 (by rw [hw1423]; decide) (by rw [hw1423]; decide) (by rw [hw1423]; rfl) (by decide) ?_
        refine W.widen (k := C + 0) (n := S + 0) (by omega) (by omega) ?_
        exact w_L_law_1702 C0 hl9 xs L hX hbl C S (by omega) (by omega) (f_L_law_28 xs L n) (ih (C + 60) (S + 8000) (by omega) (by omega)) M a5 hf _ _ _ hH hS (lv_sub hl [0, 1, 2, 3, 4, 5] rfl)
      have hf := if_f hf hw1423
      by_cases hw1424 : ((xs (ix a5)) &&& (63 : Int32)) = (28 : Int32)
      · have hf := if_t hf hw1424
        refine lv_tableIn (tgt := 1758) (off := 1714) hx hb dL_law_44 (by rw [hw1424]; decide) (by rw [hw1424]; decide) (by rw [hw1424]; rfl) (by decide) ?_
        refine W.widen (k := C + 0) (n := S + 0) (by omega) (by omega) ?_
        exact w_L_law_1758 C0 hl9 xs L hX hbl C S (by omega) (by omega) (f_L_law_28 xs L n) (ih (C + 60) (S + 8000) (by omega) (by omega)) M a5 hf _ _ _ hH hS (lv_sub hl [0, 1, 2, 3, 4, 5] rfl)
      have hf := if_f hf hw1424
      by_cases hw1425 : ((xs (ix a5)) &&& (63 : Int32)) = (29 : Int32)
      · have hf := if_t hf hw1425
        refine lv_tableIn (tgt := 1814) (off := 1770) hx hb dL_law_44 (by rw [hw1425]; decide) (by rw [hw1425]; decide) (by rw [hw1425]; rfl) (by decide) ?_
        refine W.widen (k := C + 0) (n := S + 0) (by omega) (by omega) ?_
        exact w_L_law_1814 C0 hl9 xs L hX hbl C S (by omega) (by omega) (f_L_law_28 xs L n) (ih (C + 60) (S + 8000) (by omega) (by omega)) M a5 hf _ _ _ hH hS (lv_sub hl [0, 1, 2, 3, 4, 5] rfl)
      have hf := if_f hf hw1425
      by_cases hw1426 : ((xs (ix a5)) &&& (63 : Int32)) = (30 : Int32)
      · have hf := if_t hf hw1426
        refine lv_tableIn (tgt := 1870) (off := 1826) hx hb dL_law_44 (by rw [hw1426]; decide) (by rw [hw1426]; decide) (by rw [hw1426]; rfl) (by decide) ?_
        refine W.widen (k := C + 0) (n := S + 0) (by omega) (by omega) ?_
        exact w_L_law_1870 C0 hl9 xs L hX hbl C S (by omega) (by omega) (f_L_law_28 xs L n) (ih (C + 60) (S + 8000) (by omega) (by omega)) M a5 hf _ _ _ hH hS (lv_sub hl [0, 1, 2, 3, 4, 5] rfl)
      have hf := if_f hf hw1426
      by_cases hw1427 : ((xs (ix a5)) &&& (63 : Int32)) = (31 : Int32)
      · have hf := if_t hf hw1427
        refine lv_tableIn (tgt := 1926) (off := 1882) hx hb dL_law_44 (by rw [hw1427]; decide) (by rw [hw1427]; decide) (by rw [hw1427]; rfl) (by decide) ?_
        refine W.widen (k := C + 0) (n := S + 0) (by omega) (by omega) ?_
        exact w_L_law_1926 C0 hl9 xs L hX hbl C S (by omega) (by omega) (f_L_law_28 xs L n) (ih (C + 60) (S + 8000) (by omega) (by omega)) M a5 hf _ _ _ hH hS (lv_sub hl [0, 1, 2, 3, 4, 5] rfl)
      have hf := if_f hf hw1427
      by_cases hw1428 : ((xs (ix a5)) &&& (63 : Int32)) = (32 : Int32)
      · have hf := if_t hf hw1428
        refine lv_tableIn (tgt := 2006) (off := 1962) hx hb dL_law_44 (by rw [hw1428]; decide) (by rw [hw1428]; decide) (by rw [hw1428]; rfl) (by decide) ?_
        refine W.widen (k := C + 0) (n := S + 0) (by omega) (by omega) ?_
        exact w_L_law_2006 C0 hl9 xs L hX hbl C S (by omega) (by omega) (f_L_law_28 xs L n) (ih (C + 60) (S + 8000) (by omega) (by omega)) M a5 hf _ _ _ hH hS (lv_sub hl [0, 1, 2, 3, 4, 5] rfl)
      have hf := if_f hf hw1428
      by_cases hw1429 : ((xs (ix a5)) &&& (63 : Int32)) = (33 : Int32)
      · have hf := if_t hf hw1429
        refine lv_tableIn (tgt := 2086) (off := 2042) hx hb dL_law_44 (by rw [hw1429]; decide) (by rw [hw1429]; decide) (by rw [hw1429]; rfl) (by decide) ?_
        refine W.widen (k := C + 0) (n := S + 0) (by omega) (by omega) ?_
        exact w_L_law_2086 C0 hl9 xs L hX hbl C S (by omega) (by omega) (f_L_law_28 xs L n) (ih (C + 60) (S + 8000) (by omega) (by omega)) M a5 hf _ _ _ hH hS (lv_sub hl [0, 1, 2, 3, 4, 5] rfl)
      have hf := if_f hf hw1429
      by_cases hw1430 : ((xs (ix a5)) &&& (63 : Int32)) = (34 : Int32)
      · have hf := if_t hf hw1430
        refine lv_tableIn (tgt := 2154) (off := 2110) hx hb dL_law_44 (by rw [hw1430]; decide) (by rw [hw1430]; decide) (by rw [hw1430]; rfl) (by decide) ?_
        refine W.widen (k := C + 0) (n := S + 0) (by omega) (by omega) ?_
        exact w_L_law_2154 C0 hl9 xs L hX hbl C S (by omega) (by omega) (f_L_law_28 xs L n) (ih (C + 60) (S + 8000) (by omega) (by omega)) M a5 hf _ _ _ hH hS (lv_sub hl [0, 1, 2, 3, 4, 5] rfl)
      have hf := if_f hf hw1430
      by_cases hw1431 : ((xs (ix a5)) &&& (63 : Int32)) = (35 : Int32)
      · have hf := if_t hf hw1431
        refine lv_tableIn (tgt := 2210) (off := 2166) hx hb dL_law_44 (by rw [hw1431]; decide) (by rw [hw1431]; decide) (by rw [hw1431]; rfl) (by decide) ?_
        refine W.widen (k := C + 0) (n := S + 0) (by omega) (by omega) ?_
        exact w_L_law_2210 C0 hl9 xs L hX hbl C S (by omega) (by omega) (f_L_law_28 xs L n) (ih (C + 60) (S + 8000) (by omega) (by omega)) M a5 hf _ _ _ hH hS (lv_sub hl [0, 1, 2, 3, 4, 5] rfl)
      have hf := if_f hf hw1431
      by_cases hw1432 : ((xs (ix a5)) &&& (63 : Int32)) = (36 : Int32)
      · have hf := if_t hf hw1432
        refine lv_tableIn (tgt := 2266) (off := 2222) hx hb dL_law_44 (by rw [hw1432]; decide) (by rw [hw1432]; decide) (by rw [hw1432]; rfl) (by decide) ?_
        refine W.widen (k := C + 0) (n := S + 0) (by omega) (by omega) ?_
        exact w_L_law_2266 C0 hl9 xs L hX hbl C S (by omega) (by omega) (f_L_law_28 xs L n) (ih (C + 60) (S + 8000) (by omega) (by omega)) M a5 hf _ _ _ hH hS (lv_sub hl [0, 1, 2, 3, 4, 5] rfl)
      have hf := if_f hf hw1432
      by_cases hw1433 : ((xs (ix a5)) &&& (63 : Int32)) = (37 : Int32)
      · have hf := if_t hf hw1433
        refine lv_tableIn (tgt := 2322) (off := 2278) hx hb dL_law_44 (by rw [hw1433]; decide) (by rw [hw1433]; decide) (by rw [hw1433]; rfl) (by decide) ?_
        refine W.widen (k := C + 0) (n := S + 0) (by omega) (by omega) ?_
        exact w_L_law_2322 C0 hl9 xs L hX hbl C S (by omega) (by omega) (f_L_law_28 xs L n) (ih (C + 60) (S + 8000) (by omega) (by omega)) M a5 hf _ _ _ hH hS (lv_sub hl [0, 1, 2, 3, 4, 5] rfl)
      have hf := if_f hf hw1433
      by_cases hw1434 : ((xs (ix a5)) &&& (63 : Int32)) = (38 : Int32)
      · have hf := if_t hf hw1434
        refine lv_tableIn (tgt := 2397) (off := 2353) hx hb dL_law_44 (by rw [hw1434]; decide) (by rw [hw1434]; decide) (by rw [hw1434]; rfl) (by decide) ?_
        refine W.widen (k := C + 0) (n := S + 0) (by omega) (by omega) ?_
        exact w_L_law_2397 C0 hl9 xs L hX hbl C S (by omega) (by omega) (f_L_law_28 xs L n) (ih (C + 60) (S + 8000) (by omega) (by omega)) M a5 hf _ _ _ hH hS (lv_sub hl [0, 1, 2, 3, 4, 5] rfl)
      have hf := if_f hf hw1434
      by_cases hw1435 : ((xs (ix a5)) &&& (63 : Int32)) = (39 : Int32)
      · have hf := if_t hf hw1435
        refine lv_tableIn (tgt := 2453) (off := 2409) hx hb dL_law_44 (by rw [hw1435]; decide) (by rw [hw1435]; decide) (by rw [hw1435]; rfl) (by decide) ?_
        refine W.widen (k := C + 0) (n := S + 0) (by omega) (by omega) ?_
        exact w_L_law_2453 C0 hl9 xs L hX hbl C S (by omega) (by omega) (f_L_law_28 xs L n) (ih (C + 60) (S + 8000) (by omega) (by omega)) M a5 hf _ _ _ hH hS (lv_sub hl [0, 1, 2, 3, 4, 5] rfl)
      have hf := if_f hf hw1435
      by_cases hw1436 : ((xs (ix a5)) &&& (63 : Int32)) = (40 : Int32)
      · have hf := if_t hf hw1436
        refine lv_tableIn (tgt := 2509) (off := 2465) hx hb dL_law_44 (by rw [hw1436]; decide) (by rw [hw1436]; decide) (by rw [hw1436]; rfl) (by decide) ?_
        refine W.widen (k := C + 0) (n := S + 0) (by omega) (by omega) ?_
        exact w_L_law_2509 C0 hl9 xs L hX hbl C S (by omega) (by omega) (f_L_law_28 xs L n) (ih (C + 60) (S + 8000) (by omega) (by omega)) M a5 hf _ _ _ hH hS (lv_sub hl [0, 1, 2, 3, 4, 5] rfl)
      have hf := if_f hf hw1436
      by_cases hw1437 : ((xs (ix a5)) &&& (63 : Int32)) = (41 : Int32)
      · have hf := if_t hf hw1437
        refine lv_tableIn (tgt := 2565) (off := 2521) hx hb dL_law_44 (by rw [hw1437]; decide) (by rw [hw1437]; decide) (by rw [hw1437]; rfl) (by decide) ?_
        refine W.widen (k := C + 0) (n := S + 0) (by omega) (by omega) ?_
        exact w_L_law_2565 C0 hl9 xs L hX hbl C S (by omega) (by omega) (f_L_law_28 xs L n) (ih (C + 60) (S + 8000) (by omega) (by omega)) M a5 hf _ _ _ hH hS (lv_sub hl [0, 1, 2, 3, 4, 5] rfl)
      have hf := if_f hf hw1437
      by_cases hw1438 : ((xs (ix a5)) &&& (63 : Int32)) = (42 : Int32)
      · have hf := if_t hf hw1438
        refine lv_tableIn (tgt := 2621) (off := 2577) hx hb dL_law_44 (by rw [hw1438]; decide) (by rw [hw1438]; decide) (by rw [hw1438]; rfl) (by decide) ?_
        refine W.widen (k := C + 0) (n := S + 0) (by omega) (by omega) ?_
        exact w_L_law_2621 C0 hl9 xs L hX hbl C S (by omega) (by omega) (f_L_law_28 xs L n) (ih (C + 60) (S + 8000) (by omega) (by omega)) M a5 hf _ _ _ hH hS (lv_sub hl [0, 1, 2, 3, 4, 5] rfl)
      have hf := if_f hf hw1438
      by_cases hw1439 : ((xs (ix a5)) &&& (63 : Int32)) = (43 : Int32)
      · have hf := if_t hf hw1439
        refine lv_tableIn (tgt := 2634) (off := 2590) hx hb dL_law_44 (by rw [hw1439]; decide) (by rw [hw1439]; decide) (by rw [hw1439]; rfl) (by decide) ?_
        refine W.widen (k := C + 0) (n := S + 0) (by omega) (by omega) ?_
        exact w_L_law_2634 C0 hl9 xs L hX hbl C S (by omega) (by omega) (f_L_law_28 xs L n) (ih (C + 60) (S + 8000) (by omega) (by omega)) M a5 hf _ _ _ hH hS (lv_sub hl [0, 1, 2, 3, 4, 5] rfl)
      have hf := if_f hf hw1439
      by_cases hw1440 : ((xs (ix a5)) &&& (63 : Int32)) = (44 : Int32)
      · have hf := if_t hf hw1440
        refine lv_tableIn (tgt := 2647) (off := 2603) hx hb dL_law_44 (by rw [hw1440]; decide) (by rw [hw1440]; decide) (by rw [hw1440]; rfl) (by decide) ?_
        refine W.widen (k := C + 0) (n := S + 0) (by omega) (by omega) ?_
        exact w_L_law_2647 C0 hl9 xs L hX hbl C S (by omega) (by omega) (f_L_law_28 xs L n) (ih (C + 60) (S + 8000) (by omega) (by omega)) M a5 hf _ _ _ hH hS (lv_sub hl [0, 1, 2, 3, 4, 5] rfl)
      have hf := if_f hf hw1440
      by_cases hw1441 : ((xs (ix a5)) &&& (63 : Int32)) = (45 : Int32)
      · have hf := if_t hf hw1441
        refine lv_tableIn (tgt := 2660) (off := 2616) hx hb dL_law_44 (by rw [hw1441]; decide) (by rw [hw1441]; decide) (by rw [hw1441]; rfl) (by decide) ?_
        refine W.widen (k := C + 0) (n := S + 0) (by omega) (by omega) ?_
        exact w_L_law_2660 C0 hl9 xs L hX hbl C S (by omega) (by omega) (f_L_law_28 xs L n) (ih (C + 60) (S + 8000) (by omega) (by omega)) M a5 hf _ _ _ hH hS (lv_sub hl [0, 1, 2, 3, 4, 5] rfl)
      have hf := if_f hf hw1441
      by_cases hw1442 : ((xs (ix a5)) &&& (63 : Int32)) = (46 : Int32)
      · have hf := if_t hf hw1442
        refine lv_tableIn (tgt := 2673) (off := 2629) hx hb dL_law_44 (by rw [hw1442]; decide) (by rw [hw1442]; decide) (by rw [hw1442]; rfl) (by decide) ?_
        refine W.widen (k := C + 0) (n := S + 0) (by omega) (by omega) ?_
        exact w_L_law_2673 C0 hl9 xs L hX hbl C S (by omega) (by omega) (f_L_law_28 xs L n) (ih (C + 60) (S + 8000) (by omega) (by omega)) M a5 hf _ _ _ hH hS (lv_sub hl [0, 1, 2, 3, 4, 5] rfl)
      have hf := if_f hf hw1442
      by_cases hw1443 : ((xs (ix a5)) &&& (63 : Int32)) = (47 : Int32)
      · have hf := if_t hf hw1443
        refine lv_tableIn (tgt := 2738) (off := 2694) hx hb dL_law_44 (by rw [hw1443]; decide) (by rw [hw1443]; decide) (by rw [hw1443]; rfl) (by decide) ?_
        refine W.widen (k := C + 0) (n := S + 0) (by omega) (by omega) ?_
        exact w_L_law_2738 C0 hl9 xs L hX hbl C S (by omega) (by omega) (f_L_law_28 xs L n) (ih (C + 60) (S + 8000) (by omega) (by omega)) M a5 hf _ _ _ hH hS (lv_sub hl [0, 1, 2, 3, 4, 5] rfl)
      have hf := if_f hf hw1443
      by_cases hw1444 : ((xs (ix a5)) &&& (63 : Int32)) = (48 : Int32)
      · have hf := if_t hf hw1444
        refine lv_tableIn (tgt := 2804) (off := 2760) hx hb dL_law_44 (by rw [hw1444]; decide) (by rw [hw1444]; decide) (by rw [hw1444]; rfl) (by decide) ?_
        refine W.widen (k := C + 0) (n := S + 0) (by omega) (by omega) ?_
        exact w_L_law_2804 C0 hl9 xs L hX hbl C S (by omega) (by omega) (f_L_law_28 xs L n) (ih (C + 60) (S + 8000) (by omega) (by omega)) M a5 hf _ _ _ hH hS (lv_sub hl [0, 1, 2, 3, 4, 5] rfl)
      have hf := if_f hf hw1444
      by_cases hw1445 : ((xs (ix a5)) &&& (63 : Int32)) = (49 : Int32)
      · have hf := if_t hf hw1445
        refine lv_tableIn (tgt := 2817) (off := 2773) hx hb dL_law_44 (by rw [hw1445]; decide) (by rw [hw1445]; decide) (by rw [hw1445]; rfl) (by decide) ?_
        refine W.widen (k := C + 0) (n := S + 0) (by omega) (by omega) ?_
        exact w_L_law_2817 C0 hl9 xs L hX hbl C S (by omega) (by omega) (f_L_law_28 xs L n) (ih (C + 60) (S + 8000) (by omega) (by omega)) M a5 hf _ _ _ hH hS (lv_sub hl [0, 1, 2, 3, 4, 5] rfl)
      have hf := if_f hf hw1445
      by_cases hw1446 : ((xs (ix a5)) &&& (63 : Int32)) = (50 : Int32)
      · have hf := if_t hf hw1446
        refine lv_tableIn (tgt := 2873) (off := 2829) hx hb dL_law_44 (by rw [hw1446]; decide) (by rw [hw1446]; decide) (by rw [hw1446]; rfl) (by decide) ?_
        refine W.widen (k := C + 0) (n := S + 0) (by omega) (by omega) ?_
        exact w_L_law_2873 C0 hl9 xs L hX hbl C S (by omega) (by omega) (f_L_law_28 xs L n) (ih (C + 60) (S + 8000) (by omega) (by omega)) M a5 hf _ _ _ hH hS (lv_sub hl [0, 1, 2, 3, 4, 5] rfl)
      have hf := if_f hf hw1446
      by_cases hw1447 : ((xs (ix a5)) &&& (63 : Int32)) = (51 : Int32)
      · have hf := if_t hf hw1447
        refine lv_tableIn (tgt := 2929) (off := 2885) hx hb dL_law_44 (by rw [hw1447]; decide) (by rw [hw1447]; decide) (by rw [hw1447]; rfl) (by decide) ?_
        refine W.widen (k := C + 0) (n := S + 0) (by omega) (by omega) ?_
        exact w_L_law_2929 C0 hl9 xs L hX hbl C S (by omega) (by omega) (f_L_law_28 xs L n) (ih (C + 60) (S + 8000) (by omega) (by omega)) M a5 hf _ _ _ hH hS (lv_sub hl [0, 1, 2, 3, 4, 5] rfl)
      have hf := if_f hf hw1447
      by_cases hw1448 : ((xs (ix a5)) &&& (63 : Int32)) = (52 : Int32)
      · have hf := if_t hf hw1448
        refine lv_tableIn (tgt := 2985) (off := 2941) hx hb dL_law_44 (by rw [hw1448]; decide) (by rw [hw1448]; decide) (by rw [hw1448]; rfl) (by decide) ?_
        refine W.widen (k := C + 0) (n := S + 0) (by omega) (by omega) ?_
        exact w_L_law_2985 C0 hl9 xs L hX hbl C S (by omega) (by omega) (f_L_law_28 xs L n) (ih (C + 60) (S + 8000) (by omega) (by omega)) M a5 hf _ _ _ hH hS (lv_sub hl [0, 1, 2, 3, 4, 5] rfl)
      have hf := if_f hf hw1448
      by_cases hw1449 : ((xs (ix a5)) &&& (63 : Int32)) = (53 : Int32)
      · have hf := if_t hf hw1449
        refine lv_tableIn (tgt := 3043) (off := 2999) hx hb dL_law_44 (by rw [hw1449]; decide) (by rw [hw1449]; decide) (by rw [hw1449]; rfl) (by decide) ?_
        refine W.widen (k := C + 0) (n := S + 0) (by omega) (by omega) ?_
        exact w_L_law_3043 C0 hl9 xs L hX hbl C S (by omega) (by omega) (f_L_law_28 xs L n) (ih (C + 60) (S + 8000) (by omega) (by omega)) M a5 hf _ _ _ hH hS (lv_sub hl [0, 1, 2, 3, 4, 5] rfl)
      have hf := if_f hf hw1449
      by_cases hw1450 : ((xs (ix a5)) &&& (63 : Int32)) = (54 : Int32)
      · have hf := if_t hf hw1450
        refine lv_tableIn (tgt := 3087) (off := 3043) hx hb dL_law_44 (by rw [hw1450]; decide) (by rw [hw1450]; decide) (by rw [hw1450]; rfl) (by decide) ?_
        refine W.widen (k := C + 0) (n := S + 0) (by omega) (by omega) ?_
        exact w_L_law_3087 C0 hl9 xs L hX hbl C S (by omega) (by omega) (f_L_law_28 xs L n) (ih (C + 60) (S + 8000) (by omega) (by omega)) M a5 hf _ _ _ hH hS (lv_sub hl [0, 1, 2, 3, 4, 5] rfl)
      have hf := if_f hf hw1450
      by_cases hw1451 : ((xs (ix a5)) &&& (63 : Int32)) = (55 : Int32)
      · have hf := if_t hf hw1451
        refine lv_tableIn (tgt := 3131) (off := 3087) hx hb dL_law_44 (by rw [hw1451]; decide) (by rw [hw1451]; decide) (by rw [hw1451]; rfl) (by decide) ?_
        refine W.widen (k := C + 0) (n := S + 0) (by omega) (by omega) ?_
        exact w_L_law_3131 C0 hl9 xs L hX hbl C S (by omega) (by omega) (f_L_law_28 xs L n) (ih (C + 60) (S + 8000) (by omega) (by omega)) M a5 hf _ _ _ hH hS (lv_sub hl [0, 1, 2, 3, 4, 5] rfl)
      have hf := if_f hf hw1451
      by_cases hw1452 : ((xs (ix a5)) &&& (63 : Int32)) = (56 : Int32)
      · have hf := if_t hf hw1452
        refine lv_tableIn (tgt := 3175) (off := 3131) hx hb dL_law_44 (by rw [hw1452]; decide) (by rw [hw1452]; decide) (by rw [hw1452]; rfl) (by decide) ?_
        refine W.widen (k := C + 0) (n := S + 0) (by omega) (by omega) ?_
        exact w_L_law_3175 C0 hl9 xs L hX hbl C S (by omega) (by omega) (f_L_law_28 xs L n) (ih (C + 60) (S + 8000) (by omega) (by omega)) M a5 hf _ _ _ hH hS (lv_sub hl [0, 1, 2, 3, 4, 5] rfl)
      have hf := if_f hf hw1452
      by_cases hw1453 : ((xs (ix a5)) &&& (63 : Int32)) = (57 : Int32)
      · have hf := if_t hf hw1453
        refine lv_tableIn (tgt := 3188) (off := 3144) hx hb dL_law_44 (by rw [hw1453]; decide) (by rw [hw1453]; decide) (by rw [hw1453]; rfl) (by decide) ?_
        refine W.widen (k := C + 0) (n := S + 0) (by omega) (by omega) ?_
        exact w_L_law_3188 C0 hl9 xs L hX hbl C S (by omega) (by omega) (f_L_law_28 xs L n) (ih (C + 60) (S + 8000) (by omega) (by omega)) M a5 hf _ _ _ hH hS (lv_sub hl [0, 1, 2, 3, 4, 5] rfl)
      have hf := if_f hf hw1453
      by_cases hw1454 : ((xs (ix a5)) &&& (63 : Int32)) = (58 : Int32)
      · have hf := if_t hf hw1454
        refine lv_tableIn (tgt := 3232) (off := 3188) hx hb dL_law_44 (by rw [hw1454]; decide) (by rw [hw1454]; decide) (by rw [hw1454]; rfl) (by decide) ?_
        refine W.widen (k := C + 0) (n := S + 0) (by omega) (by omega) ?_
        exact w_L_law_3232 C0 hl9 xs L hX hbl C S (by omega) (by omega) (f_L_law_28 xs L n) (ih (C + 60) (S + 8000) (by omega) (by omega)) M a5 hf _ _ _ hH hS (lv_sub hl [0, 1, 2, 3, 4, 5] rfl)
      have hf := if_f hf hw1454
      by_cases hw1455 : ((xs (ix a5)) &&& (63 : Int32)) = (59 : Int32)
      · have hf := if_t hf hw1455
        refine lv_tableIn (tgt := 3245) (off := 3201) hx hb dL_law_44 (by rw [hw1455]; decide) (by rw [hw1455]; decide) (by rw [hw1455]; rfl) (by decide) ?_
        refine W.widen (k := C + 0) (n := S + 0) (by omega) (by omega) ?_
        exact w_L_law_3245 C0 hl9 xs L hX hbl C S (by omega) (by omega) (f_L_law_28 xs L n) (ih (C + 60) (S + 8000) (by omega) (by omega)) M a5 hf _ _ _ hH hS (lv_sub hl [0, 1, 2, 3, 4, 5] rfl)
      have hf := if_f hf hw1455
      have ehw1396 := lv_neT hw1396 (show ((0 : Int32)).toInt = 0 from by decide)
      have ehw1397 := lv_neT hw1397 (show ((1 : Int32)).toInt = 1 from by decide)
      have ehw1398 := lv_neT hw1398 (show ((2 : Int32)).toInt = 2 from by decide)
      have ehw1399 := lv_neT hw1399 (show ((3 : Int32)).toInt = 3 from by decide)
      have ehw1400 := lv_neT hw1400 (show ((4 : Int32)).toInt = 4 from by decide)
      have ehw1401 := lv_neT hw1401 (show ((5 : Int32)).toInt = 5 from by decide)
      have ehw1402 := lv_neT hw1402 (show ((6 : Int32)).toInt = 6 from by decide)
      have ehw1403 := lv_neT hw1403 (show ((7 : Int32)).toInt = 7 from by decide)
      have ehw1404 := lv_neT hw1404 (show ((8 : Int32)).toInt = 8 from by decide)
      have ehw1405 := lv_neT hw1405 (show ((9 : Int32)).toInt = 9 from by decide)
      have ehw1406 := lv_neT hw1406 (show ((10 : Int32)).toInt = 10 from by decide)
      have ehw1407 := lv_neT hw1407 (show ((11 : Int32)).toInt = 11 from by decide)
      have ehw1408 := lv_neT hw1408 (show ((12 : Int32)).toInt = 12 from by decide)
      have ehw1409 := lv_neT hw1409 (show ((13 : Int32)).toInt = 13 from by decide)
      have ehw1410 := lv_neT hw1410 (show ((14 : Int32)).toInt = 14 from by decide)
      have ehw1411 := lv_neT hw1411 (show ((15 : Int32)).toInt = 15 from by decide)
      have ehw1412 := lv_neT hw1412 (show ((16 : Int32)).toInt = 16 from by decide)
      have ehw1413 := lv_neT hw1413 (show ((17 : Int32)).toInt = 17 from by decide)
      have ehw1414 := lv_neT hw1414 (show ((18 : Int32)).toInt = 18 from by decide)
      have ehw1415 := lv_neT hw1415 (show ((19 : Int32)).toInt = 19 from by decide)
      have ehw1416 := lv_neT hw1416 (show ((20 : Int32)).toInt = 20 from by decide)
      have ehw1417 := lv_neT hw1417 (show ((21 : Int32)).toInt = 21 from by decide)
      have ehw1418 := lv_neT hw1418 (show ((22 : Int32)).toInt = 22 from by decide)
      have ehw1419 := lv_neT hw1419 (show ((23 : Int32)).toInt = 23 from by decide)
      have ehw1420 := lv_neT hw1420 (show ((24 : Int32)).toInt = 24 from by decide)
      have ehw1421 := lv_neT hw1421 (show ((25 : Int32)).toInt = 25 from by decide)
      have ehw1422 := lv_neT hw1422 (show ((26 : Int32)).toInt = 26 from by decide)
      have ehw1423 := lv_neT hw1423 (show ((27 : Int32)).toInt = 27 from by decide)
      have ehw1424 := lv_neT hw1424 (show ((28 : Int32)).toInt = 28 from by decide)
      have ehw1425 := lv_neT hw1425 (show ((29 : Int32)).toInt = 29 from by decide)
      have ehw1426 := lv_neT hw1426 (show ((30 : Int32)).toInt = 30 from by decide)
      have ehw1427 := lv_neT hw1427 (show ((31 : Int32)).toInt = 31 from by decide)
      have ehw1428 := lv_neT hw1428 (show ((32 : Int32)).toInt = 32 from by decide)
      have ehw1429 := lv_neT hw1429 (show ((33 : Int32)).toInt = 33 from by decide)
      have ehw1430 := lv_neT hw1430 (show ((34 : Int32)).toInt = 34 from by decide)
      have ehw1431 := lv_neT hw1431 (show ((35 : Int32)).toInt = 35 from by decide)
      have ehw1432 := lv_neT hw1432 (show ((36 : Int32)).toInt = 36 from by decide)
      have ehw1433 := lv_neT hw1433 (show ((37 : Int32)).toInt = 37 from by decide)
      have ehw1434 := lv_neT hw1434 (show ((38 : Int32)).toInt = 38 from by decide)
      have ehw1435 := lv_neT hw1435 (show ((39 : Int32)).toInt = 39 from by decide)
      have ehw1436 := lv_neT hw1436 (show ((40 : Int32)).toInt = 40 from by decide)
      have ehw1437 := lv_neT hw1437 (show ((41 : Int32)).toInt = 41 from by decide)
      have ehw1438 := lv_neT hw1438 (show ((42 : Int32)).toInt = 42 from by decide)
      have ehw1439 := lv_neT hw1439 (show ((43 : Int32)).toInt = 43 from by decide)
      have ehw1440 := lv_neT hw1440 (show ((44 : Int32)).toInt = 44 from by decide)
      have ehw1441 := lv_neT hw1441 (show ((45 : Int32)).toInt = 45 from by decide)
      have ehw1442 := lv_neT hw1442 (show ((46 : Int32)).toInt = 46 from by decide)
      have ehw1443 := lv_neT hw1443 (show ((47 : Int32)).toInt = 47 from by decide)
      have ehw1444 := lv_neT hw1444 (show ((48 : Int32)).toInt = 48 from by decide)
      have ehw1445 := lv_neT hw1445 (show ((49 : Int32)).toInt = 49 from by decide)
      have ehw1446 := lv_neT hw1446 (show ((50 : Int32)).toInt = 50 from by decide)
      have ehw1447 := lv_neT hw1447 (show ((51 : Int32)).toInt = 51 from by decide)
      have ehw1448 := lv_neT hw1448 (show ((52 : Int32)).toInt = 52 from by decide)
      have ehw1449 := lv_neT hw1449 (show ((53 : Int32)).toInt = 53 from by decide)
      have ehw1450 := lv_neT hw1450 (show ((54 : Int32)).toInt = 54 from by decide)
      have ehw1451 := lv_neT hw1451 (show ((55 : Int32)).toInt = 55 from by decide)
      have ehw1452 := lv_neT hw1452 (show ((56 : Int32)).toInt = 56 from by decide)
      have ehw1453 := lv_neT hw1453 (show ((57 : Int32)).toInt = 57 from by decide)
      have ehw1454 := lv_neT hw1454 (show ((58 : Int32)).toInt = 58 from by decide)
      have ehw1455 := lv_neT hw1455 (show ((59 : Int32)).toInt = 59 from by decide)
      refine lv_tableOut (tgt := 3289) hx hb dL_law_44 (by omega) (by decide) ?_
      refine W.widen (k := C + 14) (n := S + 1696) (by omega) (by omega) ?_
      exact w_L_law_3289 C0 hl9 xs L hX hbl C S (by omega) (by omega) (f_L_law_28 xs L n) (ih (C + 60) (S + 8000) (by omega) (by omega)) M a5 hf _ _ _ hH hS (lv_sub hl [0, 1, 2, 3, 4, 5] rfl)
