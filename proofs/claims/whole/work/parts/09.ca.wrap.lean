def f_L_addPlace (M : Mem) : Option (Int32 × Mem) := bxh (f_X7_addPlace M) (fun (r8 : Int32) (M7 : Mem) => nm (mu M7 33 0 0 r8) fun M9 => some ((0 : Int32), M9)) (fun (e9 : Nat) (M7 : Mem) => (if e9 = 2 then some ((1 : Int32), M7) else none))
set_option maxHeartbeats 4000000 in
set_option maxRecDepth 100000 in
theorem c_L_addPlace {Y : LY} {l : Launch} (hl9 : l.stackTraces = false) (M : Mem) {r : Int32} {MZ : Mem} (hf : f_L_addPlace M = some (r, MZ)) : vx_Met l yL_addPlace (Cond.codeWith yL_addPlace cL_addPlace 3 (Option.some Jvm.ClassFile.FieldType.int) [(0, 8, 11, 13)] :: ALLW) { frames := 9, cells := 1, slots := 6, locals := 192 } (PcM Y M [.ref (YA Y 0 0), .ref (YA Y 33 0)]) (Qi Y r MZ) XN 1 6 (AZ Y) := by
  refine met_mkh (lv := [(0, .ref (YA Y 0 0)), (1, .ref (YA Y 33 0))]) [.ref (YA Y 0 0), .ref (YA Y 33 0)] (by decide) rfl rfl (Nat.le_of_ble_eq_true rfl) (fun p e s m below meth c C0 hT hH ls hl => ?_)
  have hS : va_S (AZ Y) s.heap s.heap [] := va_S.rf
  obtain ⟨hx, hb, hr, hml, hown, hA, hlocks, hK, hZ⟩ := id C0
  unfold f_L_addPlace at hf
  refine lv_aload_n hx hb dL_addPlace_0 rfl (lv_at hl 1 rfl) ?_
  refine lv_iconst (v := (0 : Int32)) hx hb dL_addPlace_1 (by decide) ?_
  refine lv_aload_n hx hb dL_addPlace_2 rfl (lv_at hl 0 rfl) ?_
  obtain ⟨yr8, M7, hq6, hf⟩ := bxh_o hf
  refine hl_ci (hx_runV C0 hH hS (n := 0) (As := []) (rest := [.int (0 : Int32), .ref (YA Y 33 0)]) (c_X7_addPlace hl9 M hq6) ⟨⟨zt_691, zt_692, zt_693, zt_1, zt_694⟩, rfl, by decide, by decide, by decide +kernel⟩ ⟨rfl, rfl, Nat.le_of_ble_eq_true rfl, Nat.le_of_ble_eq_true rfl⟩ (hs_recv hK hH 0 0 (by decide) 11 rfl rfl) rfl rfl hl.1 (Nat.le_of_ble_eq_true rfl) ⟨Nat.le_of_ble_eq_true rfl, Nat.le_of_ble_eq_true rfl⟩ dL_addPlace_3) hS (fun k9 E9 q9 ce9 H locs e9 hE hH hS h1 h2 h3 => ?_) (fun r8 er8 H locs hH hS => ?_)
  · subst e9
    have hf := bxh_x hf
    by_cases hc10 : k9 = 2
    · subst hc10
      have hf := if_t hf rfl
      cases hE
      refine hl_catch C0 hT (by decide) [] ⟨0, 8, 11, 13⟩ [] rfl (fun _ h => nomatch h) (by decide) (by decide) zt_690 h1 h2 h3 ?_
      refine lv_astore_n (lv' := [(2, .ref q9), (0, .ref (YA Y 0 0)), (1, .ref (YA Y 33 0))]) hx hb dL_addPlace_11 rfl hl (by decide) rfl (fun ls hl => ?_)
      refine lv_iconst (v := (1 : Int32)) hx hb dL_addPlace_12 (by decide) ?_
      cases hf
      exact vx_ret (hs_iret C0 hH hS (by decide) (by decide) dL_addPlace_13)
    have hf := if_f hf hc10
    cases hf
  · subst er8
    have hf := bxh_v hf
    refine lv_i2l (v := r8.toInt64) hx hb dL_addPlace_6 rfl ?_
    refine hl_lastore hx hb hK hH hS (v := r8) rfl dL_addPlace_7 (fun H locs hH hS => ?_)
    obtain ⟨M9, eM9, hf⟩ := nm_o hf
    rw [← eM9] at hH
    refine lv_goto (tgt := 14) hx hb dL_addPlace_8 (by decide) ?_
    refine lv_iconst (v := (0 : Int32)) hx hb dL_addPlace_14 (by decide) ?_
    cases hf
    exact vx_ret (hs_iret C0 hH hS (by decide) (by decide) dL_addPlace_15)
def f_L_addLink (M : Mem) (a1 : Int32) (a2 : Int32) (a3 : Int32) (a4 : Int32) : Option (Int32 × Mem) := bxh (f_X7_addLink M a1 a2 a3 a4) (fun (r10 : Int32) (M9 : Mem) => nm (mu M9 33 0 0 r10) fun M11 => some ((0 : Int32), M11)) (fun (e9 : Nat) (M9 : Mem) => (if e9 = 0 then some ((1 : Int32), M9) else (if e9 = 1 then some ((2 : Int32), M9) else (if e9 = 2 then some ((3 : Int32), M9) else none))))
set_option maxHeartbeats 4000000 in
set_option maxRecDepth 100000 in
theorem c_L_addLink {Y : LY} {l : Launch} (hl9 : l.stackTraces = false) (M : Mem) (a1 : Int32) (a2 : Int32) (a3 : Int32) (a4 : Int32) {r : Int32} {MZ : Mem} (hf : f_L_addLink M a1 a2 a3 a4 = some (r, MZ)) : vx_Met l yL_addLink (Cond.codeWith yL_addLink cL_addLink 7 (Option.some Jvm.ClassFile.FieldType.int) [(0, 14, 17, 19), (0, 14, 21, 21), (0, 14, 25, 13)] :: ALLW) { frames := 9, cells := 1, slots := 6, locals := 196 } (PcM Y M [.ref (YA Y 0 0), .int a1, .int a2, .int a3, .int a4, .ref (YA Y 33 0)]) (Qi Y r MZ) XN 1 6 (AZ Y) := by
  refine met_mkh (lv := [(0, .ref (YA Y 0 0)), (1, .int a1), (2, .int a2), (3, .int a3), (4, .int a4), (5, .ref (YA Y 33 0))]) [.ref (YA Y 0 0), .int a1, .int a2, .int a3, .int a4, .ref (YA Y 33 0)] (by decide) rfl rfl (Nat.le_of_ble_eq_true rfl) (fun p e s m below meth c C0 hT hH ls hl => ?_)
  have hS : va_S (AZ Y) s.heap s.heap [] := va_S.rf
  obtain ⟨hx, hb, hr, hml, hown, hA, hlocks, hK, hZ⟩ := id C0
  unfold f_L_addLink at hf
  refine lv_aload hx hb dL_addLink_0 (lv_at hl 5 rfl) ?_
  refine lv_iconst (v := (0 : Int32)) hx hb dL_addLink_2 (by decide) ?_
  refine lv_aload_n hx hb dL_addLink_3 rfl (lv_at hl 0 rfl) ?_
  refine lv_iload_n hx hb dL_addLink_4 rfl (lv_at hl 1 rfl) ?_
  refine lv_iload_n hx hb dL_addLink_5 rfl (lv_at hl 2 rfl) ?_
  refine lv_iload_n hx hb dL_addLink_6 rfl (lv_at hl 3 rfl) ?_
  refine lv_iload hx hb dL_addLink_7 (lv_at hl 4 rfl) ?_
  obtain ⟨yr10, M9, hq8, hf⟩ := bxh_o hf
  refine hl_ci (hx_runV C0 hH hS (n := 4) (As := [.int a1, .int a2, .int a3, .int a4]) (rest := [.int (0 : Int32), .ref (YA Y 33 0)]) (c_X7_addLink hl9 M a1 a2 a3 a4 hq8) ⟨⟨zt_720, zt_721, zt_722, zt_1, zt_723⟩, rfl, by decide, by decide, by decide +kernel⟩ ⟨rfl, rfl, Nat.le_of_ble_eq_true rfl, Nat.le_of_ble_eq_true rfl⟩ (hs_recv hK hH 0 0 (by decide) 11 rfl rfl) rfl rfl hl.1 (Nat.le_of_ble_eq_true rfl) ⟨Nat.le_of_ble_eq_true rfl, Nat.le_of_ble_eq_true rfl⟩ dL_addLink_9) hS (fun k9 E9 q9 ce9 H locs e9 hE hH hS h1 h2 h3 => ?_) (fun r10 er10 H locs hH hS => ?_)
  · subst e9
    have hf := bxh_x hf
    by_cases hc14 : k9 = 0
    · subst hc14
      have hf := if_t hf rfl
      cases hE
      refine hl_catch C0 hT (by decide) [] ⟨0, 14, 17, 19⟩ [⟨0, 14, 21, 21⟩, ⟨0, 14, 25, 13⟩] rfl (fun _ h => nomatch h) (by decide) (by decide) zt_698 h1 h2 h3 ?_
      refine lv_astore (lv' := [(6, .ref q9), (0, .ref (YA Y 0 0)), (1, .int a1), (2, .int a2), (3, .int a3), (4, .int a4), (5, .ref (YA Y 33 0))]) hx hb dL_addLink_17 hl (by decide) rfl (fun ls hl => ?_)
      refine lv_iconst (v := (1 : Int32)) hx hb dL_addLink_19 (by decide) ?_
      cases hf
      exact vx_ret (hs_iret C0 hH hS (by decide) (by decide) dL_addLink_20)
    have hf := if_f hf hc14
    by_cases hc13 : k9 = 1
    · subst hc13
      have hf := if_t hf rfl
      cases hE
      refine hl_catch C0 hT (by decide) [⟨0, 14, 17, 19⟩] ⟨0, 14, 21, 21⟩ [⟨0, 14, 25, 13⟩] rfl (List.forall_mem_cons.mpr ⟨Or.inr ⟨by decide, "java/lang/IndexOutOfBoundsException", zt_698, by decide, by decide⟩, (fun _ h => nomatch h)⟩) (by decide) (by decide) zt_719 h1 h2 h3 ?_
      refine lv_astore (lv' := [(6, .ref q9), (0, .ref (YA Y 0 0)), (1, .int a1), (2, .int a2), (3, .int a3), (4, .int a4), (5, .ref (YA Y 33 0))]) hx hb dL_addLink_21 hl (by decide) rfl (fun ls hl => ?_)
      refine lv_iconst (v := (2 : Int32)) hx hb dL_addLink_23 (by decide) ?_
      cases hf
      exact vx_ret (hs_iret C0 hH hS (by decide) (by decide) dL_addLink_24)
    have hf := if_f hf hc13
    by_cases hc12 : k9 = 2
    · subst hc12
      have hf := if_t hf rfl
      cases hE
      refine hl_catch C0 hT (by decide) [⟨0, 14, 17, 19⟩, ⟨0, 14, 21, 21⟩] ⟨0, 14, 25, 13⟩ [] rfl (List.forall_mem_cons.mpr ⟨Or.inr ⟨by decide, "java/lang/IndexOutOfBoundsException", zt_698, by decide, by decide⟩, (List.forall_mem_cons.mpr ⟨Or.inr ⟨by decide, "java/lang/IllegalArgumentException", zt_719, by decide, by decide⟩, (fun _ h => nomatch h)⟩)⟩) (by decide) (by decide) zt_690 h1 h2 h3 ?_
      refine lv_astore (lv' := [(6, .ref q9), (0, .ref (YA Y 0 0)), (1, .int a1), (2, .int a2), (3, .int a3), (4, .int a4), (5, .ref (YA Y 33 0))]) hx hb dL_addLink_25 hl (by decide) rfl (fun ls hl => ?_)
      refine lv_iconst (v := (3 : Int32)) hx hb dL_addLink_27 (by decide) ?_
      cases hf
      exact vx_ret (hs_iret C0 hH hS (by decide) (by decide) dL_addLink_28)
    have hf := if_f hf hc12
    cases hf
  · subst er10
    have hf := bxh_v hf
    refine lv_i2l (v := r10.toInt64) hx hb dL_addLink_12 rfl ?_
    refine hl_lastore hx hb hK hH hS (v := r10) rfl dL_addLink_13 (fun H locs hH hS => ?_)
    obtain ⟨M11, eM11, hf⟩ := nm_o hf
    rw [← eM11] at hH
    refine lv_goto (tgt := 29) hx hb dL_addLink_14 (by decide) ?_
    refine lv_iconst (v := (0 : Int32)) hx hb dL_addLink_29 (by decide) ?_
    cases hf
    exact vx_ret (hs_iret C0 hH hS (by decide) (by decide) dL_addLink_30)
def f_L_block (M : Mem) (a1 : Int32) : Option (Int32 × Mem) := bxh (f_X7_block M a1) (fun (r9 : Int32) (M8 : Mem) => nm (mu M8 33 0 0 r9) fun M10 => some ((0 : Int32), M10)) (fun (e9 : Nat) (M8 : Mem) => (if e9 = 0 then some ((1 : Int32), M8) else (if e9 = 2 then some ((2 : Int32), M8) else none)))
set_option maxHeartbeats 4000000 in
set_option maxRecDepth 100000 in
theorem c_L_block {Y : LY} {l : Launch} (hl9 : l.stackTraces = false) (M : Mem) (a1 : Int32) {r : Int32} {MZ : Mem} (hf : f_L_block M a1 = some (r, MZ)) : vx_Met l yL_block (Cond.codeWith yL_block cL_block 4 (Option.some Jvm.ClassFile.FieldType.int) [(0, 9, 12, 19), (0, 9, 15, 13)] :: ALLW) { frames := 9, cells := 1, slots := 6, locals := 193 } (PcM Y M [.ref (YA Y 0 0), .int a1, .ref (YA Y 33 0)]) (Qi Y r MZ) XN 1 6 (AZ Y) := by
  refine met_mkh (lv := [(0, .ref (YA Y 0 0)), (1, .int a1), (2, .ref (YA Y 33 0))]) [.ref (YA Y 0 0), .int a1, .ref (YA Y 33 0)] (by decide) rfl rfl (Nat.le_of_ble_eq_true rfl) (fun p e s m below meth c C0 hT hH ls hl => ?_)
  have hS : va_S (AZ Y) s.heap s.heap [] := va_S.rf
  obtain ⟨hx, hb, hr, hml, hown, hA, hlocks, hK, hZ⟩ := id C0
  unfold f_L_block at hf
  refine lv_aload_n hx hb dL_block_0 rfl (lv_at hl 2 rfl) ?_
  refine lv_iconst (v := (0 : Int32)) hx hb dL_block_1 (by decide) ?_
  refine lv_aload_n hx hb dL_block_2 rfl (lv_at hl 0 rfl) ?_
  refine lv_iload_n hx hb dL_block_3 rfl (lv_at hl 1 rfl) ?_
  obtain ⟨yr9, M8, hq7, hf⟩ := bxh_o hf
  refine hl_ci (hx_runV C0 hH hS (n := 1) (As := [.int a1]) (rest := [.int (0 : Int32), .ref (YA Y 33 0)]) (c_X7_block hl9 M a1 hq7) ⟨⟨zt_727, zt_728, zt_729, zt_1, zt_730⟩, rfl, by decide, by decide, by decide +kernel⟩ ⟨rfl, rfl, Nat.le_of_ble_eq_true rfl, Nat.le_of_ble_eq_true rfl⟩ (hs_recv hK hH 0 0 (by decide) 11 rfl rfl) rfl rfl hl.1 (Nat.le_of_ble_eq_true rfl) ⟨Nat.le_of_ble_eq_true rfl, Nat.le_of_ble_eq_true rfl⟩ dL_block_4) hS (fun k9 E9 q9 ce9 H locs e9 hE hH hS h1 h2 h3 => ?_) (fun r9 er9 H locs hH hS => ?_)
  · subst e9
    have hf := bxh_x hf
    by_cases hc12 : k9 = 0
    · subst hc12
      have hf := if_t hf rfl
      cases hE
      refine hl_catch C0 hT (by decide) [] ⟨0, 9, 12, 19⟩ [⟨0, 9, 15, 13⟩] rfl (fun _ h => nomatch h) (by decide) (by decide) zt_698 h1 h2 h3 ?_
      refine lv_astore_n (lv' := [(3, .ref q9), (0, .ref (YA Y 0 0)), (1, .int a1), (2, .ref (YA Y 33 0))]) hx hb dL_block_12 rfl hl (by decide) rfl (fun ls hl => ?_)
      refine lv_iconst (v := (1 : Int32)) hx hb dL_block_13 (by decide) ?_
      cases hf
      exact vx_ret (hs_iret C0 hH hS (by decide) (by decide) dL_block_14)
    have hf := if_f hf hc12
    by_cases hc11 : k9 = 2
    · subst hc11
      have hf := if_t hf rfl
      cases hE
      refine hl_catch C0 hT (by decide) [⟨0, 9, 12, 19⟩] ⟨0, 9, 15, 13⟩ [] rfl (List.forall_mem_cons.mpr ⟨Or.inr ⟨by decide, "java/lang/IndexOutOfBoundsException", zt_698, by decide, by decide⟩, (fun _ h => nomatch h)⟩) (by decide) (by decide) zt_690 h1 h2 h3 ?_
      refine lv_astore_n (lv' := [(3, .ref q9), (0, .ref (YA Y 0 0)), (1, .int a1), (2, .ref (YA Y 33 0))]) hx hb dL_block_15 rfl hl (by decide) rfl (fun ls hl => ?_)
      refine lv_iconst (v := (2 : Int32)) hx hb dL_block_16 (by decide) ?_
      cases hf
      exact vx_ret (hs_iret C0 hH hS (by decide) (by decide) dL_block_17)
    have hf := if_f hf hc11
    cases hf
  · subst er9
    have hf := bxh_v hf
    refine lv_i2l (v := r9.toInt64) hx hb dL_block_7 rfl ?_
    refine hl_lastore hx hb hK hH hS (v := r9) rfl dL_block_8 (fun H locs hH hS => ?_)
    obtain ⟨M10, eM10, hf⟩ := nm_o hf
    rw [← eM10] at hH
    refine lv_goto (tgt := 18) hx hb dL_block_9 (by decide) ?_
    refine lv_iconst (v := (0 : Int32)) hx hb dL_block_18 (by decide) ?_
    cases hf
    exact vx_ret (hs_iret C0 hH hS (by decide) (by decide) dL_block_19)
def f_L_open (M : Mem) (a1 : Int32) : Option (Int32 × Mem) := bxh (f_X7_open M a1) (fun (r9 : Int32) (M8 : Mem) => nm (mu M8 33 0 0 r9) fun M10 => some ((0 : Int32), M10)) (fun (e9 : Nat) (M8 : Mem) => (if e9 = 0 then some ((1 : Int32), M8) else (if e9 = 2 then some ((2 : Int32), M8) else none)))
set_option maxHeartbeats 4000000 in
set_option maxRecDepth 100000 in
theorem c_L_open {Y : LY} {l : Launch} (hl9 : l.stackTraces = false) (M : Mem) (a1 : Int32) {r : Int32} {MZ : Mem} (hf : f_L_open M a1 = some (r, MZ)) : vx_Met l yL_open (Cond.codeWith yL_open cL_open 4 (Option.some Jvm.ClassFile.FieldType.int) [(0, 9, 12, 19), (0, 9, 15, 13)] :: ALLW) { frames := 9, cells := 1, slots := 6, locals := 193 } (PcM Y M [.ref (YA Y 0 0), .int a1, .ref (YA Y 33 0)]) (Qi Y r MZ) XN 1 6 (AZ Y) := by
  refine met_mkh (lv := [(0, .ref (YA Y 0 0)), (1, .int a1), (2, .ref (YA Y 33 0))]) [.ref (YA Y 0 0), .int a1, .ref (YA Y 33 0)] (by decide) rfl rfl (Nat.le_of_ble_eq_true rfl) (fun p e s m below meth c C0 hT hH ls hl => ?_)
  have hS : va_S (AZ Y) s.heap s.heap [] := va_S.rf
  obtain ⟨hx, hb, hr, hml, hown, hA, hlocks, hK, hZ⟩ := id C0
  unfold f_L_open at hf
  refine lv_aload_n hx hb dL_open_0 rfl (lv_at hl 2 rfl) ?_
  refine lv_iconst (v := (0 : Int32)) hx hb dL_open_1 (by decide) ?_
  refine lv_aload_n hx hb dL_open_2 rfl (lv_at hl 0 rfl) ?_
  refine lv_iload_n hx hb dL_open_3 rfl (lv_at hl 1 rfl) ?_
  obtain ⟨yr9, M8, hq7, hf⟩ := bxh_o hf
  refine hl_ci (hx_runV C0 hH hS (n := 1) (As := [.int a1]) (rest := [.int (0 : Int32), .ref (YA Y 33 0)]) (c_X7_open hl9 M a1 hq7) ⟨⟨zt_734, zt_735, zt_736, zt_1, zt_737⟩, rfl, by decide, by decide, by decide +kernel⟩ ⟨rfl, rfl, Nat.le_of_ble_eq_true rfl, Nat.le_of_ble_eq_true rfl⟩ (hs_recv hK hH 0 0 (by decide) 11 rfl rfl) rfl rfl hl.1 (Nat.le_of_ble_eq_true rfl) ⟨Nat.le_of_ble_eq_true rfl, Nat.le_of_ble_eq_true rfl⟩ dL_open_4) hS (fun k9 E9 q9 ce9 H locs e9 hE hH hS h1 h2 h3 => ?_) (fun r9 er9 H locs hH hS => ?_)
  · subst e9
    have hf := bxh_x hf
    by_cases hc12 : k9 = 0
    · subst hc12
      have hf := if_t hf rfl
      cases hE
      refine hl_catch C0 hT (by decide) [] ⟨0, 9, 12, 19⟩ [⟨0, 9, 15, 13⟩] rfl (fun _ h => nomatch h) (by decide) (by decide) zt_698 h1 h2 h3 ?_
      refine lv_astore_n (lv' := [(3, .ref q9), (0, .ref (YA Y 0 0)), (1, .int a1), (2, .ref (YA Y 33 0))]) hx hb dL_open_12 rfl hl (by decide) rfl (fun ls hl => ?_)
      refine lv_iconst (v := (1 : Int32)) hx hb dL_open_13 (by decide) ?_
      cases hf
      exact vx_ret (hs_iret C0 hH hS (by decide) (by decide) dL_open_14)
    have hf := if_f hf hc12
    by_cases hc11 : k9 = 2
    · subst hc11
      have hf := if_t hf rfl
      cases hE
      refine hl_catch C0 hT (by decide) [⟨0, 9, 12, 19⟩] ⟨0, 9, 15, 13⟩ [] rfl (List.forall_mem_cons.mpr ⟨Or.inr ⟨by decide, "java/lang/IndexOutOfBoundsException", zt_698, by decide, by decide⟩, (fun _ h => nomatch h)⟩) (by decide) (by decide) zt_690 h1 h2 h3 ?_
      refine lv_astore_n (lv' := [(3, .ref q9), (0, .ref (YA Y 0 0)), (1, .int a1), (2, .ref (YA Y 33 0))]) hx hb dL_open_15 rfl hl (by decide) rfl (fun ls hl => ?_)
      refine lv_iconst (v := (2 : Int32)) hx hb dL_open_16 (by decide) ?_
      cases hf
      exact vx_ret (hs_iret C0 hH hS (by decide) (by decide) dL_open_17)
    have hf := if_f hf hc11
    cases hf
  · subst er9
    have hf := bxh_v hf
    refine lv_i2l (v := r9.toInt64) hx hb dL_open_7 rfl ?_
    refine hl_lastore hx hb hK hH hS (v := r9) rfl dL_open_8 (fun H locs hH hS => ?_)
    obtain ⟨M10, eM10, hf⟩ := nm_o hf
    rw [← eM10] at hH
    refine lv_goto (tgt := 18) hx hb dL_open_9 (by decide) ?_
    refine lv_iconst (v := (0 : Int32)) hx hb dL_open_18 (by decide) ?_
    cases hf
    exact vx_ret (hs_iret C0 hH hS (by decide) (by decide) dL_open_19)
def f_L_post (M : Mem) (a1 : Int32) (a2 : Int32) (a3 : Int32) (a4 : Int32) : Option (Int32 × Mem) := bxh (f_X7_post M a1 a2 a3 a4) (fun (r10 : Int32) (M9 : Mem) => nm (mu M9 33 0 0 r10) fun M11 => some ((0 : Int32), M11)) (fun (e9 : Nat) (M9 : Mem) => (if e9 = 0 then some ((1 : Int32), M9) else (if e9 = 1 then some ((2 : Int32), M9) else (if e9 = 2 then some ((3 : Int32), M9) else none))))
set_option maxHeartbeats 4000000 in
set_option maxRecDepth 100000 in
theorem c_L_post {Y : LY} {l : Launch} (hl9 : l.stackTraces = false) (M : Mem) (a1 : Int32) (a2 : Int32) (a3 : Int32) (a4 : Int32) {r : Int32} {MZ : Mem} (hf : f_L_post M a1 a2 a3 a4 = some (r, MZ)) : vx_Met l yL_post (Cond.codeWith yL_post cL_post 7 (Option.some Jvm.ClassFile.FieldType.int) [(0, 14, 17, 19), (0, 14, 21, 21), (0, 14, 25, 13)] :: ALLW) { frames := 9, cells := 1, slots := 6, locals := 196 } (PcM Y M [.ref (YA Y 0 0), .int a1, .int a2, .int a3, .int a4, .ref (YA Y 33 0)]) (Qi Y r MZ) XN 1 6 (AZ Y) := by
  refine met_mkh (lv := [(0, .ref (YA Y 0 0)), (1, .int a1), (2, .int a2), (3, .int a3), (4, .int a4), (5, .ref (YA Y 33 0))]) [.ref (YA Y 0 0), .int a1, .int a2, .int a3, .int a4, .ref (YA Y 33 0)] (by decide) rfl rfl (Nat.le_of_ble_eq_true rfl) (fun p e s m below meth c C0 hT hH ls hl => ?_)
  have hS : va_S (AZ Y) s.heap s.heap [] := va_S.rf
  obtain ⟨hx, hb, hr, hml, hown, hA, hlocks, hK, hZ⟩ := id C0
  unfold f_L_post at hf
  refine lv_aload hx hb dL_post_0 (lv_at hl 5 rfl) ?_
  refine lv_iconst (v := (0 : Int32)) hx hb dL_post_2 (by decide) ?_
  refine lv_aload_n hx hb dL_post_3 rfl (lv_at hl 0 rfl) ?_
  refine lv_iload_n hx hb dL_post_4 rfl (lv_at hl 1 rfl) ?_
  refine lv_iload_n hx hb dL_post_5 rfl (lv_at hl 2 rfl) ?_
  refine lv_iload_n hx hb dL_post_6 rfl (lv_at hl 3 rfl) ?_
  refine lv_iload hx hb dL_post_7 (lv_at hl 4 rfl) ?_
  obtain ⟨yr10, M9, hq8, hf⟩ := bxh_o hf
  refine hl_ci (hx_runV C0 hH hS (n := 4) (As := [.int a1, .int a2, .int a3, .int a4]) (rest := [.int (0 : Int32), .ref (YA Y 33 0)]) (c_X7_post hl9 M a1 a2 a3 a4 hq8) ⟨⟨zt_741, zt_742, zt_743, zt_1, zt_744⟩, rfl, by decide, by decide, by decide +kernel⟩ ⟨rfl, rfl, Nat.le_of_ble_eq_true rfl, Nat.le_of_ble_eq_true rfl⟩ (hs_recv hK hH 0 0 (by decide) 11 rfl rfl) rfl rfl hl.1 (Nat.le_of_ble_eq_true rfl) ⟨Nat.le_of_ble_eq_true rfl, Nat.le_of_ble_eq_true rfl⟩ dL_post_9) hS (fun k9 E9 q9 ce9 H locs e9 hE hH hS h1 h2 h3 => ?_) (fun r10 er10 H locs hH hS => ?_)
  · subst e9
    have hf := bxh_x hf
    by_cases hc14 : k9 = 0
    · subst hc14
      have hf := if_t hf rfl
      cases hE
      refine hl_catch C0 hT (by decide) [] ⟨0, 14, 17, 19⟩ [⟨0, 14, 21, 21⟩, ⟨0, 14, 25, 13⟩] rfl (fun _ h => nomatch h) (by decide) (by decide) zt_698 h1 h2 h3 ?_
      refine lv_astore (lv' := [(6, .ref q9), (0, .ref (YA Y 0 0)), (1, .int a1), (2, .int a2), (3, .int a3), (4, .int a4), (5, .ref (YA Y 33 0))]) hx hb dL_post_17 hl (by decide) rfl (fun ls hl => ?_)
      refine lv_iconst (v := (1 : Int32)) hx hb dL_post_19 (by decide) ?_
      cases hf
      exact vx_ret (hs_iret C0 hH hS (by decide) (by decide) dL_post_20)
    have hf := if_f hf hc14
    by_cases hc13 : k9 = 1
    · subst hc13
      have hf := if_t hf rfl
      cases hE
      refine hl_catch C0 hT (by decide) [⟨0, 14, 17, 19⟩] ⟨0, 14, 21, 21⟩ [⟨0, 14, 25, 13⟩] rfl (List.forall_mem_cons.mpr ⟨Or.inr ⟨by decide, "java/lang/IndexOutOfBoundsException", zt_698, by decide, by decide⟩, (fun _ h => nomatch h)⟩) (by decide) (by decide) zt_719 h1 h2 h3 ?_
      refine lv_astore (lv' := [(6, .ref q9), (0, .ref (YA Y 0 0)), (1, .int a1), (2, .int a2), (3, .int a3), (4, .int a4), (5, .ref (YA Y 33 0))]) hx hb dL_post_21 hl (by decide) rfl (fun ls hl => ?_)
      refine lv_iconst (v := (2 : Int32)) hx hb dL_post_23 (by decide) ?_
      cases hf
      exact vx_ret (hs_iret C0 hH hS (by decide) (by decide) dL_post_24)
    have hf := if_f hf hc13
    by_cases hc12 : k9 = 2
    · subst hc12
      have hf := if_t hf rfl
      cases hE
      refine hl_catch C0 hT (by decide) [⟨0, 14, 17, 19⟩, ⟨0, 14, 21, 21⟩] ⟨0, 14, 25, 13⟩ [] rfl (List.forall_mem_cons.mpr ⟨Or.inr ⟨by decide, "java/lang/IndexOutOfBoundsException", zt_698, by decide, by decide⟩, (List.forall_mem_cons.mpr ⟨Or.inr ⟨by decide, "java/lang/IllegalArgumentException", zt_719, by decide, by decide⟩, (fun _ h => nomatch h)⟩)⟩) (by decide) (by decide) zt_690 h1 h2 h3 ?_
      refine lv_astore (lv' := [(6, .ref q9), (0, .ref (YA Y 0 0)), (1, .int a1), (2, .int a2), (3, .int a3), (4, .int a4), (5, .ref (YA Y 33 0))]) hx hb dL_post_25 hl (by decide) rfl (fun ls hl => ?_)
      refine lv_iconst (v := (3 : Int32)) hx hb dL_post_27 (by decide) ?_
      cases hf
      exact vx_ret (hs_iret C0 hH hS (by decide) (by decide) dL_post_28)
    have hf := if_f hf hc12
    cases hf
  · subst er10
    have hf := bxh_v hf
    refine lv_i2l (v := r10.toInt64) hx hb dL_post_12 rfl ?_
    refine hl_lastore hx hb hK hH hS (v := r10) rfl dL_post_13 (fun H locs hH hS => ?_)
    obtain ⟨M11, eM11, hf⟩ := nm_o hf
    rw [← eM11] at hH
    refine lv_goto (tgt := 29) hx hb dL_post_14 (by decide) ?_
    refine lv_iconst (v := (0 : Int32)) hx hb dL_post_29 (by decide) ?_
    cases hf
    exact vx_ret (hs_iret C0 hH hS (by decide) (by decide) dL_post_30)
def f_L_send (M : Mem) (a1 : Int32) (a2 : Int32) : Option (Int32 × Mem) := bxh (f_X7_send M a1 a2) (fun (r10 : Int32) (M9 : Mem) => nm (mu M9 33 0 0 r10) fun M11 => some ((0 : Int32), M11)) (fun (e9 : Nat) (M9 : Mem) => (if e9 = 3 then some ((1 : Int32), M9) else (if e9 = 0 then some ((2 : Int32), M9) else (if e9 = 2 then some ((3 : Int32), M9) else none))))
set_option maxHeartbeats 4000000 in
set_option maxRecDepth 100000 in
theorem c_L_send {Y : LY} {l : Launch} (hl9 : l.stackTraces = false) (M : Mem) (a1 : Int32) (a2 : Int32) {r : Int32} {MZ : Mem} (hf : f_L_send M a1 a2 = some (r, MZ)) : vx_Met l yL_send (Cond.codeWith yL_send cL_send 5 (Option.some Jvm.ClassFile.FieldType.int) [(0, 10, 13, 37), (0, 10, 17, 19), (0, 10, 21, 13)] :: ALLW) { frames := 9, cells := 1, slots := 6, locals := 194 } (PcM Y M [.ref (YA Y 0 0), .int a1, .int a2, .ref (YA Y 33 0)]) (Qi Y r MZ) XN 1 6 (AZ Y) := by
  refine met_mkh (lv := [(0, .ref (YA Y 0 0)), (1, .int a1), (2, .int a2), (3, .ref (YA Y 33 0))]) [.ref (YA Y 0 0), .int a1, .int a2, .ref (YA Y 33 0)] (by decide) rfl rfl (Nat.le_of_ble_eq_true rfl) (fun p e s m below meth c C0 hT hH ls hl => ?_)
  have hS : va_S (AZ Y) s.heap s.heap [] := va_S.rf
  obtain ⟨hx, hb, hr, hml, hown, hA, hlocks, hK, hZ⟩ := id C0
  unfold f_L_send at hf
  refine lv_aload_n hx hb dL_send_0 rfl (lv_at hl 3 rfl) ?_
  refine lv_iconst (v := (0 : Int32)) hx hb dL_send_1 (by decide) ?_
  refine lv_aload_n hx hb dL_send_2 rfl (lv_at hl 0 rfl) ?_
  refine lv_iload_n hx hb dL_send_3 rfl (lv_at hl 1 rfl) ?_
  refine lv_iload_n hx hb dL_send_4 rfl (lv_at hl 2 rfl) ?_
  obtain ⟨yr10, M9, hq8, hf⟩ := bxh_o hf
  refine hl_ci (hx_runV C0 hH hS (n := 2) (As := [.int a1, .int a2]) (rest := [.int (0 : Int32), .ref (YA Y 33 0)]) (c_X7_send hl9 M a1 a2 hq8) ⟨⟨zt_749, zt_750, zt_751, zt_1, zt_752⟩, rfl, by decide, by decide, by decide +kernel⟩ ⟨rfl, rfl, Nat.le_of_ble_eq_true rfl, Nat.le_of_ble_eq_true rfl⟩ (hs_recv hK hH 0 0 (by decide) 11 rfl rfl) rfl rfl hl.1 (Nat.le_of_ble_eq_true rfl) ⟨Nat.le_of_ble_eq_true rfl, Nat.le_of_ble_eq_true rfl⟩ dL_send_5) hS (fun k9 E9 q9 ce9 H locs e9 hE hH hS h1 h2 h3 => ?_) (fun r10 er10 H locs hH hS => ?_)
  · subst e9
    have hf := bxh_x hf
    by_cases hc14 : k9 = 3
    · subst hc14
      have hf := if_t hf rfl
      cases hE
      refine hl_catch C0 hT (by decide) [] ⟨0, 10, 13, 37⟩ [⟨0, 10, 17, 19⟩, ⟨0, 10, 21, 13⟩] rfl (fun _ h => nomatch h) (by decide) (by decide) zt_748 h1 h2 h3 ?_
      refine lv_astore (lv' := [(4, .ref q9), (0, .ref (YA Y 0 0)), (1, .int a1), (2, .int a2), (3, .ref (YA Y 33 0))]) hx hb dL_send_13 hl (by decide) rfl (fun ls hl => ?_)
      refine lv_iconst (v := (1 : Int32)) hx hb dL_send_15 (by decide) ?_
      cases hf
      exact vx_ret (hs_iret C0 hH hS (by decide) (by decide) dL_send_16)
    have hf := if_f hf hc14
    by_cases hc13 : k9 = 0
    · subst hc13
      have hf := if_t hf rfl
      cases hE
      refine hl_catch C0 hT (by decide) [⟨0, 10, 13, 37⟩] ⟨0, 10, 17, 19⟩ [⟨0, 10, 21, 13⟩] rfl (List.forall_mem_cons.mpr ⟨Or.inr ⟨by decide, "java/util/NoSuchElementException", zt_748, by decide, by decide⟩, (fun _ h => nomatch h)⟩) (by decide) (by decide) zt_698 h1 h2 h3 ?_
      refine lv_astore (lv' := [(4, .ref q9), (0, .ref (YA Y 0 0)), (1, .int a1), (2, .int a2), (3, .ref (YA Y 33 0))]) hx hb dL_send_17 hl (by decide) rfl (fun ls hl => ?_)
      refine lv_iconst (v := (2 : Int32)) hx hb dL_send_19 (by decide) ?_
      cases hf
      exact vx_ret (hs_iret C0 hH hS (by decide) (by decide) dL_send_20)
    have hf := if_f hf hc13
    by_cases hc12 : k9 = 2
    · subst hc12
      have hf := if_t hf rfl
      cases hE
      refine hl_catch C0 hT (by decide) [⟨0, 10, 13, 37⟩, ⟨0, 10, 17, 19⟩] ⟨0, 10, 21, 13⟩ [] rfl (List.forall_mem_cons.mpr ⟨Or.inr ⟨by decide, "java/util/NoSuchElementException", zt_748, by decide, by decide⟩, (List.forall_mem_cons.mpr ⟨Or.inr ⟨by decide, "java/lang/IndexOutOfBoundsException", zt_698, by decide, by decide⟩, (fun _ h => nomatch h)⟩)⟩) (by decide) (by decide) zt_690 h1 h2 h3 ?_
      refine lv_astore (lv' := [(4, .ref q9), (0, .ref (YA Y 0 0)), (1, .int a1), (2, .int a2), (3, .ref (YA Y 33 0))]) hx hb dL_send_21 hl (by decide) rfl (fun ls hl => ?_)
      refine lv_iconst (v := (3 : Int32)) hx hb dL_send_23 (by decide) ?_
      cases hf
      exact vx_ret (hs_iret C0 hH hS (by decide) (by decide) dL_send_24)
    have hf := if_f hf hc12
    cases hf
  · subst er10
    have hf := bxh_v hf
    refine lv_i2l (v := r10.toInt64) hx hb dL_send_8 rfl ?_
    refine hl_lastore hx hb hK hH hS (v := r10) rfl dL_send_9 (fun H locs hH hS => ?_)
    obtain ⟨M11, eM11, hf⟩ := nm_o hf
    rw [← eM11] at hH
    refine lv_goto (tgt := 25) hx hb dL_send_10 (by decide) ?_
    refine lv_iconst (v := (0 : Int32)) hx hb dL_send_25 (by decide) ?_
    cases hf
    exact vx_ret (hs_iret C0 hH hS (by decide) (by decide) dL_send_26)
def f_L_addStamps (M : Mem) (a1 : Int32) (a2 : Int32) : Option (Int32 × Mem) := bxh (f_X7_addStamps M a1 a2) (fun (r10 : Int32) (M9 : Mem) => nm (mu M9 33 0 0 r10) fun M11 => some ((0 : Int32), M11)) (fun (e9 : Nat) (M9 : Mem) => (if e9 = 3 then some ((1 : Int32), M9) else (if e9 = 1 then some ((2 : Int32), M9) else (if e9 = 2 then some ((3 : Int32), M9) else none))))
set_option maxHeartbeats 4000000 in
set_option maxRecDepth 100000 in
theorem c_L_addStamps {Y : LY} {l : Launch} (hl9 : l.stackTraces = false) (M : Mem) (a1 : Int32) (a2 : Int32) {r : Int32} {MZ : Mem} (hf : f_L_addStamps M a1 a2 = some (r, MZ)) : vx_Met l yL_addStamps (Cond.codeWith yL_addStamps cL_addStamps 5 (Option.some Jvm.ClassFile.FieldType.int) [(0, 10, 13, 37), (0, 10, 17, 21), (0, 10, 21, 13)] :: ALLW) { frames := 9, cells := 1, slots := 6, locals := 194 } (PcM Y M [.ref (YA Y 0 0), .int a1, .int a2, .ref (YA Y 33 0)]) (Qi Y r MZ) XN 1 6 (AZ Y) := by
  refine met_mkh (lv := [(0, .ref (YA Y 0 0)), (1, .int a1), (2, .int a2), (3, .ref (YA Y 33 0))]) [.ref (YA Y 0 0), .int a1, .int a2, .ref (YA Y 33 0)] (by decide) rfl rfl (Nat.le_of_ble_eq_true rfl) (fun p e s m below meth c C0 hT hH ls hl => ?_)
  have hS : va_S (AZ Y) s.heap s.heap [] := va_S.rf
  obtain ⟨hx, hb, hr, hml, hown, hA, hlocks, hK, hZ⟩ := id C0
  unfold f_L_addStamps at hf
  refine lv_aload_n hx hb dL_addStamps_0 rfl (lv_at hl 3 rfl) ?_
  refine lv_iconst (v := (0 : Int32)) hx hb dL_addStamps_1 (by decide) ?_
  refine lv_aload_n hx hb dL_addStamps_2 rfl (lv_at hl 0 rfl) ?_
  refine lv_iload_n hx hb dL_addStamps_3 rfl (lv_at hl 1 rfl) ?_
  refine lv_iload_n hx hb dL_addStamps_4 rfl (lv_at hl 2 rfl) ?_
  obtain ⟨yr10, M9, hq8, hf⟩ := bxh_o hf
  refine hl_ci (hx_runV C0 hH hS (n := 2) (As := [.int a1, .int a2]) (rest := [.int (0 : Int32), .ref (YA Y 33 0)]) (c_X7_addStamps hl9 M a1 a2 hq8) ⟨⟨zt_756, zt_757, zt_758, zt_1, zt_759⟩, rfl, by decide, by decide, by decide +kernel⟩ ⟨rfl, rfl, Nat.le_of_ble_eq_true rfl, Nat.le_of_ble_eq_true rfl⟩ (hs_recv hK hH 0 0 (by decide) 11 rfl rfl) rfl rfl hl.1 (Nat.le_of_ble_eq_true rfl) ⟨Nat.le_of_ble_eq_true rfl, Nat.le_of_ble_eq_true rfl⟩ dL_addStamps_5) hS (fun k9 E9 q9 ce9 H locs e9 hE hH hS h1 h2 h3 => ?_) (fun r10 er10 H locs hH hS => ?_)
  · subst e9
    have hf := bxh_x hf
    by_cases hc14 : k9 = 3
    · subst hc14
      have hf := if_t hf rfl
      cases hE
      refine hl_catch C0 hT (by decide) [] ⟨0, 10, 13, 37⟩ [⟨0, 10, 17, 21⟩, ⟨0, 10, 21, 13⟩] rfl (fun _ h => nomatch h) (by decide) (by decide) zt_748 h1 h2 h3 ?_
      refine lv_astore (lv' := [(4, .ref q9), (0, .ref (YA Y 0 0)), (1, .int a1), (2, .int a2), (3, .ref (YA Y 33 0))]) hx hb dL_addStamps_13 hl (by decide) rfl (fun ls hl => ?_)
      refine lv_iconst (v := (1 : Int32)) hx hb dL_addStamps_15 (by decide) ?_
      cases hf
      exact vx_ret (hs_iret C0 hH hS (by decide) (by decide) dL_addStamps_16)
    have hf := if_f hf hc14
    by_cases hc13 : k9 = 1
    · subst hc13
      have hf := if_t hf rfl
      cases hE
      refine hl_catch C0 hT (by decide) [⟨0, 10, 13, 37⟩] ⟨0, 10, 17, 21⟩ [⟨0, 10, 21, 13⟩] rfl (List.forall_mem_cons.mpr ⟨Or.inr ⟨by decide, "java/util/NoSuchElementException", zt_748, by decide, by decide⟩, (fun _ h => nomatch h)⟩) (by decide) (by decide) zt_719 h1 h2 h3 ?_
      refine lv_astore (lv' := [(4, .ref q9), (0, .ref (YA Y 0 0)), (1, .int a1), (2, .int a2), (3, .ref (YA Y 33 0))]) hx hb dL_addStamps_17 hl (by decide) rfl (fun ls hl => ?_)
      refine lv_iconst (v := (2 : Int32)) hx hb dL_addStamps_19 (by decide) ?_
      cases hf
      exact vx_ret (hs_iret C0 hH hS (by decide) (by decide) dL_addStamps_20)
    have hf := if_f hf hc13
    by_cases hc12 : k9 = 2
    · subst hc12
      have hf := if_t hf rfl
      cases hE
      refine hl_catch C0 hT (by decide) [⟨0, 10, 13, 37⟩, ⟨0, 10, 17, 21⟩] ⟨0, 10, 21, 13⟩ [] rfl (List.forall_mem_cons.mpr ⟨Or.inr ⟨by decide, "java/util/NoSuchElementException", zt_748, by decide, by decide⟩, (List.forall_mem_cons.mpr ⟨Or.inr ⟨by decide, "java/lang/IllegalArgumentException", zt_719, by decide, by decide⟩, (fun _ h => nomatch h)⟩)⟩) (by decide) (by decide) zt_690 h1 h2 h3 ?_
      refine lv_astore (lv' := [(4, .ref q9), (0, .ref (YA Y 0 0)), (1, .int a1), (2, .int a2), (3, .ref (YA Y 33 0))]) hx hb dL_addStamps_21 hl (by decide) rfl (fun ls hl => ?_)
      refine lv_iconst (v := (3 : Int32)) hx hb dL_addStamps_23 (by decide) ?_
      cases hf
      exact vx_ret (hs_iret C0 hH hS (by decide) (by decide) dL_addStamps_24)
    have hf := if_f hf hc12
    cases hf
  · subst er10
    have hf := bxh_v hf
    refine lv_i2l (v := r10.toInt64) hx hb dL_addStamps_8 rfl ?_
    refine hl_lastore hx hb hK hH hS (v := r10) rfl dL_addStamps_9 (fun H locs hH hS => ?_)
    obtain ⟨M11, eM11, hf⟩ := nm_o hf
    rw [← eM11] at hH
    refine lv_goto (tgt := 25) hx hb dL_addStamps_10 (by decide) ?_
    refine lv_iconst (v := (0 : Int32)) hx hb dL_addStamps_25 (by decide) ?_
    cases hf
    exact vx_ret (hs_iret C0 hH hS (by decide) (by decide) dL_addStamps_26)
def f_L_takeBack (M : Mem) (a1 : Int32) : Option (Int32 × Mem) := bxh (f_X7_takeBack M a1) (fun (r9 : Int32) (M8 : Mem) => nm (mu M8 33 0 0 r9) fun M10 => some ((0 : Int32), M10)) (fun (e9 : Nat) (M8 : Mem) => (if e9 = 3 then some ((1 : Int32), M8) else (if e9 = 2 then some ((2 : Int32), M8) else none)))
set_option maxHeartbeats 4000000 in
set_option maxRecDepth 100000 in
theorem c_L_takeBack {Y : LY} {l : Launch} (hl9 : l.stackTraces = false) (M : Mem) (a1 : Int32) {r : Int32} {MZ : Mem} (hf : f_L_takeBack M a1 = some (r, MZ)) : vx_Met l yL_takeBack (Cond.codeWith yL_takeBack cL_takeBack 4 (Option.some Jvm.ClassFile.FieldType.int) [(0, 9, 12, 37), (0, 9, 15, 13)] :: ALLW) { frames := 9, cells := 1, slots := 6, locals := 193 } (PcM Y M [.ref (YA Y 0 0), .int a1, .ref (YA Y 33 0)]) (Qi Y r MZ) XN 1 6 (AZ Y) := by
  refine met_mkh (lv := [(0, .ref (YA Y 0 0)), (1, .int a1), (2, .ref (YA Y 33 0))]) [.ref (YA Y 0 0), .int a1, .ref (YA Y 33 0)] (by decide) rfl rfl (Nat.le_of_ble_eq_true rfl) (fun p e s m below meth c C0 hT hH ls hl => ?_)
  have hS : va_S (AZ Y) s.heap s.heap [] := va_S.rf
  obtain ⟨hx, hb, hr, hml, hown, hA, hlocks, hK, hZ⟩ := id C0
  unfold f_L_takeBack at hf
  refine lv_aload_n hx hb dL_takeBack_0 rfl (lv_at hl 2 rfl) ?_
  refine lv_iconst (v := (0 : Int32)) hx hb dL_takeBack_1 (by decide) ?_
  refine lv_aload_n hx hb dL_takeBack_2 rfl (lv_at hl 0 rfl) ?_
  refine lv_iload_n hx hb dL_takeBack_3 rfl (lv_at hl 1 rfl) ?_
  obtain ⟨yr9, M8, hq7, hf⟩ := bxh_o hf
  refine hl_ci (hx_runV C0 hH hS (n := 1) (As := [.int a1]) (rest := [.int (0 : Int32), .ref (YA Y 33 0)]) (c_X7_takeBack hl9 M a1 hq7) ⟨⟨zt_763, zt_764, zt_765, zt_1, zt_766⟩, rfl, by decide, by decide, by decide +kernel⟩ ⟨rfl, rfl, Nat.le_of_ble_eq_true rfl, Nat.le_of_ble_eq_true rfl⟩ (hs_recv hK hH 0 0 (by decide) 11 rfl rfl) rfl rfl hl.1 (Nat.le_of_ble_eq_true rfl) ⟨Nat.le_of_ble_eq_true rfl, Nat.le_of_ble_eq_true rfl⟩ dL_takeBack_4) hS (fun k9 E9 q9 ce9 H locs e9 hE hH hS h1 h2 h3 => ?_) (fun r9 er9 H locs hH hS => ?_)
  · subst e9
    have hf := bxh_x hf
    by_cases hc12 : k9 = 3
    · subst hc12
      have hf := if_t hf rfl
      cases hE
      refine hl_catch C0 hT (by decide) [] ⟨0, 9, 12, 37⟩ [⟨0, 9, 15, 13⟩] rfl (fun _ h => nomatch h) (by decide) (by decide) zt_748 h1 h2 h3 ?_
      refine lv_astore_n (lv' := [(3, .ref q9), (0, .ref (YA Y 0 0)), (1, .int a1), (2, .ref (YA Y 33 0))]) hx hb dL_takeBack_12 rfl hl (by decide) rfl (fun ls hl => ?_)
      refine lv_iconst (v := (1 : Int32)) hx hb dL_takeBack_13 (by decide) ?_
      cases hf
      exact vx_ret (hs_iret C0 hH hS (by decide) (by decide) dL_takeBack_14)
    have hf := if_f hf hc12
    by_cases hc11 : k9 = 2
    · subst hc11
      have hf := if_t hf rfl
      cases hE
      refine hl_catch C0 hT (by decide) [⟨0, 9, 12, 37⟩] ⟨0, 9, 15, 13⟩ [] rfl (List.forall_mem_cons.mpr ⟨Or.inr ⟨by decide, "java/util/NoSuchElementException", zt_748, by decide, by decide⟩, (fun _ h => nomatch h)⟩) (by decide) (by decide) zt_690 h1 h2 h3 ?_
      refine lv_astore_n (lv' := [(3, .ref q9), (0, .ref (YA Y 0 0)), (1, .int a1), (2, .ref (YA Y 33 0))]) hx hb dL_takeBack_15 rfl hl (by decide) rfl (fun ls hl => ?_)
      refine lv_iconst (v := (2 : Int32)) hx hb dL_takeBack_16 (by decide) ?_
      cases hf
      exact vx_ret (hs_iret C0 hH hS (by decide) (by decide) dL_takeBack_17)
    have hf := if_f hf hc11
    cases hf
  · subst er9
    have hf := bxh_v hf
    refine lv_i2l (v := r9.toInt64) hx hb dL_takeBack_7 rfl ?_
    refine hl_lastore hx hb hK hH hS (v := r9) rfl dL_takeBack_8 (fun H locs hH hS => ?_)
    obtain ⟨M10, eM10, hf⟩ := nm_o hf
    rw [← eM10] at hH
    refine lv_goto (tgt := 18) hx hb dL_takeBack_9 (by decide) ?_
    refine lv_iconst (v := (0 : Int32)) hx hb dL_takeBack_18 (by decide) ?_
    cases hf
    exact vx_ret (hs_iret C0 hH hS (by decide) (by decide) dL_takeBack_19)
def f_L_pass (M : Mem) (a1 : Int32) : Option (Int32 × Mem) := bxh (f_X7_pass M a1) (fun (r8 : Int32) (M7 : Mem) => nm (mu M7 33 0 0 r8) fun M9 => some ((0 : Int32), M9)) (fun (e9 : Nat) (M7 : Mem) => (if e9 = 1 then some ((1 : Int32), M7) else none))
set_option maxHeartbeats 4000000 in
set_option maxRecDepth 100000 in
theorem c_L_pass {Y : LY} {l : Launch} (hl9 : l.stackTraces = false) (M : Mem) (a1 : Int32) {r : Int32} {MZ : Mem} (hf : f_L_pass M a1 = some (r, MZ)) : vx_Met l yL_pass (Cond.codeWith yL_pass cL_pass 4 (Option.some Jvm.ClassFile.FieldType.int) [(0, 9, 12, 21)] :: ALLW) { frames := 9, cells := 1, slots := 6, locals := 193 } (PcM Y M [.ref (YA Y 0 0), .int a1, .ref (YA Y 33 0)]) (Qi Y r MZ) XN 1 6 (AZ Y) := by
  refine met_mkh (lv := [(0, .ref (YA Y 0 0)), (1, .int a1), (2, .ref (YA Y 33 0))]) [.ref (YA Y 0 0), .int a1, .ref (YA Y 33 0)] (by decide) rfl rfl (Nat.le_of_ble_eq_true rfl) (fun p e s m below meth c C0 hT hH ls hl => ?_)
  have hS : va_S (AZ Y) s.heap s.heap [] := va_S.rf
  obtain ⟨hx, hb, hr, hml, hown, hA, hlocks, hK, hZ⟩ := id C0
  unfold f_L_pass at hf
  refine lv_aload_n hx hb dL_pass_0 rfl (lv_at hl 2 rfl) ?_
  refine lv_iconst (v := (0 : Int32)) hx hb dL_pass_1 (by decide) ?_
  refine lv_aload_n hx hb dL_pass_2 rfl (lv_at hl 0 rfl) ?_
  refine lv_iload_n hx hb dL_pass_3 rfl (lv_at hl 1 rfl) ?_
  obtain ⟨yr8, M7, hq6, hf⟩ := bxh_o hf
  refine hl_ci (hx_runV C0 hH hS (n := 1) (As := [.int a1]) (rest := [.int (0 : Int32), .ref (YA Y 33 0)]) (c_X7_pass hl9 M a1 hq6) ⟨⟨zt_770, zt_771, zt_772, zt_1, zt_773⟩, rfl, by decide, by decide, by decide +kernel⟩ ⟨rfl, rfl, Nat.le_of_ble_eq_true rfl, Nat.le_of_ble_eq_true rfl⟩ (hs_recv hK hH 0 0 (by decide) 11 rfl rfl) rfl rfl hl.1 (Nat.le_of_ble_eq_true rfl) ⟨Nat.le_of_ble_eq_true rfl, Nat.le_of_ble_eq_true rfl⟩ dL_pass_4) hS (fun k9 E9 q9 ce9 H locs e9 hE hH hS h1 h2 h3 => ?_) (fun r8 er8 H locs hH hS => ?_)
  · subst e9
    have hf := bxh_x hf
    by_cases hc10 : k9 = 1
    · subst hc10
      have hf := if_t hf rfl
      cases hE
      refine hl_catch C0 hT (by decide) [] ⟨0, 9, 12, 21⟩ [] rfl (fun _ h => nomatch h) (by decide) (by decide) zt_719 h1 h2 h3 ?_
      refine lv_astore_n (lv' := [(3, .ref q9), (0, .ref (YA Y 0 0)), (1, .int a1), (2, .ref (YA Y 33 0))]) hx hb dL_pass_12 rfl hl (by decide) rfl (fun ls hl => ?_)
      refine lv_iconst (v := (1 : Int32)) hx hb dL_pass_13 (by decide) ?_
      cases hf
      exact vx_ret (hs_iret C0 hH hS (by decide) (by decide) dL_pass_14)
    have hf := if_f hf hc10
    cases hf
  · subst er8
    have hf := bxh_v hf
    refine lv_i2l (v := r8.toInt64) hx hb dL_pass_7 rfl ?_
    refine hl_lastore hx hb hK hH hS (v := r8) rfl dL_pass_8 (fun H locs hH hS => ?_)
    obtain ⟨M9, eM9, hf⟩ := nm_o hf
    rw [← eM9] at hH
    refine lv_goto (tgt := 15) hx hb dL_pass_9 (by decide) ?_
    refine lv_iconst (v := (0 : Int32)) hx hb dL_pass_15 (by decide) ?_
    cases hf
    exact vx_ret (hs_iret C0 hH hS (by decide) (by decide) dL_pass_16)
def f_L_linkFrom (M : Mem) (a1 : Int32) : Option (Int32 × Mem) := bxh (f_X7_linkFrom M a1) (fun (r8 : Int32) (M7 : Mem) => nm (mu M7 33 0 0 r8) fun M9 => some ((0 : Int32), M9)) (fun (e9 : Nat) (M7 : Mem) => (if e9 = 0 then some ((1 : Int32), M7) else none))
set_option maxHeartbeats 4000000 in
set_option maxRecDepth 100000 in
theorem c_L_linkFrom {Y : LY} {l : Launch} (hl9 : l.stackTraces = false) (M : Mem) (a1 : Int32) {r : Int32} {MZ : Mem} (hf : f_L_linkFrom M a1 = some (r, MZ)) : vx_Met l yL_linkFrom (Cond.codeWith yL_linkFrom cL_linkFrom 4 (Option.some Jvm.ClassFile.FieldType.int) [(0, 9, 12, 19)] :: ALLW) { frames := 9, cells := 1, slots := 6, locals := 153 } (PcM Y M [.ref (YA Y 0 0), .int a1, .ref (YA Y 33 0)]) (Qi Y r MZ) XN 1 6 (AZ Y) := by
  refine met_mkh (lv := [(0, .ref (YA Y 0 0)), (1, .int a1), (2, .ref (YA Y 33 0))]) [.ref (YA Y 0 0), .int a1, .ref (YA Y 33 0)] (by decide) rfl rfl (Nat.le_of_ble_eq_true rfl) (fun p e s m below meth c C0 hT hH ls hl => ?_)
  have hS : va_S (AZ Y) s.heap s.heap [] := va_S.rf
  obtain ⟨hx, hb, hr, hml, hown, hA, hlocks, hK, hZ⟩ := id C0
  unfold f_L_linkFrom at hf
  refine lv_aload_n hx hb dL_linkFrom_0 rfl (lv_at hl 2 rfl) ?_
  refine lv_iconst (v := (0 : Int32)) hx hb dL_linkFrom_1 (by decide) ?_
  refine lv_aload_n hx hb dL_linkFrom_2 rfl (lv_at hl 0 rfl) ?_
  refine lv_iload_n hx hb dL_linkFrom_3 rfl (lv_at hl 1 rfl) ?_
  obtain ⟨yr8, M7, hq6, hf⟩ := bxh_o hf
  refine hl_ci (hx_runV C0 hH hS (n := 1) (As := [.int a1]) (rest := [.int (0 : Int32), .ref (YA Y 33 0)]) (c_X7_linkFrom hl9 M a1 hq6) ⟨⟨zt_777, zt_778, zt_779, zt_1, zt_780⟩, rfl, by decide, by decide, by decide +kernel⟩ ⟨rfl, rfl, Nat.le_of_ble_eq_true rfl, Nat.le_of_ble_eq_true rfl⟩ (hs_recv hK hH 0 0 (by decide) 11 rfl rfl) rfl rfl hl.1 (Nat.le_of_ble_eq_true rfl) ⟨Nat.le_of_ble_eq_true rfl, Nat.le_of_ble_eq_true rfl⟩ dL_linkFrom_4) hS (fun k9 E9 q9 ce9 H locs e9 hE hH hS h1 h2 h3 => ?_) (fun r8 er8 H locs hH hS => ?_)
  · subst e9
    have hf := bxh_x hf
    by_cases hc10 : k9 = 0
    · subst hc10
      have hf := if_t hf rfl
      cases hE
      refine hl_catch C0 hT (by decide) [] ⟨0, 9, 12, 19⟩ [] rfl (fun _ h => nomatch h) (by decide) (by decide) zt_698 h1 h2 h3 ?_
      refine lv_astore_n (lv' := [(3, .ref q9), (0, .ref (YA Y 0 0)), (1, .int a1), (2, .ref (YA Y 33 0))]) hx hb dL_linkFrom_12 rfl hl (by decide) rfl (fun ls hl => ?_)
      refine lv_iconst (v := (1 : Int32)) hx hb dL_linkFrom_13 (by decide) ?_
      cases hf
      exact vx_ret (hs_iret C0 hH hS (by decide) (by decide) dL_linkFrom_14)
    have hf := if_f hf hc10
    cases hf
  · subst er8
    have hf := bxh_v hf
    refine lv_i2l (v := r8.toInt64) hx hb dL_linkFrom_7 rfl ?_
    refine hl_lastore hx hb hK hH hS (v := r8) rfl dL_linkFrom_8 (fun H locs hH hS => ?_)
    obtain ⟨M9, eM9, hf⟩ := nm_o hf
    rw [← eM9] at hH
    refine lv_goto (tgt := 15) hx hb dL_linkFrom_9 (by decide) ?_
    refine lv_iconst (v := (0 : Int32)) hx hb dL_linkFrom_15 (by decide) ?_
    cases hf
    exact vx_ret (hs_iret C0 hH hS (by decide) (by decide) dL_linkFrom_16)
def f_L_linkTo (M : Mem) (a1 : Int32) : Option (Int32 × Mem) := bxh (f_X7_linkTo M a1) (fun (r8 : Int32) (M7 : Mem) => nm (mu M7 33 0 0 r8) fun M9 => some ((0 : Int32), M9)) (fun (e9 : Nat) (M7 : Mem) => (if e9 = 0 then some ((1 : Int32), M7) else none))
set_option maxHeartbeats 4000000 in
set_option maxRecDepth 100000 in
theorem c_L_linkTo {Y : LY} {l : Launch} (hl9 : l.stackTraces = false) (M : Mem) (a1 : Int32) {r : Int32} {MZ : Mem} (hf : f_L_linkTo M a1 = some (r, MZ)) : vx_Met l yL_linkTo (Cond.codeWith yL_linkTo cL_linkTo 4 (Option.some Jvm.ClassFile.FieldType.int) [(0, 9, 12, 19)] :: ALLW) { frames := 9, cells := 1, slots := 6, locals := 153 } (PcM Y M [.ref (YA Y 0 0), .int a1, .ref (YA Y 33 0)]) (Qi Y r MZ) XN 1 6 (AZ Y) := by
  refine met_mkh (lv := [(0, .ref (YA Y 0 0)), (1, .int a1), (2, .ref (YA Y 33 0))]) [.ref (YA Y 0 0), .int a1, .ref (YA Y 33 0)] (by decide) rfl rfl (Nat.le_of_ble_eq_true rfl) (fun p e s m below meth c C0 hT hH ls hl => ?_)
  have hS : va_S (AZ Y) s.heap s.heap [] := va_S.rf
  obtain ⟨hx, hb, hr, hml, hown, hA, hlocks, hK, hZ⟩ := id C0
  unfold f_L_linkTo at hf
  refine lv_aload_n hx hb dL_linkTo_0 rfl (lv_at hl 2 rfl) ?_
  refine lv_iconst (v := (0 : Int32)) hx hb dL_linkTo_1 (by decide) ?_
  refine lv_aload_n hx hb dL_linkTo_2 rfl (lv_at hl 0 rfl) ?_
  refine lv_iload_n hx hb dL_linkTo_3 rfl (lv_at hl 1 rfl) ?_
  obtain ⟨yr8, M7, hq6, hf⟩ := bxh_o hf
  refine hl_ci (hx_runV C0 hH hS (n := 1) (As := [.int a1]) (rest := [.int (0 : Int32), .ref (YA Y 33 0)]) (c_X7_linkTo hl9 M a1 hq6) ⟨⟨zt_792, zt_793, zt_794, zt_1, zt_795⟩, rfl, by decide, by decide, by decide +kernel⟩ ⟨rfl, rfl, Nat.le_of_ble_eq_true rfl, Nat.le_of_ble_eq_true rfl⟩ (hs_recv hK hH 0 0 (by decide) 11 rfl rfl) rfl rfl hl.1 (Nat.le_of_ble_eq_true rfl) ⟨Nat.le_of_ble_eq_true rfl, Nat.le_of_ble_eq_true rfl⟩ dL_linkTo_4) hS (fun k9 E9 q9 ce9 H locs e9 hE hH hS h1 h2 h3 => ?_) (fun r8 er8 H locs hH hS => ?_)
  · subst e9
    have hf := bxh_x hf
    by_cases hc10 : k9 = 0
    · subst hc10
      have hf := if_t hf rfl
      cases hE
      refine hl_catch C0 hT (by decide) [] ⟨0, 9, 12, 19⟩ [] rfl (fun _ h => nomatch h) (by decide) (by decide) zt_698 h1 h2 h3 ?_
      refine lv_astore_n (lv' := [(3, .ref q9), (0, .ref (YA Y 0 0)), (1, .int a1), (2, .ref (YA Y 33 0))]) hx hb dL_linkTo_12 rfl hl (by decide) rfl (fun ls hl => ?_)
      refine lv_iconst (v := (1 : Int32)) hx hb dL_linkTo_13 (by decide) ?_
      cases hf
      exact vx_ret (hs_iret C0 hH hS (by decide) (by decide) dL_linkTo_14)
    have hf := if_f hf hc10
    cases hf
  · subst er8
    have hf := bxh_v hf
    refine lv_i2l (v := r8.toInt64) hx hb dL_linkTo_7 rfl ?_
    refine hl_lastore hx hb hK hH hS (v := r8) rfl dL_linkTo_8 (fun H locs hH hS => ?_)
    obtain ⟨M9, eM9, hf⟩ := nm_o hf
    rw [← eM9] at hH
    refine lv_goto (tgt := 15) hx hb dL_linkTo_9 (by decide) ?_
    refine lv_iconst (v := (0 : Int32)) hx hb dL_linkTo_15 (by decide) ?_
    cases hf
    exact vx_ret (hs_iret C0 hH hS (by decide) (by decide) dL_linkTo_16)
def f_L_travelTime (M : Mem) (a1 : Int32) : Option (Int32 × Mem) := bxh (f_X7_travelTime M a1) (fun (r8 : Int32) (M7 : Mem) => nm (mu M7 33 0 0 r8) fun M9 => some ((0 : Int32), M9)) (fun (e9 : Nat) (M7 : Mem) => (if e9 = 0 then some ((1 : Int32), M7) else none))
set_option maxHeartbeats 4000000 in
set_option maxRecDepth 100000 in
theorem c_L_travelTime {Y : LY} {l : Launch} (hl9 : l.stackTraces = false) (M : Mem) (a1 : Int32) {r : Int32} {MZ : Mem} (hf : f_L_travelTime M a1 = some (r, MZ)) : vx_Met l yL_travelTime (Cond.codeWith yL_travelTime cL_travelTime 4 (Option.some Jvm.ClassFile.FieldType.int) [(0, 9, 12, 19)] :: ALLW) { frames := 9, cells := 1, slots := 6, locals := 153 } (PcM Y M [.ref (YA Y 0 0), .int a1, .ref (YA Y 33 0)]) (Qi Y r MZ) XN 1 6 (AZ Y) := by
  refine met_mkh (lv := [(0, .ref (YA Y 0 0)), (1, .int a1), (2, .ref (YA Y 33 0))]) [.ref (YA Y 0 0), .int a1, .ref (YA Y 33 0)] (by decide) rfl rfl (Nat.le_of_ble_eq_true rfl) (fun p e s m below meth c C0 hT hH ls hl => ?_)
  have hS : va_S (AZ Y) s.heap s.heap [] := va_S.rf
  obtain ⟨hx, hb, hr, hml, hown, hA, hlocks, hK, hZ⟩ := id C0
  unfold f_L_travelTime at hf
  refine lv_aload_n hx hb dL_travelTime_0 rfl (lv_at hl 2 rfl) ?_
  refine lv_iconst (v := (0 : Int32)) hx hb dL_travelTime_1 (by decide) ?_
  refine lv_aload_n hx hb dL_travelTime_2 rfl (lv_at hl 0 rfl) ?_
  refine lv_iload_n hx hb dL_travelTime_3 rfl (lv_at hl 1 rfl) ?_
  obtain ⟨yr8, M7, hq6, hf⟩ := bxh_o hf
  refine hl_ci (hx_runV C0 hH hS (n := 1) (As := [.int a1]) (rest := [.int (0 : Int32), .ref (YA Y 33 0)]) (c_X7_travelTime hl9 M a1 hq6) ⟨⟨zt_799, zt_800, zt_801, zt_1, zt_802⟩, rfl, by decide, by decide, by decide +kernel⟩ ⟨rfl, rfl, Nat.le_of_ble_eq_true rfl, Nat.le_of_ble_eq_true rfl⟩ (hs_recv hK hH 0 0 (by decide) 11 rfl rfl) rfl rfl hl.1 (Nat.le_of_ble_eq_true rfl) ⟨Nat.le_of_ble_eq_true rfl, Nat.le_of_ble_eq_true rfl⟩ dL_travelTime_4) hS (fun k9 E9 q9 ce9 H locs e9 hE hH hS h1 h2 h3 => ?_) (fun r8 er8 H locs hH hS => ?_)
  · subst e9
    have hf := bxh_x hf
    by_cases hc10 : k9 = 0
    · subst hc10
      have hf := if_t hf rfl
      cases hE
      refine hl_catch C0 hT (by decide) [] ⟨0, 9, 12, 19⟩ [] rfl (fun _ h => nomatch h) (by decide) (by decide) zt_698 h1 h2 h3 ?_
      refine lv_astore_n (lv' := [(3, .ref q9), (0, .ref (YA Y 0 0)), (1, .int a1), (2, .ref (YA Y 33 0))]) hx hb dL_travelTime_12 rfl hl (by decide) rfl (fun ls hl => ?_)
      refine lv_iconst (v := (1 : Int32)) hx hb dL_travelTime_13 (by decide) ?_
      cases hf
      exact vx_ret (hs_iret C0 hH hS (by decide) (by decide) dL_travelTime_14)
    have hf := if_f hf hc10
    cases hf
  · subst er8
    have hf := bxh_v hf
    refine lv_i2l (v := r8.toInt64) hx hb dL_travelTime_7 rfl ?_
    refine hl_lastore hx hb hK hH hS (v := r8) rfl dL_travelTime_8 (fun H locs hH hS => ?_)
    obtain ⟨M9, eM9, hf⟩ := nm_o hf
    rw [← eM9] at hH
    refine lv_goto (tgt := 15) hx hb dL_travelTime_9 (by decide) ?_
    refine lv_iconst (v := (0 : Int32)) hx hb dL_travelTime_15 (by decide) ?_
    cases hf
    exact vx_ret (hs_iret C0 hH hS (by decide) (by decide) dL_travelTime_16)
def f_L_isBlocked_15 (M : Mem) (b0 : Int64) : Option (Int32 × Mem) := if b0.toInt32.toInt64 = b0 then (nm (mu M 33 0 0 b0.toInt32) fun M9 => some ((0 : Int32), M9)) else none
set_option maxHeartbeats 4000000 in
set_option maxRecDepth 100000 in
theorem w_L_isBlocked_15 {Y : LY} {p : Program} {l : Launch} {e : Env} {s : State} {m : MethodId} {args : Array Value} {below : List Frame} {meth : Method} {c : Code} (C0 : BE Y p s m args meth c cL_isBlocked 4 (Option.some Jvm.ClassFile.FieldType.int) RL) {r : Int32} {MZ : Mem} : ∀ (M : Mem) (b0 : Int64), f_L_isBlocked_15 M b0 = some (r, MZ) → ∀ (H : Heap) (locs : List Loc) (ls : Array Slot), HS Y M H → va_S (AZ Y) s.heap H locs → lv_has ls 4 [] → W p l e { frames := 9, cells := 1, slots := 6, locals := 153 } s m args below meth c H locs 1 6 (vx_MQ below (Qi Y r MZ) XN args s 1 6 (AZ Y)) (F0 m 15 ls [.long b0, .int (0 : Int32), .ref (YA Y 33 0)]) := by
  obtain ⟨hx, hb, hr, hml, hown, hA, hlocks, hK, hZ⟩ := id C0
  intro M b0 hf H locs ls hH hS hl
  unfold f_L_isBlocked_15 at hf
  obtain ⟨hg8, hf⟩ := gd_o hf
  refine hl_lastore hx hb hK hH hS (v := b0.toInt32) hg8 dL_isBlocked_15 (fun H locs hH hS => ?_)
  obtain ⟨M9, eM9, hf⟩ := nm_o hf
  rw [← eM9] at hH
  refine lv_goto (tgt := 22) hx hb dL_isBlocked_16 (by decide) ?_
  refine lv_iconst (v := (0 : Int32)) hx hb dL_isBlocked_22 (by decide) ?_
  cases hf
  exact vx_ret (hs_iret C0 hH hS (by decide) (by decide) dL_isBlocked_23)
def f_L_isBlocked (M : Mem) (a1 : Int32) : Option (Int32 × Mem) := bxh (f_X7_isBlocked M a1) (fun (r12 : Int32) (M11 : Mem) => (if r12 = 0 then f_L_isBlocked_15 M11 (0 : Int64) else f_L_isBlocked_15 M11 (1 : Int64))) (fun (e9 : Nat) (M11 : Mem) => (if e9 = 0 then some ((1 : Int32), M11) else none))
set_option maxHeartbeats 4000000 in
set_option maxRecDepth 100000 in
theorem c_L_isBlocked {Y : LY} {l : Launch} (hl9 : l.stackTraces = false) (M : Mem) (a1 : Int32) {r : Int32} {MZ : Mem} (hf : f_L_isBlocked M a1 = some (r, MZ)) : vx_Met l yL_isBlocked (Cond.codeWith yL_isBlocked cL_isBlocked 4 (Option.some Jvm.ClassFile.FieldType.int) [(0, 16, 19, 19)] :: ALLW) { frames := 9, cells := 1, slots := 6, locals := 153 } (PcM Y M [.ref (YA Y 0 0), .int a1, .ref (YA Y 33 0)]) (Qi Y r MZ) XN 1 6 (AZ Y) := by
  refine met_mkh (lv := [(0, .ref (YA Y 0 0)), (1, .int a1), (2, .ref (YA Y 33 0))]) [.ref (YA Y 0 0), .int a1, .ref (YA Y 33 0)] (by decide) rfl rfl (Nat.le_of_ble_eq_true rfl) (fun p e s m below meth c C0 hT hH ls hl => ?_)
  have hS : va_S (AZ Y) s.heap s.heap [] := va_S.rf
  obtain ⟨hx, hb, hr, hml, hown, hA, hlocks, hK, hZ⟩ := id C0
  unfold f_L_isBlocked at hf
  refine lv_aload_n hx hb dL_isBlocked_0 rfl (lv_at hl 2 rfl) ?_
  refine lv_iconst (v := (0 : Int32)) hx hb dL_isBlocked_1 (by decide) ?_
  refine lv_aload_n hx hb dL_isBlocked_2 rfl (lv_at hl 0 rfl) ?_
  refine lv_iload_n hx hb dL_isBlocked_3 rfl (lv_at hl 1 rfl) ?_
  obtain ⟨yr12, M11, hq10, hf⟩ := bxh_o hf
  refine hl_ci (hx_runV C0 hH hS (n := 1) (As := [.int a1]) (rest := [.int (0 : Int32), .ref (YA Y 33 0)]) (c_X7_isBlocked hl9 M a1 hq10) ⟨⟨zt_806, zt_807, zt_808, zt_1, zt_809⟩, rfl, by decide, by decide, by decide +kernel⟩ ⟨rfl, rfl, Nat.le_of_ble_eq_true rfl, Nat.le_of_ble_eq_true rfl⟩ (hs_recv hK hH 0 0 (by decide) 11 rfl rfl) rfl rfl hl.1 (Nat.le_of_ble_eq_true rfl) ⟨Nat.le_of_ble_eq_true rfl, Nat.le_of_ble_eq_true rfl⟩ dL_isBlocked_4) hS (fun k9 E9 q9 ce9 H locs e9 hE hH hS h1 h2 h3 => ?_) (fun r12 er12 H locs hH hS => ?_)
  · subst e9
    have hf := bxh_x hf
    by_cases hc14 : k9 = 0
    · subst hc14
      have hf := if_t hf rfl
      cases hE
      refine hl_catch C0 hT (by decide) [] ⟨0, 16, 19, 19⟩ [] rfl (fun _ h => nomatch h) (by decide) (by decide) zt_698 h1 h2 h3 ?_
      refine lv_astore_n (lv' := [(3, .ref q9), (0, .ref (YA Y 0 0)), (1, .int a1), (2, .ref (YA Y 33 0))]) hx hb dL_isBlocked_19 rfl hl (by decide) rfl (fun ls hl => ?_)
      refine lv_iconst (v := (1 : Int32)) hx hb dL_isBlocked_20 (by decide) ?_
      cases hf
      exact vx_ret (hs_iret C0 hH hS (by decide) (by decide) dL_isBlocked_21)
    have hf := if_f hf hc14
    cases hf
  · subst er12
    have hf := bxh_v hf
    refine lv_if_eq (tgt := 14) hx hb dL_isBlocked_7 (by decide) (fun hc13 => ?_) (fun hc13 => ?_)
    · have hf := if_t hf hc13
      refine lv_lconst (v := (0 : Int64)) hx hb dL_isBlocked_14 (by decide) ?_
      exact w_L_isBlocked_15 C0 M11 (0 : Int64) hf _ _ _ hH hS (lv_sub hl [] rfl)
    · have hf := if_f hf hc13
      refine lv_lconst (v := (1 : Int64)) hx hb dL_isBlocked_10 (by decide) ?_
      refine lv_goto (tgt := 15) hx hb dL_isBlocked_11 (by decide) ?_
      exact w_L_isBlocked_15 C0 M11 (1 : Int64) hf _ _ _ hH hS (lv_sub hl [] rfl)
def f_L_isOpenAt_16 (M : Mem) (b0 : Int64) : Option (Int32 × Mem) := if b0.toInt32.toInt64 = b0 then (nm (mu M 33 0 0 b0.toInt32) fun M10 => some ((0 : Int32), M10)) else none
set_option maxHeartbeats 4000000 in
set_option maxRecDepth 100000 in
theorem w_L_isOpenAt_16 {Y : LY} {p : Program} {l : Launch} {e : Env} {s : State} {m : MethodId} {args : Array Value} {below : List Frame} {meth : Method} {c : Code} (C0 : BE Y p s m args meth c cL_isOpenAt 5 (Option.some Jvm.ClassFile.FieldType.int) RL) {r : Int32} {MZ : Mem} : ∀ (M : Mem) (b0 : Int64), f_L_isOpenAt_16 M b0 = some (r, MZ) → ∀ (H : Heap) (locs : List Loc) (ls : Array Slot), HS Y M H → va_S (AZ Y) s.heap H locs → lv_has ls 5 [] → W p l e { frames := 9, cells := 2, slots := 12, locals := 155 } s m args below meth c H locs 2 12 (vx_MQ below (Qi Y r MZ) XN args s 2 12 (AZ Y)) (F0 m 16 ls [.long b0, .int (0 : Int32), .ref (YA Y 33 0)]) := by
  obtain ⟨hx, hb, hr, hml, hown, hA, hlocks, hK, hZ⟩ := id C0
  intro M b0 hf H locs ls hH hS hl
  unfold f_L_isOpenAt_16 at hf
  obtain ⟨hg9, hf⟩ := gd_o hf
  refine hl_lastore hx hb hK hH hS (v := b0.toInt32) hg9 dL_isOpenAt_16 (fun H locs hH hS => ?_)
  obtain ⟨M10, eM10, hf⟩ := nm_o hf
  rw [← eM10] at hH
  refine lv_goto (tgt := 28) hx hb dL_isOpenAt_17 (by decide) ?_
  refine lv_iconst (v := (0 : Int32)) hx hb dL_isOpenAt_28 (by decide) ?_
  cases hf
  exact vx_ret (hs_iret C0 hH hS (by decide) (by decide) dL_isOpenAt_29)
def f_L_isOpenAt (M : Mem) (a1 : Int32) (a2 : Int32) : Option (Int32 × Mem) := bxh (f_X7_isOpenAt M a1 a2) (fun (r13 : Int32) (M12 : Mem) => (if r13 = 0 then f_L_isOpenAt_16 M12 (0 : Int64) else f_L_isOpenAt_16 M12 (1 : Int64))) (fun (e9 : Nat) (M12 : Mem) => (if e9 = 0 then some ((1 : Int32), M12) else (if e9 = 1 then some ((2 : Int32), M12) else none)))
set_option maxHeartbeats 4000000 in
set_option maxRecDepth 100000 in
theorem c_L_isOpenAt {Y : LY} {l : Launch} (hl9 : l.stackTraces = false) (M : Mem) (a1 : Int32) (a2 : Int32) {r : Int32} {MZ : Mem} (hf : f_L_isOpenAt M a1 a2 = some (r, MZ)) : vx_Met l yL_isOpenAt (Cond.codeWith yL_isOpenAt cL_isOpenAt 5 (Option.some Jvm.ClassFile.FieldType.int) [(0, 17, 20, 19), (0, 17, 24, 21)] :: ALLW) { frames := 9, cells := 2, slots := 12, locals := 155 } (PcM Y M [.ref (YA Y 0 0), .int a1, .int a2, .ref (YA Y 33 0)]) (Qi Y r MZ) XN 2 12 (AZ Y) := by
  refine met_mkh (lv := [(0, .ref (YA Y 0 0)), (1, .int a1), (2, .int a2), (3, .ref (YA Y 33 0))]) [.ref (YA Y 0 0), .int a1, .int a2, .ref (YA Y 33 0)] (by decide) rfl rfl (Nat.le_of_ble_eq_true rfl) (fun p e s m below meth c C0 hT hH ls hl => ?_)
  have hS : va_S (AZ Y) s.heap s.heap [] := va_S.rf
  obtain ⟨hx, hb, hr, hml, hown, hA, hlocks, hK, hZ⟩ := id C0
  unfold f_L_isOpenAt at hf
  refine lv_aload_n hx hb dL_isOpenAt_0 rfl (lv_at hl 3 rfl) ?_
  refine lv_iconst (v := (0 : Int32)) hx hb dL_isOpenAt_1 (by decide) ?_
  refine lv_aload_n hx hb dL_isOpenAt_2 rfl (lv_at hl 0 rfl) ?_
  refine lv_iload_n hx hb dL_isOpenAt_3 rfl (lv_at hl 1 rfl) ?_
  refine lv_iload_n hx hb dL_isOpenAt_4 rfl (lv_at hl 2 rfl) ?_
  obtain ⟨yr13, M12, hq11, hf⟩ := bxh_o hf
  refine hl_ci (hx_runV C0 hH hS (n := 2) (As := [.int a1, .int a2]) (rest := [.int (0 : Int32), .ref (YA Y 33 0)]) (c_X7_isOpenAt hl9 M a1 a2 hq11) ⟨⟨zt_813, zt_814, zt_815, zt_1, zt_816⟩, rfl, by decide, by decide, by decide +kernel⟩ ⟨rfl, rfl, Nat.le_of_ble_eq_true rfl, Nat.le_of_ble_eq_true rfl⟩ (hs_recv hK hH 0 0 (by decide) 11 rfl rfl) rfl rfl hl.1 (Nat.le_of_ble_eq_true rfl) ⟨Nat.le_of_ble_eq_true rfl, Nat.le_of_ble_eq_true rfl⟩ dL_isOpenAt_5) hS (fun k9 E9 q9 ce9 H locs e9 hE hH hS h1 h2 h3 => ?_) (fun r13 er13 H locs hH hS => ?_)
  · subst e9
    have hf := bxh_x hf
    by_cases hc16 : k9 = 0
    · subst hc16
      have hf := if_t hf rfl
      cases hE
      refine hl_catch C0 hT (by decide) [] ⟨0, 17, 20, 19⟩ [⟨0, 17, 24, 21⟩] rfl (fun _ h => nomatch h) (by decide) (by decide) zt_698 h1 h2 h3 ?_
      refine lv_astore (lv' := [(4, .ref q9), (0, .ref (YA Y 0 0)), (1, .int a1), (2, .int a2), (3, .ref (YA Y 33 0))]) hx hb dL_isOpenAt_20 hl (by decide) rfl (fun ls hl => ?_)
      refine lv_iconst (v := (1 : Int32)) hx hb dL_isOpenAt_22 (by decide) ?_
      cases hf
      exact vx_ret (hs_iret C0 hH hS (by decide) (by decide) dL_isOpenAt_23)
    have hf := if_f hf hc16
    by_cases hc15 : k9 = 1
    · subst hc15
      have hf := if_t hf rfl
      cases hE
      refine hl_catch C0 hT (by decide) [⟨0, 17, 20, 19⟩] ⟨0, 17, 24, 21⟩ [] rfl (List.forall_mem_cons.mpr ⟨Or.inr ⟨by decide, "java/lang/IndexOutOfBoundsException", zt_698, by decide, by decide⟩, (fun _ h => nomatch h)⟩) (by decide) (by decide) zt_719 h1 h2 h3 ?_
      refine lv_astore (lv' := [(4, .ref q9), (0, .ref (YA Y 0 0)), (1, .int a1), (2, .int a2), (3, .ref (YA Y 33 0))]) hx hb dL_isOpenAt_24 hl (by decide) rfl (fun ls hl => ?_)
      refine lv_iconst (v := (2 : Int32)) hx hb dL_isOpenAt_26 (by decide) ?_
      cases hf
      exact vx_ret (hs_iret C0 hH hS (by decide) (by decide) dL_isOpenAt_27)
    have hf := if_f hf hc15
    cases hf
  · subst er13
    have hf := bxh_v hf
    refine lv_if_eq (tgt := 15) hx hb dL_isOpenAt_8 (by decide) (fun hc14 => ?_) (fun hc14 => ?_)
    · have hf := if_t hf hc14
      refine lv_lconst (v := (0 : Int64)) hx hb dL_isOpenAt_15 (by decide) ?_
      exact w_L_isOpenAt_16 C0 M12 (0 : Int64) hf _ _ _ hH hS (lv_sub hl [] rfl)
    · have hf := if_f hf hc14
      refine lv_lconst (v := (1 : Int64)) hx hb dL_isOpenAt_11 (by decide) ?_
      refine lv_goto (tgt := 16) hx hb dL_isOpenAt_12 (by decide) ?_
      exact w_L_isOpenAt_16 C0 M12 (1 : Int64) hf _ _ _ hH hS (lv_sub hl [] rfl)
def f_L_loadOf (M : Mem) (a1 : Int32) : Option (Int32 × Mem) := bxh (f_X7_loadOf M a1) (fun (r8 : Int32) (M7 : Mem) => nm (mu M7 33 0 0 r8) fun M9 => some ((0 : Int32), M9)) (fun (e9 : Nat) (M7 : Mem) => (if e9 = 0 then some ((1 : Int32), M7) else none))
set_option maxHeartbeats 4000000 in
set_option maxRecDepth 100000 in
theorem c_L_loadOf {Y : LY} {l : Launch} (hl9 : l.stackTraces = false) (M : Mem) (a1 : Int32) {r : Int32} {MZ : Mem} (hf : f_L_loadOf M a1 = some (r, MZ)) : vx_Met l yL_loadOf (Cond.codeWith yL_loadOf cL_loadOf 4 (Option.some Jvm.ClassFile.FieldType.int) [(0, 9, 12, 19)] :: ALLW) { frames := 8, cells := 1, slots := 6, locals := 132 } (PcM Y M [.ref (YA Y 0 0), .int a1, .ref (YA Y 33 0)]) (Qi Y r MZ) XN 1 6 (AZ Y) := by
  refine met_mkh (lv := [(0, .ref (YA Y 0 0)), (1, .int a1), (2, .ref (YA Y 33 0))]) [.ref (YA Y 0 0), .int a1, .ref (YA Y 33 0)] (by decide) rfl rfl (Nat.le_of_ble_eq_true rfl) (fun p e s m below meth c C0 hT hH ls hl => ?_)
  have hS : va_S (AZ Y) s.heap s.heap [] := va_S.rf
  obtain ⟨hx, hb, hr, hml, hown, hA, hlocks, hK, hZ⟩ := id C0
  unfold f_L_loadOf at hf
  refine lv_aload_n hx hb dL_loadOf_0 rfl (lv_at hl 2 rfl) ?_
  refine lv_iconst (v := (0 : Int32)) hx hb dL_loadOf_1 (by decide) ?_
  refine lv_aload_n hx hb dL_loadOf_2 rfl (lv_at hl 0 rfl) ?_
  refine lv_iload_n hx hb dL_loadOf_3 rfl (lv_at hl 1 rfl) ?_
  obtain ⟨yr8, M7, hq6, hf⟩ := bxh_o hf
  refine hl_ci (hx_runV C0 hH hS (n := 1) (As := [.int a1]) (rest := [.int (0 : Int32), .ref (YA Y 33 0)]) (c_X7_loadOf hl9 M a1 hq6) ⟨⟨zt_828, zt_829, zt_830, zt_1, zt_831⟩, rfl, by decide, by decide, by decide +kernel⟩ ⟨rfl, rfl, Nat.le_of_ble_eq_true rfl, Nat.le_of_ble_eq_true rfl⟩ (hs_recv hK hH 0 0 (by decide) 11 rfl rfl) rfl rfl hl.1 (Nat.le_of_ble_eq_true rfl) ⟨Nat.le_of_ble_eq_true rfl, Nat.le_of_ble_eq_true rfl⟩ dL_loadOf_4) hS (fun k9 E9 q9 ce9 H locs e9 hE hH hS h1 h2 h3 => ?_) (fun r8 er8 H locs hH hS => ?_)
  · subst e9
    have hf := bxh_x hf
    by_cases hc10 : k9 = 0
    · subst hc10
      have hf := if_t hf rfl
      cases hE
      refine hl_catch C0 hT (by decide) [] ⟨0, 9, 12, 19⟩ [] rfl (fun _ h => nomatch h) (by decide) (by decide) zt_698 h1 h2 h3 ?_
      refine lv_astore_n (lv' := [(3, .ref q9), (0, .ref (YA Y 0 0)), (1, .int a1), (2, .ref (YA Y 33 0))]) hx hb dL_loadOf_12 rfl hl (by decide) rfl (fun ls hl => ?_)
      refine lv_iconst (v := (1 : Int32)) hx hb dL_loadOf_13 (by decide) ?_
      cases hf
      exact vx_ret (hs_iret C0 hH hS (by decide) (by decide) dL_loadOf_14)
    have hf := if_f hf hc10
    cases hf
  · subst er8
    have hf := bxh_v hf
    refine lv_i2l (v := r8.toInt64) hx hb dL_loadOf_7 rfl ?_
    refine hl_lastore hx hb hK hH hS (v := r8) rfl dL_loadOf_8 (fun H locs hH hS => ?_)
    obtain ⟨M9, eM9, hf⟩ := nm_o hf
    rw [← eM9] at hH
    refine lv_goto (tgt := 15) hx hb dL_loadOf_9 (by decide) ?_
    refine lv_iconst (v := (0 : Int32)) hx hb dL_loadOf_15 (by decide) ?_
    cases hf
    exact vx_ret (hs_iret C0 hH hS (by decide) (by decide) dL_loadOf_16)
def f_L_busiestLink (M : Mem) : Option (Int32 × Mem) := bxh (f_X7_busiestLink M) (fun (r8 : Int32) (M7 : Mem) => nm (mu M7 33 0 0 r8) fun M9 => some ((0 : Int32), M9)) (fun (e9 : Nat) (M7 : Mem) => (if e9 = 3 then some ((1 : Int32), M7) else none))
set_option maxHeartbeats 4000000 in
set_option maxRecDepth 100000 in
theorem c_L_busiestLink {Y : LY} {l : Launch} (hl9 : l.stackTraces = false) (M : Mem) {r : Int32} {MZ : Mem} (hf : f_L_busiestLink M = some (r, MZ)) : vx_Met l yL_busiestLink (Cond.codeWith yL_busiestLink cL_busiestLink 3 (Option.some Jvm.ClassFile.FieldType.int) [(0, 8, 11, 37)] :: ALLW) { frames := 7, cells := 1, slots := 6, locals := 110 } (PcM Y M [.ref (YA Y 0 0), .ref (YA Y 33 0)]) (Qi Y r MZ) XN 1 6 (AZ Y) := by
  refine met_mkh (lv := [(0, .ref (YA Y 0 0)), (1, .ref (YA Y 33 0))]) [.ref (YA Y 0 0), .ref (YA Y 33 0)] (by decide) rfl rfl (Nat.le_of_ble_eq_true rfl) (fun p e s m below meth c C0 hT hH ls hl => ?_)
  have hS : va_S (AZ Y) s.heap s.heap [] := va_S.rf
  obtain ⟨hx, hb, hr, hml, hown, hA, hlocks, hK, hZ⟩ := id C0
  unfold f_L_busiestLink at hf
  refine lv_aload_n hx hb dL_busiestLink_0 rfl (lv_at hl 1 rfl) ?_
  refine lv_iconst (v := (0 : Int32)) hx hb dL_busiestLink_1 (by decide) ?_
  refine lv_aload_n hx hb dL_busiestLink_2 rfl (lv_at hl 0 rfl) ?_
  obtain ⟨yr8, M7, hq6, hf⟩ := bxh_o hf
  refine hl_ci (hx_runV C0 hH hS (n := 0) (As := []) (rest := [.int (0 : Int32), .ref (YA Y 33 0)]) (c_X7_busiestLink hl9 M hq6) ⟨⟨zt_836, zt_837, zt_838, zt_1, zt_839⟩, rfl, by decide, by decide, by decide +kernel⟩ ⟨rfl, rfl, Nat.le_of_ble_eq_true rfl, Nat.le_of_ble_eq_true rfl⟩ (hs_recv hK hH 0 0 (by decide) 11 rfl rfl) rfl rfl hl.1 (Nat.le_of_ble_eq_true rfl) ⟨Nat.le_of_ble_eq_true rfl, Nat.le_of_ble_eq_true rfl⟩ dL_busiestLink_3) hS (fun k9 E9 q9 ce9 H locs e9 hE hH hS h1 h2 h3 => ?_) (fun r8 er8 H locs hH hS => ?_)
  · subst e9
    have hf := bxh_x hf
    by_cases hc10 : k9 = 3
    · subst hc10
      have hf := if_t hf rfl
      cases hE
      refine hl_catch C0 hT (by decide) [] ⟨0, 8, 11, 37⟩ [] rfl (fun _ h => nomatch h) (by decide) (by decide) zt_748 h1 h2 h3 ?_
      refine lv_astore_n (lv' := [(2, .ref q9), (0, .ref (YA Y 0 0)), (1, .ref (YA Y 33 0))]) hx hb dL_busiestLink_11 rfl hl (by decide) rfl (fun ls hl => ?_)
      refine lv_iconst (v := (1 : Int32)) hx hb dL_busiestLink_12 (by decide) ?_
      cases hf
      exact vx_ret (hs_iret C0 hH hS (by decide) (by decide) dL_busiestLink_13)
    have hf := if_f hf hc10
    cases hf
  · subst er8
    have hf := bxh_v hf
    refine lv_i2l (v := r8.toInt64) hx hb dL_busiestLink_6 rfl ?_
    refine hl_lastore hx hb hK hH hS (v := r8) rfl dL_busiestLink_7 (fun H locs hH hS => ?_)
    obtain ⟨M9, eM9, hf⟩ := nm_o hf
    rw [← eM9] at hH
    refine lv_goto (tgt := 14) hx hb dL_busiestLink_8 (by decide) ?_
    refine lv_iconst (v := (0 : Int32)) hx hb dL_busiestLink_14 (by decide) ?_
    cases hf
    exact vx_ret (hs_iret C0 hH hS (by decide) (by decide) dL_busiestLink_15)
def f_L_degree (M : Mem) (a1 : Int32) : Option (Int32 × Mem) := bxh (f_X7_degree M a1) (fun (r8 : Int32) (M7 : Mem) => nm (mu M7 33 0 0 r8) fun M9 => some ((0 : Int32), M9)) (fun (e9 : Nat) (M7 : Mem) => (if e9 = 0 then some ((1 : Int32), M7) else none))
set_option maxHeartbeats 4000000 in
set_option maxRecDepth 100000 in
theorem c_L_degree {Y : LY} {l : Launch} (hl9 : l.stackTraces = false) (M : Mem) (a1 : Int32) {r : Int32} {MZ : Mem} (hf : f_L_degree M a1 = some (r, MZ)) : vx_Met l yL_degree (Cond.codeWith yL_degree cL_degree 4 (Option.some Jvm.ClassFile.FieldType.int) [(0, 9, 12, 19)] :: ALLW) { frames := 8, cells := 1, slots := 6, locals := 132 } (PcM Y M [.ref (YA Y 0 0), .int a1, .ref (YA Y 33 0)]) (Qi Y r MZ) XN 1 6 (AZ Y) := by
  refine met_mkh (lv := [(0, .ref (YA Y 0 0)), (1, .int a1), (2, .ref (YA Y 33 0))]) [.ref (YA Y 0 0), .int a1, .ref (YA Y 33 0)] (by decide) rfl rfl (Nat.le_of_ble_eq_true rfl) (fun p e s m below meth c C0 hT hH ls hl => ?_)
  have hS : va_S (AZ Y) s.heap s.heap [] := va_S.rf
  obtain ⟨hx, hb, hr, hml, hown, hA, hlocks, hK, hZ⟩ := id C0
  unfold f_L_degree at hf
  refine lv_aload_n hx hb dL_degree_0 rfl (lv_at hl 2 rfl) ?_
  refine lv_iconst (v := (0 : Int32)) hx hb dL_degree_1 (by decide) ?_
  refine lv_aload_n hx hb dL_degree_2 rfl (lv_at hl 0 rfl) ?_
  refine lv_iload_n hx hb dL_degree_3 rfl (lv_at hl 1 rfl) ?_
  obtain ⟨yr8, M7, hq6, hf⟩ := bxh_o hf
  refine hl_ci (hx_runV C0 hH hS (n := 1) (As := [.int a1]) (rest := [.int (0 : Int32), .ref (YA Y 33 0)]) (c_X7_degree hl9 M a1 hq6) ⟨⟨zt_848, zt_849, zt_850, zt_1, zt_851⟩, rfl, by decide, by decide, by decide +kernel⟩ ⟨rfl, rfl, Nat.le_of_ble_eq_true rfl, Nat.le_of_ble_eq_true rfl⟩ (hs_recv hK hH 0 0 (by decide) 11 rfl rfl) rfl rfl hl.1 (Nat.le_of_ble_eq_true rfl) ⟨Nat.le_of_ble_eq_true rfl, Nat.le_of_ble_eq_true rfl⟩ dL_degree_4) hS (fun k9 E9 q9 ce9 H locs e9 hE hH hS h1 h2 h3 => ?_) (fun r8 er8 H locs hH hS => ?_)
  · subst e9
    have hf := bxh_x hf
    by_cases hc10 : k9 = 0
    · subst hc10
      have hf := if_t hf rfl
      cases hE
      refine hl_catch C0 hT (by decide) [] ⟨0, 9, 12, 19⟩ [] rfl (fun _ h => nomatch h) (by decide) (by decide) zt_698 h1 h2 h3 ?_
      refine lv_astore_n (lv' := [(3, .ref q9), (0, .ref (YA Y 0 0)), (1, .int a1), (2, .ref (YA Y 33 0))]) hx hb dL_degree_12 rfl hl (by decide) rfl (fun ls hl => ?_)
      refine lv_iconst (v := (1 : Int32)) hx hb dL_degree_13 (by decide) ?_
      cases hf
      exact vx_ret (hs_iret C0 hH hS (by decide) (by decide) dL_degree_14)
    have hf := if_f hf hc10
    cases hf
  · subst er8
    have hf := bxh_v hf
    refine lv_i2l (v := r8.toInt64) hx hb dL_degree_7 rfl ?_
    refine hl_lastore hx hb hK hH hS (v := r8) rfl dL_degree_8 (fun H locs hH hS => ?_)
    obtain ⟨M9, eM9, hf⟩ := nm_o hf
    rw [← eM9] at hH
    refine lv_goto (tgt := 15) hx hb dL_degree_9 (by decide) ?_
    refine lv_iconst (v := (0 : Int32)) hx hb dL_degree_15 (by decide) ?_
    cases hf
    exact vx_ret (hs_iret C0 hH hS (by decide) (by decide) dL_degree_16)
def f_L_idAt (M : Mem) (a1 : Int32) : Option (Int32 × Mem) := bxh (f_X7_idAt M a1) (fun (r8 : Int32) (M7 : Mem) => nm (mu M7 33 0 0 r8) fun M9 => some ((0 : Int32), M9)) (fun (e9 : Nat) (M7 : Mem) => (if e9 = 0 then some ((1 : Int32), M7) else none))
set_option maxHeartbeats 4000000 in
set_option maxRecDepth 100000 in
theorem c_L_idAt {Y : LY} {l : Launch} (hl9 : l.stackTraces = false) (M : Mem) (a1 : Int32) {r : Int32} {MZ : Mem} (hf : f_L_idAt M a1 = some (r, MZ)) : vx_Met l yL_idAt (Cond.codeWith yL_idAt cL_idAt 4 (Option.some Jvm.ClassFile.FieldType.int) [(0, 9, 12, 19)] :: ALLW) { frames := 8, cells := 1, slots := 6, locals := 132 } (PcM Y M [.ref (YA Y 0 0), .int a1, .ref (YA Y 33 0)]) (Qi Y r MZ) XN 1 6 (AZ Y) := by
  refine met_mkh (lv := [(0, .ref (YA Y 0 0)), (1, .int a1), (2, .ref (YA Y 33 0))]) [.ref (YA Y 0 0), .int a1, .ref (YA Y 33 0)] (by decide) rfl rfl (Nat.le_of_ble_eq_true rfl) (fun p e s m below meth c C0 hT hH ls hl => ?_)
  have hS : va_S (AZ Y) s.heap s.heap [] := va_S.rf
  obtain ⟨hx, hb, hr, hml, hown, hA, hlocks, hK, hZ⟩ := id C0
  unfold f_L_idAt at hf
  refine lv_aload_n hx hb dL_idAt_0 rfl (lv_at hl 2 rfl) ?_
  refine lv_iconst (v := (0 : Int32)) hx hb dL_idAt_1 (by decide) ?_
  refine lv_aload_n hx hb dL_idAt_2 rfl (lv_at hl 0 rfl) ?_
  refine lv_iload_n hx hb dL_idAt_3 rfl (lv_at hl 1 rfl) ?_
  obtain ⟨yr8, M7, hq6, hf⟩ := bxh_o hf
  refine hl_ci (hx_runV C0 hH hS (n := 1) (As := [.int a1]) (rest := [.int (0 : Int32), .ref (YA Y 33 0)]) (c_X7_idAt hl9 M a1 hq6) ⟨⟨zt_859, zt_860, zt_861, zt_1, zt_862⟩, rfl, by decide, by decide, by decide +kernel⟩ ⟨rfl, rfl, Nat.le_of_ble_eq_true rfl, Nat.le_of_ble_eq_true rfl⟩ (hs_recv hK hH 0 0 (by decide) 11 rfl rfl) rfl rfl hl.1 (Nat.le_of_ble_eq_true rfl) ⟨Nat.le_of_ble_eq_true rfl, Nat.le_of_ble_eq_true rfl⟩ dL_idAt_4) hS (fun k9 E9 q9 ce9 H locs e9 hE hH hS h1 h2 h3 => ?_) (fun r8 er8 H locs hH hS => ?_)
  · subst e9
    have hf := bxh_x hf
    by_cases hc10 : k9 = 0
    · subst hc10
      have hf := if_t hf rfl
      cases hE
      refine hl_catch C0 hT (by decide) [] ⟨0, 9, 12, 19⟩ [] rfl (fun _ h => nomatch h) (by decide) (by decide) zt_698 h1 h2 h3 ?_
      refine lv_astore_n (lv' := [(3, .ref q9), (0, .ref (YA Y 0 0)), (1, .int a1), (2, .ref (YA Y 33 0))]) hx hb dL_idAt_12 rfl hl (by decide) rfl (fun ls hl => ?_)
      refine lv_iconst (v := (1 : Int32)) hx hb dL_idAt_13 (by decide) ?_
      cases hf
      exact vx_ret (hs_iret C0 hH hS (by decide) (by decide) dL_idAt_14)
    have hf := if_f hf hc10
    cases hf
  · subst er8
    have hf := bxh_v hf
    refine lv_i2l (v := r8.toInt64) hx hb dL_idAt_7 rfl ?_
    refine hl_lastore hx hb hK hH hS (v := r8) rfl dL_idAt_8 (fun H locs hH hS => ?_)
    obtain ⟨M9, eM9, hf⟩ := nm_o hf
    rw [← eM9] at hH
    refine lv_goto (tgt := 15) hx hb dL_idAt_9 (by decide) ?_
    refine lv_iconst (v := (0 : Int32)) hx hb dL_idAt_15 (by decide) ?_
    cases hf
    exact vx_ret (hs_iret C0 hH hS (by decide) (by decide) dL_idAt_16)
def f_L_isTravelling_15 (M : Mem) (b0 : Int64) : Option (Int32 × Mem) := if b0.toInt32.toInt64 = b0 then (nm (mu M 33 0 0 b0.toInt32) fun M9 => some ((0 : Int32), M9)) else none
set_option maxHeartbeats 4000000 in
set_option maxRecDepth 100000 in
theorem w_L_isTravelling_15 {Y : LY} {p : Program} {l : Launch} {e : Env} {s : State} {m : MethodId} {args : Array Value} {below : List Frame} {meth : Method} {c : Code} (C0 : BE Y p s m args meth c cL_isTravelling 4 (Option.some Jvm.ClassFile.FieldType.int) RL) {r : Int32} {MZ : Mem} : ∀ (M : Mem) (b0 : Int64), f_L_isTravelling_15 M b0 = some (r, MZ) → ∀ (H : Heap) (locs : List Loc) (ls : Array Slot), HS Y M H → va_S (AZ Y) s.heap H locs → lv_has ls 4 [] → W p l e { frames := 8, cells := 1, slots := 6, locals := 133 } s m args below meth c H locs 1 6 (vx_MQ below (Qi Y r MZ) XN args s 1 6 (AZ Y)) (F0 m 15 ls [.long b0, .int (0 : Int32), .ref (YA Y 33 0)]) := by
  obtain ⟨hx, hb, hr, hml, hown, hA, hlocks, hK, hZ⟩ := id C0
  intro M b0 hf H locs ls hH hS hl
  unfold f_L_isTravelling_15 at hf
  obtain ⟨hg8, hf⟩ := gd_o hf
  refine hl_lastore hx hb hK hH hS (v := b0.toInt32) hg8 dL_isTravelling_15 (fun H locs hH hS => ?_)
  obtain ⟨M9, eM9, hf⟩ := nm_o hf
  rw [← eM9] at hH
  refine lv_goto (tgt := 22) hx hb dL_isTravelling_16 (by decide) ?_
  refine lv_iconst (v := (0 : Int32)) hx hb dL_isTravelling_22 (by decide) ?_
  cases hf
  exact vx_ret (hs_iret C0 hH hS (by decide) (by decide) dL_isTravelling_23)
def f_L_isTravelling (M : Mem) (a1 : Int32) : Option (Int32 × Mem) := bxh (f_X7_isTravelling M a1) (fun (r12 : Int32) (M11 : Mem) => (if r12 = 0 then f_L_isTravelling_15 M11 (0 : Int64) else f_L_isTravelling_15 M11 (1 : Int64))) (fun (e9 : Nat) (M11 : Mem) => (if e9 = 3 then some ((1 : Int32), M11) else none))
set_option maxHeartbeats 4000000 in
set_option maxRecDepth 100000 in
theorem c_L_isTravelling {Y : LY} {l : Launch} (hl9 : l.stackTraces = false) (M : Mem) (a1 : Int32) {r : Int32} {MZ : Mem} (hf : f_L_isTravelling M a1 = some (r, MZ)) : vx_Met l yL_isTravelling (Cond.codeWith yL_isTravelling cL_isTravelling 4 (Option.some Jvm.ClassFile.FieldType.int) [(0, 16, 19, 37)] :: ALLW) { frames := 8, cells := 1, slots := 6, locals := 133 } (PcM Y M [.ref (YA Y 0 0), .int a1, .ref (YA Y 33 0)]) (Qi Y r MZ) XN 1 6 (AZ Y) := by
  refine met_mkh (lv := [(0, .ref (YA Y 0 0)), (1, .int a1), (2, .ref (YA Y 33 0))]) [.ref (YA Y 0 0), .int a1, .ref (YA Y 33 0)] (by decide) rfl rfl (Nat.le_of_ble_eq_true rfl) (fun p e s m below meth c C0 hT hH ls hl => ?_)
  have hS : va_S (AZ Y) s.heap s.heap [] := va_S.rf
  obtain ⟨hx, hb, hr, hml, hown, hA, hlocks, hK, hZ⟩ := id C0
  unfold f_L_isTravelling at hf
  refine lv_aload_n hx hb dL_isTravelling_0 rfl (lv_at hl 2 rfl) ?_
  refine lv_iconst (v := (0 : Int32)) hx hb dL_isTravelling_1 (by decide) ?_
  refine lv_aload_n hx hb dL_isTravelling_2 rfl (lv_at hl 0 rfl) ?_
  refine lv_iload_n hx hb dL_isTravelling_3 rfl (lv_at hl 1 rfl) ?_
  obtain ⟨yr12, M11, hq10, hf⟩ := bxh_o hf
  refine hl_ci (hx_runV C0 hH hS (n := 1) (As := [.int a1]) (rest := [.int (0 : Int32), .ref (YA Y 33 0)]) (c_X7_isTravelling hl9 M a1 hq10) ⟨⟨zt_866, zt_867, zt_868, zt_1, zt_869⟩, rfl, by decide, by decide, by decide +kernel⟩ ⟨rfl, rfl, Nat.le_of_ble_eq_true rfl, Nat.le_of_ble_eq_true rfl⟩ (hs_recv hK hH 0 0 (by decide) 11 rfl rfl) rfl rfl hl.1 (Nat.le_of_ble_eq_true rfl) ⟨Nat.le_of_ble_eq_true rfl, Nat.le_of_ble_eq_true rfl⟩ dL_isTravelling_4) hS (fun k9 E9 q9 ce9 H locs e9 hE hH hS h1 h2 h3 => ?_) (fun r12 er12 H locs hH hS => ?_)
  · subst e9
    have hf := bxh_x hf
    by_cases hc14 : k9 = 3
    · subst hc14
      have hf := if_t hf rfl
      cases hE
      refine hl_catch C0 hT (by decide) [] ⟨0, 16, 19, 37⟩ [] rfl (fun _ h => nomatch h) (by decide) (by decide) zt_748 h1 h2 h3 ?_
      refine lv_astore_n (lv' := [(3, .ref q9), (0, .ref (YA Y 0 0)), (1, .int a1), (2, .ref (YA Y 33 0))]) hx hb dL_isTravelling_19 rfl hl (by decide) rfl (fun ls hl => ?_)
      refine lv_iconst (v := (1 : Int32)) hx hb dL_isTravelling_20 (by decide) ?_
      cases hf
      exact vx_ret (hs_iret C0 hH hS (by decide) (by decide) dL_isTravelling_21)
    have hf := if_f hf hc14
    cases hf
  · subst er12
    have hf := bxh_v hf
    refine lv_if_eq (tgt := 14) hx hb dL_isTravelling_7 (by decide) (fun hc13 => ?_) (fun hc13 => ?_)
    · have hf := if_t hf hc13
      refine lv_lconst (v := (0 : Int64)) hx hb dL_isTravelling_14 (by decide) ?_
      exact w_L_isTravelling_15 C0 M11 (0 : Int64) hf _ _ _ hH hS (lv_sub hl [] rfl)
    · have hf := if_f hf hc13
      refine lv_lconst (v := (1 : Int64)) hx hb dL_isTravelling_10 (by decide) ?_
      refine lv_goto (tgt := 15) hx hb dL_isTravelling_11 (by decide) ?_
      exact w_L_isTravelling_15 C0 M11 (1 : Int64) hf _ _ _ hH hS (lv_sub hl [] rfl)
def f_L_placeOf (M : Mem) (a1 : Int32) : Option (Int32 × Mem) := bxh (f_X7_placeOf M a1) (fun (r8 : Int32) (M7 : Mem) => nm (mu M7 33 0 0 r8) fun M9 => some ((0 : Int32), M9)) (fun (e9 : Nat) (M7 : Mem) => (if e9 = 3 then some ((1 : Int32), M7) else none))
set_option maxHeartbeats 4000000 in
set_option maxRecDepth 100000 in
theorem c_L_placeOf {Y : LY} {l : Launch} (hl9 : l.stackTraces = false) (M : Mem) (a1 : Int32) {r : Int32} {MZ : Mem} (hf : f_L_placeOf M a1 = some (r, MZ)) : vx_Met l yL_placeOf (Cond.codeWith yL_placeOf cL_placeOf 4 (Option.some Jvm.ClassFile.FieldType.int) [(0, 9, 12, 37)] :: ALLW) { frames := 9, cells := 2, slots := 12, locals := 155 } (PcM Y M [.ref (YA Y 0 0), .int a1, .ref (YA Y 33 0)]) (Qi Y r MZ) XN 2 12 (AZ Y) := by
  refine met_mkh (lv := [(0, .ref (YA Y 0 0)), (1, .int a1), (2, .ref (YA Y 33 0))]) [.ref (YA Y 0 0), .int a1, .ref (YA Y 33 0)] (by decide) rfl rfl (Nat.le_of_ble_eq_true rfl) (fun p e s m below meth c C0 hT hH ls hl => ?_)
  have hS : va_S (AZ Y) s.heap s.heap [] := va_S.rf
  obtain ⟨hx, hb, hr, hml, hown, hA, hlocks, hK, hZ⟩ := id C0
  unfold f_L_placeOf at hf
  refine lv_aload_n hx hb dL_placeOf_0 rfl (lv_at hl 2 rfl) ?_
  refine lv_iconst (v := (0 : Int32)) hx hb dL_placeOf_1 (by decide) ?_
  refine lv_aload_n hx hb dL_placeOf_2 rfl (lv_at hl 0 rfl) ?_
  refine lv_iload_n hx hb dL_placeOf_3 rfl (lv_at hl 1 rfl) ?_
  obtain ⟨yr8, M7, hq6, hf⟩ := bxh_o hf
  refine hl_ci (hx_runV C0 hH hS (n := 1) (As := [.int a1]) (rest := [.int (0 : Int32), .ref (YA Y 33 0)]) (c_X7_placeOf hl9 M a1 hq6) ⟨⟨zt_879, zt_880, zt_881, zt_1, zt_882⟩, rfl, by decide, by decide, by decide +kernel⟩ ⟨rfl, rfl, Nat.le_of_ble_eq_true rfl, Nat.le_of_ble_eq_true rfl⟩ (hs_recv hK hH 0 0 (by decide) 11 rfl rfl) rfl rfl hl.1 (Nat.le_of_ble_eq_true rfl) ⟨Nat.le_of_ble_eq_true rfl, Nat.le_of_ble_eq_true rfl⟩ dL_placeOf_4) hS (fun k9 E9 q9 ce9 H locs e9 hE hH hS h1 h2 h3 => ?_) (fun r8 er8 H locs hH hS => ?_)
  · subst e9
    have hf := bxh_x hf
    by_cases hc10 : k9 = 3
    · subst hc10
      have hf := if_t hf rfl
      cases hE
      refine hl_catch C0 hT (by decide) [] ⟨0, 9, 12, 37⟩ [] rfl (fun _ h => nomatch h) (by decide) (by decide) zt_748 h1 h2 h3 ?_
      refine lv_astore_n (lv' := [(3, .ref q9), (0, .ref (YA Y 0 0)), (1, .int a1), (2, .ref (YA Y 33 0))]) hx hb dL_placeOf_12 rfl hl (by decide) rfl (fun ls hl => ?_)
      refine lv_iconst (v := (1 : Int32)) hx hb dL_placeOf_13 (by decide) ?_
      cases hf
      exact vx_ret (hs_iret C0 hH hS (by decide) (by decide) dL_placeOf_14)
    have hf := if_f hf hc10
    cases hf
  · subst er8
    have hf := bxh_v hf
    refine lv_i2l (v := r8.toInt64) hx hb dL_placeOf_7 rfl ?_
    refine hl_lastore hx hb hK hH hS (v := r8) rfl dL_placeOf_8 (fun H locs hH hS => ?_)
    obtain ⟨M9, eM9, hf⟩ := nm_o hf
    rw [← eM9] at hH
    refine lv_goto (tgt := 15) hx hb dL_placeOf_9 (by decide) ?_
    refine lv_iconst (v := (0 : Int32)) hx hb dL_placeOf_15 (by decide) ?_
    cases hf
    exact vx_ret (hs_iret C0 hH hS (by decide) (by decide) dL_placeOf_16)
def f_L_linkOf (M : Mem) (a1 : Int32) : Option (Int32 × Mem) := bxh (f_X7_linkOf M a1) (fun (r8 : Int32) (M7 : Mem) => nm (mu M7 33 0 0 r8) fun M9 => some ((0 : Int32), M9)) (fun (e9 : Nat) (M7 : Mem) => (if e9 = 3 then some ((1 : Int32), M7) else none))
set_option maxHeartbeats 4000000 in
set_option maxRecDepth 100000 in
theorem c_L_linkOf {Y : LY} {l : Launch} (hl9 : l.stackTraces = false) (M : Mem) (a1 : Int32) {r : Int32} {MZ : Mem} (hf : f_L_linkOf M a1 = some (r, MZ)) : vx_Met l yL_linkOf (Cond.codeWith yL_linkOf cL_linkOf 4 (Option.some Jvm.ClassFile.FieldType.int) [(0, 9, 12, 37)] :: ALLW) { frames := 9, cells := 2, slots := 12, locals := 155 } (PcM Y M [.ref (YA Y 0 0), .int a1, .ref (YA Y 33 0)]) (Qi Y r MZ) XN 2 12 (AZ Y) := by
  refine met_mkh (lv := [(0, .ref (YA Y 0 0)), (1, .int a1), (2, .ref (YA Y 33 0))]) [.ref (YA Y 0 0), .int a1, .ref (YA Y 33 0)] (by decide) rfl rfl (Nat.le_of_ble_eq_true rfl) (fun p e s m below meth c C0 hT hH ls hl => ?_)
  have hS : va_S (AZ Y) s.heap s.heap [] := va_S.rf
  obtain ⟨hx, hb, hr, hml, hown, hA, hlocks, hK, hZ⟩ := id C0
  unfold f_L_linkOf at hf
  refine lv_aload_n hx hb dL_linkOf_0 rfl (lv_at hl 2 rfl) ?_
  refine lv_iconst (v := (0 : Int32)) hx hb dL_linkOf_1 (by decide) ?_
  refine lv_aload_n hx hb dL_linkOf_2 rfl (lv_at hl 0 rfl) ?_
  refine lv_iload_n hx hb dL_linkOf_3 rfl (lv_at hl 1 rfl) ?_
  obtain ⟨yr8, M7, hq6, hf⟩ := bxh_o hf
  refine hl_ci (hx_runV C0 hH hS (n := 1) (As := [.int a1]) (rest := [.int (0 : Int32), .ref (YA Y 33 0)]) (c_X7_linkOf hl9 M a1 hq6) ⟨⟨zt_891, zt_892, zt_893, zt_1, zt_894⟩, rfl, by decide, by decide, by decide +kernel⟩ ⟨rfl, rfl, Nat.le_of_ble_eq_true rfl, Nat.le_of_ble_eq_true rfl⟩ (hs_recv hK hH 0 0 (by decide) 11 rfl rfl) rfl rfl hl.1 (Nat.le_of_ble_eq_true rfl) ⟨Nat.le_of_ble_eq_true rfl, Nat.le_of_ble_eq_true rfl⟩ dL_linkOf_4) hS (fun k9 E9 q9 ce9 H locs e9 hE hH hS h1 h2 h3 => ?_) (fun r8 er8 H locs hH hS => ?_)
  · subst e9
    have hf := bxh_x hf
    by_cases hc10 : k9 = 3
    · subst hc10
      have hf := if_t hf rfl
      cases hE
      refine hl_catch C0 hT (by decide) [] ⟨0, 9, 12, 37⟩ [] rfl (fun _ h => nomatch h) (by decide) (by decide) zt_748 h1 h2 h3 ?_
      refine lv_astore_n (lv' := [(3, .ref q9), (0, .ref (YA Y 0 0)), (1, .int a1), (2, .ref (YA Y 33 0))]) hx hb dL_linkOf_12 rfl hl (by decide) rfl (fun ls hl => ?_)
      refine lv_iconst (v := (1 : Int32)) hx hb dL_linkOf_13 (by decide) ?_
      cases hf
      exact vx_ret (hs_iret C0 hH hS (by decide) (by decide) dL_linkOf_14)
    have hf := if_f hf hc10
    cases hf
  · subst er8
    have hf := bxh_v hf
    refine lv_i2l (v := r8.toInt64) hx hb dL_linkOf_7 rfl ?_
    refine hl_lastore hx hb hK hH hS (v := r8) rfl dL_linkOf_8 (fun H locs hH hS => ?_)
    obtain ⟨M9, eM9, hf⟩ := nm_o hf
    rw [← eM9] at hH
    refine lv_goto (tgt := 15) hx hb dL_linkOf_9 (by decide) ?_
    refine lv_iconst (v := (0 : Int32)) hx hb dL_linkOf_15 (by decide) ?_
    cases hf
    exact vx_ret (hs_iret C0 hH hS (by decide) (by decide) dL_linkOf_16)
def f_L_arrivalOf (M : Mem) (a1 : Int32) : Option (Int32 × Mem) := bxh (f_X7_arrivalOf M a1) (fun (r8 : Int32) (M7 : Mem) => nm (mu M7 33 0 0 r8) fun M9 => some ((0 : Int32), M9)) (fun (e9 : Nat) (M7 : Mem) => (if e9 = 3 then some ((1 : Int32), M7) else none))
set_option maxHeartbeats 4000000 in
set_option maxRecDepth 100000 in
theorem c_L_arrivalOf {Y : LY} {l : Launch} (hl9 : l.stackTraces = false) (M : Mem) (a1 : Int32) {r : Int32} {MZ : Mem} (hf : f_L_arrivalOf M a1 = some (r, MZ)) : vx_Met l yL_arrivalOf (Cond.codeWith yL_arrivalOf cL_arrivalOf 4 (Option.some Jvm.ClassFile.FieldType.int) [(0, 9, 12, 37)] :: ALLW) { frames := 9, cells := 2, slots := 12, locals := 155 } (PcM Y M [.ref (YA Y 0 0), .int a1, .ref (YA Y 33 0)]) (Qi Y r MZ) XN 2 12 (AZ Y) := by
  refine met_mkh (lv := [(0, .ref (YA Y 0 0)), (1, .int a1), (2, .ref (YA Y 33 0))]) [.ref (YA Y 0 0), .int a1, .ref (YA Y 33 0)] (by decide) rfl rfl (Nat.le_of_ble_eq_true rfl) (fun p e s m below meth c C0 hT hH ls hl => ?_)
  have hS : va_S (AZ Y) s.heap s.heap [] := va_S.rf
  obtain ⟨hx, hb, hr, hml, hown, hA, hlocks, hK, hZ⟩ := id C0
  unfold f_L_arrivalOf at hf
  refine lv_aload_n hx hb dL_arrivalOf_0 rfl (lv_at hl 2 rfl) ?_
  refine lv_iconst (v := (0 : Int32)) hx hb dL_arrivalOf_1 (by decide) ?_
  refine lv_aload_n hx hb dL_arrivalOf_2 rfl (lv_at hl 0 rfl) ?_
  refine lv_iload_n hx hb dL_arrivalOf_3 rfl (lv_at hl 1 rfl) ?_
  obtain ⟨yr8, M7, hq6, hf⟩ := bxh_o hf
  refine hl_ci (hx_runV C0 hH hS (n := 1) (As := [.int a1]) (rest := [.int (0 : Int32), .ref (YA Y 33 0)]) (c_X7_arrivalOf hl9 M a1 hq6) ⟨⟨zt_903, zt_904, zt_905, zt_1, zt_906⟩, rfl, by decide, by decide, by decide +kernel⟩ ⟨rfl, rfl, Nat.le_of_ble_eq_true rfl, Nat.le_of_ble_eq_true rfl⟩ (hs_recv hK hH 0 0 (by decide) 11 rfl rfl) rfl rfl hl.1 (Nat.le_of_ble_eq_true rfl) ⟨Nat.le_of_ble_eq_true rfl, Nat.le_of_ble_eq_true rfl⟩ dL_arrivalOf_4) hS (fun k9 E9 q9 ce9 H locs e9 hE hH hS h1 h2 h3 => ?_) (fun r8 er8 H locs hH hS => ?_)
  · subst e9
    have hf := bxh_x hf
    by_cases hc10 : k9 = 3
    · subst hc10
      have hf := if_t hf rfl
      cases hE
      refine hl_catch C0 hT (by decide) [] ⟨0, 9, 12, 37⟩ [] rfl (fun _ h => nomatch h) (by decide) (by decide) zt_748 h1 h2 h3 ?_
      refine lv_astore_n (lv' := [(3, .ref q9), (0, .ref (YA Y 0 0)), (1, .int a1), (2, .ref (YA Y 33 0))]) hx hb dL_arrivalOf_12 rfl hl (by decide) rfl (fun ls hl => ?_)
      refine lv_iconst (v := (1 : Int32)) hx hb dL_arrivalOf_13 (by decide) ?_
      cases hf
      exact vx_ret (hs_iret C0 hH hS (by decide) (by decide) dL_arrivalOf_14)
    have hf := if_f hf hc10
    cases hf
  · subst er8
    have hf := bxh_v hf
    refine lv_i2l (v := r8.toInt64) hx hb dL_arrivalOf_7 rfl ?_
    refine hl_lastore hx hb hK hH hS (v := r8) rfl dL_arrivalOf_8 (fun H locs hH hS => ?_)
    obtain ⟨M9, eM9, hf⟩ := nm_o hf
    rw [← eM9] at hH
    refine lv_goto (tgt := 15) hx hb dL_arrivalOf_9 (by decide) ?_
    refine lv_iconst (v := (0 : Int32)) hx hb dL_arrivalOf_15 (by decide) ?_
    cases hf
    exact vx_ret (hs_iret C0 hH hS (by decide) (by decide) dL_arrivalOf_16)
def f_L_destinationOf (M : Mem) (a1 : Int32) : Option (Int32 × Mem) := bxh (f_X7_destinationOf M a1) (fun (r8 : Int32) (M7 : Mem) => nm (mu M7 33 0 0 r8) fun M9 => some ((0 : Int32), M9)) (fun (e9 : Nat) (M7 : Mem) => (if e9 = 3 then some ((1 : Int32), M7) else none))
set_option maxHeartbeats 4000000 in
set_option maxRecDepth 100000 in
theorem c_L_destinationOf {Y : LY} {l : Launch} (hl9 : l.stackTraces = false) (M : Mem) (a1 : Int32) {r : Int32} {MZ : Mem} (hf : f_L_destinationOf M a1 = some (r, MZ)) : vx_Met l yL_destinationOf (Cond.codeWith yL_destinationOf cL_destinationOf 4 (Option.some Jvm.ClassFile.FieldType.int) [(0, 9, 12, 37)] :: ALLW) { frames := 8, cells := 1, slots := 6, locals := 133 } (PcM Y M [.ref (YA Y 0 0), .int a1, .ref (YA Y 33 0)]) (Qi Y r MZ) XN 1 6 (AZ Y) := by
  refine met_mkh (lv := [(0, .ref (YA Y 0 0)), (1, .int a1), (2, .ref (YA Y 33 0))]) [.ref (YA Y 0 0), .int a1, .ref (YA Y 33 0)] (by decide) rfl rfl (Nat.le_of_ble_eq_true rfl) (fun p e s m below meth c C0 hT hH ls hl => ?_)
  have hS : va_S (AZ Y) s.heap s.heap [] := va_S.rf
  obtain ⟨hx, hb, hr, hml, hown, hA, hlocks, hK, hZ⟩ := id C0
  unfold f_L_destinationOf at hf
  refine lv_aload_n hx hb dL_destinationOf_0 rfl (lv_at hl 2 rfl) ?_
  refine lv_iconst (v := (0 : Int32)) hx hb dL_destinationOf_1 (by decide) ?_
  refine lv_aload_n hx hb dL_destinationOf_2 rfl (lv_at hl 0 rfl) ?_
  refine lv_iload_n hx hb dL_destinationOf_3 rfl (lv_at hl 1 rfl) ?_
  obtain ⟨yr8, M7, hq6, hf⟩ := bxh_o hf
  refine hl_ci (hx_runV C0 hH hS (n := 1) (As := [.int a1]) (rest := [.int (0 : Int32), .ref (YA Y 33 0)]) (c_X7_destinationOf hl9 M a1 hq6) ⟨⟨zt_910, zt_911, zt_912, zt_1, zt_913⟩, rfl, by decide, by decide, by decide +kernel⟩ ⟨rfl, rfl, Nat.le_of_ble_eq_true rfl, Nat.le_of_ble_eq_true rfl⟩ (hs_recv hK hH 0 0 (by decide) 11 rfl rfl) rfl rfl hl.1 (Nat.le_of_ble_eq_true rfl) ⟨Nat.le_of_ble_eq_true rfl, Nat.le_of_ble_eq_true rfl⟩ dL_destinationOf_4) hS (fun k9 E9 q9 ce9 H locs e9 hE hH hS h1 h2 h3 => ?_) (fun r8 er8 H locs hH hS => ?_)
  · subst e9
    have hf := bxh_x hf
    by_cases hc10 : k9 = 3
    · subst hc10
      have hf := if_t hf rfl
      cases hE
      refine hl_catch C0 hT (by decide) [] ⟨0, 9, 12, 37⟩ [] rfl (fun _ h => nomatch h) (by decide) (by decide) zt_748 h1 h2 h3 ?_
      refine lv_astore_n (lv' := [(3, .ref q9), (0, .ref (YA Y 0 0)), (1, .int a1), (2, .ref (YA Y 33 0))]) hx hb dL_destinationOf_12 rfl hl (by decide) rfl (fun ls hl => ?_)
      refine lv_iconst (v := (1 : Int32)) hx hb dL_destinationOf_13 (by decide) ?_
      cases hf
      exact vx_ret (hs_iret C0 hH hS (by decide) (by decide) dL_destinationOf_14)
    have hf := if_f hf hc10
    cases hf
  · subst er8
    have hf := bxh_v hf
    refine lv_i2l (v := r8.toInt64) hx hb dL_destinationOf_7 rfl ?_
    refine hl_lastore hx hb hK hH hS (v := r8) rfl dL_destinationOf_8 (fun H locs hH hS => ?_)
    obtain ⟨M9, eM9, hf⟩ := nm_o hf
    rw [← eM9] at hH
    refine lv_goto (tgt := 15) hx hb dL_destinationOf_9 (by decide) ?_
    refine lv_iconst (v := (0 : Int32)) hx hb dL_destinationOf_15 (by decide) ?_
    cases hf
    exact vx_ret (hs_iret C0 hH hS (by decide) (by decide) dL_destinationOf_16)
def f_L_weightOf (M : Mem) (a1 : Int32) : Option (Int32 × Mem) := bxh (f_X7_weightOf M a1) (fun (r8 : Int32) (M7 : Mem) => nm (mu M7 33 0 0 r8) fun M9 => some ((0 : Int32), M9)) (fun (e9 : Nat) (M7 : Mem) => (if e9 = 3 then some ((1 : Int32), M7) else none))
set_option maxHeartbeats 4000000 in
set_option maxRecDepth 100000 in
theorem c_L_weightOf {Y : LY} {l : Launch} (hl9 : l.stackTraces = false) (M : Mem) (a1 : Int32) {r : Int32} {MZ : Mem} (hf : f_L_weightOf M a1 = some (r, MZ)) : vx_Met l yL_weightOf (Cond.codeWith yL_weightOf cL_weightOf 4 (Option.some Jvm.ClassFile.FieldType.int) [(0, 9, 12, 37)] :: ALLW) { frames := 8, cells := 1, slots := 6, locals := 133 } (PcM Y M [.ref (YA Y 0 0), .int a1, .ref (YA Y 33 0)]) (Qi Y r MZ) XN 1 6 (AZ Y) := by
  refine met_mkh (lv := [(0, .ref (YA Y 0 0)), (1, .int a1), (2, .ref (YA Y 33 0))]) [.ref (YA Y 0 0), .int a1, .ref (YA Y 33 0)] (by decide) rfl rfl (Nat.le_of_ble_eq_true rfl) (fun p e s m below meth c C0 hT hH ls hl => ?_)
  have hS : va_S (AZ Y) s.heap s.heap [] := va_S.rf
  obtain ⟨hx, hb, hr, hml, hown, hA, hlocks, hK, hZ⟩ := id C0
  unfold f_L_weightOf at hf
  refine lv_aload_n hx hb dL_weightOf_0 rfl (lv_at hl 2 rfl) ?_
  refine lv_iconst (v := (0 : Int32)) hx hb dL_weightOf_1 (by decide) ?_
  refine lv_aload_n hx hb dL_weightOf_2 rfl (lv_at hl 0 rfl) ?_
  refine lv_iload_n hx hb dL_weightOf_3 rfl (lv_at hl 1 rfl) ?_
  obtain ⟨yr8, M7, hq6, hf⟩ := bxh_o hf
  refine hl_ci (hx_runV C0 hH hS (n := 1) (As := [.int a1]) (rest := [.int (0 : Int32), .ref (YA Y 33 0)]) (c_X7_weightOf hl9 M a1 hq6) ⟨⟨zt_917, zt_918, zt_919, zt_1, zt_920⟩, rfl, by decide, by decide, by decide +kernel⟩ ⟨rfl, rfl, Nat.le_of_ble_eq_true rfl, Nat.le_of_ble_eq_true rfl⟩ (hs_recv hK hH 0 0 (by decide) 11 rfl rfl) rfl rfl hl.1 (Nat.le_of_ble_eq_true rfl) ⟨Nat.le_of_ble_eq_true rfl, Nat.le_of_ble_eq_true rfl⟩ dL_weightOf_4) hS (fun k9 E9 q9 ce9 H locs e9 hE hH hS h1 h2 h3 => ?_) (fun r8 er8 H locs hH hS => ?_)
  · subst e9
    have hf := bxh_x hf
    by_cases hc10 : k9 = 3
    · subst hc10
      have hf := if_t hf rfl
      cases hE
      refine hl_catch C0 hT (by decide) [] ⟨0, 9, 12, 37⟩ [] rfl (fun _ h => nomatch h) (by decide) (by decide) zt_748 h1 h2 h3 ?_
      refine lv_astore_n (lv' := [(3, .ref q9), (0, .ref (YA Y 0 0)), (1, .int a1), (2, .ref (YA Y 33 0))]) hx hb dL_weightOf_12 rfl hl (by decide) rfl (fun ls hl => ?_)
      refine lv_iconst (v := (1 : Int32)) hx hb dL_weightOf_13 (by decide) ?_
      cases hf
      exact vx_ret (hs_iret C0 hH hS (by decide) (by decide) dL_weightOf_14)
    have hf := if_f hf hc10
    cases hf
  · subst er8
    have hf := bxh_v hf
    refine lv_i2l (v := r8.toInt64) hx hb dL_weightOf_7 rfl ?_
    refine hl_lastore hx hb hK hH hS (v := r8) rfl dL_weightOf_8 (fun H locs hH hS => ?_)
    obtain ⟨M9, eM9, hf⟩ := nm_o hf
    rw [← eM9] at hH
    refine lv_goto (tgt := 15) hx hb dL_weightOf_9 (by decide) ?_
    refine lv_iconst (v := (0 : Int32)) hx hb dL_weightOf_15 (by decide) ?_
    cases hf
    exact vx_ret (hs_iret C0 hH hS (by decide) (by decide) dL_weightOf_16)
def f_L_stampsOf (M : Mem) (a1 : Int32) : Option (Int32 × Mem) := bxh (f_X7_stampsOf M a1) (fun (r8 : Int32) (M7 : Mem) => nm (mu M7 33 0 0 r8) fun M9 => some ((0 : Int32), M9)) (fun (e9 : Nat) (M7 : Mem) => (if e9 = 3 then some ((1 : Int32), M7) else none))
set_option maxHeartbeats 4000000 in
set_option maxRecDepth 100000 in
theorem c_L_stampsOf {Y : LY} {l : Launch} (hl9 : l.stackTraces = false) (M : Mem) (a1 : Int32) {r : Int32} {MZ : Mem} (hf : f_L_stampsOf M a1 = some (r, MZ)) : vx_Met l yL_stampsOf (Cond.codeWith yL_stampsOf cL_stampsOf 4 (Option.some Jvm.ClassFile.FieldType.int) [(0, 9, 12, 37)] :: ALLW) { frames := 8, cells := 1, slots := 6, locals := 133 } (PcM Y M [.ref (YA Y 0 0), .int a1, .ref (YA Y 33 0)]) (Qi Y r MZ) XN 1 6 (AZ Y) := by
  refine met_mkh (lv := [(0, .ref (YA Y 0 0)), (1, .int a1), (2, .ref (YA Y 33 0))]) [.ref (YA Y 0 0), .int a1, .ref (YA Y 33 0)] (by decide) rfl rfl (Nat.le_of_ble_eq_true rfl) (fun p e s m below meth c C0 hT hH ls hl => ?_)
  have hS : va_S (AZ Y) s.heap s.heap [] := va_S.rf
  obtain ⟨hx, hb, hr, hml, hown, hA, hlocks, hK, hZ⟩ := id C0
  unfold f_L_stampsOf at hf
  refine lv_aload_n hx hb dL_stampsOf_0 rfl (lv_at hl 2 rfl) ?_
  refine lv_iconst (v := (0 : Int32)) hx hb dL_stampsOf_1 (by decide) ?_
  refine lv_aload_n hx hb dL_stampsOf_2 rfl (lv_at hl 0 rfl) ?_
  refine lv_iload_n hx hb dL_stampsOf_3 rfl (lv_at hl 1 rfl) ?_
  obtain ⟨yr8, M7, hq6, hf⟩ := bxh_o hf
  refine hl_ci (hx_runV C0 hH hS (n := 1) (As := [.int a1]) (rest := [.int (0 : Int32), .ref (YA Y 33 0)]) (c_X7_stampsOf hl9 M a1 hq6) ⟨⟨zt_924, zt_925, zt_926, zt_1, zt_927⟩, rfl, by decide, by decide, by decide +kernel⟩ ⟨rfl, rfl, Nat.le_of_ble_eq_true rfl, Nat.le_of_ble_eq_true rfl⟩ (hs_recv hK hH 0 0 (by decide) 11 rfl rfl) rfl rfl hl.1 (Nat.le_of_ble_eq_true rfl) ⟨Nat.le_of_ble_eq_true rfl, Nat.le_of_ble_eq_true rfl⟩ dL_stampsOf_4) hS (fun k9 E9 q9 ce9 H locs e9 hE hH hS h1 h2 h3 => ?_) (fun r8 er8 H locs hH hS => ?_)
  · subst e9
    have hf := bxh_x hf
    by_cases hc10 : k9 = 3
    · subst hc10
      have hf := if_t hf rfl
      cases hE
      refine hl_catch C0 hT (by decide) [] ⟨0, 9, 12, 37⟩ [] rfl (fun _ h => nomatch h) (by decide) (by decide) zt_748 h1 h2 h3 ?_
      refine lv_astore_n (lv' := [(3, .ref q9), (0, .ref (YA Y 0 0)), (1, .int a1), (2, .ref (YA Y 33 0))]) hx hb dL_stampsOf_12 rfl hl (by decide) rfl (fun ls hl => ?_)
      refine lv_iconst (v := (1 : Int32)) hx hb dL_stampsOf_13 (by decide) ?_
      cases hf
      exact vx_ret (hs_iret C0 hH hS (by decide) (by decide) dL_stampsOf_14)
    have hf := if_f hf hc10
    cases hf
  · subst er8
    have hf := bxh_v hf
    refine lv_i2l (v := r8.toInt64) hx hb dL_stampsOf_7 rfl ?_
    refine hl_lastore hx hb hK hH hS (v := r8) rfl dL_stampsOf_8 (fun H locs hH hS => ?_)
    obtain ⟨M9, eM9, hf⟩ := nm_o hf
    rw [← eM9] at hH
    refine lv_goto (tgt := 15) hx hb dL_stampsOf_9 (by decide) ?_
    refine lv_iconst (v := (0 : Int32)) hx hb dL_stampsOf_15 (by decide) ?_
    cases hf
    exact vx_ret (hs_iret C0 hH hS (by decide) (by decide) dL_stampsOf_16)
def f_L_waitingIn (M : Mem) (a1 : Int32) : Option (Int32 × Mem) := bxh (f_X7_waitingIn M a1) (fun (r8 : Int32) (M7 : Mem) => nm (mu M7 33 0 0 r8) fun M9 => some ((0 : Int32), M9)) (fun (e9 : Nat) (M7 : Mem) => (if e9 = 0 then some ((1 : Int32), M7) else none))
set_option maxHeartbeats 4000000 in
set_option maxRecDepth 100000 in
theorem c_L_waitingIn {Y : LY} {l : Launch} (hl9 : l.stackTraces = false) (M : Mem) (a1 : Int32) {r : Int32} {MZ : Mem} (hf : f_L_waitingIn M a1 = some (r, MZ)) : vx_Met l yL_waitingIn (Cond.codeWith yL_waitingIn cL_waitingIn 4 (Option.some Jvm.ClassFile.FieldType.int) [(0, 9, 12, 19)] :: ALLW) { frames := 8, cells := 1, slots := 6, locals := 132 } (PcM Y M [.ref (YA Y 0 0), .int a1, .ref (YA Y 33 0)]) (Qi Y r MZ) XN 1 6 (AZ Y) := by
  refine met_mkh (lv := [(0, .ref (YA Y 0 0)), (1, .int a1), (2, .ref (YA Y 33 0))]) [.ref (YA Y 0 0), .int a1, .ref (YA Y 33 0)] (by decide) rfl rfl (Nat.le_of_ble_eq_true rfl) (fun p e s m below meth c C0 hT hH ls hl => ?_)
  have hS : va_S (AZ Y) s.heap s.heap [] := va_S.rf
  obtain ⟨hx, hb, hr, hml, hown, hA, hlocks, hK, hZ⟩ := id C0
  unfold f_L_waitingIn at hf
  refine lv_aload_n hx hb dL_waitingIn_0 rfl (lv_at hl 2 rfl) ?_
  refine lv_iconst (v := (0 : Int32)) hx hb dL_waitingIn_1 (by decide) ?_
  refine lv_aload_n hx hb dL_waitingIn_2 rfl (lv_at hl 0 rfl) ?_
  refine lv_iload_n hx hb dL_waitingIn_3 rfl (lv_at hl 1 rfl) ?_
  obtain ⟨yr8, M7, hq6, hf⟩ := bxh_o hf
  refine hl_ci (hx_runV C0 hH hS (n := 1) (As := [.int a1]) (rest := [.int (0 : Int32), .ref (YA Y 33 0)]) (c_X7_waitingIn hl9 M a1 hq6) ⟨⟨zt_931, zt_932, zt_933, zt_1, zt_934⟩, rfl, by decide, by decide, by decide +kernel⟩ ⟨rfl, rfl, Nat.le_of_ble_eq_true rfl, Nat.le_of_ble_eq_true rfl⟩ (hs_recv hK hH 0 0 (by decide) 11 rfl rfl) rfl rfl hl.1 (Nat.le_of_ble_eq_true rfl) ⟨Nat.le_of_ble_eq_true rfl, Nat.le_of_ble_eq_true rfl⟩ dL_waitingIn_4) hS (fun k9 E9 q9 ce9 H locs e9 hE hH hS h1 h2 h3 => ?_) (fun r8 er8 H locs hH hS => ?_)
  · subst e9
    have hf := bxh_x hf
    by_cases hc10 : k9 = 0
    · subst hc10
      have hf := if_t hf rfl
      cases hE
      refine hl_catch C0 hT (by decide) [] ⟨0, 9, 12, 19⟩ [] rfl (fun _ h => nomatch h) (by decide) (by decide) zt_698 h1 h2 h3 ?_
      refine lv_astore_n (lv' := [(3, .ref q9), (0, .ref (YA Y 0 0)), (1, .int a1), (2, .ref (YA Y 33 0))]) hx hb dL_waitingIn_12 rfl hl (by decide) rfl (fun ls hl => ?_)
      refine lv_iconst (v := (1 : Int32)) hx hb dL_waitingIn_13 (by decide) ?_
      cases hf
      exact vx_ret (hs_iret C0 hH hS (by decide) (by decide) dL_waitingIn_14)
    have hf := if_f hf hc10
    cases hf
  · subst er8
    have hf := bxh_v hf
    refine lv_i2l (v := r8.toInt64) hx hb dL_waitingIn_7 rfl ?_
    refine hl_lastore hx hb hK hH hS (v := r8) rfl dL_waitingIn_8 (fun H locs hH hS => ?_)
    obtain ⟨M9, eM9, hf⟩ := nm_o hf
    rw [← eM9] at hH
    refine lv_goto (tgt := 15) hx hb dL_waitingIn_9 (by decide) ?_
    refine lv_iconst (v := (0 : Int32)) hx hb dL_waitingIn_15 (by decide) ?_
    cases hf
    exact vx_ret (hs_iret C0 hH hS (by decide) (by decide) dL_waitingIn_16)
def f_L_earliestArrival (M : Mem) (a1 : Int32) (a2 : Int32) (a3 : Int32) : Option (Int32 × Mem) := bxh (f_X7_earliestArrival M a1 a2 a3) (fun (r10 : Int32) (M9 : Mem) => nm (mu M9 33 0 0 r10) fun M11 => some ((0 : Int32), M11)) (fun (e9 : Nat) (M9 : Mem) => (if e9 = 0 then some ((1 : Int32), M9) else (if e9 = 1 then some ((2 : Int32), M9) else (if e9 = 3 then some ((3 : Int32), M9) else none))))
set_option maxHeartbeats 4000000 in
set_option maxRecDepth 100000 in
theorem c_L_earliestArrival {Y : LY} {l : Launch} (hl9 : l.stackTraces = false) (M : Mem) (a1 : Int32) (a2 : Int32) (a3 : Int32) {r : Int32} {MZ : Mem} (hf : f_L_earliestArrival M a1 a2 a3 = some (r, MZ)) : vx_Met l yL_earliestArrival (Cond.codeWith yL_earliestArrival cL_earliestArrival 6 (Option.some Jvm.ClassFile.FieldType.int) [(0, 12, 15, 19), (0, 12, 19, 21), (0, 12, 23, 37)] :: ALLW) { frames := 9, cells := 4, slots := 24, locals := 155 } (PcM Y M [.ref (YA Y 0 0), .int a1, .int a2, .int a3, .ref (YA Y 33 0)]) (Qi Y r MZ) XN 4 24 (AZ Y) := by
  refine met_mkh (lv := [(0, .ref (YA Y 0 0)), (1, .int a1), (2, .int a2), (3, .int a3), (4, .ref (YA Y 33 0))]) [.ref (YA Y 0 0), .int a1, .int a2, .int a3, .ref (YA Y 33 0)] (by decide) rfl rfl (Nat.le_of_ble_eq_true rfl) (fun p e s m below meth c C0 hT hH ls hl => ?_)
  have hS : va_S (AZ Y) s.heap s.heap [] := va_S.rf
  obtain ⟨hx, hb, hr, hml, hown, hA, hlocks, hK, hZ⟩ := id C0
  unfold f_L_earliestArrival at hf
  refine lv_aload hx hb dL_earliestArrival_0 (lv_at hl 4 rfl) ?_
  refine lv_iconst (v := (0 : Int32)) hx hb dL_earliestArrival_2 (by decide) ?_
  refine lv_aload_n hx hb dL_earliestArrival_3 rfl (lv_at hl 0 rfl) ?_
  refine lv_iload_n hx hb dL_earliestArrival_4 rfl (lv_at hl 1 rfl) ?_
  refine lv_iload_n hx hb dL_earliestArrival_5 rfl (lv_at hl 2 rfl) ?_
  refine lv_iload_n hx hb dL_earliestArrival_6 rfl (lv_at hl 3 rfl) ?_
  obtain ⟨yr10, M9, hq8, hf⟩ := bxh_o hf
  refine hl_ci (hx_runV C0 hH hS (n := 3) (As := [.int a1, .int a2, .int a3]) (rest := [.int (0 : Int32), .ref (YA Y 33 0)]) (c_X7_earliestArrival hl9 M a1 a2 a3 hq8) ⟨⟨zt_942, zt_943, zt_944, zt_1, zt_945⟩, rfl, by decide, by decide, by decide +kernel⟩ ⟨rfl, rfl, Nat.le_of_ble_eq_true rfl, Nat.le_of_ble_eq_true rfl⟩ (hs_recv hK hH 0 0 (by decide) 11 rfl rfl) rfl rfl hl.1 (Nat.le_of_ble_eq_true rfl) ⟨Nat.le_of_ble_eq_true rfl, Nat.le_of_ble_eq_true rfl⟩ dL_earliestArrival_7) hS (fun k9 E9 q9 ce9 H locs e9 hE hH hS h1 h2 h3 => ?_) (fun r10 er10 H locs hH hS => ?_)
  · subst e9
    have hf := bxh_x hf
    by_cases hc14 : k9 = 0
    · subst hc14
      have hf := if_t hf rfl
      cases hE
      refine hl_catch C0 hT (by decide) [] ⟨0, 12, 15, 19⟩ [⟨0, 12, 19, 21⟩, ⟨0, 12, 23, 37⟩] rfl (fun _ h => nomatch h) (by decide) (by decide) zt_698 h1 h2 h3 ?_
      refine lv_astore (lv' := [(5, .ref q9), (0, .ref (YA Y 0 0)), (1, .int a1), (2, .int a2), (3, .int a3), (4, .ref (YA Y 33 0))]) hx hb dL_earliestArrival_15 hl (by decide) rfl (fun ls hl => ?_)
      refine lv_iconst (v := (1 : Int32)) hx hb dL_earliestArrival_17 (by decide) ?_
      cases hf
      exact vx_ret (hs_iret C0 hH hS (by decide) (by decide) dL_earliestArrival_18)
    have hf := if_f hf hc14
    by_cases hc13 : k9 = 1
    · subst hc13
      have hf := if_t hf rfl
      cases hE
      refine hl_catch C0 hT (by decide) [⟨0, 12, 15, 19⟩] ⟨0, 12, 19, 21⟩ [⟨0, 12, 23, 37⟩] rfl (List.forall_mem_cons.mpr ⟨Or.inr ⟨by decide, "java/lang/IndexOutOfBoundsException", zt_698, by decide, by decide⟩, (fun _ h => nomatch h)⟩) (by decide) (by decide) zt_719 h1 h2 h3 ?_
      refine lv_astore (lv' := [(5, .ref q9), (0, .ref (YA Y 0 0)), (1, .int a1), (2, .int a2), (3, .int a3), (4, .ref (YA Y 33 0))]) hx hb dL_earliestArrival_19 hl (by decide) rfl (fun ls hl => ?_)
      refine lv_iconst (v := (2 : Int32)) hx hb dL_earliestArrival_21 (by decide) ?_
      cases hf
      exact vx_ret (hs_iret C0 hH hS (by decide) (by decide) dL_earliestArrival_22)
    have hf := if_f hf hc13
    by_cases hc12 : k9 = 3
    · subst hc12
      have hf := if_t hf rfl
      cases hE
      refine hl_catch C0 hT (by decide) [⟨0, 12, 15, 19⟩, ⟨0, 12, 19, 21⟩] ⟨0, 12, 23, 37⟩ [] rfl (List.forall_mem_cons.mpr ⟨Or.inr ⟨by decide, "java/lang/IndexOutOfBoundsException", zt_698, by decide, by decide⟩, (List.forall_mem_cons.mpr ⟨Or.inr ⟨by decide, "java/lang/IllegalArgumentException", zt_719, by decide, by decide⟩, (fun _ h => nomatch h)⟩)⟩) (by decide) (by decide) zt_748 h1 h2 h3 ?_
      refine lv_astore (lv' := [(5, .ref q9), (0, .ref (YA Y 0 0)), (1, .int a1), (2, .int a2), (3, .int a3), (4, .ref (YA Y 33 0))]) hx hb dL_earliestArrival_23 hl (by decide) rfl (fun ls hl => ?_)
      refine lv_iconst (v := (3 : Int32)) hx hb dL_earliestArrival_25 (by decide) ?_
      cases hf
      exact vx_ret (hs_iret C0 hH hS (by decide) (by decide) dL_earliestArrival_26)
    have hf := if_f hf hc12
    cases hf
  · subst er10
    have hf := bxh_v hf
    refine lv_i2l (v := r10.toInt64) hx hb dL_earliestArrival_10 rfl ?_
    refine hl_lastore hx hb hK hH hS (v := r10) rfl dL_earliestArrival_11 (fun H locs hH hS => ?_)
    obtain ⟨M11, eM11, hf⟩ := nm_o hf
    rw [← eM11] at hH
    refine lv_goto (tgt := 27) hx hb dL_earliestArrival_12 (by decide) ?_
    refine lv_iconst (v := (0 : Int32)) hx hb dL_earliestArrival_27 (by decide) ?_
    cases hf
    exact vx_ret (hs_iret C0 hH hS (by decide) (by decide) dL_earliestArrival_28)
def f_L_earliestArrivalByHours (M : Mem) (a1 : Int32) (a2 : Int32) (a3 : Int32) : Option (Int32 × Mem) := bxh (f_X7_earliestArrivalByHours M a1 a2 a3) (fun (r10 : Int32) (M9 : Mem) => nm (mu M9 33 0 0 r10) fun M11 => some ((0 : Int32), M11)) (fun (e9 : Nat) (M9 : Mem) => (if e9 = 0 then some ((1 : Int32), M9) else (if e9 = 1 then some ((2 : Int32), M9) else (if e9 = 3 then some ((3 : Int32), M9) else none))))
set_option maxHeartbeats 4000000 in
set_option maxRecDepth 100000 in
theorem c_L_earliestArrivalByHours {Y : LY} {l : Launch} (hl9 : l.stackTraces = false) (M : Mem) (a1 : Int32) (a2 : Int32) (a3 : Int32) {r : Int32} {MZ : Mem} (hf : f_L_earliestArrivalByHours M a1 a2 a3 = some (r, MZ)) : vx_Met l yL_earliestArrivalByHours (Cond.codeWith yL_earliestArrivalByHours cL_earliestArrivalByHours 6 (Option.some Jvm.ClassFile.FieldType.int) [(0, 12, 15, 19), (0, 12, 19, 21), (0, 12, 23, 37)] :: ALLW) { frames := 9, cells := 4, slots := 24, locals := 155 } (PcM Y M [.ref (YA Y 0 0), .int a1, .int a2, .int a3, .ref (YA Y 33 0)]) (Qi Y r MZ) XN 4 24 (AZ Y) := by
  refine met_mkh (lv := [(0, .ref (YA Y 0 0)), (1, .int a1), (2, .int a2), (3, .int a3), (4, .ref (YA Y 33 0))]) [.ref (YA Y 0 0), .int a1, .int a2, .int a3, .ref (YA Y 33 0)] (by decide) rfl rfl (Nat.le_of_ble_eq_true rfl) (fun p e s m below meth c C0 hT hH ls hl => ?_)
  have hS : va_S (AZ Y) s.heap s.heap [] := va_S.rf
  obtain ⟨hx, hb, hr, hml, hown, hA, hlocks, hK, hZ⟩ := id C0
  unfold f_L_earliestArrivalByHours at hf
  refine lv_aload hx hb dL_earliestArrivalByHours_0 (lv_at hl 4 rfl) ?_
  refine lv_iconst (v := (0 : Int32)) hx hb dL_earliestArrivalByHours_2 (by decide) ?_
  refine lv_aload_n hx hb dL_earliestArrivalByHours_3 rfl (lv_at hl 0 rfl) ?_
  refine lv_iload_n hx hb dL_earliestArrivalByHours_4 rfl (lv_at hl 1 rfl) ?_
  refine lv_iload_n hx hb dL_earliestArrivalByHours_5 rfl (lv_at hl 2 rfl) ?_
  refine lv_iload_n hx hb dL_earliestArrivalByHours_6 rfl (lv_at hl 3 rfl) ?_
  obtain ⟨yr10, M9, hq8, hf⟩ := bxh_o hf
  refine hl_ci (hx_runV C0 hH hS (n := 3) (As := [.int a1, .int a2, .int a3]) (rest := [.int (0 : Int32), .ref (YA Y 33 0)]) (c_X7_earliestArrivalByHours hl9 M a1 a2 a3 hq8) ⟨⟨zt_954, zt_955, zt_956, zt_1, zt_957⟩, rfl, by decide, by decide, by decide +kernel⟩ ⟨rfl, rfl, Nat.le_of_ble_eq_true rfl, Nat.le_of_ble_eq_true rfl⟩ (hs_recv hK hH 0 0 (by decide) 11 rfl rfl) rfl rfl hl.1 (Nat.le_of_ble_eq_true rfl) ⟨Nat.le_of_ble_eq_true rfl, Nat.le_of_ble_eq_true rfl⟩ dL_earliestArrivalByHours_7) hS (fun k9 E9 q9 ce9 H locs e9 hE hH hS h1 h2 h3 => ?_) (fun r10 er10 H locs hH hS => ?_)
  · subst e9
    have hf := bxh_x hf
    by_cases hc14 : k9 = 0
    · subst hc14
      have hf := if_t hf rfl
      cases hE
      refine hl_catch C0 hT (by decide) [] ⟨0, 12, 15, 19⟩ [⟨0, 12, 19, 21⟩, ⟨0, 12, 23, 37⟩] rfl (fun _ h => nomatch h) (by decide) (by decide) zt_698 h1 h2 h3 ?_
      refine lv_astore (lv' := [(5, .ref q9), (0, .ref (YA Y 0 0)), (1, .int a1), (2, .int a2), (3, .int a3), (4, .ref (YA Y 33 0))]) hx hb dL_earliestArrivalByHours_15 hl (by decide) rfl (fun ls hl => ?_)
      refine lv_iconst (v := (1 : Int32)) hx hb dL_earliestArrivalByHours_17 (by decide) ?_
      cases hf
      exact vx_ret (hs_iret C0 hH hS (by decide) (by decide) dL_earliestArrivalByHours_18)
    have hf := if_f hf hc14
    by_cases hc13 : k9 = 1
    · subst hc13
      have hf := if_t hf rfl
      cases hE
      refine hl_catch C0 hT (by decide) [⟨0, 12, 15, 19⟩] ⟨0, 12, 19, 21⟩ [⟨0, 12, 23, 37⟩] rfl (List.forall_mem_cons.mpr ⟨Or.inr ⟨by decide, "java/lang/IndexOutOfBoundsException", zt_698, by decide, by decide⟩, (fun _ h => nomatch h)⟩) (by decide) (by decide) zt_719 h1 h2 h3 ?_
      refine lv_astore (lv' := [(5, .ref q9), (0, .ref (YA Y 0 0)), (1, .int a1), (2, .int a2), (3, .int a3), (4, .ref (YA Y 33 0))]) hx hb dL_earliestArrivalByHours_19 hl (by decide) rfl (fun ls hl => ?_)
      refine lv_iconst (v := (2 : Int32)) hx hb dL_earliestArrivalByHours_21 (by decide) ?_
      cases hf
      exact vx_ret (hs_iret C0 hH hS (by decide) (by decide) dL_earliestArrivalByHours_22)
    have hf := if_f hf hc13
    by_cases hc12 : k9 = 3
    · subst hc12
      have hf := if_t hf rfl
      cases hE
      refine hl_catch C0 hT (by decide) [⟨0, 12, 15, 19⟩, ⟨0, 12, 19, 21⟩] ⟨0, 12, 23, 37⟩ [] rfl (List.forall_mem_cons.mpr ⟨Or.inr ⟨by decide, "java/lang/IndexOutOfBoundsException", zt_698, by decide, by decide⟩, (List.forall_mem_cons.mpr ⟨Or.inr ⟨by decide, "java/lang/IllegalArgumentException", zt_719, by decide, by decide⟩, (fun _ h => nomatch h)⟩)⟩) (by decide) (by decide) zt_748 h1 h2 h3 ?_
      refine lv_astore (lv' := [(5, .ref q9), (0, .ref (YA Y 0 0)), (1, .int a1), (2, .int a2), (3, .int a3), (4, .ref (YA Y 33 0))]) hx hb dL_earliestArrivalByHours_23 hl (by decide) rfl (fun ls hl => ?_)
      refine lv_iconst (v := (3 : Int32)) hx hb dL_earliestArrivalByHours_25 (by decide) ?_
      cases hf
      exact vx_ret (hs_iret C0 hH hS (by decide) (by decide) dL_earliestArrivalByHours_26)
    have hf := if_f hf hc12
    cases hf
  · subst er10
    have hf := bxh_v hf
    refine lv_i2l (v := r10.toInt64) hx hb dL_earliestArrivalByHours_10 rfl ?_
    refine hl_lastore hx hb hK hH hS (v := r10) rfl dL_earliestArrivalByHours_11 (fun H locs hH hS => ?_)
    obtain ⟨M11, eM11, hf⟩ := nm_o hf
    rw [← eM11] at hH
    refine lv_goto (tgt := 27) hx hb dL_earliestArrivalByHours_12 (by decide) ?_
    refine lv_iconst (v := (0 : Int32)) hx hb dL_earliestArrivalByHours_27 (by decide) ?_
    cases hf
    exact vx_ret (hs_iret C0 hH hS (by decide) (by decide) dL_earliestArrivalByHours_28)
def f_L_fewestLinks (M : Mem) (a1 : Int32) (a2 : Int32) : Option (Int32 × Mem) := bxh (f_X7_fewestLinks M a1 a2) (fun (r9 : Int32) (M8 : Mem) => nm (mu M8 33 0 0 r9) fun M10 => some ((0 : Int32), M10)) (fun (e9 : Nat) (M8 : Mem) => (if e9 = 0 then some ((1 : Int32), M8) else (if e9 = 3 then some ((2 : Int32), M8) else none)))
set_option maxHeartbeats 4000000 in
set_option maxRecDepth 100000 in
theorem c_L_fewestLinks {Y : LY} {l : Launch} (hl9 : l.stackTraces = false) (M : Mem) (a1 : Int32) (a2 : Int32) {r : Int32} {MZ : Mem} (hf : f_L_fewestLinks M a1 a2 = some (r, MZ)) : vx_Met l yL_fewestLinks (Cond.codeWith yL_fewestLinks cL_fewestLinks 5 (Option.some Jvm.ClassFile.FieldType.int) [(0, 10, 13, 19), (0, 10, 17, 37)] :: ALLW) { frames := 8, cells := 3, slots := 18, locals := 133 } (PcM Y M [.ref (YA Y 0 0), .int a1, .int a2, .ref (YA Y 33 0)]) (Qi Y r MZ) XN 3 18 (AZ Y) := by
  refine met_mkh (lv := [(0, .ref (YA Y 0 0)), (1, .int a1), (2, .int a2), (3, .ref (YA Y 33 0))]) [.ref (YA Y 0 0), .int a1, .int a2, .ref (YA Y 33 0)] (by decide) rfl rfl (Nat.le_of_ble_eq_true rfl) (fun p e s m below meth c C0 hT hH ls hl => ?_)
  have hS : va_S (AZ Y) s.heap s.heap [] := va_S.rf
  obtain ⟨hx, hb, hr, hml, hown, hA, hlocks, hK, hZ⟩ := id C0
  unfold f_L_fewestLinks at hf
  refine lv_aload_n hx hb dL_fewestLinks_0 rfl (lv_at hl 3 rfl) ?_
  refine lv_iconst (v := (0 : Int32)) hx hb dL_fewestLinks_1 (by decide) ?_
  refine lv_aload_n hx hb dL_fewestLinks_2 rfl (lv_at hl 0 rfl) ?_
  refine lv_iload_n hx hb dL_fewestLinks_3 rfl (lv_at hl 1 rfl) ?_
  refine lv_iload_n hx hb dL_fewestLinks_4 rfl (lv_at hl 2 rfl) ?_
  obtain ⟨yr9, M8, hq7, hf⟩ := bxh_o hf
  refine hl_ci (hx_runV C0 hH hS (n := 2) (As := [.int a1, .int a2]) (rest := [.int (0 : Int32), .ref (YA Y 33 0)]) (c_X7_fewestLinks hl9 M a1 a2 hq7) ⟨⟨zt_961, zt_962, zt_963, zt_1, zt_964⟩, rfl, by decide, by decide, by decide +kernel⟩ ⟨rfl, rfl, Nat.le_of_ble_eq_true rfl, Nat.le_of_ble_eq_true rfl⟩ (hs_recv hK hH 0 0 (by decide) 11 rfl rfl) rfl rfl hl.1 (Nat.le_of_ble_eq_true rfl) ⟨Nat.le_of_ble_eq_true rfl, Nat.le_of_ble_eq_true rfl⟩ dL_fewestLinks_5) hS (fun k9 E9 q9 ce9 H locs e9 hE hH hS h1 h2 h3 => ?_) (fun r9 er9 H locs hH hS => ?_)
  · subst e9
    have hf := bxh_x hf
    by_cases hc12 : k9 = 0
    · subst hc12
      have hf := if_t hf rfl
      cases hE
      refine hl_catch C0 hT (by decide) [] ⟨0, 10, 13, 19⟩ [⟨0, 10, 17, 37⟩] rfl (fun _ h => nomatch h) (by decide) (by decide) zt_698 h1 h2 h3 ?_
      refine lv_astore (lv' := [(4, .ref q9), (0, .ref (YA Y 0 0)), (1, .int a1), (2, .int a2), (3, .ref (YA Y 33 0))]) hx hb dL_fewestLinks_13 hl (by decide) rfl (fun ls hl => ?_)
      refine lv_iconst (v := (1 : Int32)) hx hb dL_fewestLinks_15 (by decide) ?_
      cases hf
      exact vx_ret (hs_iret C0 hH hS (by decide) (by decide) dL_fewestLinks_16)
    have hf := if_f hf hc12
    by_cases hc11 : k9 = 3
    · subst hc11
      have hf := if_t hf rfl
      cases hE
      refine hl_catch C0 hT (by decide) [⟨0, 10, 13, 19⟩] ⟨0, 10, 17, 37⟩ [] rfl (List.forall_mem_cons.mpr ⟨Or.inr ⟨by decide, "java/lang/IndexOutOfBoundsException", zt_698, by decide, by decide⟩, (fun _ h => nomatch h)⟩) (by decide) (by decide) zt_748 h1 h2 h3 ?_
      refine lv_astore (lv' := [(4, .ref q9), (0, .ref (YA Y 0 0)), (1, .int a1), (2, .int a2), (3, .ref (YA Y 33 0))]) hx hb dL_fewestLinks_17 hl (by decide) rfl (fun ls hl => ?_)
      refine lv_iconst (v := (2 : Int32)) hx hb dL_fewestLinks_19 (by decide) ?_
      cases hf
      exact vx_ret (hs_iret C0 hH hS (by decide) (by decide) dL_fewestLinks_20)
    have hf := if_f hf hc11
    cases hf
  · subst er9
    have hf := bxh_v hf
    refine lv_i2l (v := r9.toInt64) hx hb dL_fewestLinks_8 rfl ?_
    refine hl_lastore hx hb hK hH hS (v := r9) rfl dL_fewestLinks_9 (fun H locs hH hS => ?_)
    obtain ⟨M10, eM10, hf⟩ := nm_o hf
    rw [← eM10] at hH
    refine lv_goto (tgt := 21) hx hb dL_fewestLinks_10 (by decide) ?_
    refine lv_iconst (v := (0 : Int32)) hx hb dL_fewestLinks_21 (by decide) ?_
    cases hf
    exact vx_ret (hs_iret C0 hH hS (by decide) (by decide) dL_fewestLinks_22)
def f_L_reachable (M : Mem) (a1 : Int32) : Option (Int32 × Mem) := bxh (f_X7_reachable M a1) (fun (r8 : Int32) (M7 : Mem) => nm (mu M7 33 0 0 r8) fun M9 => some ((0 : Int32), M9)) (fun (e9 : Nat) (M7 : Mem) => (if e9 = 0 then some ((1 : Int32), M7) else none))
set_option maxHeartbeats 4000000 in
set_option maxRecDepth 100000 in
theorem c_L_reachable {Y : LY} {l : Launch} (hl9 : l.stackTraces = false) (M : Mem) (a1 : Int32) {r : Int32} {MZ : Mem} (hf : f_L_reachable M a1 = some (r, MZ)) : vx_Met l yL_reachable (Cond.codeWith yL_reachable cL_reachable 4 (Option.some Jvm.ClassFile.FieldType.int) [(0, 9, 12, 19)] :: ALLW) { frames := 8, cells := 1, slots := 6, locals := 132 } (PcM Y M [.ref (YA Y 0 0), .int a1, .ref (YA Y 33 0)]) (Qi Y r MZ) XN 1 6 (AZ Y) := by
  refine met_mkh (lv := [(0, .ref (YA Y 0 0)), (1, .int a1), (2, .ref (YA Y 33 0))]) [.ref (YA Y 0 0), .int a1, .ref (YA Y 33 0)] (by decide) rfl rfl (Nat.le_of_ble_eq_true rfl) (fun p e s m below meth c C0 hT hH ls hl => ?_)
  have hS : va_S (AZ Y) s.heap s.heap [] := va_S.rf
  obtain ⟨hx, hb, hr, hml, hown, hA, hlocks, hK, hZ⟩ := id C0
  unfold f_L_reachable at hf
  refine lv_aload_n hx hb dL_reachable_0 rfl (lv_at hl 2 rfl) ?_
  refine lv_iconst (v := (0 : Int32)) hx hb dL_reachable_1 (by decide) ?_
  refine lv_aload_n hx hb dL_reachable_2 rfl (lv_at hl 0 rfl) ?_
  refine lv_iload_n hx hb dL_reachable_3 rfl (lv_at hl 1 rfl) ?_
  obtain ⟨yr8, M7, hq6, hf⟩ := bxh_o hf
  refine hl_ci (hx_runV C0 hH hS (n := 1) (As := [.int a1]) (rest := [.int (0 : Int32), .ref (YA Y 33 0)]) (c_X7_reachable hl9 M a1 hq6) ⟨⟨zt_983, zt_984, zt_985, zt_1, zt_986⟩, rfl, by decide, by decide, by decide +kernel⟩ ⟨rfl, rfl, Nat.le_of_ble_eq_true rfl, Nat.le_of_ble_eq_true rfl⟩ (hs_recv hK hH 0 0 (by decide) 11 rfl rfl) rfl rfl hl.1 (Nat.le_of_ble_eq_true rfl) ⟨Nat.le_of_ble_eq_true rfl, Nat.le_of_ble_eq_true rfl⟩ dL_reachable_4) hS (fun k9 E9 q9 ce9 H locs e9 hE hH hS h1 h2 h3 => ?_) (fun r8 er8 H locs hH hS => ?_)
  · subst e9
    have hf := bxh_x hf
    by_cases hc10 : k9 = 0
    · subst hc10
      have hf := if_t hf rfl
      cases hE
      refine hl_catch C0 hT (by decide) [] ⟨0, 9, 12, 19⟩ [] rfl (fun _ h => nomatch h) (by decide) (by decide) zt_698 h1 h2 h3 ?_
      refine lv_astore_n (lv' := [(3, .ref q9), (0, .ref (YA Y 0 0)), (1, .int a1), (2, .ref (YA Y 33 0))]) hx hb dL_reachable_12 rfl hl (by decide) rfl (fun ls hl => ?_)
      refine lv_iconst (v := (1 : Int32)) hx hb dL_reachable_13 (by decide) ?_
      cases hf
      exact vx_ret (hs_iret C0 hH hS (by decide) (by decide) dL_reachable_14)
    have hf := if_f hf hc10
    cases hf
  · subst er8
    have hf := bxh_v hf
    refine lv_i2l (v := r8.toInt64) hx hb dL_reachable_7 rfl ?_
    refine hl_lastore hx hb hK hH hS (v := r8) rfl dL_reachable_8 (fun H locs hH hS => ?_)
    obtain ⟨M9, eM9, hf⟩ := nm_o hf
    rw [← eM9] at hH
    refine lv_goto (tgt := 15) hx hb dL_reachable_9 (by decide) ?_
    refine lv_iconst (v := (0 : Int32)) hx hb dL_reachable_15 (by decide) ?_
    cases hf
    exact vx_ret (hs_iret C0 hH hS (by decide) (by decide) dL_reachable_16)
def f_L_forecast (M : Mem) (a1 : Int32) : Option (Int32 × Mem) := bxh (f_X7_forecast M a1) (fun (r8 : Int32) (M7 : Mem) => nm (mu M7 33 0 0 r8) fun M9 => some ((0 : Int32), M9)) (fun (e9 : Nat) (M7 : Mem) => (if e9 = 3 then some ((1 : Int32), M7) else none))
set_option maxHeartbeats 4000000 in
set_option maxRecDepth 100000 in
theorem c_L_forecast {Y : LY} {l : Launch} (hl9 : l.stackTraces = false) (M : Mem) (a1 : Int32) {r : Int32} {MZ : Mem} (hf : f_L_forecast M a1 = some (r, MZ)) : vx_Met l yL_forecast (Cond.codeWith yL_forecast cL_forecast 4 (Option.some Jvm.ClassFile.FieldType.int) [(0, 9, 12, 37)] :: ALLW) { frames := 8, cells := 2, slots := 12, locals := 133 } (PcM Y M [.ref (YA Y 0 0), .int a1, .ref (YA Y 33 0)]) (Qi Y r MZ) XN 2 12 (AZ Y) := by
  refine met_mkh (lv := [(0, .ref (YA Y 0 0)), (1, .int a1), (2, .ref (YA Y 33 0))]) [.ref (YA Y 0 0), .int a1, .ref (YA Y 33 0)] (by decide) rfl rfl (Nat.le_of_ble_eq_true rfl) (fun p e s m below meth c C0 hT hH ls hl => ?_)
  have hS : va_S (AZ Y) s.heap s.heap [] := va_S.rf
  obtain ⟨hx, hb, hr, hml, hown, hA, hlocks, hK, hZ⟩ := id C0
  unfold f_L_forecast at hf
  refine lv_aload_n hx hb dL_forecast_0 rfl (lv_at hl 2 rfl) ?_
  refine lv_iconst (v := (0 : Int32)) hx hb dL_forecast_1 (by decide) ?_
  refine lv_aload_n hx hb dL_forecast_2 rfl (lv_at hl 0 rfl) ?_
  refine lv_iload_n hx hb dL_forecast_3 rfl (lv_at hl 1 rfl) ?_
  obtain ⟨yr8, M7, hq6, hf⟩ := bxh_o hf
  refine hl_ci (hx_runV C0 hH hS (n := 1) (As := [.int a1]) (rest := [.int (0 : Int32), .ref (YA Y 33 0)]) (c_X7_forecast hl9 M a1 hq6) ⟨⟨zt_991, zt_992, zt_993, zt_1, zt_994⟩, rfl, by decide, by decide, by decide +kernel⟩ ⟨rfl, rfl, Nat.le_of_ble_eq_true rfl, Nat.le_of_ble_eq_true rfl⟩ (hs_recv hK hH 0 0 (by decide) 11 rfl rfl) rfl rfl hl.1 (Nat.le_of_ble_eq_true rfl) ⟨Nat.le_of_ble_eq_true rfl, Nat.le_of_ble_eq_true rfl⟩ dL_forecast_4) hS (fun k9 E9 q9 ce9 H locs e9 hE hH hS h1 h2 h3 => ?_) (fun r8 er8 H locs hH hS => ?_)
  · subst e9
    have hf := bxh_x hf
    by_cases hc10 : k9 = 3
    · subst hc10
      have hf := if_t hf rfl
      cases hE
      refine hl_catch C0 hT (by decide) [] ⟨0, 9, 12, 37⟩ [] rfl (fun _ h => nomatch h) (by decide) (by decide) zt_748 h1 h2 h3 ?_
      refine lv_astore_n (lv' := [(3, .ref q9), (0, .ref (YA Y 0 0)), (1, .int a1), (2, .ref (YA Y 33 0))]) hx hb dL_forecast_12 rfl hl (by decide) rfl (fun ls hl => ?_)
      refine lv_iconst (v := (1 : Int32)) hx hb dL_forecast_13 (by decide) ?_
      cases hf
      exact vx_ret (hs_iret C0 hH hS (by decide) (by decide) dL_forecast_14)
    have hf := if_f hf hc10
    cases hf
  · subst er8
    have hf := bxh_v hf
    refine lv_i2l (v := r8.toInt64) hx hb dL_forecast_7 rfl ?_
    refine hl_lastore hx hb hK hH hS (v := r8) rfl dL_forecast_8 (fun H locs hH hS => ?_)
    obtain ⟨M9, eM9, hf⟩ := nm_o hf
    rw [← eM9] at hH
    refine lv_goto (tgt := 15) hx hb dL_forecast_9 (by decide) ?_
    refine lv_iconst (v := (0 : Int32)) hx hb dL_forecast_15 (by decide) ?_
    cases hf
    exact vx_ret (hs_iret C0 hH hS (by decide) (by decide) dL_forecast_16)
def f_L_nextLink (M : Mem) (a1 : Int32) : Option (Int32 × Mem) := bxh (f_X7_nextLink M a1) (fun (r8 : Int32) (M7 : Mem) => nm (mu M7 33 0 0 r8) fun M9 => some ((0 : Int32), M9)) (fun (e9 : Nat) (M7 : Mem) => (if e9 = 3 then some ((1 : Int32), M7) else none))
set_option maxHeartbeats 4000000 in
set_option maxRecDepth 100000 in
theorem c_L_nextLink {Y : LY} {l : Launch} (hl9 : l.stackTraces = false) (M : Mem) (a1 : Int32) {r : Int32} {MZ : Mem} (hf : f_L_nextLink M a1 = some (r, MZ)) : vx_Met l yL_nextLink (Cond.codeWith yL_nextLink cL_nextLink 4 (Option.some Jvm.ClassFile.FieldType.int) [(0, 9, 12, 37)] :: ALLW) { frames := 9, cells := 3, slots := 18, locals := 156 } (PcM Y M [.ref (YA Y 0 0), .int a1, .ref (YA Y 33 0)]) (Qi Y r MZ) XN 3 18 (AZ Y) := by
  refine met_mkh (lv := [(0, .ref (YA Y 0 0)), (1, .int a1), (2, .ref (YA Y 33 0))]) [.ref (YA Y 0 0), .int a1, .ref (YA Y 33 0)] (by decide) rfl rfl (Nat.le_of_ble_eq_true rfl) (fun p e s m below meth c C0 hT hH ls hl => ?_)
  have hS : va_S (AZ Y) s.heap s.heap [] := va_S.rf
  obtain ⟨hx, hb, hr, hml, hown, hA, hlocks, hK, hZ⟩ := id C0
  unfold f_L_nextLink at hf
  refine lv_aload_n hx hb dL_nextLink_0 rfl (lv_at hl 2 rfl) ?_
  refine lv_iconst (v := (0 : Int32)) hx hb dL_nextLink_1 (by decide) ?_
  refine lv_aload_n hx hb dL_nextLink_2 rfl (lv_at hl 0 rfl) ?_
  refine lv_iload_n hx hb dL_nextLink_3 rfl (lv_at hl 1 rfl) ?_
  obtain ⟨yr8, M7, hq6, hf⟩ := bxh_o hf
  refine hl_ci (hx_runV C0 hH hS (n := 1) (As := [.int a1]) (rest := [.int (0 : Int32), .ref (YA Y 33 0)]) (c_X7_nextLink hl9 M a1 hq6) ⟨⟨zt_1002, zt_1003, zt_1004, zt_1, zt_1005⟩, rfl, by decide, by decide, by decide +kernel⟩ ⟨rfl, rfl, Nat.le_of_ble_eq_true rfl, Nat.le_of_ble_eq_true rfl⟩ (hs_recv hK hH 0 0 (by decide) 11 rfl rfl) rfl rfl hl.1 (Nat.le_of_ble_eq_true rfl) ⟨Nat.le_of_ble_eq_true rfl, Nat.le_of_ble_eq_true rfl⟩ dL_nextLink_4) hS (fun k9 E9 q9 ce9 H locs e9 hE hH hS h1 h2 h3 => ?_) (fun r8 er8 H locs hH hS => ?_)
  · subst e9
    have hf := bxh_x hf
    by_cases hc10 : k9 = 3
    · subst hc10
      have hf := if_t hf rfl
      cases hE
      refine hl_catch C0 hT (by decide) [] ⟨0, 9, 12, 37⟩ [] rfl (fun _ h => nomatch h) (by decide) (by decide) zt_748 h1 h2 h3 ?_
      refine lv_astore_n (lv' := [(3, .ref q9), (0, .ref (YA Y 0 0)), (1, .int a1), (2, .ref (YA Y 33 0))]) hx hb dL_nextLink_12 rfl hl (by decide) rfl (fun ls hl => ?_)
      refine lv_iconst (v := (1 : Int32)) hx hb dL_nextLink_13 (by decide) ?_
      cases hf
      exact vx_ret (hs_iret C0 hH hS (by decide) (by decide) dL_nextLink_14)
    have hf := if_f hf hc10
    cases hf
  · subst er8
    have hf := bxh_v hf
    refine lv_i2l (v := r8.toInt64) hx hb dL_nextLink_7 rfl ?_
    refine hl_lastore hx hb hK hH hS (v := r8) rfl dL_nextLink_8 (fun H locs hH hS => ?_)
    obtain ⟨M9, eM9, hf⟩ := nm_o hf
    rw [← eM9] at hH
    refine lv_goto (tgt := 15) hx hb dL_nextLink_9 (by decide) ?_
    refine lv_iconst (v := (0 : Int32)) hx hb dL_nextLink_15 (by decide) ?_
    cases hf
    exact vx_ret (hs_iret C0 hH hS (by decide) (by decide) dL_nextLink_16)
def f_L_canSend_16 (M : Mem) (b0 : Int64) : Option (Int32 × Mem) := if b0.toInt32.toInt64 = b0 then (nm (mu M 33 0 0 b0.toInt32) fun M10 => some ((0 : Int32), M10)) else none
set_option maxHeartbeats 4000000 in
set_option maxRecDepth 100000 in
theorem w_L_canSend_16 {Y : LY} {p : Program} {l : Launch} {e : Env} {s : State} {m : MethodId} {args : Array Value} {below : List Frame} {meth : Method} {c : Code} (C0 : BE Y p s m args meth c cL_canSend 5 (Option.some Jvm.ClassFile.FieldType.int) RL) {r : Int32} {MZ : Mem} : ∀ (M : Mem) (b0 : Int64), f_L_canSend_16 M b0 = some (r, MZ) → ∀ (H : Heap) (locs : List Loc) (ls : Array Slot), HS Y M H → va_S (AZ Y) s.heap H locs → lv_has ls 5 [] → W p l e { frames := 8, cells := 1, slots := 6, locals := 133 } s m args below meth c H locs 1 6 (vx_MQ below (Qi Y r MZ) XN args s 1 6 (AZ Y)) (F0 m 16 ls [.long b0, .int (0 : Int32), .ref (YA Y 33 0)]) := by
  obtain ⟨hx, hb, hr, hml, hown, hA, hlocks, hK, hZ⟩ := id C0
  intro M b0 hf H locs ls hH hS hl
  unfold f_L_canSend_16 at hf
  obtain ⟨hg9, hf⟩ := gd_o hf
  refine hl_lastore hx hb hK hH hS (v := b0.toInt32) hg9 dL_canSend_16 (fun H locs hH hS => ?_)
  obtain ⟨M10, eM10, hf⟩ := nm_o hf
  rw [← eM10] at hH
  refine lv_goto (tgt := 28) hx hb dL_canSend_17 (by decide) ?_
  refine lv_iconst (v := (0 : Int32)) hx hb dL_canSend_28 (by decide) ?_
  cases hf
  exact vx_ret (hs_iret C0 hH hS (by decide) (by decide) dL_canSend_29)
def f_L_canSend (M : Mem) (a1 : Int32) (a2 : Int32) : Option (Int32 × Mem) := bxh (f_X7_canSend M a1 a2) (fun (r13 : Int32) (M12 : Mem) => (if r13 = 0 then f_L_canSend_16 M12 (0 : Int64) else f_L_canSend_16 M12 (1 : Int64))) (fun (e9 : Nat) (M12 : Mem) => (if e9 = 3 then some ((1 : Int32), M12) else (if e9 = 0 then some ((2 : Int32), M12) else none)))
set_option maxHeartbeats 4000000 in
set_option maxRecDepth 100000 in
theorem c_L_canSend {Y : LY} {l : Launch} (hl9 : l.stackTraces = false) (M : Mem) (a1 : Int32) (a2 : Int32) {r : Int32} {MZ : Mem} (hf : f_L_canSend M a1 a2 = some (r, MZ)) : vx_Met l yL_canSend (Cond.codeWith yL_canSend cL_canSend 5 (Option.some Jvm.ClassFile.FieldType.int) [(0, 17, 20, 37), (0, 17, 24, 19)] :: ALLW) { frames := 8, cells := 1, slots := 6, locals := 133 } (PcM Y M [.ref (YA Y 0 0), .int a1, .int a2, .ref (YA Y 33 0)]) (Qi Y r MZ) XN 1 6 (AZ Y) := by
  refine met_mkh (lv := [(0, .ref (YA Y 0 0)), (1, .int a1), (2, .int a2), (3, .ref (YA Y 33 0))]) [.ref (YA Y 0 0), .int a1, .int a2, .ref (YA Y 33 0)] (by decide) rfl rfl (Nat.le_of_ble_eq_true rfl) (fun p e s m below meth c C0 hT hH ls hl => ?_)
  have hS : va_S (AZ Y) s.heap s.heap [] := va_S.rf
  obtain ⟨hx, hb, hr, hml, hown, hA, hlocks, hK, hZ⟩ := id C0
  unfold f_L_canSend at hf
  refine lv_aload_n hx hb dL_canSend_0 rfl (lv_at hl 3 rfl) ?_
  refine lv_iconst (v := (0 : Int32)) hx hb dL_canSend_1 (by decide) ?_
  refine lv_aload_n hx hb dL_canSend_2 rfl (lv_at hl 0 rfl) ?_
  refine lv_iload_n hx hb dL_canSend_3 rfl (lv_at hl 1 rfl) ?_
  refine lv_iload_n hx hb dL_canSend_4 rfl (lv_at hl 2 rfl) ?_
  obtain ⟨yr13, M12, hq11, hf⟩ := bxh_o hf
  refine hl_ci (hx_runV C0 hH hS (n := 2) (As := [.int a1, .int a2]) (rest := [.int (0 : Int32), .ref (YA Y 33 0)]) (c_X7_canSend hl9 M a1 a2 hq11) ⟨⟨zt_1011, zt_1012, zt_1013, zt_1, zt_1014⟩, rfl, by decide, by decide, by decide +kernel⟩ ⟨rfl, rfl, Nat.le_of_ble_eq_true rfl, Nat.le_of_ble_eq_true rfl⟩ (hs_recv hK hH 0 0 (by decide) 11 rfl rfl) rfl rfl hl.1 (Nat.le_of_ble_eq_true rfl) ⟨Nat.le_of_ble_eq_true rfl, Nat.le_of_ble_eq_true rfl⟩ dL_canSend_5) hS (fun k9 E9 q9 ce9 H locs e9 hE hH hS h1 h2 h3 => ?_) (fun r13 er13 H locs hH hS => ?_)
  · subst e9
    have hf := bxh_x hf
    by_cases hc16 : k9 = 3
    · subst hc16
      have hf := if_t hf rfl
      cases hE
      refine hl_catch C0 hT (by decide) [] ⟨0, 17, 20, 37⟩ [⟨0, 17, 24, 19⟩] rfl (fun _ h => nomatch h) (by decide) (by decide) zt_748 h1 h2 h3 ?_
      refine lv_astore (lv' := [(4, .ref q9), (0, .ref (YA Y 0 0)), (1, .int a1), (2, .int a2), (3, .ref (YA Y 33 0))]) hx hb dL_canSend_20 hl (by decide) rfl (fun ls hl => ?_)
      refine lv_iconst (v := (1 : Int32)) hx hb dL_canSend_22 (by decide) ?_
      cases hf
      exact vx_ret (hs_iret C0 hH hS (by decide) (by decide) dL_canSend_23)
    have hf := if_f hf hc16
    by_cases hc15 : k9 = 0
    · subst hc15
      have hf := if_t hf rfl
      cases hE
      refine hl_catch C0 hT (by decide) [⟨0, 17, 20, 37⟩] ⟨0, 17, 24, 19⟩ [] rfl (List.forall_mem_cons.mpr ⟨Or.inr ⟨by decide, "java/util/NoSuchElementException", zt_748, by decide, by decide⟩, (fun _ h => nomatch h)⟩) (by decide) (by decide) zt_698 h1 h2 h3 ?_
      refine lv_astore (lv' := [(4, .ref q9), (0, .ref (YA Y 0 0)), (1, .int a1), (2, .int a2), (3, .ref (YA Y 33 0))]) hx hb dL_canSend_24 hl (by decide) rfl (fun ls hl => ?_)
      refine lv_iconst (v := (2 : Int32)) hx hb dL_canSend_26 (by decide) ?_
      cases hf
      exact vx_ret (hs_iret C0 hH hS (by decide) (by decide) dL_canSend_27)
    have hf := if_f hf hc15
    cases hf
  · subst er13
    have hf := bxh_v hf
    refine lv_if_eq (tgt := 15) hx hb dL_canSend_8 (by decide) (fun hc14 => ?_) (fun hc14 => ?_)
    · have hf := if_t hf hc14
      refine lv_lconst (v := (0 : Int64)) hx hb dL_canSend_15 (by decide) ?_
      exact w_L_canSend_16 C0 M12 (0 : Int64) hf _ _ _ hH hS (lv_sub hl [] rfl)
    · have hf := if_f hf hc14
      refine lv_lconst (v := (1 : Int64)) hx hb dL_canSend_11 (by decide) ?_
      refine lv_goto (tgt := 16) hx hb dL_canSend_12 (by decide) ?_
      exact w_L_canSend_16 C0 M12 (1 : Int64) hf _ _ _ hH hS (lv_sub hl [] rfl)
def f_L_stampsMissing (M : Mem) (a1 : Int32) : Option (Int32 × Mem) := bxh (f_X7_stampsMissing M a1) (fun (r8 : Int32) (M7 : Mem) => nm (mu M7 33 0 0 r8) fun M9 => some ((0 : Int32), M9)) (fun (e9 : Nat) (M7 : Mem) => (if e9 = 3 then some ((1 : Int32), M7) else none))
set_option maxHeartbeats 4000000 in
set_option maxRecDepth 100000 in
theorem c_L_stampsMissing {Y : LY} {l : Launch} (hl9 : l.stackTraces = false) (M : Mem) (a1 : Int32) {r : Int32} {MZ : Mem} (hf : f_L_stampsMissing M a1 = some (r, MZ)) : vx_Met l yL_stampsMissing (Cond.codeWith yL_stampsMissing cL_stampsMissing 4 (Option.some Jvm.ClassFile.FieldType.int) [(0, 9, 12, 37)] :: ALLW) { frames := 8, cells := 2, slots := 12, locals := 135 } (PcM Y M [.ref (YA Y 0 0), .int a1, .ref (YA Y 33 0)]) (Qi Y r MZ) XN 2 12 (AZ Y) := by
  refine met_mkh (lv := [(0, .ref (YA Y 0 0)), (1, .int a1), (2, .ref (YA Y 33 0))]) [.ref (YA Y 0 0), .int a1, .ref (YA Y 33 0)] (by decide) rfl rfl (Nat.le_of_ble_eq_true rfl) (fun p e s m below meth c C0 hT hH ls hl => ?_)
  have hS : va_S (AZ Y) s.heap s.heap [] := va_S.rf
  obtain ⟨hx, hb, hr, hml, hown, hA, hlocks, hK, hZ⟩ := id C0
  unfold f_L_stampsMissing at hf
  refine lv_aload_n hx hb dL_stampsMissing_0 rfl (lv_at hl 2 rfl) ?_
  refine lv_iconst (v := (0 : Int32)) hx hb dL_stampsMissing_1 (by decide) ?_
  refine lv_aload_n hx hb dL_stampsMissing_2 rfl (lv_at hl 0 rfl) ?_
  refine lv_iload_n hx hb dL_stampsMissing_3 rfl (lv_at hl 1 rfl) ?_
  obtain ⟨yr8, M7, hq6, hf⟩ := bxh_o hf
  refine hl_ci (hx_runV C0 hH hS (n := 1) (As := [.int a1]) (rest := [.int (0 : Int32), .ref (YA Y 33 0)]) (c_X7_stampsMissing hl9 M a1 hq6) ⟨⟨zt_1018, zt_1019, zt_1020, zt_1, zt_1021⟩, rfl, by decide, by decide, by decide +kernel⟩ ⟨rfl, rfl, Nat.le_of_ble_eq_true rfl, Nat.le_of_ble_eq_true rfl⟩ (hs_recv hK hH 0 0 (by decide) 11 rfl rfl) rfl rfl hl.1 (Nat.le_of_ble_eq_true rfl) ⟨Nat.le_of_ble_eq_true rfl, Nat.le_of_ble_eq_true rfl⟩ dL_stampsMissing_4) hS (fun k9 E9 q9 ce9 H locs e9 hE hH hS h1 h2 h3 => ?_) (fun r8 er8 H locs hH hS => ?_)
  · subst e9
    have hf := bxh_x hf
    by_cases hc10 : k9 = 3
    · subst hc10
      have hf := if_t hf rfl
      cases hE
      refine hl_catch C0 hT (by decide) [] ⟨0, 9, 12, 37⟩ [] rfl (fun _ h => nomatch h) (by decide) (by decide) zt_748 h1 h2 h3 ?_
      refine lv_astore_n (lv' := [(3, .ref q9), (0, .ref (YA Y 0 0)), (1, .int a1), (2, .ref (YA Y 33 0))]) hx hb dL_stampsMissing_12 rfl hl (by decide) rfl (fun ls hl => ?_)
      refine lv_iconst (v := (1 : Int32)) hx hb dL_stampsMissing_13 (by decide) ?_
      cases hf
      exact vx_ret (hs_iret C0 hH hS (by decide) (by decide) dL_stampsMissing_14)
    have hf := if_f hf hc10
    cases hf
  · subst er8
    have hf := bxh_v hf
    refine lv_i2l (v := r8.toInt64) hx hb dL_stampsMissing_7 rfl ?_
    refine hl_lastore hx hb hK hH hS (v := r8) rfl dL_stampsMissing_8 (fun H locs hH hS => ?_)
    obtain ⟨M9, eM9, hf⟩ := nm_o hf
    rw [← eM9] at hH
    refine lv_goto (tgt := 15) hx hb dL_stampsMissing_9 (by decide) ?_
    refine lv_iconst (v := (0 : Int32)) hx hb dL_stampsMissing_15 (by decide) ?_
    cases hf
    exact vx_ret (hs_iret C0 hH hS (by decide) (by decide) dL_stampsMissing_16)
def f_L_parcelByForecast (M : Mem) (a1 : Int32) : Option (Int32 × Mem) := bxh (f_X7_parcelByForecast M a1) (fun (r8 : Int32) (M7 : Mem) => nm (mu M7 33 0 0 r8) fun M9 => some ((0 : Int32), M9)) (fun (e9 : Nat) (M7 : Mem) => (if e9 = 3 then some ((1 : Int32), M7) else none))
set_option maxHeartbeats 4000000 in
set_option maxRecDepth 100000 in
theorem c_L_parcelByForecast {Y : LY} {l : Launch} (hl9 : l.stackTraces = false) (M : Mem) (a1 : Int32) {r : Int32} {MZ : Mem} (hf : f_L_parcelByForecast M a1 = some (r, MZ)) : vx_Met l yL_parcelByForecast (Cond.codeWith yL_parcelByForecast cL_parcelByForecast 4 (Option.some Jvm.ClassFile.FieldType.int) [(0, 9, 12, 37)] :: ALLW) { frames := 7, cells := 1, slots := 6, locals := 117 } (PcM Y M [.ref (YA Y 0 0), .int a1, .ref (YA Y 33 0)]) (Qi Y r MZ) XN 1 6 (AZ Y) := by
  refine met_mkh (lv := [(0, .ref (YA Y 0 0)), (1, .int a1), (2, .ref (YA Y 33 0))]) [.ref (YA Y 0 0), .int a1, .ref (YA Y 33 0)] (by decide) rfl rfl (Nat.le_of_ble_eq_true rfl) (fun p e s m below meth c C0 hT hH ls hl => ?_)
  have hS : va_S (AZ Y) s.heap s.heap [] := va_S.rf
  obtain ⟨hx, hb, hr, hml, hown, hA, hlocks, hK, hZ⟩ := id C0
  unfold f_L_parcelByForecast at hf
  refine lv_aload_n hx hb dL_parcelByForecast_0 rfl (lv_at hl 2 rfl) ?_
  refine lv_iconst (v := (0 : Int32)) hx hb dL_parcelByForecast_1 (by decide) ?_
  refine lv_aload_n hx hb dL_parcelByForecast_2 rfl (lv_at hl 0 rfl) ?_
  refine lv_iload_n hx hb dL_parcelByForecast_3 rfl (lv_at hl 1 rfl) ?_
  obtain ⟨yr8, M7, hq6, hf⟩ := bxh_o hf
  refine hl_ci (hx_runV C0 hH hS (n := 1) (As := [.int a1]) (rest := [.int (0 : Int32), .ref (YA Y 33 0)]) (c_X7_parcelByForecast hl9 M a1 hq6) ⟨⟨zt_1028, zt_1029, zt_1030, zt_1, zt_1031⟩, rfl, by decide, by decide, by decide +kernel⟩ ⟨rfl, rfl, Nat.le_of_ble_eq_true rfl, Nat.le_of_ble_eq_true rfl⟩ (hs_recv hK hH 0 0 (by decide) 11 rfl rfl) rfl rfl hl.1 (Nat.le_of_ble_eq_true rfl) ⟨Nat.le_of_ble_eq_true rfl, Nat.le_of_ble_eq_true rfl⟩ dL_parcelByForecast_4) hS (fun k9 E9 q9 ce9 H locs e9 hE hH hS h1 h2 h3 => ?_) (fun r8 er8 H locs hH hS => ?_)
  · subst e9
    have hf := bxh_x hf
    by_cases hc10 : k9 = 3
    · subst hc10
      have hf := if_t hf rfl
      cases hE
      refine hl_catch C0 hT (by decide) [] ⟨0, 9, 12, 37⟩ [] rfl (fun _ h => nomatch h) (by decide) (by decide) zt_748 h1 h2 h3 ?_
      refine lv_astore_n (lv' := [(3, .ref q9), (0, .ref (YA Y 0 0)), (1, .int a1), (2, .ref (YA Y 33 0))]) hx hb dL_parcelByForecast_12 rfl hl (by decide) rfl (fun ls hl => ?_)
      refine lv_iconst (v := (1 : Int32)) hx hb dL_parcelByForecast_13 (by decide) ?_
      cases hf
      exact vx_ret (hs_iret C0 hH hS (by decide) (by decide) dL_parcelByForecast_14)
    have hf := if_f hf hc10
    cases hf
  · subst er8
    have hf := bxh_v hf
    refine lv_i2l (v := r8.toInt64) hx hb dL_parcelByForecast_7 rfl ?_
    refine hl_lastore hx hb hK hH hS (v := r8) rfl dL_parcelByForecast_8 (fun H locs hH hS => ?_)
    obtain ⟨M9, eM9, hf⟩ := nm_o hf
    rw [← eM9] at hH
    refine lv_goto (tgt := 15) hx hb dL_parcelByForecast_9 (by decide) ?_
    refine lv_iconst (v := (0 : Int32)) hx hb dL_parcelByForecast_15 (by decide) ?_
    cases hf
    exact vx_ret (hs_iret C0 hH hS (by decide) (by decide) dL_parcelByForecast_16)
def f_L_arrivalsWithin (M : Mem) (a1 : Int32) : Option (Int32 × Mem) := bxh (f_X7_arrivalsWithin M a1) (fun (r8 : Int32) (M7 : Mem) => nm (mu M7 33 0 0 r8) fun M9 => some ((0 : Int32), M9)) (fun (e9 : Nat) (M7 : Mem) => (if e9 = 1 then some ((1 : Int32), M7) else none))
set_option maxHeartbeats 4000000 in
set_option maxRecDepth 100000 in
theorem c_L_arrivalsWithin {Y : LY} {l : Launch} (hl9 : l.stackTraces = false) (M : Mem) (a1 : Int32) {r : Int32} {MZ : Mem} (hf : f_L_arrivalsWithin M a1 = some (r, MZ)) : vx_Met l yL_arrivalsWithin (Cond.codeWith yL_arrivalsWithin cL_arrivalsWithin 4 (Option.some Jvm.ClassFile.FieldType.int) [(0, 9, 12, 21)] :: ALLW) { frames := 8, cells := 1, slots := 6, locals := 133 } (PcM Y M [.ref (YA Y 0 0), .int a1, .ref (YA Y 33 0)]) (Qi Y r MZ) XN 1 6 (AZ Y) := by
  refine met_mkh (lv := [(0, .ref (YA Y 0 0)), (1, .int a1), (2, .ref (YA Y 33 0))]) [.ref (YA Y 0 0), .int a1, .ref (YA Y 33 0)] (by decide) rfl rfl (Nat.le_of_ble_eq_true rfl) (fun p e s m below meth c C0 hT hH ls hl => ?_)
  have hS : va_S (AZ Y) s.heap s.heap [] := va_S.rf
  obtain ⟨hx, hb, hr, hml, hown, hA, hlocks, hK, hZ⟩ := id C0
  unfold f_L_arrivalsWithin at hf
  refine lv_aload_n hx hb dL_arrivalsWithin_0 rfl (lv_at hl 2 rfl) ?_
  refine lv_iconst (v := (0 : Int32)) hx hb dL_arrivalsWithin_1 (by decide) ?_
  refine lv_aload_n hx hb dL_arrivalsWithin_2 rfl (lv_at hl 0 rfl) ?_
  refine lv_iload_n hx hb dL_arrivalsWithin_3 rfl (lv_at hl 1 rfl) ?_
  obtain ⟨yr8, M7, hq6, hf⟩ := bxh_o hf
  refine hl_ci (hx_runV C0 hH hS (n := 1) (As := [.int a1]) (rest := [.int (0 : Int32), .ref (YA Y 33 0)]) (c_X7_arrivalsWithin hl9 M a1 hq6) ⟨⟨zt_1044, zt_1045, zt_1046, zt_1, zt_1047⟩, rfl, by decide, by decide, by decide +kernel⟩ ⟨rfl, rfl, Nat.le_of_ble_eq_true rfl, Nat.le_of_ble_eq_true rfl⟩ (hs_recv hK hH 0 0 (by decide) 11 rfl rfl) rfl rfl hl.1 (Nat.le_of_ble_eq_true rfl) ⟨Nat.le_of_ble_eq_true rfl, Nat.le_of_ble_eq_true rfl⟩ dL_arrivalsWithin_4) hS (fun k9 E9 q9 ce9 H locs e9 hE hH hS h1 h2 h3 => ?_) (fun r8 er8 H locs hH hS => ?_)
  · subst e9
    have hf := bxh_x hf
    by_cases hc10 : k9 = 1
    · subst hc10
      have hf := if_t hf rfl
      cases hE
      refine hl_catch C0 hT (by decide) [] ⟨0, 9, 12, 21⟩ [] rfl (fun _ h => nomatch h) (by decide) (by decide) zt_719 h1 h2 h3 ?_
      refine lv_astore_n (lv' := [(3, .ref q9), (0, .ref (YA Y 0 0)), (1, .int a1), (2, .ref (YA Y 33 0))]) hx hb dL_arrivalsWithin_12 rfl hl (by decide) rfl (fun ls hl => ?_)
      refine lv_iconst (v := (1 : Int32)) hx hb dL_arrivalsWithin_13 (by decide) ?_
      cases hf
      exact vx_ret (hs_iret C0 hH hS (by decide) (by decide) dL_arrivalsWithin_14)
    have hf := if_f hf hc10
    cases hf
  · subst er8
    have hf := bxh_v hf
    refine lv_i2l (v := r8.toInt64) hx hb dL_arrivalsWithin_7 rfl ?_
    refine hl_lastore hx hb hK hH hS (v := r8) rfl dL_arrivalsWithin_8 (fun H locs hH hS => ?_)
    obtain ⟨M9, eM9, hf⟩ := nm_o hf
    rw [← eM9] at hH
    refine lv_goto (tgt := 15) hx hb dL_arrivalsWithin_9 (by decide) ?_
    refine lv_iconst (v := (0 : Int32)) hx hb dL_arrivalsWithin_15 (by decide) ?_
    cases hf
    exact vx_ret (hs_iret C0 hH hS (by decide) (by decide) dL_arrivalsWithin_16)
def f_L_deliveredIf (M : Mem) (a1 : Int32) : Option (Int32 × Mem) := bxh (f_X7_deliveredIf M a1) (fun (r8 : Int32) (M7 : Mem) => nm (mu M7 33 0 0 r8) fun M9 => some ((0 : Int32), M9)) (fun (e9 : Nat) (M7 : Mem) => (if e9 = 1 then some ((1 : Int32), M7) else none))
set_option maxHeartbeats 4000000 in
set_option maxRecDepth 100000 in
theorem c_L_deliveredIf {Y : LY} {l : Launch} (hl9 : l.stackTraces = false) (M : Mem) (a1 : Int32) {r : Int32} {MZ : Mem} (hf : f_L_deliveredIf M a1 = some (r, MZ)) : vx_Met l yL_deliveredIf (Cond.codeWith yL_deliveredIf cL_deliveredIf 4 (Option.some Jvm.ClassFile.FieldType.int) [(0, 9, 12, 21)] :: ALLW) { frames := 8, cells := 1, slots := 6, locals := 145 } (PcM Y M [.ref (YA Y 0 0), .int a1, .ref (YA Y 33 0)]) (Qi Y r MZ) XN 1 6 (AZ Y) := by
  refine met_mkh (lv := [(0, .ref (YA Y 0 0)), (1, .int a1), (2, .ref (YA Y 33 0))]) [.ref (YA Y 0 0), .int a1, .ref (YA Y 33 0)] (by decide) rfl rfl (Nat.le_of_ble_eq_true rfl) (fun p e s m below meth c C0 hT hH ls hl => ?_)
  have hS : va_S (AZ Y) s.heap s.heap [] := va_S.rf
  obtain ⟨hx, hb, hr, hml, hown, hA, hlocks, hK, hZ⟩ := id C0
  unfold f_L_deliveredIf at hf
  refine lv_aload_n hx hb dL_deliveredIf_0 rfl (lv_at hl 2 rfl) ?_
  refine lv_iconst (v := (0 : Int32)) hx hb dL_deliveredIf_1 (by decide) ?_
  refine lv_aload_n hx hb dL_deliveredIf_2 rfl (lv_at hl 0 rfl) ?_
  refine lv_iload_n hx hb dL_deliveredIf_3 rfl (lv_at hl 1 rfl) ?_
  obtain ⟨yr8, M7, hq6, hf⟩ := bxh_o hf
  refine hl_ci (hx_runV C0 hH hS (n := 1) (As := [.int a1]) (rest := [.int (0 : Int32), .ref (YA Y 33 0)]) (c_X7_deliveredIf hl9 M a1 hq6) ⟨⟨zt_1055, zt_1056, zt_1057, zt_1, zt_1058⟩, rfl, by decide, by decide, by decide +kernel⟩ ⟨rfl, rfl, Nat.le_of_ble_eq_true rfl, Nat.le_of_ble_eq_true rfl⟩ (hs_recv hK hH 0 0 (by decide) 11 rfl rfl) rfl rfl hl.1 (Nat.le_of_ble_eq_true rfl) ⟨Nat.le_of_ble_eq_true rfl, Nat.le_of_ble_eq_true rfl⟩ dL_deliveredIf_4) hS (fun k9 E9 q9 ce9 H locs e9 hE hH hS h1 h2 h3 => ?_) (fun r8 er8 H locs hH hS => ?_)
  · subst e9
    have hf := bxh_x hf
    by_cases hc10 : k9 = 1
    · subst hc10
      have hf := if_t hf rfl
      cases hE
      refine hl_catch C0 hT (by decide) [] ⟨0, 9, 12, 21⟩ [] rfl (fun _ h => nomatch h) (by decide) (by decide) zt_719 h1 h2 h3 ?_
      refine lv_astore_n (lv' := [(3, .ref q9), (0, .ref (YA Y 0 0)), (1, .int a1), (2, .ref (YA Y 33 0))]) hx hb dL_deliveredIf_12 rfl hl (by decide) rfl (fun ls hl => ?_)
      refine lv_iconst (v := (1 : Int32)) hx hb dL_deliveredIf_13 (by decide) ?_
      cases hf
      exact vx_ret (hs_iret C0 hH hS (by decide) (by decide) dL_deliveredIf_14)
    have hf := if_f hf hc10
    cases hf
  · subst er8
    have hf := bxh_v hf
    refine lv_i2l (v := r8.toInt64) hx hb dL_deliveredIf_7 rfl ?_
    refine hl_lastore hx hb hK hH hS (v := r8) rfl dL_deliveredIf_8 (fun H locs hH hS => ?_)
    obtain ⟨M9, eM9, hf⟩ := nm_o hf
    rw [← eM9] at hH
    refine lv_goto (tgt := 15) hx hb dL_deliveredIf_9 (by decide) ?_
    refine lv_iconst (v := (0 : Int32)) hx hb dL_deliveredIf_15 (by decide) ?_
    cases hf
    exact vx_ret (hs_iret C0 hH hS (by decide) (by decide) dL_deliveredIf_16)
def f_L_meanStamps (M : Mem) : Option (Int32 × Mem) := bxh (f_X7_meanStamps M) (fun (r8 : UInt64) (M7 : Mem) => nm (mu (mu M7 36 0 0 (dLo r8)) 36 0 1 (dHi r8)) fun M9 => some ((0 : Int32), M9)) (fun (e9 : Nat) (M7 : Mem) => (if e9 = 4 then some ((1 : Int32), M7) else none))
set_option maxHeartbeats 4000000 in
set_option maxRecDepth 100000 in
theorem c_L_meanStamps {Y : LY} {l : Launch} (hl9 : l.stackTraces = false) (M : Mem) {r : Int32} {MZ : Mem} (hf : f_L_meanStamps M = some (r, MZ)) : vx_Met l yL_meanStamps (Cond.codeWith yL_meanStamps cL_meanStamps 3 (Option.some Jvm.ClassFile.FieldType.int) [(0, 7, 10, 139)] :: ALLW) { frames := 7, cells := 1, slots := 6, locals := 110 } (PcM Y M [.ref (YA Y 0 0), .ref (YA Y 36 0)]) (Qi Y r MZ) XN 1 6 (AZ Y) := by
  refine met_mkh (lv := [(0, .ref (YA Y 0 0)), (1, .ref (YA Y 36 0))]) [.ref (YA Y 0 0), .ref (YA Y 36 0)] (by decide) rfl rfl (Nat.le_of_ble_eq_true rfl) (fun p e s m below meth c C0 hT hH ls hl => ?_)
  have hS : va_S (AZ Y) s.heap s.heap [] := va_S.rf
  obtain ⟨hx, hb, hr, hml, hown, hA, hlocks, hK, hZ⟩ := id C0
  unfold f_L_meanStamps at hf
  refine lv_aload_n hx hb dL_meanStamps_0 rfl (lv_at hl 1 rfl) ?_
  refine lv_iconst (v := (0 : Int32)) hx hb dL_meanStamps_1 (by decide) ?_
  refine lv_aload_n hx hb dL_meanStamps_2 rfl (lv_at hl 0 rfl) ?_
  obtain ⟨yr8, M7, hq6, hf⟩ := bxh_o hf
  refine hl_cd (hx_runV C0 hH hS (n := 0) (As := []) (rest := [.int (0 : Int32), .ref (YA Y 36 0)]) (c_X7_meanStamps hl9 M hq6) ⟨⟨zt_1078, zt_1079, zt_1080, zt_1, zt_1081⟩, rfl, by decide, by decide, by decide +kernel⟩ ⟨rfl, rfl, Nat.le_of_ble_eq_true rfl, Nat.le_of_ble_eq_true rfl⟩ (hs_recv hK hH 0 0 (by decide) 11 rfl rfl) rfl rfl hl.1 (Nat.le_of_ble_eq_true rfl) ⟨Nat.le_of_ble_eq_true rfl, Nat.le_of_ble_eq_true rfl⟩ dL_meanStamps_3) hS (fun k9 E9 q9 ce9 H locs e9 hE hH hS h1 h2 h3 => ?_) (fun r8 er8 H locs hH hS => ?_)
  · subst e9
    have hf := bxh_x hf
    by_cases hc10 : k9 = 4
    · subst hc10
      have hf := if_t hf rfl
      cases hE
      refine hl_catch C0 hT (by decide) [] ⟨0, 7, 10, 139⟩ [] rfl (fun _ h => nomatch h) (by decide) (by decide) zt_1064 h1 h2 h3 ?_
      refine lv_astore_n (lv' := [(2, .ref q9), (0, .ref (YA Y 0 0)), (1, .ref (YA Y 36 0))]) hx hb dL_meanStamps_10 rfl hl (by decide) rfl (fun ls hl => ?_)
      refine lv_iconst (v := (1 : Int32)) hx hb dL_meanStamps_11 (by decide) ?_
      cases hf
      exact vx_ret (hs_iret C0 hH hS (by decide) (by decide) dL_meanStamps_12)
    have hf := if_f hf hc10
    cases hf
  · subst er8
    have hf := bxh_v hf
    refine hl_dastore hx hb hK hH hS dL_meanStamps_6 (fun H locs hH hS => ?_)
    obtain ⟨M9, eM9, hf⟩ := nm_o hf
    rw [← eM9] at hH
    refine lv_goto (tgt := 13) hx hb dL_meanStamps_7 (by decide) ?_
    refine lv_iconst (v := (0 : Int32)) hx hb dL_meanStamps_13 (by decide) ?_
    cases hf
    exact vx_ret (hs_iret C0 hH hS (by decide) (by decide) dL_meanStamps_14)
def f_L_blockedShare (M : Mem) : Option (Int32 × Mem) := bxh (f_X7_blockedShare M) (fun (r9 : UInt32) (M8 : Mem) => if nn64 (FP.f2d r9) then (nm (mu (mu M8 36 0 0 (dLo (FP.f2d r9))) 36 0 1 (dHi (FP.f2d r9))) fun M11 => some ((0 : Int32), M11)) else none) (fun (e9 : Nat) (M8 : Mem) => (if e9 = 4 then some ((1 : Int32), M8) else none))
set_option maxHeartbeats 4000000 in
set_option maxRecDepth 100000 in
theorem c_L_blockedShare {Y : LY} {l : Launch} (hl9 : l.stackTraces = false) (M : Mem) {r : Int32} {MZ : Mem} (hf : f_L_blockedShare M = some (r, MZ)) : vx_Met l yL_blockedShare (Cond.codeWith yL_blockedShare cL_blockedShare 3 (Option.some Jvm.ClassFile.FieldType.int) [(0, 8, 11, 139)] :: ALLW) { frames := 7, cells := 1, slots := 6, locals := 110 } (PcM Y M [.ref (YA Y 0 0), .ref (YA Y 36 0)]) (Qi Y r MZ) XN 1 6 (AZ Y) := by
  refine met_mkh (lv := [(0, .ref (YA Y 0 0)), (1, .ref (YA Y 36 0))]) [.ref (YA Y 0 0), .ref (YA Y 36 0)] (by decide) rfl rfl (Nat.le_of_ble_eq_true rfl) (fun p e s m below meth c C0 hT hH ls hl => ?_)
  have hS : va_S (AZ Y) s.heap s.heap [] := va_S.rf
  obtain ⟨hx, hb, hr, hml, hown, hA, hlocks, hK, hZ⟩ := id C0
  unfold f_L_blockedShare at hf
  refine lv_aload_n hx hb dL_blockedShare_0 rfl (lv_at hl 1 rfl) ?_
  refine lv_iconst (v := (0 : Int32)) hx hb dL_blockedShare_1 (by decide) ?_
  refine lv_aload_n hx hb dL_blockedShare_2 rfl (lv_at hl 0 rfl) ?_
  obtain ⟨yr9, M8, hq7, hf⟩ := bxh_o hf
  refine hl_cf (hx_runV C0 hH hS (n := 0) (As := []) (rest := [.int (0 : Int32), .ref (YA Y 36 0)]) (c_X7_blockedShare hl9 M hq7) ⟨⟨zt_1092, zt_1093, zt_1094, zt_1, zt_1095⟩, rfl, by decide, by decide, by decide +kernel⟩ ⟨rfl, rfl, Nat.le_of_ble_eq_true rfl, Nat.le_of_ble_eq_true rfl⟩ (hs_recv hK hH 0 0 (by decide) 11 rfl rfl) rfl rfl hl.1 (Nat.le_of_ble_eq_true rfl) ⟨Nat.le_of_ble_eq_true rfl, Nat.le_of_ble_eq_true rfl⟩ dL_blockedShare_3) hS (fun k9 E9 q9 ce9 H locs e9 hE hH hS h1 h2 h3 => ?_) (fun r9 er9 H locs hH hS => ?_)
  · subst e9
    have hf := bxh_x hf
    by_cases hc12 : k9 = 4
    · subst hc12
      have hf := if_t hf rfl
      cases hE
      refine hl_catch C0 hT (by decide) [] ⟨0, 8, 11, 139⟩ [] rfl (fun _ h => nomatch h) (by decide) (by decide) zt_1064 h1 h2 h3 ?_
      refine lv_astore_n (lv' := [(2, .ref q9), (0, .ref (YA Y 0 0)), (1, .ref (YA Y 36 0))]) hx hb dL_blockedShare_11 rfl hl (by decide) rfl (fun ls hl => ?_)
      refine lv_iconst (v := (1 : Int32)) hx hb dL_blockedShare_12 (by decide) ?_
      cases hf
      exact vx_ret (hs_iret C0 hH hS (by decide) (by decide) dL_blockedShare_13)
    have hf := if_f hf hc12
    cases hf
  · subst er9
    have hf := bxh_v hf
    obtain ⟨hg10, hf⟩ := gd_o hf
    refine lv_f2d hx hb dL_blockedShare_6 hg10 ?_
    refine hl_dastore hx hb hK hH hS dL_blockedShare_7 (fun H locs hH hS => ?_)
    obtain ⟨M11, eM11, hf⟩ := nm_o hf
    rw [← eM11] at hH
    refine lv_goto (tgt := 14) hx hb dL_blockedShare_8 (by decide) ?_
    refine lv_iconst (v := (0 : Int32)) hx hb dL_blockedShare_14 (by decide) ?_
    cases hf
    exact vx_ret (hs_iret C0 hH hS (by decide) (by decide) dL_blockedShare_15)
def f_L_formatParcel (M : Mem) (a1 : Int32) : Option (Int32 × Mem) := bxh (f_X7_formatParcel M a1) (fun (r8 : Int32) (M7 : Mem) => nm (mu M7 33 0 0 r8) fun M9 => some ((0 : Int32), M9)) (fun (e9 : Nat) (M7 : Mem) => (if e9 = 3 then some ((1 : Int32), M7) else none))
set_option maxHeartbeats 4000000 in
set_option maxRecDepth 100000 in
theorem c_L_formatParcel {Y : LY} {l : Launch} (hl9 : l.stackTraces = false) (M : Mem) (a1 : Int32) {r : Int32} {MZ : Mem} (hf : f_L_formatParcel M a1 = some (r, MZ)) : vx_Met l yL_formatParcel (Cond.codeWith yL_formatParcel cL_formatParcel 4 (Option.some Jvm.ClassFile.FieldType.int) [(0, 9, 12, 37)] :: ALLW) { frames := 10, cells := 14, slots := 1696, locals := 269 } (PcM Y M [.ref (YA Y 0 0), .int a1, .ref (YA Y 33 0)]) (Qi Y r MZ) XN 14 1696 (AZ Y) := by
  refine met_mkh (lv := [(0, .ref (YA Y 0 0)), (1, .int a1), (2, .ref (YA Y 33 0))]) [.ref (YA Y 0 0), .int a1, .ref (YA Y 33 0)] (by decide) rfl rfl (Nat.le_of_ble_eq_true rfl) (fun p e s m below meth c C0 hT hH ls hl => ?_)
  have hS : va_S (AZ Y) s.heap s.heap [] := va_S.rf
  obtain ⟨hx, hb, hr, hml, hown, hA, hlocks, hK, hZ⟩ := id C0
  unfold f_L_formatParcel at hf
  refine lv_aload_n hx hb dL_formatParcel_0 rfl (lv_at hl 2 rfl) ?_
  refine lv_iconst (v := (0 : Int32)) hx hb dL_formatParcel_1 (by decide) ?_
  refine lv_aload_n hx hb dL_formatParcel_2 rfl (lv_at hl 0 rfl) ?_
  refine lv_iload_n hx hb dL_formatParcel_3 rfl (lv_at hl 1 rfl) ?_
  obtain ⟨yr8, M7, hq6, hf⟩ := bxh_o hf
  refine hl_ci (hx_runV C0 hH hS (n := 1) (As := [.int a1]) (rest := [.int (0 : Int32), .ref (YA Y 33 0)]) (c_X7_formatParcel hl9 M a1 hq6) ⟨⟨zt_1100, zt_1101, zt_1102, zt_1, zt_1103⟩, rfl, by decide, by decide, by decide +kernel⟩ ⟨rfl, rfl, Nat.le_of_ble_eq_true rfl, Nat.le_of_ble_eq_true rfl⟩ (hs_recv hK hH 0 0 (by decide) 11 rfl rfl) rfl rfl hl.1 (Nat.le_of_ble_eq_true rfl) ⟨Nat.le_of_ble_eq_true rfl, Nat.le_of_ble_eq_true rfl⟩ dL_formatParcel_4) hS (fun k9 E9 q9 ce9 H locs e9 hE hH hS h1 h2 h3 => ?_) (fun r8 er8 H locs hH hS => ?_)
  · subst e9
    have hf := bxh_x hf
    by_cases hc10 : k9 = 3
    · subst hc10
      have hf := if_t hf rfl
      cases hE
      refine hl_catch C0 hT (by decide) [] ⟨0, 9, 12, 37⟩ [] rfl (fun _ h => nomatch h) (by decide) (by decide) zt_748 h1 h2 h3 ?_
      refine lv_astore_n (lv' := [(3, .ref q9), (0, .ref (YA Y 0 0)), (1, .int a1), (2, .ref (YA Y 33 0))]) hx hb dL_formatParcel_12 rfl hl (by decide) rfl (fun ls hl => ?_)
      refine lv_iconst (v := (1 : Int32)) hx hb dL_formatParcel_13 (by decide) ?_
      cases hf
      exact vx_ret (hs_iret C0 hH hS (by decide) (by decide) dL_formatParcel_14)
    have hf := if_f hf hc10
    cases hf
  · subst er8
    have hf := bxh_v hf
    refine lv_i2l (v := r8.toInt64) hx hb dL_formatParcel_7 rfl ?_
    refine hl_lastore hx hb hK hH hS (v := r8) rfl dL_formatParcel_8 (fun H locs hH hS => ?_)
    obtain ⟨M9, eM9, hf⟩ := nm_o hf
    rw [← eM9] at hH
    refine lv_goto (tgt := 15) hx hb dL_formatParcel_9 (by decide) ?_
    refine lv_iconst (v := (0 : Int32)) hx hb dL_formatParcel_15 (by decide) ?_
    cases hf
    exact vx_ret (hs_iret C0 hH hS (by decide) (by decide) dL_formatParcel_16)
def f_L_formatLink (M : Mem) (a1 : Int32) : Option (Int32 × Mem) := bxh (f_X7_formatLink M a1) (fun (r8 : Int32) (M7 : Mem) => nm (mu M7 33 0 0 r8) fun M9 => some ((0 : Int32), M9)) (fun (e9 : Nat) (M7 : Mem) => (if e9 = 0 then some ((1 : Int32), M7) else none))
set_option maxHeartbeats 4000000 in
set_option maxRecDepth 100000 in
theorem c_L_formatLink {Y : LY} {l : Launch} (hl9 : l.stackTraces = false) (M : Mem) (a1 : Int32) {r : Int32} {MZ : Mem} (hf : f_L_formatLink M a1 = some (r, MZ)) : vx_Met l yL_formatLink (Cond.codeWith yL_formatLink cL_formatLink 4 (Option.some Jvm.ClassFile.FieldType.int) [(0, 9, 12, 19)] :: ALLW) { frames := 10, cells := 14, slots := 1696, locals := 270 } (PcM Y M [.ref (YA Y 0 0), .int a1, .ref (YA Y 33 0)]) (Qi Y r MZ) XN 14 1696 (AZ Y) := by
  refine met_mkh (lv := [(0, .ref (YA Y 0 0)), (1, .int a1), (2, .ref (YA Y 33 0))]) [.ref (YA Y 0 0), .int a1, .ref (YA Y 33 0)] (by decide) rfl rfl (Nat.le_of_ble_eq_true rfl) (fun p e s m below meth c C0 hT hH ls hl => ?_)
  have hS : va_S (AZ Y) s.heap s.heap [] := va_S.rf
  obtain ⟨hx, hb, hr, hml, hown, hA, hlocks, hK, hZ⟩ := id C0
  unfold f_L_formatLink at hf
  refine lv_aload_n hx hb dL_formatLink_0 rfl (lv_at hl 2 rfl) ?_
  refine lv_iconst (v := (0 : Int32)) hx hb dL_formatLink_1 (by decide) ?_
  refine lv_aload_n hx hb dL_formatLink_2 rfl (lv_at hl 0 rfl) ?_
  refine lv_iload_n hx hb dL_formatLink_3 rfl (lv_at hl 1 rfl) ?_
  obtain ⟨yr8, M7, hq6, hf⟩ := bxh_o hf
  refine hl_ci (hx_runV C0 hH hS (n := 1) (As := [.int a1]) (rest := [.int (0 : Int32), .ref (YA Y 33 0)]) (c_X7_formatLink hl9 M a1 hq6) ⟨⟨zt_1393, zt_1394, zt_1395, zt_1, zt_1396⟩, rfl, by decide, by decide, by decide +kernel⟩ ⟨rfl, rfl, Nat.le_of_ble_eq_true rfl, Nat.le_of_ble_eq_true rfl⟩ (hs_recv hK hH 0 0 (by decide) 11 rfl rfl) rfl rfl hl.1 (Nat.le_of_ble_eq_true rfl) ⟨Nat.le_of_ble_eq_true rfl, Nat.le_of_ble_eq_true rfl⟩ dL_formatLink_4) hS (fun k9 E9 q9 ce9 H locs e9 hE hH hS h1 h2 h3 => ?_) (fun r8 er8 H locs hH hS => ?_)
  · subst e9
    have hf := bxh_x hf
    by_cases hc10 : k9 = 0
    · subst hc10
      have hf := if_t hf rfl
      cases hE
      refine hl_catch C0 hT (by decide) [] ⟨0, 9, 12, 19⟩ [] rfl (fun _ h => nomatch h) (by decide) (by decide) zt_698 h1 h2 h3 ?_
      refine lv_astore_n (lv' := [(3, .ref q9), (0, .ref (YA Y 0 0)), (1, .int a1), (2, .ref (YA Y 33 0))]) hx hb dL_formatLink_12 rfl hl (by decide) rfl (fun ls hl => ?_)
      refine lv_iconst (v := (1 : Int32)) hx hb dL_formatLink_13 (by decide) ?_
      cases hf
      exact vx_ret (hs_iret C0 hH hS (by decide) (by decide) dL_formatLink_14)
    have hf := if_f hf hc10
    cases hf
  · subst er8
    have hf := bxh_v hf
    refine lv_i2l (v := r8.toInt64) hx hb dL_formatLink_7 rfl ?_
    refine hl_lastore hx hb hK hH hS (v := r8) rfl dL_formatLink_8 (fun H locs hH hS => ?_)
    obtain ⟨M9, eM9, hf⟩ := nm_o hf
    rw [← eM9] at hH
    refine lv_goto (tgt := 15) hx hb dL_formatLink_9 (by decide) ?_
    refine lv_iconst (v := (0 : Int32)) hx hb dL_formatLink_15 (by decide) ?_
    cases hf
    exact vx_ret (hs_iret C0 hH hS (by decide) (by decide) dL_formatLink_16)
def f_L_lineChar (M : Mem) (a1 : Int32) : Option (Int32 × Mem) := bxh (f_X7_lineChar M a1) (fun (r8 : Int32) (M7 : Mem) => nm (mu M7 33 0 0 r8) fun M9 => some ((0 : Int32), M9)) (fun (e9 : Nat) (M7 : Mem) => (if e9 = 0 then some ((1 : Int32), M7) else none))
set_option maxHeartbeats 4000000 in
set_option maxRecDepth 100000 in
theorem c_L_lineChar {Y : LY} {l : Launch} (hl9 : l.stackTraces = false) (M : Mem) (a1 : Int32) {r : Int32} {MZ : Mem} (hf : f_L_lineChar M a1 = some (r, MZ)) : vx_Met l yL_lineChar (Cond.codeWith yL_lineChar cL_lineChar 4 (Option.some Jvm.ClassFile.FieldType.int) [(0, 9, 12, 19)] :: ALLW) { frames := 8, cells := 1, slots := 6, locals := 132 } (PcM Y M [.ref (YA Y 0 0), .int a1, .ref (YA Y 33 0)]) (Qi Y r MZ) XN 1 6 (AZ Y) := by
  refine met_mkh (lv := [(0, .ref (YA Y 0 0)), (1, .int a1), (2, .ref (YA Y 33 0))]) [.ref (YA Y 0 0), .int a1, .ref (YA Y 33 0)] (by decide) rfl rfl (Nat.le_of_ble_eq_true rfl) (fun p e s m below meth c C0 hT hH ls hl => ?_)
  have hS : va_S (AZ Y) s.heap s.heap [] := va_S.rf
  obtain ⟨hx, hb, hr, hml, hown, hA, hlocks, hK, hZ⟩ := id C0
  unfold f_L_lineChar at hf
  refine lv_aload_n hx hb dL_lineChar_0 rfl (lv_at hl 2 rfl) ?_
  refine lv_iconst (v := (0 : Int32)) hx hb dL_lineChar_1 (by decide) ?_
  refine lv_aload_n hx hb dL_lineChar_2 rfl (lv_at hl 0 rfl) ?_
  refine lv_iload_n hx hb dL_lineChar_3 rfl (lv_at hl 1 rfl) ?_
  obtain ⟨yr8, M7, hq6, hf⟩ := bxh_o hf
  refine hl_ci (hx_runV C0 hH hS (n := 1) (As := [.int a1]) (rest := [.int (0 : Int32), .ref (YA Y 33 0)]) (c_X7_lineChar hl9 M a1 hq6) ⟨⟨zt_1412, zt_1413, zt_1414, zt_1, zt_1415⟩, rfl, by decide, by decide, by decide +kernel⟩ ⟨rfl, rfl, Nat.le_of_ble_eq_true rfl, Nat.le_of_ble_eq_true rfl⟩ (hs_recv hK hH 0 0 (by decide) 11 rfl rfl) rfl rfl hl.1 (Nat.le_of_ble_eq_true rfl) ⟨Nat.le_of_ble_eq_true rfl, Nat.le_of_ble_eq_true rfl⟩ dL_lineChar_4) hS (fun k9 E9 q9 ce9 H locs e9 hE hH hS h1 h2 h3 => ?_) (fun r8 er8 H locs hH hS => ?_)
  · subst e9
    have hf := bxh_x hf
    by_cases hc10 : k9 = 0
    · subst hc10
      have hf := if_t hf rfl
      cases hE
      refine hl_catch C0 hT (by decide) [] ⟨0, 9, 12, 19⟩ [] rfl (fun _ h => nomatch h) (by decide) (by decide) zt_698 h1 h2 h3 ?_
      refine lv_astore_n (lv' := [(3, .ref q9), (0, .ref (YA Y 0 0)), (1, .int a1), (2, .ref (YA Y 33 0))]) hx hb dL_lineChar_12 rfl hl (by decide) rfl (fun ls hl => ?_)
      refine lv_iconst (v := (1 : Int32)) hx hb dL_lineChar_13 (by decide) ?_
      cases hf
      exact vx_ret (hs_iret C0 hH hS (by decide) (by decide) dL_lineChar_14)
    have hf := if_f hf hc10
    cases hf
  · subst er8
    have hf := bxh_v hf
    refine lv_i2l (v := r8.toInt64) hx hb dL_lineChar_7 rfl ?_
    refine hl_lastore hx hb hK hH hS (v := r8) rfl dL_lineChar_8 (fun H locs hH hS => ?_)
    obtain ⟨M9, eM9, hf⟩ := nm_o hf
    rw [← eM9] at hH
    refine lv_goto (tgt := 15) hx hb dL_lineChar_9 (by decide) ?_
    refine lv_iconst (v := (0 : Int32)) hx hb dL_lineChar_15 (by decide) ?_
    cases hf
    exact vx_ret (hs_iret C0 hH hS (by decide) (by decide) dL_lineChar_16)
def f_L_append (M : Mem) (a1 : Int32) : Option (Int32 × Mem) := bxh (f_X7_append M a1) (fun (r9 : Int32) (M8 : Mem) => nm (mu M8 33 0 0 r9) fun M10 => some ((0 : Int32), M10)) (fun (e9 : Nat) (M8 : Mem) => (if e9 = 1 then some ((1 : Int32), M8) else (if e9 = 2 then some ((2 : Int32), M8) else none)))
set_option maxHeartbeats 4000000 in
set_option maxRecDepth 100000 in
theorem c_L_append {Y : LY} {l : Launch} (hl9 : l.stackTraces = false) (M : Mem) (a1 : Int32) {r : Int32} {MZ : Mem} (hf : f_L_append M a1 = some (r, MZ)) : vx_Met l yL_append (Cond.codeWith yL_append cL_append 4 (Option.some Jvm.ClassFile.FieldType.int) [(0, 9, 12, 21), (0, 9, 15, 13)] :: ALLW) { frames := 7, cells := 1, slots := 6, locals := 111 } (PcM Y M [.ref (YA Y 0 0), .int a1, .ref (YA Y 33 0)]) (Qi Y r MZ) XN 1 6 (AZ Y) := by
  refine met_mkh (lv := [(0, .ref (YA Y 0 0)), (1, .int a1), (2, .ref (YA Y 33 0))]) [.ref (YA Y 0 0), .int a1, .ref (YA Y 33 0)] (by decide) rfl rfl (Nat.le_of_ble_eq_true rfl) (fun p e s m below meth c C0 hT hH ls hl => ?_)
  have hS : va_S (AZ Y) s.heap s.heap [] := va_S.rf
  obtain ⟨hx, hb, hr, hml, hown, hA, hlocks, hK, hZ⟩ := id C0
  unfold f_L_append at hf
  refine lv_aload_n hx hb dL_append_0 rfl (lv_at hl 2 rfl) ?_
  refine lv_iconst (v := (0 : Int32)) hx hb dL_append_1 (by decide) ?_
  refine lv_aload_n hx hb dL_append_2 rfl (lv_at hl 0 rfl) ?_
  refine lv_iload_n hx hb dL_append_3 rfl (lv_at hl 1 rfl) ?_
  obtain ⟨yr9, M8, hq7, hf⟩ := bxh_o hf
  refine hl_ci (hx_runV C0 hH hS (n := 1) (As := [.int a1]) (rest := [.int (0 : Int32), .ref (YA Y 33 0)]) (c_X7_append hl9 M a1 hq7) ⟨⟨zt_1429, zt_1430, zt_1431, zt_1, zt_1432⟩, rfl, by decide, by decide, by decide +kernel⟩ ⟨rfl, rfl, Nat.le_of_ble_eq_true rfl, Nat.le_of_ble_eq_true rfl⟩ (hs_recv hK hH 0 0 (by decide) 11 rfl rfl) rfl rfl hl.1 (Nat.le_of_ble_eq_true rfl) ⟨Nat.le_of_ble_eq_true rfl, Nat.le_of_ble_eq_true rfl⟩ dL_append_4) hS (fun k9 E9 q9 ce9 H locs e9 hE hH hS h1 h2 h3 => ?_) (fun r9 er9 H locs hH hS => ?_)
  · subst e9
    have hf := bxh_x hf
    by_cases hc12 : k9 = 1
    · subst hc12
      have hf := if_t hf rfl
      cases hE
      refine hl_catch C0 hT (by decide) [] ⟨0, 9, 12, 21⟩ [⟨0, 9, 15, 13⟩] rfl (fun _ h => nomatch h) (by decide) (by decide) zt_719 h1 h2 h3 ?_
      refine lv_astore_n (lv' := [(3, .ref q9), (0, .ref (YA Y 0 0)), (1, .int a1), (2, .ref (YA Y 33 0))]) hx hb dL_append_12 rfl hl (by decide) rfl (fun ls hl => ?_)
      refine lv_iconst (v := (1 : Int32)) hx hb dL_append_13 (by decide) ?_
      cases hf
      exact vx_ret (hs_iret C0 hH hS (by decide) (by decide) dL_append_14)
    have hf := if_f hf hc12
    by_cases hc11 : k9 = 2
    · subst hc11
      have hf := if_t hf rfl
      cases hE
      refine hl_catch C0 hT (by decide) [⟨0, 9, 12, 21⟩] ⟨0, 9, 15, 13⟩ [] rfl (List.forall_mem_cons.mpr ⟨Or.inr ⟨by decide, "java/lang/IllegalArgumentException", zt_719, by decide, by decide⟩, (fun _ h => nomatch h)⟩) (by decide) (by decide) zt_690 h1 h2 h3 ?_
      refine lv_astore_n (lv' := [(3, .ref q9), (0, .ref (YA Y 0 0)), (1, .int a1), (2, .ref (YA Y 33 0))]) hx hb dL_append_15 rfl hl (by decide) rfl (fun ls hl => ?_)
      refine lv_iconst (v := (2 : Int32)) hx hb dL_append_16 (by decide) ?_
      cases hf
      exact vx_ret (hs_iret C0 hH hS (by decide) (by decide) dL_append_17)
    have hf := if_f hf hc11
    cases hf
  · subst er9
    have hf := bxh_v hf
    refine lv_i2l (v := r9.toInt64) hx hb dL_append_7 rfl ?_
    refine hl_lastore hx hb hK hH hS (v := r9) rfl dL_append_8 (fun H locs hH hS => ?_)
    obtain ⟨M10, eM10, hf⟩ := nm_o hf
    rw [← eM10] at hH
    refine lv_goto (tgt := 18) hx hb dL_append_9 (by decide) ?_
    refine lv_iconst (v := (0 : Int32)) hx hb dL_append_18 (by decide) ?_
    cases hf
    exact vx_ret (hs_iret C0 hH hS (by decide) (by decide) dL_append_19)
def f_L_run (M : Mem) : Option (Int32 × Mem) := bxh (f_X7_run M) (fun (r9 : Int32) (M8 : Mem) => nm (mu M8 33 0 0 r9) fun M10 => some ((0 : Int32), M10)) (fun (e9 : Nat) (M8 : Mem) => (if e9 = 1 then some ((1 : Int32), M8) else (if e9 = 2 then some ((2 : Int32), M8) else none)))
set_option maxHeartbeats 4000000 in
set_option maxRecDepth 100000 in
theorem c_L_run {Y : LY} {l : Launch} (hl9 : l.stackTraces = false) (M : Mem) {r : Int32} {MZ : Mem} (hf : f_L_run M = some (r, MZ)) : vx_Met l yL_run (Cond.codeWith yL_run cL_run 3 (Option.some Jvm.ClassFile.FieldType.int) [(0, 8, 11, 21), (0, 8, 14, 13)] :: ALLW) { frames := 8, cells := 1, slots := 6, locals := 192 } (PcM Y M [.ref (YA Y 0 0), .ref (YA Y 33 0)]) (Qi Y r MZ) XN 1 6 (AZ Y) := by
  refine met_mkh (lv := [(0, .ref (YA Y 0 0)), (1, .ref (YA Y 33 0))]) [.ref (YA Y 0 0), .ref (YA Y 33 0)] (by decide) rfl rfl (Nat.le_of_ble_eq_true rfl) (fun p e s m below meth c C0 hT hH ls hl => ?_)
  have hS : va_S (AZ Y) s.heap s.heap [] := va_S.rf
  obtain ⟨hx, hb, hr, hml, hown, hA, hlocks, hK, hZ⟩ := id C0
  unfold f_L_run at hf
  refine lv_aload_n hx hb dL_run_0 rfl (lv_at hl 1 rfl) ?_
  refine lv_iconst (v := (0 : Int32)) hx hb dL_run_1 (by decide) ?_
  refine lv_aload_n hx hb dL_run_2 rfl (lv_at hl 0 rfl) ?_
  obtain ⟨yr9, M8, hq7, hf⟩ := bxh_o hf
  refine hl_ci (hx_runV C0 hH hS (n := 0) (As := []) (rest := [.int (0 : Int32), .ref (YA Y 33 0)]) (c_X7_run hl9 M hq7) ⟨⟨zt_1442, zt_1443, zt_1444, zt_1, zt_1445⟩, rfl, by decide, by decide, by decide +kernel⟩ ⟨rfl, rfl, Nat.le_of_ble_eq_true rfl, Nat.le_of_ble_eq_true rfl⟩ (hs_recv hK hH 0 0 (by decide) 11 rfl rfl) rfl rfl hl.1 (Nat.le_of_ble_eq_true rfl) ⟨Nat.le_of_ble_eq_true rfl, Nat.le_of_ble_eq_true rfl⟩ dL_run_3) hS (fun k9 E9 q9 ce9 H locs e9 hE hH hS h1 h2 h3 => ?_) (fun r9 er9 H locs hH hS => ?_)
  · subst e9
    have hf := bxh_x hf
    by_cases hc12 : k9 = 1
    · subst hc12
      have hf := if_t hf rfl
      cases hE
      refine hl_catch C0 hT (by decide) [] ⟨0, 8, 11, 21⟩ [⟨0, 8, 14, 13⟩] rfl (fun _ h => nomatch h) (by decide) (by decide) zt_719 h1 h2 h3 ?_
      refine lv_astore_n (lv' := [(2, .ref q9), (0, .ref (YA Y 0 0)), (1, .ref (YA Y 33 0))]) hx hb dL_run_11 rfl hl (by decide) rfl (fun ls hl => ?_)
      refine lv_iconst (v := (1 : Int32)) hx hb dL_run_12 (by decide) ?_
      cases hf
      exact vx_ret (hs_iret C0 hH hS (by decide) (by decide) dL_run_13)
    have hf := if_f hf hc12
    by_cases hc11 : k9 = 2
    · subst hc11
      have hf := if_t hf rfl
      cases hE
      refine hl_catch C0 hT (by decide) [⟨0, 8, 11, 21⟩] ⟨0, 8, 14, 13⟩ [] rfl (List.forall_mem_cons.mpr ⟨Or.inr ⟨by decide, "java/lang/IllegalArgumentException", zt_719, by decide, by decide⟩, (fun _ h => nomatch h)⟩) (by decide) (by decide) zt_690 h1 h2 h3 ?_
      refine lv_astore_n (lv' := [(2, .ref q9), (0, .ref (YA Y 0 0)), (1, .ref (YA Y 33 0))]) hx hb dL_run_14 rfl hl (by decide) rfl (fun ls hl => ?_)
      refine lv_iconst (v := (2 : Int32)) hx hb dL_run_15 (by decide) ?_
      cases hf
      exact vx_ret (hs_iret C0 hH hS (by decide) (by decide) dL_run_16)
    have hf := if_f hf hc11
    cases hf
  · subst er9
    have hf := bxh_v hf
    refine lv_i2l (v := r9.toInt64) hx hb dL_run_6 rfl ?_
    refine hl_lastore hx hb hK hH hS (v := r9) rfl dL_run_7 (fun H locs hH hS => ?_)
    obtain ⟨M10, eM10, hf⟩ := nm_o hf
    rw [← eM10] at hH
    refine lv_goto (tgt := 17) hx hb dL_run_8 (by decide) ?_
    refine lv_iconst (v := (0 : Int32)) hx hb dL_run_17 (by decide) ?_
    cases hf
    exact vx_ret (hs_iret C0 hH hS (by decide) (by decide) dL_run_18)
def f_L_errorPosition (M : Mem) : Option (Int32 × Mem) := bxh (f_X7_errorPosition M) (fun (r8 : Int32) (M7 : Mem) => nm (mu M7 33 0 0 r8) fun M9 => some ((0 : Int32), M9)) (fun (e9 : Nat) (M7 : Mem) => (if e9 = 3 then some ((1 : Int32), M7) else none))
set_option maxHeartbeats 4000000 in
set_option maxRecDepth 100000 in
theorem c_L_errorPosition {Y : LY} {l : Launch} (hl9 : l.stackTraces = false) (M : Mem) {r : Int32} {MZ : Mem} (hf : f_L_errorPosition M = some (r, MZ)) : vx_Met l yL_errorPosition (Cond.codeWith yL_errorPosition cL_errorPosition 3 (Option.some Jvm.ClassFile.FieldType.int) [(0, 8, 11, 37)] :: ALLW) { frames := 7, cells := 1, slots := 6, locals := 110 } (PcM Y M [.ref (YA Y 0 0), .ref (YA Y 33 0)]) (Qi Y r MZ) XN 1 6 (AZ Y) := by
  refine met_mkh (lv := [(0, .ref (YA Y 0 0)), (1, .ref (YA Y 33 0))]) [.ref (YA Y 0 0), .ref (YA Y 33 0)] (by decide) rfl rfl (Nat.le_of_ble_eq_true rfl) (fun p e s m below meth c C0 hT hH ls hl => ?_)
  have hS : va_S (AZ Y) s.heap s.heap [] := va_S.rf
  obtain ⟨hx, hb, hr, hml, hown, hA, hlocks, hK, hZ⟩ := id C0
  unfold f_L_errorPosition at hf
  refine lv_aload_n hx hb dL_errorPosition_0 rfl (lv_at hl 1 rfl) ?_
  refine lv_iconst (v := (0 : Int32)) hx hb dL_errorPosition_1 (by decide) ?_
  refine lv_aload_n hx hb dL_errorPosition_2 rfl (lv_at hl 0 rfl) ?_
  obtain ⟨yr8, M7, hq6, hf⟩ := bxh_o hf
  refine hl_ci (hx_runV C0 hH hS (n := 0) (As := []) (rest := [.int (0 : Int32), .ref (YA Y 33 0)]) (c_X7_errorPosition hl9 M hq6) ⟨⟨zt_1508, zt_1509, zt_1510, zt_1, zt_1511⟩, rfl, by decide, by decide, by decide +kernel⟩ ⟨rfl, rfl, Nat.le_of_ble_eq_true rfl, Nat.le_of_ble_eq_true rfl⟩ (hs_recv hK hH 0 0 (by decide) 11 rfl rfl) rfl rfl hl.1 (Nat.le_of_ble_eq_true rfl) ⟨Nat.le_of_ble_eq_true rfl, Nat.le_of_ble_eq_true rfl⟩ dL_errorPosition_3) hS (fun k9 E9 q9 ce9 H locs e9 hE hH hS h1 h2 h3 => ?_) (fun r8 er8 H locs hH hS => ?_)
  · subst e9
    have hf := bxh_x hf
    by_cases hc10 : k9 = 3
    · subst hc10
      have hf := if_t hf rfl
      cases hE
      refine hl_catch C0 hT (by decide) [] ⟨0, 8, 11, 37⟩ [] rfl (fun _ h => nomatch h) (by decide) (by decide) zt_748 h1 h2 h3 ?_
      refine lv_astore_n (lv' := [(2, .ref q9), (0, .ref (YA Y 0 0)), (1, .ref (YA Y 33 0))]) hx hb dL_errorPosition_11 rfl hl (by decide) rfl (fun ls hl => ?_)
      refine lv_iconst (v := (1 : Int32)) hx hb dL_errorPosition_12 (by decide) ?_
      cases hf
      exact vx_ret (hs_iret C0 hH hS (by decide) (by decide) dL_errorPosition_13)
    have hf := if_f hf hc10
    cases hf
  · subst er8
    have hf := bxh_v hf
    refine lv_i2l (v := r8.toInt64) hx hb dL_errorPosition_6 rfl ?_
    refine hl_lastore hx hb hK hH hS (v := r8) rfl dL_errorPosition_7 (fun H locs hH hS => ?_)
    obtain ⟨M9, eM9, hf⟩ := nm_o hf
    rw [← eM9] at hH
    refine lv_goto (tgt := 14) hx hb dL_errorPosition_8 (by decide) ?_
    refine lv_iconst (v := (0 : Int32)) hx hb dL_errorPosition_14 (by decide) ?_
    cases hf
    exact vx_ret (hs_iret C0 hH hS (by decide) (by decide) dL_errorPosition_15)
def f_L_failedCommand (M : Mem) : Option (Int32 × Mem) := bxh (f_X7_failedCommand M) (fun (r8 : Int32) (M7 : Mem) => nm (mu M7 33 0 0 r8) fun M9 => some ((0 : Int32), M9)) (fun (e9 : Nat) (M7 : Mem) => (if e9 = 3 then some ((1 : Int32), M7) else none))
set_option maxHeartbeats 4000000 in
set_option maxRecDepth 100000 in
theorem c_L_failedCommand {Y : LY} {l : Launch} (hl9 : l.stackTraces = false) (M : Mem) {r : Int32} {MZ : Mem} (hf : f_L_failedCommand M = some (r, MZ)) : vx_Met l yL_failedCommand (Cond.codeWith yL_failedCommand cL_failedCommand 3 (Option.some Jvm.ClassFile.FieldType.int) [(0, 8, 11, 37)] :: ALLW) { frames := 7, cells := 1, slots := 6, locals := 110 } (PcM Y M [.ref (YA Y 0 0), .ref (YA Y 33 0)]) (Qi Y r MZ) XN 1 6 (AZ Y) := by
  refine met_mkh (lv := [(0, .ref (YA Y 0 0)), (1, .ref (YA Y 33 0))]) [.ref (YA Y 0 0), .ref (YA Y 33 0)] (by decide) rfl rfl (Nat.le_of_ble_eq_true rfl) (fun p e s m below meth c C0 hT hH ls hl => ?_)
  have hS : va_S (AZ Y) s.heap s.heap [] := va_S.rf
  obtain ⟨hx, hb, hr, hml, hown, hA, hlocks, hK, hZ⟩ := id C0
  unfold f_L_failedCommand at hf
  refine lv_aload_n hx hb dL_failedCommand_0 rfl (lv_at hl 1 rfl) ?_
  refine lv_iconst (v := (0 : Int32)) hx hb dL_failedCommand_1 (by decide) ?_
  refine lv_aload_n hx hb dL_failedCommand_2 rfl (lv_at hl 0 rfl) ?_
  obtain ⟨yr8, M7, hq6, hf⟩ := bxh_o hf
  refine hl_ci (hx_runV C0 hH hS (n := 0) (As := []) (rest := [.int (0 : Int32), .ref (YA Y 33 0)]) (c_X7_failedCommand hl9 M hq6) ⟨⟨zt_1516, zt_1517, zt_1518, zt_1, zt_1519⟩, rfl, by decide, by decide, by decide +kernel⟩ ⟨rfl, rfl, Nat.le_of_ble_eq_true rfl, Nat.le_of_ble_eq_true rfl⟩ (hs_recv hK hH 0 0 (by decide) 11 rfl rfl) rfl rfl hl.1 (Nat.le_of_ble_eq_true rfl) ⟨Nat.le_of_ble_eq_true rfl, Nat.le_of_ble_eq_true rfl⟩ dL_failedCommand_3) hS (fun k9 E9 q9 ce9 H locs e9 hE hH hS h1 h2 h3 => ?_) (fun r8 er8 H locs hH hS => ?_)
  · subst e9
    have hf := bxh_x hf
    by_cases hc10 : k9 = 3
    · subst hc10
      have hf := if_t hf rfl
      cases hE
      refine hl_catch C0 hT (by decide) [] ⟨0, 8, 11, 37⟩ [] rfl (fun _ h => nomatch h) (by decide) (by decide) zt_748 h1 h2 h3 ?_
      refine lv_astore_n (lv' := [(2, .ref q9), (0, .ref (YA Y 0 0)), (1, .ref (YA Y 33 0))]) hx hb dL_failedCommand_11 rfl hl (by decide) rfl (fun ls hl => ?_)
      refine lv_iconst (v := (1 : Int32)) hx hb dL_failedCommand_12 (by decide) ?_
      cases hf
      exact vx_ret (hs_iret C0 hH hS (by decide) (by decide) dL_failedCommand_13)
    have hf := if_f hf hc10
    cases hf
  · subst er8
    have hf := bxh_v hf
    refine lv_i2l (v := r8.toInt64) hx hb dL_failedCommand_6 rfl ?_
    refine hl_lastore hx hb hK hH hS (v := r8) rfl dL_failedCommand_7 (fun H locs hH hS => ?_)
    obtain ⟨M9, eM9, hf⟩ := nm_o hf
    rw [← eM9] at hH
    refine lv_goto (tgt := 14) hx hb dL_failedCommand_8 (by decide) ?_
    refine lv_iconst (v := (0 : Int32)) hx hb dL_failedCommand_14 (by decide) ?_
    cases hf
    exact vx_ret (hs_iret C0 hH hS (by decide) (by decide) dL_failedCommand_15)
def f_L_undo (M : Mem) : Option (Int32 × Mem) := bxh (f_X7_undo M) (fun (r8 : Int32) (M7 : Mem) => nm (mu M7 33 0 0 r8) fun M9 => some ((0 : Int32), M9)) (fun (e9 : Nat) (M7 : Mem) => (if e9 = 2 then some ((1 : Int32), M7) else none))
set_option maxHeartbeats 4000000 in
set_option maxRecDepth 100000 in
theorem c_L_undo {Y : LY} {l : Launch} (hl9 : l.stackTraces = false) (M : Mem) {r : Int32} {MZ : Mem} (hf : f_L_undo M = some (r, MZ)) : vx_Met l yL_undo (Cond.codeWith yL_undo cL_undo 3 (Option.some Jvm.ClassFile.FieldType.int) [(0, 8, 11, 13)] :: ALLW) { frames := 7, cells := 1, slots := 6, locals := 110 } (PcM Y M [.ref (YA Y 0 0), .ref (YA Y 33 0)]) (Qi Y r MZ) XN 1 6 (AZ Y) := by
  refine met_mkh (lv := [(0, .ref (YA Y 0 0)), (1, .ref (YA Y 33 0))]) [.ref (YA Y 0 0), .ref (YA Y 33 0)] (by decide) rfl rfl (Nat.le_of_ble_eq_true rfl) (fun p e s m below meth c C0 hT hH ls hl => ?_)
  have hS : va_S (AZ Y) s.heap s.heap [] := va_S.rf
  obtain ⟨hx, hb, hr, hml, hown, hA, hlocks, hK, hZ⟩ := id C0
  unfold f_L_undo at hf
  refine lv_aload_n hx hb dL_undo_0 rfl (lv_at hl 1 rfl) ?_
  refine lv_iconst (v := (0 : Int32)) hx hb dL_undo_1 (by decide) ?_
  refine lv_aload_n hx hb dL_undo_2 rfl (lv_at hl 0 rfl) ?_
  obtain ⟨yr8, M7, hq6, hf⟩ := bxh_o hf
  refine hl_ci (hx_runV C0 hH hS (n := 0) (As := []) (rest := [.int (0 : Int32), .ref (YA Y 33 0)]) (c_X7_undo hl9 M hq6) ⟨⟨zt_1524, zt_1525, zt_1526, zt_1, zt_1527⟩, rfl, by decide, by decide, by decide +kernel⟩ ⟨rfl, rfl, Nat.le_of_ble_eq_true rfl, Nat.le_of_ble_eq_true rfl⟩ (hs_recv hK hH 0 0 (by decide) 11 rfl rfl) rfl rfl hl.1 (Nat.le_of_ble_eq_true rfl) ⟨Nat.le_of_ble_eq_true rfl, Nat.le_of_ble_eq_true rfl⟩ dL_undo_3) hS (fun k9 E9 q9 ce9 H locs e9 hE hH hS h1 h2 h3 => ?_) (fun r8 er8 H locs hH hS => ?_)
  · subst e9
    have hf := bxh_x hf
    by_cases hc10 : k9 = 2
    · subst hc10
      have hf := if_t hf rfl
      cases hE
      refine hl_catch C0 hT (by decide) [] ⟨0, 8, 11, 13⟩ [] rfl (fun _ h => nomatch h) (by decide) (by decide) zt_690 h1 h2 h3 ?_
      refine lv_astore_n (lv' := [(2, .ref q9), (0, .ref (YA Y 0 0)), (1, .ref (YA Y 33 0))]) hx hb dL_undo_11 rfl hl (by decide) rfl (fun ls hl => ?_)
      refine lv_iconst (v := (1 : Int32)) hx hb dL_undo_12 (by decide) ?_
      cases hf
      exact vx_ret (hs_iret C0 hH hS (by decide) (by decide) dL_undo_13)
    have hf := if_f hf hc10
    cases hf
  · subst er8
    have hf := bxh_v hf
    refine lv_i2l (v := r8.toInt64) hx hb dL_undo_6 rfl ?_
    refine hl_lastore hx hb hK hH hS (v := r8) rfl dL_undo_7 (fun H locs hH hS => ?_)
    obtain ⟨M9, eM9, hf⟩ := nm_o hf
    rw [← eM9] at hH
    refine lv_goto (tgt := 14) hx hb dL_undo_8 (by decide) ?_
    refine lv_iconst (v := (0 : Int32)) hx hb dL_undo_14 (by decide) ?_
    cases hf
    exact vx_ret (hs_iret C0 hH hS (by decide) (by decide) dL_undo_15)
def f_L_restore (M : Mem) : Option (Int32 × Mem) := bxh (f_X7_restore M) (fun (r8 : Int32) (M7 : Mem) => nm (mu M7 33 0 0 r8) fun M9 => some ((0 : Int32), M9)) (fun (e9 : Nat) (M7 : Mem) => (if e9 = 2 then some ((1 : Int32), M7) else none))
set_option maxHeartbeats 4000000 in
set_option maxRecDepth 100000 in
theorem c_L_restore {Y : LY} {l : Launch} (hl9 : l.stackTraces = false) (M : Mem) {r : Int32} {MZ : Mem} (hf : f_L_restore M = some (r, MZ)) : vx_Met l yL_restore (Cond.codeWith yL_restore cL_restore 3 (Option.some Jvm.ClassFile.FieldType.int) [(0, 8, 11, 13)] :: ALLW) { frames := 7, cells := 1, slots := 6, locals := 110 } (PcM Y M [.ref (YA Y 0 0), .ref (YA Y 33 0)]) (Qi Y r MZ) XN 1 6 (AZ Y) := by
  refine met_mkh (lv := [(0, .ref (YA Y 0 0)), (1, .ref (YA Y 33 0))]) [.ref (YA Y 0 0), .ref (YA Y 33 0)] (by decide) rfl rfl (Nat.le_of_ble_eq_true rfl) (fun p e s m below meth c C0 hT hH ls hl => ?_)
  have hS : va_S (AZ Y) s.heap s.heap [] := va_S.rf
  obtain ⟨hx, hb, hr, hml, hown, hA, hlocks, hK, hZ⟩ := id C0
  unfold f_L_restore at hf
  refine lv_aload_n hx hb dL_restore_0 rfl (lv_at hl 1 rfl) ?_
  refine lv_iconst (v := (0 : Int32)) hx hb dL_restore_1 (by decide) ?_
  refine lv_aload_n hx hb dL_restore_2 rfl (lv_at hl 0 rfl) ?_
  obtain ⟨yr8, M7, hq6, hf⟩ := bxh_o hf
  refine hl_ci (hx_runV C0 hH hS (n := 0) (As := []) (rest := [.int (0 : Int32), .ref (YA Y 33 0)]) (c_X7_restore hl9 M hq6) ⟨⟨zt_1536, zt_1537, zt_1538, zt_1, zt_1539⟩, rfl, by decide, by decide, by decide +kernel⟩ ⟨rfl, rfl, Nat.le_of_ble_eq_true rfl, Nat.le_of_ble_eq_true rfl⟩ (hs_recv hK hH 0 0 (by decide) 11 rfl rfl) rfl rfl hl.1 (Nat.le_of_ble_eq_true rfl) ⟨Nat.le_of_ble_eq_true rfl, Nat.le_of_ble_eq_true rfl⟩ dL_restore_3) hS (fun k9 E9 q9 ce9 H locs e9 hE hH hS h1 h2 h3 => ?_) (fun r8 er8 H locs hH hS => ?_)
  · subst e9
    have hf := bxh_x hf
    by_cases hc10 : k9 = 2
    · subst hc10
      have hf := if_t hf rfl
      cases hE
      refine hl_catch C0 hT (by decide) [] ⟨0, 8, 11, 13⟩ [] rfl (fun _ h => nomatch h) (by decide) (by decide) zt_690 h1 h2 h3 ?_
      refine lv_astore_n (lv' := [(2, .ref q9), (0, .ref (YA Y 0 0)), (1, .ref (YA Y 33 0))]) hx hb dL_restore_11 rfl hl (by decide) rfl (fun ls hl => ?_)
      refine lv_iconst (v := (1 : Int32)) hx hb dL_restore_12 (by decide) ?_
      cases hf
      exact vx_ret (hs_iret C0 hH hS (by decide) (by decide) dL_restore_13)
    have hf := if_f hf hc10
    cases hf
  · subst er8
    have hf := bxh_v hf
    refine lv_i2l (v := r8.toInt64) hx hb dL_restore_6 rfl ?_
    refine hl_lastore hx hb hK hH hS (v := r8) rfl dL_restore_7 (fun H locs hH hS => ?_)
    obtain ⟨M9, eM9, hf⟩ := nm_o hf
    rw [← eM9] at hH
    refine lv_goto (tgt := 14) hx hb dL_restore_8 (by decide) ?_
    refine lv_iconst (v := (0 : Int32)) hx hb dL_restore_14 (by decide) ?_
    cases hf
    exact vx_ret (hs_iret C0 hH hS (by decide) (by decide) dL_restore_15)
