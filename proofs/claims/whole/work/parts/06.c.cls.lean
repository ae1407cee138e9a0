def f_X7_weightOf (M : Mem) (a1 : Int32) : Option ((Int32 ⊕ Nat) × Mem) := bx (f_X7_existingParcel M a1) fun (r6 : Nat) (M5 : Mem) => if r6 < 132 then (some (.inl (M5 6 r6 1), M5)) else none
set_option maxHeartbeats 4000000 in
set_option maxRecDepth 100000 in
theorem c_X7_weightOf {Y : LY} {l : Launch} (hl9 : l.stackTraces = false) (M : Mem) (a1 : Int32) {x : Int32 ⊕ Nat} {MZ : Mem} (hf : f_X7_weightOf M a1 = some (x, MZ)) : vx_Met l yX7_weightOf (WS yX7_weightOf cX7_weightOf 2 (Option.some Jvm.ClassFile.FieldType.int)) { frames := 7, cells := 1, slots := 6, locals := 112 } (PcM Y M [.ref (YA Y 0 0), .int a1]) (Qxi Y x MZ) (Xx Y x MZ) 1 6 (AZ Y) := by
  refine met_mkx (lv := [(0, .ref (YA Y 0 0)), (1, .int a1)]) [.ref (YA Y 0 0), .int a1] (by decide) rfl rfl (Nat.le_of_ble_eq_true rfl) (fun p e s m below meth c C0 hn9 hH ls hl => ?_)
  have hS : va_S (AZ Y) s.heap s.heap [] := va_S.rf
  obtain ⟨hx, hb, hr, hml, hown, hA, hlocks, hK, hZ⟩ := id C0
  unfold f_X7_weightOf at hf
  refine lv_aload_n hx hb dX7_weightOf_0 rfl (lv_at hl 0 rfl) ?_
  refine lv_iload_n hx hb dX7_weightOf_1 rfl (lv_at hl 1 rfl) ?_
  obtain ⟨yr6, M5, hq4, hf⟩ := bx_o hf
  refine hx_cr (hx_runV C0 hH hS (n := 1) (As := [.int a1]) (rest := []) (c_X7_existingParcel hl9 M a1 hq4) ⟨⟨zt_870, zt_872, zs_22, zt_1, zt_873⟩, rfl, by decide, by decide, by decide +kernel⟩ ⟨rfl, rfl, Nat.le_of_ble_eq_true rfl, Nat.le_of_ble_eq_true rfl⟩ (hs_recv hK hH 0 0 (by decide) 11 rfl rfl) rfl rfl hl.1 (Nat.le_of_ble_eq_true rfl) ⟨Nat.le_of_ble_eq_true rfl, Nat.le_of_ble_eq_true rfl⟩ dX7_weightOf_2) hS C0 hn9 (by decide) (by decide) (fun k e => by subst e; exact bx_p (HS Y) hf) (fun r6 er6 H locs hH hS => ?_)
  subst er6
  have hf := bx_v hf
  obtain ⟨hr6, hf⟩ := gd_o hf
  refine hs_get hx hb (T := TX3) hA inAX3 hown hK hH 6 r6 (show r6 < 132 from by omega) 7 rfl rfl 1 (by decide) (hA _ zt_141) rfl rfl dX7_weightOf_5 ?_
  cases hf
  exact hx_iret C0 hH hS (by decide) (by decide) dX7_weightOf_8
def f_X7_stampsOf (M : Mem) (a1 : Int32) : Option ((Int32 ⊕ Nat) × Mem) := bx (f_X7_existingParcel M a1) fun (r6 : Nat) (M5 : Mem) => if r6 < 132 then (some (.inl (M5 6 r6 2), M5)) else none
set_option maxHeartbeats 4000000 in
set_option maxRecDepth 100000 in
theorem c_X7_stampsOf {Y : LY} {l : Launch} (hl9 : l.stackTraces = false) (M : Mem) (a1 : Int32) {x : Int32 ⊕ Nat} {MZ : Mem} (hf : f_X7_stampsOf M a1 = some (x, MZ)) : vx_Met l yX7_stampsOf (WS yX7_stampsOf cX7_stampsOf 2 (Option.some Jvm.ClassFile.FieldType.int)) { frames := 7, cells := 1, slots := 6, locals := 112 } (PcM Y M [.ref (YA Y 0 0), .int a1]) (Qxi Y x MZ) (Xx Y x MZ) 1 6 (AZ Y) := by
  refine met_mkx (lv := [(0, .ref (YA Y 0 0)), (1, .int a1)]) [.ref (YA Y 0 0), .int a1] (by decide) rfl rfl (Nat.le_of_ble_eq_true rfl) (fun p e s m below meth c C0 hn9 hH ls hl => ?_)
  have hS : va_S (AZ Y) s.heap s.heap [] := va_S.rf
  obtain ⟨hx, hb, hr, hml, hown, hA, hlocks, hK, hZ⟩ := id C0
  unfold f_X7_stampsOf at hf
  refine lv_aload_n hx hb dX7_stampsOf_0 rfl (lv_at hl 0 rfl) ?_
  refine lv_iload_n hx hb dX7_stampsOf_1 rfl (lv_at hl 1 rfl) ?_
  obtain ⟨yr6, M5, hq4, hf⟩ := bx_o hf
  refine hx_cr (hx_runV C0 hH hS (n := 1) (As := [.int a1]) (rest := []) (c_X7_existingParcel hl9 M a1 hq4) ⟨⟨zt_870, zt_872, zs_22, zt_1, zt_873⟩, rfl, by decide, by decide, by decide +kernel⟩ ⟨rfl, rfl, Nat.le_of_ble_eq_true rfl, Nat.le_of_ble_eq_true rfl⟩ (hs_recv hK hH 0 0 (by decide) 11 rfl rfl) rfl rfl hl.1 (Nat.le_of_ble_eq_true rfl) ⟨Nat.le_of_ble_eq_true rfl, Nat.le_of_ble_eq_true rfl⟩ dX7_stampsOf_2) hS C0 hn9 (by decide) (by decide) (fun k e => by subst e; exact bx_p (HS Y) hf) (fun r6 er6 H locs hH hS => ?_)
  subst er6
  have hf := bx_v hf
  obtain ⟨hr6, hf⟩ := gd_o hf
  refine hs_get hx hb (T := TX3) hA inAX3 hown hK hH 6 r6 (show r6 < 132 from by omega) 7 rfl rfl 2 (by decide) (hA _ zt_144) rfl rfl dX7_stampsOf_5 ?_
  cases hf
  exact hx_iret C0 hH hS (by decide) (by decide) dX7_stampsOf_8
def f_X7_waitingIn (M : Mem) (a1 : Int32) : Option ((Int32 ⊕ Nat) × Mem) := bx (f_X7_requireIndex M a1 (M 2 0 1)) fun (r8 : Unit) (M7 : Mem) => bd (f_X5_parcelsWaitingIn M7 0 a1) fun r10 => some (.inl r10, M7)
set_option maxHeartbeats 4000000 in
set_option maxRecDepth 100000 in
theorem c_X7_waitingIn {Y : LY} {l : Launch} (hl9 : l.stackTraces = false) (M : Mem) (a1 : Int32) {x : Int32 ⊕ Nat} {MZ : Mem} (hf : f_X7_waitingIn M a1 = some (x, MZ)) : vx_Met l yX7_waitingIn (WS yX7_waitingIn cX7_waitingIn 2 (Option.some Jvm.ClassFile.FieldType.int)) { frames := 7, cells := 1, slots := 6, locals := 111 } (PcM Y M [.ref (YA Y 0 0), .int a1]) (Qxi Y x MZ) (Xx Y x MZ) 1 6 (AZ Y) := by
  refine met_mkx (lv := [(0, .ref (YA Y 0 0)), (1, .int a1)]) [.ref (YA Y 0 0), .int a1] (by decide) rfl rfl (Nat.le_of_ble_eq_true rfl) (fun p e s m below meth c C0 hn9 hH ls hl => ?_)
  have hS : va_S (AZ Y) s.heap s.heap [] := va_S.rf
  obtain ⟨hx, hb, hr, hml, hown, hA, hlocks, hK, hZ⟩ := id C0
  unfold f_X7_waitingIn at hf
  refine lv_iload_n hx hb dX7_waitingIn_0 rfl (lv_at hl 1 rfl) ?_
  refine lv_aload_n hx hb dX7_waitingIn_1 rfl (lv_at hl 0 rfl) ?_
  refine hs_get hx hb (T := TX7) hA inAX7 hown hK hH 0 0 (by decide) 11 rfl rfl 0 (by decide) (hA _ zt_292) rfl rfl dX7_waitingIn_2 ?_
  refine hs_get hx hb (T := TX5) hA inAX5 hown hK hH 1 0 (by decide) 9 rfl rfl 1 (by decide) (hA _ zt_174) rfl rfl dX7_waitingIn_5 ?_
  refine hs_get hx hb (T := TX2) hA inAX2 hown hK hH 2 0 (by decide) 6 rfl rfl 1 (by decide) (hA _ zt_117) rfl rfl dX7_waitingIn_8 ?_
  obtain ⟨yr8, M7, hq6, hf⟩ := bx_o hf
  refine hx_cv (hx_runS C0 hH hS (n := 2) (As := [.int a1, .int (M 2 0 1)]) (rest := []) (c_X7_requireIndex hl9 M a1 (M 2 0 1) hq6) ⟨⟨zt_785, zt_786, zt_1, zt_787⟩, by decide, by decide, by decide +kernel⟩ ⟨rfl, rfl, Nat.le_of_ble_eq_true rfl, Nat.le_of_ble_eq_true rfl⟩ rfl rfl hl.1 (Nat.le_of_ble_eq_true rfl) ⟨Nat.le_of_ble_eq_true rfl, Nat.le_of_ble_eq_true rfl⟩ dX7_waitingIn_11) hS C0 hn9 (by decide) (by decide) (fun k e => by subst e; exact bx_p (HS Y) hf) (fun r8 er8 H locs hH hS => ?_)
  subst er8
  have hf := bx_v hf
  refine lv_aload_n hx hb dX7_waitingIn_14 rfl (lv_at hl 0 rfl) ?_
  refine hs_get hx hb (T := TX7) hA inAX7 hown hK hH 0 0 (by decide) 11 rfl rfl 0 (by decide) (hA _ zt_292) rfl rfl dX7_waitingIn_15 ?_
  refine lv_iload_n hx hb dX7_waitingIn_18 rfl (lv_at hl 1 rfl) ?_
  obtain ⟨r10, hq9, hf⟩ := bd_o hf
  refine hs_ci (hs_runV C0 hH hS (n := 1) (As := [.int a1]) (rest := []) (c_X5_parcelsWaitingIn M7 0 a1 (by decide) hq9) ⟨⟨zt_935, zt_936, zt_937, zt_3, zt_938⟩, rfl, by decide, by decide, by decide +kernel⟩ ⟨rfl, rfl, Nat.le_of_ble_eq_true rfl, Nat.le_of_ble_eq_true rfl⟩ (hs_recv hK hH 1 0 (by decide) 9 rfl rfl) rfl rfl hl.1 (Nat.le_of_ble_eq_true rfl) ⟨Nat.le_of_ble_eq_true rfl, Nat.le_of_ble_eq_true rfl⟩ dX7_waitingIn_19) hS (fun H locs hH hS => ?_)
  cases hf
  exact hx_iret C0 hH hS (by decide) (by decide) dX7_waitingIn_22
def f_X7_existingHour (M : Mem) (a0 : Int32) : Option ((Int32 ⊕ Nat) × Mem) := (if a0 = (2147483647 : Int32) then some (.inr 3, M) else some (.inl a0, M))
set_option maxHeartbeats 4000000 in
set_option maxRecDepth 100000 in
theorem c_X7_existingHour {Y : LY} {l : Launch} (hl9 : l.stackTraces = false) (M : Mem) (a0 : Int32) {x : Int32 ⊕ Nat} {MZ : Mem} (hf : f_X7_existingHour M a0 = some (x, MZ)) : vx_Met l yX7_existingHour (WS yX7_existingHour cX7_existingHour 1 (Option.some Jvm.ClassFile.FieldType.int)) { frames := 6, cells := 1, slots := 6, locals := 90 } (PcM Y M [.int a0]) (Qxi Y x MZ) (Xx Y x MZ) 1 6 (AZ Y) := by
  refine met_mkx (lv := [(0, .int a0)]) [.int a0] (by decide) rfl rfl (Nat.le_of_ble_eq_true rfl) (fun p e s m below meth c C0 hn9 hH ls hl => ?_)
  have hS : va_S (AZ Y) s.heap s.heap [] := va_S.rf
  obtain ⟨hx, hb, hr, hml, hown, hA, hlocks, hK, hZ⟩ := id C0
  unfold f_X7_existingHour at hf
  refine lv_iload_n hx hb dX7_existingHour_0 rfl (lv_at hl 0 rfl) ?_
  refine lv_ldcw (v := (2147483647 : Int32)) hx hb hown (hA _ zt_949) dX7_existingHour_1 ?_
  refine lv_icmp_ne (tgt := 18) hx hb dX7_existingHour_4 (by decide) (fun hc2 => ?_) (fun hc2 => ?_)
  · have hf := if_f hf hc2
    refine lv_iload_n hx hb dX7_existingHour_18 rfl (lv_at hl 0 rfl) ?_
    cases hf
    exact hx_iret C0 hH hS (by decide) (by decide) dX7_existingHour_19
  · have hf := if_t hf hc2
    cases hf
    exact hx_thr3w C0 hl9 hn9 hH hS hl.1 (is := 361) (text := "the place cannot be reached") (by decide +kernel) dX7_existingHour_7 dX7_existingHour_10 dX7_existingHour_11 dX7_existingHour_14 dX7_existingHour_17 ⟨by decide, Nat.le_of_ble_eq_true rfl, by decide, by decide⟩ (by decide) (by decide)
def f_X7_earliestArrival (M : Mem) (a1 : Int32) (a2 : Int32) (a3 : Int32) : Option ((Int32 ⊕ Nat) × Mem) := bx (f_X7_requireIndex M a1 (M 2 0 1)) fun (r18 : Unit) (M17 : Mem) => bx (f_X7_requireIndex M17 a2 (M17 2 0 1)) fun (r21 : Unit) (M20 : Mem) => bx (f_X7_requireAskedHour M20 a3) fun (r24 : Unit) (M23 : Mem) => bd2 (f_X6_arrivalBySettling M23 0 a1 a2 a3) fun r27 M26 => bx (f_X7_existingHour M26 r27) fun (r30 : Int32) (M29 : Mem) => some (.inl r30, M29)
set_option maxHeartbeats 4000000 in
set_option maxRecDepth 100000 in
theorem c_X7_earliestArrival {Y : LY} {l : Launch} (hl9 : l.stackTraces = false) (M : Mem) (a1 : Int32) (a2 : Int32) (a3 : Int32) {x : Int32 ⊕ Nat} {MZ : Mem} (hf : f_X7_earliestArrival M a1 a2 a3 = some (x, MZ)) : vx_Met l yX7_earliestArrival (WS yX7_earliestArrival cX7_earliestArrival 4 (Option.some Jvm.ClassFile.FieldType.int)) { frames := 8, cells := 4, slots := 24, locals := 132 } (PcM Y M [.ref (YA Y 0 0), .int a1, .int a2, .int a3]) (Qxi Y x MZ) (Xx Y x MZ) 4 24 (AZ Y) := by
  refine met_mkx (lv := [(0, .ref (YA Y 0 0)), (1, .int a1), (2, .int a2), (3, .int a3)]) [.ref (YA Y 0 0), .int a1, .int a2, .int a3] (by decide) rfl rfl (Nat.le_of_ble_eq_true rfl) (fun p e s m below meth c C0 hn9 hH ls hl => ?_)
  have hS : va_S (AZ Y) s.heap s.heap [] := va_S.rf
  obtain ⟨hx, hb, hr, hml, hown, hA, hlocks, hK, hZ⟩ := id C0
  unfold f_X7_earliestArrival at hf
  refine lv_iload_n hx hb dX7_earliestArrival_0 rfl (lv_at hl 1 rfl) ?_
  refine lv_aload_n hx hb dX7_earliestArrival_1 rfl (lv_at hl 0 rfl) ?_
  refine hs_get hx hb (T := TX7) hA inAX7 hown hK hH 0 0 (by decide) 11 rfl rfl 0 (by decide) (hA _ zt_292) rfl rfl dX7_earliestArrival_2 ?_
  refine hs_get hx hb (T := TX5) hA inAX5 hown hK hH 1 0 (by decide) 9 rfl rfl 1 (by decide) (hA _ zt_174) rfl rfl dX7_earliestArrival_5 ?_
  refine hs_get hx hb (T := TX2) hA inAX2 hown hK hH 2 0 (by decide) 6 rfl rfl 1 (by decide) (hA _ zt_117) rfl rfl dX7_earliestArrival_8 ?_
  obtain ⟨yr18, M17, hq16, hf⟩ := bx_o hf
  refine hx_cv (hx_runS C0 hH hS (n := 2) (As := [.int a1, .int (M 2 0 1)]) (rest := []) (c_X7_requireIndex hl9 M a1 (M 2 0 1) hq16) ⟨⟨zt_785, zt_786, zt_1, zt_787⟩, by decide, by decide, by decide +kernel⟩ ⟨rfl, rfl, Nat.le_of_ble_eq_true rfl, Nat.le_of_ble_eq_true rfl⟩ rfl rfl hl.1 (Nat.le_of_ble_eq_true rfl) ⟨Nat.le_of_ble_eq_true rfl, Nat.le_of_ble_eq_true rfl⟩ dX7_earliestArrival_11) hS C0 hn9 (by decide) (by decide) (fun k e => by subst e; exact bx_p (HS Y) hf) (fun r18 er18 H locs hH hS => ?_)
  subst er18
  have hf := bx_v hf
  refine lv_iload_n hx hb dX7_earliestArrival_14 rfl (lv_at hl 2 rfl) ?_
  refine lv_aload_n hx hb dX7_earliestArrival_15 rfl (lv_at hl 0 rfl) ?_
  refine hs_get hx hb (T := TX7) hA inAX7 hown hK hH 0 0 (by decide) 11 rfl rfl 0 (by decide) (hA _ zt_292) rfl rfl dX7_earliestArrival_16 ?_
  refine hs_get hx hb (T := TX5) hA inAX5 hown hK hH 1 0 (by decide) 9 rfl rfl 1 (by decide) (hA _ zt_174) rfl rfl dX7_earliestArrival_19 ?_
  refine hs_get hx hb (T := TX2) hA inAX2 hown hK hH 2 0 (by decide) 6 rfl rfl 1 (by decide) (hA _ zt_117) rfl rfl dX7_earliestArrival_22 ?_
  obtain ⟨yr21, M20, hq19, hf⟩ := bx_o hf
  refine hx_cv (hx_runS C0 hH hS (n := 2) (As := [.int a2, .int (M17 2 0 1)]) (rest := []) (c_X7_requireIndex hl9 M17 a2 (M17 2 0 1) hq19) ⟨⟨zt_785, zt_786, zt_1, zt_787⟩, by decide, by decide, by decide +kernel⟩ ⟨rfl, rfl, Nat.le_of_ble_eq_true rfl, Nat.le_of_ble_eq_true rfl⟩ rfl rfl hl.1 (Nat.le_of_ble_eq_true rfl) ⟨Nat.le_of_ble_eq_true rfl, Nat.le_of_ble_eq_true rfl⟩ dX7_earliestArrival_25) hS C0 hn9 (by decide) (by decide) (fun k e => by subst e; exact bx_p (HS Y) hf) (fun r21 er21 H locs hH hS => ?_)
  subst er21
  have hf := bx_v hf
  refine lv_iload_n hx hb dX7_earliestArrival_28 rfl (lv_at hl 3 rfl) ?_
  obtain ⟨yr24, M23, hq22, hf⟩ := bx_o hf
  refine hx_cv (hx_runS C0 hH hS (n := 1) (As := [.int a3]) (rest := []) (c_X7_requireAskedHour hl9 M20 a3 hq22) ⟨⟨zt_817, zt_818, zt_1, zt_819⟩, by decide, by decide, by decide +kernel⟩ ⟨rfl, rfl, Nat.le_of_ble_eq_true rfl, Nat.le_of_ble_eq_true rfl⟩ rfl rfl hl.1 (Nat.le_of_ble_eq_true rfl) ⟨Nat.le_of_ble_eq_true rfl, Nat.le_of_ble_eq_true rfl⟩ dX7_earliestArrival_29) hS C0 hn9 (by decide) (by decide) (fun k e => by subst e; exact bx_p (HS Y) hf) (fun r24 er24 H locs hH hS => ?_)
  subst er24
  have hf := bx_v hf
  refine lv_aload_n hx hb dX7_earliestArrival_32 rfl (lv_at hl 0 rfl) ?_
  refine hs_get hx hb (T := TX7) hA inAX7 hown hK hH 0 0 (by decide) 11 rfl rfl 4 (by decide) (hA _ zt_296) rfl rfl dX7_earliestArrival_33 ?_
  refine lv_aload_n hx hb dX7_earliestArrival_36 rfl (lv_at hl 0 rfl) ?_
  refine hs_get hx hb (T := TX7) hA inAX7 hown hK hH 0 0 (by decide) 11 rfl rfl 0 (by decide) (hA _ zt_292) rfl rfl dX7_earliestArrival_37 ?_
  refine hs_get hx hb (T := TX5) hA inAX5 hown hK hH 1 0 (by decide) 9 rfl rfl 1 (by decide) (hA _ zt_174) rfl rfl dX7_earliestArrival_40 ?_
  refine lv_iload_n hx hb dX7_earliestArrival_43 rfl (lv_at hl 1 rfl) ?_
  refine lv_iload_n hx hb dX7_earliestArrival_44 rfl (lv_at hl 2 rfl) ?_
  refine lv_iload_n hx hb dX7_earliestArrival_45 rfl (lv_at hl 3 rfl) ?_
  obtain ⟨r27, M26, hq25, hf⟩ := bd2_o hf
  refine hs_ci (hs_runV C0 hH hS (n := 4) (As := [.ref (YA Y 2 0), .int a1, .int a2, .int a3]) (rest := []) (c_X6_arrivalBySettling M23 0 a1 a2 a3 (by decide) hq25) ⟨⟨zt_664, zt_592, zt_593, zt_2, zt_594⟩, rfl, by decide, by decide, by decide +kernel⟩ ⟨rfl, rfl, Nat.le_of_ble_eq_true rfl, Nat.le_of_ble_eq_true rfl⟩ (hs_recv hK hH 7 0 (by decide) 10 rfl rfl) rfl rfl hl.1 (Nat.le_of_ble_eq_true rfl) ⟨Nat.le_of_ble_eq_true rfl, Nat.le_of_ble_eq_true rfl⟩ dX7_earliestArrival_46) hS (fun H locs hH hS => ?_)
  obtain ⟨yr30, M29, hq28, hf⟩ := bx_o hf
  refine hx_ci (hx_runS C0 hH hS (n := 1) (As := [.int r27]) (rest := []) (c_X7_existingHour hl9 M26 r27 hq28) ⟨⟨zt_946, zt_947, zt_1, zt_948⟩, by decide, by decide, by decide +kernel⟩ ⟨rfl, rfl, Nat.le_of_ble_eq_true rfl, Nat.le_of_ble_eq_true rfl⟩ rfl rfl hl.1 (Nat.le_of_ble_eq_true rfl) ⟨Nat.le_of_ble_eq_true rfl, Nat.le_of_ble_eq_true rfl⟩ dX7_earliestArrival_49) hS C0 hn9 (by decide) (by decide) (fun k e => by subst e; exact bx_p (HS Y) hf) (fun r30 er30 H locs hH hS => ?_)
  subst er30
  have hf := bx_v hf
  cases hf
  exact hx_iret C0 hH hS (by decide) (by decide) dX7_earliestArrival_52
def f_X7_earliestArrivalByHours (M : Mem) (a1 : Int32) (a2 : Int32) (a3 : Int32) : Option ((Int32 ⊕ Nat) × Mem) := bx (f_X7_requireIndex M a1 (M 2 0 1)) fun (r18 : Unit) (M17 : Mem) => bx (f_X7_requireIndex M17 a2 (M17 2 0 1)) fun (r21 : Unit) (M20 : Mem) => bx (f_X7_requireAskedHour M20 a3) fun (r24 : Unit) (M23 : Mem) => bd2 (f_X6_arrivalHourByHour M23 0 a1 a2 a3) fun r27 M26 => bx (f_X7_existingHour M26 r27) fun (r30 : Int32) (M29 : Mem) => some (.inl r30, M29)
set_option maxHeartbeats 4000000 in
set_option maxRecDepth 100000 in
theorem c_X7_earliestArrivalByHours {Y : LY} {l : Launch} (hl9 : l.stackTraces = false) (M : Mem) (a1 : Int32) (a2 : Int32) (a3 : Int32) {x : Int32 ⊕ Nat} {MZ : Mem} (hf : f_X7_earliestArrivalByHours M a1 a2 a3 = some (x, MZ)) : vx_Met l yX7_earliestArrivalByHours (WS yX7_earliestArrivalByHours cX7_earliestArrivalByHours 4 (Option.some Jvm.ClassFile.FieldType.int)) { frames := 8, cells := 4, slots := 24, locals := 132 } (PcM Y M [.ref (YA Y 0 0), .int a1, .int a2, .int a3]) (Qxi Y x MZ) (Xx Y x MZ) 4 24 (AZ Y) := by
  refine met_mkx (lv := [(0, .ref (YA Y 0 0)), (1, .int a1), (2, .int a2), (3, .int a3)]) [.ref (YA Y 0 0), .int a1, .int a2, .int a3] (by decide) rfl rfl (Nat.le_of_ble_eq_true rfl) (fun p e s m below meth c C0 hn9 hH ls hl => ?_)
  have hS : va_S (AZ Y) s.heap s.heap [] := va_S.rf
  obtain ⟨hx, hb, hr, hml, hown, hA, hlocks, hK, hZ⟩ := id C0
  unfold f_X7_earliestArrivalByHours at hf
  refine lv_iload_n hx hb dX7_earliestArrivalByHours_0 rfl (lv_at hl 1 rfl) ?_
  refine lv_aload_n hx hb dX7_earliestArrivalByHours_1 rfl (lv_at hl 0 rfl) ?_
  refine hs_get hx hb (T := TX7) hA inAX7 hown hK hH 0 0 (by decide) 11 rfl rfl 0 (by decide) (hA _ zt_292) rfl rfl dX7_earliestArrivalByHours_2 ?_
  refine hs_get hx hb (T := TX5) hA inAX5 hown hK hH 1 0 (by decide) 9 rfl rfl 1 (by decide) (hA _ zt_174) rfl rfl dX7_earliestArrivalByHours_5 ?_
  refine hs_get hx hb (T := TX2) hA inAX2 hown hK hH 2 0 (by decide) 6 rfl rfl 1 (by decide) (hA _ zt_117) rfl rfl dX7_earliestArrivalByHours_8 ?_
  obtain ⟨yr18, M17, hq16, hf⟩ := bx_o hf
  refine hx_cv (hx_runS C0 hH hS (n := 2) (As := [.int a1, .int (M 2 0 1)]) (rest := []) (c_X7_requireIndex hl9 M a1 (M 2 0 1) hq16) ⟨⟨zt_785, zt_786, zt_1, zt_787⟩, by decide, by decide, by decide +kernel⟩ ⟨rfl, rfl, Nat.le_of_ble_eq_true rfl, Nat.le_of_ble_eq_true rfl⟩ rfl rfl hl.1 (Nat.le_of_ble_eq_true rfl) ⟨Nat.le_of_ble_eq_true rfl, Nat.le_of_ble_eq_true rfl⟩ dX7_earliestArrivalByHours_11) hS C0 hn9 (by decide) (by decide) (fun k e => by subst e; exact bx_p (HS Y) hf) (fun r18 er18 H locs hH hS => ?_)
  subst er18
  have hf := bx_v hf
  refine lv_iload_n hx hb dX7_earliestArrivalByHours_14 rfl (lv_at hl 2 rfl) ?_
  refine lv_aload_n hx hb dX7_earliestArrivalByHours_15 rfl (lv_at hl 0 rfl) ?_
  refine hs_get hx hb (T := TX7) hA inAX7 hown hK hH 0 0 (by decide) 11 rfl rfl 0 (by decide) (hA _ zt_292) rfl rfl dX7_earliestArrivalByHours_16 ?_
  refine hs_get hx hb (T := TX5) hA inAX5 hown hK hH 1 0 (by decide) 9 rfl rfl 1 (by decide) (hA _ zt_174) rfl rfl dX7_earliestArrivalByHours_19 ?_
  refine hs_get hx hb (T := TX2) hA inAX2 hown hK hH 2 0 (by decide) 6 rfl rfl 1 (by decide) (hA _ zt_117) rfl rfl dX7_earliestArrivalByHours_22 ?_
  obtain ⟨yr21, M20, hq19, hf⟩ := bx_o hf
  refine hx_cv (hx_runS C0 hH hS (n := 2) (As := [.int a2, .int (M17 2 0 1)]) (rest := []) (c_X7_requireIndex hl9 M17 a2 (M17 2 0 1) hq19) ⟨⟨zt_785, zt_786, zt_1, zt_787⟩, by decide, by decide, by decide +kernel⟩ ⟨rfl, rfl, Nat.le_of_ble_eq_true rfl, Nat.le_of_ble_eq_true rfl⟩ rfl rfl hl.1 (Nat.le_of_ble_eq_true rfl) ⟨Nat.le_of_ble_eq_true rfl, Nat.le_of_ble_eq_true rfl⟩ dX7_earliestArrivalByHours_25) hS C0 hn9 (by decide) (by decide) (fun k e => by subst e; exact bx_p (HS Y) hf) (fun r21 er21 H locs hH hS => ?_)
  subst er21
  have hf := bx_v hf
  refine lv_iload_n hx hb dX7_earliestArrivalByHours_28 rfl (lv_at hl 3 rfl) ?_
  obtain ⟨yr24, M23, hq22, hf⟩ := bx_o hf
  refine hx_cv (hx_runS C0 hH hS (n := 1) (As := [.int a3]) (rest := []) (c_X7_requireAskedHour hl9 M20 a3 hq22) ⟨⟨zt_817, zt_818, zt_1, zt_819⟩, by decide, by decide, by decide +kernel⟩ ⟨rfl, rfl, Nat.le_of_ble_eq_true rfl, Nat.le_of_ble_eq_true rfl⟩ rfl rfl hl.1 (Nat.le_of_ble_eq_true rfl) ⟨Nat.le_of_ble_eq_true rfl, Nat.le_of_ble_eq_true rfl⟩ dX7_earliestArrivalByHours_29) hS C0 hn9 (by decide) (by decide) (fun k e => by subst e; exact bx_p (HS Y) hf) (fun r24 er24 H locs hH hS => ?_)
  subst er24
  have hf := bx_v hf
  refine lv_aload_n hx hb dX7_earliestArrivalByHours_32 rfl (lv_at hl 0 rfl) ?_
  refine hs_get hx hb (T := TX7) hA inAX7 hown hK hH 0 0 (by decide) 11 rfl rfl 4 (by decide) (hA _ zt_296) rfl rfl dX7_earliestArrivalByHours_33 ?_
  refine lv_aload_n hx hb dX7_earliestArrivalByHours_36 rfl (lv_at hl 0 rfl) ?_
  refine hs_get hx hb (T := TX7) hA inAX7 hown hK hH 0 0 (by decide) 11 rfl rfl 0 (by decide) (hA _ zt_292) rfl rfl dX7_earliestArrivalByHours_37 ?_
  refine hs_get hx hb (T := TX5) hA inAX5 hown hK hH 1 0 (by decide) 9 rfl rfl 1 (by decide) (hA _ zt_174) rfl rfl dX7_earliestArrivalByHours_40 ?_
  refine lv_iload_n hx hb dX7_earliestArrivalByHours_43 rfl (lv_at hl 1 rfl) ?_
  refine lv_iload_n hx hb dX7_earliestArrivalByHours_44 rfl (lv_at hl 2 rfl) ?_
  refine lv_iload_n hx hb dX7_earliestArrivalByHours_45 rfl (lv_at hl 3 rfl) ?_
  obtain ⟨r27, M26, hq25, hf⟩ := bd2_o hf
  refine hs_ci (hs_runV C0 hH hS (n := 4) (As := [.ref (YA Y 2 0), .int a1, .int a2, .int a3]) (rest := []) (c_X6_arrivalHourByHour M23 0 a1 a2 a3 (by decide) hq25) ⟨⟨zt_665, zt_666, zt_667, zt_2, zt_668⟩, rfl, by decide, by decide, by decide +kernel⟩ ⟨rfl, rfl, Nat.le_of_ble_eq_true rfl, Nat.le_of_ble_eq_true rfl⟩ (hs_recv hK hH 7 0 (by decide) 10 rfl rfl) rfl rfl hl.1 (Nat.le_of_ble_eq_true rfl) ⟨Nat.le_of_ble_eq_true rfl, Nat.le_of_ble_eq_true rfl⟩ dX7_earliestArrivalByHours_46) hS (fun H locs hH hS => ?_)
  obtain ⟨yr30, M29, hq28, hf⟩ := bx_o hf
  refine hx_ci (hx_runS C0 hH hS (n := 1) (As := [.int r27]) (rest := []) (c_X7_existingHour hl9 M26 r27 hq28) ⟨⟨zt_946, zt_947, zt_1, zt_948⟩, by decide, by decide, by decide +kernel⟩ ⟨rfl, rfl, Nat.le_of_ble_eq_true rfl, Nat.le_of_ble_eq_true rfl⟩ rfl rfl hl.1 (Nat.le_of_ble_eq_true rfl) ⟨Nat.le_of_ble_eq_true rfl, Nat.le_of_ble_eq_true rfl⟩ dX7_earliestArrivalByHours_49) hS C0 hn9 (by decide) (by decide) (fun k e => by subst e; exact bx_p (HS Y) hf) (fun r30 er30 H locs hH hS => ?_)
  subst er30
  have hf := bx_v hf
  cases hf
  exact hx_iret C0 hH hS (by decide) (by decide) dX7_earliestArrivalByHours_52
def f_X7_existingSteps (M : Mem) (a0 : Int32) : Option ((Int32 ⊕ Nat) × Mem) := (if a0 = (-1 : Int32) then some (.inr 3, M) else some (.inl a0, M))
set_option maxHeartbeats 4000000 in
set_option maxRecDepth 100000 in
theorem c_X7_existingSteps {Y : LY} {l : Launch} (hl9 : l.stackTraces = false) (M : Mem) (a0 : Int32) {x : Int32 ⊕ Nat} {MZ : Mem} (hf : f_X7_existingSteps M a0 = some (x, MZ)) : vx_Met l yX7_existingSteps (WS yX7_existingSteps cX7_existingSteps 1 (Option.some Jvm.ClassFile.FieldType.int)) { frames := 6, cells := 1, slots := 6, locals := 90 } (PcM Y M [.int a0]) (Qxi Y x MZ) (Xx Y x MZ) 1 6 (AZ Y) := by
  refine met_mkx (lv := [(0, .int a0)]) [.int a0] (by decide) rfl rfl (Nat.le_of_ble_eq_true rfl) (fun p e s m below meth c C0 hn9 hH ls hl => ?_)
  have hS : va_S (AZ Y) s.heap s.heap [] := va_S.rf
  obtain ⟨hx, hb, hr, hml, hown, hA, hlocks, hK, hZ⟩ := id C0
  unfold f_X7_existingSteps at hf
  refine lv_iload_n hx hb dX7_existingSteps_0 rfl (lv_at hl 0 rfl) ?_
  refine lv_iconst (v := (-1 : Int32)) hx hb dX7_existingSteps_1 (by decide) ?_
  refine lv_icmp_ne (tgt := 16) hx hb dX7_existingSteps_2 (by decide) (fun hc2 => ?_) (fun hc2 => ?_)
  · have hf := if_f hf hc2
    refine lv_iload_n hx hb dX7_existingSteps_16 rfl (lv_at hl 0 rfl) ?_
    cases hf
    exact hx_iret C0 hH hS (by decide) (by decide) dX7_existingSteps_17
  · have hf := if_t hf hc2
    cases hf
    exact hx_thr3w C0 hl9 hn9 hH hS hl.1 (is := 361) (text := "the place cannot be reached") (by decide +kernel) dX7_existingSteps_5 dX7_existingSteps_8 dX7_existingSteps_9 dX7_existingSteps_12 dX7_existingSteps_15 ⟨by decide, Nat.le_of_ble_eq_true rfl, by decide, by decide⟩ (by decide) (by decide)
def f_X7_fewestLinks (M : Mem) (a1 : Int32) (a2 : Int32) : Option ((Int32 ⊕ Nat) × Mem) := bx (f_X7_requireIndex M a1 (M 2 0 1)) fun (r15 : Unit) (M14 : Mem) => bx (f_X7_requireIndex M14 a2 (M14 2 0 1)) fun (r18 : Unit) (M17 : Mem) => bd2 (f_X6_stepsBetween M17 0 a1 a2) fun r21 M20 => bx (f_X7_existingSteps M20 r21) fun (r24 : Int32) (M23 : Mem) => some (.inl r24, M23)
set_option maxHeartbeats 4000000 in
set_option maxRecDepth 100000 in
theorem c_X7_fewestLinks {Y : LY} {l : Launch} (hl9 : l.stackTraces = false) (M : Mem) (a1 : Int32) (a2 : Int32) {x : Int32 ⊕ Nat} {MZ : Mem} (hf : f_X7_fewestLinks M a1 a2 = some (x, MZ)) : vx_Met l yX7_fewestLinks (WS yX7_fewestLinks cX7_fewestLinks 3 (Option.some Jvm.ClassFile.FieldType.int)) { frames := 7, cells := 3, slots := 18, locals := 111 } (PcM Y M [.ref (YA Y 0 0), .int a1, .int a2]) (Qxi Y x MZ) (Xx Y x MZ) 3 18 (AZ Y) := by
  refine met_mkx (lv := [(0, .ref (YA Y 0 0)), (1, .int a1), (2, .int a2)]) [.ref (YA Y 0 0), .int a1, .int a2] (by decide) rfl rfl (Nat.le_of_ble_eq_true rfl) (fun p e s m below meth c C0 hn9 hH ls hl => ?_)
  have hS : va_S (AZ Y) s.heap s.heap [] := va_S.rf
  obtain ⟨hx, hb, hr, hml, hown, hA, hlocks, hK, hZ⟩ := id C0
  unfold f_X7_fewestLinks at hf
  refine lv_iload_n hx hb dX7_fewestLinks_0 rfl (lv_at hl 1 rfl) ?_
  refine lv_aload_n hx hb dX7_fewestLinks_1 rfl (lv_at hl 0 rfl) ?_
  refine hs_get hx hb (T := TX7) hA inAX7 hown hK hH 0 0 (by decide) 11 rfl rfl 0 (by decide) (hA _ zt_292) rfl rfl dX7_fewestLinks_2 ?_
  refine hs_get hx hb (T := TX5) hA inAX5 hown hK hH 1 0 (by decide) 9 rfl rfl 1 (by decide) (hA _ zt_174) rfl rfl dX7_fewestLinks_5 ?_
  refine hs_get hx hb (T := TX2) hA inAX2 hown hK hH 2 0 (by decide) 6 rfl rfl 1 (by decide) (hA _ zt_117) rfl rfl dX7_fewestLinks_8 ?_
  obtain ⟨yr15, M14, hq13, hf⟩ := bx_o hf
  refine hx_cv (hx_runS C0 hH hS (n := 2) (As := [.int a1, .int (M 2 0 1)]) (rest := []) (c_X7_requireIndex hl9 M a1 (M 2 0 1) hq13) ⟨⟨zt_785, zt_786, zt_1, zt_787⟩, by decide, by decide, by decide +kernel⟩ ⟨rfl, rfl, Nat.le_of_ble_eq_true rfl, Nat.le_of_ble_eq_true rfl⟩ rfl rfl hl.1 (Nat.le_of_ble_eq_true rfl) ⟨Nat.le_of_ble_eq_true rfl, Nat.le_of_ble_eq_true rfl⟩ dX7_fewestLinks_11) hS C0 hn9 (by decide) (by decide) (fun k e => by subst e; exact bx_p (HS Y) hf) (fun r15 er15 H locs hH hS => ?_)
  subst er15
  have hf := bx_v hf
  refine lv_iload_n hx hb dX7_fewestLinks_14 rfl (lv_at hl 2 rfl) ?_
  refine lv_aload_n hx hb dX7_fewestLinks_15 rfl (lv_at hl 0 rfl) ?_
  refine hs_get hx hb (T := TX7) hA inAX7 hown hK hH 0 0 (by decide) 11 rfl rfl 0 (by decide) (hA _ zt_292) rfl rfl dX7_fewestLinks_16 ?_
  refine hs_get hx hb (T := TX5) hA inAX5 hown hK hH 1 0 (by decide) 9 rfl rfl 1 (by decide) (hA _ zt_174) rfl rfl dX7_fewestLinks_19 ?_
  refine hs_get hx hb (T := TX2) hA inAX2 hown hK hH 2 0 (by decide) 6 rfl rfl 1 (by decide) (hA _ zt_117) rfl rfl dX7_fewestLinks_22 ?_
  obtain ⟨yr18, M17, hq16, hf⟩ := bx_o hf
  refine hx_cv (hx_runS C0 hH hS (n := 2) (As := [.int a2, .int (M14 2 0 1)]) (rest := []) (c_X7_requireIndex hl9 M14 a2 (M14 2 0 1) hq16) ⟨⟨zt_785, zt_786, zt_1, zt_787⟩, by decide, by decide, by decide +kernel⟩ ⟨rfl, rfl, Nat.le_of_ble_eq_true rfl, Nat.le_of_ble_eq_true rfl⟩ rfl rfl hl.1 (Nat.le_of_ble_eq_true rfl) ⟨Nat.le_of_ble_eq_true rfl, Nat.le_of_ble_eq_true rfl⟩ dX7_fewestLinks_25) hS C0 hn9 (by decide) (by decide) (fun k e => by subst e; exact bx_p (HS Y) hf) (fun r18 er18 H locs hH hS => ?_)
  subst er18
  have hf := bx_v hf
  refine lv_aload_n hx hb dX7_fewestLinks_28 rfl (lv_at hl 0 rfl) ?_
  refine hs_get hx hb (T := TX7) hA inAX7 hown hK hH 0 0 (by decide) 11 rfl rfl 4 (by decide) (hA _ zt_296) rfl rfl dX7_fewestLinks_29 ?_
  refine lv_aload_n hx hb dX7_fewestLinks_32 rfl (lv_at hl 0 rfl) ?_
  refine hs_get hx hb (T := TX7) hA inAX7 hown hK hH 0 0 (by decide) 11 rfl rfl 0 (by decide) (hA _ zt_292) rfl rfl dX7_fewestLinks_33 ?_
  refine hs_get hx hb (T := TX5) hA inAX5 hown hK hH 1 0 (by decide) 9 rfl rfl 1 (by decide) (hA _ zt_174) rfl rfl dX7_fewestLinks_36 ?_
  refine lv_iload_n hx hb dX7_fewestLinks_39 rfl (lv_at hl 1 rfl) ?_
  refine lv_iload_n hx hb dX7_fewestLinks_40 rfl (lv_at hl 2 rfl) ?_
  obtain ⟨r21, M20, hq19, hf⟩ := bd2_o hf
  refine hs_ci (hs_runV C0 hH hS (n := 3) (As := [.ref (YA Y 2 0), .int a1, .int a2]) (rest := []) (c_X6_stepsBetween M17 0 a1 a2 (by decide) hq19) ⟨⟨zt_965, zt_966, zt_967, zt_2, zt_968⟩, rfl, by decide, by decide, by decide +kernel⟩ ⟨rfl, rfl, Nat.le_of_ble_eq_true rfl, Nat.le_of_ble_eq_true rfl⟩ (hs_recv hK hH 7 0 (by decide) 10 rfl rfl) rfl rfl hl.1 (Nat.le_of_ble_eq_true rfl) ⟨Nat.le_of_ble_eq_true rfl, Nat.le_of_ble_eq_true rfl⟩ dX7_fewestLinks_41) hS (fun H locs hH hS => ?_)
  obtain ⟨yr24, M23, hq22, hf⟩ := bx_o hf
  refine hx_ci (hx_runS C0 hH hS (n := 1) (As := [.int r21]) (rest := []) (c_X7_existingSteps hl9 M20 r21 hq22) ⟨⟨zt_977, zt_978, zt_1, zt_979⟩, by decide, by decide, by decide +kernel⟩ ⟨rfl, rfl, Nat.le_of_ble_eq_true rfl, Nat.le_of_ble_eq_true rfl⟩ rfl rfl hl.1 (Nat.le_of_ble_eq_true rfl) ⟨Nat.le_of_ble_eq_true rfl, Nat.le_of_ble_eq_true rfl⟩ dX7_fewestLinks_44) hS C0 hn9 (by decide) (by decide) (fun k e => by subst e; exact bx_p (HS Y) hf) (fun r24 er24 H locs hH hS => ?_)
  subst er24
  have hf := bx_v hf
  cases hf
  exact hx_iret C0 hH hS (by decide) (by decide) dX7_fewestLinks_47
def f_X7_reachable (M : Mem) (a1 : Int32) : Option ((Int32 ⊕ Nat) × Mem) := bx (f_X7_requireIndex M a1 (M 2 0 1)) fun (r9 : Unit) (M8 : Mem) => bd2 (f_X6_spreadFrom M8 0 a1) fun r12 M11 => some (.inl r12, M11)
set_option maxHeartbeats 4000000 in
set_option maxRecDepth 100000 in
theorem c_X7_reachable {Y : LY} {l : Launch} (hl9 : l.stackTraces = false) (M : Mem) (a1 : Int32) {x : Int32 ⊕ Nat} {MZ : Mem} (hf : f_X7_reachable M a1 = some (x, MZ)) : vx_Met l yX7_reachable (WS yX7_reachable cX7_reachable 2 (Option.some Jvm.ClassFile.FieldType.int)) { frames := 7, cells := 1, slots := 6, locals := 111 } (PcM Y M [.ref (YA Y 0 0), .int a1]) (Qxi Y x MZ) (Xx Y x MZ) 1 6 (AZ Y) := by
  refine met_mkx (lv := [(0, .ref (YA Y 0 0)), (1, .int a1)]) [.ref (YA Y 0 0), .int a1] (by decide) rfl rfl (Nat.le_of_ble_eq_true rfl) (fun p e s m below meth c C0 hn9 hH ls hl => ?_)
  have hS : va_S (AZ Y) s.heap s.heap [] := va_S.rf
  obtain ⟨hx, hb, hr, hml, hown, hA, hlocks, hK, hZ⟩ := id C0
  unfold f_X7_reachable at hf
  refine lv_iload_n hx hb dX7_reachable_0 rfl (lv_at hl 1 rfl) ?_
  refine lv_aload_n hx hb dX7_reachable_1 rfl (lv_at hl 0 rfl) ?_
  refine hs_get hx hb (T := TX7) hA inAX7 hown hK hH 0 0 (by decide) 11 rfl rfl 0 (by decide) (hA _ zt_292) rfl rfl dX7_reachable_2 ?_
  refine hs_get hx hb (T := TX5) hA inAX5 hown hK hH 1 0 (by decide) 9 rfl rfl 1 (by decide) (hA _ zt_174) rfl rfl dX7_reachable_5 ?_
  refine hs_get hx hb (T := TX2) hA inAX2 hown hK hH 2 0 (by decide) 6 rfl rfl 1 (by decide) (hA _ zt_117) rfl rfl dX7_reachable_8 ?_
  obtain ⟨yr9, M8, hq7, hf⟩ := bx_o hf
  refine hx_cv (hx_runS C0 hH hS (n := 2) (As := [.int a1, .int (M 2 0 1)]) (rest := []) (c_X7_requireIndex hl9 M a1 (M 2 0 1) hq7) ⟨⟨zt_785, zt_786, zt_1, zt_787⟩, by decide, by decide, by decide +kernel⟩ ⟨rfl, rfl, Nat.le_of_ble_eq_true rfl, Nat.le_of_ble_eq_true rfl⟩ rfl rfl hl.1 (Nat.le_of_ble_eq_true rfl) ⟨Nat.le_of_ble_eq_true rfl, Nat.le_of_ble_eq_true rfl⟩ dX7_reachable_11) hS C0 hn9 (by decide) (by decide) (fun k e => by subst e; exact bx_p (HS Y) hf) (fun r9 er9 H locs hH hS => ?_)
  subst er9
  have hf := bx_v hf
  refine lv_aload_n hx hb dX7_reachable_14 rfl (lv_at hl 0 rfl) ?_
  refine hs_get hx hb (T := TX7) hA inAX7 hown hK hH 0 0 (by decide) 11 rfl rfl 4 (by decide) (hA _ zt_296) rfl rfl dX7_reachable_15 ?_
  refine lv_aload_n hx hb dX7_reachable_18 rfl (lv_at hl 0 rfl) ?_
  refine hs_get hx hb (T := TX7) hA inAX7 hown hK hH 0 0 (by decide) 11 rfl rfl 0 (by decide) (hA _ zt_292) rfl rfl dX7_reachable_19 ?_
  refine hs_get hx hb (T := TX5) hA inAX5 hown hK hH 1 0 (by decide) 9 rfl rfl 1 (by decide) (hA _ zt_174) rfl rfl dX7_reachable_22 ?_
  refine lv_iload_n hx hb dX7_reachable_25 rfl (lv_at hl 1 rfl) ?_
  obtain ⟨r12, M11, hq10, hf⟩ := bd2_o hf
  refine hs_ci (hs_runV C0 hH hS (n := 2) (As := [.ref (YA Y 2 0), .int a1]) (rest := []) (c_X6_spreadFrom M8 0 a1 (by decide) hq10) ⟨⟨zt_987, zt_970, zt_971, zt_2, zt_972⟩, rfl, by decide, by decide, by decide +kernel⟩ ⟨rfl, rfl, Nat.le_of_ble_eq_true rfl, Nat.le_of_ble_eq_true rfl⟩ (hs_recv hK hH 7 0 (by decide) 10 rfl rfl) rfl rfl hl.1 (Nat.le_of_ble_eq_true rfl) ⟨Nat.le_of_ble_eq_true rfl, Nat.le_of_ble_eq_true rfl⟩ dX7_reachable_26) hS (fun H locs hH hS => ?_)
  cases hf
  exact hx_iret C0 hH hS (by decide) (by decide) dX7_reachable_29
def f_X7_forecast (M : Mem) (a1 : Int32) : Option ((Int32 ⊕ Nat) × Mem) := bx (f_X7_existingParcel M a1) fun (r12 : Nat) (M11 : Mem) => if r12 < 132 then (bd2 (f_X5_forecastOf M11 0 r12) fun r15 M14 => bx (f_X7_existingHour M14 r15) fun (r18 : Int32) (M17 : Mem) => some (.inl r18, M17)) else none
set_option maxHeartbeats 4000000 in
set_option maxRecDepth 100000 in
theorem c_X7_forecast {Y : LY} {l : Launch} (hl9 : l.stackTraces = false) (M : Mem) (a1 : Int32) {x : Int32 ⊕ Nat} {MZ : Mem} (hf : f_X7_forecast M a1 = some (x, MZ)) : vx_Met l yX7_forecast (WS yX7_forecast cX7_forecast 2 (Option.some Jvm.ClassFile.FieldType.int)) { frames := 7, cells := 2, slots := 12, locals := 112 } (PcM Y M [.ref (YA Y 0 0), .int a1]) (Qxi Y x MZ) (Xx Y x MZ) 2 12 (AZ Y) := by
  refine met_mkx (lv := [(0, .ref (YA Y 0 0)), (1, .int a1)]) [.ref (YA Y 0 0), .int a1] (by decide) rfl rfl (Nat.le_of_ble_eq_true rfl) (fun p e s m below meth c C0 hn9 hH ls hl => ?_)
  have hS : va_S (AZ Y) s.heap s.heap [] := va_S.rf
  obtain ⟨hx, hb, hr, hml, hown, hA, hlocks, hK, hZ⟩ := id C0
  unfold f_X7_forecast at hf
  refine lv_aload_n hx hb dX7_forecast_0 rfl (lv_at hl 0 rfl) ?_
  refine hs_get hx hb (T := TX7) hA inAX7 hown hK hH 0 0 (by decide) 11 rfl rfl 0 (by decide) (hA _ zt_292) rfl rfl dX7_forecast_1 ?_
  refine lv_aload_n hx hb dX7_forecast_4 rfl (lv_at hl 0 rfl) ?_
  refine lv_iload_n hx hb dX7_forecast_5 rfl (lv_at hl 1 rfl) ?_
  obtain ⟨yr12, M11, hq10, hf⟩ := bx_o hf
  refine hx_cr (hx_runV C0 hH hS (n := 1) (As := [.int a1]) (rest := [.ref (YA Y 1 0)]) (c_X7_existingParcel hl9 M a1 hq10) ⟨⟨zt_870, zt_872, zs_22, zt_1, zt_873⟩, rfl, by decide, by decide, by decide +kernel⟩ ⟨rfl, rfl, Nat.le_of_ble_eq_true rfl, Nat.le_of_ble_eq_true rfl⟩ (hs_recv hK hH 0 0 (by decide) 11 rfl rfl) rfl rfl hl.1 (Nat.le_of_ble_eq_true rfl) ⟨Nat.le_of_ble_eq_true rfl, Nat.le_of_ble_eq_true rfl⟩ dX7_forecast_6) hS C0 hn9 (by decide) (by decide) (fun k e => by subst e; exact bx_p (HS Y) hf) (fun r12 er12 H locs hH hS => ?_)
  subst er12
  have hf := bx_v hf
  obtain ⟨hr12, hf⟩ := gd_o hf
  obtain ⟨r15, M14, hq13, hf⟩ := bd2_o hf
  refine hs_ci (hs_runV C0 hH hS (n := 1) (As := [.ref (YA Y 6 r12)]) (rest := []) (c_X5_forecastOf M11 0 r12 (by decide) (show r12 < 132 from by omega) hq13) ⟨⟨zt_995, zt_996, zt_997, zt_3, zt_998⟩, rfl, by decide, by decide, by decide +kernel⟩ ⟨rfl, rfl, Nat.le_of_ble_eq_true rfl, Nat.le_of_ble_eq_true rfl⟩ (hs_recv hK hH 1 0 (by decide) 9 rfl rfl) rfl rfl hl.1 (Nat.le_of_ble_eq_true rfl) ⟨Nat.le_of_ble_eq_true rfl, Nat.le_of_ble_eq_true rfl⟩ dX7_forecast_9) hS (fun H locs hH hS => ?_)
  obtain ⟨yr18, M17, hq16, hf⟩ := bx_o hf
  refine hx_ci (hx_runS C0 hH hS (n := 1) (As := [.int r15]) (rest := []) (c_X7_existingHour hl9 M14 r15 hq16) ⟨⟨zt_946, zt_947, zt_1, zt_948⟩, by decide, by decide, by decide +kernel⟩ ⟨rfl, rfl, Nat.le_of_ble_eq_true rfl, Nat.le_of_ble_eq_true rfl⟩ rfl rfl hl.1 (Nat.le_of_ble_eq_true rfl) ⟨Nat.le_of_ble_eq_true rfl, Nat.le_of_ble_eq_true rfl⟩ dX7_forecast_12) hS C0 hn9 (by decide) (by decide) (fun k e => by subst e; exact bx_p (HS Y) hf) (fun r18 er18 H locs hH hS => ?_)
  subst er18
  have hf := bx_v hf
  cases hf
  exact hx_iret C0 hH hS (by decide) (by decide) dX7_forecast_15
def f_X7_nextLink (M : Mem) (a1 : Int32) : Option ((Int32 ⊕ Nat) × Mem) := bx (f_X7_waitingParcel M a1) fun (r10 : Nat) (M9 : Mem) => if r10 < 132 then (bd2 (f_X5_nextLinkOf M9 0 r10) fun r13 M12 => (if r13 = (-1 : Int32) then some (.inr 3, M12) else some (.inl r13, M12))) else none
set_option maxHeartbeats 4000000 in
set_option maxRecDepth 100000 in
theorem c_X7_nextLink {Y : LY} {l : Launch} (hl9 : l.stackTraces = false) (M : Mem) (a1 : Int32) {x : Int32 ⊕ Nat} {MZ : Mem} (hf : f_X7_nextLink M a1 = some (x, MZ)) : vx_Met l yX7_nextLink (WS yX7_nextLink cX7_nextLink 3 (Option.some Jvm.ClassFile.FieldType.int)) { frames := 8, cells := 3, slots := 18, locals := 134 } (PcM Y M [.ref (YA Y 0 0), .int a1]) (Qxi Y x MZ) (Xx Y x MZ) 3 18 (AZ Y) := by
  refine met_mkx (lv := [(0, .ref (YA Y 0 0)), (1, .int a1)]) [.ref (YA Y 0 0), .int a1] (by decide) rfl rfl (Nat.le_of_ble_eq_true rfl) (fun p e s m below meth c C0 hn9 hH ls hl => ?_)
  have hS : va_S (AZ Y) s.heap s.heap [] := va_S.rf
  obtain ⟨hx, hb, hr, hml, hown, hA, hlocks, hK, hZ⟩ := id C0
  unfold f_X7_nextLink at hf
  refine lv_aload_n hx hb dX7_nextLink_0 rfl (lv_at hl 0 rfl) ?_
  refine hs_get hx hb (T := TX7) hA inAX7 hown hK hH 0 0 (by decide) 11 rfl rfl 0 (by decide) (hA _ zt_292) rfl rfl dX7_nextLink_1 ?_
  refine lv_aload_n hx hb dX7_nextLink_4 rfl (lv_at hl 0 rfl) ?_
  refine lv_iload_n hx hb dX7_nextLink_5 rfl (lv_at hl 1 rfl) ?_
  obtain ⟨yr10, M9, hq8, hf⟩ := bx_o hf
  refine hx_cr (hx_runV C0 hH hS (n := 1) (As := [.int a1]) (rest := [.ref (YA Y 1 0)]) (c_X7_waitingParcel hl9 M a1 hq8) ⟨⟨zt_883, zt_885, zs_23, zt_1, zt_886⟩, rfl, by decide, by decide, by decide +kernel⟩ ⟨rfl, rfl, Nat.le_of_ble_eq_true rfl, Nat.le_of_ble_eq_true rfl⟩ (hs_recv hK hH 0 0 (by decide) 11 rfl rfl) rfl rfl hl.1 (Nat.le_of_ble_eq_true rfl) ⟨Nat.le_of_ble_eq_true rfl, Nat.le_of_ble_eq_true rfl⟩ dX7_nextLink_6) hS C0 hn9 (by decide) (by decide) (fun k e => by subst e; exact bx_p (HS Y) hf) (fun r10 er10 H locs hH hS => ?_)
  subst er10
  have hf := bx_v hf
  obtain ⟨hr10, hf⟩ := gd_o hf
  obtain ⟨r13, M12, hq11, hf⟩ := bd2_o hf
  refine hs_ci (hs_runV C0 hH hS (n := 1) (As := [.ref (YA Y 6 r10)]) (rest := []) (c_X5_nextLinkOf M9 0 r10 (by decide) (show r10 < 132 from by omega) hq11) ⟨⟨zt_1006, zt_588, zt_589, zt_3, zt_590⟩, rfl, by decide, by decide, by decide +kernel⟩ ⟨rfl, rfl, Nat.le_of_ble_eq_true rfl, Nat.le_of_ble_eq_true rfl⟩ (hs_recv hK hH 1 0 (by decide) 9 rfl rfl) rfl rfl hl.1 (Nat.le_of_ble_eq_true rfl) ⟨Nat.le_of_ble_eq_true rfl, Nat.le_of_ble_eq_true rfl⟩ dX7_nextLink_9) hS (fun H locs hH hS => ?_)
  refine lv_istore_n (lv' := [(2, .int r13), (0, .ref (YA Y 0 0)), (1, .int a1)]) hx hb dX7_nextLink_12 rfl hl (by decide) rfl (fun ls hl => ?_)
  refine lv_iload_n hx hb dX7_nextLink_13 rfl (lv_at hl 0 rfl) ?_
  refine lv_iconst (v := (-1 : Int32)) hx hb dX7_nextLink_14 (by decide) ?_
  refine lv_icmp_ne (tgt := 28) hx hb dX7_nextLink_15 (by decide) (fun hc14 => ?_) (fun hc14 => ?_)
  · have hf := if_f hf hc14
    refine lv_iload_n hx hb dX7_nextLink_28 rfl (lv_at hl 0 rfl) ?_
    cases hf
    exact hx_iret C0 hH hS (by decide) (by decide) dX7_nextLink_29
  · have hf := if_t hf hc14
    cases hf
    exact hx_thr3 C0 hl9 hn9 hH hS hl.1 (is := 207) (text := "the parcel has no next link") (by decide +kernel) dX7_nextLink_18 dX7_nextLink_21 dX7_nextLink_22 dX7_nextLink_24 dX7_nextLink_27 ⟨by decide, Nat.le_of_ble_eq_true rfl, by decide, by decide⟩ (by decide) (by decide)
def f_X7_canSend (M : Mem) (a1 : Int32) (a2 : Int32) : Option ((Int32 ⊕ Nat) × Mem) := bd (f_X5_refusalOf M 0 (5 : Int32) a1 a2 (0 : Int32) (0 : Int32)) fun r8 => (if r8 = (3 : Int32) then some (.inl (0 : Int32), M) else bx (f_X7_throwFor M r8) fun (r11 : Unit) (M10 : Mem) => some (.inl (1 : Int32), M10))
set_option maxHeartbeats 4000000 in
set_option maxRecDepth 100000 in
theorem c_X7_canSend {Y : LY} {l : Launch} (hl9 : l.stackTraces = false) (M : Mem) (a1 : Int32) (a2 : Int32) {x : Int32 ⊕ Nat} {MZ : Mem} (hf : f_X7_canSend M a1 a2 = some (x, MZ)) : vx_Met l yX7_canSend (WS yX7_canSend cX7_canSend 4 (Option.some Jvm.ClassFile.FieldType.boolean)) { frames := 7, cells := 1, slots := 6, locals := 110 } (PcM Y M [.ref (YA Y 0 0), .int a1, .int a2]) (Qxi Y x MZ) (Xx Y x MZ) 1 6 (AZ Y) := by
  refine met_mkx (lv := [(0, .ref (YA Y 0 0)), (1, .int a1), (2, .int a2)]) [.ref (YA Y 0 0), .int a1, .int a2] (by decide) rfl rfl (Nat.le_of_ble_eq_true rfl) (fun p e s m below meth c C0 hn9 hH ls hl => ?_)
  have hS : va_S (AZ Y) s.heap s.heap [] := va_S.rf
  obtain ⟨hx, hb, hr, hml, hown, hA, hlocks, hK, hZ⟩ := id C0
  unfold f_X7_canSend at hf
  refine lv_aload_n hx hb dX7_canSend_0 rfl (lv_at hl 0 rfl) ?_
  refine hs_get hx hb (T := TX7) hA inAX7 hown hK hH 0 0 (by decide) 11 rfl rfl 0 (by decide) (hA _ zt_292) rfl rfl dX7_canSend_1 ?_
  refine lv_iconst (v := (5 : Int32)) hx hb dX7_canSend_4 (by decide) ?_
  refine lv_iload_n hx hb dX7_canSend_5 rfl (lv_at hl 1 rfl) ?_
  refine lv_iload_n hx hb dX7_canSend_6 rfl (lv_at hl 2 rfl) ?_
  refine lv_iconst (v := (0 : Int32)) hx hb dX7_canSend_7 (by decide) ?_
  refine lv_iconst (v := (0 : Int32)) hx hb dX7_canSend_8 (by decide) ?_
  obtain ⟨r8, hq7, hf⟩ := bd_o hf
  refine hs_ci (hs_runV C0 hH hS (n := 5) (As := [.int (5 : Int32), .int a1, .int a2, .int (0 : Int32), .int (0 : Int32)]) (rest := []) (c_X5_refusalOf M 0 (5 : Int32) a1 a2 (0 : Int32) (0 : Int32) (by decide) hq7) ⟨⟨zt_334, zt_335, zt_336, zt_3, zt_337⟩, rfl, by decide, by decide, by decide +kernel⟩ ⟨rfl, rfl, Nat.le_of_ble_eq_true rfl, Nat.le_of_ble_eq_true rfl⟩ (hs_recv hK hH 1 0 (by decide) 9 rfl rfl) rfl rfl hl.1 (Nat.le_of_ble_eq_true rfl) ⟨Nat.le_of_ble_eq_true rfl, Nat.le_of_ble_eq_true rfl⟩ dX7_canSend_9) hS (fun H locs hH hS => ?_)
  refine lv_istore_n (lv' := [(3, .int r8), (0, .ref (YA Y 0 0)), (1, .int a1), (2, .int a2)]) hx hb dX7_canSend_12 rfl hl (by decide) rfl (fun ls hl => ?_)
  refine lv_iload_n hx hb dX7_canSend_13 rfl (lv_at hl 0 rfl) ?_
  refine lv_iconst (v := (3 : Int32)) hx hb dX7_canSend_14 (by decide) ?_
  refine lv_icmp_ne (tgt := 20) hx hb dX7_canSend_15 (by decide) (fun hc12 => ?_) (fun hc12 => ?_)
  · have hf := if_f hf hc12
    refine lv_iload_n hx hb dX7_canSend_20 rfl (lv_at hl 0 rfl) ?_
    obtain ⟨yr11, M10, hq9, hf⟩ := bx_o hf
    refine hx_cv (hx_runS C0 hH hS (n := 1) (As := [.int r8]) (rest := []) (c_X7_throwFor hl9 M r8 hq9) ⟨⟨zt_401, zt_402, zt_1, zt_403⟩, by decide, by decide, by decide +kernel⟩ ⟨rfl, rfl, Nat.le_of_ble_eq_true rfl, Nat.le_of_ble_eq_true rfl⟩ rfl rfl hl.1 (Nat.le_of_ble_eq_true rfl) ⟨Nat.le_of_ble_eq_true rfl, Nat.le_of_ble_eq_true rfl⟩ dX7_canSend_21) hS C0 hn9 (by decide) (by decide) (fun k e => by subst e; exact bx_p (HS Y) hf) (fun r11 er11 H locs hH hS => ?_)
    subst er11
    have hf := bx_v hf
    refine lv_iconst (v := (1 : Int32)) hx hb dX7_canSend_24 (by decide) ?_
    cases hf
    exact hx_zret C0 hH hS (by decide) (by decide) (by decide) dX7_canSend_25
  · have hf := if_t hf hc12
    refine lv_iconst (v := (0 : Int32)) hx hb dX7_canSend_18 (by decide) ?_
    cases hf
    exact hx_zret C0 hH hS (by decide) (by decide) (by decide) dX7_canSend_19
def f_X7_stampsMissing (M : Mem) (a1 : Int32) : Option ((Int32 ⊕ Nat) × Mem) := bx (f_X7_existingParcel M a1) fun (r12 : Nat) (M11 : Mem) => if r12 < 132 then (bd2 (f_X6_stepsBetween M11 0 (M11 6 r12 4) (M11 6 r12 3)) fun r15 M14 => bx (f_X7_existingSteps M14 r15) fun (r18 : Int32) (M17 : Mem) => some (.inl (if (0 : Int32) < (r18 - (M17 6 r12 2)) then (r18 - (M17 6 r12 2)) else (0 : Int32)), M17)) else none
set_option maxHeartbeats 4000000 in
set_option maxRecDepth 100000 in
theorem c_X7_stampsMissing {Y : LY} {l : Launch} (hl9 : l.stackTraces = false) (M : Mem) (a1 : Int32) {x : Int32 ⊕ Nat} {MZ : Mem} (hf : f_X7_stampsMissing M a1 = some (x, MZ)) : vx_Met l yX7_stampsMissing (WS yX7_stampsMissing cX7_stampsMissing 4 (Option.some Jvm.ClassFile.FieldType.int)) { frames := 7, cells := 2, slots := 12, locals := 112 } (PcM Y M [.ref (YA Y 0 0), .int a1]) (Qxi Y x MZ) (Xx Y x MZ) 2 12 (AZ Y) := by
  refine met_mkx (lv := [(0, .ref (YA Y 0 0)), (1, .int a1)]) [.ref (YA Y 0 0), .int a1] (by decide) rfl rfl (Nat.le_of_ble_eq_true rfl) (fun p e s m below meth c C0 hn9 hH ls hl => ?_)
  have hS : va_S (AZ Y) s.heap s.heap [] := va_S.rf
  obtain ⟨hx, hb, hr, hml, hown, hA, hlocks, hK, hZ⟩ := id C0
  unfold f_X7_stampsMissing at hf
  refine lv_aload_n hx hb dX7_stampsMissing_0 rfl (lv_at hl 0 rfl) ?_
  refine lv_iload_n hx hb dX7_stampsMissing_1 rfl (lv_at hl 1 rfl) ?_
  obtain ⟨yr12, M11, hq10, hf⟩ := bx_o hf
  refine hx_cr (hx_runV C0 hH hS (n := 1) (As := [.int a1]) (rest := []) (c_X7_existingParcel hl9 M a1 hq10) ⟨⟨zt_870, zt_872, zs_22, zt_1, zt_873⟩, rfl, by decide, by decide, by decide +kernel⟩ ⟨rfl, rfl, Nat.le_of_ble_eq_true rfl, Nat.le_of_ble_eq_true rfl⟩ (hs_recv hK hH 0 0 (by decide) 11 rfl rfl) rfl rfl hl.1 (Nat.le_of_ble_eq_true rfl) ⟨Nat.le_of_ble_eq_true rfl, Nat.le_of_ble_eq_true rfl⟩ dX7_stampsMissing_2) hS C0 hn9 (by decide) (by decide) (fun k e => by subst e; exact bx_p (HS Y) hf) (fun r12 er12 H locs hH hS => ?_)
  subst er12
  have hf := bx_v hf
  obtain ⟨hr12, hf⟩ := gd_o hf
  refine lv_astore_n (lv' := [(2, .ref (YA Y 6 r12)), (0, .ref (YA Y 0 0)), (1, .int a1)]) hx hb dX7_stampsMissing_5 rfl hl (by decide) rfl (fun ls hl => ?_)
  refine lv_aload_n hx hb dX7_stampsMissing_6 rfl (lv_at hl 1 rfl) ?_
  refine hs_get hx hb (T := TX7) hA inAX7 hown hK hH 0 0 (by decide) 11 rfl rfl 4 (by decide) (hA _ zt_296) rfl rfl dX7_stampsMissing_7 ?_
  refine lv_aload_n hx hb dX7_stampsMissing_10 rfl (lv_at hl 1 rfl) ?_
  refine hs_get hx hb (T := TX7) hA inAX7 hown hK hH 0 0 (by decide) 11 rfl rfl 0 (by decide) (hA _ zt_292) rfl rfl dX7_stampsMissing_11 ?_
  refine hs_get hx hb (T := TX5) hA inAX5 hown hK hH 1 0 (by decide) 9 rfl rfl 1 (by decide) (hA _ zt_174) rfl rfl dX7_stampsMissing_14 ?_
  refine lv_aload_n hx hb dX7_stampsMissing_17 rfl (lv_at hl 0 rfl) ?_
  refine hs_get hx hb (T := TX3) hA inAX3 hown hK hH 6 r12 (show r12 < 132 from by omega) 7 rfl rfl 4 (by decide) (hA _ zt_150) rfl rfl dX7_stampsMissing_18 ?_
  refine lv_aload_n hx hb dX7_stampsMissing_21 rfl (lv_at hl 0 rfl) ?_
  refine hs_get hx hb (T := TX3) hA inAX3 hown hK hH 6 r12 (show r12 < 132 from by omega) 7 rfl rfl 3 (by decide) (hA _ zt_147) rfl rfl dX7_stampsMissing_22 ?_
  obtain ⟨r15, M14, hq13, hf⟩ := bd2_o hf
  refine hs_ci (hs_runV C0 hH hS (n := 3) (As := [.ref (YA Y 2 0), .int (M11 6 r12 4), .int (M11 6 r12 3)]) (rest := []) (c_X6_stepsBetween M11 0 (M11 6 r12 4) (M11 6 r12 3) (by decide) hq13) ⟨⟨zt_965, zt_966, zt_967, zt_2, zt_968⟩, rfl, by decide, by decide, by decide +kernel⟩ ⟨rfl, rfl, Nat.le_of_ble_eq_true rfl, Nat.le_of_ble_eq_true rfl⟩ (hs_recv hK hH 7 0 (by decide) 10 rfl rfl) rfl rfl hl.1 (Nat.le_of_ble_eq_true rfl) ⟨Nat.le_of_ble_eq_true rfl, Nat.le_of_ble_eq_true rfl⟩ dX7_stampsMissing_25) hS (fun H locs hH hS => ?_)
  obtain ⟨yr18, M17, hq16, hf⟩ := bx_o hf
  refine hx_ci (hx_runS C0 hH hS (n := 1) (As := [.int r15]) (rest := []) (c_X7_existingSteps hl9 M14 r15 hq16) ⟨⟨zt_977, zt_978, zt_1, zt_979⟩, by decide, by decide, by decide +kernel⟩ ⟨rfl, rfl, Nat.le_of_ble_eq_true rfl, Nat.le_of_ble_eq_true rfl⟩ rfl rfl hl.1 (Nat.le_of_ble_eq_true rfl) ⟨Nat.le_of_ble_eq_true rfl, Nat.le_of_ble_eq_true rfl⟩ dX7_stampsMissing_28) hS C0 hn9 (by decide) (by decide) (fun k e => by subst e; exact bx_p (HS Y) hf) (fun r18 er18 H locs hH hS => ?_)
  subst er18
  have hf := bx_v hf
  refine lv_istore_n (lv' := [(3, .int r18), (2, .ref (YA Y 6 r12)), (0, .ref (YA Y 0 0)), (1, .int a1)]) hx hb dX7_stampsMissing_31 rfl hl (by decide) rfl (fun ls hl => ?_)
  refine lv_iconst (v := (0 : Int32)) hx hb dX7_stampsMissing_32 (by decide) ?_
  refine lv_iload_n hx hb dX7_stampsMissing_33 rfl (lv_at hl 0 rfl) ?_
  refine lv_aload_n hx hb dX7_stampsMissing_34 rfl (lv_at hl 1 rfl) ?_
  refine hs_get hx hb (T := TX3) hA inAX3 hown hK hH 6 r12 (show r12 < 132 from by omega) 7 rfl rfl 2 (by decide) (hA _ zt_144) rfl rfl dX7_stampsMissing_35 ?_
  refine lv_isub hx hb dX7_stampsMissing_38 ?_
  refine va_mmax hx hb (by rw [hml]; exact hl.1.symm) hown (hA _ zt_1022) (hA _ zt_1023) (hA _ zt_21) (hA _ zt_1024) (Nat.le_of_ble_eq_true rfl) (Nat.le_of_ble_eq_true rfl) (Nat.le_of_ble_eq_true rfl) (Nat.le_of_ble_eq_true rfl) dX7_stampsMissing_39 ?_
  cases hf
  exact hx_iret C0 hH hS (by decide) (by decide) dX7_stampsMissing_42
def f_X7_parcelsAhead_65 (M : Mem) (k4 : Int32 → Int32 → Int32 → Option Int32) (a1 : Int32) (a2 : Int32) (a3 : Int32) : Option Int32 := k4 a1 a2 (a3 + (1 : Int32))
set_option maxHeartbeats 4000000 in
set_option maxRecDepth 100000 in
theorem w_X7_parcelsAhead_65 {Y : LY} {p : Program} {l : Launch} {e : Env} {s : State} {m : MethodId} {args : Array Value} {below : List Frame} {meth : Method} {c : Code} (C0 : BE Y p s m args meth c cX7_parcelsAhead 5 (Option.some Jvm.ClassFile.FieldType.int) RX7) {r : Int32} (M : Mem) (k4 : Int32 → Int32 → Int32 → Option Int32) (hk4 : ∀ (a1 : Int32) (a2 : Int32) (a3 : Int32), k4 a1 a2 a3 = some r → ∀ (H : Heap) (locs : List Loc) (ls : Array Slot), HS Y M H → va_S (AZ Y) s.heap H locs → lv_has ls 5 [(0, .ref (YA Y 0 0)), (1, .int a1), (2, .int a2), (3, .int a3)] → W p l e { frames := 0, cells := 0, slots := 0, locals := 0 } s m args below meth c H locs 0 0 (MQ below (Qi Y r M) args s 0 0 (AZ Y)) (F0 m 4 ls [])) : ∀ (a1 : Int32) (a2 : Int32) (a3 : Int32), f_X7_parcelsAhead_65 M k4 a1 a2 a3 = some r → ∀ (H : Heap) (locs : List Loc) (ls : Array Slot), HS Y M H → va_S (AZ Y) s.heap H locs → lv_has ls 5 [(0, .ref (YA Y 0 0)), (1, .int a1), (2, .int a2), (3, .int a3)] → W p l e { frames := 0, cells := 0, slots := 0, locals := 0 } s m args below meth c H locs 0 0 (MQ below (Qi Y r M) args s 0 0 (AZ Y)) (F0 m 65 ls []) := by
  obtain ⟨hx, hb, hr, hml, hown, hA, hlocks, hK, hZ⟩ := id C0
  intro a1 a2 a3 hf H locs ls hH hS hl
  unfold f_X7_parcelsAhead_65 at hf
  refine lv_iinc (v := a3 + (1 : Int32)) (lv' := [(3, .int (a3 + (1 : Int32))), (0, .ref (YA Y 0 0)), (1, .int a1), (2, .int a2)]) hx hb dX7_parcelsAhead_65 hl (k := 3) rfl rfl (by decide) rfl (fun ls hl => ?_)
  refine lv_goto (tgt := 4) hx hb dX7_parcelsAhead_68 (by decide) ?_
  exact hk4 a1 a2 (a3 + (1 : Int32)) hf _ _ _ hH hS (lv_sub hl [1, 2, 3, 0] rfl)
def f_X7_parcelsAhead_62 (M : Mem) (k4 : Int32 → Int32 → Int32 → Option Int32) (a1 : Int32) (a2 : Int32) (a3 : Int32) : Option Int32 := f_X7_parcelsAhead_65 M k4 a1 (a2 + (1 : Int32)) a3
set_option maxHeartbeats 4000000 in
set_option maxRecDepth 100000 in
theorem w_X7_parcelsAhead_62 {Y : LY} {p : Program} {l : Launch} {e : Env} {s : State} {m : MethodId} {args : Array Value} {below : List Frame} {meth : Method} {c : Code} (C0 : BE Y p s m args meth c cX7_parcelsAhead 5 (Option.some Jvm.ClassFile.FieldType.int) RX7) {r : Int32} (M : Mem) (k4 : Int32 → Int32 → Int32 → Option Int32) (hk4 : ∀ (a1 : Int32) (a2 : Int32) (a3 : Int32), k4 a1 a2 a3 = some r → ∀ (H : Heap) (locs : List Loc) (ls : Array Slot), HS Y M H → va_S (AZ Y) s.heap H locs → lv_has ls 5 [(0, .ref (YA Y 0 0)), (1, .int a1), (2, .int a2), (3, .int a3)] → W p l e { frames := 0, cells := 0, slots := 0, locals := 0 } s m args below meth c H locs 0 0 (MQ below (Qi Y r M) args s 0 0 (AZ Y)) (F0 m 4 ls [])) : ∀ (a1 : Int32) (a2 : Int32) (a3 : Int32), f_X7_parcelsAhead_62 M k4 a1 a2 a3 = some r → ∀ (H : Heap) (locs : List Loc) (ls : Array Slot), HS Y M H → va_S (AZ Y) s.heap H locs → lv_has ls 5 [(0, .ref (YA Y 0 0)), (1, .int a1), (2, .int a2), (3, .int a3)] → W p l e { frames := 0, cells := 0, slots := 0, locals := 0 } s m args below meth c H locs 0 0 (MQ below (Qi Y r M) args s 0 0 (AZ Y)) (F0 m 62 ls []) := by
  obtain ⟨hx, hb, hr, hml, hown, hA, hlocks, hK, hZ⟩ := id C0
  intro a1 a2 a3 hf H locs ls hH hS hl
  unfold f_X7_parcelsAhead_62 at hf
  refine lv_iinc (v := a2 + (1 : Int32)) (lv' := [(2, .int (a2 + (1 : Int32))), (0, .ref (YA Y 0 0)), (1, .int a1), (3, .int a3)]) hx hb dX7_parcelsAhead_62 hl (k := 2) rfl rfl (by decide) rfl (fun ls hl => ?_)
  exact w_X7_parcelsAhead_65 C0 M k4 hk4 a1 (a2 + (1 : Int32)) a3 hf _ _ _ hH hS (lv_sub hl [1, 2, 0, 3] rfl)
def f_X7_parcelsAhead_40 (M : Mem) (k4 : Int32 → Int32 → Int32 → Option Int32) (a1 : Int32) (a2 : Int32) (a3 : Int32) (b0 : Int32) : Option Int32 := if vin a3 12 then (if vin a1 12 then ((if (M 18 0 (ix a3)) < (M 18 0 (ix a1)) then f_X7_parcelsAhead_62 M k4 a1 a2 a3 else (if b0 = 0 then f_X7_parcelsAhead_65 M k4 a1 a2 a3 else f_X7_parcelsAhead_62 M k4 a1 a2 a3))) else none) else none
set_option maxHeartbeats 4000000 in
set_option maxRecDepth 100000 in
theorem w_X7_parcelsAhead_40 {Y : LY} {p : Program} {l : Launch} {e : Env} {s : State} {m : MethodId} {args : Array Value} {below : List Frame} {meth : Method} {c : Code} (C0 : BE Y p s m args meth c cX7_parcelsAhead 5 (Option.some Jvm.ClassFile.FieldType.int) RX7) {r : Int32} (M : Mem) (k4 : Int32 → Int32 → Int32 → Option Int32) (hk4 : ∀ (a1 : Int32) (a2 : Int32) (a3 : Int32), k4 a1 a2 a3 = some r → ∀ (H : Heap) (locs : List Loc) (ls : Array Slot), HS Y M H → va_S (AZ Y) s.heap H locs → lv_has ls 5 [(0, .ref (YA Y 0 0)), (1, .int a1), (2, .int a2), (3, .int a3)] → W p l e { frames := 0, cells := 0, slots := 0, locals := 0 } s m args below meth c H locs 0 0 (MQ below (Qi Y r M) args s 0 0 (AZ Y)) (F0 m 4 ls [])) : ∀ (a1 : Int32) (a2 : Int32) (a3 : Int32) (b0 : Int32), f_X7_parcelsAhead_40 M k4 a1 a2 a3 b0 = some r → ∀ (H : Heap) (locs : List Loc) (ls : Array Slot), HS Y M H → va_S (AZ Y) s.heap H locs → lv_has ls 5 [(0, .ref (YA Y 0 0)), (1, .int a1), (2, .int a2), (3, .int a3)] → W p l e { frames := 0, cells := 0, slots := 0, locals := 0 } s m args below meth c H locs 0 0 (MQ below (Qi Y r M) args s 0 0 (AZ Y)) (F0 m 40 ls [.int b0]) := by
  obtain ⟨hx, hb, hr, hml, hown, hA, hlocks, hK, hZ⟩ := id C0
  intro a1 a2 a3 b0 hf H locs ls hH hS hl
  unfold f_X7_parcelsAhead_40 at hf
  refine lv_istore (lv' := [(4, .int b0), (0, .ref (YA Y 0 0)), (1, .int a1), (2, .int a2), (3, .int a3)]) hx hb dX7_parcelsAhead_40 hl (by decide) rfl (fun ls hl => ?_)
  refine lv_aload_n hx hb dX7_parcelsAhead_42 rfl (lv_at hl 1 rfl) ?_
  refine hs_get hx hb (T := TX7) hA inAX7 hown hK hH 0 0 (by decide) 11 rfl rfl 7 (by decide) (hA _ zt_299) rfl rfl dX7_parcelsAhead_43 ?_
  refine lv_iload_n hx hb dX7_parcelsAhead_46 rfl (lv_at hl 4 rfl) ?_
  obtain ⟨hg10, hf⟩ := gd_o hf
  have bhg10 := vin_lt hg10
  refine hs_iald hx hb hK hH 18 0 (by decide) rfl hg10 rfl dX7_parcelsAhead_47 ?_
  refine lv_aload_n hx hb dX7_parcelsAhead_48 rfl (lv_at hl 1 rfl) ?_
  refine hs_get hx hb (T := TX7) hA inAX7 hown hK hH 0 0 (by decide) 11 rfl rfl 7 (by decide) (hA _ zt_299) rfl rfl dX7_parcelsAhead_49 ?_
  refine lv_iload_n hx hb dX7_parcelsAhead_52 rfl (lv_at hl 2 rfl) ?_
  obtain ⟨hg11, hf⟩ := gd_o hf
  have bhg11 := vin_lt hg11
  refine hs_iald hx hb hK hH 18 0 (by decide) rfl hg11 rfl dX7_parcelsAhead_53 ?_
  refine lv_icmp_lt (tgt := 62) hx hb dX7_parcelsAhead_54 (by decide) (fun hc13 => ?_) (fun hc13 => ?_)
  · have hf := if_t hf hc13
    exact w_X7_parcelsAhead_62 C0 M k4 hk4 a1 a2 a3 hf _ _ _ hH hS (lv_sub hl [1, 2, 3, 4] rfl)
  · have hf := if_f hf hc13
    refine lv_iload hx hb dX7_parcelsAhead_57 (lv_at hl 0 rfl) ?_
    refine lv_if_eq (tgt := 65) hx hb dX7_parcelsAhead_59 (by decide) (fun hc12 => ?_) (fun hc12 => ?_)
    · have hf := if_t hf hc12
      exact w_X7_parcelsAhead_65 C0 M k4 hk4 a1 a2 a3 hf _ _ _ hH hS (lv_sub hl [1, 2, 3, 4] rfl)
    · have hf := if_f hf hc12
      exact w_X7_parcelsAhead_62 C0 M k4 hk4 a1 a2 a3 hf _ _ _ hH hS (lv_sub hl [1, 2, 3, 4] rfl)
def f_X7_parcelsAhead_39 (M : Mem) (k4 : Int32 → Int32 → Int32 → Option Int32) (a1 : Int32) (a2 : Int32) (a3 : Int32) : Option Int32 := f_X7_parcelsAhead_40 M k4 a1 a2 a3 (0 : Int32)
set_option maxHeartbeats 4000000 in
set_option maxRecDepth 100000 in
theorem w_X7_parcelsAhead_39 {Y : LY} {p : Program} {l : Launch} {e : Env} {s : State} {m : MethodId} {args : Array Value} {below : List Frame} {meth : Method} {c : Code} (C0 : BE Y p s m args meth c cX7_parcelsAhead 5 (Option.some Jvm.ClassFile.FieldType.int) RX7) {r : Int32} (M : Mem) (k4 : Int32 → Int32 → Int32 → Option Int32) (hk4 : ∀ (a1 : Int32) (a2 : Int32) (a3 : Int32), k4 a1 a2 a3 = some r → ∀ (H : Heap) (locs : List Loc) (ls : Array Slot), HS Y M H → va_S (AZ Y) s.heap H locs → lv_has ls 5 [(0, .ref (YA Y 0 0)), (1, .int a1), (2, .int a2), (3, .int a3)] → W p l e { frames := 0, cells := 0, slots := 0, locals := 0 } s m args below meth c H locs 0 0 (MQ below (Qi Y r M) args s 0 0 (AZ Y)) (F0 m 4 ls [])) : ∀ (a1 : Int32) (a2 : Int32) (a3 : Int32), f_X7_parcelsAhead_39 M k4 a1 a2 a3 = some r → ∀ (H : Heap) (locs : List Loc) (ls : Array Slot), HS Y M H → va_S (AZ Y) s.heap H locs → lv_has ls 5 [(0, .ref (YA Y 0 0)), (1, .int a1), (2, .int a2), (3, .int a3)] → W p l e { frames := 0, cells := 0, slots := 0, locals := 0 } s m args below meth c H locs 0 0 (MQ below (Qi Y r M) args s 0 0 (AZ Y)) (F0 m 39 ls []) := by
  obtain ⟨hx, hb, hr, hml, hown, hA, hlocks, hK, hZ⟩ := id C0
  intro a1 a2 a3 hf H locs ls hH hS hl
  unfold f_X7_parcelsAhead_39 at hf
  refine lv_iconst (v := (0 : Int32)) hx hb dX7_parcelsAhead_39 (by decide) ?_
  exact w_X7_parcelsAhead_40 C0 M k4 hk4 a1 a2 a3 (0 : Int32) hf _ _ _ hH hS (lv_sub hl [0, 1, 2, 3] rfl)
def f_X7_parcelsAhead_4 (M : Mem) : Nat → Int32 → Int32 → Int32 → Option Int32
  | 0, _, _, _ => none
  | n + 1, a1, a2, a3 => (if (M 1 0 3) ≤ a3 then some a2 else if vin a3 12 then (if vin a1 12 then ((if (M 18 0 (ix a3)) = (M 18 0 (ix a1)) then (if a1 ≤ a3 then f_X7_parcelsAhead_39 M (f_X7_parcelsAhead_4 M n) a1 a2 a3 else f_X7_parcelsAhead_40 M (f_X7_parcelsAhead_4 M n) a1 a2 a3 (1 : Int32)) else f_X7_parcelsAhead_39 M (f_X7_parcelsAhead_4 M n) a1 a2 a3)) else none) else none)
set_option maxHeartbeats 4000000 in
set_option maxRecDepth 100000 in
theorem w_X7_parcelsAhead_4 {Y : LY} {p : Program} {l : Launch} {e : Env} {s : State} {m : MethodId} {args : Array Value} {below : List Frame} {meth : Method} {c : Code} (C0 : BE Y p s m args meth c cX7_parcelsAhead 5 (Option.some Jvm.ClassFile.FieldType.int) RX7) {r : Int32} (M : Mem) : ∀ (n : Nat) (a1 : Int32) (a2 : Int32) (a3 : Int32), f_X7_parcelsAhead_4 M n a1 a2 a3 = some r → ∀ (H : Heap) (locs : List Loc) (ls : Array Slot), HS Y M H → va_S (AZ Y) s.heap H locs → lv_has ls 5 [(0, .ref (YA Y 0 0)), (1, .int a1), (2, .int a2), (3, .int a3)] → W p l e { frames := 0, cells := 0, slots := 0, locals := 0 } s m args below meth c H locs 0 0 (MQ below (Qi Y r M) args s 0 0 (AZ Y)) (F0 m 4 ls []) := by
  obtain ⟨hx, hb, hr, hml, hown, hA, hlocks, hK, hZ⟩ := id C0
  intro n
  induction n with
  | zero =>
    intro a1 a2 a3 hf
    cases hf
  | succ n ih =>
    intro a1 a2 a3 hf H locs ls hH hS hl
    rw [f_X7_parcelsAhead_4] at hf
    refine lv_iload_n hx hb dX7_parcelsAhead_4 rfl (lv_at hl 3 rfl) ?_
    refine lv_aload_n hx hb dX7_parcelsAhead_5 rfl (lv_at hl 0 rfl) ?_
    refine hs_get hx hb (T := TX7) hA inAX7 hown hK hH 0 0 (by decide) 11 rfl rfl 0 (by decide) (hA _ zt_292) rfl rfl dX7_parcelsAhead_6 ?_
    refine hs_get hx hb (T := TX5) hA inAX5 hown hK hH 1 0 (by decide) 9 rfl rfl 3 (by decide) (hA _ zt_178) rfl rfl dX7_parcelsAhead_9 ?_
    refine lv_icmp_ge (tgt := 71) hx hb dX7_parcelsAhead_12 (by decide) (fun hc18 => ?_) (fun hc18 => ?_)
    · have hf := if_t hf hc18
      refine lv_iload_n hx hb dX7_parcelsAhead_71 rfl (lv_at hl 2 rfl) ?_
      cases hf
      exact hs_iret C0 hH hS (by decide) (by decide) dX7_parcelsAhead_72
    · have hf := if_f hf hc18
      refine lv_aload_n hx hb dX7_parcelsAhead_15 rfl (lv_at hl 0 rfl) ?_
      refine hs_get hx hb (T := TX7) hA inAX7 hown hK hH 0 0 (by decide) 11 rfl rfl 7 (by decide) (hA _ zt_299) rfl rfl dX7_parcelsAhead_16 ?_
      refine lv_iload_n hx hb dX7_parcelsAhead_19 rfl (lv_at hl 3 rfl) ?_
      obtain ⟨hg14, hf⟩ := gd_o hf
      have bhg14 := vin_lt hg14
      refine hs_iald hx hb hK hH 18 0 (by decide) rfl hg14 rfl dX7_parcelsAhead_20 ?_
      refine lv_aload_n hx hb dX7_parcelsAhead_21 rfl (lv_at hl 0 rfl) ?_
      refine hs_get hx hb (T := TX7) hA inAX7 hown hK hH 0 0 (by decide) 11 rfl rfl 7 (by decide) (hA _ zt_299) rfl rfl dX7_parcelsAhead_22 ?_
      refine lv_iload_n hx hb dX7_parcelsAhead_25 rfl (lv_at hl 1 rfl) ?_
      obtain ⟨hg15, hf⟩ := gd_o hf
      have bhg15 := vin_lt hg15
      refine hs_iald hx hb hK hH 18 0 (by decide) rfl hg15 rfl dX7_parcelsAhead_26 ?_
      refine lv_icmp_ne (tgt := 39) hx hb dX7_parcelsAhead_27 (by decide) (fun hc17 => ?_) (fun hc17 => ?_)
      · have hf := if_f hf hc17
        exact w_X7_parcelsAhead_39 C0 M (f_X7_parcelsAhead_4 M n) ih a1 a2 a3 hf _ _ _ hH hS (lv_sub hl [0, 1, 2, 3] rfl)
      · have hf := if_t hf hc17
        refine lv_iload_n hx hb dX7_parcelsAhead_30 rfl (lv_at hl 3 rfl) ?_
        refine lv_iload_n hx hb dX7_parcelsAhead_31 rfl (lv_at hl 1 rfl) ?_
        refine lv_icmp_ge (tgt := 39) hx hb dX7_parcelsAhead_32 (by decide) (fun hc16 => ?_) (fun hc16 => ?_)
        · have hf := if_t hf hc16
          exact w_X7_parcelsAhead_39 C0 M (f_X7_parcelsAhead_4 M n) ih a1 a2 a3 hf _ _ _ hH hS (lv_sub hl [0, 1, 2, 3] rfl)
        · have hf := if_f hf hc16
          refine lv_iconst (v := (1 : Int32)) hx hb dX7_parcelsAhead_35 (by decide) ?_
          refine lv_goto (tgt := 40) hx hb dX7_parcelsAhead_36 (by decide) ?_
          exact w_X7_parcelsAhead_40 C0 M (f_X7_parcelsAhead_4 M n) ih a1 a2 a3 (1 : Int32) hf _ _ _ hH hS (lv_sub hl [0, 1, 2, 3] rfl)
def f_X7_parcelsAhead (M : Mem) (a1 : Int32) : Option Int32 := f_X7_parcelsAhead_4 M FU a1 (0 : Int32) (0 : Int32)
set_option maxHeartbeats 4000000 in
set_option maxRecDepth 100000 in
theorem c_X7_parcelsAhead {Y : LY} {l : Launch} (M : Mem) (a1 : Int32) {r : Int32} (hf : f_X7_parcelsAhead M a1 = some r) : Met l yX7_parcelsAhead (WS yX7_parcelsAhead cX7_parcelsAhead 5 (Option.some Jvm.ClassFile.FieldType.int)) { frames := 0, cells := 0, slots := 0, locals := 0 } (PcM Y M [.ref (YA Y 0 0), .int a1]) (Qi Y r M) 0 0 (AZ Y) := by
  refine met_mk (lv := [(0, .ref (YA Y 0 0)), (1, .int a1)]) [.ref (YA Y 0 0), .int a1] (by decide) rfl rfl (Nat.le_of_ble_eq_true rfl) (fun p e s m below meth c C0 hH ls hl => ?_)
  have hS : va_S (AZ Y) s.heap s.heap [] := va_S.rf
  obtain ⟨hx, hb, hr, hml, hown, hA, hlocks, hK, hZ⟩ := id C0
  unfold f_X7_parcelsAhead at hf
  refine lv_iconst (v := (0 : Int32)) hx hb dX7_parcelsAhead_0 (by decide) ?_
  refine lv_istore_n (lv' := [(2, .int (0 : Int32)), (0, .ref (YA Y 0 0)), (1, .int a1)]) hx hb dX7_parcelsAhead_1 rfl hl (by decide) rfl (fun ls hl => ?_)
  refine lv_iconst (v := (0 : Int32)) hx hb dX7_parcelsAhead_2 (by decide) ?_
  refine lv_istore_n (lv' := [(3, .int (0 : Int32)), (2, .int (0 : Int32)), (0, .ref (YA Y 0 0)), (1, .int a1)]) hx hb dX7_parcelsAhead_3 rfl hl (by decide) rfl (fun ls hl => ?_)
  exact w_X7_parcelsAhead_4 C0 M FU a1 (0 : Int32) (0 : Int32) hf _ _ _ hH hS (lv_sub hl [2, 3, 1, 0] rfl)
def f_X7_positionOfRank_2 (M : Mem) : Nat → Int32 → Int32 → Option Int32
  | 0, _, _ => none
  | n + 1, a1, a2 => (if (M 1 0 3) ≤ a2 then some (0 : Int32) else bd (f_X7_parcelsAhead M a2) fun r6 => (if r6 = a1 then some a2 else f_X7_positionOfRank_2 M n a1 (a2 + (1 : Int32))))
set_option maxHeartbeats 4000000 in
set_option maxRecDepth 100000 in
theorem w_X7_positionOfRank_2 {Y : LY} {p : Program} {l : Launch} {e : Env} {s : State} {m : MethodId} {args : Array Value} {below : List Frame} {meth : Method} {c : Code} (C0 : BE Y p s m args meth c cX7_positionOfRank 3 (Option.some Jvm.ClassFile.FieldType.int) RX7) {r : Int32} (M : Mem) : ∀ (n : Nat) (a1 : Int32) (a2 : Int32), f_X7_positionOfRank_2 M n a1 a2 = some r → ∀ (H : Heap) (locs : List Loc) (ls : Array Slot), HS Y M H → va_S (AZ Y) s.heap H locs → lv_has ls 3 [(0, .ref (YA Y 0 0)), (1, .int a1), (2, .int a2)] → W p l e { frames := 1, cells := 0, slots := 0, locals := 24 } s m args below meth c H locs 0 0 (MQ below (Qi Y r M) args s 0 0 (AZ Y)) (F0 m 2 ls []) := by
  obtain ⟨hx, hb, hr, hml, hown, hA, hlocks, hK, hZ⟩ := id C0
  intro n
  induction n with
  | zero =>
    intro a1 a2 hf
    cases hf
  | succ n ih =>
    intro a1 a2 hf H locs ls hH hS hl
    rw [f_X7_positionOfRank_2] at hf
    refine lv_iload_n hx hb dX7_positionOfRank_2 rfl (lv_at hl 2 rfl) ?_
    refine lv_aload_n hx hb dX7_positionOfRank_3 rfl (lv_at hl 0 rfl) ?_
    refine hs_get hx hb (T := TX7) hA inAX7 hown hK hH 0 0 (by decide) 11 rfl rfl 0 (by decide) (hA _ zt_292) rfl rfl dX7_positionOfRank_4 ?_
    refine hs_get hx hb (T := TX5) hA inAX5 hown hK hH 1 0 (by decide) 9 rfl rfl 3 (by decide) (hA _ zt_178) rfl rfl dX7_positionOfRank_7 ?_
    refine lv_icmp_ge (tgt := 30) hx hb dX7_positionOfRank_10 (by decide) (fun hc8 => ?_) (fun hc8 => ?_)
    · have hf := if_t hf hc8
      refine lv_iconst (v := (0 : Int32)) hx hb dX7_positionOfRank_30 (by decide) ?_
      cases hf
      exact hs_iret C0 hH hS (by decide) (by decide) dX7_positionOfRank_31
    · have hf := if_f hf hc8
      refine lv_aload_n hx hb dX7_positionOfRank_13 rfl (lv_at hl 0 rfl) ?_
      refine lv_iload_n hx hb dX7_positionOfRank_14 rfl (lv_at hl 2 rfl) ?_
      obtain ⟨r6, hq5, hf⟩ := bd_o hf
      refine hs_ci (hs_runV C0 hH hS (n := 1) (As := [.int a2]) (rest := []) (c_X7_parcelsAhead M a2 hq5) ⟨⟨zt_1037, zt_1039, zs_27, zt_1, zt_1040⟩, rfl, by decide, by decide, by decide +kernel⟩ ⟨rfl, rfl, Nat.le_of_ble_eq_true rfl, Nat.le_of_ble_eq_true rfl⟩ (hs_recv hK hH 0 0 (by decide) 11 rfl rfl) rfl rfl hl.1 (Nat.le_of_ble_eq_true rfl) ⟨Nat.le_of_ble_eq_true rfl, Nat.le_of_ble_eq_true rfl⟩ dX7_positionOfRank_15) hS (fun H locs hH hS => ?_)
      refine lv_iload_n hx hb dX7_positionOfRank_18 rfl (lv_at hl 1 rfl) ?_
      refine lv_icmp_ne (tgt := 24) hx hb dX7_positionOfRank_19 (by decide) (fun hc7 => ?_) (fun hc7 => ?_)
      · have hf := if_f hf hc7
        refine lv_iinc (v := a2 + (1 : Int32)) (lv' := [(2, .int (a2 + (1 : Int32))), (0, .ref (YA Y 0 0)), (1, .int a1)]) hx hb dX7_positionOfRank_24 hl (k := 2) rfl rfl (by decide) rfl (fun ls hl => ?_)
        refine lv_goto (tgt := 2) hx hb dX7_positionOfRank_27 (by decide) ?_
        exact ih a1 (a2 + (1 : Int32)) hf _ _ _ hH hS (lv_sub hl [1, 2, 0] rfl)
      · have hf := if_t hf hc7
        refine lv_iload_n hx hb dX7_positionOfRank_22 rfl (lv_at hl 2 rfl) ?_
        cases hf
        exact hs_iret C0 hH hS (by decide) (by decide) dX7_positionOfRank_23
def f_X7_positionOfRank (M : Mem) (a1 : Int32) : Option Int32 := f_X7_positionOfRank_2 M FU a1 (0 : Int32)
set_option maxHeartbeats 4000000 in
set_option maxRecDepth 100000 in
theorem c_X7_positionOfRank {Y : LY} {l : Launch} (M : Mem) (a1 : Int32) {r : Int32} (hf : f_X7_positionOfRank M a1 = some r) : Met l yX7_positionOfRank (WS yX7_positionOfRank cX7_positionOfRank 3 (Option.some Jvm.ClassFile.FieldType.int)) { frames := 1, cells := 0, slots := 0, locals := 24 } (PcM Y M [.ref (YA Y 0 0), .int a1]) (Qi Y r M) 0 0 (AZ Y) := by
  refine met_mk (lv := [(0, .ref (YA Y 0 0)), (1, .int a1)]) [.ref (YA Y 0 0), .int a1] (by decide) rfl rfl (Nat.le_of_ble_eq_true rfl) (fun p e s m below meth c C0 hH ls hl => ?_)
  have hS : va_S (AZ Y) s.heap s.heap [] := va_S.rf
  obtain ⟨hx, hb, hr, hml, hown, hA, hlocks, hK, hZ⟩ := id C0
  unfold f_X7_positionOfRank at hf
  refine lv_iconst (v := (0 : Int32)) hx hb dX7_positionOfRank_0 (by decide) ?_
  refine lv_istore_n (lv' := [(2, .int (0 : Int32)), (0, .ref (YA Y 0 0)), (1, .int a1)]) hx hb dX7_positionOfRank_1 rfl hl (by decide) rfl (fun ls hl => ?_)
  exact w_X7_positionOfRank_2 C0 M FU a1 (0 : Int32) hf _ _ _ hH hS (lv_sub hl [1, 2, 0] rfl)
def f_X7_parcelByForecast_15 (M : Mem) : Option ((Int32 ⊕ Nat) × Mem) := some (.inr 3, M)
set_option maxHeartbeats 4000000 in
set_option maxRecDepth 100000 in
theorem w_X7_parcelByForecast_15 {Y : LY} {p : Program} {l : Launch} {e : Env} {s : State} {m : MethodId} {args : Array Value} {below : List Frame} {meth : Method} {c : Code} (C0 : BE Y p s m args meth c cX7_parcelByForecast 3 (Option.some Jvm.ClassFile.FieldType.int) RX7) (hl9 : l.stackTraces = false) (hn9 : ∀ z ∈ c.exceptionTable.toList, False) {x : Int32 ⊕ Nat} {MZ : Mem} : ∀ (M : Mem), f_X7_parcelByForecast_15 M = some (x, MZ) → ∀ (H : Heap) (locs : List Loc) (ls : Array Slot), HS Y M H → va_S (AZ Y) s.heap H locs → lv_has ls 3 [] → W p l e { frames := 6, cells := 1, slots := 6, locals := 95 } s m args below meth c H locs 0 0 (vx_MQ below (Qxi Y x MZ) (Xx Y x MZ) args s 1 6 (AZ Y)) (F0 m 15 ls []) := by
  obtain ⟨hx, hb, hr, hml, hown, hA, hlocks, hK, hZ⟩ := id C0
  intro M hf H locs ls hH hS hl
  unfold f_X7_parcelByForecast_15 at hf
  cases hf
  exact hx_thr3 C0 hl9 hn9 hH hS hl.1 (is := 221) (text := "there is no such rank") (by decide +kernel) dX7_parcelByForecast_15 dX7_parcelByForecast_18 dX7_parcelByForecast_19 dX7_parcelByForecast_21 dX7_parcelByForecast_24 ⟨by decide, Nat.le_of_ble_eq_true rfl, by decide, by decide⟩ (by decide) (by decide)
def f_X7_parcelByForecast_27 : Nat → Mem → Int32 → Int32 → Option ((Int32 ⊕ Nat) × Mem)
  | 0, _, _, _ => none
  | n + 1, M, a1, a2 => (if (M 1 0 3) ≤ a2 then bd (f_X7_positionOfRank M a1) fun r15 => if vin r15 12 then (if ix (M 5 0 (ix r15)) < 132 then (some (.inl (M 6 (ix (M 5 0 (ix r15))) 0), M)) else none) else none else if vin a2 12 then (if ix (M 5 0 (ix a2)) < 132 then (bd2 (f_X5_forecastOf M 0 (ix (M 5 0 (ix a2)))) fun r22 M21 => nm (mu M21 18 0 (ix a2) r22) fun M23 => f_X7_parcelByForecast_27 n M23 a1 (a2 + (1 : Int32))) else none) else none)
set_option maxHeartbeats 4000000 in
set_option maxRecDepth 100000 in
theorem w_X7_parcelByForecast_27 {Y : LY} {p : Program} {l : Launch} {e : Env} {s : State} {m : MethodId} {args : Array Value} {below : List Frame} {meth : Method} {c : Code} (C0 : BE Y p s m args meth c cX7_parcelByForecast 3 (Option.some Jvm.ClassFile.FieldType.int) RX7) (hl9 : l.stackTraces = false) (hn9 : ∀ z ∈ c.exceptionTable.toList, False) {x : Int32 ⊕ Nat} {MZ : Mem} : ∀ (n : Nat) (M : Mem) (a1 : Int32) (a2 : Int32), f_X7_parcelByForecast_27 n M a1 a2 = some (x, MZ) → ∀ (H : Heap) (locs : List Loc) (ls : Array Slot), HS Y M H → va_S (AZ Y) s.heap H locs → lv_has ls 3 [(0, .ref (YA Y 0 0)), (1, .int a1), (2, .int a2)] → W p l e { frames := 6, cells := 1, slots := 6, locals := 95 } s m args below meth c H locs 0 0 (vx_MQ below (Qxi Y x MZ) (Xx Y x MZ) args s 1 6 (AZ Y)) (F0 m 27 ls []) := by
  obtain ⟨hx, hb, hr, hml, hown, hA, hlocks, hK, hZ⟩ := id C0
  intro n
  induction n with
  | zero =>
    intro M a1 a2 hf
    cases hf
  | succ n ih =>
    intro M a1 a2 hf H locs ls hH hS hl
    rw [f_X7_parcelByForecast_27] at hf
    refine lv_iload_n hx hb dX7_parcelByForecast_27 rfl (lv_at hl 2 rfl) ?_
    refine lv_aload_n hx hb dX7_parcelByForecast_28 rfl (lv_at hl 0 rfl) ?_
    refine hs_get hx hb (T := TX7) hA inAX7 hown hK hH 0 0 (by decide) 11 rfl rfl 0 (by decide) (hA _ zt_292) rfl rfl dX7_parcelByForecast_29 ?_
    refine hs_get hx hb (T := TX5) hA inAX5 hown hK hH 1 0 (by decide) 9 rfl rfl 3 (by decide) (hA _ zt_178) rfl rfl dX7_parcelByForecast_32 ?_
    refine lv_icmp_ge (tgt := 66) hx hb dX7_parcelByForecast_35 (by decide) (fun hc24 => ?_) (fun hc24 => ?_)
    · have hf := if_t hf hc24
      refine lv_aload_n hx hb dX7_parcelByForecast_66 rfl (lv_at hl 0 rfl) ?_
      refine hs_get hx hb (T := TX7) hA inAX7 hown hK hH 0 0 (by decide) 11 rfl rfl 0 (by decide) (hA _ zt_292) rfl rfl dX7_parcelByForecast_67 ?_
      refine hs_get hx hb (T := TX5) hA inAX5 hown hK hH 1 0 (by decide) 9 rfl rfl 2 (by decide) (hA _ zt_176) rfl rfl dX7_parcelByForecast_70 ?_
      refine lv_aload_n hx hb dX7_parcelByForecast_73 rfl (lv_at hl 0 rfl) ?_
      refine lv_iload_n hx hb dX7_parcelByForecast_74 rfl (lv_at hl 1 rfl) ?_
      obtain ⟨r15, hq14, hf⟩ := bd_o hf
      refine hs_ci (hs_runV C0 hH hS (n := 1) (As := [.int a1]) (rest := [.ref (YA Y 5 0)]) (c_X7_positionOfRank M a1 hq14) ⟨⟨zt_1033, zt_1035, zs_26, zt_1, zt_1036⟩, rfl, by decide, by decide, by decide +kernel⟩ ⟨rfl, rfl, Nat.le_of_ble_eq_true rfl, Nat.le_of_ble_eq_true rfl⟩ (hs_recv hK hH 0 0 (by decide) 11 rfl rfl) rfl rfl hl.1 (Nat.le_of_ble_eq_true rfl) ⟨Nat.le_of_ble_eq_true rfl, Nat.le_of_ble_eq_true rfl⟩ dX7_parcelByForecast_75) hS (fun H locs hH hS => ?_)
      obtain ⟨hg16, hf⟩ := gd_o hf
      have bhg16 := vin_lt hg16
      obtain ⟨hg17, hf⟩ := gd_o hf
      refine hs_aald hx hb hK hH 5 0 (by decide) 4 rfl rfl hg16 (q := YA Y 6 (ix (M 5 0 (ix r15)))) rfl dX7_parcelByForecast_78 ?_
      refine hs_get hx hb (T := TX3) hA inAX3 hown hK hH 6 (ix (M 5 0 (ix r15))) (show ix (M 5 0 (ix r15)) < 132 from by omega) 7 rfl rfl 0 (by decide) (hA _ zt_137) rfl rfl dX7_parcelByForecast_79 ?_
      cases hf
      exact hx_iret C0 hH hS (by decide) (by decide) dX7_parcelByForecast_82
    · have hf := if_f hf hc24
      refine lv_aload_n hx hb dX7_parcelByForecast_38 rfl (lv_at hl 0 rfl) ?_
      refine hs_get hx hb (T := TX7) hA inAX7 hown hK hH 0 0 (by decide) 11 rfl rfl 7 (by decide) (hA _ zt_299) rfl rfl dX7_parcelByForecast_39 ?_
      refine lv_iload_n hx hb dX7_parcelByForecast_42 rfl (lv_at hl 2 rfl) ?_
      refine lv_aload_n hx hb dX7_parcelByForecast_43 rfl (lv_at hl 0 rfl) ?_
      refine hs_get hx hb (T := TX7) hA inAX7 hown hK hH 0 0 (by decide) 11 rfl rfl 0 (by decide) (hA _ zt_292) rfl rfl dX7_parcelByForecast_44 ?_
      refine lv_aload_n hx hb dX7_parcelByForecast_47 rfl (lv_at hl 0 rfl) ?_
      refine hs_get hx hb (T := TX7) hA inAX7 hown hK hH 0 0 (by decide) 11 rfl rfl 0 (by decide) (hA _ zt_292) rfl rfl dX7_parcelByForecast_48 ?_
      refine hs_get hx hb (T := TX5) hA inAX5 hown hK hH 1 0 (by decide) 9 rfl rfl 2 (by decide) (hA _ zt_176) rfl rfl dX7_parcelByForecast_51 ?_
      refine lv_iload_n hx hb dX7_parcelByForecast_54 rfl (lv_at hl 2 rfl) ?_
      obtain ⟨hg18, hf⟩ := gd_o hf
      have bhg18 := vin_lt hg18
      obtain ⟨hg19, hf⟩ := gd_o hf
      refine hs_aald hx hb hK hH 5 0 (by decide) 4 rfl rfl hg18 (q := YA Y 6 (ix (M 5 0 (ix a2)))) rfl dX7_parcelByForecast_55 ?_
      obtain ⟨r22, M21, hq20, hf⟩ := bd2_o hf
      refine hs_ci (hs_runV C0 hH hS (n := 1) (As := [.ref (YA Y 6 (ix (M 5 0 (ix a2))))]) (rest := [.int a2, .ref (YA Y 18 0)]) (c_X5_forecastOf M 0 (ix (M 5 0 (ix a2))) (by decide) (show ix (M 5 0 (ix a2)) < 132 from by omega) hq20) ⟨⟨zt_995, zt_996, zt_997, zt_3, zt_998⟩, rfl, by decide, by decide, by decide +kernel⟩ ⟨rfl, rfl, Nat.le_of_ble_eq_true rfl, Nat.le_of_ble_eq_true rfl⟩ (hs_recv hK hH 1 0 (by decide) 9 rfl rfl) rfl rfl hl.1 (Nat.le_of_ble_eq_true rfl) ⟨Nat.le_of_ble_eq_true rfl, Nat.le_of_ble_eq_true rfl⟩ dX7_parcelByForecast_56) hS (fun H locs hH hS => ?_)
      refine hs_iast hx hb hK hH hS 18 0 (by decide) (fun _ => rfl) hg18 rfl dX7_parcelByForecast_59 (fun H locs hH hS => ?_)
      obtain ⟨M23, eM23, hf⟩ := nm_o hf
      rw [← eM23] at hH
      refine lv_iinc (v := a2 + (1 : Int32)) (lv' := [(2, .int (a2 + (1 : Int32))), (0, .ref (YA Y 0 0)), (1, .int a1)]) hx hb dX7_parcelByForecast_60 hl (k := 2) rfl rfl (by decide) rfl (fun ls hl => ?_)
      refine lv_goto (tgt := 27) hx hb dX7_parcelByForecast_63 (by decide) ?_
      exact ih M23 a1 (a2 + (1 : Int32)) hf _ _ _ hH hS (lv_sub hl [1, 2, 0] rfl)
def f_X7_parcelByForecast (M : Mem) (a1 : Int32) : Option ((Int32 ⊕ Nat) × Mem) := (if a1 < 0 then f_X7_parcelByForecast_15 M else (if a1 < (M 1 0 3) then f_X7_parcelByForecast_27 FU M a1 (0 : Int32) else f_X7_parcelByForecast_15 M))
set_option maxHeartbeats 4000000 in
set_option maxRecDepth 100000 in
theorem c_X7_parcelByForecast {Y : LY} {l : Launch} (hl9 : l.stackTraces = false) (M : Mem) (a1 : Int32) {x : Int32 ⊕ Nat} {MZ : Mem} (hf : f_X7_parcelByForecast M a1 = some (x, MZ)) : vx_Met l yX7_parcelByForecast (WS yX7_parcelByForecast cX7_parcelByForecast 3 (Option.some Jvm.ClassFile.FieldType.int)) { frames := 6, cells := 1, slots := 6, locals := 95 } (PcM Y M [.ref (YA Y 0 0), .int a1]) (Qxi Y x MZ) (Xx Y x MZ) 1 6 (AZ Y) := by
  refine met_mkx (lv := [(0, .ref (YA Y 0 0)), (1, .int a1)]) [.ref (YA Y 0 0), .int a1] (by decide) rfl rfl (Nat.le_of_ble_eq_true rfl) (fun p e s m below meth c C0 hn9 hH ls hl => ?_)
  have hS : va_S (AZ Y) s.heap s.heap [] := va_S.rf
  obtain ⟨hx, hb, hr, hml, hown, hA, hlocks, hK, hZ⟩ := id C0
  unfold f_X7_parcelByForecast at hf
  refine lv_iload_n hx hb dX7_parcelByForecast_0 rfl (lv_at hl 1 rfl) ?_
  refine lv_if_lt (tgt := 15) hx hb dX7_parcelByForecast_1 (by decide) (fun hc26 => ?_) (fun hc26 => ?_)
  · have hf := if_t hf hc26
    exact w_X7_parcelByForecast_15 C0 hl9 hn9 M hf _ _ _ hH hS (lv_sub hl [] rfl)
  · have hf := if_f hf hc26
    refine lv_iload_n hx hb dX7_parcelByForecast_4 rfl (lv_at hl 1 rfl) ?_
    refine lv_aload_n hx hb dX7_parcelByForecast_5 rfl (lv_at hl 0 rfl) ?_
    refine hs_get hx hb (T := TX7) hA inAX7 hown hK hH 0 0 (by decide) 11 rfl rfl 0 (by decide) (hA _ zt_292) rfl rfl dX7_parcelByForecast_6 ?_
    refine hs_get hx hb (T := TX5) hA inAX5 hown hK hH 1 0 (by decide) 9 rfl rfl 3 (by decide) (hA _ zt_178) rfl rfl dX7_parcelByForecast_9 ?_
    refine lv_icmp_lt (tgt := 25) hx hb dX7_parcelByForecast_12 (by decide) (fun hc25 => ?_) (fun hc25 => ?_)
    · have hf := if_t hf hc25
      refine lv_iconst (v := (0 : Int32)) hx hb dX7_parcelByForecast_25 (by decide) ?_
      refine lv_istore_n (lv' := [(2, .int (0 : Int32)), (0, .ref (YA Y 0 0)), (1, .int a1)]) hx hb dX7_parcelByForecast_26 rfl hl (by decide) rfl (fun ls hl => ?_)
      exact w_X7_parcelByForecast_27 C0 hl9 hn9 FU M a1 (0 : Int32) hf _ _ _ hH hS (lv_sub hl [1, 2, 0] rfl)
    · have hf := if_f hf hc25
      exact w_X7_parcelByForecast_15 C0 hl9 hn9 M hf _ _ _ hH hS (lv_sub hl [] rfl)
def f_X7_arrivalsWithin (M : Mem) (a1 : Int32) : Option ((Int32 ⊕ Nat) × Mem) := bx (f_X7_requireBetween M a1 (1 : Int32) (120 : Int32)) fun (r8 : Unit) (M7 : Mem) => bd (f_X5_parcelsArrivingWithin M7 0 a1) fun r10 => some (.inl r10, M7)
set_option maxHeartbeats 4000000 in
set_option maxRecDepth 100000 in
theorem c_X7_arrivalsWithin {Y : LY} {l : Launch} (hl9 : l.stackTraces = false) (M : Mem) (a1 : Int32) {x : Int32 ⊕ Nat} {MZ : Mem} (hf : f_X7_arrivalsWithin M a1 = some (x, MZ)) : vx_Met l yX7_arrivalsWithin (WS yX7_arrivalsWithin cX7_arrivalsWithin 2 (Option.some Jvm.ClassFile.FieldType.int)) { frames := 7, cells := 1, slots := 6, locals := 112 } (PcM Y M [.ref (YA Y 0 0), .int a1]) (Qxi Y x MZ) (Xx Y x MZ) 1 6 (AZ Y) := by
  refine met_mkx (lv := [(0, .ref (YA Y 0 0)), (1, .int a1)]) [.ref (YA Y 0 0), .int a1] (by decide) rfl rfl (Nat.le_of_ble_eq_true rfl) (fun p e s m below meth c C0 hn9 hH ls hl => ?_)
  have hS : va_S (AZ Y) s.heap s.heap [] := va_S.rf
  obtain ⟨hx, hb, hr, hml, hown, hA, hlocks, hK, hZ⟩ := id C0
  unfold f_X7_arrivalsWithin at hf
  refine lv_iload_n hx hb dX7_arrivalsWithin_0 rfl (lv_at hl 1 rfl) ?_
  refine lv_iconst (v := (1 : Int32)) hx hb dX7_arrivalsWithin_1 (by decide) ?_
  refine lv_bipush (v := (120 : Int32)) hx hb dX7_arrivalsWithin_2 (by decide) ?_
  obtain ⟨yr8, M7, hq6, hf⟩ := bx_o hf
  refine hx_cv (hx_runS C0 hH hS (n := 3) (As := [.int a1, .int (1 : Int32), .int (120 : Int32)]) (rest := []) (c_X7_requireBetween hl9 M a1 (1 : Int32) (120 : Int32) hq6) ⟨⟨zt_820, zt_821, zt_1, zt_822⟩, by decide, by decide, by decide +kernel⟩ ⟨rfl, rfl, Nat.le_of_ble_eq_true rfl, Nat.le_of_ble_eq_true rfl⟩ rfl rfl hl.1 (Nat.le_of_ble_eq_true rfl) ⟨Nat.le_of_ble_eq_true rfl, Nat.le_of_ble_eq_true rfl⟩ dX7_arrivalsWithin_4) hS C0 hn9 (by decide) (by decide) (fun k e => by subst e; exact bx_p (HS Y) hf) (fun r8 er8 H locs hH hS => ?_)
  subst er8
  have hf := bx_v hf
  refine lv_aload_n hx hb dX7_arrivalsWithin_7 rfl (lv_at hl 0 rfl) ?_
  refine hs_get hx hb (T := TX7) hA inAX7 hown hK hH 0 0 (by decide) 11 rfl rfl 0 (by decide) (hA _ zt_292) rfl rfl dX7_arrivalsWithin_8 ?_
  refine lv_iload_n hx hb dX7_arrivalsWithin_11 rfl (lv_at hl 1 rfl) ?_
  obtain ⟨r10, hq9, hf⟩ := bd_o hf
  refine hs_ci (hs_runV C0 hH hS (n := 1) (As := [.int a1]) (rest := []) (c_X5_parcelsArrivingWithin M7 0 a1 (by decide) hq9) ⟨⟨zt_1048, zt_1049, zt_1050, zt_3, zt_1051⟩, rfl, by decide, by decide, by decide +kernel⟩ ⟨rfl, rfl, Nat.le_of_ble_eq_true rfl, Nat.le_of_ble_eq_true rfl⟩ (hs_recv hK hH 1 0 (by decide) 9 rfl rfl) rfl rfl hl.1 (Nat.le_of_ble_eq_true rfl) ⟨Nat.le_of_ble_eq_true rfl, Nat.le_of_ble_eq_true rfl⟩ dX7_arrivalsWithin_12) hS (fun H locs hH hS => ?_)
  cases hf
  exact hx_iret C0 hH hS (by decide) (by decide) dX7_arrivalsWithin_15
def f_X7_deliveredIf_22 : Nat → Mem → Int32 → Int32 → Int32 → Option ((Int32 ⊕ Nat) × Mem)
  | 0, _, _, _, _ => none
  | n + 1, M, a1, a2, a3 => (if a1 ≤ a3 then some (.inl a2, M) else bd2 (f_X5_sendAllReady M 1) fun r16 M15 => bd2 (f_X5_letHourPass M15 1) fun r19 M18 => f_X7_deliveredIf_22 n M18 a1 (a2 + r19) (a3 + (1 : Int32)))
set_option maxHeartbeats 4000000 in
set_option maxRecDepth 100000 in
theorem w_X7_deliveredIf_22 {Y : LY} {p : Program} {l : Launch} {e : Env} {s : State} {m : MethodId} {args : Array Value} {below : List Frame} {meth : Method} {c : Code} (C0 : BE Y p s m args meth c cX7_deliveredIf 4 (Option.some Jvm.ClassFile.FieldType.int) RX7) (hl9 : l.stackTraces = false) (hn9 : ∀ z ∈ c.exceptionTable.toList, False) {x : Int32 ⊕ Nat} {MZ : Mem} : ∀ (n : Nat) (M : Mem) (a1 : Int32) (a2 : Int32) (a3 : Int32), f_X7_deliveredIf_22 n M a1 a2 a3 = some (x, MZ) → ∀ (H : Heap) (locs : List Loc) (ls : Array Slot), HS Y M H → va_S (AZ Y) s.heap H locs → lv_has ls 4 [(0, .ref (YA Y 0 0)), (1, .int a1), (2, .int a2), (3, .int a3)] → W p l e { frames := 7, cells := 1, slots := 6, locals := 122 } s m args below meth c H locs 1 6 (vx_MQ below (Qxi Y x MZ) (Xx Y x MZ) args s 1 6 (AZ Y)) (F0 m 22 ls []) := by
  obtain ⟨hx, hb, hr, hml, hown, hA, hlocks, hK, hZ⟩ := id C0
  intro n
  induction n with
  | zero =>
    intro M a1 a2 a3 hf
    cases hf
  | succ n ih =>
    intro M a1 a2 a3 hf H locs ls hH hS hl
    rw [f_X7_deliveredIf_22] at hf
    refine lv_iload_n hx hb dX7_deliveredIf_22 rfl (lv_at hl 3 rfl) ?_
    refine lv_iload_n hx hb dX7_deliveredIf_23 rfl (lv_at hl 1 rfl) ?_
    refine lv_icmp_ge (tgt := 51) hx hb dX7_deliveredIf_24 (by decide) (fun hc20 => ?_) (fun hc20 => ?_)
    · have hf := if_t hf hc20
      refine lv_iload_n hx hb dX7_deliveredIf_51 rfl (lv_at hl 2 rfl) ?_
      cases hf
      exact hx_iret C0 hH hS (by decide) (by decide) dX7_deliveredIf_52
    · have hf := if_f hf hc20
      refine lv_aload_n hx hb dX7_deliveredIf_27 rfl (lv_at hl 0 rfl) ?_
      refine hs_get hx hb (T := TX7) hA inAX7 hown hK hH 0 0 (by decide) 11 rfl rfl 1 (by decide) (hA _ zt_293) rfl rfl dX7_deliveredIf_28 ?_
      obtain ⟨r16, M15, hq14, hf⟩ := bd2_o hf
      refine hs_ci (hs_runV C0 hH hS (n := 0) (As := []) (rest := []) (c_X5_sendAllReady M 1 (by decide) hq14) ⟨⟨zt_1059, zt_584, zt_585, zt_3, zt_586⟩, rfl, by decide, by decide, by decide +kernel⟩ ⟨rfl, rfl, Nat.le_of_ble_eq_true rfl, Nat.le_of_ble_eq_true rfl⟩ (hs_recv hK hH 1 1 (by decide) 9 rfl rfl) rfl rfl hl.1 (Nat.le_of_ble_eq_true rfl) ⟨Nat.le_of_ble_eq_true rfl, Nat.le_of_ble_eq_true rfl⟩ dX7_deliveredIf_31) hS (fun H locs hH hS => ?_)
      refine lv_pop hx hb dX7_deliveredIf_34 rfl ?_
      refine lv_iload_n hx hb dX7_deliveredIf_35 rfl (lv_at hl 2 rfl) ?_
      refine lv_aload_n hx hb dX7_deliveredIf_36 rfl (lv_at hl 0 rfl) ?_
      refine hs_get hx hb (T := TX7) hA inAX7 hown hK hH 0 0 (by decide) 11 rfl rfl 1 (by decide) (hA _ zt_293) rfl rfl dX7_deliveredIf_37 ?_
      obtain ⟨r19, M18, hq17, hf⟩ := bd2_o hf
      refine hs_ci (hs_runV C0 hH hS (n := 0) (As := []) (rest := [.int a2]) (c_X5_letHourPass M15 1 (by decide) hq17) ⟨⟨zt_1060, zt_621, zt_622, zt_3, zt_623⟩, rfl, by decide, by decide, by decide +kernel⟩ ⟨rfl, rfl, Nat.le_of_ble_eq_true rfl, Nat.le_of_ble_eq_true rfl⟩ (hs_recv hK hH 1 1 (by decide) 9 rfl rfl) rfl rfl hl.1 (Nat.le_of_ble_eq_true rfl) ⟨Nat.le_of_ble_eq_true rfl, Nat.le_of_ble_eq_true rfl⟩ dX7_deliveredIf_40) hS (fun H locs hH hS => ?_)
      refine lv_iadd hx hb dX7_deliveredIf_43 ?_
      refine lv_istore_n (lv' := [(2, .int (a2 + r19)), (0, .ref (YA Y 0 0)), (1, .int a1), (3, .int a3)]) hx hb dX7_deliveredIf_44 rfl hl (by decide) rfl (fun ls hl => ?_)
      refine lv_iinc (v := a3 + (1 : Int32)) (lv' := [(3, .int (a3 + (1 : Int32))), (2, .int (a2 + r19)), (0, .ref (YA Y 0 0)), (1, .int a1)]) hx hb dX7_deliveredIf_45 hl (k := 3) rfl rfl (by decide) rfl (fun ls hl => ?_)
      refine lv_goto (tgt := 22) hx hb dX7_deliveredIf_48 (by decide) ?_
      exact ih M18 a1 (a2 + r19) (a3 + (1 : Int32)) hf _ _ _ hH hS (lv_sub hl [2, 3, 1, 0] rfl)
def f_X7_deliveredIf (M : Mem) (a1 : Int32) : Option ((Int32 ⊕ Nat) × Mem) := bx (f_X7_requireBetween M a1 (1 : Int32) (60 : Int32)) fun (r23 : Unit) (M22 : Mem) => bd (f_X5_copyFrom M22 1 0) fun M25 => f_X7_deliveredIf_22 FU M25 a1 (0 : Int32) (0 : Int32)
set_option maxHeartbeats 4000000 in
set_option maxRecDepth 100000 in
theorem c_X7_deliveredIf {Y : LY} {l : Launch} (hl9 : l.stackTraces = false) (M : Mem) (a1 : Int32) {x : Int32 ⊕ Nat} {MZ : Mem} (hf : f_X7_deliveredIf M a1 = some (x, MZ)) : vx_Met l yX7_deliveredIf (WS yX7_deliveredIf cX7_deliveredIf 4 (Option.some Jvm.ClassFile.FieldType.int)) { frames := 7, cells := 1, slots := 6, locals := 122 } (PcM Y M [.ref (YA Y 0 0), .int a1]) (Qxi Y x MZ) (Xx Y x MZ) 1 6 (AZ Y) := by
  refine met_mkx (lv := [(0, .ref (YA Y 0 0)), (1, .int a1)]) [.ref (YA Y 0 0), .int a1] (by decide) rfl rfl (Nat.le_of_ble_eq_true rfl) (fun p e s m below meth c C0 hn9 hH ls hl => ?_)
  have hS : va_S (AZ Y) s.heap s.heap [] := va_S.rf
  obtain ⟨hx, hb, hr, hml, hown, hA, hlocks, hK, hZ⟩ := id C0
  unfold f_X7_deliveredIf at hf
  refine lv_iload_n hx hb dX7_deliveredIf_0 rfl (lv_at hl 1 rfl) ?_
  refine lv_iconst (v := (1 : Int32)) hx hb dX7_deliveredIf_1 (by decide) ?_
  refine lv_bipush (v := (60 : Int32)) hx hb dX7_deliveredIf_2 (by decide) ?_
  obtain ⟨yr23, M22, hq21, hf⟩ := bx_o hf
  refine hx_cv (hx_runS C0 hH hS (n := 3) (As := [.int a1, .int (1 : Int32), .int (60 : Int32)]) (rest := []) (c_X7_requireBetween hl9 M a1 (1 : Int32) (60 : Int32) hq21) ⟨⟨zt_820, zt_821, zt_1, zt_822⟩, by decide, by decide, by decide +kernel⟩ ⟨rfl, rfl, Nat.le_of_ble_eq_true rfl, Nat.le_of_ble_eq_true rfl⟩ rfl rfl hl.1 (Nat.le_of_ble_eq_true rfl) ⟨Nat.le_of_ble_eq_true rfl, Nat.le_of_ble_eq_true rfl⟩ dX7_deliveredIf_4) hS C0 hn9 (by decide) (by decide) (fun k e => by subst e; exact bx_p (HS Y) hf) (fun r23 er23 H locs hH hS => ?_)
  subst er23
  have hf := bx_v hf
  refine lv_aload_n hx hb dX7_deliveredIf_7 rfl (lv_at hl 0 rfl) ?_
  refine hs_get hx hb (T := TX7) hA inAX7 hown hK hH 0 0 (by decide) 11 rfl rfl 1 (by decide) (hA _ zt_293) rfl rfl dX7_deliveredIf_8 ?_
  refine lv_aload_n hx hb dX7_deliveredIf_11 rfl (lv_at hl 0 rfl) ?_
  refine hs_get hx hb (T := TX7) hA inAX7 hown hK hH 0 0 (by decide) 11 rfl rfl 0 (by decide) (hA _ zt_292) rfl rfl dX7_deliveredIf_12 ?_
  obtain ⟨M25, hq24, hf⟩ := bd_o hf
  refine hs_cv (hs_runV C0 hH hS (n := 1) (As := [.ref (YA Y 1 0)]) (rest := []) (c_X5_copyFrom M22 1 0 (by decide) (by decide) hq24) ⟨⟨zt_686, zt_528, zt_529, zt_3, zt_530⟩, rfl, by decide, by decide, by decide +kernel⟩ ⟨rfl, rfl, Nat.le_of_ble_eq_true rfl, Nat.le_of_ble_eq_true rfl⟩ (hs_recv hK hH 1 1 (by decide) 9 rfl rfl) rfl rfl hl.1 (Nat.le_of_ble_eq_true rfl) ⟨Nat.le_of_ble_eq_true rfl, Nat.le_of_ble_eq_true rfl⟩ dX7_deliveredIf_15) hS (fun H locs hH hS => ?_)
  refine lv_iconst (v := (0 : Int32)) hx hb dX7_deliveredIf_18 (by decide) ?_
  refine lv_istore_n (lv' := [(2, .int (0 : Int32)), (0, .ref (YA Y 0 0)), (1, .int a1)]) hx hb dX7_deliveredIf_19 rfl hl (by decide) rfl (fun ls hl => ?_)
  refine lv_iconst (v := (0 : Int32)) hx hb dX7_deliveredIf_20 (by decide) ?_
  refine lv_istore_n (lv' := [(3, .int (0 : Int32)), (2, .int (0 : Int32)), (0, .ref (YA Y 0 0)), (1, .int a1)]) hx hb dX7_deliveredIf_21 rfl hl (by decide) rfl (fun ls hl => ?_)
  exact w_X7_deliveredIf_22 C0 hl9 hn9 FU M25 a1 (0 : Int32) (0 : Int32) hf _ _ _ hH hS (lv_sub hl [2, 3, 1, 0] rfl)
def f_X7_postedTotal (M : Mem) : Option Int32 := some (M 1 0 5)
set_option maxHeartbeats 4000000 in
set_option maxRecDepth 100000 in
theorem c_X7_postedTotal {Y : LY} {l : Launch} (M : Mem) {r : Int32} (hf : f_X7_postedTotal M = some r) : Met l yX7_postedTotal (WS yX7_postedTotal cX7_postedTotal 1 (Option.some Jvm.ClassFile.FieldType.int)) { frames := 0, cells := 0, slots := 0, locals := 0 } (PcM Y M [.ref (YA Y 0 0)]) (Qi Y r M) 0 0 (AZ Y) := by
  refine met_mk (lv := [(0, .ref (YA Y 0 0))]) [.ref (YA Y 0 0)] (by decide) rfl rfl (Nat.le_of_ble_eq_true rfl) (fun p e s m below meth c C0 hH ls hl => ?_)
  have hS : va_S (AZ Y) s.heap s.heap [] := va_S.rf
  obtain ⟨hx, hb, hr, hml, hown, hA, hlocks, hK, hZ⟩ := id C0
  unfold f_X7_postedTotal at hf
  refine lv_aload_n hx hb dX7_postedTotal_0 rfl (lv_at hl 0 rfl) ?_
  refine hs_get hx hb (T := TX7) hA inAX7 hown hK hH 0 0 (by decide) 11 rfl rfl 0 (by decide) (hA _ zt_292) rfl rfl dX7_postedTotal_1 ?_
  refine hs_get hx hb (T := TX5) hA inAX5 hown hK hH 1 0 (by decide) 9 rfl rfl 5 (by decide) (hA _ zt_182) rfl rfl dX7_postedTotal_4 ?_
  cases hf
  exact hs_iret C0 hH hS (by decide) (by decide) dX7_postedTotal_7
def f_X7_deliveredTotal (M : Mem) : Option Int32 := some (M 1 0 6)
set_option maxHeartbeats 4000000 in
set_option maxRecDepth 100000 in
theorem c_X7_deliveredTotal {Y : LY} {l : Launch} (M : Mem) {r : Int32} (hf : f_X7_deliveredTotal M = some r) : Met l yX7_deliveredTotal (WS yX7_deliveredTotal cX7_deliveredTotal 1 (Option.some Jvm.ClassFile.FieldType.int)) { frames := 0, cells := 0, slots := 0, locals := 0 } (PcM Y M [.ref (YA Y 0 0)]) (Qi Y r M) 0 0 (AZ Y) := by
  refine met_mk (lv := [(0, .ref (YA Y 0 0))]) [.ref (YA Y 0 0)] (by decide) rfl rfl (Nat.le_of_ble_eq_true rfl) (fun p e s m below meth c C0 hH ls hl => ?_)
  have hS : va_S (AZ Y) s.heap s.heap [] := va_S.rf
  obtain ⟨hx, hb, hr, hml, hown, hA, hlocks, hK, hZ⟩ := id C0
  unfold f_X7_deliveredTotal at hf
  refine lv_aload_n hx hb dX7_deliveredTotal_0 rfl (lv_at hl 0 rfl) ?_
  refine hs_get hx hb (T := TX7) hA inAX7 hown hK hH 0 0 (by decide) 11 rfl rfl 0 (by decide) (hA _ zt_292) rfl rfl dX7_deliveredTotal_1 ?_
  refine hs_get hx hb (T := TX5) hA inAX5 hown hK hH 1 0 (by decide) 9 rfl rfl 6 (by decide) (hA _ zt_184) rfl rfl dX7_deliveredTotal_4 ?_
  cases hf
  exact hs_iret C0 hH hS (by decide) (by decide) dX7_deliveredTotal_7
def f_X7_takenBackTotal (M : Mem) : Option Int32 := some (M 1 0 7)
set_option maxHeartbeats 4000000 in
set_option maxRecDepth 100000 in
theorem c_X7_takenBackTotal {Y : LY} {l : Launch} (M : Mem) {r : Int32} (hf : f_X7_takenBackTotal M = some r) : Met l yX7_takenBackTotal (WS yX7_takenBackTotal cX7_takenBackTotal 1 (Option.some Jvm.ClassFile.FieldType.int)) { frames := 0, cells := 0, slots := 0, locals := 0 } (PcM Y M [.ref (YA Y 0 0)]) (Qi Y r M) 0 0 (AZ Y) := by
  refine met_mk (lv := [(0, .ref (YA Y 0 0))]) [.ref (YA Y 0 0)] (by decide) rfl rfl (Nat.le_of_ble_eq_true rfl) (fun p e s m below meth c C0 hH ls hl => ?_)
  have hS : va_S (AZ Y) s.heap s.heap [] := va_S.rf
  obtain ⟨hx, hb, hr, hml, hown, hA, hlocks, hK, hZ⟩ := id C0
  unfold f_X7_takenBackTotal at hf
  refine lv_aload_n hx hb dX7_takenBackTotal_0 rfl (lv_at hl 0 rfl) ?_
  refine hs_get hx hb (T := TX7) hA inAX7 hown hK hH 0 0 (by decide) 11 rfl rfl 0 (by decide) (hA _ zt_292) rfl rfl dX7_takenBackTotal_1 ?_
  refine hs_get hx hb (T := TX5) hA inAX5 hown hK hH 1 0 (by decide) 9 rfl rfl 7 (by decide) (hA _ zt_186) rfl rfl dX7_takenBackTotal_4 ?_
  cases hf
  exact hs_iret C0 hH hS (by decide) (by decide) dX7_takenBackTotal_7
def f_X7_usedStamps (M : Mem) : Option Int32 := some (M 1 0 8)
set_option maxHeartbeats 4000000 in
set_option maxRecDepth 100000 in
theorem c_X7_usedStamps {Y : LY} {l : Launch} (M : Mem) {r : Int32} (hf : f_X7_usedStamps M = some r) : Met l yX7_usedStamps (WS yX7_usedStamps cX7_usedStamps 1 (Option.some Jvm.ClassFile.FieldType.int)) { frames := 0, cells := 0, slots := 0, locals := 0 } (PcM Y M [.ref (YA Y 0 0)]) (Qi Y r M) 0 0 (AZ Y) := by
  refine met_mk (lv := [(0, .ref (YA Y 0 0))]) [.ref (YA Y 0 0)] (by decide) rfl rfl (Nat.le_of_ble_eq_true rfl) (fun p e s m below meth c C0 hH ls hl => ?_)
  have hS : va_S (AZ Y) s.heap s.heap [] := va_S.rf
  obtain ⟨hx, hb, hr, hml, hown, hA, hlocks, hK, hZ⟩ := id C0
  unfold f_X7_usedStamps at hf
  refine lv_aload_n hx hb dX7_usedStamps_0 rfl (lv_at hl 0 rfl) ?_
  refine hs_get hx hb (T := TX7) hA inAX7 hown hK hH 0 0 (by decide) 11 rfl rfl 0 (by decide) (hA _ zt_292) rfl rfl dX7_usedStamps_1 ?_
  refine hs_get hx hb (T := TX5) hA inAX5 hown hK hH 1 0 (by decide) 9 rfl rfl 8 (by decide) (hA _ zt_188) rfl rfl dX7_usedStamps_4 ?_
  cases hf
  exact hs_iret C0 hH hS (by decide) (by decide) dX7_usedStamps_7
def f_X7_meanStamps (M : Mem) : Option ((UInt64 ⊕ Nat) × Mem) := (if (M 1 0 3) = 0 then some (.inr 4, M) else bd (f_X5_sumOfStamps M 0) fun r6 => if nn64 (FP.ddiv (FP.i2d r6) (FP.i2d (M 1 0 3))) then (some (.inl (FP.ddiv (FP.i2d r6) (FP.i2d (M 1 0 3))), M)) else none)
set_option maxHeartbeats 4000000 in
set_option maxRecDepth 100000 in
theorem c_X7_meanStamps {Y : LY} {l : Launch} (hl9 : l.stackTraces = false) (M : Mem) {x : UInt64 ⊕ Nat} {MZ : Mem} (hf : f_X7_meanStamps M = some (x, MZ)) : vx_Met l yX7_meanStamps (WS yX7_meanStamps cX7_meanStamps 1 (Option.some Jvm.ClassFile.FieldType.double)) { frames := 6, cells := 1, slots := 6, locals := 90 } (PcM Y M [.ref (YA Y 0 0)]) (Qxd Y x MZ) (Xx Y x MZ) 1 6 (AZ Y) := by
  refine met_mkx (lv := [(0, .ref (YA Y 0 0))]) [.ref (YA Y 0 0)] (by decide) rfl rfl (Nat.le_of_ble_eq_true rfl) (fun p e s m below meth c C0 hn9 hH ls hl => ?_)
  have hS : va_S (AZ Y) s.heap s.heap [] := va_S.rf
  obtain ⟨hx, hb, hr, hml, hown, hA, hlocks, hK, hZ⟩ := id C0
  unfold f_X7_meanStamps at hf
  refine lv_aload_n hx hb dX7_meanStamps_0 rfl (lv_at hl 0 rfl) ?_
  refine hs_get hx hb (T := TX7) hA inAX7 hown hK hH 0 0 (by decide) 11 rfl rfl 0 (by decide) (hA _ zt_292) rfl rfl dX7_meanStamps_1 ?_
  refine hs_get hx hb (T := TX5) hA inAX5 hown hK hH 1 0 (by decide) 9 rfl rfl 3 (by decide) (hA _ zt_178) rfl rfl dX7_meanStamps_4 ?_
  refine lv_if_ne (tgt := 21) hx hb dX7_meanStamps_7 (by decide) (fun hc8 => ?_) (fun hc8 => ?_)
  · have hf := if_f hf hc8
    refine lv_aload_n hx hb dX7_meanStamps_21 rfl (lv_at hl 0 rfl) ?_
    refine hs_get hx hb (T := TX7) hA inAX7 hown hK hH 0 0 (by decide) 11 rfl rfl 0 (by decide) (hA _ zt_292) rfl rfl dX7_meanStamps_22 ?_
    obtain ⟨r6, hq5, hf⟩ := bd_o hf
    refine hs_ci (hs_runV C0 hH hS (n := 0) (As := []) (rest := []) (c_X5_sumOfStamps M 0 (by decide) hq5) ⟨⟨zt_1085, zt_1086, zt_1087, zt_3, zt_1088⟩, rfl, by decide, by decide, by decide +kernel⟩ ⟨rfl, rfl, Nat.le_of_ble_eq_true rfl, Nat.le_of_ble_eq_true rfl⟩ (hs_recv hK hH 1 0 (by decide) 9 rfl rfl) rfl rfl hl.1 (Nat.le_of_ble_eq_true rfl) ⟨Nat.le_of_ble_eq_true rfl, Nat.le_of_ble_eq_true rfl⟩ dX7_meanStamps_25) hS (fun H locs hH hS => ?_)
    refine lv_i2d hx hb dX7_meanStamps_28 ?_
    refine lv_aload_n hx hb dX7_meanStamps_29 rfl (lv_at hl 0 rfl) ?_
    refine hs_get hx hb (T := TX7) hA inAX7 hown hK hH 0 0 (by decide) 11 rfl rfl 0 (by decide) (hA _ zt_292) rfl rfl dX7_meanStamps_30 ?_
    refine hs_get hx hb (T := TX5) hA inAX5 hown hK hH 1 0 (by decide) 9 rfl rfl 3 (by decide) (hA _ zt_178) rfl rfl dX7_meanStamps_33 ?_
    refine lv_i2d hx hb dX7_meanStamps_36 ?_
    obtain ⟨hg7, hf⟩ := gd_o hf
    refine lv_ddiv hx hb dX7_meanStamps_37 hg7 ?_
    cases hf
    exact hx_dret C0 hH hS (by decide) (by decide) dX7_meanStamps_38
  · have hf := if_t hf hc8
    cases hf
    exact hx_thr4w C0 hl9 hn9 hH hS hl.1 (is := 257) (text := "no parcels are in the service") (by decide +kernel) dX7_meanStamps_10 dX7_meanStamps_13 dX7_meanStamps_14 dX7_meanStamps_17 dX7_meanStamps_20 ⟨by decide, Nat.le_of_ble_eq_true rfl, by decide, by decide⟩ (by decide) (by decide)
def f_X7_blockedShare (M : Mem) : Option ((UInt32 ⊕ Nat) × Mem) := (if (M 2 0 2) = 0 then some (.inr 4, M) else bd (f_X2_blockedLinks M 0) fun r6 => if nn32 (FP.fdiv (FP.i2f r6) (FP.i2f (M 2 0 2))) then (some (.inl (FP.fdiv (FP.i2f r6) (FP.i2f (M 2 0 2))), M)) else none)
set_option maxHeartbeats 4000000 in
set_option maxRecDepth 100000 in
theorem c_X7_blockedShare {Y : LY} {l : Launch} (hl9 : l.stackTraces = false) (M : Mem) {x : UInt32 ⊕ Nat} {MZ : Mem} (hf : f_X7_blockedShare M = some (x, MZ)) : vx_Met l yX7_blockedShare (WS yX7_blockedShare cX7_blockedShare 1 (Option.some Jvm.ClassFile.FieldType.float)) { frames := 6, cells := 1, slots := 6, locals := 90 } (PcM Y M [.ref (YA Y 0 0)]) (Qxf Y x MZ) (Xx Y x MZ) 1 6 (AZ Y) := by
  refine met_mkx (lv := [(0, .ref (YA Y 0 0))]) [.ref (YA Y 0 0)] (by decide) rfl rfl (Nat.le_of_ble_eq_true rfl) (fun p e s m below meth c C0 hn9 hH ls hl => ?_)
  have hS : va_S (AZ Y) s.heap s.heap [] := va_S.rf
  obtain ⟨hx, hb, hr, hml, hown, hA, hlocks, hK, hZ⟩ := id C0
  unfold f_X7_blockedShare at hf
  refine lv_aload_n hx hb dX7_blockedShare_0 rfl (lv_at hl 0 rfl) ?_
  refine hs_get hx hb (T := TX7) hA inAX7 hown hK hH 0 0 (by decide) 11 rfl rfl 0 (by decide) (hA _ zt_292) rfl rfl dX7_blockedShare_1 ?_
  refine hs_get hx hb (T := TX5) hA inAX5 hown hK hH 1 0 (by decide) 9 rfl rfl 1 (by decide) (hA _ zt_174) rfl rfl dX7_blockedShare_4 ?_
  refine hs_get hx hb (T := TX2) hA inAX2 hown hK hH 2 0 (by decide) 6 rfl rfl 2 (by decide) (hA _ zt_121) rfl rfl dX7_blockedShare_7 ?_
  refine lv_if_ne (tgt := 23) hx hb dX7_blockedShare_10 (by decide) (fun hc8 => ?_) (fun hc8 => ?_)
  · have hf := if_f hf hc8
    refine lv_aload_n hx hb dX7_blockedShare_23 rfl (lv_at hl 0 rfl) ?_
    refine hs_get hx hb (T := TX7) hA inAX7 hown hK hH 0 0 (by decide) 11 rfl rfl 0 (by decide) (hA _ zt_292) rfl rfl dX7_blockedShare_24 ?_
    refine hs_get hx hb (T := TX5) hA inAX5 hown hK hH 1 0 (by decide) 9 rfl rfl 1 (by decide) (hA _ zt_174) rfl rfl dX7_blockedShare_27 ?_
    obtain ⟨r6, hq5, hf⟩ := bd_o hf
    refine hs_ci (hs_runV C0 hH hS (n := 0) (As := []) (rest := []) (c_X2_blockedLinks M 0 (by decide) hq5) ⟨⟨zt_1096, zt_561, zt_562, zt_4, zt_563⟩, rfl, by decide, by decide, by decide +kernel⟩ ⟨rfl, rfl, Nat.le_of_ble_eq_true rfl, Nat.le_of_ble_eq_true rfl⟩ (hs_recv hK hH 2 0 (by decide) 6 rfl rfl) rfl rfl hl.1 (Nat.le_of_ble_eq_true rfl) ⟨Nat.le_of_ble_eq_true rfl, Nat.le_of_ble_eq_true rfl⟩ dX7_blockedShare_30) hS (fun H locs hH hS => ?_)
    refine lv_i2f hx hb dX7_blockedShare_33 ?_
    refine lv_aload_n hx hb dX7_blockedShare_34 rfl (lv_at hl 0 rfl) ?_
    refine hs_get hx hb (T := TX7) hA inAX7 hown hK hH 0 0 (by decide) 11 rfl rfl 0 (by decide) (hA _ zt_292) rfl rfl dX7_blockedShare_35 ?_
    refine hs_get hx hb (T := TX5) hA inAX5 hown hK hH 1 0 (by decide) 9 rfl rfl 1 (by decide) (hA _ zt_174) rfl rfl dX7_blockedShare_38 ?_
    refine hs_get hx hb (T := TX2) hA inAX2 hown hK hH 2 0 (by decide) 6 rfl rfl 2 (by decide) (hA _ zt_121) rfl rfl dX7_blockedShare_41 ?_
    refine lv_i2f hx hb dX7_blockedShare_44 ?_
    obtain ⟨hg7, hf⟩ := gd_o hf
    refine lv_fdiv hx hb dX7_blockedShare_45 hg7 ?_
    cases hf
    exact hx_fret C0 hH hS (by decide) (by decide) dX7_blockedShare_46
  · have hf := if_t hf hc8
    cases hf
    exact hx_thr4 C0 hl9 hn9 hH hS hl.1 (is := 122) (text := "there are no links") (by decide +kernel) dX7_blockedShare_13 dX7_blockedShare_16 dX7_blockedShare_17 dX7_blockedShare_19 dX7_blockedShare_22 ⟨by decide, Nat.le_of_ble_eq_true rfl, by decide, by decide⟩ (by decide) (by decide)
def f_X7_bothArrivalsAgree_18 (k2 : Mem → Int32 → Option (Int32 × Mem)) : Nat → Mem → Int32 → Int32 → Option (Int32 × Mem)
  | 0, _, _, _ => none
  | n + 1, M, a1, a2 => (if (M 2 0 1) ≤ a2 then k2 M (a1 + (1 : Int32)) else bd2 (f_X6_arrivalBySettling M 0 a1 a2 (M 1 0 4)) fun r12 M11 => bd2 (f_X6_arrivalHourByHour M11 0 a1 a2 (M11 1 0 4)) fun r15 M14 => (if r12 = r15 then f_X7_bothArrivalsAgree_18 k2 n M14 a1 (a2 + (1 : Int32)) else some ((0 : Int32), M14)))
set_option maxHeartbeats 4000000 in
set_option maxRecDepth 100000 in
theorem w_X7_bothArrivalsAgree_18 {Y : LY} {p : Program} {l : Launch} {e : Env} {s : State} {m : MethodId} {args : Array Value} {below : List Frame} {meth : Method} {c : Code} (C0 : BE Y p s m args meth c cX7_bothArrivalsAgree 4 (Option.some Jvm.ClassFile.FieldType.boolean) RX7) {r : Int32} {MZ : Mem} (k2 : Mem → Int32 → Option (Int32 × Mem)) (hk2 : ∀ (M : Mem) (a1 : Int32), k2 M a1 = some (r, MZ) → ∀ (H : Heap) (locs : List Loc) (ls : Array Slot), HS Y M H → va_S (AZ Y) s.heap H locs → lv_has ls 4 [(0, .ref (YA Y 0 0)), (1, .int a1)] → W p l e { frames := 3, cells := 0, slots := 0, locals := 73 } s m args below meth c H locs 0 0 (MQ below (Qi Y r MZ) args s 0 0 (AZ Y)) (F0 m 2 ls [])) : ∀ (n : Nat) (M : Mem) (a1 : Int32) (a2 : Int32), f_X7_bothArrivalsAgree_18 k2 n M a1 a2 = some (r, MZ) → ∀ (H : Heap) (locs : List Loc) (ls : Array Slot), HS Y M H → va_S (AZ Y) s.heap H locs → lv_has ls 4 [(0, .ref (YA Y 0 0)), (1, .int a1), (2, .int a2)] → W p l e { frames := 3, cells := 0, slots := 0, locals := 73 } s m args below meth c H locs 0 0 (MQ below (Qi Y r MZ) args s 0 0 (AZ Y)) (F0 m 18 ls []) := by
  obtain ⟨hx, hb, hr, hml, hown, hA, hlocks, hK, hZ⟩ := id C0
  intro n
  induction n with
  | zero =>
    intro M a1 a2 hf
    cases hf
  | succ n ih =>
    intro M a1 a2 hf H locs ls hH hS hl
    rw [f_X7_bothArrivalsAgree_18] at hf
    refine lv_iload_n hx hb dX7_bothArrivalsAgree_18 rfl (lv_at hl 2 rfl) ?_
    refine lv_aload_n hx hb dX7_bothArrivalsAgree_19 rfl (lv_at hl 0 rfl) ?_
    refine hs_get hx hb (T := TX7) hA inAX7 hown hK hH 0 0 (by decide) 11 rfl rfl 0 (by decide) (hA _ zt_292) rfl rfl dX7_bothArrivalsAgree_20 ?_
    refine hs_get hx hb (T := TX5) hA inAX5 hown hK hH 1 0 (by decide) 9 rfl rfl 1 (by decide) (hA _ zt_174) rfl rfl dX7_bothArrivalsAgree_23 ?_
    refine hs_get hx hb (T := TX2) hA inAX2 hown hK hH 2 0 (by decide) 6 rfl rfl 1 (by decide) (hA _ zt_117) rfl rfl dX7_bothArrivalsAgree_26 ?_
    refine lv_icmp_ge (tgt := 91) hx hb dX7_bothArrivalsAgree_29 (by decide) (fun hc17 => ?_) (fun hc17 => ?_)
    · have hf := if_t hf hc17
      refine lv_iinc (v := a1 + (1 : Int32)) (lv' := [(1, .int (a1 + (1 : Int32))), (0, .ref (YA Y 0 0)), (2, .int a2)]) hx hb dX7_bothArrivalsAgree_91 hl (k := 1) rfl rfl (by decide) rfl (fun ls hl => ?_)
      refine lv_goto (tgt := 2) hx hb dX7_bothArrivalsAgree_94 (by decide) ?_
      exact hk2 M (a1 + (1 : Int32)) hf _ _ _ hH hS (lv_sub hl [1, 0] rfl)
    · have hf := if_f hf hc17
      refine lv_aload_n hx hb dX7_bothArrivalsAgree_32 rfl (lv_at hl 0 rfl) ?_
      refine hs_get hx hb (T := TX7) hA inAX7 hown hK hH 0 0 (by decide) 11 rfl rfl 4 (by decide) (hA _ zt_296) rfl rfl dX7_bothArrivalsAgree_33 ?_
      refine lv_aload_n hx hb dX7_bothArrivalsAgree_36 rfl (lv_at hl 0 rfl) ?_
      refine hs_get hx hb (T := TX7) hA inAX7 hown hK hH 0 0 (by decide) 11 rfl rfl 0 (by decide) (hA _ zt_292) rfl rfl dX7_bothArrivalsAgree_37 ?_
      refine hs_get hx hb (T := TX5) hA inAX5 hown hK hH 1 0 (by decide) 9 rfl rfl 1 (by decide) (hA _ zt_174) rfl rfl dX7_bothArrivalsAgree_40 ?_
      refine lv_iload_n hx hb dX7_bothArrivalsAgree_43 rfl (lv_at hl 1 rfl) ?_
      refine lv_iload_n hx hb dX7_bothArrivalsAgree_44 rfl (lv_at hl 2 rfl) ?_
      refine lv_aload_n hx hb dX7_bothArrivalsAgree_45 rfl (lv_at hl 0 rfl) ?_
      refine hs_get hx hb (T := TX7) hA inAX7 hown hK hH 0 0 (by decide) 11 rfl rfl 0 (by decide) (hA _ zt_292) rfl rfl dX7_bothArrivalsAgree_46 ?_
      refine hs_get hx hb (T := TX5) hA inAX5 hown hK hH 1 0 (by decide) 9 rfl rfl 4 (by decide) (hA _ zt_180) rfl rfl dX7_bothArrivalsAgree_49 ?_
      obtain ⟨r12, M11, hq10, hf⟩ := bd2_o hf
      refine hs_ci (hs_runV C0 hH hS (n := 4) (As := [.ref (YA Y 2 0), .int a1, .int a2, .int (M 1 0 4)]) (rest := []) (c_X6_arrivalBySettling M 0 a1 a2 (M 1 0 4) (by decide) hq10) ⟨⟨zt_664, zt_592, zt_593, zt_2, zt_594⟩, rfl, by decide, by decide, by decide +kernel⟩ ⟨rfl, rfl, Nat.le_of_ble_eq_true rfl, Nat.le_of_ble_eq_true rfl⟩ (hs_recv hK hH 7 0 (by decide) 10 rfl rfl) rfl rfl hl.1 (Nat.le_of_ble_eq_true rfl) ⟨Nat.le_of_ble_eq_true rfl, Nat.le_of_ble_eq_true rfl⟩ dX7_bothArrivalsAgree_52) hS (fun H locs hH hS => ?_)
      refine lv_istore_n (lv' := [(3, .int r12), (0, .ref (YA Y 0 0)), (1, .int a1), (2, .int a2)]) hx hb dX7_bothArrivalsAgree_55 rfl hl (by decide) rfl (fun ls hl => ?_)
      refine lv_iload_n hx hb dX7_bothArrivalsAgree_56 rfl (lv_at hl 0 rfl) ?_
      refine lv_aload_n hx hb dX7_bothArrivalsAgree_57 rfl (lv_at hl 1 rfl) ?_
      refine hs_get hx hb (T := TX7) hA inAX7 hown hK hH 0 0 (by decide) 11 rfl rfl 4 (by decide) (hA _ zt_296) rfl rfl dX7_bothArrivalsAgree_58 ?_
      refine lv_aload_n hx hb dX7_bothArrivalsAgree_61 rfl (lv_at hl 1 rfl) ?_
      refine hs_get hx hb (T := TX7) hA inAX7 hown hK hH 0 0 (by decide) 11 rfl rfl 0 (by decide) (hA _ zt_292) rfl rfl dX7_bothArrivalsAgree_62 ?_
      refine hs_get hx hb (T := TX5) hA inAX5 hown hK hH 1 0 (by decide) 9 rfl rfl 1 (by decide) (hA _ zt_174) rfl rfl dX7_bothArrivalsAgree_65 ?_
      refine lv_iload_n hx hb dX7_bothArrivalsAgree_68 rfl (lv_at hl 2 rfl) ?_
      refine lv_iload_n hx hb dX7_bothArrivalsAgree_69 rfl (lv_at hl 3 rfl) ?_
      refine lv_aload_n hx hb dX7_bothArrivalsAgree_70 rfl (lv_at hl 1 rfl) ?_
      refine hs_get hx hb (T := TX7) hA inAX7 hown hK hH 0 0 (by decide) 11 rfl rfl 0 (by decide) (hA _ zt_292) rfl rfl dX7_bothArrivalsAgree_71 ?_
      refine hs_get hx hb (T := TX5) hA inAX5 hown hK hH 1 0 (by decide) 9 rfl rfl 4 (by decide) (hA _ zt_180) rfl rfl dX7_bothArrivalsAgree_74 ?_
      obtain ⟨r15, M14, hq13, hf⟩ := bd2_o hf
      refine hs_ci (hs_runV C0 hH hS (n := 4) (As := [.ref (YA Y 2 0), .int a1, .int a2, .int (M11 1 0 4)]) (rest := [.int r12]) (c_X6_arrivalHourByHour M11 0 a1 a2 (M11 1 0 4) (by decide) hq13) ⟨⟨zt_665, zt_666, zt_667, zt_2, zt_668⟩, rfl, by decide, by decide, by decide +kernel⟩ ⟨rfl, rfl, Nat.le_of_ble_eq_true rfl, Nat.le_of_ble_eq_true rfl⟩ (hs_recv hK hH 7 0 (by decide) 10 rfl rfl) rfl rfl hl.1 (Nat.le_of_ble_eq_true rfl) ⟨Nat.le_of_ble_eq_true rfl, Nat.le_of_ble_eq_true rfl⟩ dX7_bothArrivalsAgree_77) hS (fun H locs hH hS => ?_)
      refine lv_icmp_eq (tgt := 85) hx hb dX7_bothArrivalsAgree_80 (by decide) (fun hc16 => ?_) (fun hc16 => ?_)
      · have hf := if_t hf hc16
        refine lv_iinc (v := a2 + (1 : Int32)) (lv' := [(2, .int (a2 + (1 : Int32))), (3, .int r12), (0, .ref (YA Y 0 0)), (1, .int a1)]) hx hb dX7_bothArrivalsAgree_85 hl (k := 3) rfl rfl (by decide) rfl (fun ls hl => ?_)
        refine lv_goto (tgt := 18) hx hb dX7_bothArrivalsAgree_88 (by decide) ?_
        exact ih M14 a1 (a2 + (1 : Int32)) hf _ _ _ hH hS (lv_sub hl [2, 3, 0] rfl)
      · have hf := if_f hf hc16
        refine lv_iconst (v := (0 : Int32)) hx hb dX7_bothArrivalsAgree_83 (by decide) ?_
        cases hf
        exact hs_zret C0 hH hS (by decide) (by decide) (by decide) dX7_bothArrivalsAgree_84
def f_X7_bothArrivalsAgree_2 : Nat → Mem → Int32 → Option (Int32 × Mem)
  | 0, _, _ => none
  | n + 1, M, a1 => (if (M 2 0 1) ≤ a1 then some ((1 : Int32), M) else f_X7_bothArrivalsAgree_18 (f_X7_bothArrivalsAgree_2 n) FU M a1 (0 : Int32))
set_option maxHeartbeats 4000000 in
set_option maxRecDepth 100000 in
theorem w_X7_bothArrivalsAgree_2 {Y : LY} {p : Program} {l : Launch} {e : Env} {s : State} {m : MethodId} {args : Array Value} {below : List Frame} {meth : Method} {c : Code} (C0 : BE Y p s m args meth c cX7_bothArrivalsAgree 4 (Option.some Jvm.ClassFile.FieldType.boolean) RX7) {r : Int32} {MZ : Mem} : ∀ (n : Nat) (M : Mem) (a1 : Int32), f_X7_bothArrivalsAgree_2 n M a1 = some (r, MZ) → ∀ (H : Heap) (locs : List Loc) (ls : Array Slot), HS Y M H → va_S (AZ Y) s.heap H locs → lv_has ls 4 [(0, .ref (YA Y 0 0)), (1, .int a1)] → W p l e { frames := 3, cells := 0, slots := 0, locals := 73 } s m args below meth c H locs 0 0 (MQ below (Qi Y r MZ) args s 0 0 (AZ Y)) (F0 m 2 ls []) := by
  obtain ⟨hx, hb, hr, hml, hown, hA, hlocks, hK, hZ⟩ := id C0
  intro n
  induction n with
  | zero =>
    intro M a1 hf
    cases hf
  | succ n ih =>
    intro M a1 hf H locs ls hH hS hl
    rw [f_X7_bothArrivalsAgree_2] at hf
    refine lv_iload_n hx hb dX7_bothArrivalsAgree_2 rfl (lv_at hl 1 rfl) ?_
    refine lv_aload_n hx hb dX7_bothArrivalsAgree_3 rfl (lv_at hl 0 rfl) ?_
    refine hs_get hx hb (T := TX7) hA inAX7 hown hK hH 0 0 (by decide) 11 rfl rfl 0 (by decide) (hA _ zt_292) rfl rfl dX7_bothArrivalsAgree_4 ?_
    refine hs_get hx hb (T := TX5) hA inAX5 hown hK hH 1 0 (by decide) 9 rfl rfl 1 (by decide) (hA _ zt_174) rfl rfl dX7_bothArrivalsAgree_7 ?_
    refine hs_get hx hb (T := TX2) hA inAX2 hown hK hH 2 0 (by decide) 6 rfl rfl 1 (by decide) (hA _ zt_117) rfl rfl dX7_bothArrivalsAgree_10 ?_
    refine lv_icmp_ge (tgt := 97) hx hb dX7_bothArrivalsAgree_13 (by decide) (fun hc18 => ?_) (fun hc18 => ?_)
    · have hf := if_t hf hc18
      refine lv_iconst (v := (1 : Int32)) hx hb dX7_bothArrivalsAgree_97 (by decide) ?_
      cases hf
      exact hs_zret C0 hH hS (by decide) (by decide) (by decide) dX7_bothArrivalsAgree_98
    · have hf := if_f hf hc18
      refine lv_iconst (v := (0 : Int32)) hx hb dX7_bothArrivalsAgree_16 (by decide) ?_
      refine lv_istore_n (lv' := [(2, .int (0 : Int32)), (0, .ref (YA Y 0 0)), (1, .int a1)]) hx hb dX7_bothArrivalsAgree_17 rfl hl (by decide) rfl (fun ls hl => ?_)
      exact w_X7_bothArrivalsAgree_18 C0 (f_X7_bothArrivalsAgree_2 n) ih FU M a1 (0 : Int32) hf _ _ _ hH hS (lv_sub hl [1, 2, 0] rfl)
def f_X7_bothArrivalsAgree (M : Mem) : Option (Int32 × Mem) := f_X7_bothArrivalsAgree_2 FU M (0 : Int32)
set_option maxHeartbeats 4000000 in
set_option maxRecDepth 100000 in
theorem c_X7_bothArrivalsAgree {Y : LY} {l : Launch} (M : Mem) {r : Int32} {MZ : Mem} (hf : f_X7_bothArrivalsAgree M = some (r, MZ)) : Met l yX7_bothArrivalsAgree (WS yX7_bothArrivalsAgree cX7_bothArrivalsAgree 4 (Option.some Jvm.ClassFile.FieldType.boolean)) { frames := 3, cells := 0, slots := 0, locals := 73 } (PcM Y M [.ref (YA Y 0 0)]) (Qi Y r MZ) 0 0 (AZ Y) := by
  refine met_mk (lv := [(0, .ref (YA Y 0 0))]) [.ref (YA Y 0 0)] (by decide) rfl rfl (Nat.le_of_ble_eq_true rfl) (fun p e s m below meth c C0 hH ls hl => ?_)
  have hS : va_S (AZ Y) s.heap s.heap [] := va_S.rf
  obtain ⟨hx, hb, hr, hml, hown, hA, hlocks, hK, hZ⟩ := id C0
  unfold f_X7_bothArrivalsAgree at hf
  refine lv_iconst (v := (0 : Int32)) hx hb dX7_bothArrivalsAgree_0 (by decide) ?_
  refine lv_istore_n (lv' := [(1, .int (0 : Int32)), (0, .ref (YA Y 0 0))]) hx hb dX7_bothArrivalsAgree_1 rfl hl (by decide) rfl (fun ls hl => ?_)
  exact w_X7_bothArrivalsAgree_2 C0 FU M (0 : Int32) hf _ _ _ hH hS (lv_sub hl [1, 0] rfl)
def f_X7_isConsistent (M : Mem) : Option (Int32 × Mem) := bd2 (f_X7_bothArrivalsAgree M) fun r11 M10 => (if r11 = 0 then some ((0 : Int32), M10) else bd (f_X5_noLinkIsOverloaded M10 0) fun r13 => (if r13 = 0 then some ((0 : Int32), M10) else (if (M10 1 0 5) = (((M10 1 0 3) + (M10 1 0 6)) + (M10 1 0 7)) then some ((1 : Int32), M10) else some ((0 : Int32), M10))))
set_option maxHeartbeats 4000000 in
set_option maxRecDepth 100000 in
theorem c_X7_isConsistent {Y : LY} {l : Launch} (M : Mem) {r : Int32} {MZ : Mem} (hf : f_X7_isConsistent M = some (r, MZ)) : Met l yX7_isConsistent (WS yX7_isConsistent cX7_isConsistent 1 (Option.some Jvm.ClassFile.FieldType.boolean)) { frames := 4, cells := 0, slots := 0, locals := 96 } (PcM Y M [.ref (YA Y 0 0)]) (Qi Y r MZ) 0 0 (AZ Y) := by
  refine met_mk (lv := [(0, .ref (YA Y 0 0))]) [.ref (YA Y 0 0)] (by decide) rfl rfl (Nat.le_of_ble_eq_true rfl) (fun p e s m below meth c C0 hH ls hl => ?_)
  have hS : va_S (AZ Y) s.heap s.heap [] := va_S.rf
  obtain ⟨hx, hb, hr, hml, hown, hA, hlocks, hK, hZ⟩ := id C0
  unfold f_X7_isConsistent at hf
  refine lv_aload_n hx hb dX7_isConsistent_0 rfl (lv_at hl 0 rfl) ?_
  obtain ⟨r11, M10, hq9, hf⟩ := bd2_o hf
  refine hs_ci (hs_runV C0 hH hS (n := 0) (As := []) (rest := []) (c_X7_bothArrivalsAgree M hq9) ⟨⟨zt_660, zt_662, zs_19, zt_1, zt_663⟩, rfl, by decide, by decide, by decide +kernel⟩ ⟨rfl, rfl, Nat.le_of_ble_eq_true rfl, Nat.le_of_ble_eq_true rfl⟩ (hs_recv hK hH 0 0 (by decide) 11 rfl rfl) rfl rfl hl.1 (Nat.le_of_ble_eq_true rfl) ⟨Nat.le_of_ble_eq_true rfl, Nat.le_of_ble_eq_true rfl⟩ dX7_isConsistent_1) hS (fun H locs hH hS => ?_)
  refine lv_if_eq (tgt := 54) hx hb dX7_isConsistent_4 (by decide) (fun hc16 => ?_) (fun hc16 => ?_)
  · have hf := if_t hf hc16
    refine lv_iconst (v := (0 : Int32)) hx hb dX7_isConsistent_54 (by decide) ?_
    cases hf
    exact hs_zret C0 hH hS (by decide) (by decide) (by decide) dX7_isConsistent_55
  · have hf := if_f hf hc16
    refine lv_aload_n hx hb dX7_isConsistent_7 rfl (lv_at hl 0 rfl) ?_
    refine hs_get hx hb (T := TX7) hA inAX7 hown hK hH 0 0 (by decide) 11 rfl rfl 0 (by decide) (hA _ zt_292) rfl rfl dX7_isConsistent_8 ?_
    obtain ⟨r13, hq12, hf⟩ := bd_o hf
    refine hs_ci (hs_runV C0 hH hS (n := 0) (As := []) (rest := []) (c_X5_noLinkIsOverloaded M10 0 (by decide) hq12) ⟨⟨zt_674, zt_675, zt_676, zt_3, zt_677⟩, rfl, by decide, by decide, by decide +kernel⟩ ⟨rfl, rfl, Nat.le_of_ble_eq_true rfl, Nat.le_of_ble_eq_true rfl⟩ (hs_recv hK hH 1 0 (by decide) 9 rfl rfl) rfl rfl hl.1 (Nat.le_of_ble_eq_true rfl) ⟨Nat.le_of_ble_eq_true rfl, Nat.le_of_ble_eq_true rfl⟩ dX7_isConsistent_11) hS (fun H locs hH hS => ?_)
    refine lv_if_eq (tgt := 54) hx hb dX7_isConsistent_14 (by decide) (fun hc15 => ?_) (fun hc15 => ?_)
    · have hf := if_t hf hc15
      refine lv_iconst (v := (0 : Int32)) hx hb dX7_isConsistent_54 (by decide) ?_
      cases hf
      exact hs_zret C0 hH hS (by decide) (by decide) (by decide) dX7_isConsistent_55
    · have hf := if_f hf hc15
      refine lv_aload_n hx hb dX7_isConsistent_17 rfl (lv_at hl 0 rfl) ?_
      refine hs_get hx hb (T := TX7) hA inAX7 hown hK hH 0 0 (by decide) 11 rfl rfl 0 (by decide) (hA _ zt_292) rfl rfl dX7_isConsistent_18 ?_
      refine hs_get hx hb (T := TX5) hA inAX5 hown hK hH 1 0 (by decide) 9 rfl rfl 5 (by decide) (hA _ zt_182) rfl rfl dX7_isConsistent_21 ?_
      refine lv_aload_n hx hb dX7_isConsistent_24 rfl (lv_at hl 0 rfl) ?_
      refine hs_get hx hb (T := TX7) hA inAX7 hown hK hH 0 0 (by decide) 11 rfl rfl 0 (by decide) (hA _ zt_292) rfl rfl dX7_isConsistent_25 ?_
      refine hs_get hx hb (T := TX5) hA inAX5 hown hK hH 1 0 (by decide) 9 rfl rfl 3 (by decide) (hA _ zt_178) rfl rfl dX7_isConsistent_28 ?_
      refine lv_aload_n hx hb dX7_isConsistent_31 rfl (lv_at hl 0 rfl) ?_
      refine hs_get hx hb (T := TX7) hA inAX7 hown hK hH 0 0 (by decide) 11 rfl rfl 0 (by decide) (hA _ zt_292) rfl rfl dX7_isConsistent_32 ?_
      refine hs_get hx hb (T := TX5) hA inAX5 hown hK hH 1 0 (by decide) 9 rfl rfl 6 (by decide) (hA _ zt_184) rfl rfl dX7_isConsistent_35 ?_
      refine lv_iadd hx hb dX7_isConsistent_38 ?_
      refine lv_aload_n hx hb dX7_isConsistent_39 rfl (lv_at hl 0 rfl) ?_
      refine hs_get hx hb (T := TX7) hA inAX7 hown hK hH 0 0 (by decide) 11 rfl rfl 0 (by decide) (hA _ zt_292) rfl rfl dX7_isConsistent_40 ?_
      refine hs_get hx hb (T := TX5) hA inAX5 hown hK hH 1 0 (by decide) 9 rfl rfl 7 (by decide) (hA _ zt_186) rfl rfl dX7_isConsistent_43 ?_
      refine lv_iadd hx hb dX7_isConsistent_46 ?_
      refine lv_icmp_ne (tgt := 54) hx hb dX7_isConsistent_47 (by decide) (fun hc14 => ?_) (fun hc14 => ?_)
      · have hf := if_f hf hc14
        refine lv_iconst (v := (0 : Int32)) hx hb dX7_isConsistent_54 (by decide) ?_
        cases hf
        exact hs_zret C0 hH hS (by decide) (by decide) (by decide) dX7_isConsistent_55
      · have hf := if_t hf hc14
        refine lv_iconst (v := (1 : Int32)) hx hb dX7_isConsistent_50 (by decide) ?_
        refine lv_goto (tgt := 55) hx hb dX7_isConsistent_51 (by decide) ?_
        cases hf
        exact hs_zret C0 hH hS (by decide) (by decide) (by decide) dX7_isConsistent_55
def f_X7_append_12 (M : Mem) : Option ((Int32 ⊕ Nat) × Mem) := some (.inr 1, M)
set_option maxHeartbeats 4000000 in
set_option maxRecDepth 100000 in
theorem w_X7_append_12 {Y : LY} {p : Program} {l : Launch} {e : Env} {s : State} {m : MethodId} {args : Array Value} {below : List Frame} {meth : Method} {c : Code} (C0 : BE Y p s m args meth c cX7_append 2 (Option.some Jvm.ClassFile.FieldType.int) RX7) (hl9 : l.stackTraces = false) (hn9 : ∀ z ∈ c.exceptionTable.toList, False) {x : Int32 ⊕ Nat} {MZ : Mem} : ∀ (M : Mem), f_X7_append_12 M = some (x, MZ) → ∀ (H : Heap) (locs : List Loc) (ls : Array Slot), HS Y M H → va_S (AZ Y) s.heap H locs → lv_has ls 2 [] → W p l e { frames := 6, cells := 1, slots := 6, locals := 90 } s m args below meth c H locs 0 0 (vx_MQ below (Qxi Y x MZ) (Xx Y x MZ) args s 1 6 (AZ Y)) (F0 m 12 ls []) := by
  obtain ⟨hx, hb, hr, hml, hown, hA, hlocks, hK, hZ⟩ := id C0
  intro M hf H locs ls hH hS hl
  unfold f_X7_append_12 at hf
  cases hf
  exact hx_thr1w C0 hl9 hn9 hH hS hl.1 (is := 295) (text := "the character is not in the range from ' ' to '~'") (by decide +kernel) dX7_append_12 dX7_append_15 dX7_append_16 dX7_append_19 dX7_append_22 ⟨by decide, Nat.le_of_ble_eq_true rfl, by decide, by decide⟩ (by decide) (by decide)
def f_X7_append (M : Mem) (a1 : Int32) : Option ((Int32 ⊕ Nat) × Mem) := (if a1 < (32 : Int32) then f_X7_append_12 M else (if a1 ≤ (126 : Int32) then (if (M 13 0 1) < (60 : Int32) then bd2 (f_X4_take M a1) fun r9 M8 => some (.inl r9, M8) else some (.inr 2, M)) else f_X7_append_12 M))
set_option maxHeartbeats 4000000 in
set_option maxRecDepth 100000 in
theorem c_X7_append {Y : LY} {l : Launch} (hl9 : l.stackTraces = false) (M : Mem) (a1 : Int32) {x : Int32 ⊕ Nat} {MZ : Mem} (hf : f_X7_append M a1 = some (x, MZ)) : vx_Met l yX7_append (WS yX7_append cX7_append 2 (Option.some Jvm.ClassFile.FieldType.int)) { frames := 6, cells := 1, slots := 6, locals := 90 } (PcM Y M [.ref (YA Y 0 0), .int a1]) (Qxi Y x MZ) (Xx Y x MZ) 1 6 (AZ Y) := by
  refine met_mkx (lv := [(0, .ref (YA Y 0 0)), (1, .int a1)]) [.ref (YA Y 0 0), .int a1] (by decide) rfl rfl (Nat.le_of_ble_eq_true rfl) (fun p e s m below meth c C0 hn9 hH ls hl => ?_)
  have hS : va_S (AZ Y) s.heap s.heap [] := va_S.rf
  obtain ⟨hx, hb, hr, hml, hown, hA, hlocks, hK, hZ⟩ := id C0
  unfold f_X7_append at hf
  refine lv_iload_n hx hb dX7_append_0 rfl (lv_at hl 1 rfl) ?_
  refine lv_bipush (v := (32 : Int32)) hx hb dX7_append_1 (by decide) ?_
  refine lv_icmp_lt (tgt := 12) hx hb dX7_append_3 (by decide) (fun hc12 => ?_) (fun hc12 => ?_)
  · have hf := if_t hf hc12
    exact w_X7_append_12 C0 hl9 hn9 M hf _ _ _ hH hS (lv_sub hl [] rfl)
  · have hf := if_f hf hc12
    refine lv_iload_n hx hb dX7_append_6 rfl (lv_at hl 1 rfl) ?_
    refine lv_bipush (v := (126 : Int32)) hx hb dX7_append_7 (by decide) ?_
    refine lv_icmp_le (tgt := 23) hx hb dX7_append_9 (by decide) (fun hc11 => ?_) (fun hc11 => ?_)
    · have hf := if_t hf hc11
      refine lv_aload_n hx hb dX7_append_23 rfl (lv_at hl 0 rfl) ?_
      refine hs_get hx hb (T := TX7) hA inAX7 hown hK hH 0 0 (by decide) 11 rfl rfl 6 (by decide) (hA _ zt_298) rfl rfl dX7_append_24 ?_
      refine hs_get hx hb (T := TX4) hA inAX4 hown hK hH 13 0 (by decide) 8 rfl rfl 1 (by decide) (hA _ zt_238) rfl rfl dX7_append_27 ?_
      refine lv_bipush (v := (60 : Int32)) hx hb dX7_append_30 (by decide) ?_
      refine lv_icmp_lt (tgt := 46) hx hb dX7_append_32 (by decide) (fun hc10 => ?_) (fun hc10 => ?_)
      · have hf := if_t hf hc10
        refine lv_aload_n hx hb dX7_append_46 rfl (lv_at hl 0 rfl) ?_
        refine hs_get hx hb (T := TX7) hA inAX7 hown hK hH 0 0 (by decide) 11 rfl rfl 6 (by decide) (hA _ zt_298) rfl rfl dX7_append_47 ?_
        refine lv_iload_n hx hb dX7_append_50 rfl (lv_at hl 1 rfl) ?_
        obtain ⟨r9, M8, hq7, hf⟩ := bd2_o hf
        refine hs_ci (hs_runV C0 hH hS (n := 1) (As := [.int a1]) (rest := []) (c_X4_take M a1 hq7) ⟨⟨zt_1435, zt_1436, zt_1437, zt_8, zt_1438⟩, rfl, by decide, by decide, by decide +kernel⟩ ⟨rfl, rfl, Nat.le_of_ble_eq_true rfl, Nat.le_of_ble_eq_true rfl⟩ (hs_recv hK hH 13 0 (by decide) 8 rfl rfl) rfl rfl hl.1 (Nat.le_of_ble_eq_true rfl) ⟨Nat.le_of_ble_eq_true rfl, Nat.le_of_ble_eq_true rfl⟩ dX7_append_51) hS (fun H locs hH hS => ?_)
        cases hf
        exact hx_iret C0 hH hS (by decide) (by decide) dX7_append_54
      · have hf := if_f hf hc10
        cases hf
        exact hx_thr2w C0 hl9 hn9 hH hS hl.1 (is := 302) (text := "the input buffer is full") (by decide +kernel) dX7_append_35 dX7_append_38 dX7_append_39 dX7_append_42 dX7_append_45 ⟨by decide, Nat.le_of_ble_eq_true rfl, by decide, by decide⟩ (by decide) (by decide)
    · have hf := if_f hf hc11
      exact w_X7_append_12 C0 hl9 hn9 M hf _ _ _ hH hS (lv_sub hl [] rfl)
def f_X7_errorPosition (M : Mem) : Option ((Int32 ⊕ Nat) × Mem) := (if (M 0 0 9) = (-1 : Int32) then some (.inr 3, M) else some (.inl (M 0 0 9), M))
set_option maxHeartbeats 4000000 in
set_option maxRecDepth 100000 in
theorem c_X7_errorPosition {Y : LY} {l : Launch} (hl9 : l.stackTraces = false) (M : Mem) {x : Int32 ⊕ Nat} {MZ : Mem} (hf : f_X7_errorPosition M = some (x, MZ)) : vx_Met l yX7_errorPosition (WS yX7_errorPosition cX7_errorPosition 1 (Option.some Jvm.ClassFile.FieldType.int)) { frames := 6, cells := 1, slots := 6, locals := 90 } (PcM Y M [.ref (YA Y 0 0)]) (Qxi Y x MZ) (Xx Y x MZ) 1 6 (AZ Y) := by
  refine met_mkx (lv := [(0, .ref (YA Y 0 0))]) [.ref (YA Y 0 0)] (by decide) rfl rfl (Nat.le_of_ble_eq_true rfl) (fun p e s m below meth c C0 hn9 hH ls hl => ?_)
  have hS : va_S (AZ Y) s.heap s.heap [] := va_S.rf
  obtain ⟨hx, hb, hr, hml, hown, hA, hlocks, hK, hZ⟩ := id C0
  unfold f_X7_errorPosition at hf
  refine lv_aload_n hx hb dX7_errorPosition_0 rfl (lv_at hl 0 rfl) ?_
  refine hs_get hx hb (T := TX7) hA inAX7 hown hK hH 0 0 (by decide) 11 rfl rfl 9 (by decide) (hA _ zt_301) rfl rfl dX7_errorPosition_1 ?_
  refine lv_iconst (v := (-1 : Int32)) hx hb dX7_errorPosition_4 (by decide) ?_
  refine lv_icmp_ne (tgt := 19) hx hb dX7_errorPosition_5 (by decide) (fun hc2 => ?_) (fun hc2 => ?_)
  · have hf := if_f hf hc2
    refine lv_aload_n hx hb dX7_errorPosition_19 rfl (lv_at hl 0 rfl) ?_
    refine hs_get hx hb (T := TX7) hA inAX7 hown hK hH 0 0 (by decide) 11 rfl rfl 9 (by decide) (hA _ zt_301) rfl rfl dX7_errorPosition_20 ?_
    cases hf
    exact hx_iret C0 hH hS (by decide) (by decide) dX7_errorPosition_23
  · have hf := if_t hf hc2
    cases hf
    exact hx_thr3w C0 hl9 hn9 hH hS hl.1 (is := 327) (text := "no program was malformed so far") (by decide +kernel) dX7_errorPosition_8 dX7_errorPosition_11 dX7_errorPosition_12 dX7_errorPosition_15 dX7_errorPosition_18 ⟨by decide, Nat.le_of_ble_eq_true rfl, by decide, by decide⟩ (by decide) (by decide)
def f_X7_failedCommand (M : Mem) : Option ((Int32 ⊕ Nat) × Mem) := (if (M 0 0 10) = (-1 : Int32) then some (.inr 3, M) else some (.inl (M 0 0 10), M))
set_option maxHeartbeats 4000000 in
set_option maxRecDepth 100000 in
theorem c_X7_failedCommand {Y : LY} {l : Launch} (hl9 : l.stackTraces = false) (M : Mem) {x : Int32 ⊕ Nat} {MZ : Mem} (hf : f_X7_failedCommand M = some (x, MZ)) : vx_Met l yX7_failedCommand (WS yX7_failedCommand cX7_failedCommand 1 (Option.some Jvm.ClassFile.FieldType.int)) { frames := 6, cells := 1, slots := 6, locals := 90 } (PcM Y M [.ref (YA Y 0 0)]) (Qxi Y x MZ) (Xx Y x MZ) 1 6 (AZ Y) := by
  refine met_mkx (lv := [(0, .ref (YA Y 0 0))]) [.ref (YA Y 0 0)] (by decide) rfl rfl (Nat.le_of_ble_eq_true rfl) (fun p e s m below meth c C0 hn9 hH ls hl => ?_)
  have hS : va_S (AZ Y) s.heap s.heap [] := va_S.rf
  obtain ⟨hx, hb, hr, hml, hown, hA, hlocks, hK, hZ⟩ := id C0
  unfold f_X7_failedCommand at hf
  refine lv_aload_n hx hb dX7_failedCommand_0 rfl (lv_at hl 0 rfl) ?_
  refine hs_get hx hb (T := TX7) hA inAX7 hown hK hH 0 0 (by decide) 11 rfl rfl 10 (by decide) (hA _ zt_302) rfl rfl dX7_failedCommand_1 ?_
  refine lv_iconst (v := (-1 : Int32)) hx hb dX7_failedCommand_4 (by decide) ?_
  refine lv_icmp_ne (tgt := 19) hx hb dX7_failedCommand_5 (by decide) (fun hc2 => ?_) (fun hc2 => ?_)
  · have hf := if_f hf hc2
    refine lv_aload_n hx hb dX7_failedCommand_19 rfl (lv_at hl 0 rfl) ?_
    refine hs_get hx hb (T := TX7) hA inAX7 hown hK hH 0 0 (by decide) 11 rfl rfl 10 (by decide) (hA _ zt_302) rfl rfl dX7_failedCommand_20 ?_
    cases hf
    exact hx_iret C0 hH hS (by decide) (by decide) dX7_failedCommand_23
  · have hf := if_t hf hc2
    cases hf
    exact hx_thr3w C0 hl9 hn9 hH hS hl.1 (is := 329) (text := "no command failed so far") (by decide +kernel) dX7_failedCommand_8 dX7_failedCommand_11 dX7_failedCommand_12 dX7_failedCommand_15 dX7_failedCommand_18 ⟨by decide, Nat.le_of_ble_eq_true rfl, by decide, by decide⟩ (by decide) (by decide)
def f_X7_undoableCount (M : Mem) : Option Int32 := some (M 11 0 2)
set_option maxHeartbeats 4000000 in
set_option maxRecDepth 100000 in
theorem c_X7_undoableCount {Y : LY} {l : Launch} (M : Mem) {r : Int32} (hf : f_X7_undoableCount M = some r) : Met l yX7_undoableCount (WS yX7_undoableCount cX7_undoableCount 1 (Option.some Jvm.ClassFile.FieldType.int)) { frames := 0, cells := 0, slots := 0, locals := 0 } (PcM Y M [.ref (YA Y 0 0)]) (Qi Y r M) 0 0 (AZ Y) := by
  refine met_mk (lv := [(0, .ref (YA Y 0 0))]) [.ref (YA Y 0 0)] (by decide) rfl rfl (Nat.le_of_ble_eq_true rfl) (fun p e s m below meth c C0 hH ls hl => ?_)
  have hS : va_S (AZ Y) s.heap s.heap [] := va_S.rf
  obtain ⟨hx, hb, hr, hml, hown, hA, hlocks, hK, hZ⟩ := id C0
  unfold f_X7_undoableCount at hf
  refine lv_aload_n hx hb dX7_undoableCount_0 rfl (lv_at hl 0 rfl) ?_
  refine hs_get hx hb (T := TX7) hA inAX7 hown hK hH 0 0 (by decide) 11 rfl rfl 5 (by decide) (hA _ zt_297) rfl rfl dX7_undoableCount_1 ?_
  refine hs_get hx hb (T := TX0) hA inAX0 hown hK hH 11 0 (by decide) 4 rfl rfl 2 (by decide) (hA _ zt_220) rfl rfl dX7_undoableCount_4 ?_
  cases hf
  exact hs_iret C0 hH hS (by decide) (by decide) dX7_undoableCount_7
def f_X7_undo (M : Mem) : Option ((Int32 ⊕ Nat) × Mem) := (if (M 11 0 2) = 0 then some (.inr 2, M) else bd (f_X0_bringBackTo M 0) fun M6 => some (.inl (M6 11 0 2), M6))
set_option maxHeartbeats 4000000 in
set_option maxRecDepth 100000 in
theorem c_X7_undo {Y : LY} {l : Launch} (hl9 : l.stackTraces = false) (M : Mem) {x : Int32 ⊕ Nat} {MZ : Mem} (hf : f_X7_undo M = some (x, MZ)) : vx_Met l yX7_undo (WS yX7_undo cX7_undo 1 (Option.some Jvm.ClassFile.FieldType.int)) { frames := 6, cells := 1, slots := 6, locals := 90 } (PcM Y M [.ref (YA Y 0 0)]) (Qxi Y x MZ) (Xx Y x MZ) 1 6 (AZ Y) := by
  refine met_mkx (lv := [(0, .ref (YA Y 0 0))]) [.ref (YA Y 0 0)] (by decide) rfl rfl (Nat.le_of_ble_eq_true rfl) (fun p e s m below meth c C0 hn9 hH ls hl => ?_)
  have hS : va_S (AZ Y) s.heap s.heap [] := va_S.rf
  obtain ⟨hx, hb, hr, hml, hown, hA, hlocks, hK, hZ⟩ := id C0
  unfold f_X7_undo at hf
  refine lv_aload_n hx hb dX7_undo_0 rfl (lv_at hl 0 rfl) ?_
  refine hs_get hx hb (T := TX7) hA inAX7 hown hK hH 0 0 (by decide) 11 rfl rfl 5 (by decide) (hA _ zt_297) rfl rfl dX7_undo_1 ?_
  refine hs_get hx hb (T := TX0) hA inAX0 hown hK hH 11 0 (by decide) 4 rfl rfl 2 (by decide) (hA _ zt_220) rfl rfl dX7_undo_4 ?_
  refine lv_if_ne (tgt := 21) hx hb dX7_undo_7 (by decide) (fun hc8 => ?_) (fun hc8 => ?_)
  · have hf := if_f hf hc8
    refine lv_aload_n hx hb dX7_undo_21 rfl (lv_at hl 0 rfl) ?_
    refine hs_get hx hb (T := TX7) hA inAX7 hown hK hH 0 0 (by decide) 11 rfl rfl 5 (by decide) (hA _ zt_297) rfl rfl dX7_undo_22 ?_
    refine lv_aload_n hx hb dX7_undo_25 rfl (lv_at hl 0 rfl) ?_
    refine hs_get hx hb (T := TX7) hA inAX7 hown hK hH 0 0 (by decide) 11 rfl rfl 0 (by decide) (hA _ zt_292) rfl rfl dX7_undo_26 ?_
    obtain ⟨M6, hq5, hf⟩ := bd_o hf
    refine hs_cv (hs_runV C0 hH hS (n := 1) (As := [.ref (YA Y 1 0)]) (rest := []) (c_X0_bringBackTo M 0 (by decide) hq5) ⟨⟨zt_1529, zt_1530, zt_1531, zt_7, zt_1532⟩, rfl, by decide, by decide, by decide +kernel⟩ ⟨rfl, rfl, Nat.le_of_ble_eq_true rfl, Nat.le_of_ble_eq_true rfl⟩ (hs_recv hK hH 11 0 (by decide) 4 rfl rfl) rfl rfl hl.1 (Nat.le_of_ble_eq_true rfl) ⟨Nat.le_of_ble_eq_true rfl, Nat.le_of_ble_eq_true rfl⟩ dX7_undo_29) hS (fun H locs hH hS => ?_)
    refine lv_aload_n hx hb dX7_undo_32 rfl (lv_at hl 0 rfl) ?_
    refine hs_get hx hb (T := TX7) hA inAX7 hown hK hH 0 0 (by decide) 11 rfl rfl 5 (by decide) (hA _ zt_297) rfl rfl dX7_undo_33 ?_
    refine hs_get hx hb (T := TX0) hA inAX0 hown hK hH 11 0 (by decide) 4 rfl rfl 2 (by decide) (hA _ zt_220) rfl rfl dX7_undo_36 ?_
    cases hf
    exact hx_iret C0 hH hS (by decide) (by decide) dX7_undo_39
  · have hf := if_t hf hc8
    cases hf
    exact hx_thr2w C0 hl9 hn9 hH hS hl.1 (is := 332) (text := "no change can be undone") (by decide +kernel) dX7_undo_10 dX7_undo_13 dX7_undo_14 dX7_undo_17 dX7_undo_20 ⟨by decide, Nat.le_of_ble_eq_true rfl, by decide, by decide⟩ (by decide) (by decide)
def f_X7_save (M : Mem) : Option (Int32 × Mem) := bd (f_X5_copyFrom M 2 0) fun M6 => nm (mu M6 0 0 3 (1 : Int32)) fun M8 => some ((M8 2 0 1), M8)
set_option maxHeartbeats 4000000 in
set_option maxRecDepth 100000 in
theorem c_X7_save {Y : LY} {l : Launch} (M : Mem) {r : Int32} {MZ : Mem} (hf : f_X7_save M = some (r, MZ)) : Met l yX7_save (WS yX7_save cX7_save 1 (Option.some Jvm.ClassFile.FieldType.int)) { frames := 3, cells := 0, slots := 0, locals := 65 } (PcM Y M [.ref (YA Y 0 0)]) (Qi Y r MZ) 0 0 (AZ Y) := by
  refine met_mk (lv := [(0, .ref (YA Y 0 0))]) [.ref (YA Y 0 0)] (by decide) rfl rfl (Nat.le_of_ble_eq_true rfl) (fun p e s m below meth c C0 hH ls hl => ?_)
  have hS : va_S (AZ Y) s.heap s.heap [] := va_S.rf
  obtain ⟨hx, hb, hr, hml, hown, hA, hlocks, hK, hZ⟩ := id C0
  unfold f_X7_save at hf
  refine lv_aload_n hx hb dX7_save_0 rfl (lv_at hl 0 rfl) ?_
  refine hs_get hx hb (T := TX7) hA inAX7 hown hK hH 0 0 (by decide) 11 rfl rfl 2 (by decide) (hA _ zt_294) rfl rfl dX7_save_1 ?_
  refine lv_aload_n hx hb dX7_save_4 rfl (lv_at hl 0 rfl) ?_
  refine hs_get hx hb (T := TX7) hA inAX7 hown hK hH 0 0 (by decide) 11 rfl rfl 0 (by decide) (hA _ zt_292) rfl rfl dX7_save_5 ?_
  obtain ⟨M6, hq5, hf⟩ := bd_o hf
  refine hs_cv (hs_runV C0 hH hS (n := 1) (As := [.ref (YA Y 1 0)]) (rest := []) (c_X5_copyFrom M 2 0 (by decide) (by decide) hq5) ⟨⟨zt_686, zt_528, zt_529, zt_3, zt_530⟩, rfl, by decide, by decide, by decide +kernel⟩ ⟨rfl, rfl, Nat.le_of_ble_eq_true rfl, Nat.le_of_ble_eq_true rfl⟩ (hs_recv hK hH 1 2 (by decide) 9 rfl rfl) rfl rfl hl.1 (Nat.le_of_ble_eq_true rfl) ⟨Nat.le_of_ble_eq_true rfl, Nat.le_of_ble_eq_true rfl⟩ dX7_save_8) hS (fun H locs hH hS => ?_)
  refine lv_aload_n hx hb dX7_save_11 rfl (lv_at hl 0 rfl) ?_
  refine lv_iconst (v := (1 : Int32)) hx hb dX7_save_12 (by decide) ?_
  refine hs_putz hx hb (T := TX7) hA inAX7 tyX7 tyX7_ok nmX7 hown hK hH hS 0 0 (by decide) 11 rfl rfl 3 (by decide) (hA _ zt_295) rfl rfl (by decide +kernel) (by decide) (Nat.le_of_ble_eq_true rfl) rfl dX7_save_13 (fun H locs hH hS => ?_)
  obtain ⟨M8, eM8, hf⟩ := nm_o hf
  rw [← eM8] at hH
  refine lv_aload_n hx hb dX7_save_16 rfl (lv_at hl 0 rfl) ?_
  refine hs_get hx hb (T := TX7) hA inAX7 hown hK hH 0 0 (by decide) 11 rfl rfl 0 (by decide) (hA _ zt_292) rfl rfl dX7_save_17 ?_
  refine hs_get hx hb (T := TX5) hA inAX5 hown hK hH 1 0 (by decide) 9 rfl rfl 1 (by decide) (hA _ zt_174) rfl rfl dX7_save_20 ?_
  refine hs_get hx hb (T := TX2) hA inAX2 hown hK hH 2 0 (by decide) 6 rfl rfl 1 (by decide) (hA _ zt_117) rfl rfl dX7_save_23 ?_
  cases hf
  exact hs_iret C0 hH hS (by decide) (by decide) dX7_save_26
def f_X7_restore (M : Mem) : Option ((Int32 ⊕ Nat) × Mem) := (if (M 0 0 3) = 0 then some (.inr 2, M) else bd (f_X5_copyFrom M 0 2) fun M9 => bd (f_X0_forget M9) fun M12 => some (.inl (M12 2 0 1), M12))
set_option maxHeartbeats 4000000 in
set_option maxRecDepth 100000 in
theorem c_X7_restore {Y : LY} {l : Launch} (hl9 : l.stackTraces = false) (M : Mem) {x : Int32 ⊕ Nat} {MZ : Mem} (hf : f_X7_restore M = some (x, MZ)) : vx_Met l yX7_restore (WS yX7_restore cX7_restore 1 (Option.some Jvm.ClassFile.FieldType.int)) { frames := 6, cells := 1, slots := 6, locals := 90 } (PcM Y M [.ref (YA Y 0 0)]) (Qxi Y x MZ) (Xx Y x MZ) 1 6 (AZ Y) := by
  refine met_mkx (lv := [(0, .ref (YA Y 0 0))]) [.ref (YA Y 0 0)] (by decide) rfl rfl (Nat.le_of_ble_eq_true rfl) (fun p e s m below meth c C0 hn9 hH ls hl => ?_)
  have hS : va_S (AZ Y) s.heap s.heap [] := va_S.rf
  obtain ⟨hx, hb, hr, hml, hown, hA, hlocks, hK, hZ⟩ := id C0
  unfold f_X7_restore at hf
  refine lv_aload_n hx hb dX7_restore_0 rfl (lv_at hl 0 rfl) ?_
  refine hs_get hx hb (T := TX7) hA inAX7 hown hK hH 0 0 (by decide) 11 rfl rfl 3 (by decide) (hA _ zt_295) rfl rfl dX7_restore_1 ?_
  refine lv_if_ne (tgt := 18) hx hb dX7_restore_4 (by decide) (fun hc14 => ?_) (fun hc14 => ?_)
  · have hf := if_f hf hc14
    refine lv_aload_n hx hb dX7_restore_18 rfl (lv_at hl 0 rfl) ?_
    refine hs_get hx hb (T := TX7) hA inAX7 hown hK hH 0 0 (by decide) 11 rfl rfl 0 (by decide) (hA _ zt_292) rfl rfl dX7_restore_19 ?_
    refine lv_aload_n hx hb dX7_restore_22 rfl (lv_at hl 0 rfl) ?_
    refine hs_get hx hb (T := TX7) hA inAX7 hown hK hH 0 0 (by decide) 11 rfl rfl 2 (by decide) (hA _ zt_294) rfl rfl dX7_restore_23 ?_
    obtain ⟨M9, hq8, hf⟩ := bd_o hf
    refine hs_cv (hs_runV C0 hH hS (n := 1) (As := [.ref (YA Y 1 2)]) (rest := []) (c_X5_copyFrom M 0 2 (by decide) (by decide) hq8) ⟨⟨zt_686, zt_528, zt_529, zt_3, zt_530⟩, rfl, by decide, by decide, by decide +kernel⟩ ⟨rfl, rfl, Nat.le_of_ble_eq_true rfl, Nat.le_of_ble_eq_true rfl⟩ (hs_recv hK hH 1 0 (by decide) 9 rfl rfl) rfl rfl hl.1 (Nat.le_of_ble_eq_true rfl) ⟨Nat.le_of_ble_eq_true rfl, Nat.le_of_ble_eq_true rfl⟩ dX7_restore_26) hS (fun H locs hH hS => ?_)
    refine lv_aload_n hx hb dX7_restore_29 rfl (lv_at hl 0 rfl) ?_
    refine hs_get hx hb (T := TX7) hA inAX7 hown hK hH 0 0 (by decide) 11 rfl rfl 5 (by decide) (hA _ zt_297) rfl rfl dX7_restore_30 ?_
    obtain ⟨M12, hq11, hf⟩ := bd_o hf
    refine hs_cv (hs_runV C0 hH hS (n := 0) (As := []) (rest := []) (c_X0_forget M9 hq11) ⟨⟨zt_1541, zt_1542, zt_1543, zt_7, zt_1544⟩, rfl, by decide, by decide, by decide +kernel⟩ ⟨rfl, rfl, Nat.le_of_ble_eq_true rfl, Nat.le_of_ble_eq_true rfl⟩ (hs_recv hK hH 11 0 (by decide) 4 rfl rfl) rfl rfl hl.1 (Nat.le_of_ble_eq_true rfl) ⟨Nat.le_of_ble_eq_true rfl, Nat.le_of_ble_eq_true rfl⟩ dX7_restore_33) hS (fun H locs hH hS => ?_)
    refine lv_aload_n hx hb dX7_restore_36 rfl (lv_at hl 0 rfl) ?_
    refine hs_get hx hb (T := TX7) hA inAX7 hown hK hH 0 0 (by decide) 11 rfl rfl 0 (by decide) (hA _ zt_292) rfl rfl dX7_restore_37 ?_
    refine hs_get hx hb (T := TX5) hA inAX5 hown hK hH 1 0 (by decide) 9 rfl rfl 1 (by decide) (hA _ zt_174) rfl rfl dX7_restore_40 ?_
    refine hs_get hx hb (T := TX2) hA inAX2 hown hK hH 2 0 (by decide) 6 rfl rfl 1 (by decide) (hA _ zt_117) rfl rfl dX7_restore_43 ?_
    cases hf
    exact hx_iret C0 hH hS (by decide) (by decide) dX7_restore_46
  · have hf := if_t hf hc14
    cases hf
    exact hx_thr2w C0 hl9 hn9 hH hS hl.1 (is := 337) (text := "there is no saved copy") (by decide +kernel) dX7_restore_7 dX7_restore_10 dX7_restore_11 dX7_restore_14 dX7_restore_17 ⟨by decide, Nat.le_of_ble_eq_true rfl, by decide, by decide⟩ (by decide) (by decide)
