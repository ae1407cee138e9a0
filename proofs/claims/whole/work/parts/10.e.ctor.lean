set_option maxHeartbeats 4000000 in
set_option maxRecDepth 100000 in
theorem c_J4_init_da8c8 {Y : LY} {l : Launch} (pl h : Nat) (ad : Nat → Nat) (S : Nat → SE) (hh : h = ad pl) (hs : S pl = .inl (1, [nuL, zI, zI, zI])) : Met l yJ4_init_da8c8 (WS yJ4_init_da8c8 cJ4_init_da8c8 1 none) { frames := 2, cells := 1, slots := 16, locals := 80 } (PcP Y (WS9 Y (pl + 1) ad S) [.ref h]) (QW Y (pl + 1) ad (pl + 2) (fun k => if k < pl then S k else sbB Y pl (k - pl))) 1 16 (AZ Y) := by
  refine met_mki (lv := [(0, .ref h)]) [.ref h] (by decide) rfl rfl (Nat.le_of_ble_eq_true rfl) (fun p e s m below meth c C0 hm hW ls hl => ?_)
  have hS : va_S (AZ Y) s.heap s.heap [] := va_S.rf
  obtain ⟨hx, hb, hr, hml, hown, hA, hlocks, hK, hZ⟩ := id C0
  refine lv_aload_n hx hb dJ4_init_da8c8_0 rfl (lv_at hl 0 rfl) ?_
  refine lv_bipush (v := (16 : Int32)) hx hb dJ4_init_da8c8_1 (by decide) ?_
  refine ws_cW (hs_runI C0 hW hS (N9 := 1) (As := [.int 16]) (rest := []) (c_J5_init_d00df pl h ad S hh hs) ⟨⟨zt_9, zt_264, zt_265, zt_266⟩, rfl, by decide, by decide, by decide +kernel⟩ ⟨rfl, rfl, Nat.le_of_ble_eq_true rfl, Nat.le_of_ble_eq_true rfl⟩ rfl rfl hl.1 (Nat.le_of_ble_eq_true rfl) ⟨by decide, by decide⟩ dJ4_init_da8c8_3) hS (fun ad2 H locs had2 hW hS => ?_)
  exact ws_vret C0 hW had2 hS (by decide) (by decide) dJ4_init_da8c8_6
def x7T (Y : LY) (o : Nat) : SE := if o < 5 then wayB Y 1 (o - 1) else if o < 41 then svcB Y 1 5 (o - 5) else if o < 77 then svcB Y 1 41 (o - 41) else if o < 113 then svcB Y 1 77 (o - 77) else if o < 403 then hisB Y 1 113 (o - 113) else if o < 417 then prgB Y 403 (o - 403) else if o < 418 then aS (YC Y 0) 12 else sbB Y 418 (o - 418)
def x7O : SE := .inl (11, [.inl 5, .inl 41, .inl 77, zI, .inl 1, .inl 113, .inl 403, .inl 417, .inl 418, .inr (.int (-1)), .inr (.int (-1))])
def x7B (Y : LY) (o : Nat) : SE := if o = 0 then x7O else x7T Y o
theorem x7T_1 {Y : LY} : ∀ j, j < 4 → x7T Y (1 - 0 + j) = wayB Y 1 j := fun j hj => by
  unfold x7T
  rw [if_pos (by omega), show 1 - 0 + j - 1 = j by omega]
theorem x7T_5 {Y : LY} : ∀ j, j < 36 → x7T Y (5 - 0 + j) = svcB Y 1 5 j := fun j hj => by
  unfold x7T
  rw [if_neg (by omega), if_pos (by omega), show 5 - 0 + j - 5 = j by omega]
theorem x7T_41 {Y : LY} : ∀ j, j < 36 → x7T Y (41 - 0 + j) = svcB Y 1 41 j := fun j hj => by
  unfold x7T
  rw [if_neg (by omega), if_neg (by omega), if_pos (by omega), show 41 - 0 + j - 41 = j by omega]
theorem x7T_77 {Y : LY} : ∀ j, j < 36 → x7T Y (77 - 0 + j) = svcB Y 1 77 j := fun j hj => by
  unfold x7T
  rw [if_neg (by omega), if_neg (by omega), if_neg (by omega), if_pos (by omega), show 77 - 0 + j - 77 = j by omega]
theorem x7T_113 {Y : LY} : ∀ j, j < 290 → x7T Y (113 - 0 + j) = hisB Y 1 113 j := fun j hj => by
  unfold x7T
  rw [if_neg (by omega), if_neg (by omega), if_neg (by omega), if_neg (by omega), if_pos (by omega), show 113 - 0 + j - 113 = j by omega]
theorem x7T_403 {Y : LY} : ∀ j, j < 14 → x7T Y (403 - 0 + j) = prgB Y 403 j := fun j hj => by
  unfold x7T
  rw [if_neg (by omega), if_neg (by omega), if_neg (by omega), if_neg (by omega), if_neg (by omega), if_pos (by omega), show 403 - 0 + j - 403 = j by omega]
theorem x7T_418 {Y : LY} : ∀ j, j < 2 → x7T Y (418 - 0 + j) = sbB Y 418 j := fun j hj => by
  unfold x7T
  rw [if_neg (by omega), if_neg (by omega), if_neg (by omega), if_neg (by omega), if_neg (by omega), if_neg (by omega), if_neg (by omega), show 418 - 0 + j - 418 = j by omega]
set_option maxHeartbeats 8000000 in
set_option maxRecDepth 100000 in
theorem c_X7_init {Y : LY} {l : Launch} (h : Nat) (ad : Nat → Nat) (S : Nat → SE) (hh : h = ad 0) (hs : S 0 = .inl (11, [nuL, nuL, nuL, zI, nuL, nuL, nuL, nuL, nuL, zI, zI])) : Met l yX7_init (WS yX7_init cX7_init 1 none) { frames := 5, cells := 419, slots := 2707, locals := 240 } (PcP Y (WS9 Y 1 ad S) [.ref h]) (QW Y 1 ad 420 (fun k => if k < 0 then S k else x7B Y (k - 0))) 419 2707 (AZ Y) := by
  refine met_mki (lv := [(0, .ref h)]) [.ref h] (by decide) rfl rfl (Nat.le_of_ble_eq_true rfl) (fun p e s m below meth c C0 hm hW ls hl => ?_)
  have hS : va_S (AZ Y) s.heap s.heap [] := va_S.rf
  obtain ⟨hx, hb, hr, hml, hown, hA, hlocks, hK, hZ⟩ := id C0
  have hW := ws_congr (nf_new (pl := 0) (T := x7T Y) hs) hW
  have had : ∀ k, k < 1 → ad k = ad k := fun _ _ => rfl
  obtain ⟨ad0, e0⟩ : ∃ z, z = ad := ⟨_, rfl⟩
  refine lv_aload_n hx hb dX7_init_0 rfl (lv_at hl 0 rfl) ?_
  refine ws_obj C0 hl.1 zt_37 (Nat.le_of_ble_eq_true rfl) (Nat.le_of_ble_eq_true rfl) dX7_init_1 ?_
  refine lv_aload_n hx hb dX7_init_4 rfl (lv_at hl 0 rfl) ?_
  refine ws_new C0 hW hS inAX6 tyX6 tyX6_ok zt_40 zt_41 zt_2 (show CL[10]? = some (RX6, TX6, 3) from rfl) [.null, .null, .null] (by decide) (by decide) (by decide) dX7_init_5 (fun q1 H hW hS => ?_)
  have hh : h = upA ad 1 q1 0 := by rw [upA_lt (by omega)]; exact hh
  have had : ∀ k, k < 1 → upA ad 1 q1 k = ad k := fun k hk => (upA_lt (by omega)).trans (had k hk)
  have hq1 : q1 = upA ad 1 q1 1 := upA_eq.symm
  generalize upA ad 1 q1 = an1 at *
  refine lv_dup hx hb dX7_init_8 rfl ?_
  refine ws_cW (hs_runI C0 hW hS (N9 := 0) (As := []) (rest := [.ref q1, .ref h]) (c_X6_init 1 q1 an1 _ hq1 upS_eq) ⟨⟨zt_2, zt_42, zt_43, zt_44⟩, rfl, by decide, by decide, by decide +kernel⟩ ⟨rfl, rfl, Nat.le_of_ble_eq_true rfl, Nat.le_of_ble_eq_true rfl⟩ rfl rfl hl.1 (Nat.le_of_ble_eq_true rfl) ⟨by decide, by decide⟩ dX7_init_9) hS (fun ac1 H locs had2 hW hS => ?_)
  have hW : WS9 Y 5 ac1 (nf S 0 (.inl (11, [nuL, nuL, nuL, zI, nuL, nuL, nuL, nuL, nuL, zI, zI])) (x7T Y)) H := ws_congr (nf_call (m := 4) (T := x7T Y) (by omega) x7T_1) hW
  have hh : h = ac1 0 := by rw [had2 0 (by omega)]; exact hh
  have had : ∀ k, k < 1 → ac1 k = ad k := fun k hk => by rw [had2 k (by omega)]; exact had k hk
  have hq1 : q1 = ac1 1 := by rw [had2 1 (by omega)]; exact hq1
  refine ws_putF C0 hm hW hS inAX7 tyX7 tyX7_ok nmX7 (show CL[11]? = some (RX7, TX7, 11) from rfl) (k := 0) (fs := [nuL, nuL, nuL, zI, nuL, nuL, nuL, nuL, nuL, zI, zI]) (by omega) hh nf_at 4 (by decide) zt_296 rfl rfl rfl (ty := .object "RiverParcelService$Ways") 1 (by omega) hq1 (by decide +kernel) rfl rfl (Nat.le_of_ble_eq_true rfl) dX7_init_12 (fun H locs hW hS => ?_)
  rw [nf_put] at hW
  have hW : WS9 Y 5 ac1 (nf S 0 (.inl (11, [nuL, nuL, nuL, zI, .inl 1, nuL, nuL, nuL, nuL, zI, zI])) (x7T Y)) H := hW
  refine lv_aload_n hx hb dX7_init_15 rfl (lv_at hl 0 rfl) ?_
  refine ws_new C0 hW hS inAX5 tyX5 tyX5_ok zt_58 zt_59 zt_3 (show CL[9]? = some (RX5, TX5, 9) from rfl) [.null, .null, .null, .int 0, .int 0, .int 0, .int 0, .int 0, .int 0] (by decide) (by decide) (by decide) dX7_init_16 (fun q5 H hW hS => ?_)
  have hh : h = upA ac1 5 q5 0 := by rw [upA_lt (by omega)]; exact hh
  have had : ∀ k, k < 1 → upA ac1 5 q5 k = ad k := fun k hk => (upA_lt (by omega)).trans (had k hk)
  have hq5 : q5 = upA ac1 5 q5 5 := upA_eq.symm
  generalize upA ac1 5 q5 = an5 at *
  refine lv_dup hx hb dX7_init_19 rfl ?_
  refine lv_aload_n hx hb dX7_init_20 rfl (lv_at hl 0 rfl) ?_
  refine ws_get C0 hW inAX7 (show CL[11]? = some (RX7, TX7, 11) from rfl) (k := 0) (by omega) hh (fs := [nuL, nuL, nuL, zI, .inl 1, nuL, nuL, nuL, nuL, zI, zI]) (by rw [upS_ne (by omega)]; exact nf_at) 4 (by decide) zt_296 rfl 1 rfl dX7_init_21 ?_
  refine ws_cW (hs_runI C0 hW hS (N9 := 1) (As := [.ref (an5 1)]) (rest := [.ref q5, .ref h]) (c_X5_init 1 5 q5 (an5 1) an5 _ (by omega) hq5 rfl upS_eq) ⟨⟨zt_3, zt_60, zt_61, zt_62⟩, rfl, by decide, by decide, by decide +kernel⟩ ⟨rfl, rfl, Nat.le_of_ble_eq_true rfl, Nat.le_of_ble_eq_true rfl⟩ rfl rfl hl.1 (Nat.le_of_ble_eq_true rfl) ⟨by decide, by decide⟩ dX7_init_24) hS (fun ac5 H locs had2 hW hS => ?_)
  have hW : WS9 Y 41 ac5 (nf S 0 (.inl (11, [nuL, nuL, nuL, zI, .inl 1, nuL, nuL, nuL, nuL, zI, zI])) (x7T Y)) H := ws_congr (nf_call (m := 36) (T := x7T Y) (by omega) x7T_5) hW
  have hh : h = ac5 0 := by rw [had2 0 (by omega)]; exact hh
  have had : ∀ k, k < 1 → ac5 k = ad k := fun k hk => by rw [had2 k (by omega)]; exact had k hk
  have hq5 : q5 = ac5 5 := by rw [had2 5 (by omega)]; exact hq5
  refine ws_putF C0 hm hW hS inAX7 tyX7 tyX7_ok nmX7 (show CL[11]? = some (RX7, TX7, 11) from rfl) (k := 0) (fs := [nuL, nuL, nuL, zI, .inl 1, nuL, nuL, nuL, nuL, zI, zI]) (by omega) hh nf_at 0 (by decide) zt_292 rfl rfl rfl (ty := .object "RiverParcelService$Service") 5 (by omega) hq5 (by decide +kernel) rfl rfl (Nat.le_of_ble_eq_true rfl) dX7_init_27 (fun H locs hW hS => ?_)
  rw [nf_put] at hW
  have hW : WS9 Y 41 ac5 (nf S 0 (.inl (11, [.inl 5, nuL, nuL, zI, .inl 1, nuL, nuL, nuL, nuL, zI, zI])) (x7T Y)) H := hW
  refine lv_aload_n hx hb dX7_init_30 rfl (lv_at hl 0 rfl) ?_
  refine ws_new C0 hW hS inAX5 tyX5 tyX5_ok zt_58 zt_59 zt_3 (show CL[9]? = some (RX5, TX5, 9) from rfl) [.null, .null, .null, .int 0, .int 0, .int 0, .int 0, .int 0, .int 0] (by decide) (by decide) (by decide) dX7_init_31 (fun q41 H hW hS => ?_)
  have hh : h = upA ac5 41 q41 0 := by rw [upA_lt (by omega)]; exact hh
  have had : ∀ k, k < 1 → upA ac5 41 q41 k = ad k := fun k hk => (upA_lt (by omega)).trans (had k hk)
  have hq41 : q41 = upA ac5 41 q41 41 := upA_eq.symm
  generalize upA ac5 41 q41 = an41 at *
  refine lv_dup hx hb dX7_init_34 rfl ?_
  refine lv_aload_n hx hb dX7_init_35 rfl (lv_at hl 0 rfl) ?_
  refine ws_get C0 hW inAX7 (show CL[11]? = some (RX7, TX7, 11) from rfl) (k := 0) (by omega) hh (fs := [.inl 5, nuL, nuL, zI, .inl 1, nuL, nuL, nuL, nuL, zI, zI]) (by rw [upS_ne (by omega)]; exact nf_at) 4 (by decide) zt_296 rfl 1 rfl dX7_init_36 ?_
  refine ws_cW (hs_runI C0 hW hS (N9 := 1) (As := [.ref (an41 1)]) (rest := [.ref q41, .ref h]) (c_X5_init 1 41 q41 (an41 1) an41 _ (by omega) hq41 rfl upS_eq) ⟨⟨zt_3, zt_60, zt_61, zt_62⟩, rfl, by decide, by decide, by decide +kernel⟩ ⟨rfl, rfl, Nat.le_of_ble_eq_true rfl, Nat.le_of_ble_eq_true rfl⟩ rfl rfl hl.1 (Nat.le_of_ble_eq_true rfl) ⟨by decide, by decide⟩ dX7_init_39) hS (fun ac41 H locs had2 hW hS => ?_)
  have hW : WS9 Y 77 ac41 (nf S 0 (.inl (11, [.inl 5, nuL, nuL, zI, .inl 1, nuL, nuL, nuL, nuL, zI, zI])) (x7T Y)) H := ws_congr (nf_call (m := 36) (T := x7T Y) (by omega) x7T_41) hW
  have hh : h = ac41 0 := by rw [had2 0 (by omega)]; exact hh
  have had : ∀ k, k < 1 → ac41 k = ad k := fun k hk => by rw [had2 k (by omega)]; exact had k hk
  have hq41 : q41 = ac41 41 := by rw [had2 41 (by omega)]; exact hq41
  refine ws_putF C0 hm hW hS inAX7 tyX7 tyX7_ok nmX7 (show CL[11]? = some (RX7, TX7, 11) from rfl) (k := 0) (fs := [.inl 5, nuL, nuL, zI, .inl 1, nuL, nuL, nuL, nuL, zI, zI]) (by omega) hh nf_at 1 (by decide) zt_293 rfl rfl rfl (ty := .object "RiverParcelService$Service") 41 (by omega) hq41 (by decide +kernel) rfl rfl (Nat.le_of_ble_eq_true rfl) dX7_init_42 (fun H locs hW hS => ?_)
  rw [nf_put] at hW
  have hW : WS9 Y 77 ac41 (nf S 0 (.inl (11, [.inl 5, .inl 41, nuL, zI, .inl 1, nuL, nuL, nuL, nuL, zI, zI])) (x7T Y)) H := hW
  refine lv_aload_n hx hb dX7_init_45 rfl (lv_at hl 0 rfl) ?_
  refine ws_new C0 hW hS inAX5 tyX5 tyX5_ok zt_58 zt_59 zt_3 (show CL[9]? = some (RX5, TX5, 9) from rfl) [.null, .null, .null, .int 0, .int 0, .int 0, .int 0, .int 0, .int 0] (by decide) (by decide) (by decide) dX7_init_46 (fun q77 H hW hS => ?_)
  have hh : h = upA ac41 77 q77 0 := by rw [upA_lt (by omega)]; exact hh
  have had : ∀ k, k < 1 → upA ac41 77 q77 k = ad k := fun k hk => (upA_lt (by omega)).trans (had k hk)
  have hq77 : q77 = upA ac41 77 q77 77 := upA_eq.symm
  generalize upA ac41 77 q77 = an77 at *
  refine lv_dup hx hb dX7_init_49 rfl ?_
  refine lv_aload_n hx hb dX7_init_50 rfl (lv_at hl 0 rfl) ?_
  refine ws_get C0 hW inAX7 (show CL[11]? = some (RX7, TX7, 11) from rfl) (k := 0) (by omega) hh (fs := [.inl 5, .inl 41, nuL, zI, .inl 1, nuL, nuL, nuL, nuL, zI, zI]) (by rw [upS_ne (by omega)]; exact nf_at) 4 (by decide) zt_296 rfl 1 rfl dX7_init_51 ?_
  refine ws_cW (hs_runI C0 hW hS (N9 := 1) (As := [.ref (an77 1)]) (rest := [.ref q77, .ref h]) (c_X5_init 1 77 q77 (an77 1) an77 _ (by omega) hq77 rfl upS_eq) ⟨⟨zt_3, zt_60, zt_61, zt_62⟩, rfl, by decide, by decide, by decide +kernel⟩ ⟨rfl, rfl, Nat.le_of_ble_eq_true rfl, Nat.le_of_ble_eq_true rfl⟩ rfl rfl hl.1 (Nat.le_of_ble_eq_true rfl) ⟨by decide, by decide⟩ dX7_init_54) hS (fun ac77 H locs had2 hW hS => ?_)
  have hW : WS9 Y 113 ac77 (nf S 0 (.inl (11, [.inl 5, .inl 41, nuL, zI, .inl 1, nuL, nuL, nuL, nuL, zI, zI])) (x7T Y)) H := ws_congr (nf_call (m := 36) (T := x7T Y) (by omega) x7T_77) hW
  have hh : h = ac77 0 := by rw [had2 0 (by omega)]; exact hh
  have had : ∀ k, k < 1 → ac77 k = ad k := fun k hk => by rw [had2 k (by omega)]; exact had k hk
  have hq77 : q77 = ac77 77 := by rw [had2 77 (by omega)]; exact hq77
  refine ws_putF C0 hm hW hS inAX7 tyX7 tyX7_ok nmX7 (show CL[11]? = some (RX7, TX7, 11) from rfl) (k := 0) (fs := [.inl 5, .inl 41, nuL, zI, .inl 1, nuL, nuL, nuL, nuL, zI, zI]) (by omega) hh nf_at 2 (by decide) zt_294 rfl rfl rfl (ty := .object "RiverParcelService$Service") 77 (by omega) hq77 (by decide +kernel) rfl rfl (Nat.le_of_ble_eq_true rfl) dX7_init_57 (fun H locs hW hS => ?_)
  rw [nf_put] at hW
  have hW : WS9 Y 113 ac77 (nf S 0 (.inl (11, [.inl 5, .inl 41, .inl 77, zI, .inl 1, nuL, nuL, nuL, nuL, zI, zI])) (x7T Y)) H := hW
  refine lv_aload_n hx hb dX7_init_60 rfl (lv_at hl 0 rfl) ?_
  refine lv_iconst (v := (0 : Int32)) hx hb dX7_init_61 (by decide) ?_
  refine ws_putI C0 hW hS inAX7 tyX7 tyX7_ok nmX7 (show CL[11]? = some (RX7, TX7, 11) from rfl) (k := 0) (fs := [.inl 5, .inl 41, .inl 77, zI, .inl 1, nuL, nuL, nuL, nuL, zI, zI]) (by omega) hh nf_at 3 (by decide) zt_295 rfl rfl (ty := .boolean) (v := (0 : Int32)) (by decide +kernel) (by decide) (by decide) (Nat.le_of_ble_eq_true rfl) dX7_init_62 (fun H locs hW hS => ?_)
  rw [nf_put] at hW
  have hW : WS9 Y 113 ac77 (nf S 0 (.inl (11, [.inl 5, .inl 41, .inl 77, zI, .inl 1, nuL, nuL, nuL, nuL, zI, zI])) (x7T Y)) H := hW
  refine lv_aload_n hx hb dX7_init_65 rfl (lv_at hl 0 rfl) ?_
  refine ws_new C0 hW hS inAX0 tyX0 tyX0_ok zt_208 zt_209 zt_7 (show CL[4]? = some (RX0, TX0, 3) from rfl) [.null, .int 0, .int 0] (by decide) (by decide) (by decide) dX7_init_66 (fun q113 H hW hS => ?_)
  have hh : h = upA ac77 113 q113 0 := by rw [upA_lt (by omega)]; exact hh
  have had : ∀ k, k < 1 → upA ac77 113 q113 k = ad k := fun k hk => (upA_lt (by omega)).trans (had k hk)
  have hq113 : q113 = upA ac77 113 q113 113 := upA_eq.symm
  generalize upA ac77 113 q113 = an113 at *
  refine lv_dup hx hb dX7_init_69 rfl ?_
  refine lv_aload_n hx hb dX7_init_70 rfl (lv_at hl 0 rfl) ?_
  refine ws_get C0 hW inAX7 (show CL[11]? = some (RX7, TX7, 11) from rfl) (k := 0) (by omega) hh (fs := [.inl 5, .inl 41, .inl 77, zI, .inl 1, nuL, nuL, nuL, nuL, zI, zI]) (by rw [upS_ne (by omega)]; exact nf_at) 4 (by decide) zt_296 rfl 1 rfl dX7_init_71 ?_
  refine ws_cW (hs_runI C0 hW hS (N9 := 1) (As := [.ref (an113 1)]) (rest := [.ref q113, .ref h]) (c_X0_init 1 113 q113 (an113 1) an113 _ (by omega) hq113 rfl upS_eq) ⟨⟨zt_7, zt_210, zt_211, zt_212⟩, rfl, by decide, by decide, by decide +kernel⟩ ⟨rfl, rfl, Nat.le_of_ble_eq_true rfl, Nat.le_of_ble_eq_true rfl⟩ rfl rfl hl.1 (Nat.le_of_ble_eq_true rfl) ⟨by decide, by decide⟩ dX7_init_74) hS (fun ac113 H locs had2 hW hS => ?_)
  have hW : WS9 Y 403 ac113 (nf S 0 (.inl (11, [.inl 5, .inl 41, .inl 77, zI, .inl 1, nuL, nuL, nuL, nuL, zI, zI])) (x7T Y)) H := ws_congr (nf_call (m := 290) (T := x7T Y) (by omega) x7T_113) hW
  have hh : h = ac113 0 := by rw [had2 0 (by omega)]; exact hh
  have had : ∀ k, k < 1 → ac113 k = ad k := fun k hk => by rw [had2 k (by omega)]; exact had k hk
  have hq113 : q113 = ac113 113 := by rw [had2 113 (by omega)]; exact hq113
  refine ws_putF C0 hm hW hS inAX7 tyX7 tyX7_ok nmX7 (show CL[11]? = some (RX7, TX7, 11) from rfl) (k := 0) (fs := [.inl 5, .inl 41, .inl 77, zI, .inl 1, nuL, nuL, nuL, nuL, zI, zI]) (by omega) hh nf_at 5 (by decide) zt_297 rfl rfl rfl (ty := .object "RiverParcelService$History") 113 (by omega) hq113 (by decide +kernel) rfl rfl (Nat.le_of_ble_eq_true rfl) dX7_init_77 (fun H locs hW hS => ?_)
  rw [nf_put] at hW
  have hW : WS9 Y 403 ac113 (nf S 0 (.inl (11, [.inl 5, .inl 41, .inl 77, zI, .inl 1, .inl 113, nuL, nuL, nuL, zI, zI])) (x7T Y)) H := hW
  refine lv_aload_n hx hb dX7_init_80 rfl (lv_at hl 0 rfl) ?_
  refine ws_new C0 hW hS inAX4 tyX4 tyX4_ok zt_228 zt_229 zt_8 (show CL[8]? = some (RX4, TX4, 6) from rfl) [.null, .int 0, .null, .null, .int 0, .int 0] (by decide) (by decide) (by decide) dX7_init_81 (fun q403 H hW hS => ?_)
  have hh : h = upA ac113 403 q403 0 := by rw [upA_lt (by omega)]; exact hh
  have had : ∀ k, k < 1 → upA ac113 403 q403 k = ad k := fun k hk => (upA_lt (by omega)).trans (had k hk)
  have hq403 : q403 = upA ac113 403 q403 403 := upA_eq.symm
  generalize upA ac113 403 q403 = an403 at *
  refine lv_dup hx hb dX7_init_84 rfl ?_
  refine ws_cW (hs_runI C0 hW hS (N9 := 0) (As := []) (rest := [.ref q403, .ref h]) (c_X4_init 403 q403 an403 _ hq403 upS_eq) ⟨⟨zt_8, zt_230, zt_231, zt_232⟩, rfl, by decide, by decide, by decide +kernel⟩ ⟨rfl, rfl, Nat.le_of_ble_eq_true rfl, Nat.le_of_ble_eq_true rfl⟩ rfl rfl hl.1 (Nat.le_of_ble_eq_true rfl) ⟨by decide, by decide⟩ dX7_init_85) hS (fun ac403 H locs had2 hW hS => ?_)
  have hW : WS9 Y 417 ac403 (nf S 0 (.inl (11, [.inl 5, .inl 41, .inl 77, zI, .inl 1, .inl 113, nuL, nuL, nuL, zI, zI])) (x7T Y)) H := ws_congr (nf_call (m := 14) (T := x7T Y) (by omega) x7T_403) hW
  have hh : h = ac403 0 := by rw [had2 0 (by omega)]; exact hh
  have had : ∀ k, k < 1 → ac403 k = ad k := fun k hk => by rw [had2 k (by omega)]; exact had k hk
  have hq403 : q403 = ac403 403 := by rw [had2 403 (by omega)]; exact hq403
  refine ws_putF C0 hm hW hS inAX7 tyX7 tyX7_ok nmX7 (show CL[11]? = some (RX7, TX7, 11) from rfl) (k := 0) (fs := [.inl 5, .inl 41, .inl 77, zI, .inl 1, .inl 113, nuL, nuL, nuL, zI, zI]) (by omega) hh nf_at 6 (by decide) zt_298 rfl rfl rfl (ty := .object "RiverParcelService$Program") 403 (by omega) hq403 (by decide +kernel) rfl rfl (Nat.le_of_ble_eq_true rfl) dX7_init_88 (fun H locs hW hS => ?_)
  rw [nf_put] at hW
  have hW : WS9 Y 417 ac403 (nf S 0 (.inl (11, [.inl 5, .inl 41, .inl 77, zI, .inl 1, .inl 113, .inl 403, nuL, nuL, zI, zI])) (x7T Y)) H := hW
  refine lv_aload_n hx hb dX7_init_91 rfl (lv_at hl 0 rfl) ?_
  refine lv_bipush (v := (12 : Int32)) hx hb dX7_init_92 (by decide) ?_
  refine ws_newa C0 hW hS (atype := .int) (ty := .int) zt_56 rfl 0 rfl (fun _ _ h => h) (12, .inl (fun _ => 0)) (fun _ => rfl) (by decide) (by decide) (by decide) (by decide) (by decide) dX7_init_94 (fun q417 H hW hS => ?_)
  have hW : WS9 Y 418 (upA ac403 417 q417) (nf S 0 (.inl (11, [.inl 5, .inl 41, .inl 77, zI, .inl 1, .inl 113, .inl 403, nuL, nuL, zI, zI])) (x7T Y)) H := ws_congr (nf_push (by omega) rfl) hW
  have hh : h = upA ac403 417 q417 0 := by rw [upA_lt (by omega)]; exact hh
  have had : ∀ k, k < 1 → upA ac403 417 q417 k = ad k := fun k hk => (upA_lt (by omega)).trans (had k hk)
  have hq417 : q417 = upA ac403 417 q417 417 := upA_eq.symm
  generalize upA ac403 417 q417 = an417 at *
  refine ws_putF C0 hm hW hS inAX7 tyX7 tyX7_ok nmX7 (show CL[11]? = some (RX7, TX7, 11) from rfl) (k := 0) (fs := [.inl 5, .inl 41, .inl 77, zI, .inl 1, .inl 113, .inl 403, nuL, nuL, zI, zI]) (by omega) hh nf_at 7 (by decide) zt_299 rfl rfl rfl (ty := .array .int) 417 (by omega) hq417 (by decide +kernel) rfl rfl (Nat.le_of_ble_eq_true rfl) dX7_init_96 (fun H locs hW hS => ?_)
  rw [nf_put] at hW
  have hW : WS9 Y 418 an417 (nf S 0 (.inl (11, [.inl 5, .inl 41, .inl 77, zI, .inl 1, .inl 113, .inl 403, .inl 417, nuL, zI, zI])) (x7T Y)) H := hW
  refine lv_aload_n hx hb dX7_init_99 rfl (lv_at hl 0 rfl) ?_
  refine ws_new C0 hW hS inAJ4 tyJ4 tyJ4_ok zt_259 zt_260 zt_10 (show CL[1]? = some (RJ4, TJ4, 4) from rfl) [.null, .int 0, .int 0, .int 0] (by decide) (by decide) (by decide) dX7_init_100 (fun q418 H hW hS => ?_)
  have hh : h = upA an417 418 q418 0 := by rw [upA_lt (by omega)]; exact hh
  have had : ∀ k, k < 1 → upA an417 418 q418 k = ad k := fun k hk => (upA_lt (by omega)).trans (had k hk)
  have hq418 : q418 = upA an417 418 q418 418 := upA_eq.symm
  generalize upA an417 418 q418 = an418 at *
  refine lv_dup hx hb dX7_init_103 rfl ?_
  refine ws_cW (hs_runI C0 hW hS (N9 := 0) (As := []) (rest := [.ref q418, .ref h]) (c_J4_init_da8c8 418 q418 an418 _ hq418 upS_eq) ⟨⟨zt_10, zt_261, zt_262, zt_263⟩, rfl, by decide, by decide, by decide +kernel⟩ ⟨rfl, rfl, Nat.le_of_ble_eq_true rfl, Nat.le_of_ble_eq_true rfl⟩ rfl rfl hl.1 (Nat.le_of_ble_eq_true rfl) ⟨by decide, by decide⟩ dX7_init_104) hS (fun ac418 H locs had2 hW hS => ?_)
  have hW : WS9 Y 420 ac418 (nf S 0 (.inl (11, [.inl 5, .inl 41, .inl 77, zI, .inl 1, .inl 113, .inl 403, .inl 417, nuL, zI, zI])) (x7T Y)) H := ws_congr (nf_call (m := 2) (T := x7T Y) (by omega) x7T_418) hW
  have hh : h = ac418 0 := by rw [had2 0 (by omega)]; exact hh
  have had : ∀ k, k < 1 → ac418 k = ad k := fun k hk => by rw [had2 k (by omega)]; exact had k hk
  have hq418 : q418 = ac418 418 := by rw [had2 418 (by omega)]; exact hq418
  refine ws_putF C0 hm hW hS inAX7 tyX7 tyX7_ok nmX7 (show CL[11]? = some (RX7, TX7, 11) from rfl) (k := 0) (fs := [.inl 5, .inl 41, .inl 77, zI, .inl 1, .inl 113, .inl 403, .inl 417, nuL, zI, zI]) (by omega) hh nf_at 8 (by decide) zt_300 rfl rfl rfl (ty := .object "java/lang/StringBuilder") 418 (by omega) hq418 (by decide +kernel) rfl rfl (Nat.le_of_ble_eq_true rfl) dX7_init_107 (fun H locs hW hS => ?_)
  rw [nf_put] at hW
  have hW : WS9 Y 420 ac418 (nf S 0 (.inl (11, [.inl 5, .inl 41, .inl 77, zI, .inl 1, .inl 113, .inl 403, .inl 417, .inl 418, zI, zI])) (x7T Y)) H := hW
  refine lv_aload_n hx hb dX7_init_110 rfl (lv_at hl 0 rfl) ?_
  refine lv_iconst (v := (-1 : Int32)) hx hb dX7_init_111 (by decide) ?_
  refine ws_putI C0 hW hS inAX7 tyX7 tyX7_ok nmX7 (show CL[11]? = some (RX7, TX7, 11) from rfl) (k := 0) (fs := [.inl 5, .inl 41, .inl 77, zI, .inl 1, .inl 113, .inl 403, .inl 417, .inl 418, zI, zI]) (by omega) hh nf_at 9 (by decide) zt_301 rfl rfl (ty := .int) (v := (-1 : Int32)) (by decide +kernel) (by decide) (by decide) (Nat.le_of_ble_eq_true rfl) dX7_init_112 (fun H locs hW hS => ?_)
  rw [nf_put] at hW
  have hW : WS9 Y 420 ac418 (nf S 0 (.inl (11, [.inl 5, .inl 41, .inl 77, zI, .inl 1, .inl 113, .inl 403, .inl 417, .inl 418, .inr (.int (-1 : Int32)), zI])) (x7T Y)) H := hW
  refine lv_aload_n hx hb dX7_init_115 rfl (lv_at hl 0 rfl) ?_
  refine lv_iconst (v := (-1 : Int32)) hx hb dX7_init_116 (by decide) ?_
  refine ws_putI C0 hW hS inAX7 tyX7 tyX7_ok nmX7 (show CL[11]? = some (RX7, TX7, 11) from rfl) (k := 0) (fs := [.inl 5, .inl 41, .inl 77, zI, .inl 1, .inl 113, .inl 403, .inl 417, .inl 418, .inr (.int (-1 : Int32)), zI]) (by omega) hh nf_at 10 (by decide) zt_302 rfl rfl (ty := .int) (v := (-1 : Int32)) (by decide +kernel) (by decide) (by decide) (Nat.le_of_ble_eq_true rfl) dX7_init_117 (fun H locs hW hS => ?_)
  rw [nf_put] at hW
  have hW : WS9 Y 420 ac418 (nf S 0 (.inl (11, [.inl 5, .inl 41, .inl 77, zI, .inl 1, .inl 113, .inl 403, .inl 417, .inl 418, .inr (.int (-1 : Int32)), .inr (.int (-1 : Int32))])) (x7T Y)) H := hW
  exact ws_vret C0 (ws_congr (fun k _ => (nf_to (S0 := S) (pl := 0) (B := x7B Y) rfl (fun j hj => if_neg (by omega)) k)) hW) had hS (by decide) (by decide) dX7_init_120
