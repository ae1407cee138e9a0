/-- a block of cells from place pl on: its object, then what T says -/
def nf (S0 : Nat → SE) (pl : Nat) (a : SE) (T : Nat → SE) : Nat → SE := fun k => if k < pl then S0 k else if k = pl then a else T (k - pl)
theorem nf_lt {S0 : Nat → SE} {pl k : Nat} {a : SE} {T : Nat → SE} (h : k < pl) : nf S0 pl a T k = S0 k := if_pos h
theorem nf_at {S0 : Nat → SE} {pl : Nat} {a : SE} {T : Nat → SE} : nf S0 pl a T pl = a := by unfold nf; rw [if_neg (by omega), if_pos rfl]
theorem nf_T {S0 : Nat → SE} {pl k : Nat} {a : SE} {T : Nat → SE} (h : pl < k) : nf S0 pl a T k = T (k - pl) := by unfold nf; rw [if_neg (by omega), if_neg (by omega)]
theorem nf_put {S0 : Nat → SE} {pl : Nat} {a b : SE} {T : Nat → SE} : upS (nf S0 pl a T) pl b = nf S0 pl b T := by
  funext k
  unfold upS nf
  by_cases h : k = pl
  · subst h; rw [if_pos rfl, if_neg (by omega), if_pos rfl]
  · rw [if_neg h, if_neg h, if_neg h]
theorem nf_push {S0 : Nat → SE} {pl n : Nat} {a : SE} {T : Nat → SE} {x : SE} (h : pl < n) (hx : T (n - pl) = x) : ∀ k, k < n + 1 → nf S0 pl a T k = upS (nf S0 pl a T) n x k := fun k hk => by
  unfold upS
  by_cases h1 : k = n
  · subst h1; rw [if_pos rfl, nf_T h, hx]
  · rw [if_neg h1]
theorem nf_new {S0 : Nat → SE} {pl : Nat} {a : SE} {T : Nat → SE} (h : S0 pl = a) : ∀ k, k < pl + 1 → nf S0 pl a T k = S0 k := fun k hk => by
  by_cases h1 : k < pl
  · exact nf_lt h1
  · obtain rfl : k = pl := by omega
    rw [nf_at, h]
/-- a constructor's block behind it -/
theorem nf_call {S0 : Nat → SE} {pl n m : Nat} {a raw : SE} {T B : Nat → SE} (h : pl < n) (hB : ∀ j, j < m → T (n - pl + j) = B j) : ∀ k, k < n + m → nf S0 pl a T k = if k < n then upS (nf S0 pl a T) n raw k else B (k - n) := fun k hk => by
  by_cases h1 : k < n
  · rw [if_pos h1, upS_ne (by omega)]
  · rw [if_neg h1, nf_T (by omega), ← hB (k - n) (by omega), show n - pl + (k - n) = k - pl by omega]
theorem nf_to {S0 : Nat → SE} {pl : Nat} {a : SE} {T B : Nat → SE} (h0 : B 0 = a) (hB : ∀ j, 0 < j → B j = T j) (k : Nat) : (if k < pl then S0 k else B (k - pl)) = nf S0 pl a T k := by
  unfold nf
  by_cases h1 : k < pl
  · rw [if_pos h1, if_pos h1]
  · rw [if_neg h1, if_neg h1]
    by_cases h2 : k = pl
    · subst h2; rw [if_pos rfl, show k - k = 0 by omega, h0]
    · rw [if_neg h2, hB _ (by omega)]
theorem upS_up {S : Nat → SE} {n : Nat} {a b : SE} : upS (upS S n a) n b = upS S n b := by
  funext k
  unfold upS
  by_cases h : k = n
  · rw [if_pos h, if_pos h]
  · rw [if_neg h, if_neg h, if_neg h]
def svcO (w p : Nat) : SE := .inl (9, [.inl w, .inl (p + 1), .inl (p + 23), zI, zI, zI, zI, zI, zI])
def svcT (Y : LY) (p i o : Nat) : SE := if o < 23 then netP Y (p + 1) 20 (o - 1) else if o = 23 then .inr (.inr (YC Y 4, 12, fun j => if j < i then some (p + 24 + j) else none)) else parS
def svcB (Y : LY) (w p o : Nat) : SE := if o = 0 then svcO w p else svcT Y p 12 o
theorem svcT_step {Y : LY} {w p i : Nat} {S : Nat → SE} (k : Nat) (hk : k < p + 24 + i + 1) : nf S p (svcO w p) (svcT Y p (i + 1)) k = upS (upS (nf S p (svcO w p) (svcT Y p i)) (p + 24 + i) parS) (p + 23) (.inr (.inr (YC Y 4, 12, fun j => if j = i then some (p + 24 + i) else if j < i then some (p + 24 + j) else none))) k := by
  unfold upS
  by_cases h1 : k = p + 23
  · subst h1
    rw [if_pos rfl, nf_T (by omega), show p + 23 - p = 23 by omega]
    unfold svcT
    rw [if_neg (by omega), if_pos rfl]
    have e : (fun j => if j < i + 1 then some (p + 24 + j) else none) = fun j => if j = i then some (p + 24 + i) else if j < i then some (p + 24 + j) else none := by
      funext j
      by_cases h2 : j = i
      · subst h2; rw [if_pos (by omega), if_pos rfl]
      · by_cases h3 : j < i
        · rw [if_pos (by omega), if_neg h2, if_pos h3]
        · rw [if_neg (by omega), if_neg h2, if_neg h3]
    rw [e]
  · rw [if_neg h1]
    by_cases h2 : k = p + 24 + i
    · subst h2
      rw [if_pos rfl, nf_T (by omega)]
      unfold svcT
      rw [if_neg (by omega), if_neg (by omega)]
    · rw [if_neg h2]
      by_cases h3 : k < p
      · rw [nf_lt h3, nf_lt h3]
      · by_cases h4 : k = p
        · subst h4; rw [nf_at, nf_at]
        · rw [nf_T (by omega), nf_T (by omega)]
          unfold svcT
          by_cases h5 : k - p < 23
          · rw [if_pos h5, if_pos h5]
          · rw [if_neg h5, if_neg h5, if_neg (by omega), if_neg (by omega)]
set_option maxHeartbeats 4000000 in
set_option maxRecDepth 100000 in
theorem w_X5_init {Y : LY} {p : Program} {l : Launch} {e : Env} {s : State} {m : MethodId} {args : Array Value} {below : List Frame} {meth : Method} {c : Code} (C0 : BE Y p s m args meth c cX5_init 3 none RX5) (w pl h : Nat) (ad : Nat → Nat) (S : Nat → SE) : ∀ (d i : Nat), i + d = 12 → ∀ (ad2 : Nat → Nat) (H : Heap) (locs : List Loc) (ls : Array Slot), WS9 Y (pl + 24 + i) ad2 (nf S pl (svcO w pl) (svcT Y pl i)) H → (∀ k, k < pl + 1 → ad2 k = ad k) → h = ad pl → va_S (AZ Y) s.heap H locs → lv_has ls 3 [(2, .int (nI i)), (0, .ref h)] →
    W p l e { frames := 3, cells := 35, slots := 219, locals := 150 } s m args below meth c H locs (23 + i) (135 + 7 * i) (MQ below (QW Y (pl + 1) ad (pl + 36) (fun k => if k < pl then S k else svcB Y w pl (k - pl))) args s 35 219 (AZ Y)) (F0 m 31 ls []) := by
  obtain ⟨hx, hb, hr, hml, hown, hA, hlocks, hK, hZ⟩ := id C0
  intro d
  induction d with
  | zero =>
    intro i hi ad2 H locs ls hW had hh hS hl
    obtain rfl : i = 12 := by omega
    refine lv_iload_n hx hb dX5_init_31 rfl (lv_at hl 0 rfl) ?_
    refine lv_bipush (v := (12 : Int32)) hx hb dX5_init_32 (by decide) ?_
    refine lv_icmp_ge (tgt := 56) hx hb dX5_init_34 (by decide) (fun hc => ?_) (fun hc => absurd (show (12 : Int32) ≤ nI 12 by decide) hc)
    exact ws_vret C0 (ws_congr (fun k _ => nf_to (B := svcB Y w pl) rfl (fun j hj => if_neg (by omega)) k) hW) had hS (by decide) (by decide) dX5_init_56
  | succ d ih =>
    intro i hi ad2 H locs ls hW had hh hS hl
    refine lv_iload_n hx hb dX5_init_31 rfl (lv_at hl 0 rfl) ?_
    refine lv_bipush (v := (12 : Int32)) hx hb dX5_init_32 (by decide) ?_
    refine lv_icmp_ge (tgt := 56) hx hb dX5_init_34 (by decide) (fun hc => absurd hc (show ¬ nI 12 ≤ nI i from nI_ge (by omega) (by omega))) (fun hc => ?_)
    have e1 : nf S pl (svcO w pl) (svcT Y pl i) (pl + 23) = .inr (.inr (YC Y 4, 12, fun j => if j < i then some (pl + 24 + j) else none)) := by
      rw [nf_T (by omega), show pl + 23 - pl = 23 by omega]
      rfl
    refine lv_aload_n hx hb dX5_init_37 rfl (lv_at hl 1 rfl) ?_
    refine ws_get C0 hW inAX5 (show CL[9]? = some (RX5, TX5, 9) from rfl) (k := pl) (by omega) (by rw [hh, had pl (by omega)]) (fs := [.inl w, .inl (pl + 1), .inl (pl + 23), zI, zI, zI, zI, zI, zI]) nf_at 2 (by decide) zt_175 rfl (pl + 23) rfl dX5_init_38 ?_
    refine lv_iload_n hx hb dX5_init_41 rfl (lv_at hl 0 rfl) ?_
    refine ws_new C0 hW hS inAX3 tyX3 tyX3_ok zt_129 zt_131 zt_6 (show CL[7]? = some (RX3, TX3, 7) from rfl) [.int 0, .int 0, .int 0, .int 0, .int 0, .int 0, .int 0] (by decide) (by show 23 + i + 1 ≤ 35; omega) (by show 135 + 7 * i + 7 ≤ 219; omega) dX5_init_42 (fun q H hW hS => ?_)
    have had2 : ∀ k, k < pl + 24 + i → upA ad2 (pl + 24 + i) q k = ad2 k := fun k hk => upA_lt hk
    have eq : q = upA ad2 (pl + 24 + i) q (pl + 24 + i) := upA_eq.symm
    refine lv_dup hx hb dX5_init_45 rfl ?_
    refine hs_cv (hs_runIN C0 hW hS (c_X3_init q) (List.mem_of_getElem? (i := 1) rfl) ⟨⟨zt_6, zt_133, zt_134⟩, rfl, by decide, by decide, by decide +kernel⟩ ⟨rfl, rfl, Nat.le_of_ble_eq_true rfl, Nat.le_of_ble_eq_true rfl⟩ hl.1 (Nat.le_of_ble_eq_true rfl) ⟨by show 23 + i + 1 + 0 ≤ 35; omega, by show 135 + 7 * i + 7 + 0 ≤ 219; omega⟩ dX5_init_46) hS (fun H locs hW hS => ?_)
    refine ws_astq C0 hW hS (r := (RX3, TX3, 7)) (ci := 7) (t0 := 4) (k := pl + 23) (e9 := pl + 24 + i) (fs := [zI, zI, zI, zI, zI, zI, zI]) (i0 := i) (by omega) (had2 (pl + 23) (by omega)).symm (by rw [upS_ne (by omega)]; exact e1) rfl (by omega) eq (by rw [upS_eq]; rfl) rfl (nI_clamp (by omega)) (vp_in_nI (by omega) (by omega)) dX5_init_49 (fun H locs hW hS => ?_)
    refine lv_iinc (v := nI (i + 1)) (lv' := [(2, .int (nI (i + 1))), (0, .ref h)]) hx hb dX5_init_50 hl (k := 0) rfl (show nI i + Int32.ofInt 1 = nI (i + 1) from nI_1 i) (by decide) rfl (fun ls hl => ?_)
    refine lv_goto (tgt := 31) hx hb dX5_init_53 (by decide) ?_
    refine W.widen (k := 23 + (i + 1)) (n := 135 + 7 * (i + 1)) (by omega) (by omega) ?_
    refine ih (i + 1) (by omega) (upA ad2 (pl + 24 + i) q) H locs ls (ws_congr (fun k hk => svcT_step k hk) hW) (fun k hk => by rw [had2 k (by omega)]; exact had k hk) hh hS hl
set_option maxHeartbeats 4000000 in
set_option maxRecDepth 100000 in
theorem c_X5_init {Y : LY} {l : Launch} (w pl h hw : Nat) (ad : Nat → Nat) (S : Nat → SE) (hwl : w < pl) (hh : h = ad pl) (hww : hw = ad w) (hs : S pl = .inl (9, [nuL, nuL, nuL, zI, zI, zI, zI, zI, zI])) : Met l yX5_init (WS yX5_init cX5_init 3 none) { frames := 3, cells := 35, slots := 219, locals := 150 } (PcP Y (WS9 Y (pl + 1) ad S) [.ref h, .ref hw]) (QW Y (pl + 1) ad (pl + 36) (fun k => if k < pl then S k else svcB Y w pl (k - pl))) 35 219 (AZ Y) := by
  refine met_mki (lv := [(0, .ref h), (1, .ref hw)]) [.ref h, .ref hw] (by decide) rfl rfl (Nat.le_of_ble_eq_true rfl) (fun p e s m below meth c C0 hm hW ls hl => ?_)
  have hS : va_S (AZ Y) s.heap s.heap [] := va_S.rf
  obtain ⟨hx, hb, hr, hml, hown, hA, hlocks, hK, hZ⟩ := id C0
  have hW := ws_congr (nf_new (T := svcT Y pl 0) hs) hW
  refine lv_aload_n hx hb dX5_init_0 rfl (lv_at hl 0 rfl) ?_
  refine ws_obj C0 hl.1 zt_63 (Nat.le_of_ble_eq_true rfl) (Nat.le_of_ble_eq_true rfl) dX5_init_1 ?_
  refine lv_aload_n hx hb dX5_init_4 rfl (lv_at hl 0 rfl) ?_
  refine lv_aload_n hx hb dX5_init_5 rfl (lv_at hl 1 rfl) ?_
  refine ws_putF C0 hm hW hS inAX5 tyX5 tyX5_ok nmX5 (show CL[9]? = some (RX5, TX5, 9) from rfl) (k := pl) (fs := [nuL, nuL, nuL, zI, zI, zI, zI, zI, zI]) (by omega) hh nf_at 0 (by decide) zt_172 rfl rfl rfl (ty := .object "RiverParcelService$Ways") w (by omega) hww (by decide +kernel) rfl rfl (by decide) dX5_init_6 (fun H locs hW hS => ?_)
  rw [nf_put] at hW
  refine lv_aload_n hx hb dX5_init_9 rfl (lv_at hl 0 rfl) ?_
  refine ws_new C0 hW hS inAX2 tyX2 tyX2_ok zt_64 zt_65 zt_4 (show CL[6]? = some (RX2, TX2, 3) from rfl) [.null, .int 0, .int 0] (by decide) (by decide) (by decide) dX5_init_10 (fun q H hW hS => ?_)
  refine lv_dup hx hb dX5_init_13 rfl ?_
  refine ws_cW (hs_runI C0 hW hS (N9 := 0) (As := []) (rest := [.ref q, .ref h]) (c_X2_init (pl + 1) q (upA ad (pl + 1) q) _ upA_eq.symm upS_eq) ⟨⟨zt_4, zt_66, zt_67, zt_68⟩, rfl, by decide, by decide, by decide +kernel⟩ ⟨rfl, rfl, Nat.le_of_ble_eq_true rfl, Nat.le_of_ble_eq_true rfl⟩ rfl rfl hl.1 (Nat.le_of_ble_eq_true rfl) ⟨by decide, by decide⟩ dX5_init_14) hS (fun ad2 H locs had2 hW hS => ?_)
  have hW := ws_congr (nf_call (m := 22) (T := svcT Y pl 0) (B := netP Y (pl + 1) 20) (by omega) (fun j hj => by
    unfold svcT
    rw [if_pos (by omega), show pl + 1 - pl + j - 1 = j by omega])) hW
  have hh2 : h = ad2 pl := by rw [had2 pl (by omega), upA_lt (by omega)]; exact hh
  have hq2 : q = ad2 (pl + 1) := by rw [had2 (pl + 1) (by omega), upA_eq]
  refine ws_putF C0 hm hW hS inAX5 tyX5 tyX5_ok nmX5 (show CL[9]? = some (RX5, TX5, 9) from rfl) (k := pl) (fs := [.inl w, nuL, nuL, zI, zI, zI, zI, zI, zI]) (by omega) hh2 nf_at 1 (by decide) zt_173 rfl rfl rfl (ty := .object "RiverParcelService$Network") (pl + 1) (by omega) hq2 (by decide +kernel) rfl rfl (Nat.le_of_ble_eq_true rfl) dX5_init_17 (fun H locs hW hS => ?_)
  rw [nf_put] at hW
  refine lv_aload_n hx hb dX5_init_20 rfl (lv_at hl 0 rfl) ?_
  refine lv_bipush (v := (12 : Int32)) hx hb dX5_init_21 (by decide) ?_
  refine ws_newq C0 hW hS zt_129 (by decide) 4 rfl (by decide) (N := 12) (by decide) (by decide) (by decide) (by decide) dX5_init_23 (fun q3 H hW hS => ?_)
  have hW := ws_congr (nf_push (by omega) (by
    rw [show pl + 1 + 22 - pl = 23 by omega]
    unfold svcT
    rw [if_neg (by omega), if_pos rfl]
    simp)) hW
  refine ws_putF C0 hm hW hS inAX5 tyX5 tyX5_ok nmX5 (show CL[9]? = some (RX5, TX5, 9) from rfl) (k := pl) (fs := [.inl w, .inl (pl + 1), nuL, zI, zI, zI, zI, zI, zI]) (by omega) (by rw [upA_lt (by omega)]; exact hh2) nf_at 2 (by decide) zt_175 rfl rfl rfl (ty := .array (.object "RiverParcelService$Parcel")) (pl + 23) (by omega) upA_eq.symm (by decide +kernel) rfl rfl (Nat.le_of_ble_eq_true rfl) dX5_init_26 (fun H locs hW hS => ?_)
  rw [nf_put] at hW
  refine lv_iconst (v := (0 : Int32)) hx hb dX5_init_29 (by decide) ?_
  refine lv_istore_n (lv' := [(2, .int (nI 0)), (0, .ref h), (1, .ref hw)]) hx hb dX5_init_30 rfl hl (by decide) rfl (fun ls hl => ?_)
  exact w_X5_init C0 w pl h ad S 12 0 rfl (upA ad2 (pl + 1 + 22) q3) H locs ls hW (fun k hk => by rw [upA_lt (by omega), had2 k (by omega), upA_lt (by omega)]) hh hS (lv_sub hl [0, 1] rfl)
def hisO (p : Nat) : SE := .inl (4, [.inl (p + 1), zI, zI])
def hisT (Y : LY) (w p i o : Nat) : SE := if o = 1 then .inr (.inr (YC Y 5, 8, fun j => if j < i then some (p + 2 + 36 * j) else none)) else svcB Y w (p + 2 + 36 * ((o - 2) / 36)) ((o - 2) % 36)
def hisB (Y : LY) (w p o : Nat) : SE := if o = 0 then hisO p else hisT Y w p 8 o
theorem hisT_step {Y : LY} {w p i : Nat} {S : Nat → SE} {raw : SE} (k : Nat) (hk : k < p + 2 + 36 * i + 36) : nf S p (hisO p) (hisT Y w p (i + 1)) k = upS (fun k => if k < p + 2 + 36 * i then upS (nf S p (hisO p) (hisT Y w p i)) (p + 2 + 36 * i) raw k else svcB Y w (p + 2 + 36 * i) (k - (p + 2 + 36 * i))) (p + 1) (.inr (.inr (YC Y 5, 8, fun j => if j = i then some (p + 2 + 36 * i) else if j < i then some (p + 2 + 36 * j) else none))) k := by
  by_cases h1 : k = p + 1
  · subst h1
    rw [upS_eq, nf_T (by omega), show p + 1 - p = 1 by omega]
    unfold hisT
    rw [if_pos rfl]
    have e : (fun j => if j < i + 1 then some (p + 2 + 36 * j) else none) = fun j => if j = i then some (p + 2 + 36 * i) else if j < i then some (p + 2 + 36 * j) else none := by
      funext j
      by_cases h2 : j = i
      · subst h2; rw [if_pos (by omega), if_pos rfl]
      · by_cases h3 : j < i
        · rw [if_pos (by omega), if_neg h2, if_pos h3]
        · rw [if_neg (by omega), if_neg h2, if_neg h3]
    rw [e]
  · rw [upS_ne h1]
    by_cases h2 : k < p + 2 + 36 * i
    · rw [if_pos h2, upS_ne (by omega)]
      by_cases h3 : k < p
      · rw [nf_lt h3, nf_lt h3]
      · by_cases h4 : k = p
        · subst h4; rw [nf_at, nf_at]
        · rw [nf_T (by omega), nf_T (by omega)]
          unfold hisT
          rw [if_neg (by omega), if_neg (by omega)]
    · rw [if_neg h2, nf_T (by omega)]
      unfold hisT
      rw [if_neg (by omega), show (k - p - 2) / 36 = i by omega, show (k - p - 2) % 36 = k - (p + 2 + 36 * i) by omega]
set_option maxHeartbeats 4000000 in
set_option maxRecDepth 100000 in
theorem w_X0_init {Y : LY} {p : Program} {l : Launch} {e : Env} {s : State} {m : MethodId} {args : Array Value} {below : List Frame} {meth : Method} {c : Code} (C0 : BE Y p s m args meth c cX0_init 3 none RX0) (w pl h hw : Nat) (ad : Nat → Nat) (S : Nat → SE) (hwl : w < pl) (hww : hw = ad w) : ∀ (d i : Nat), i + d = 8 → ∀ (ad2 : Nat → Nat) (H : Heap) (locs : List Loc) (ls : Array Slot), WS9 Y (pl + 2 + 36 * i) ad2 (nf S pl (hisO pl) (hisT Y w pl i)) H → (∀ k, k < pl + 1 → ad2 k = ad k) → h = ad pl → va_S (AZ Y) s.heap H locs → lv_has ls 3 [(2, .int (nI i)), (0, .ref h), (1, .ref hw)] →
    W p l e { frames := 4, cells := 289, slots := 1832, locals := 200 } s m args below meth c H locs (1 + 36 * i) (8 + 228 * i) (MQ below (QW Y (pl + 1) ad (pl + 290) (fun k => if k < pl then S k else hisB Y w pl (k - pl))) args s 289 1832 (AZ Y)) (F0 m 15 ls []) := by
  obtain ⟨hx, hb, hr, hml, hown, hA, hlocks, hK, hZ⟩ := id C0
  intro d
  induction d with
  | zero =>
    intro i hi ad2 H locs ls hW had hh hS hl
    obtain rfl : i = 8 := by omega
    refine lv_iload_n hx hb dX0_init_15 rfl (lv_at hl 0 rfl) ?_
    refine lv_bipush (v := (8 : Int32)) hx hb dX0_init_16 (by decide) ?_
    refine lv_icmp_ge (tgt := 41) hx hb dX0_init_18 (by decide) (fun hc => ?_) (fun hc => absurd (show (8 : Int32) ≤ nI 8 by decide) hc)
    exact ws_vret C0 (ws_congr (fun k _ => nf_to (B := hisB Y w pl) rfl (fun j hj => if_neg (by omega)) k) hW) had hS (by decide) (by decide) dX0_init_41
  | succ d ih =>
    intro i hi ad2 H locs ls hW had hh hS hl
    refine lv_iload_n hx hb dX0_init_15 rfl (lv_at hl 0 rfl) ?_
    refine lv_bipush (v := (8 : Int32)) hx hb dX0_init_16 (by decide) ?_
    refine lv_icmp_ge (tgt := 41) hx hb dX0_init_18 (by decide) (fun hc => absurd hc (show ¬ nI 8 ≤ nI i from nI_ge (by omega) (by omega))) (fun hc => ?_)
    have e1 : nf S pl (hisO pl) (hisT Y w pl i) (pl + 1) = .inr (.inr (YC Y 5, 8, fun j => if j < i then some (pl + 2 + 36 * j) else none)) := by
      rw [nf_T (by omega), show pl + 1 - pl = 1 by omega]
      rfl
    refine lv_aload_n hx hb dX0_init_21 rfl (lv_at hl 1 rfl) ?_
    refine ws_get C0 hW inAX0 (show CL[4]? = some (RX0, TX0, 3) from rfl) (k := pl) (by omega) (by rw [hh, had pl (by omega)]) (fs := [.inl (pl + 1), zI, zI]) nf_at 0 (by decide) zt_217 rfl (pl + 1) rfl dX0_init_22 ?_
    refine lv_iload_n hx hb dX0_init_25 rfl (lv_at hl 0 rfl) ?_
    refine ws_new C0 hW hS inAX5 tyX5 tyX5_ok zt_214 zt_59 zt_3 (show CL[9]? = some (RX5, TX5, 9) from rfl) [.null, .null, .null, .int 0, .int 0, .int 0, .int 0, .int 0, .int 0] (by decide) (by show 1 + 36 * i + 1 ≤ 289; omega) (by show 8 + 228 * i + 9 ≤ 1832; omega) dX0_init_26 (fun q H hW hS => ?_)
    have had2 : ∀ k, k < pl + 2 + 36 * i → upA ad2 (pl + 2 + 36 * i) q k = ad2 k := fun k hk => upA_lt hk
    refine lv_dup hx hb dX0_init_29 rfl ?_
    refine lv_aload_n hx hb dX0_init_30 rfl (lv_at hl 2 rfl) ?_
    refine ws_cW (hs_runI C0 hW hS (N9 := 1) (As := [.ref hw]) (rest := [.ref q, .int (nI i), .ref (ad2 (pl + 1))]) (c_X5_init w (pl + 2 + 36 * i) q hw (upA ad2 (pl + 2 + 36 * i) q) _ (by omega) upA_eq.symm (by rw [upA_lt (by omega), had w (by omega)]; exact hww) upS_eq) ⟨⟨zt_3, zt_216, zt_61, zt_62⟩, rfl, by decide, by decide, by decide +kernel⟩ ⟨rfl, rfl, Nat.le_of_ble_eq_true rfl, Nat.le_of_ble_eq_true rfl⟩ rfl rfl hl.1 (Nat.le_of_ble_eq_true rfl) ⟨by show 1 + 36 * i + 1 + 35 ≤ 289; omega, by show 8 + 228 * i + 9 + 219 ≤ 1832; omega⟩ dX0_init_31) hS (fun ad3 H locs had3 hW hS => ?_)
    refine ws_astq C0 hW hS (r := (RX5, TX5, 9)) (ci := 9) (t0 := 5) (k := pl + 1) (e9 := pl + 2 + 36 * i) (fs := [.inl w, .inl (pl + 2 + 36 * i + 1), .inl (pl + 2 + 36 * i + 23), zI, zI, zI, zI, zI, zI]) (i0 := i) (by omega) (by rw [had3 (pl + 1) (by omega), had2 (pl + 1) (by omega)]) (by
      rw [if_pos (by omega), upS_ne (by omega)]
      exact e1) rfl (by omega) (by rw [had3 _ (by omega), upA_eq]) (by
      rw [if_neg (by omega), show pl + 2 + 36 * i - (pl + 2 + 36 * i) = 0 by omega]
      rfl) rfl (nI_clamp (by omega)) (vp_in_nI (by omega) (by omega)) dX0_init_34 (fun H locs hW hS => ?_)
    refine lv_iinc (v := nI (i + 1)) (lv' := [(2, .int (nI (i + 1))), (0, .ref h), (1, .ref hw)]) hx hb dX0_init_35 hl (k := 0) rfl (show nI i + Int32.ofInt 1 = nI (i + 1) from nI_1 i) (by decide) rfl (fun ls hl => ?_)
    refine lv_goto (tgt := 15) hx hb dX0_init_38 (by decide) ?_
    refine W.widen (k := 1 + 36 * (i + 1)) (n := 8 + 228 * (i + 1)) (by omega) (by omega) ?_
    refine ih (i + 1) (by omega) ad3 H locs ls (ws_congr (fun k hk => hisT_step k (by omega)) hW) (fun k hk => by rw [had3 k (by omega), had2 k (by omega)]; exact had k hk) hh hS hl
set_option maxHeartbeats 4000000 in
set_option maxRecDepth 100000 in
theorem c_X0_init {Y : LY} {l : Launch} (w pl h hw : Nat) (ad : Nat → Nat) (S : Nat → SE) (hwl : w < pl) (hh : h = ad pl) (hww : hw = ad w) (hs : S pl = .inl (4, [nuL, zI, zI])) : Met l yX0_init (WS yX0_init cX0_init 3 none) { frames := 4, cells := 289, slots := 1832, locals := 200 } (PcP Y (WS9 Y (pl + 1) ad S) [.ref h, .ref hw]) (QW Y (pl + 1) ad (pl + 290) (fun k => if k < pl then S k else hisB Y w pl (k - pl))) 289 1832 (AZ Y) := by
  refine met_mki (lv := [(0, .ref h), (1, .ref hw)]) [.ref h, .ref hw] (by decide) rfl rfl (Nat.le_of_ble_eq_true rfl) (fun p e s m below meth c C0 hm hW ls hl => ?_)
  have hS : va_S (AZ Y) s.heap s.heap [] := va_S.rf
  obtain ⟨hx, hb, hr, hml, hown, hA, hlocks, hK, hZ⟩ := id C0
  have hW := ws_congr (nf_new (T := hisT Y w pl 0) hs) hW
  refine lv_aload_n hx hb dX0_init_0 rfl (lv_at hl 0 rfl) ?_
  refine ws_obj C0 hl.1 zt_213 (Nat.le_of_ble_eq_true rfl) (Nat.le_of_ble_eq_true rfl) dX0_init_1 ?_
  refine lv_aload_n hx hb dX0_init_4 rfl (lv_at hl 0 rfl) ?_
  refine lv_bipush (v := (8 : Int32)) hx hb dX0_init_5 (by decide) ?_
  refine ws_newq C0 hW hS zt_214 (by decide) 5 rfl (by decide) (N := 8) (by decide) (by decide) (by decide) (by decide) dX0_init_7 (fun q3 H hW hS => ?_)
  have hW := ws_congr (nf_push (by omega) (by
    rw [show pl + 1 - pl = 1 by omega]
    unfold hisT
    rw [if_pos rfl]
    simp)) hW
  refine ws_putF C0 hm hW hS inAX0 tyX0 tyX0_ok nmX0 (show CL[4]? = some (RX0, TX0, 3) from rfl) (k := pl) (fs := [nuL, zI, zI]) (by omega) (by rw [upA_lt (by omega)]; exact hh) nf_at 0 (by decide) zt_217 rfl rfl rfl (ty := .array (.object "RiverParcelService$Service")) (pl + 1) (by omega) upA_eq.symm (by decide +kernel) rfl rfl (by decide) dX0_init_10 (fun H locs hW hS => ?_)
  rw [nf_put] at hW
  refine lv_iconst (v := (0 : Int32)) hx hb dX0_init_13 (by decide) ?_
  refine lv_istore_n (lv' := [(2, .int (nI 0)), (0, .ref h), (1, .ref hw)]) hx hb dX0_init_14 rfl hl (by decide) rfl (fun ls hl => ?_)
  exact w_X0_init C0 w pl h hw ad S hwl hww 8 0 rfl (upA ad (pl + 1) q3) H locs ls hW (fun k hk => upA_lt (by omega)) hh hS hl
