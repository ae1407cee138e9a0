set_option maxHeartbeats 8000000 in
set_option maxRecDepth 100000 in
/-- the law's entry, over what its loop does with the memory -/
theorem start_of {p : Program} {e : Env} {s : State} {m : MethodId} {below : List Frame} {meth : Method} {c : Code} (l : Launch) (hl9 : l.stackTraces = false) {b L : Nat} {xs : Nat → Int32} (hf : f_L_law_28 xs L 513 M0 0 = some ()) (C0 : lw_At p s m meth c b L xs) : W p l e room_1 s m #[Value.ref b] below meth c s.heap [] 0 0 (lw_Z below #[Value.ref b] s) (entryFrame m ([Value.ref b] : List Value).toArray 9) := by
  obtain ⟨hx, hb, hr, hml, hown, hts, hX, hbl, hlocks, hgv⟩ := C0
  obtain ⟨Y, hKK, hYZ⟩ := kk_start hts hgv
  have C1 : BE Y p s m #[Value.ref b] meth c cL_law 9 ret RL := ⟨hx, hb, hr, hml, hown, fun w h => hts w (allw_in h), hlocks, hKK, by rw [hYZ]; exact Nat.le_refl _⟩
  have hZ : YZ Y ≤ s.heap.size := by rw [hYZ]; exact Nat.le_refl _
  have hS : va_S (AZ Y) s.heap s.heap [] := va_S.rf
  have hl := lv_entry ([.ref b]) (n := 9) (Nat.le_of_ble_eq_true rfl)
  rw [lg_entry_eq]
  generalize (lg_sl ([.ref b]) ++ List.replicate (9 - (lg_sl ([.ref b])).length) Slot.unset).toArray = ls at hl ⊢
  have hl : lv_has ls 9 [(0, .ref b)] := hl
  have hW : WS9 Y 0 (fun _ => 0) (fun _ => lnkS) s.heap := ⟨fun k hk => absurd hk (Nat.not_lt_zero k), fun k q h => by simp [WL] at h, fun i j p q h => by simp [WL] at h, fun k q h => by simp [WL] at h⟩
  refine ws_new C1 hW hS inAX7 tyX7 tyX7_ok zt_32 zt_33 zt_1 (show CL[11]? = some (RX7, TX7, 11) from rfl) [.null, .null, .null, .int 0, .null, .null, .null, .null, .null, .int 0, .int 0] (by decide) (by decide) (by decide) dL_law_0 (fun q0 H hW hS => ?_)
  refine lv_dup hx hb dL_law_3 rfl ?_
  refine ws_cW (hs_runI C1 hW hS (N9 := 0) (As := []) (rest := [.ref q0]) (c_X7_init q0 (upA (fun _ => 0) 0 q0) _ upA_eq.symm upS_eq) ⟨⟨zt_1, zt_34, zt_35, zt_36⟩, rfl, by decide, by decide, by decide +kernel⟩ ⟨rfl, rfl, Nat.le_of_ble_eq_true rfl, Nat.le_of_ble_eq_true rfl⟩ rfl rfl hl.1 (Nat.le_of_ble_eq_true rfl) ⟨by decide, by decide⟩ dL_law_4) hS (fun a1 H locs had1 hW hS => ?_)
  have hq0 : q0 = a1 0 := by rw [had1 0 (by omega), upA_eq]
  refine lv_astore_n (lv' := [(1, .ref q0), (0, .ref b)]) hx hb dL_law_7 rfl hl (by decide) rfl (fun ls hl => ?_)
  refine ws_new C1 hW hS inAX8 tyX8 tyX8_ok zt_1545 zt_1546 zt_13 (show CL[12]? = some (RX8, TX8, 23) from rfl) [.null, .null, .null, .null, .int 0, .null, .int 0, .int 0, .int 0, .int 0, .null, .int 0, .null, .null, .null, .int 0, .null, .null, .null, .int 0, .int 0, .int 0, .int 0] (by decide) (by decide) (by decide) dL_law_8 (fun q1 H hW hS => ?_)
  refine lv_dup hx hb dL_law_11 rfl ?_
  refine ws_cW (hs_runI C1 hW hS (N9 := 0) (As := []) (rest := [.ref q1]) (c_X8_init 420 q1 (upA a1 420 q1) _ upA_eq.symm upS_eq) ⟨⟨zt_13, zt_1547, zt_1548, zt_1549⟩, rfl, by decide, by decide, by decide +kernel⟩ ⟨rfl, rfl, Nat.le_of_ble_eq_true rfl, Nat.le_of_ble_eq_true rfl⟩ rfl rfl hl.1 (Nat.le_of_ble_eq_true rfl) ⟨by decide, by decide⟩ dL_law_12) hS (fun a2 H locs had2 hW hS => ?_)
  have hq0 : q0 = a2 0 := by rw [had2 0 (by omega), upA_lt (by omega)]; exact hq0
  have hq1 : q1 = a2 420 := by rw [had2 420 (by omega), upA_eq]
  refine lv_astore_n (lv' := [(2, .ref q1), (1, .ref q0), (0, .ref b)]) hx hb dL_law_15 rfl hl (by decide) rfl (fun ls hl => ?_)
  refine lv_iconst (v := (1 : Int32)) hx hb dL_law_16 (by decide) ?_
  refine ws_newa C1 hW hS (atype := .long) (ty := .long) zt_2064 rfl 8 rfl (fun _ _ h => h) (1, .inr (.inl (fun _ => 0))) (fun _ => rfl) (by decide) (by decide) (by decide) (by decide) (by decide) dL_law_17 (fun q2 H hW hS => ?_)
  have hq0 : q0 = upA a2 433 q2 0 := by rw [upA_lt (by omega)]; exact hq0
  have hq1 : q1 = upA a2 433 q2 420 := by rw [upA_lt (by omega)]; exact hq1
  have hq2 : q2 = upA a2 433 q2 433 := upA_eq.symm
  generalize upA a2 433 q2 = a3 at *
  refine lv_astore_n (lv' := [(3, .ref q2), (2, .ref q1), (1, .ref q0), (0, .ref b)]) hx hb dL_law_19 rfl hl (by decide) rfl (fun ls hl => ?_)
  refine lv_iconst (v := (1 : Int32)) hx hb dL_law_20 (by decide) ?_
  refine ws_newa C1 hW hS (atype := .double) (ty := .double) zt_2065 rfl 9 rfl (fun _ _ h => h) (1, .inr (.inr (.inr (.inl (fun _ => 0))))) (fun _ => rfl) (by decide) (by decide) (by decide) (by decide) (by decide) dL_law_21 (fun q3 H hW hS => ?_)
  have hq0 : q0 = upA a3 434 q3 0 := by rw [upA_lt (by omega)]; exact hq0
  have hq1 : q1 = upA a3 434 q3 420 := by rw [upA_lt (by omega)]; exact hq1
  have hq2 : q2 = upA a3 434 q3 433 := by rw [upA_lt (by omega)]; exact hq2
  have hq3 : q3 = upA a3 434 q3 434 := upA_eq.symm
  generalize upA a3 434 q3 = ad at *
  refine lv_astore (lv' := [(4, .ref q3), (3, .ref q2), (2, .ref q1), (1, .ref q0), (0, .ref b)]) hx hb dL_law_23 hl (by decide) rfl (fun ls hl => ?_)
  refine lv_iconst (v := (0 : Int32)) hx hb dL_law_25 (by decide) ?_
  refine lv_istore (lv' := [(5, .int 0), (4, .ref q3), (3, .ref q2), (2, .ref q1), (1, .ref q0), (0, .ref b)]) hx hb dL_law_26 hl (by decide) rfl (fun ls hl => ?_)
  have hW : WS9 Y 435 ad (S9 Y) H := ws_congr (fun k hk => ?_) hW
  · have hH := hs_start hW
    have C2 : BE (YW Y ad) p s m #[Value.ref b] meth c cL_law 9 ret RL := C1
    subst hq0 hq1 hq2 hq3
    exact w_L_law_28 C2 hl9 xs L hX (by show b < YZ Y; rw [hYZ]; exact hbl) (by show s.heap.size ≤ YZ Y; rw [hYZ]; exact Nat.le_refl _) 513 _ _ (by decide) (by decide) M0 0 hf _ _ _ hH hS (lv_sub hl [5, 4, 3, 2, 1, 0] rfl)
  · by_cases h1 : k = 434
    · subst h1
      exact Eq.symm (upS_eq (n := 434))
    · rw [upS_ne h1]
      by_cases h2 : k = 433
      · subst h2
        exact Eq.symm (upS_eq (n := 433))
      · rw [upS_ne (show k ≠ 420 + 13 from h2)]
        unfold S9
        by_cases h3 : k < 420
        · rw [if_pos h3, if_pos h3, upS_ne (by omega)]
          show x7B Y k = if k < 0 then _ else x7B Y (k - 0)
          rw [if_neg (by omega)]
          rfl
        · rw [if_neg h3, if_neg h3, if_pos (by omega)]
