theorem bt_fit (x : Int32) : fits .byte (.int x.toInt8.toInt32) = true := by
  have h1 := x.toInt8.le_toInt
  have h2 := x.toInt8.toInt_lt
  have e : x.toInt8.toInt32.toInt = x.toInt8.toInt := Int8.toInt_toInt32 _
  simp only [fits, Bool.and_eq_true, decide_eq_true_eq]
  constructor
  · rw [Int32.le_iff_toInt_le, e]
    exact h1
  · rw [Int32.le_iff_toInt_le, e, show (127 : Int32).toInt = 127 by decide]
    omega
/-! AbstractStringBuilder.ensureCapacityInternal: the StringBuilder's bytes may move -/
def f_J5_ensureCapacityInternal_d00df (M : Mem) (a1 : Int32) : Option Mem :=
  if a1 - (nI (ix (M 34 0 100000)) >>> ((0 : Int32) &&& 31)) ≤ 0 then some M else bd (f_J5_newCapacity_0f7a4 M a1) fun r => if (r <<< ((0 : Int32) &&& 31)) = nI (ix r) ∧ ix (M 34 0 100000) < ix r ∧ ix r ≤ 130 then some (mgrow M (ix (M 34 0 100000)) (ix r)) else none
theorem ys_34 (Y : LY) (u i : Nat) : YA (YS Y u) 34 i = u := by
  show (if (34 : Nat) = 34 then u else Y.2.2.1 34 i) = u
  exact if_pos rfl
abbrev gB (Y : LY) (M : Mem) (N : Nat) : va_E := .inl (YC Y 7, N, .inl (va_cpy (bfn (M 34 0)) (fun _ => 0) 0 0 (ix (M 34 0 100000))))
abbrev gS (u : Nat) (M : Mem) : va_E := .inr (1, [.ref u, .int 0, .int (M 19 0 2), .int (M 19 0 3)])
/-- the world with the longer array, the StringBuilder pointing to it -/
theorem hg_grow {Y : LY} {M : Mem} {H : Heap} {q : Nat} (hH : HS0 (YS Y q) M H) : ∃ (ws : va_W) (kB kS : Nat), va_P (YD Y) CL ws H ∧ va_D (AZ Y) ws ∧ ws[kB]? = some (q, .inl (YC Y 7, ix (M 34 0 100000), .inl (bfn (M 34 0)))) ∧ ws[kS]? = some (YA Y 19 0, .inr (1, [.ref q, .int 0, .int (M 19 0 2), .int (M 19 0 3)])) ∧
    ∀ (u N : Nat) (H1 : Heap), ix (M 34 0 100000) < N → N ≤ 130 → va_P (YD Y) CL ((ws ++ [(u, gB Y M N)]).set kS (YA Y 19 0, gS u M)) H1 →
      va_D (AZ Y) ((ws ++ [(u, gB Y M N)]).set kS (YA Y 19 0, gS u M)) → HS Y (mgrow M (ix (M 34 0 100000)) N) H1 := by
  obtain ⟨hinj, ws, hP, hD, hw⟩ := hH
  have hP : va_P (YD Y) CL ws H := hP
  have hD : va_D (AZ Y) ws := hD
  have hwB : (q, (.inl (YC Y 7, ix (M 34 0 100000), .inl (bfn (M 34 0))) : va_E)) ∈ ws := hw 34 0 (by decide)
  have hwS : (YA Y 19 0, (.inr (1, [.ref q, .int 0, .int (M 19 0 2), .int (M 19 0 3)]) : va_E)) ∈ ws := hw 19 0 (by decide)
  obtain ⟨kB, hkB⟩ := List.getElem?_of_mem hwB
  obtain ⟨kS, hkS⟩ := List.getElem?_of_mem hwS
  refine ⟨ws, kB, kS, hP, hD, hkB, hkS, fun u N H1 hn hN hP1 hD1 => ?_⟩
  have hlS : kS < ws.length := (List.getElem?_eq_some_iff.mp hkS).1
  generalize hb : gB Y M N = nb at hP1 hD1
  generalize hs : gS u M = ns at hP1 hD1
  have hset : (ws ++ [(u, nb)]).set kS (YA Y 19 0, ns) = ws.set kS (YA Y 19 0, ns) ++ [(u, nb)] := List.set_append_left _ _ hlS
  rw [hset] at hP1 hD1
  -- the new array's address is none of the old ones
  have hnew : ∀ a i, i < nF a → a ≠ 34 → YA Y a i ≠ u := fun a i hi ha e => by
    have hm : ∃ k v, k < ws.length ∧ (ws.set kS (YA Y 19 0, ns))[k]? = some (YA Y a i, v) := by
      by_cases h19 : a = 19
      · have hi0 : i = 0 := by have : nF 19 = 1 := rfl; subst h19; omega
        subst h19; subst hi0
        exact ⟨kS, ns, hlS, by rw [List.getElem?_set_self hlS]⟩
      · have hm := hw a i hi
        rw [ys_ya Y q i ha] at hm
        obtain ⟨k, hk⟩ := List.getElem?_of_mem hm
        have hkl : k < ws.length := (List.getElem?_eq_some_iff.mp hk).1
        have hne : kS ≠ k := fun e2 => by
          subst e2
          rw [hkS] at hk
          have e3 : YA Y 19 0 = YA Y a i := congrArg Prod.fst (Option.some.inj hk)
          have e4 : YA (YS Y q) 19 0 = YA (YS Y q) a i := by rw [ys_ya Y q i ha, ys_ya Y q 0 (by decide)]; exact e3
          exact h19 ((hinj 19 0 a i (by decide) hi e4).1.symm)
        exact ⟨k, _, hkl, by rw [List.getElem?_set_ne hne]; exact hk⟩
    obtain ⟨k, v, hkl, hk⟩ := hm
    have h1 : (ws.set kS (YA Y 19 0, ns) ++ [(u, nb)])[k]? = some (YA Y a i, v) := by rw [List.getElem?_append_left (by simpa using hkl)]; exact hk
    have h2 : (ws.set kS (YA Y 19 0, ns) ++ [(u, nb)])[ws.length]? = some (u, nb) := by
      rw [List.getElem?_append_right (by simp)]
      simp
    have := hD1.1 k ws.length _ _ h1 h2 e
    omega
  refine ⟨u, fun a i b j hi hj e => ?_, ws.set kS (YA Y 19 0, ns) ++ [(u, nb)], hP1, hD1, fun a i hi => ?_⟩
  · by_cases ha : a = 34
    · by_cases hb2 : b = 34
      · subst ha; subst hb2
        have : nF 34 = 1 := rfl
        exact ⟨rfl, by omega⟩
      · subst ha
        rw [ys_ya Y u j hb2, ys_34 Y u i] at e
        exact absurd e.symm (hnew b j hj hb2)
    · by_cases hb2 : b = 34
      · subst hb2
        rw [ys_ya Y u i ha, ys_34 Y u j] at e
        exact absurd e (hnew a i hi ha)
      · rw [ys_ya Y u i ha, ys_ya Y u j hb2] at e
        exact hinj a i b j hi hj (by rw [ys_ya Y q i ha, ys_ya Y q j hb2]; exact e)
  · by_cases ha : a = 34
    · subst ha
      have hi0 : i = 0 := by have : nF 34 = 1 := rfl; omega
      subst hi0
      refine List.mem_append_right _ ?_
      have e1 : mgrow M (ix (M 34 0 100000)) N 34 0 = fun k => if k = 100000 then nI N else if k < ix (M 34 0 100000) then M 34 0 k else 0 := if_pos ⟨rfl, rfl⟩
      have e2 : cellV (YS Y u) 34 0 (mgrow M (ix (M 34 0 100000)) N 34 0) = nb := by
        rw [← hb, e1]
        show (.inl (YC Y 7, ix (nI N), .inl (bfn (fun k => if k = 100000 then nI N else if k < ix (M 34 0 100000) then M 34 0 k else 0))) : va_E) = _
        have e3 : ix (nI N) = N := nI_clamp (by omega)
        have e4 : bfn (fun k => if k = 100000 then nI N else if k < ix (M 34 0 100000) then M 34 0 k else 0) = va_cpy (bfn (M 34 0)) (fun _ => 0) 0 0 (ix (M 34 0 100000)) := by
          funext k
          unfold bfn va_cpy
          by_cases h1 : k = 100000
          · rw [if_pos h1, if_neg (by omega)]
          · rw [if_neg h1]
            dsimp only
            rw [if_neg h1]
            by_cases h2 : k < ix (M 34 0 100000)
            · rw [if_pos h2, if_pos (by omega)]
              simp [h1]
            · rw [if_neg h2, if_neg (by omega)]
              decide
        rw [e3, e4]
      rw [e2]
      exact List.mem_singleton.mpr rfl
    · refine List.mem_append_left _ ?_
      rw [ys_ya Y u i ha]
      by_cases h19 : a = 19
      · subst h19
        have hi0 : i = 0 := by have : nF 19 = 1 := rfl; omega
        subst hi0
        refine List.mem_of_getElem? (i := kS) ?_
        rw [List.getElem?_set_self hlS, ← hs]
        rfl
      · have hm := hw a i hi
        rw [ys_ya Y q i ha, ys_cell Y q i _ h19] at hm
        rw [ys_cell Y u i _ h19, show mgrow M (ix (M 34 0 100000)) N a i = M a i from if_neg (fun z => ha z.1)]
        obtain ⟨k, hk⟩ := List.getElem?_of_mem hm
        have hne : kS ≠ k := fun e2 => by
          subst e2
          rw [hkS] at hk
          have e3 : YA Y 19 0 = YA Y a i := congrArg Prod.fst (Option.some.inj hk)
          have e4 : YA (YS Y q) 19 0 = YA (YS Y q) a i := by rw [ys_ya Y q i ha, ys_ya Y q 0 (by decide)]; exact e3
          exact h19 ((hinj 19 0 a i (by decide) hi e4).1.symm)
        exact List.mem_of_getElem? (i := k) (by rw [List.getElem?_set_ne hne]; exact hk)
set_option maxHeartbeats 4000000 in
set_option maxRecDepth 100000 in
theorem c_J5_ensureCapacityInternal_d00df {Y : LY} {l : Launch} (M : Mem) (a1 : Int32) {MZ : Mem} (hf : f_J5_ensureCapacityInternal_d00df M a1 = some MZ) : Met l yJ5_ensureCapacityInternal_d00df (WS yJ5_ensureCapacityInternal_d00df cJ5_ensureCapacityInternal_d00df 3 none) { frames := 5, cells := 1, slots := 130, locals := 160 } (PcM Y M [.ref (YA Y 19 0), .int a1]) (QvP Y (HS Y MZ)) 1 130 (AZ Y) := by
  refine met_mk (lv := [(0, .ref (YA Y 19 0)), (1, .int a1)]) [.ref (YA Y 19 0), .int a1] (by decide) rfl rfl (Nat.le_of_ble_eq_true rfl) (fun p e s m below meth c C0 hH ls hl => ?_)
  have hS : va_S (AZ Y) s.heap s.heap [] := va_S.rf
  obtain ⟨hx, hb, hr, hml, hown, hA, hlocks, hK, hZ⟩ := id C0
  obtain ⟨q, hH⟩ := hH
  unfold f_J5_ensureCapacityInternal_d00df at hf
  refine lv_aload_n hx hb dJ5_ensureCapacityInternal_d00df_0 rfl (lv_at hl 0 rfl) ?_
  refine hg_get hx hb hA hown hK hH 0 (by decide) (hA _ zt_277) rfl rfl dJ5_ensureCapacityInternal_d00df_1 ?_
  refine hg_alen hx hb hK hH dJ5_ensureCapacityInternal_d00df_4 ?_
  refine lv_aload_n hx hb dJ5_ensureCapacityInternal_d00df_5 rfl (lv_at hl 0 rfl) ?_
  refine hg_get hx hb hA hown hK hH 1 (by decide) (hA _ zt_278) rfl rfl dJ5_ensureCapacityInternal_d00df_6 ?_
  refine lv_ishr hx hb dJ5_ensureCapacityInternal_d00df_9 ?_
  refine lv_istore_n (lv' := [(2, .int (nI (ix (M 34 0 100000)) >>> ((0 : Int32) &&& 31))), (0, .ref (YA Y 19 0)), (1, .int a1)]) hx hb dJ5_ensureCapacityInternal_d00df_10 rfl hl (by decide) rfl (fun ls hl => ?_)
  refine lv_iload_n hx hb dJ5_ensureCapacityInternal_d00df_11 rfl (lv_at hl 2 rfl) ?_
  refine lv_iload_n hx hb dJ5_ensureCapacityInternal_d00df_12 rfl (lv_at hl 0 rfl) ?_
  refine lv_isub hx hb dJ5_ensureCapacityInternal_d00df_13 ?_
  refine lv_if_le (tgt := 38) hx hb dJ5_ensureCapacityInternal_d00df_14 (by decide) (fun hc => ?_) (fun hc => ?_)
  · have hf := if_t hf hc
    cases hf
    exact hs_vret C0 (hg_mk hH) hS (by decide) (by decide) dJ5_ensureCapacityInternal_d00df_38
  · have hf := if_f hf hc
    obtain ⟨r, hr9, hf⟩ := bd_o hf
    obtain ⟨⟨g1, g2, g3⟩, hf⟩ := gd_o hf
    refine lv_aload_n hx hb dJ5_ensureCapacityInternal_d00df_17 rfl (lv_at hl 1 rfl) ?_
    refine lv_aload_n hx hb dJ5_ensureCapacityInternal_d00df_18 rfl (lv_at hl 1 rfl) ?_
    refine hg_get hx hb hA hown hK hH 0 (by decide) (hA _ zt_277) rfl rfl dJ5_ensureCapacityInternal_d00df_19 ?_
    refine lv_aload_n hx hb dJ5_ensureCapacityInternal_d00df_22 rfl (lv_at hl 1 rfl) ?_
    refine lv_iload_n hx hb dJ5_ensureCapacityInternal_d00df_23 rfl (lv_at hl 2 rfl) ?_
    refine hs_ci (hs_runU C0 hH hS (n := 1) (As := [.int a1]) (rest := [.ref q, .ref (YA Y 19 0)]) (c_J5_newCapacity_0f7a4 M a1 hr9) ⟨⟨zt_1134, zt_2071, zt_1136, zt_9, zt_1137⟩, ⟨by decide, by decide⟩, by decide +kernel⟩ (va_Nw.use rfl (hK.p _ (List.mem_of_getElem? (i := 1) rfl))) ⟨rfl, rfl, Nat.le_of_ble_eq_true rfl, Nat.le_of_ble_eq_true rfl⟩ (hg_recv hK hH) rfl rfl hl.1 (Nat.le_of_ble_eq_true rfl) ⟨Nat.le_of_ble_eq_true rfl, Nat.le_of_ble_eq_true rfl⟩ dJ5_ensureCapacityInternal_d00df_24) hS (fun H locs hH hS => ?_)
    refine lv_aload_n hx hb dJ5_ensureCapacityInternal_d00df_27 rfl (lv_at hl 1 rfl) ?_
    refine hg_get hx hb hA hown hK hH 1 (by decide) (hA _ zt_278) rfl rfl dJ5_ensureCapacityInternal_d00df_28 ?_
    refine lv_ishl hx hb dJ5_ensureCapacityInternal_d00df_31 ?_
    rw [g1]
    obtain ⟨ws, kB, kS, hP, hD, hkB, hkS, back⟩ := hg_grow hH
    have hfit : ∀ i, fits .byte (.int (bfn (M 34 0) i)) = true := fun i => by
      unfold bfn
      split
      · decide
      · exact (bt_fit _)
    have hlS : kS < ws.length := (List.getElem?_eq_some_iff.mp hkS).1
    refine va_callq (hs_runS C0 (P := fun H => va_P (YD Y) CL ws H ∧ va_D (AZ Y) ws) ⟨hP, hD⟩ hS (n := 2) (As := [.ref q, .int (nI (ix r))]) (rest := [.ref (YA Y 19 0)]) (c_J7_copyOf_9075b hkB hfit g2 g3) ⟨⟨zt_1147, zt_1148, zt_26, zt_1149⟩, by decide, by decide, by decide +kernel⟩ ⟨rfl, rfl, Nat.le_of_ble_eq_true rfl, Nat.le_of_ble_eq_true rfl⟩ rfl rfl hl.1 (Nat.le_of_ble_eq_true rfl) ⟨Nat.le_of_ble_eq_true rfl, Nat.le_of_ble_eq_true rfl⟩ dJ5_ensureCapacityInternal_d00df_32) hS (fun _ _ h => h) (fun _ h => h) (fun ro u t H1 locs1 ht hvm hw hB _ _ hS1 => ?_)
    subst hw
    obtain ⟨hP1, hD1⟩ := hB
    rw [ht] at hP1
    have hkS1 : (ws ++ [(u, gB Y M (ix r))])[kS]? = some (YA Y 19 0, .inr (1, [.ref q, .int 0, .int (M 19 0 2), .int (M 19 0 3)])) := by rw [List.getElem?_append_left hlS]; exact hkS
    refine va_put hx hb hA inAJ4 tyJ4 tyJ4_ok nmJ4 hown hK.k hP1 hD1 hS1 kS hkS1 (show CL[1]? = some (RJ4, TJ4, 4) from rfl) 0 (by decide) (hA _ zt_277) (fun _ h => h) rfl (ty := .array .byte) (v := .ref u) (by decide +kernel) rfl rfl (Nat.le_of_ble_eq_true rfl) dJ5_ensureCapacityInternal_d00df_35 (fun H2 locs2 hP2 hD2 hS2 => ?_)
    cases hf
    exact hs_vret C0 (back u (ix r) H2 g2 g3 hP2 hD2) hS2 (by decide) (by decide) dJ5_ensureCapacityInternal_d00df_38
