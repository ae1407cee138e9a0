/-! members of the premises' list and of the tables, by their places -/
abbrev GN : List Cond := flatC (Jvm.Cond.and given_1 narrow_1)
theorem gn1 {w : Cond} (i : Nat) (h : (flatC narrow_1_1)[i]? = some w) : w ∈ GN := List.mem_append_right _ (List.mem_append_left _ (List.mem_append_left _ (List.mem_of_getElem? h)))
theorem gn2 {w : Cond} (i : Nat) (h : (flatC narrow_1_2)[i]? = some w) : w ∈ GN := List.mem_append_right _ (List.mem_append_left _ (List.mem_append_right _ (List.mem_of_getElem? h)))
theorem gn3 {w : Cond} (i : Nat) (h : (flatC narrow_1_3)[i]? = some w) : w ∈ GN := List.mem_append_right _ (List.mem_append_right _ (List.mem_append_left _ (List.mem_of_getElem? h)))
theorem gn4 {w : Cond} (i : Nat) (h : (flatC narrow_1_4)[i]? = some w) : w ∈ GN := List.mem_append_right _ (List.mem_append_right _ (List.mem_append_right _ (List.mem_of_getElem? h)))
theorem tt1 {w : Cond} (i : Nat) (h : tables_1_1[i]? = some w) : w ∈ tables_1 := by
  unfold tables_1
  have h1 := List.mem_of_getElem? h
  exact List.mem_append_left _ h1
theorem tt2 {w : Cond} (i : Nat) (h : tables_1_2[i]? = some w) : w ∈ tables_1 := by
  unfold tables_1
  have h1 := List.mem_of_getElem? h
  exact List.mem_append_right _ (List.mem_append_left _ h1)
theorem tt3 {w : Cond} (i : Nat) (h : tables_1_3[i]? = some w) : w ∈ tables_1 := by
  unfold tables_1
  have h1 := List.mem_of_getElem? h
  exact List.mem_append_right _ (List.mem_append_right _ (List.mem_append_left _ h1))
theorem tt4 {w : Cond} (i : Nat) (h : tables_1_4[i]? = some w) : w ∈ tables_1 := by
  unfold tables_1
  have h1 := List.mem_of_getElem? h
  exact List.mem_append_right _ (List.mem_append_right _ (List.mem_append_right _ (List.mem_append_left _ h1)))
theorem tt5 {w : Cond} (i : Nat) (h : tables_1_5[i]? = some w) : w ∈ tables_1 := by
  unfold tables_1
  have h1 := List.mem_of_getElem? h
  exact List.mem_append_right _ (List.mem_append_right _ (List.mem_append_right _ (List.mem_append_right _ (List.mem_append_left _ h1))))
theorem tt6 {w : Cond} (i : Nat) (h : tables_1_6[i]? = some w) : w ∈ tables_1 := by
  unfold tables_1
  have h1 := List.mem_of_getElem? h
  exact List.mem_append_right _ (List.mem_append_right _ (List.mem_append_right _ (List.mem_append_right _ (List.mem_append_right _ (List.mem_append_left _ h1)))))
theorem tt7 {w : Cond} (i : Nat) (h : tables_1_7[i]? = some w) : w ∈ tables_1 := by
  unfold tables_1
  have h1 := List.mem_of_getElem? h
  exact List.mem_append_right _ (List.mem_append_right _ (List.mem_append_right _ (List.mem_append_right _ (List.mem_append_right _ (List.mem_append_right _ (List.mem_append_left _ h1))))))
theorem tt8 {w : Cond} (i : Nat) (h : tables_1_8[i]? = some w) : w ∈ tables_1 := by
  unfold tables_1
  have h1 := List.mem_of_getElem? h
  exact List.mem_append_right _ (List.mem_append_right _ (List.mem_append_right _ (List.mem_append_right _ (List.mem_append_right _ (List.mem_append_right _ (List.mem_append_right _ (List.mem_append_left _ h1)))))))
theorem tt9 {w : Cond} (i : Nat) (h : tables_1_9[i]? = some w) : w ∈ tables_1 := by
  unfold tables_1
  have h1 := List.mem_of_getElem? h
  exact List.mem_append_right _ (List.mem_append_right _ (List.mem_append_right _ (List.mem_append_right _ (List.mem_append_right _ (List.mem_append_right _ (List.mem_append_right _ (List.mem_append_right _ (h1))))))))
theorem ks_x1 : ∀ q ∈ xTab, Cond.stringRef q.1 q.2.1 q.2.2 ∈ tables_1 := by
  unfold xTab
  simp only [List.forall_mem_cons]
  exact ⟨tt2 209 (by decide +kernel), tt3 4 (by decide +kernel), tt3 20 (by decide +kernel), tt3 36 (by decide +kernel), tt4 68 (by decide +kernel), tt4 103 (by decide +kernel), tt4 120 (by decide +kernel), tt4 167 (by decide +kernel), tt4 179 (by decide +kernel), tt4 230 (by decide +kernel), tt5 47 (by decide +kernel), tt5 72 (by decide +kernel), tt5 123 (by decide +kernel), tt6 233 (by decide +kernel), tt6 234 (by decide +kernel), tt7 57 (by decide +kernel), tt7 64 (by decide +kernel), tt7 72 (by decide +kernel), tt7 80 (by decide +kernel), tt7 88 (by decide +kernel), tt7 100 (by decide +kernel), fun _ h => nomatch h⟩
theorem ks_x2 : ∀ q ∈ xTab, Cond.exactly (.string q.1 q.2.1) "java/lang/String" ∈ GN := by
  unfold xTab
  simp only [List.forall_mem_cons]
  exact ⟨gn1 352 (by decide +kernel), gn1 386 (by decide +kernel), gn2 17 (by decide +kernel), gn2 54 (by decide +kernel), gn2 81 (by decide +kernel), gn2 108 (by decide +kernel), gn2 138 (by decide +kernel), gn2 160 (by decide +kernel), gn2 188 (by decide +kernel), gn2 213 (by decide +kernel), gn2 244 (by decide +kernel), gn2 275 (by decide +kernel), gn2 300 (by decide +kernel), gn3 78 (by decide +kernel), gn3 131 (by decide +kernel), gn3 288 (by decide +kernel), gn3 316 (by decide +kernel), gn3 336 (by decide +kernel), gn3 371 (by decide +kernel), gn3 399 (by decide +kernel), gn4 26 (by decide +kernel), fun _ h => nomatch h⟩
theorem ks_c0 : ∀ q ∈ cTab, Cond.stringRef q.1 q.2.1 q.2.2 ∈ tables_1 := by
  unfold cTab
  simp only [List.forall_mem_cons]
  exact ⟨tt7 17 (by decide +kernel), tt7 18 (by decide +kernel), tt7 19 (by decide +kernel), tt7 20 (by decide +kernel), tt7 21 (by decide +kernel), tt7 22 (by decide +kernel), tt7 23 (by decide +kernel), tt7 24 (by decide +kernel), tt7 25 (by decide +kernel), tt7 26 (by decide +kernel), tt7 27 (by decide +kernel), tt6 185 (by decide +kernel), tt6 187 (by decide +kernel), tt6 188 (by decide +kernel), tt6 204 (by decide +kernel), tt6 206 (by decide +kernel), tt6 207 (by decide +kernel), tt6 208 (by decide +kernel), fun _ h => nomatch h⟩
def tmS (i : Nat) : Term := .string (cTab.getD i ("", 0, "")).1 (cTab.getD i ("", 0, "")).2.1
theorem ks_c1 : ∀ i, i < 18 → Cond.exactly (tmS i) "java/lang/String" ∈ GN := fun i hi => match i, hi with
  | 0, _ => gn3 159 (by decide +kernel)
  | 1, _ => gn3 168 (by decide +kernel)
  | 2, _ => gn3 183 (by decide +kernel)
  | 3, _ => gn3 194 (by decide +kernel)
  | 4, _ => gn3 204 (by decide +kernel)
  | 5, _ => gn3 219 (by decide +kernel)
  | 6, _ => gn3 231 (by decide +kernel)
  | 7, _ => gn3 244 (by decide +kernel)
  | 8, _ => gn3 256 (by decide +kernel)
  | 9, _ => gn3 268 (by decide +kernel)
  | 10, _ => gn3 279 (by decide +kernel)
  | 11, _ => gn3 36 (by decide +kernel)
  | 12, _ => gn3 42 (by decide +kernel)
  | 13, _ => gn3 48 (by decide +kernel)
  | 14, _ => gn3 54 (by decide +kernel)
  | 15, _ => gn3 60 (by decide +kernel)
  | 16, _ => gn3 66 (by decide +kernel)
  | 17, _ => gn3 72 (by decide +kernel)
  | i + 18, h => absurd h (by omega)
theorem ks_c2 : ∀ i, i < 18 → Cond.eq (.field (tmS i) "java/lang/String" "coder" "B") (.int 0) ∈ GN := fun i hi => match i, hi with
  | 0, _ => gn3 160 (by decide +kernel)
  | 1, _ => gn3 169 (by decide +kernel)
  | 2, _ => gn3 184 (by decide +kernel)
  | 3, _ => gn3 195 (by decide +kernel)
  | 4, _ => gn3 205 (by decide +kernel)
  | 5, _ => gn3 220 (by decide +kernel)
  | 6, _ => gn3 232 (by decide +kernel)
  | 7, _ => gn3 245 (by decide +kernel)
  | 8, _ => gn3 257 (by decide +kernel)
  | 9, _ => gn3 269 (by decide +kernel)
  | 10, _ => gn3 280 (by decide +kernel)
  | 11, _ => gn3 37 (by decide +kernel)
  | 12, _ => gn3 43 (by decide +kernel)
  | 13, _ => gn3 49 (by decide +kernel)
  | 14, _ => gn3 55 (by decide +kernel)
  | 15, _ => gn3 61 (by decide +kernel)
  | 16, _ => gn3 67 (by decide +kernel)
  | 17, _ => gn3 73 (by decide +kernel)
  | i + 18, h => absurd h (by omega)
theorem ks_c3 : ∀ i, i < 18 → Cond.arrayOf (.field (tmS i) "java/lang/String" "value" "[B") .byte ∈ GN := fun i hi => match i, hi with
  | 0, _ => gn3 161 (by decide +kernel)
  | 1, _ => gn3 170 (by decide +kernel)
  | 2, _ => gn3 185 (by decide +kernel)
  | 3, _ => gn3 196 (by decide +kernel)
  | 4, _ => gn3 206 (by decide +kernel)
  | 5, _ => gn3 221 (by decide +kernel)
  | 6, _ => gn3 233 (by decide +kernel)
  | 7, _ => gn3 246 (by decide +kernel)
  | 8, _ => gn3 258 (by decide +kernel)
  | 9, _ => gn3 270 (by decide +kernel)
  | 10, _ => gn3 281 (by decide +kernel)
  | 11, _ => gn3 38 (by decide +kernel)
  | 12, _ => gn3 44 (by decide +kernel)
  | 13, _ => gn3 50 (by decide +kernel)
  | 14, _ => gn3 56 (by decide +kernel)
  | 15, _ => gn3 62 (by decide +kernel)
  | 16, _ => gn3 68 (by decide +kernel)
  | 17, _ => gn3 74 (by decide +kernel)
  | i + 18, h => absurd h (by omega)
theorem ks_c4 : ∀ i, i < 18 → Cond.eq (.length (.field (tmS i) "java/lang/String" "value" "[B")) (.int (Int32.ofNat (cLen.getD i 0))) ∈ GN := fun i hi => match i, hi with
  | 0, _ => gn3 162 (by decide +kernel)
  | 1, _ => gn3 171 (by decide +kernel)
  | 2, _ => gn3 186 (by decide +kernel)
  | 3, _ => gn3 197 (by decide +kernel)
  | 4, _ => gn3 207 (by decide +kernel)
  | 5, _ => gn3 222 (by decide +kernel)
  | 6, _ => gn3 234 (by decide +kernel)
  | 7, _ => gn3 247 (by decide +kernel)
  | 8, _ => gn3 259 (by decide +kernel)
  | 9, _ => gn3 271 (by decide +kernel)
  | 10, _ => gn3 282 (by decide +kernel)
  | 11, _ => gn3 39 (by decide +kernel)
  | 12, _ => gn3 45 (by decide +kernel)
  | 13, _ => gn3 51 (by decide +kernel)
  | 14, _ => gn3 57 (by decide +kernel)
  | 15, _ => gn3 63 (by decide +kernel)
  | 16, _ => gn3 69 (by decide +kernel)
  | 17, _ => gn3 75 (by decide +kernel)
  | i + 18, h => absurd h (by omega)
theorem ks_c5_0 : ∀ j, j < 5 → Cond.eq (.elem (.field (tmS 0) "java/lang/String" "value" "[B") (.int (Int32.ofNat j))) (.int ((cByt.getD 0 []).getD j 0)) ∈ GN := fun j hj => match j, hj with
  | 0, _ => gn3 163 (by decide +kernel)
  | 1, _ => gn3 164 (by decide +kernel)
  | 2, _ => gn3 165 (by decide +kernel)
  | 3, _ => gn3 166 (by decide +kernel)
  | 4, _ => gn3 167 (by decide +kernel)
  | j + 5, h => absurd h (by omega)
theorem ks_c5_1 : ∀ j, j < 11 → Cond.eq (.elem (.field (tmS 1) "java/lang/String" "value" "[B") (.int (Int32.ofNat j))) (.int ((cByt.getD 1 []).getD j 0)) ∈ GN := fun j hj => match j, hj with
  | 0, _ => gn3 172 (by decide +kernel)
  | 1, _ => gn3 173 (by decide +kernel)
  | 2, _ => gn3 174 (by decide +kernel)
  | 3, _ => gn3 175 (by decide +kernel)
  | 4, _ => gn3 176 (by decide +kernel)
  | 5, _ => gn3 177 (by decide +kernel)
  | 6, _ => gn3 178 (by decide +kernel)
  | 7, _ => gn3 179 (by decide +kernel)
  | 8, _ => gn3 180 (by decide +kernel)
  | 9, _ => gn3 181 (by decide +kernel)
  | 10, _ => gn3 182 (by decide +kernel)
  | j + 11, h => absurd h (by omega)
theorem ks_c5_2 : ∀ j, j < 7 → Cond.eq (.elem (.field (tmS 2) "java/lang/String" "value" "[B") (.int (Int32.ofNat j))) (.int ((cByt.getD 2 []).getD j 0)) ∈ GN := fun j hj => match j, hj with
  | 0, _ => gn3 187 (by decide +kernel)
  | 1, _ => gn3 188 (by decide +kernel)
  | 2, _ => gn3 189 (by decide +kernel)
  | 3, _ => gn3 190 (by decide +kernel)
  | 4, _ => gn3 191 (by decide +kernel)
  | 5, _ => gn3 192 (by decide +kernel)
  | 6, _ => gn3 193 (by decide +kernel)
  | j + 7, h => absurd h (by omega)
theorem ks_c5_3 : ∀ j, j < 6 → Cond.eq (.elem (.field (tmS 3) "java/lang/String" "value" "[B") (.int (Int32.ofNat j))) (.int ((cByt.getD 3 []).getD j 0)) ∈ GN := fun j hj => match j, hj with
  | 0, _ => gn3 198 (by decide +kernel)
  | 1, _ => gn3 199 (by decide +kernel)
  | 2, _ => gn3 200 (by decide +kernel)
  | 3, _ => gn3 201 (by decide +kernel)
  | 4, _ => gn3 202 (by decide +kernel)
  | 5, _ => gn3 203 (by decide +kernel)
  | j + 6, h => absurd h (by omega)
theorem ks_c5_4 : ∀ j, j < 11 → Cond.eq (.elem (.field (tmS 4) "java/lang/String" "value" "[B") (.int (Int32.ofNat j))) (.int ((cByt.getD 4 []).getD j 0)) ∈ GN := fun j hj => match j, hj with
  | 0, _ => gn3 208 (by decide +kernel)
  | 1, _ => gn3 209 (by decide +kernel)
  | 2, _ => gn3 210 (by decide +kernel)
  | 3, _ => gn3 211 (by decide +kernel)
  | 4, _ => gn3 212 (by decide +kernel)
  | 5, _ => gn3 213 (by decide +kernel)
  | 6, _ => gn3 214 (by decide +kernel)
  | 7, _ => gn3 215 (by decide +kernel)
  | 8, _ => gn3 216 (by decide +kernel)
  | 9, _ => gn3 217 (by decide +kernel)
  | 10, _ => gn3 218 (by decide +kernel)
  | j + 11, h => absurd h (by omega)
theorem ks_c5_5 : ∀ j, j < 8 → Cond.eq (.elem (.field (tmS 5) "java/lang/String" "value" "[B") (.int (Int32.ofNat j))) (.int ((cByt.getD 5 []).getD j 0)) ∈ GN := fun j hj => match j, hj with
  | 0, _ => gn3 223 (by decide +kernel)
  | 1, _ => gn3 224 (by decide +kernel)
  | 2, _ => gn3 225 (by decide +kernel)
  | 3, _ => gn3 226 (by decide +kernel)
  | 4, _ => gn3 227 (by decide +kernel)
  | 5, _ => gn3 228 (by decide +kernel)
  | 6, _ => gn3 229 (by decide +kernel)
  | 7, _ => gn3 230 (by decide +kernel)
  | j + 8, h => absurd h (by omega)
theorem ks_c5_6 : ∀ j, j < 9 → Cond.eq (.elem (.field (tmS 6) "java/lang/String" "value" "[B") (.int (Int32.ofNat j))) (.int ((cByt.getD 6 []).getD j 0)) ∈ GN := fun j hj => match j, hj with
  | 0, _ => gn3 235 (by decide +kernel)
  | 1, _ => gn3 236 (by decide +kernel)
  | 2, _ => gn3 237 (by decide +kernel)
  | 3, _ => gn3 238 (by decide +kernel)
  | 4, _ => gn3 239 (by decide +kernel)
  | 5, _ => gn3 240 (by decide +kernel)
  | 6, _ => gn3 241 (by decide +kernel)
  | 7, _ => gn3 242 (by decide +kernel)
  | 8, _ => gn3 243 (by decide +kernel)
  | j + 9, h => absurd h (by omega)
theorem ks_c5_7 : ∀ j, j < 8 → Cond.eq (.elem (.field (tmS 7) "java/lang/String" "value" "[B") (.int (Int32.ofNat j))) (.int ((cByt.getD 7 []).getD j 0)) ∈ GN := fun j hj => match j, hj with
  | 0, _ => gn3 248 (by decide +kernel)
  | 1, _ => gn3 249 (by decide +kernel)
  | 2, _ => gn3 250 (by decide +kernel)
  | 3, _ => gn3 251 (by decide +kernel)
  | 4, _ => gn3 252 (by decide +kernel)
  | 5, _ => gn3 253 (by decide +kernel)
  | 6, _ => gn3 254 (by decide +kernel)
  | 7, _ => gn3 255 (by decide +kernel)
  | j + 8, h => absurd h (by omega)
theorem ks_c5_8 : ∀ j, j < 8 → Cond.eq (.elem (.field (tmS 8) "java/lang/String" "value" "[B") (.int (Int32.ofNat j))) (.int ((cByt.getD 8 []).getD j 0)) ∈ GN := fun j hj => match j, hj with
  | 0, _ => gn3 260 (by decide +kernel)
  | 1, _ => gn3 261 (by decide +kernel)
  | 2, _ => gn3 262 (by decide +kernel)
  | 3, _ => gn3 263 (by decide +kernel)
  | 4, _ => gn3 264 (by decide +kernel)
  | 5, _ => gn3 265 (by decide +kernel)
  | 6, _ => gn3 266 (by decide +kernel)
  | 7, _ => gn3 267 (by decide +kernel)
  | j + 8, h => absurd h (by omega)
theorem ks_c5_9 : ∀ j, j < 7 → Cond.eq (.elem (.field (tmS 9) "java/lang/String" "value" "[B") (.int (Int32.ofNat j))) (.int ((cByt.getD 9 []).getD j 0)) ∈ GN := fun j hj => match j, hj with
  | 0, _ => gn3 272 (by decide +kernel)
  | 1, _ => gn3 273 (by decide +kernel)
  | 2, _ => gn3 274 (by decide +kernel)
  | 3, _ => gn3 275 (by decide +kernel)
  | 4, _ => gn3 276 (by decide +kernel)
  | 5, _ => gn3 277 (by decide +kernel)
  | 6, _ => gn3 278 (by decide +kernel)
  | j + 7, h => absurd h (by omega)
theorem ks_c5_10 : ∀ j, j < 5 → Cond.eq (.elem (.field (tmS 10) "java/lang/String" "value" "[B") (.int (Int32.ofNat j))) (.int ((cByt.getD 10 []).getD j 0)) ∈ GN := fun j hj => match j, hj with
  | 0, _ => gn3 283 (by decide +kernel)
  | 1, _ => gn3 284 (by decide +kernel)
  | 2, _ => gn3 285 (by decide +kernel)
  | 3, _ => gn3 286 (by decide +kernel)
  | 4, _ => gn3 287 (by decide +kernel)
  | j + 5, h => absurd h (by omega)
theorem ks_c5_11 : ∀ j, j < 2 → Cond.eq (.elem (.field (tmS 11) "java/lang/String" "value" "[B") (.int (Int32.ofNat j))) (.int ((cByt.getD 11 []).getD j 0)) ∈ GN := fun j hj => match j, hj with
  | 0, _ => gn3 40 (by decide +kernel)
  | 1, _ => gn3 41 (by decide +kernel)
  | j + 2, h => absurd h (by omega)
theorem ks_c5_12 : ∀ j, j < 2 → Cond.eq (.elem (.field (tmS 12) "java/lang/String" "value" "[B") (.int (Int32.ofNat j))) (.int ((cByt.getD 12 []).getD j 0)) ∈ GN := fun j hj => match j, hj with
  | 0, _ => gn3 46 (by decide +kernel)
  | 1, _ => gn3 47 (by decide +kernel)
  | j + 2, h => absurd h (by omega)
theorem ks_c5_13 : ∀ j, j < 2 → Cond.eq (.elem (.field (tmS 13) "java/lang/String" "value" "[B") (.int (Int32.ofNat j))) (.int ((cByt.getD 13 []).getD j 0)) ∈ GN := fun j hj => match j, hj with
  | 0, _ => gn3 52 (by decide +kernel)
  | 1, _ => gn3 53 (by decide +kernel)
  | j + 2, h => absurd h (by omega)
theorem ks_c5_14 : ∀ j, j < 2 → Cond.eq (.elem (.field (tmS 14) "java/lang/String" "value" "[B") (.int (Int32.ofNat j))) (.int ((cByt.getD 14 []).getD j 0)) ∈ GN := fun j hj => match j, hj with
  | 0, _ => gn3 58 (by decide +kernel)
  | 1, _ => gn3 59 (by decide +kernel)
  | j + 2, h => absurd h (by omega)
theorem ks_c5_15 : ∀ j, j < 2 → Cond.eq (.elem (.field (tmS 15) "java/lang/String" "value" "[B") (.int (Int32.ofNat j))) (.int ((cByt.getD 15 []).getD j 0)) ∈ GN := fun j hj => match j, hj with
  | 0, _ => gn3 64 (by decide +kernel)
  | 1, _ => gn3 65 (by decide +kernel)
  | j + 2, h => absurd h (by omega)
theorem ks_c5_16 : ∀ j, j < 2 → Cond.eq (.elem (.field (tmS 16) "java/lang/String" "value" "[B") (.int (Int32.ofNat j))) (.int ((cByt.getD 16 []).getD j 0)) ∈ GN := fun j hj => match j, hj with
  | 0, _ => gn3 70 (by decide +kernel)
  | 1, _ => gn3 71 (by decide +kernel)
  | j + 2, h => absurd h (by omega)
theorem ks_c5_17 : ∀ j, j < 2 → Cond.eq (.elem (.field (tmS 17) "java/lang/String" "value" "[B") (.int (Int32.ofNat j))) (.int ((cByt.getD 17 []).getD j 0)) ∈ GN := fun j hj => match j, hj with
  | 0, _ => gn3 76 (by decide +kernel)
  | 1, _ => gn3 77 (by decide +kernel)
  | j + 2, h => absurd h (by omega)
theorem ks_c5 : ∀ i, i < 18 → ∀ j, j < cLen.getD i 0 → Cond.eq (.elem (.field (tmS i) "java/lang/String" "value" "[B") (.int (Int32.ofNat j))) (.int ((cByt.getD i []).getD j 0)) ∈ GN := fun i hi => match i, hi with
  | 0, _ => ks_c5_0
  | 1, _ => ks_c5_1
  | 2, _ => ks_c5_2
  | 3, _ => ks_c5_3
  | 4, _ => ks_c5_4
  | 5, _ => ks_c5_5
  | 6, _ => ks_c5_6
  | 7, _ => ks_c5_7
  | 8, _ => ks_c5_8
  | 9, _ => ks_c5_9
  | 10, _ => ks_c5_10
  | 11, _ => ks_c5_11
  | 12, _ => ks_c5_12
  | 13, _ => ks_c5_13
  | 14, _ => ks_c5_14
  | 15, _ => ks_c5_15
  | 16, _ => ks_c5_16
  | 17, _ => ks_c5_17
  | i + 18, h => absurd h (by omega)
theorem ks_c6 : ∀ i, i < 18 → ∀ j, j < 18 → cLen.getD i 0 = cLen.getD j 0 → (∀ k, k < cLen.getD i 0 → (cByt.getD i []).getD k 0 = (cByt.getD j []).getD k 0) → i = j := by decide +kernel
theorem ks_n : ∀ a ∈ exN, ∀ b ∈ exN, a ≠ b → Cond.not (.castable a b) ∈ GN := by
  unfold exN
  simp only [List.forall_mem_cons]
  exact ⟨⟨fun h => absurd rfl h, fun _ => gn1 257 (by decide +kernel), fun _ => gn1 225 (by decide +kernel), fun _ => gn1 274 (by decide +kernel), fun _ => gn1 291 (by decide +kernel), fun _ h => nomatch h⟩, ⟨fun _ => gn1 242 (by decide +kernel), fun h => absurd rfl h, fun _ => gn1 226 (by decide +kernel), fun _ => gn1 275 (by decide +kernel), fun _ => gn1 292 (by decide +kernel), fun _ h => nomatch h⟩, ⟨fun _ => gn1 243 (by decide +kernel), fun _ => gn1 258 (by decide +kernel), fun h => absurd rfl h, fun _ => gn1 276 (by decide +kernel), fun _ => gn1 293 (by decide +kernel), fun _ h => nomatch h⟩, ⟨fun _ => gn1 244 (by decide +kernel), fun _ => gn1 259 (by decide +kernel), fun _ => gn1 227 (by decide +kernel), fun h => absurd rfl h, fun _ => gn1 294 (by decide +kernel), fun _ h => nomatch h⟩, ⟨fun _ => gn1 245 (by decide +kernel), fun _ => gn1 261 (by decide +kernel), fun _ => gn1 229 (by decide +kernel), fun _ => gn1 278 (by decide +kernel), fun h => absurd rfl h, fun _ h => nomatch h⟩, fun _ h => nomatch h⟩
theorem ks_s : Cond.isRef (.static Bundle.tN "UNASSIGNED_STACK" Bundle.steD) ∈ GN ∧ Cond.isRef (.static Bundle.tN "SUPPRESSED_SENTINEL" Bundle.listD) ∈ GN ∧ Cond.isRef (.static "jdk/internal/util/Preconditions" "SIOOBE_FORMATTER" "Ljava/util/function/BiFunction;") ∈ GN ∧ Cond.eq (.static "java/lang/String" "COMPACT_STRINGS" "Z") (.int 1) ∈ GN := ⟨gn1 3 (by decide +kernel), gn1 4 (by decide +kernel), gn1 5 (by decide +kernel), gn1 2 (by decide +kernel)⟩
theorem ks_o9 : ∀ i, i < 100 → Cond.eq (.elem (.static "java/lang/Integer" "DigitOnes" "[B") (.int (Int32.ofNat i))) (.int (nI (48 + i % 10))) ∈ GN := fun i hi => match i, hi with
  | 0, _ => gn1 12 (by decide +kernel)
  | 1, _ => gn1 13 (by decide +kernel)
  | 2, _ => gn1 14 (by decide +kernel)
  | 3, _ => gn1 15 (by decide +kernel)
  | 4, _ => gn1 16 (by decide +kernel)
  | 5, _ => gn1 17 (by decide +kernel)
  | 6, _ => gn1 18 (by decide +kernel)
  | 7, _ => gn1 19 (by decide +kernel)
  | 8, _ => gn1 20 (by decide +kernel)
  | 9, _ => gn1 21 (by decide +kernel)
  | 10, _ => gn1 22 (by decide +kernel)
  | 11, _ => gn1 23 (by decide +kernel)
  | 12, _ => gn1 24 (by decide +kernel)
  | 13, _ => gn1 25 (by decide +kernel)
  | 14, _ => gn1 26 (by decide +kernel)
  | 15, _ => gn1 27 (by decide +kernel)
  | 16, _ => gn1 28 (by decide +kernel)
  | 17, _ => gn1 29 (by decide +kernel)
  | 18, _ => gn1 30 (by decide +kernel)
  | 19, _ => gn1 31 (by decide +kernel)
  | 20, _ => gn1 32 (by decide +kernel)
  | 21, _ => gn1 33 (by decide +kernel)
  | 22, _ => gn1 34 (by decide +kernel)
  | 23, _ => gn1 35 (by decide +kernel)
  | 24, _ => gn1 36 (by decide +kernel)
  | 25, _ => gn1 37 (by decide +kernel)
  | 26, _ => gn1 38 (by decide +kernel)
  | 27, _ => gn1 39 (by decide +kernel)
  | 28, _ => gn1 40 (by decide +kernel)
  | 29, _ => gn1 41 (by decide +kernel)
  | 30, _ => gn1 42 (by decide +kernel)
  | 31, _ => gn1 43 (by decide +kernel)
  | 32, _ => gn1 44 (by decide +kernel)
  | 33, _ => gn1 45 (by decide +kernel)
  | 34, _ => gn1 46 (by decide +kernel)
  | 35, _ => gn1 47 (by decide +kernel)
  | 36, _ => gn1 48 (by decide +kernel)
  | 37, _ => gn1 49 (by decide +kernel)
  | 38, _ => gn1 50 (by decide +kernel)
  | 39, _ => gn1 51 (by decide +kernel)
  | 40, _ => gn1 52 (by decide +kernel)
  | 41, _ => gn1 53 (by decide +kernel)
  | 42, _ => gn1 54 (by decide +kernel)
  | 43, _ => gn1 55 (by decide +kernel)
  | 44, _ => gn1 56 (by decide +kernel)
  | 45, _ => gn1 57 (by decide +kernel)
  | 46, _ => gn1 58 (by decide +kernel)
  | 47, _ => gn1 59 (by decide +kernel)
  | 48, _ => gn1 60 (by decide +kernel)
  | 49, _ => gn1 61 (by decide +kernel)
  | 50, _ => gn1 62 (by decide +kernel)
  | 51, _ => gn1 63 (by decide +kernel)
  | 52, _ => gn1 64 (by decide +kernel)
  | 53, _ => gn1 65 (by decide +kernel)
  | 54, _ => gn1 66 (by decide +kernel)
  | 55, _ => gn1 67 (by decide +kernel)
  | 56, _ => gn1 68 (by decide +kernel)
  | 57, _ => gn1 69 (by decide +kernel)
  | 58, _ => gn1 70 (by decide +kernel)
  | 59, _ => gn1 71 (by decide +kernel)
  | 60, _ => gn1 72 (by decide +kernel)
  | 61, _ => gn1 73 (by decide +kernel)
  | 62, _ => gn1 74 (by decide +kernel)
  | 63, _ => gn1 75 (by decide +kernel)
  | 64, _ => gn1 76 (by decide +kernel)
  | 65, _ => gn1 77 (by decide +kernel)
  | 66, _ => gn1 78 (by decide +kernel)
  | 67, _ => gn1 79 (by decide +kernel)
  | 68, _ => gn1 80 (by decide +kernel)
  | 69, _ => gn1 81 (by decide +kernel)
  | 70, _ => gn1 82 (by decide +kernel)
  | 71, _ => gn1 83 (by decide +kernel)
  | 72, _ => gn1 84 (by decide +kernel)
  | 73, _ => gn1 85 (by decide +kernel)
  | 74, _ => gn1 86 (by decide +kernel)
  | 75, _ => gn1 87 (by decide +kernel)
  | 76, _ => gn1 88 (by decide +kernel)
  | 77, _ => gn1 89 (by decide +kernel)
  | 78, _ => gn1 90 (by decide +kernel)
  | 79, _ => gn1 91 (by decide +kernel)
  | 80, _ => gn1 92 (by decide +kernel)
  | 81, _ => gn1 93 (by decide +kernel)
  | 82, _ => gn1 94 (by decide +kernel)
  | 83, _ => gn1 95 (by decide +kernel)
  | 84, _ => gn1 96 (by decide +kernel)
  | 85, _ => gn1 97 (by decide +kernel)
  | 86, _ => gn1 98 (by decide +kernel)
  | 87, _ => gn1 99 (by decide +kernel)
  | 88, _ => gn1 100 (by decide +kernel)
  | 89, _ => gn1 101 (by decide +kernel)
  | 90, _ => gn1 102 (by decide +kernel)
  | 91, _ => gn1 103 (by decide +kernel)
  | 92, _ => gn1 104 (by decide +kernel)
  | 93, _ => gn1 105 (by decide +kernel)
  | 94, _ => gn1 106 (by decide +kernel)
  | 95, _ => gn1 107 (by decide +kernel)
  | 96, _ => gn1 108 (by decide +kernel)
  | 97, _ => gn1 109 (by decide +kernel)
  | 98, _ => gn1 110 (by decide +kernel)
  | 99, _ => gn1 111 (by decide +kernel)
  | i + 100, h => absurd h (by omega)
theorem ks_o : Cond.arrayOf (.static "java/lang/Integer" "DigitOnes" "[B") .byte ∈ GN ∧ Cond.eq (.length (.static "java/lang/Integer" "DigitOnes" "[B")) (.int (Int32.ofNat 100)) ∈ GN ∧ ∀ j, j < 100 → Cond.eq (.elem (.static "java/lang/Integer" "DigitOnes" "[B") (.int (Int32.ofNat j))) (.int (nI (48 + j % 10))) ∈ GN := ⟨gn1 10 (by decide +kernel), gn1 11 (by decide +kernel), ks_o9⟩
theorem ks_t9 : ∀ i, i < 100 → Cond.eq (.elem (.static "java/lang/Integer" "DigitTens" "[B") (.int (Int32.ofNat i))) (.int (nI (48 + i / 10))) ∈ GN := fun i hi => match i, hi with
  | 0, _ => gn1 115 (by decide +kernel)
  | 1, _ => gn1 116 (by decide +kernel)
  | 2, _ => gn1 117 (by decide +kernel)
  | 3, _ => gn1 118 (by decide +kernel)
  | 4, _ => gn1 119 (by decide +kernel)
  | 5, _ => gn1 120 (by decide +kernel)
  | 6, _ => gn1 121 (by decide +kernel)
  | 7, _ => gn1 122 (by decide +kernel)
  | 8, _ => gn1 123 (by decide +kernel)
  | 9, _ => gn1 124 (by decide +kernel)
  | 10, _ => gn1 125 (by decide +kernel)
  | 11, _ => gn1 126 (by decide +kernel)
  | 12, _ => gn1 127 (by decide +kernel)
  | 13, _ => gn1 128 (by decide +kernel)
  | 14, _ => gn1 129 (by decide +kernel)
  | 15, _ => gn1 130 (by decide +kernel)
  | 16, _ => gn1 131 (by decide +kernel)
  | 17, _ => gn1 132 (by decide +kernel)
  | 18, _ => gn1 133 (by decide +kernel)
  | 19, _ => gn1 134 (by decide +kernel)
  | 20, _ => gn1 135 (by decide +kernel)
  | 21, _ => gn1 136 (by decide +kernel)
  | 22, _ => gn1 137 (by decide +kernel)
  | 23, _ => gn1 138 (by decide +kernel)
  | 24, _ => gn1 139 (by decide +kernel)
  | 25, _ => gn1 140 (by decide +kernel)
  | 26, _ => gn1 141 (by decide +kernel)
  | 27, _ => gn1 142 (by decide +kernel)
  | 28, _ => gn1 143 (by decide +kernel)
  | 29, _ => gn1 144 (by decide +kernel)
  | 30, _ => gn1 145 (by decide +kernel)
  | 31, _ => gn1 146 (by decide +kernel)
  | 32, _ => gn1 147 (by decide +kernel)
  | 33, _ => gn1 148 (by decide +kernel)
  | 34, _ => gn1 149 (by decide +kernel)
  | 35, _ => gn1 150 (by decide +kernel)
  | 36, _ => gn1 151 (by decide +kernel)
  | 37, _ => gn1 152 (by decide +kernel)
  | 38, _ => gn1 153 (by decide +kernel)
  | 39, _ => gn1 154 (by decide +kernel)
  | 40, _ => gn1 155 (by decide +kernel)
  | 41, _ => gn1 156 (by decide +kernel)
  | 42, _ => gn1 157 (by decide +kernel)
  | 43, _ => gn1 158 (by decide +kernel)
  | 44, _ => gn1 159 (by decide +kernel)
  | 45, _ => gn1 160 (by decide +kernel)
  | 46, _ => gn1 161 (by decide +kernel)
  | 47, _ => gn1 162 (by decide +kernel)
  | 48, _ => gn1 163 (by decide +kernel)
  | 49, _ => gn1 164 (by decide +kernel)
  | 50, _ => gn1 165 (by decide +kernel)
  | 51, _ => gn1 166 (by decide +kernel)
  | 52, _ => gn1 167 (by decide +kernel)
  | 53, _ => gn1 168 (by decide +kernel)
  | 54, _ => gn1 169 (by decide +kernel)
  | 55, _ => gn1 170 (by decide +kernel)
  | 56, _ => gn1 171 (by decide +kernel)
  | 57, _ => gn1 172 (by decide +kernel)
  | 58, _ => gn1 173 (by decide +kernel)
  | 59, _ => gn1 174 (by decide +kernel)
  | 60, _ => gn1 175 (by decide +kernel)
  | 61, _ => gn1 176 (by decide +kernel)
  | 62, _ => gn1 177 (by decide +kernel)
  | 63, _ => gn1 178 (by decide +kernel)
  | 64, _ => gn1 179 (by decide +kernel)
  | 65, _ => gn1 180 (by decide +kernel)
  | 66, _ => gn1 181 (by decide +kernel)
  | 67, _ => gn1 182 (by decide +kernel)
  | 68, _ => gn1 183 (by decide +kernel)
  | 69, _ => gn1 184 (by decide +kernel)
  | 70, _ => gn1 185 (by decide +kernel)
  | 71, _ => gn1 186 (by decide +kernel)
  | 72, _ => gn1 187 (by decide +kernel)
  | 73, _ => gn1 188 (by decide +kernel)
  | 74, _ => gn1 189 (by decide +kernel)
  | 75, _ => gn1 190 (by decide +kernel)
  | 76, _ => gn1 191 (by decide +kernel)
  | 77, _ => gn1 192 (by decide +kernel)
  | 78, _ => gn1 193 (by decide +kernel)
  | 79, _ => gn1 194 (by decide +kernel)
  | 80, _ => gn1 195 (by decide +kernel)
  | 81, _ => gn1 196 (by decide +kernel)
  | 82, _ => gn1 197 (by decide +kernel)
  | 83, _ => gn1 198 (by decide +kernel)
  | 84, _ => gn1 199 (by decide +kernel)
  | 85, _ => gn1 200 (by decide +kernel)
  | 86, _ => gn1 201 (by decide +kernel)
  | 87, _ => gn1 202 (by decide +kernel)
  | 88, _ => gn1 203 (by decide +kernel)
  | 89, _ => gn1 204 (by decide +kernel)
  | 90, _ => gn1 205 (by decide +kernel)
  | 91, _ => gn1 206 (by decide +kernel)
  | 92, _ => gn1 207 (by decide +kernel)
  | 93, _ => gn1 208 (by decide +kernel)
  | 94, _ => gn1 209 (by decide +kernel)
  | 95, _ => gn1 210 (by decide +kernel)
  | 96, _ => gn1 211 (by decide +kernel)
  | 97, _ => gn1 212 (by decide +kernel)
  | 98, _ => gn1 213 (by decide +kernel)
  | 99, _ => gn1 214 (by decide +kernel)
  | i + 100, h => absurd h (by omega)
theorem ks_t : Cond.arrayOf (.static "java/lang/Integer" "DigitTens" "[B") .byte ∈ GN ∧ Cond.eq (.length (.static "java/lang/Integer" "DigitTens" "[B")) (.int (Int32.ofNat 100)) ∈ GN ∧ ∀ j, j < 100 → Cond.eq (.elem (.static "java/lang/Integer" "DigitTens" "[B") (.int (Int32.ofNat j))) (.int (nI (48 + j / 10))) ∈ GN := ⟨gn1 113 (by decide +kernel), gn1 114 (by decide +kernel), ks_t9⟩
theorem ks_w : (∀ y ∈ dTab, Cond.declares y ∈ tables_1) ∧ (∀ a ∈ exN, Cond.castable a a ∈ tables_1) ∧ (∀ w ∈ nTab, Cond.methodLinkNest w.1 w.2.1 w.2.2.1 w.2.2.2 ∈ tables_1) ∧ (∀ a ∈ aTab, Cond.arrayOver (.object a) ∈ tables_1) ∧ Cond.arrayOver (.array .int) ∈ tables_1 ∧ (∀ y ∈ pTab, Cond.privateMethod y ∈ tables_1 ∧ Cond.instanceMethod y ∈ tables_1) := by decide +kernel
theorem ks_l : Cond.laysStatic Bundle.tN "UNASSIGNED_STACK" Bundle.steD ∈ tables_1 ∧ Cond.laysStatic Bundle.tN "SUPPRESSED_SENTINEL" Bundle.listD ∈ tables_1 ∧ Cond.laysStatic "jdk/internal/util/Preconditions" "SIOOBE_FORMATTER" "Ljava/util/function/BiFunction;" ∈ tables_1 ∧ Cond.laysStatic "java/lang/String" "COMPACT_STRINGS" "Z" ∈ tables_1 ∧ Cond.laysStatic "java/lang/Integer" "DigitOnes" "[B" ∈ tables_1 ∧ Cond.laysStatic "java/lang/Integer" "DigitTens" "[B" ∈ tables_1 := by decide +kernel
theorem ks_i : Cond.initialized Bundle.tN ∈ tables_1 ∧ Cond.initialized "jdk/internal/util/Preconditions" ∈ tables_1 ∧ Cond.initialized "java/lang/String" ∈ tables_1 ∧ Cond.initialized "java/lang/Integer" ∈ tables_1 := by decide +kernel
/-- a private method's word, of the class below -/
theorem sel_of {s : State} {args : Array Value} {y z : MethodName} {n : Nat} (hy : y.cls ≠ "java/lang/invoke/MethodHandle" ∧ y.cls ≠ "java/lang/invoke/VarHandle") (hins : (Cond.instantiable "java/lang/StringBuilder" n).before args s = true) (hpriv : (Cond.privateMethod y).before args s = true) (hinst : (Cond.instanceMethod y).before args s = true) (hz : (Cond.selects "java/lang/StringBuilder" z z).before args s = true) (hzc : z.cls = y.cls) : (Cond.selects "java/lang/StringBuilder" y y).before args s = true := by
  obtain ⟨c, k, hc, hk, -, -, -, -⟩ := Cond.instantiable_spec hins
  obtain ⟨mk, methM, hnamed, hmethM, -, -⟩ := Cond.instanceMethod_spec hinst
  have hfound : s.methodFound? y.cls y.name y.desc = some mk := State.methodFound?_of_named hnamed hy
  have hsel : selectMethod {} s.vm c mk = .method mk := selectMethod_private hmethM (Cond.privateMethod_at hpriv mk methM hnamed hmethM)
  obtain ⟨c2, r2, m2, q1, q2, q3, q4, mk2, hmk2, hni⟩ := Cond.selects_spec hz
  have e : m2.cls = mk.cls := by
    have h1 := findClass_of_methodNamed hnamed
    have h2 := findClass_of_methodNamed q3
    rw [hzc] at h2
    exact Option.some.inj (h2.symm.trans h1)
  rw [e] at hmk2
  simp only [Cond.before, Cond.holds, Cond.value, hc, hfound, hnamed, hsel, hmk2]
  simp
  exact hni
theorem arr_of {s : State} {args : Array Value} {ty : FieldType} (h : (Cond.arrayClass ty).before args s = true) (hra : ∀ (U : State) (c9 : ClassId), U.vm.findClass ("[" ++ ty.toString) = some c9 → va_RA U c9 ty) : ∃ c : ClassId, ArrOfT s c ty ∧ va_RA s c ty := by
  obtain ⟨c, k, comp, h1, h2, h3⟩ := Cond.arrayClass_spec h
  exact ⟨c, fun n z => ⟨fun k9 h9 => (by cases h9), k, h2, comp, h3⟩, hra s c h1⟩
theorem arr_ofO {s : State} {args : Array Value} {C : String} (h : (Cond.arrayOver (.object C)).before args s = true) : ∃ c : ClassId, ArrOfT s c (.object C) ∧ va_RA s c (.object C) := by
  obtain ⟨comp, c, k, h1, h2, h3, h4, h5⟩ := Cond.arrayOver_spec h
  exact ⟨c, fun n z => ⟨fun k9 h9 => (by cases h9), k, h3, comp, h4⟩, k, comp, h3, h4, h1, h5⟩
theorem arr_ofA {s : State} {args : Array Value} (h : (Cond.arrayOver (.array .int)).before args s = true) : ∃ c : ClassId, ArrOfT s c (.array .int) ∧ va_RA s c (.array .int) := by
  obtain ⟨comp, c, k, h1, h2, h3, h4, h5⟩ := arrayOverA_spec h
  exact ⟨c, fun n z => ⟨fun k9 h9 => (by cases h9), k, h3, comp, h4⟩, h5⟩
theorem tS_of {s : State} {args : Array Value} {A : Nat → Prop} (hg : ∀ w ∈ GN, w.before args s = true) (hA : ∀ a : Nat, a < s.heap.size → ¬ A a) : ∃ adK adV : Nat → Nat, vk_S 18 cLen cByt adK adV A s s.heap ∧ ∀ i : Nat, i < 18 → (tmS i).eval args s none [] s = some (.ref (adK i)) := by
  have h0 : ∀ i : Nat, ∃ q : Nat × Nat, i < 18 → (tmS i).eval args s none [] s = some (.ref q.1) ∧ va_O "java/lang/String" q.1 A s s.heap ∧ va_OF "java/lang/String" "coder" "B" (.int 0) q.1 A s s.heap ∧ va_OF "java/lang/String" "value" "[B" (.ref q.2) q.1 A s s.heap ∧ va_T .byte q.2 (cLen.getD i 0) (fun j => .int ((cByt.getD i []).getD j 0)) A s s.heap := by
    intro i
    by_cases hi : i < 18
    · obtain ⟨a, c, cA, kA, q1, q2, q3, q4, q5, q6, -⟩ := Cond.exactly_spec (args := args) (first := s) (o := none) (s := s) (idx := []) (t := tmS i) (cls := "java/lang/String") (hg _ (ks_c1 i hi))
      obtain ⟨t, ht, hT⟩ := va_Tof (f := fun j => .int ((cByt.getD i []).getD j 0)) (A := A) (Nat.lt_of_le_of_lt (c_all i hi).2.1 (by decide)) (hg _ (ks_c3 i hi)) (va_eqt (hg _ (ks_c4 i hi))) (fun j hj => va_eqt (hg _ (ks_c5 i hi j hj))) hA
      exact ⟨(a, t), fun _ => ⟨q1, ⟨cA, q3, q5, by rw [q6]; exact q2, hA a (Array.getElem?_eq_some_iff.mp q3).1⟩, vk_OFof q1 (va_eqt (hg _ (ks_c2 i hi))) hA, vk_OFof q1 ht hA, hT⟩⟩
    · exact ⟨(0, 0), fun h => absurd h hi⟩
  obtain ⟨ad, had⟩ := Classical.axiomOfChoice h0
  refine ⟨fun i => (ad i).1, fun i => (ad i).2, ⟨fun i hi => (had i hi).2, fun i j hi hj e => ?_⟩, fun i hi => (had i hi).1⟩
  have e : (ad i).1 = (ad j).1 := e
  obtain ⟨-, -, -, v1, t1⟩ := had i hi
  obtain ⟨-, -, -, v2, t2⟩ := had j hj
  rw [e] at v1
  obtain ⟨cf, k, fi, f, cell, a1, a2, a3, a4, a5, a6⟩ := v1
  obtain ⟨cf2, k2, fi2, f2, cell2, b1, b2, b3, b4, b5, b6⟩ := v2
  cases Option.some.inj (a1.symm.trans b1)
  cases Option.some.inj (a3.symm.trans b3)
  have ev : (ad i).2 = (ad j).2 := Value.ref.inj (Option.some.inj (a5.symm.trans b5))
  rw [ev] at t1
  obtain ⟨c1, x1, x2, x3, x4, x5, x6, x7⟩ := t1
  obtain ⟨c2, y1, y2, y3, y4, y5, y6, y7⟩ := t2
  cases Option.some.inj (x1.symm.trans y1)
  have hl : cLen.getD i 0 = cLen.getD j 0 := (nI_eq (Nat.lt_of_le_of_lt (c_all i hi).2.1 (by decide)) (Nat.lt_of_le_of_lt (c_all j hj).2.1 (by decide))).mp (x5.symm.trans y5)
  exact ks_c6 i hi j hj hl (fun q hq => Value.int.inj (Option.some.inj ((x6 q hq).symm.trans (y6 q (by rw [← hl]; exact hq)))))
theorem ku_RJ0 : (∀ w ∈ wsJ00, w ∈ lw_tbl) ∧ Cond.instantiable RJ0 4 ∈ lw_tbl := by decide +kernel
theorem ku_RJ4 : (∀ w ∈ wsJ40, w ∈ lw_tbl) ∧ Cond.instantiable RJ4 4 ∈ lw_tbl := by decide +kernel
theorem ku_RJx00060 : (∀ w ∈ wsJx000600, w ∈ lw_tbl) ∧ Cond.instantiable RJx00060 6 ∈ lw_tbl := by decide +kernel
theorem ku_RJx7c733 : (∀ w ∈ wsJx7c7330, w ∈ lw_tbl) ∧ Cond.instantiable RJx7c733 6 ∈ lw_tbl := by decide +kernel
theorem ku_RX0 : (∀ w ∈ wsX00, w ∈ lw_tbl) ∧ Cond.instantiable RX0 3 ∈ lw_tbl := by decide +kernel
theorem ku_RX1 : (∀ w ∈ wsX10, w ∈ lw_tbl) ∧ Cond.instantiable RX1 5 ∈ lw_tbl := by decide +kernel
theorem ku_RX2 : (∀ w ∈ wsX20, w ∈ lw_tbl) ∧ Cond.instantiable RX2 3 ∈ lw_tbl := by decide +kernel
theorem ku_RX3 : (∀ w ∈ wsX30, w ∈ lw_tbl) ∧ Cond.instantiable RX3 7 ∈ lw_tbl := by decide +kernel
theorem ku_RX4 : (∀ w ∈ wsX40, w ∈ lw_tbl) ∧ Cond.instantiable RX4 6 ∈ lw_tbl := by decide +kernel
theorem ku_RX5 : (∀ w ∈ wsX50, w ∈ lw_tbl) ∧ Cond.instantiable RX5 9 ∈ lw_tbl := by decide +kernel
theorem ku_RX6 : (∀ w ∈ wsX60, w ∈ lw_tbl) ∧ Cond.instantiable RX6 3 ∈ lw_tbl := by decide +kernel
theorem ku_RX7 : (∀ w ∈ wsX70, w ∈ lw_tbl) ∧ Cond.instantiable RX7 11 ∈ lw_tbl := by decide +kernel
theorem ku_RX8 : (∀ w ∈ wsX80, w ∈ lw_tbl) ∧ Cond.instantiable RX8 23 ∈ lw_tbl := by decide +kernel
theorem ku_E0 : Cond.instantiable "java/lang/IndexOutOfBoundsException" 6 ∈ lw_tbl := by decide +kernel
theorem ku_E1 : Cond.instantiable "java/lang/IllegalArgumentException" 6 ∈ lw_tbl := by decide +kernel
theorem ku_E2 : Cond.instantiable "java/lang/IllegalStateException" 6 ∈ lw_tbl := by decide +kernel
theorem ku_E3 : Cond.instantiable "java/util/NoSuchElementException" 6 ∈ lw_tbl := by decide +kernel
theorem ku_E4 : Cond.instantiable "java/lang/ArithmeticException" 6 ∈ lw_tbl := by decide +kernel
theorem cls_of {s : State} {args : Array Value} (hts : ∀ w ∈ lw_tbl, w.before args s = true) : ∃ (dC : Nat → ClassId) (dI : Nat → Nat → Nat), ∀ (k : Nat) (q : vw_C), CL[k]? = some q → u_Kn s q.1 q.2.1 q.2.2 (dC k) (dI k) := by
  have h0 : ∀ k : Nat, ∃ z : ClassId × (Nat → Nat), ∀ q : vw_C, CL[k]? = some q → u_Kn s q.1 q.2.1 q.2.2 z.1 z.2 := by
    intro k
    match k with
    | 0 =>
      obtain ⟨c, i, h⟩ := u_known (C := RJ0) (T := TJ0) (N := 4) (n := 4) hts ku_RJ0.1 (hts _ ku_RJ0.2)
      exact ⟨(c, i), fun q hq => by cases hq; exact h⟩
    | 1 =>
      obtain ⟨c, i, h⟩ := u_known (C := RJ4) (T := TJ4) (N := 4) (n := 4) hts ku_RJ4.1 (hts _ ku_RJ4.2)
      exact ⟨(c, i), fun q hq => by cases hq; exact h⟩
    | 2 =>
      obtain ⟨c, i, h⟩ := u_known (C := RJx00060) (T := TJx00060) (N := 6) (n := 6) hts ku_RJx00060.1 (hts _ ku_RJx00060.2)
      exact ⟨(c, i), fun q hq => by cases hq; exact h⟩
    | 3 =>
      obtain ⟨c, i, h⟩ := u_known (C := RJx7c733) (T := TJx7c733) (N := 6) (n := 6) hts ku_RJx7c733.1 (hts _ ku_RJx7c733.2)
      exact ⟨(c, i), fun q hq => by cases hq; exact h⟩
    | 4 =>
      obtain ⟨c, i, h⟩ := u_known (C := RX0) (T := TX0) (N := 3) (n := 3) hts ku_RX0.1 (hts _ ku_RX0.2)
      exact ⟨(c, i), fun q hq => by cases hq; exact h⟩
    | 5 =>
      obtain ⟨c, i, h⟩ := u_known (C := RX1) (T := TX1) (N := 5) (n := 5) hts ku_RX1.1 (hts _ ku_RX1.2)
      exact ⟨(c, i), fun q hq => by cases hq; exact h⟩
    | 6 =>
      obtain ⟨c, i, h⟩ := u_known (C := RX2) (T := TX2) (N := 3) (n := 3) hts ku_RX2.1 (hts _ ku_RX2.2)
      exact ⟨(c, i), fun q hq => by cases hq; exact h⟩
    | 7 =>
      obtain ⟨c, i, h⟩ := u_known (C := RX3) (T := TX3) (N := 7) (n := 7) hts ku_RX3.1 (hts _ ku_RX3.2)
      exact ⟨(c, i), fun q hq => by cases hq; exact h⟩
    | 8 =>
      obtain ⟨c, i, h⟩ := u_known (C := RX4) (T := TX4) (N := 6) (n := 6) hts ku_RX4.1 (hts _ ku_RX4.2)
      exact ⟨(c, i), fun q hq => by cases hq; exact h⟩
    | 9 =>
      obtain ⟨c, i, h⟩ := u_known (C := RX5) (T := TX5) (N := 9) (n := 9) hts ku_RX5.1 (hts _ ku_RX5.2)
      exact ⟨(c, i), fun q hq => by cases hq; exact h⟩
    | 10 =>
      obtain ⟨c, i, h⟩ := u_known (C := RX6) (T := TX6) (N := 3) (n := 3) hts ku_RX6.1 (hts _ ku_RX6.2)
      exact ⟨(c, i), fun q hq => by cases hq; exact h⟩
    | 11 =>
      obtain ⟨c, i, h⟩ := u_known (C := RX7) (T := TX7) (N := 11) (n := 11) hts ku_RX7.1 (hts _ ku_RX7.2)
      exact ⟨(c, i), fun q hq => by cases hq; exact h⟩
    | 12 =>
      obtain ⟨c, i, h⟩ := u_known (C := RX8) (T := TX8) (N := 23) (n := 23) hts ku_RX8.1 (hts _ ku_RX8.2)
      exact ⟨(c, i), fun q hq => by cases hq; exact h⟩
    | 13 =>
      obtain ⟨c, i, h⟩ := u_known (C := "java/lang/IndexOutOfBoundsException") (T := TXE) (N := 0) (n := 6) hts (fun w h9 => nomatch h9) (hts _ ku_E0)
      exact ⟨(c, i), fun q hq => by cases hq; exact h⟩
    | 14 =>
      obtain ⟨c, i, h⟩ := u_known (C := "java/lang/IllegalArgumentException") (T := TXE) (N := 0) (n := 6) hts (fun w h9 => nomatch h9) (hts _ ku_E1)
      exact ⟨(c, i), fun q hq => by cases hq; exact h⟩
    | 15 =>
      obtain ⟨c, i, h⟩ := u_known (C := "java/lang/IllegalStateException") (T := TXE) (N := 0) (n := 6) hts (fun w h9 => nomatch h9) (hts _ ku_E2)
      exact ⟨(c, i), fun q hq => by cases hq; exact h⟩
    | 16 =>
      obtain ⟨c, i, h⟩ := u_known (C := "java/util/NoSuchElementException") (T := TXE) (N := 0) (n := 6) hts (fun w h9 => nomatch h9) (hts _ ku_E3)
      exact ⟨(c, i), fun q hq => by cases hq; exact h⟩
    | 17 =>
      obtain ⟨c, i, h⟩ := u_known (C := "java/lang/ArithmeticException") (T := TXE) (N := 0) (n := 6) hts (fun w h9 => nomatch h9) (hts _ ku_E4)
      exact ⟨(c, i), fun q hq => by cases hq; exact h⟩
    | k + 18 => exact ⟨(0, fun _ => 0), fun q hq => by simp [CL, vwCl] at hq⟩
  obtain ⟨z, hz⟩ := Classical.axiomOfChoice h0
  exact ⟨fun k => (z k).1, fun k => (z k).2, hz⟩
theorem tb {w : Cond} (h : w ∈ tables_1) : w ∈ lw_tbl := List.mem_append_right _ h
set_option maxHeartbeats 4000000 in
theorem kk_start {s : State} {args : Array Value} (hts : ∀ w ∈ lw_tbl, w.before args s = true) (hgv : (Jvm.Cond.and given_1 narrow_1).before args s = true) : ∃ Y : LY, KK Y s ∧ YZ Y = s.heap.size := by
  have hg : ∀ w ∈ GN, w.before args s = true := flat_of_before _ hgv
  have hA : ∀ a : Nat, a < s.heap.size → ¬ (fun q : Nat => s.heap.size ≤ q) a := fun a h => Nat.not_le.mpr h
  obtain ⟨dC, dI, hC⟩ := cls_of hts
  obtain ⟨adK, adV, hK, hKe⟩ := tS_of hg hA
  obtain ⟨t1, ht1, hT1⟩ := va_Tof (tm := .static "java/lang/Integer" "DigitOnes" "[B") (f := fun j => .int (nI (48 + j % 10))) (by decide : 100 < 2 ^ 31) (hg _ ks_o.1) (va_eqt (hg _ ks_o.2.1)) (fun j hj => va_eqt (hg _ (ks_o.2.2 j hj))) hA
  obtain ⟨t2, ht2, hT2⟩ := va_Tof (tm := .static "java/lang/Integer" "DigitTens" "[B") (f := fun j => .int (nI (48 + j / 10))) (by decide : 100 < 2 ^ 31) (hg _ ks_t.1) (va_eqt (hg _ ks_t.2.1)) (fun j hj => va_eqt (hg _ (ks_t.2.2 j hj))) hA
  have hal : ∀ w ∈ ALLW, w.before args s = true := fun w h => hts w (allw_in h)
  obtain ⟨c0, h0⟩ := arr_of (hal _ zt_56) (fun _ _ h => h)
  obtain ⟨c1, h1⟩ := arr_of (hal _ zt_57) (fun _ _ h => h)
  obtain ⟨c2, h2⟩ := arr_of (hal _ zt_258) (fun _ _ h => h)
  obtain ⟨c3, h3⟩ := arr_ofO (hts _ (tb (ks_w.2.2.2.1 "RiverParcelService$Link" (by decide))))
  obtain ⟨c4, h4⟩ := arr_ofO (hts _ (tb (ks_w.2.2.2.1 "RiverParcelService$Parcel" (by decide))))
  obtain ⟨c5, h5⟩ := arr_ofO (hts _ (tb (ks_w.2.2.2.1 "RiverParcelService$Service" (by decide))))
  obtain ⟨c6, h6⟩ := arr_ofA (hts _ (tb ks_w.2.2.2.2.1))
  obtain ⟨c7, h7⟩ := arr_of (hal _ zt_291) (fun _ _ h => h)
  obtain ⟨c8, h8⟩ := arr_of (hal _ zt_2064) (fun _ _ h => h)
  obtain ⟨c9, h9⟩ := arr_of (hal _ zt_2065) (fun _ _ h => h)
  refine ⟨((dC, dI), fun t => [c0, c1, c2, c3, c4, c5, c6, c7, c8, c9].getD t 0, fun _ _ => 0, s.heap.size, adK, fun i => if i = 100 then t1 else if i = 101 then t2 else adV i), ?_, rfl⟩
  refine ⟨⟨hC, fun k q hq => ?_⟩, vx_Zqof (hts _ (tb ks_l.1)) (hts _ (tb ks_i.1)) (hg _ ks_s.1) hA, vx_Zqof (hts _ (tb ks_l.2.1)) (hts _ (tb ks_i.1)) (hg _ ks_s.2.1) hA, fun q hq => ?_, fun a ha b hb hab => va_Nc.of (hg _ (ks_n a ha b hb hab)), va_Zof (hts _ (tb ks_l.2.2.2.1)) (hts _ (tb ks_i.2.2.1)) (va_eqt (hg _ ks_s.2.2.2)) hA, ⟨fun i hi => ?_, hK.2⟩, fun i q hq => ?_,
    ⟨va_Zof (hts _ (tb ks_l.2.2.2.2.1)) (hts _ (tb ks_i.2.2.2)) ht1 hA, hT1⟩, ⟨va_Zof (hts _ (tb ks_l.2.2.2.2.2)) (hts _ (tb ks_i.2.2.2)) ht2 hA, hT2⟩, fun y hy => va_Nw.of rfl (hts _ (tb (ks_w.1 y hy))), fun a ha => va_Nw.of rfl (hts _ (tb (ks_w.2.1 a ha))), va_Zqof (hts _ (tb ks_l.2.2.1)) (hts _ (tb ks_i.2.1)) (hg _ ks_s.2.2.1) hA, fun w hw => va_Nw.of rfl (hts _ (tb (ks_w.2.2.1 w hw))), fun a ha => va_AO.of (hts _ (tb (ks_w.2.2.2.1 a ha))), va_AOA.of (hts _ (tb ks_w.2.2.2.2.1)), fun y hy => va_Nw.of rfl (sel_of (z := ⟨"java/lang/AbstractStringBuilder", "isLatin1", "()Z"⟩) ?_ (hal _ zt_260) (hts _ (tb (ks_w.2.2.2.2.2 y hy).1)) (hts _ (tb (ks_w.2.2.2.2.2 y hy).2)) (hal _ zt_1164) ?_)⟩
  · match k, hq with
    | 0, hq => cases hq; exact h0
    | 1, hq => cases hq; exact h1
    | 2, hq => cases hq; exact h2
    | 3, hq => cases hq; exact h3
    | 4, hq => cases hq; exact h4
    | 5, hq => cases hq; exact h5
    | 6, hq => cases hq; exact h6
    | 7, hq => cases hq; exact h7
    | 8, hq => cases hq; exact h8
    | 9, hq => cases hq; exact h9
    | k + 10, hq => simp [TYS] at hq
  · obtain ⟨a, c, cA, kA, q1, -⟩ := Cond.exactly_spec (args := args) (first := s) (o := none) (s := s) (idx := []) (hg _ (ks_x2 q hq))
    exact ⟨a, vk_R.of (hts _ (tb (ks_x1 q hq))) q1⟩
  · have e : (fun i => if i = 100 then t1 else if i = 101 then t2 else adV i) i = adV i := by dsimp only; rw [if_neg (by omega), if_neg (by omega)]
    show _ ∧ _ ∧ va_OF _ _ _ (.ref ((fun i => if i = 100 then t1 else if i = 101 then t2 else adV i) i)) _ _ _ _ ∧ va_T _ ((fun i => if i = 100 then t1 else if i = 101 then t2 else adV i) i) _ _ _ _ _
    rw [e]
    exact hK.1 i hi
  · have hi : i < 18 := (List.getElem?_eq_some_iff.mp hq).1
    have hm : q ∈ cTab := List.mem_of_getElem? hq
    have e := hKe i hi
    have eg : cTab.getD i ("", 0, "") = q := by rw [List.getD_eq_getElem?_getD, hq]; rfl
    unfold tmS at e
    rw [eg] at e
    exact vk_R.of (hts _ (tb (ks_c0 q hm))) e
  · exact (show ∀ y ∈ pTab, y.cls ≠ "java/lang/invoke/MethodHandle" ∧ y.cls ≠ "java/lang/invoke/VarHandle" by decide) y hy
  · exact (show ∀ y ∈ pTab, "java/lang/AbstractStringBuilder" = y.cls by decide) y hy
