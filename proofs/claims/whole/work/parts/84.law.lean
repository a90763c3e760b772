/-! THE LAW -/
/-- what holds ahead of each call -/
def lI (M : pmM) (N : pmN) (xs : Nat → Int32) (a : aW) : Prop := M 0 = xs ∧ appIs M N 1 a ∧ modIs M N 324 a ∧ wfX a
section LAW
variable {sh : pmS} {M : pmM} {N : pmN} {Q : pmPost} {L i : Nat} {xs : Nat → Int32} {a : aW}
set_option maxRecDepth 20000 in
theorem law_0 (hL : L ≤ 3072) (hi : i + 6 ≤ L) (hsc : sh[0]? = some (.inl (0, L, []))) (hA : isApp sh 1) (hB : isMod sh 324) (h : lI M N xs a) (next : ∀ M' N' a', lI M' N' xs a' → PW mL_law 1032 [.ref 0, .ref 1, .ref 324, .int (nI i)] [] sh M' N' Q) : PW mL_law 164 [.ref 0, .ref 1, .ref 324, .int (nI i)] [] sh M N Q := by
  obtain ⟨hs, hx, hy, hw⟩ := h
  have ho := ok_app hx
  have oA := hA.1
  have oB := hB.1
  refine pw_aload_n 165 rfl rfl rfl ?_
  refine pw_aload_n 166 rfl rfl rfl ?_
  refine pw_iload_n 167 rfl rfl rfl ?_
  refine pw_iconst (v := nI 1) 168 rfl rfl (by decide) ?_
  first | refine pw_iaddN 169 rfl rfl (by with_reducible rfl) (by with_reducible rfl) ?_ | refine pw_iadd 169 rfl rfl ?_
  refine pw_sld _ 170 rfl rfl (by first | assumption | rfl) (by with_reducible rfl) (by first | assumption | omega) (by omega) ?_
  rw [hs]
  refine pw_cV1 173 rfl rfl (by first | assumption | exact ⟨by decide, rfl⟩) rfl (Nat.le_of_ble_eq_true rfl) rfl rfl (Nat.le_of_ble_eq_true rfl) (c_type hA hw.1 hx (fun M1 N1 f1 n1 x1 => ?_))
  refine pw_pI ?_
  have s1 : M1 0 = xs := by rw [f1 0 (by omega)]; exact hs
  have y1 : modIs M1 N1 324 a := hy.same (fun x hx => f1 x (by omega)) (fun x hx => n1 x (by omega))
  refine pw_aload_n 174 rfl rfl rfl ?_
  refine pw_aload_n 175 rfl rfl rfl ?_
  refine pw_iload_n 176 rfl rfl rfl ?_
  refine pw_iconst (v := nI 1) 177 rfl rfl (by decide) ?_
  first | refine pw_iaddN 178 rfl rfl (by with_reducible rfl) (by with_reducible rfl) ?_ | refine pw_iadd 178 rfl rfl ?_
  refine pw_sld _ 179 rfl rfl (by first | assumption | rfl) (by with_reducible rfl) (by first | assumption | omega) (by omega) ?_
  rw [s1]
  refine pw_cV1 182 rfl rfl (by first | assumption | exact ⟨by decide, rfl⟩) rfl (Nat.le_of_ble_eq_true rfl) rfl rfl (Nat.le_of_ble_eq_true rfl) (m_type hB hw.1.1 y1 (fun M2 N2 f2 n2 y2 => ?_))
  refine pw_pI ?_
  have x2 := x1.frr f2 (by decide) (fun x hx => n2 x (by omega))
  skip
  refine pw_icmp_eq_t 1032 rfl rfl (rfl) ?_
  exact next M2 N2 _ ⟨by rw [f2 0 (by omega)]; exact s1, x2, y2, k_type hw⟩
set_option maxRecDepth 20000 in
theorem law_1 (hL : L ≤ 3072) (hi : i + 6 ≤ L) (hsc : sh[0]? = some (.inl (0, L, []))) (hA : isApp sh 1) (hB : isMod sh 324) (h : lI M N xs a) (next : ∀ M' N' a', lI M' N' xs a' → PW mL_law 1032 [.ref 0, .ref 1, .ref 324, .int (nI i)] [] sh M' N' Q) : PW mL_law 187 [.ref 0, .ref 1, .ref 324, .int (nI i)] [] sh M N Q := by
  obtain ⟨hs, hx, hy, hw⟩ := h
  have ho := ok_app hx
  have oA := hA.1
  have oB := hB.1
  refine pw_aload_n 188 rfl rfl rfl ?_
  refine pw_cV0 191 rfl rfl (by first | assumption | exact ⟨by decide, rfl⟩) rfl (Nat.le_of_ble_eq_true rfl) rfl rfl (Nat.le_of_ble_eq_true rfl) (c_job hA hw.1 hx (fun M1 N1 f1 n1 x1 => ?_))
  refine pw_pI ?_
  have s1 : M1 0 = xs := by rw [f1 0 (by omega)]; exact hs
  have y1 : modIs M1 N1 324 a := hy.same (fun x hx => f1 x (by omega)) (fun x hx => n1 x (by omega))
  refine pw_aload_n 192 rfl rfl rfl ?_
  refine pw_cV0 195 rfl rfl (by first | assumption | exact ⟨by decide, rfl⟩) rfl (Nat.le_of_ble_eq_true rfl) rfl rfl (Nat.le_of_ble_eq_true rfl) (m_job hB hw.1 y1 (fun M2 N2 f2 n2 y2 => ?_))
  refine pw_pI ?_
  have x2 := x1.frr f2 (by decide) (fun x hx => n2 x (by omega))
  skip
  refine pw_icmp_eq_t 1032 rfl rfl (rfl) ?_
  exact next M2 N2 _ ⟨by rw [f2 0 (by omega)]; exact s1, x2, y2, k_job hw⟩
set_option maxRecDepth 20000 in
theorem law_2 (hL : L ≤ 3072) (hi : i + 6 ≤ L) (hsc : sh[0]? = some (.inl (0, L, []))) (hA : isApp sh 1) (hB : isMod sh 324) (h : lI M N xs a) (next : ∀ M' N' a', lI M' N' xs a' → PW mL_law 1032 [.ref 0, .ref 1, .ref 324, .int (nI i)] [] sh M' N' Q) : PW mL_law 200 [.ref 0, .ref 1, .ref 324, .int (nI i)] [] sh M N Q := by
  obtain ⟨hs, hx, hy, hw⟩ := h
  have ho := ok_app hx
  have oA := hA.1
  have oB := hB.1
  refine pw_aload_n 201 rfl rfl rfl ?_
  refine pw_cV0 204 rfl rfl (by first | assumption | exact ⟨by decide, rfl⟩) rfl (Nat.le_of_ble_eq_true rfl) rfl rfl (Nat.le_of_ble_eq_true rfl) (c_rule hA hw.1 hx (fun M1 N1 f1 n1 x1 => ?_))
  refine pw_pI ?_
  have s1 : M1 0 = xs := by rw [f1 0 (by omega)]; exact hs
  have y1 : modIs M1 N1 324 a := hy.same (fun x hx => f1 x (by omega)) (fun x hx => n1 x (by omega))
  refine pw_aload_n 205 rfl rfl rfl ?_
  refine pw_cV0 208 rfl rfl (by first | assumption | exact ⟨by decide, rfl⟩) rfl (Nat.le_of_ble_eq_true rfl) rfl rfl (Nat.le_of_ble_eq_true rfl) (m_rule hB hw.1 ho y1 (fun M2 N2 f2 n2 y2 => ?_))
  refine pw_pI ?_
  have x2 := x1.frr f2 (by decide) (fun x hx => n2 x (by omega))
  skip
  refine pw_icmp_eq_t 1032 rfl rfl (rfl) ?_
  exact next M2 N2 _ ⟨by rw [f2 0 (by omega)]; exact s1, x2, y2, k_rule hw⟩
set_option maxRecDepth 20000 in
theorem law_3 (hL : L ≤ 3072) (hi : i + 6 ≤ L) (hsc : sh[0]? = some (.inl (0, L, []))) (hA : isApp sh 1) (hB : isMod sh 324) (h : lI M N xs a) (next : ∀ M' N' a', lI M' N' xs a' → PW mL_law 1032 [.ref 0, .ref 1, .ref 324, .int (nI i)] [] sh M' N' Q) : PW mL_law 213 [.ref 0, .ref 1, .ref 324, .int (nI i)] [] sh M N Q := by
  obtain ⟨hs, hx, hy, hw⟩ := h
  have ho := ok_app hx
  have oA := hA.1
  have oB := hB.1
  refine pw_aload_n 214 rfl rfl rfl ?_
  refine pw_aload_n 215 rfl rfl rfl ?_
  refine pw_iload_n 216 rfl rfl rfl ?_
  refine pw_iconst (v := nI 1) 217 rfl rfl (by decide) ?_
  first | refine pw_iaddN 218 rfl rfl (by with_reducible rfl) (by with_reducible rfl) ?_ | refine pw_iadd 218 rfl rfl ?_
  refine pw_sld _ 219 rfl rfl (by first | assumption | rfl) (by with_reducible rfl) (by first | assumption | omega) (by omega) ?_
  refine pw_aload_n 220 rfl rfl rfl ?_
  refine pw_iload_n 221 rfl rfl rfl ?_
  refine pw_iconst (v := nI 2) 222 rfl rfl (by decide) ?_
  first | refine pw_iaddN 223 rfl rfl (by with_reducible rfl) (by with_reducible rfl) ?_ | refine pw_iadd 223 rfl rfl ?_
  refine pw_sld _ 224 rfl rfl (by first | assumption | rfl) (by with_reducible rfl) (by first | assumption | omega) (by omega) ?_
  rw [hs]
  refine pw_cV2 227 rfl rfl (by first | assumption | exact ⟨by decide, rfl⟩) rfl (Nat.le_of_ble_eq_true rfl) rfl rfl (Nat.le_of_ble_eq_true rfl) (c_of hA hw.1 hx (fun M1 N1 f1 n1 x1 => ?_))
  refine pw_pI ?_
  have s1 : M1 0 = xs := by rw [f1 0 (by omega)]; exact hs
  have y1 : modIs M1 N1 324 a := hy.same (fun x hx => f1 x (by omega)) (fun x hx => n1 x (by omega))
  refine pw_aload_n 228 rfl rfl rfl ?_
  refine pw_aload_n 229 rfl rfl rfl ?_
  refine pw_iload_n 230 rfl rfl rfl ?_
  refine pw_iconst (v := nI 1) 231 rfl rfl (by decide) ?_
  first | refine pw_iaddN 232 rfl rfl (by with_reducible rfl) (by with_reducible rfl) ?_ | refine pw_iadd 232 rfl rfl ?_
  refine pw_sld _ 233 rfl rfl (by first | assumption | rfl) (by with_reducible rfl) (by first | assumption | omega) (by omega) ?_
  refine pw_aload_n 234 rfl rfl rfl ?_
  refine pw_iload_n 235 rfl rfl rfl ?_
  refine pw_iconst (v := nI 2) 236 rfl rfl (by decide) ?_
  first | refine pw_iaddN 237 rfl rfl (by with_reducible rfl) (by with_reducible rfl) ?_ | refine pw_iadd 237 rfl rfl ?_
  refine pw_sld _ 238 rfl rfl (by first | assumption | rfl) (by with_reducible rfl) (by first | assumption | omega) (by omega) ?_
  rw [s1]
  refine pw_cV2 241 rfl rfl (by first | assumption | exact ⟨by decide, rfl⟩) rfl (Nat.le_of_ble_eq_true rfl) rfl rfl (Nat.le_of_ble_eq_true rfl) (m_of hB hw.1 ho y1 (fun M2 N2 f2 n2 y2 => ?_))
  refine pw_pI ?_
  have x2 := x1.frr f2 (by decide) (fun x hx => n2 x (by omega))
  skip
  refine pw_icmp_eq_t 1032 rfl rfl (rfl) ?_
  exact next M2 N2 _ ⟨by rw [f2 0 (by omega)]; exact s1, x2, y2, hw⟩
set_option maxRecDepth 20000 in
theorem law_4 (hL : L ≤ 3072) (hi : i + 6 ≤ L) (hsc : sh[0]? = some (.inl (0, L, []))) (hA : isApp sh 1) (hB : isMod sh 324) (h : lI M N xs a) (next : ∀ M' N' a', lI M' N' xs a' → PW mL_law 1032 [.ref 0, .ref 1, .ref 324, .int (nI i)] [] sh M' N' Q) : PW mL_law 246 [.ref 0, .ref 1, .ref 324, .int (nI i)] [] sh M N Q := by
  obtain ⟨hs, hx, hy, hw⟩ := h
  have ho := ok_app hx
  have oA := hA.1
  have oB := hB.1
  refine pw_aload_n 247 rfl rfl rfl ?_
  refine pw_aload_n 248 rfl rfl rfl ?_
  refine pw_iload_n 249 rfl rfl rfl ?_
  refine pw_iconst (v := nI 1) 250 rfl rfl (by decide) ?_
  first | refine pw_iaddN 251 rfl rfl (by with_reducible rfl) (by with_reducible rfl) ?_ | refine pw_iadd 251 rfl rfl ?_
  refine pw_sld _ 252 rfl rfl (by first | assumption | rfl) (by with_reducible rfl) (by first | assumption | omega) (by omega) ?_
  refine pw_aload_n 253 rfl rfl rfl ?_
  refine pw_iload_n 254 rfl rfl rfl ?_
  refine pw_iconst (v := nI 2) 255 rfl rfl (by decide) ?_
  first | refine pw_iaddN 256 rfl rfl (by with_reducible rfl) (by with_reducible rfl) ?_ | refine pw_iadd 256 rfl rfl ?_
  refine pw_sld _ 257 rfl rfl (by first | assumption | rfl) (by with_reducible rfl) (by first | assumption | omega) (by omega) ?_
  refine pw_aload_n 258 rfl rfl rfl ?_
  refine pw_iload_n 259 rfl rfl rfl ?_
  refine pw_iconst (v := nI 3) 260 rfl rfl (by decide) ?_
  first | refine pw_iaddN 261 rfl rfl (by with_reducible rfl) (by with_reducible rfl) ?_ | refine pw_iadd 261 rfl rfl ?_
  refine pw_sld _ 262 rfl rfl (by first | assumption | rfl) (by with_reducible rfl) (by first | assumption | omega) (by omega) ?_
  rw [hs]
  refine pw_cV3 265 rfl rfl (by first | assumption | exact ⟨by decide, rfl⟩) rfl (Nat.le_of_ble_eq_true rfl) rfl rfl (Nat.le_of_ble_eq_true rfl) (c_spelt hA hw.1 hx (fun M1 N1 f1 n1 x1 => ?_))
  refine pw_pI ?_
  have s1 : M1 0 = xs := by rw [f1 0 (by omega)]; exact hs
  have y1 : modIs M1 N1 324 a := hy.same (fun x hx => f1 x (by omega)) (fun x hx => n1 x (by omega))
  refine pw_aload_n 266 rfl rfl rfl ?_
  refine pw_aload_n 267 rfl rfl rfl ?_
  refine pw_iload_n 268 rfl rfl rfl ?_
  refine pw_iconst (v := nI 1) 269 rfl rfl (by decide) ?_
  first | refine pw_iaddN 270 rfl rfl (by with_reducible rfl) (by with_reducible rfl) ?_ | refine pw_iadd 270 rfl rfl ?_
  refine pw_sld _ 271 rfl rfl (by first | assumption | rfl) (by with_reducible rfl) (by first | assumption | omega) (by omega) ?_
  refine pw_aload_n 272 rfl rfl rfl ?_
  refine pw_iload_n 273 rfl rfl rfl ?_
  refine pw_iconst (v := nI 2) 274 rfl rfl (by decide) ?_
  first | refine pw_iaddN 275 rfl rfl (by with_reducible rfl) (by with_reducible rfl) ?_ | refine pw_iadd 275 rfl rfl ?_
  refine pw_sld _ 276 rfl rfl (by first | assumption | rfl) (by with_reducible rfl) (by first | assumption | omega) (by omega) ?_
  refine pw_aload_n 277 rfl rfl rfl ?_
  refine pw_iload_n 278 rfl rfl rfl ?_
  refine pw_iconst (v := nI 3) 279 rfl rfl (by decide) ?_
  first | refine pw_iaddN 280 rfl rfl (by with_reducible rfl) (by with_reducible rfl) ?_ | refine pw_iadd 280 rfl rfl ?_
  refine pw_sld _ 281 rfl rfl (by first | assumption | rfl) (by with_reducible rfl) (by first | assumption | omega) (by omega) ?_
  rw [s1]
  refine pw_cV3 284 rfl rfl (by first | assumption | exact ⟨by decide, rfl⟩) rfl (Nat.le_of_ble_eq_true rfl) rfl rfl (Nat.le_of_ble_eq_true rfl) (m_spelt hB hw.1 ho y1 (fun M2 N2 f2 n2 y2 => ?_))
  refine pw_pI ?_
  have x2 := x1.frr f2 (by decide) (fun x hx => n2 x (by omega))
  skip
  refine pw_icmp_eq_t 1032 rfl rfl (rfl) ?_
  exact next M2 N2 _ ⟨by rw [f2 0 (by omega)]; exact s1, x2, y2, hw⟩
set_option maxRecDepth 20000 in
theorem law_5 (hL : L ≤ 3072) (hi : i + 6 ≤ L) (hsc : sh[0]? = some (.inl (0, L, []))) (hA : isApp sh 1) (hB : isMod sh 324) (h : lI M N xs a) (next : ∀ M' N' a', lI M' N' xs a' → PW mL_law 1032 [.ref 0, .ref 1, .ref 324, .int (nI i)] [] sh M' N' Q) : PW mL_law 289 [.ref 0, .ref 1, .ref 324, .int (nI i)] [] sh M N Q := by
  obtain ⟨hs, hx, hy, hw⟩ := h
  have ho := ok_app hx
  have oA := hA.1
  have oB := hB.1
  refine pw_aload_n 290 rfl rfl rfl ?_
  refine pw_aload_n 291 rfl rfl rfl ?_
  refine pw_iload_n 292 rfl rfl rfl ?_
  refine pw_iconst (v := nI 1) 293 rfl rfl (by decide) ?_
  first | refine pw_iaddN 294 rfl rfl (by with_reducible rfl) (by with_reducible rfl) ?_ | refine pw_iadd 294 rfl rfl ?_
  refine pw_sld _ 295 rfl rfl (by first | assumption | rfl) (by with_reducible rfl) (by first | assumption | omega) (by omega) ?_
  refine pw_aload_n 296 rfl rfl rfl ?_
  refine pw_iload_n 297 rfl rfl rfl ?_
  refine pw_iconst (v := nI 2) 298 rfl rfl (by decide) ?_
  first | refine pw_iaddN 299 rfl rfl (by with_reducible rfl) (by with_reducible rfl) ?_ | refine pw_iadd 299 rfl rfl ?_
  refine pw_sld _ 300 rfl rfl (by first | assumption | rfl) (by with_reducible rfl) (by first | assumption | omega) (by omega) ?_
  rw [hs]
  refine pw_cV2 303 rfl rfl (by first | assumption | exact ⟨by decide, rfl⟩) rfl (Nat.le_of_ble_eq_true rfl) rfl rfl (Nat.le_of_ble_eq_true rfl) (c_at hA hw.1 hx (fun M1 N1 f1 n1 x1 => ?_))
  refine pw_pI ?_
  have s1 : M1 0 = xs := by rw [f1 0 (by omega)]; exact hs
  have y1 : modIs M1 N1 324 a := hy.same (fun x hx => f1 x (by omega)) (fun x hx => n1 x (by omega))
  refine pw_aload_n 304 rfl rfl rfl ?_
  refine pw_aload_n 305 rfl rfl rfl ?_
  refine pw_iload_n 306 rfl rfl rfl ?_
  refine pw_iconst (v := nI 1) 307 rfl rfl (by decide) ?_
  first | refine pw_iaddN 308 rfl rfl (by with_reducible rfl) (by with_reducible rfl) ?_ | refine pw_iadd 308 rfl rfl ?_
  refine pw_sld _ 309 rfl rfl (by first | assumption | rfl) (by with_reducible rfl) (by first | assumption | omega) (by omega) ?_
  refine pw_aload_n 310 rfl rfl rfl ?_
  refine pw_iload_n 311 rfl rfl rfl ?_
  refine pw_iconst (v := nI 2) 312 rfl rfl (by decide) ?_
  first | refine pw_iaddN 313 rfl rfl (by with_reducible rfl) (by with_reducible rfl) ?_ | refine pw_iadd 313 rfl rfl ?_
  refine pw_sld _ 314 rfl rfl (by first | assumption | rfl) (by with_reducible rfl) (by first | assumption | omega) (by omega) ?_
  rw [s1]
  refine pw_cV2 317 rfl rfl (by first | assumption | exact ⟨by decide, rfl⟩) rfl (Nat.le_of_ble_eq_true rfl) rfl rfl (Nat.le_of_ble_eq_true rfl) (m_at hB hw.1 ho y1 (fun M2 N2 f2 n2 y2 => ?_))
  refine pw_pI ?_
  have x2 := x1.frr f2 (by decide) (fun x hx => n2 x (by omega))
  skip
  refine pw_icmp_eq_t 1032 rfl rfl (rfl) ?_
  exact next M2 N2 _ ⟨by rw [f2 0 (by omega)]; exact s1, x2, y2, hw⟩
set_option maxRecDepth 20000 in
theorem law_6 (hL : L ≤ 3072) (hi : i + 6 ≤ L) (hsc : sh[0]? = some (.inl (0, L, []))) (hA : isApp sh 1) (hB : isMod sh 324) (h : lI M N xs a) (next : ∀ M' N' a', lI M' N' xs a' → PW mL_law 1032 [.ref 0, .ref 1, .ref 324, .int (nI i)] [] sh M' N' Q) : PW mL_law 322 [.ref 0, .ref 1, .ref 324, .int (nI i)] [] sh M N Q := by
  obtain ⟨hs, hx, hy, hw⟩ := h
  have ho := ok_app hx
  have oA := hA.1
  have oB := hB.1
  refine pw_aload_n 323 rfl rfl rfl ?_
  refine pw_aload_n 324 rfl rfl rfl ?_
  refine pw_iload_n 325 rfl rfl rfl ?_
  refine pw_iconst (v := nI 1) 326 rfl rfl (by decide) ?_
  first | refine pw_iaddN 327 rfl rfl (by with_reducible rfl) (by with_reducible rfl) ?_ | refine pw_iadd 327 rfl rfl ?_
  refine pw_sld _ 328 rfl rfl (by first | assumption | rfl) (by with_reducible rfl) (by first | assumption | omega) (by omega) ?_
  rw [hs]
  refine pw_cV1 331 rfl rfl (by first | assumption | exact ⟨by decide, rfl⟩) rfl (Nat.le_of_ble_eq_true rfl) rfl rfl (Nat.le_of_ble_eq_true rfl) (c_count hA hw.1 hx (fun M1 N1 f1 n1 x1 => ?_))
  refine pw_pI ?_
  have s1 : M1 0 = xs := by rw [f1 0 (by omega)]; exact hs
  have y1 : modIs M1 N1 324 a := hy.same (fun x hx => f1 x (by omega)) (fun x hx => n1 x (by omega))
  refine pw_aload_n 332 rfl rfl rfl ?_
  refine pw_aload_n 333 rfl rfl rfl ?_
  refine pw_iload_n 334 rfl rfl rfl ?_
  refine pw_iconst (v := nI 1) 335 rfl rfl (by decide) ?_
  first | refine pw_iaddN 336 rfl rfl (by with_reducible rfl) (by with_reducible rfl) ?_ | refine pw_iadd 336 rfl rfl ?_
  refine pw_sld _ 337 rfl rfl (by first | assumption | rfl) (by with_reducible rfl) (by first | assumption | omega) (by omega) ?_
  rw [s1]
  refine pw_cV1 340 rfl rfl (by first | assumption | exact ⟨by decide, rfl⟩) rfl (Nat.le_of_ble_eq_true rfl) rfl rfl (Nat.le_of_ble_eq_true rfl) (m_count hB hw.1 ho y1 (fun M2 N2 f2 n2 y2 => ?_))
  refine pw_pI ?_
  have x2 := x1.frr f2 (by decide) (fun x hx => n2 x (by omega))
  skip
  refine pw_icmp_eq_t 1032 rfl rfl (rfl) ?_
  exact next M2 N2 _ ⟨by rw [f2 0 (by omega)]; exact s1, x2, y2, hw⟩
set_option maxRecDepth 20000 in
theorem law_7 (hL : L ≤ 3072) (hi : i + 6 ≤ L) (hsc : sh[0]? = some (.inl (0, L, []))) (hA : isApp sh 1) (hB : isMod sh 324) (h : lI M N xs a) (next : ∀ M' N' a', lI M' N' xs a' → PW mL_law 1032 [.ref 0, .ref 1, .ref 324, .int (nI i)] [] sh M' N' Q) : PW mL_law 345 [.ref 0, .ref 1, .ref 324, .int (nI i)] [] sh M N Q := by
  obtain ⟨hs, hx, hy, hw⟩ := h
  have ho := ok_app hx
  have oA := hA.1
  have oB := hB.1
  refine pw_aload_n 346 rfl rfl rfl ?_
  refine pw_aload_n 347 rfl rfl rfl ?_
  refine pw_iload_n 348 rfl rfl rfl ?_
  refine pw_iconst (v := nI 1) 349 rfl rfl (by decide) ?_
  first | refine pw_iaddN 350 rfl rfl (by with_reducible rfl) (by with_reducible rfl) ?_ | refine pw_iadd 350 rfl rfl ?_
  refine pw_sld _ 351 rfl rfl (by first | assumption | rfl) (by with_reducible rfl) (by first | assumption | omega) (by omega) ?_
  refine pw_aload_n 352 rfl rfl rfl ?_
  refine pw_iload_n 353 rfl rfl rfl ?_
  refine pw_iconst (v := nI 2) 354 rfl rfl (by decide) ?_
  first | refine pw_iaddN 355 rfl rfl (by with_reducible rfl) (by with_reducible rfl) ?_ | refine pw_iadd 355 rfl rfl ?_
  refine pw_sld _ 356 rfl rfl (by first | assumption | rfl) (by with_reducible rfl) (by first | assumption | omega) (by omega) ?_
  rw [hs]
  refine pw_cV2 359 rfl rfl (by first | assumption | exact ⟨by decide, rfl⟩) rfl (Nat.le_of_ble_eq_true rfl) rfl rfl (Nat.le_of_ble_eq_true rfl) (c_change hA hw.1 hx (fun M1 N1 f1 n1 x1 => ?_))
  refine pw_pI ?_
  have s1 : M1 0 = xs := by rw [f1 0 (by omega)]; exact hs
  have y1 : modIs M1 N1 324 a := hy.same (fun x hx => f1 x (by omega)) (fun x hx => n1 x (by omega))
  refine pw_aload_n 360 rfl rfl rfl ?_
  refine pw_aload_n 361 rfl rfl rfl ?_
  refine pw_iload_n 362 rfl rfl rfl ?_
  refine pw_iconst (v := nI 1) 363 rfl rfl (by decide) ?_
  first | refine pw_iaddN 364 rfl rfl (by with_reducible rfl) (by with_reducible rfl) ?_ | refine pw_iadd 364 rfl rfl ?_
  refine pw_sld _ 365 rfl rfl (by first | assumption | rfl) (by with_reducible rfl) (by first | assumption | omega) (by omega) ?_
  refine pw_aload_n 366 rfl rfl rfl ?_
  refine pw_iload_n 367 rfl rfl rfl ?_
  refine pw_iconst (v := nI 2) 368 rfl rfl (by decide) ?_
  first | refine pw_iaddN 369 rfl rfl (by with_reducible rfl) (by with_reducible rfl) ?_ | refine pw_iadd 369 rfl rfl ?_
  refine pw_sld _ 370 rfl rfl (by first | assumption | rfl) (by with_reducible rfl) (by first | assumption | omega) (by omega) ?_
  rw [s1]
  refine pw_cV2 373 rfl rfl (by first | assumption | exact ⟨by decide, rfl⟩) rfl (Nat.le_of_ble_eq_true rfl) rfl rfl (Nat.le_of_ble_eq_true rfl) (m_change hB hw.1 ho y1 (fun M2 N2 f2 n2 y2 => ?_))
  refine pw_pI ?_
  have x2 := x1.frr f2 (by decide) (fun x hx => n2 x (by omega))
  skip
  refine pw_icmp_eq_t 1032 rfl rfl (rfl) ?_
  exact next M2 N2 _ ⟨by rw [f2 0 (by omega)]; exact s1, x2, y2, k_change hw⟩
set_option maxRecDepth 20000 in
theorem law_8 (hL : L ≤ 3072) (hi : i + 6 ≤ L) (hsc : sh[0]? = some (.inl (0, L, []))) (hA : isApp sh 1) (hB : isMod sh 324) (h : lI M N xs a) (next : ∀ M' N' a', lI M' N' xs a' → PW mL_law 1032 [.ref 0, .ref 1, .ref 324, .int (nI i)] [] sh M' N' Q) : PW mL_law 378 [.ref 0, .ref 1, .ref 324, .int (nI i)] [] sh M N Q := by
  obtain ⟨hs, hx, hy, hw⟩ := h
  have ho := ok_app hx
  have oA := hA.1
  have oB := hB.1
  refine pw_aload_n 379 rfl rfl rfl ?_
  refine pw_aload_n 380 rfl rfl rfl ?_
  refine pw_iload_n 381 rfl rfl rfl ?_
  refine pw_iconst (v := nI 1) 382 rfl rfl (by decide) ?_
  first | refine pw_iaddN 383 rfl rfl (by with_reducible rfl) (by with_reducible rfl) ?_ | refine pw_iadd 383 rfl rfl ?_
  refine pw_sld _ 384 rfl rfl (by first | assumption | rfl) (by with_reducible rfl) (by first | assumption | omega) (by omega) ?_
  rw [hs]
  refine pw_cV1 387 rfl rfl (by first | assumption | exact ⟨by decide, rfl⟩) rfl (Nat.le_of_ble_eq_true rfl) rfl rfl (Nat.le_of_ble_eq_true rfl) (c_turn hA hw.1 hx (fun M1 N1 f1 n1 x1 => ?_))
  refine pw_pI ?_
  have s1 : M1 0 = xs := by rw [f1 0 (by omega)]; exact hs
  have y1 : modIs M1 N1 324 a := hy.same (fun x hx => f1 x (by omega)) (fun x hx => n1 x (by omega))
  refine pw_aload_n 388 rfl rfl rfl ?_
  refine pw_aload_n 389 rfl rfl rfl ?_
  refine pw_iload_n 390 rfl rfl rfl ?_
  refine pw_iconst (v := nI 1) 391 rfl rfl (by decide) ?_
  first | refine pw_iaddN 392 rfl rfl (by with_reducible rfl) (by with_reducible rfl) ?_ | refine pw_iadd 392 rfl rfl ?_
  refine pw_sld _ 393 rfl rfl (by first | assumption | rfl) (by with_reducible rfl) (by first | assumption | omega) (by omega) ?_
  rw [s1]
  refine pw_cV1 396 rfl rfl (by first | assumption | exact ⟨by decide, rfl⟩) rfl (Nat.le_of_ble_eq_true rfl) rfl rfl (Nat.le_of_ble_eq_true rfl) (m_turn hB hw.1 ho y1 (fun M2 N2 f2 n2 y2 => ?_))
  refine pw_pI ?_
  have x2 := x1.frr f2 (by decide) (fun x hx => n2 x (by omega))
  skip
  refine pw_icmp_eq_t 1032 rfl rfl (rfl) ?_
  exact next M2 N2 _ ⟨by rw [f2 0 (by omega)]; exact s1, x2, y2, k_turn hw⟩
set_option maxRecDepth 20000 in
theorem law_9 (hL : L ≤ 3072) (hi : i + 6 ≤ L) (hsc : sh[0]? = some (.inl (0, L, []))) (hA : isApp sh 1) (hB : isMod sh 324) (h : lI M N xs a) (next : ∀ M' N' a', lI M' N' xs a' → PW mL_law 1032 [.ref 0, .ref 1, .ref 324, .int (nI i)] [] sh M' N' Q) : PW mL_law 401 [.ref 0, .ref 1, .ref 324, .int (nI i)] [] sh M N Q := by
  obtain ⟨hs, hx, hy, hw⟩ := h
  have ho := ok_app hx
  have oA := hA.1
  have oB := hB.1
  refine pw_aload_n 402 rfl rfl rfl ?_
  refine pw_aload_n 403 rfl rfl rfl ?_
  refine pw_iload_n 404 rfl rfl rfl ?_
  refine pw_iconst (v := nI 1) 405 rfl rfl (by decide) ?_
  first | refine pw_iaddN 406 rfl rfl (by with_reducible rfl) (by with_reducible rfl) ?_ | refine pw_iadd 406 rfl rfl ?_
  refine pw_sld _ 407 rfl rfl (by first | assumption | rfl) (by with_reducible rfl) (by first | assumption | omega) (by omega) ?_
  rw [hs]
  refine pw_cV1 410 rfl rfl (by first | assumption | exact ⟨by decide, rfl⟩) rfl (Nat.le_of_ble_eq_true rfl) rfl rfl (Nat.le_of_ble_eq_true rfl) (c_pass hA hw.1 hx (fun M1 N1 f1 n1 x1 => ?_))
  refine pw_pI ?_
  have s1 : M1 0 = xs := by rw [f1 0 (by omega)]; exact hs
  have y1 : modIs M1 N1 324 a := hy.same (fun x hx => f1 x (by omega)) (fun x hx => n1 x (by omega))
  refine pw_aload_n 411 rfl rfl rfl ?_
  refine pw_aload_n 412 rfl rfl rfl ?_
  refine pw_iload_n 413 rfl rfl rfl ?_
  refine pw_iconst (v := nI 1) 414 rfl rfl (by decide) ?_
  first | refine pw_iaddN 415 rfl rfl (by with_reducible rfl) (by with_reducible rfl) ?_ | refine pw_iadd 415 rfl rfl ?_
  refine pw_sld _ 416 rfl rfl (by first | assumption | rfl) (by with_reducible rfl) (by first | assumption | omega) (by omega) ?_
  rw [s1]
  refine pw_cV1 419 rfl rfl (by first | assumption | exact ⟨by decide, rfl⟩) rfl (Nat.le_of_ble_eq_true rfl) rfl rfl (Nat.le_of_ble_eq_true rfl) (m_pass hB hw.1 ho y1 (fun M2 N2 f2 n2 y2 => ?_))
  refine pw_pI ?_
  have x2 := x1.frr f2 (by decide) (fun x hx => n2 x (by omega))
  skip
  refine pw_icmp_eq_t 1032 rfl rfl (rfl) ?_
  exact next M2 N2 _ ⟨by rw [f2 0 (by omega)]; exact s1, x2, y2, k_pass hw⟩
set_option maxRecDepth 20000 in
theorem law_10 (hL : L ≤ 3072) (hi : i + 6 ≤ L) (hsc : sh[0]? = some (.inl (0, L, []))) (hA : isApp sh 1) (hB : isMod sh 324) (h : lI M N xs a) (next : ∀ M' N' a', lI M' N' xs a' → PW mL_law 1032 [.ref 0, .ref 1, .ref 324, .int (nI i)] [] sh M' N' Q) : PW mL_law 424 [.ref 0, .ref 1, .ref 324, .int (nI i)] [] sh M N Q := by
  obtain ⟨hs, hx, hy, hw⟩ := h
  have ho := ok_app hx
  have oA := hA.1
  have oB := hB.1
  refine pw_aload_n 425 rfl rfl rfl ?_
  refine pw_aload_n 426 rfl rfl rfl ?_
  refine pw_iload_n 427 rfl rfl rfl ?_
  refine pw_iconst (v := nI 1) 428 rfl rfl (by decide) ?_
  first | refine pw_iaddN 429 rfl rfl (by with_reducible rfl) (by with_reducible rfl) ?_ | refine pw_iadd 429 rfl rfl ?_
  refine pw_sld _ 430 rfl rfl (by first | assumption | rfl) (by with_reducible rfl) (by first | assumption | omega) (by omega) ?_
  rw [hs]
  refine pw_cV1 433 rfl rfl (by first | assumption | exact ⟨by decide, rfl⟩) rfl (Nat.le_of_ble_eq_true rfl) rfl rfl (Nat.le_of_ble_eq_true rfl) (c_pile hA hw.1 hx (fun M1 N1 f1 n1 x1 => ?_))
  refine pw_pI ?_
  have s1 : M1 0 = xs := by rw [f1 0 (by omega)]; exact hs
  have y1 : modIs M1 N1 324 a := hy.same (fun x hx => f1 x (by omega)) (fun x hx => n1 x (by omega))
  refine pw_aload_n 434 rfl rfl rfl ?_
  refine pw_aload_n 435 rfl rfl rfl ?_
  refine pw_iload_n 436 rfl rfl rfl ?_
  refine pw_iconst (v := nI 1) 437 rfl rfl (by decide) ?_
  first | refine pw_iaddN 438 rfl rfl (by with_reducible rfl) (by with_reducible rfl) ?_ | refine pw_iadd 438 rfl rfl ?_
  refine pw_sld _ 439 rfl rfl (by first | assumption | rfl) (by with_reducible rfl) (by first | assumption | omega) (by omega) ?_
  rw [s1]
  refine pw_cV1 442 rfl rfl (by first | assumption | exact ⟨by decide, rfl⟩) rfl (Nat.le_of_ble_eq_true rfl) rfl rfl (Nat.le_of_ble_eq_true rfl) (m_pile hB hw.1 ho y1 (fun M2 N2 f2 n2 y2 => ?_))
  refine pw_pI ?_
  have x2 := x1.frr f2 (by decide) (fun x hx => n2 x (by omega))
  skip
  refine pw_icmp_eq_t 1032 rfl rfl (rfl) ?_
  exact next M2 N2 _ ⟨by rw [f2 0 (by omega)]; exact s1, x2, y2, k_pile hw⟩
set_option maxRecDepth 20000 in
theorem law_11 (hL : L ≤ 3072) (hi : i + 6 ≤ L) (hsc : sh[0]? = some (.inl (0, L, []))) (hA : isApp sh 1) (hB : isMod sh 324) (h : lI M N xs a) (next : ∀ M' N' a', lI M' N' xs a' → PW mL_law 1032 [.ref 0, .ref 1, .ref 324, .int (nI i)] [] sh M' N' Q) : PW mL_law 447 [.ref 0, .ref 1, .ref 324, .int (nI i)] [] sh M N Q := by
  obtain ⟨hs, hx, hy, hw⟩ := h
  have ho := ok_app hx
  have oA := hA.1
  have oB := hB.1
  refine pw_aload_n 448 rfl rfl rfl ?_
  refine pw_aload_n 449 rfl rfl rfl ?_
  refine pw_iload_n 450 rfl rfl rfl ?_
  refine pw_iconst (v := nI 1) 451 rfl rfl (by decide) ?_
  first | refine pw_iaddN 452 rfl rfl (by with_reducible rfl) (by with_reducible rfl) ?_ | refine pw_iadd 452 rfl rfl ?_
  refine pw_sld _ 453 rfl rfl (by first | assumption | rfl) (by with_reducible rfl) (by first | assumption | omega) (by omega) ?_
  rw [hs]
  refine pw_cV1 456 rfl rfl (by first | assumption | exact ⟨by decide, rfl⟩) rfl (Nat.le_of_ble_eq_true rfl) rfl rfl (Nat.le_of_ble_eq_true rfl) (c_put hA hw.1 hx (fun M1 N1 f1 n1 x1 => ?_))
  refine pw_pI ?_
  have s1 : M1 0 = xs := by rw [f1 0 (by omega)]; exact hs
  have y1 : modIs M1 N1 324 a := hy.same (fun x hx => f1 x (by omega)) (fun x hx => n1 x (by omega))
  refine pw_aload_n 457 rfl rfl rfl ?_
  refine pw_aload_n 458 rfl rfl rfl ?_
  refine pw_iload_n 459 rfl rfl rfl ?_
  refine pw_iconst (v := nI 1) 460 rfl rfl (by decide) ?_
  first | refine pw_iaddN 461 rfl rfl (by with_reducible rfl) (by with_reducible rfl) ?_ | refine pw_iadd 461 rfl rfl ?_
  refine pw_sld _ 462 rfl rfl (by first | assumption | rfl) (by with_reducible rfl) (by first | assumption | omega) (by omega) ?_
  rw [s1]
  refine pw_cV1 465 rfl rfl (by first | assumption | exact ⟨by decide, rfl⟩) rfl (Nat.le_of_ble_eq_true rfl) rfl rfl (Nat.le_of_ble_eq_true rfl) (m_put hB hw.1 ho hw.2 y1 (fun M2 N2 f2 n2 y2 => ?_))
  refine pw_pI ?_
  have x2 := x1.frr f2 (by decide) (fun x hx => n2 x (by omega))
  skip
  refine pw_icmp_eq_t 1032 rfl rfl (rfl) ?_
  exact next M2 N2 _ ⟨by rw [f2 0 (by omega)]; exact s1, x2, y2, k_put ho hw⟩
set_option maxRecDepth 20000 in
theorem law_12 (hL : L ≤ 3072) (hi : i + 6 ≤ L) (hsc : sh[0]? = some (.inl (0, L, []))) (hA : isApp sh 1) (hB : isMod sh 324) (h : lI M N xs a) (next : ∀ M' N' a', lI M' N' xs a' → PW mL_law 1032 [.ref 0, .ref 1, .ref 324, .int (nI i)] [] sh M' N' Q) : PW mL_law 470 [.ref 0, .ref 1, .ref 324, .int (nI i)] [] sh M N Q := by
  obtain ⟨hs, hx, hy, hw⟩ := h
  have ho := ok_app hx
  have oA := hA.1
  have oB := hB.1
  refine pw_aload_n 471 rfl rfl rfl ?_
  refine pw_cV0 474 rfl rfl (by first | assumption | exact ⟨by decide, rfl⟩) rfl (Nat.le_of_ble_eq_true rfl) rfl rfl (Nat.le_of_ble_eq_true rfl) (c_passPile hA hw.1 hx (fun M1 N1 f1 n1 x1 => ?_))
  refine pw_pI ?_
  have s1 : M1 0 = xs := by rw [f1 0 (by omega)]; exact hs
  have y1 : modIs M1 N1 324 a := hy.same (fun x hx => f1 x (by omega)) (fun x hx => n1 x (by omega))
  refine pw_aload_n 475 rfl rfl rfl ?_
  refine pw_cV0 478 rfl rfl (by first | assumption | exact ⟨by decide, rfl⟩) rfl (Nat.le_of_ble_eq_true rfl) rfl rfl (Nat.le_of_ble_eq_true rfl) (m_passPile hB hw.1 ho y1 (fun M2 N2 f2 n2 y2 => ?_))
  refine pw_pI ?_
  have x2 := x1.frr f2 (by decide) (fun x hx => n2 x (by omega))
  skip
  refine pw_icmp_eq_t 1032 rfl rfl (rfl) ?_
  exact next M2 N2 _ ⟨by rw [f2 0 (by omega)]; exact s1, x2, y2, k_passPile hw⟩
set_option maxRecDepth 20000 in
theorem law_13 (hL : L ≤ 3072) (hi : i + 6 ≤ L) (hsc : sh[0]? = some (.inl (0, L, []))) (hA : isApp sh 1) (hB : isMod sh 324) (h : lI M N xs a) (next : ∀ M' N' a', lI M' N' xs a' → PW mL_law 1032 [.ref 0, .ref 1, .ref 324, .int (nI i)] [] sh M' N' Q) : PW mL_law 483 [.ref 0, .ref 1, .ref 324, .int (nI i)] [] sh M N Q := by
  obtain ⟨hs, hx, hy, hw⟩ := h
  have ho := ok_app hx
  have oA := hA.1
  have oB := hB.1
  refine pw_aload_n 484 rfl rfl rfl ?_
  refine pw_cV0 487 rfl rfl (by first | assumption | exact ⟨by decide, rfl⟩) rfl (Nat.le_of_ble_eq_true rfl) rfl rfl (Nat.le_of_ble_eq_true rfl) (c_undo hA hw.1 hx (fun M1 N1 f1 n1 x1 => ?_))
  refine pw_pI ?_
  have s1 : M1 0 = xs := by rw [f1 0 (by omega)]; exact hs
  have y1 : modIs M1 N1 324 a := hy.same (fun x hx => f1 x (by omega)) (fun x hx => n1 x (by omega))
  refine pw_aload_n 488 rfl rfl rfl ?_
  refine pw_cV0 491 rfl rfl (by first | assumption | exact ⟨by decide, rfl⟩) rfl (Nat.le_of_ble_eq_true rfl) rfl rfl (Nat.le_of_ble_eq_true rfl) (m_undo hB hw.1 ho y1 (fun M2 N2 f2 n2 y2 => ?_))
  refine pw_pI ?_
  have x2 := x1.frr f2 (by decide) (fun x hx => n2 x (by omega))
  skip
  refine pw_icmp_eq_t 1032 rfl rfl (rfl) ?_
  exact next M2 N2 _ ⟨by rw [f2 0 (by omega)]; exact s1, x2, y2, k_undo hw⟩
set_option maxRecDepth 20000 in
theorem law_14 (hL : L ≤ 3072) (hi : i + 6 ≤ L) (hsc : sh[0]? = some (.inl (0, L, []))) (hA : isApp sh 1) (hB : isMod sh 324) (h : lI M N xs a) (next : ∀ M' N' a', lI M' N' xs a' → PW mL_law 1032 [.ref 0, .ref 1, .ref 324, .int (nI i)] [] sh M' N' Q) : PW mL_law 496 [.ref 0, .ref 1, .ref 324, .int (nI i)] [] sh M N Q := by
  obtain ⟨hs, hx, hy, hw⟩ := h
  have ho := ok_app hx
  have oA := hA.1
  have oB := hB.1
  refine pw_aload_n 497 rfl rfl rfl ?_
  refine pw_aload_n 498 rfl rfl rfl ?_
  refine pw_iload_n 499 rfl rfl rfl ?_
  refine pw_iconst (v := nI 1) 500 rfl rfl (by decide) ?_
  first | refine pw_iaddN 501 rfl rfl (by with_reducible rfl) (by with_reducible rfl) ?_ | refine pw_iadd 501 rfl rfl ?_
  refine pw_sld _ 502 rfl rfl (by first | assumption | rfl) (by with_reducible rfl) (by first | assumption | omega) (by omega) ?_
  refine pw_aload_n 503 rfl rfl rfl ?_
  refine pw_iload_n 504 rfl rfl rfl ?_
  refine pw_iconst (v := nI 2) 505 rfl rfl (by decide) ?_
  first | refine pw_iaddN 506 rfl rfl (by with_reducible rfl) (by with_reducible rfl) ?_ | refine pw_iadd 506 rfl rfl ?_
  refine pw_sld _ 507 rfl rfl (by first | assumption | rfl) (by with_reducible rfl) (by first | assumption | omega) (by omega) ?_
  rw [hs]
  refine pw_cV2 510 rfl rfl (by first | assumption | exact ⟨by decide, rfl⟩) rfl (Nat.le_of_ble_eq_true rfl) rfl rfl (Nat.le_of_ble_eq_true rfl) (c_comes hA hw.1 hx (fun M1 N1 f1 n1 x1 => ?_))
  refine pw_pI ?_
  have s1 : M1 0 = xs := by rw [f1 0 (by omega)]; exact hs
  have y1 : modIs M1 N1 324 a := hy.same (fun x hx => f1 x (by omega)) (fun x hx => n1 x (by omega))
  refine pw_aload_n 511 rfl rfl rfl ?_
  refine pw_aload_n 512 rfl rfl rfl ?_
  refine pw_iload_n 513 rfl rfl rfl ?_
  refine pw_iconst (v := nI 1) 514 rfl rfl (by decide) ?_
  first | refine pw_iaddN 515 rfl rfl (by with_reducible rfl) (by with_reducible rfl) ?_ | refine pw_iadd 515 rfl rfl ?_
  refine pw_sld _ 516 rfl rfl (by first | assumption | rfl) (by with_reducible rfl) (by first | assumption | omega) (by omega) ?_
  refine pw_aload_n 517 rfl rfl rfl ?_
  refine pw_iload_n 518 rfl rfl rfl ?_
  refine pw_iconst (v := nI 2) 519 rfl rfl (by decide) ?_
  first | refine pw_iaddN 520 rfl rfl (by with_reducible rfl) (by with_reducible rfl) ?_ | refine pw_iadd 520 rfl rfl ?_
  refine pw_sld _ 521 rfl rfl (by first | assumption | rfl) (by with_reducible rfl) (by first | assumption | omega) (by omega) ?_
  rw [s1]
  refine pw_cV2 524 rfl rfl (by first | assumption | exact ⟨by decide, rfl⟩) rfl (Nat.le_of_ble_eq_true rfl) rfl rfl (Nat.le_of_ble_eq_true rfl) (m_comes hB hw.1 ho y1 (fun M2 N2 f2 n2 y2 => ?_))
  refine pw_pI ?_
  have x2 := x1.frr f2 (by decide) (fun x hx => n2 x (by omega))
  skip
  refine pw_icmp_eq_t 1032 rfl rfl (rfl) ?_
  exact next M2 N2 _ ⟨by rw [f2 0 (by omega)]; exact s1, x2, y2, hw⟩
set_option maxRecDepth 20000 in
theorem law_15 (hL : L ≤ 3072) (hi : i + 6 ≤ L) (hsc : sh[0]? = some (.inl (0, L, []))) (hA : isApp sh 1) (hB : isMod sh 324) (h : lI M N xs a) (next : ∀ M' N' a', lI M' N' xs a' → PW mL_law 1032 [.ref 0, .ref 1, .ref 324, .int (nI i)] [] sh M' N' Q) : PW mL_law 529 [.ref 0, .ref 1, .ref 324, .int (nI i)] [] sh M N Q := by
  obtain ⟨hs, hx, hy, hw⟩ := h
  have ho := ok_app hx
  have oA := hA.1
  have oB := hB.1
  refine pw_aload_n 530 rfl rfl rfl ?_
  refine pw_aload_n 531 rfl rfl rfl ?_
  refine pw_iload_n 532 rfl rfl rfl ?_
  refine pw_iconst (v := nI 1) 533 rfl rfl (by decide) ?_
  first | refine pw_iaddN 534 rfl rfl (by with_reducible rfl) (by with_reducible rfl) ?_ | refine pw_iadd 534 rfl rfl ?_
  refine pw_sld _ 535 rfl rfl (by first | assumption | rfl) (by with_reducible rfl) (by first | assumption | omega) (by omega) ?_
  rw [hs]
  refine pw_cV1 538 rfl rfl (by first | assumption | exact ⟨by decide, rfl⟩) rfl (Nat.le_of_ble_eq_true rfl) rfl rfl (Nat.le_of_ble_eq_true rfl) (c_used hA hw.1 hx (fun M1 N1 f1 n1 x1 => ?_))
  refine pw_pI ?_
  have s1 : M1 0 = xs := by rw [f1 0 (by omega)]; exact hs
  have y1 : modIs M1 N1 324 a := hy.same (fun x hx => f1 x (by omega)) (fun x hx => n1 x (by omega))
  refine pw_aload_n 539 rfl rfl rfl ?_
  refine pw_aload_n 540 rfl rfl rfl ?_
  refine pw_iload_n 541 rfl rfl rfl ?_
  refine pw_iconst (v := nI 1) 542 rfl rfl (by decide) ?_
  first | refine pw_iaddN 543 rfl rfl (by with_reducible rfl) (by with_reducible rfl) ?_ | refine pw_iadd 543 rfl rfl ?_
  refine pw_sld _ 544 rfl rfl (by first | assumption | rfl) (by with_reducible rfl) (by first | assumption | omega) (by omega) ?_
  rw [s1]
  refine pw_cV1 547 rfl rfl (by first | assumption | exact ⟨by decide, rfl⟩) rfl (Nat.le_of_ble_eq_true rfl) rfl rfl (Nat.le_of_ble_eq_true rfl) (m_used hB hw.1 ho y1 (fun M2 N2 f2 n2 y2 => ?_))
  refine pw_pI ?_
  have x2 := x1.frr f2 (by decide) (fun x hx => n2 x (by omega))
  skip
  refine pw_icmp_eq_t 1032 rfl rfl (rfl) ?_
  exact next M2 N2 _ ⟨by rw [f2 0 (by omega)]; exact s1, x2, y2, hw⟩
set_option maxRecDepth 20000 in
theorem law_16 (hL : L ≤ 3072) (hi : i + 6 ≤ L) (hsc : sh[0]? = some (.inl (0, L, []))) (hA : isApp sh 1) (hB : isMod sh 324) (h : lI M N xs a) (next : ∀ M' N' a', lI M' N' xs a' → PW mL_law 1032 [.ref 0, .ref 1, .ref 324, .int (nI i)] [] sh M' N' Q) : PW mL_law 552 [.ref 0, .ref 1, .ref 324, .int (nI i)] [] sh M N Q := by
  obtain ⟨hs, hx, hy, hw⟩ := h
  have ho := ok_app hx
  have oA := hA.1
  have oB := hB.1
  refine pw_aload_n 553 rfl rfl rfl ?_
  refine pw_aload_n 554 rfl rfl rfl ?_
  refine pw_iload_n 555 rfl rfl rfl ?_
  refine pw_iconst (v := nI 1) 556 rfl rfl (by decide) ?_
  first | refine pw_iaddN 557 rfl rfl (by with_reducible rfl) (by with_reducible rfl) ?_ | refine pw_iadd 557 rfl rfl ?_
  refine pw_sld _ 558 rfl rfl (by first | assumption | rfl) (by with_reducible rfl) (by first | assumption | omega) (by omega) ?_
  rw [hs]
  refine pw_cV1 561 rfl rfl (by first | assumption | exact ⟨by decide, rfl⟩) rfl (Nat.le_of_ble_eq_true rfl) rfl rfl (Nat.le_of_ble_eq_true rfl) (c_went hA hw.1 hx (fun M1 N1 f1 n1 x1 => ?_))
  refine pw_pI ?_
  have s1 : M1 0 = xs := by rw [f1 0 (by omega)]; exact hs
  have y1 : modIs M1 N1 324 a := hy.same (fun x hx => f1 x (by omega)) (fun x hx => n1 x (by omega))
  refine pw_aload_n 562 rfl rfl rfl ?_
  refine pw_aload_n 563 rfl rfl rfl ?_
  refine pw_iload_n 564 rfl rfl rfl ?_
  refine pw_iconst (v := nI 1) 565 rfl rfl (by decide) ?_
  first | refine pw_iaddN 566 rfl rfl (by with_reducible rfl) (by with_reducible rfl) ?_ | refine pw_iadd 566 rfl rfl ?_
  refine pw_sld _ 567 rfl rfl (by first | assumption | rfl) (by with_reducible rfl) (by first | assumption | omega) (by omega) ?_
  rw [s1]
  refine pw_cV1 570 rfl rfl (by first | assumption | exact ⟨by decide, rfl⟩) rfl (Nat.le_of_ble_eq_true rfl) rfl rfl (Nat.le_of_ble_eq_true rfl) (m_went hB hw.1 ho y1 (fun M2 N2 f2 n2 y2 => ?_))
  refine pw_pI ?_
  have x2 := x1.frr f2 (by decide) (fun x hx => n2 x (by omega))
  skip
  refine pw_icmp_eq_t 1032 rfl rfl (rfl) ?_
  exact next M2 N2 _ ⟨by rw [f2 0 (by omega)]; exact s1, x2, y2, hw⟩
set_option maxRecDepth 20000 in
theorem law_17 (hL : L ≤ 3072) (hi : i + 6 ≤ L) (hsc : sh[0]? = some (.inl (0, L, []))) (hA : isApp sh 1) (hB : isMod sh 324) (h : lI M N xs a) (next : ∀ M' N' a', lI M' N' xs a' → PW mL_law 1032 [.ref 0, .ref 1, .ref 324, .int (nI i)] [] sh M' N' Q) : PW mL_law 575 [.ref 0, .ref 1, .ref 324, .int (nI i)] [] sh M N Q := by
  obtain ⟨hs, hx, hy, hw⟩ := h
  have ho := ok_app hx
  have oA := hA.1
  have oB := hB.1
  refine pw_aload_n 576 rfl rfl rfl ?_
  refine pw_cV0 579 rfl rfl (by first | assumption | exact ⟨by decide, rfl⟩) rfl (Nat.le_of_ble_eq_true rfl) rfl rfl (Nat.le_of_ble_eq_true rfl) (c_rest hA hw.1 hx (fun M1 N1 f1 n1 x1 => ?_))
  refine pw_pI ?_
  have s1 : M1 0 = xs := by rw [f1 0 (by omega)]; exact hs
  have y1 : modIs M1 N1 324 a := hy.same (fun x hx => f1 x (by omega)) (fun x hx => n1 x (by omega))
  refine pw_aload_n 580 rfl rfl rfl ?_
  refine pw_cV0 583 rfl rfl (by first | assumption | exact ⟨by decide, rfl⟩) rfl (Nat.le_of_ble_eq_true rfl) rfl rfl (Nat.le_of_ble_eq_true rfl) (m_rest hB hw.1 ho y1 (fun M2 N2 f2 n2 y2 => ?_))
  refine pw_pI ?_
  have x2 := x1.frr f2 (by decide) (fun x hx => n2 x (by omega))
  skip
  refine pw_icmp_eq_t 1032 rfl rfl (rfl) ?_
  exact next M2 N2 _ ⟨by rw [f2 0 (by omega)]; exact s1, x2, y2, hw⟩
set_option maxRecDepth 20000 in
theorem law_18 (hL : L ≤ 3072) (hi : i + 6 ≤ L) (hsc : sh[0]? = some (.inl (0, L, []))) (hA : isApp sh 1) (hB : isMod sh 324) (h : lI M N xs a) (next : ∀ M' N' a', lI M' N' xs a' → PW mL_law 1032 [.ref 0, .ref 1, .ref 324, .int (nI i)] [] sh M' N' Q) : PW mL_law 588 [.ref 0, .ref 1, .ref 324, .int (nI i)] [] sh M N Q := by
  obtain ⟨hs, hx, hy, hw⟩ := h
  have ho := ok_app hx
  have oA := hA.1
  have oB := hB.1
  refine pw_aload_n 589 rfl rfl rfl ?_
  refine pw_aload_n 590 rfl rfl rfl ?_
  refine pw_iload_n 591 rfl rfl rfl ?_
  refine pw_iconst (v := nI 1) 592 rfl rfl (by decide) ?_
  first | refine pw_iaddN 593 rfl rfl (by with_reducible rfl) (by with_reducible rfl) ?_ | refine pw_iadd 593 rfl rfl ?_
  refine pw_sld _ 594 rfl rfl (by first | assumption | rfl) (by with_reducible rfl) (by first | assumption | omega) (by omega) ?_
  rw [hs]
  refine pw_cV1 597 rfl rfl (by first | assumption | exact ⟨by decide, rfl⟩) rfl (Nat.le_of_ble_eq_true rfl) rfl rfl (Nat.le_of_ble_eq_true rfl) (c_sure hA hw.1 hx (fun M1 N1 f1 n1 x1 => ?_))
  refine pw_pI ?_
  have s1 : M1 0 = xs := by rw [f1 0 (by omega)]; exact hs
  have y1 : modIs M1 N1 324 a := hy.same (fun x hx => f1 x (by omega)) (fun x hx => n1 x (by omega))
  refine pw_aload_n 598 rfl rfl rfl ?_
  refine pw_aload_n 599 rfl rfl rfl ?_
  refine pw_iload_n 600 rfl rfl rfl ?_
  refine pw_iconst (v := nI 1) 601 rfl rfl (by decide) ?_
  first | refine pw_iaddN 602 rfl rfl (by with_reducible rfl) (by with_reducible rfl) ?_ | refine pw_iadd 602 rfl rfl ?_
  refine pw_sld _ 603 rfl rfl (by first | assumption | rfl) (by with_reducible rfl) (by first | assumption | omega) (by omega) ?_
  rw [s1]
  refine pw_cV1 606 rfl rfl (by first | assumption | exact ⟨by decide, rfl⟩) rfl (Nat.le_of_ble_eq_true rfl) rfl rfl (Nat.le_of_ble_eq_true rfl) (m_sure hB hw.1 ho y1 (fun M2 N2 f2 n2 y2 => ?_))
  refine pw_pI ?_
  have x2 := x1.frr f2 (by decide) (fun x hx => n2 x (by omega))
  skip
  refine pw_icmp_eq_t 1032 rfl rfl (rfl) ?_
  exact next M2 N2 _ ⟨by rw [f2 0 (by omega)]; exact s1, x2, y2, hw⟩
set_option maxRecDepth 20000 in
theorem law_19 (hL : L ≤ 3072) (hi : i + 6 ≤ L) (hsc : sh[0]? = some (.inl (0, L, []))) (hA : isApp sh 1) (hB : isMod sh 324) (h : lI M N xs a) (next : ∀ M' N' a', lI M' N' xs a' → PW mL_law 1032 [.ref 0, .ref 1, .ref 324, .int (nI i)] [] sh M' N' Q) : PW mL_law 611 [.ref 0, .ref 1, .ref 324, .int (nI i)] [] sh M N Q := by
  obtain ⟨hs, hx, hy, hw⟩ := h
  have ho := ok_app hx
  have oA := hA.1
  have oB := hB.1
  refine pw_aload_n 612 rfl rfl rfl ?_
  refine pw_aload_n 613 rfl rfl rfl ?_
  refine pw_iload_n 614 rfl rfl rfl ?_
  refine pw_iconst (v := nI 1) 615 rfl rfl (by decide) ?_
  first | refine pw_iaddN 616 rfl rfl (by with_reducible rfl) (by with_reducible rfl) ?_ | refine pw_iadd 616 rfl rfl ?_
  refine pw_sld _ 617 rfl rfl (by first | assumption | rfl) (by with_reducible rfl) (by first | assumption | omega) (by omega) ?_
  rw [hs]
  refine pw_cV1 620 rfl rfl (by first | assumption | exact ⟨by decide, rfl⟩) rfl (Nat.le_of_ble_eq_true rfl) rfl rfl (Nat.le_of_ble_eq_true rfl) (c_lean hA hw.1 hx (fun M1 N1 f1 n1 x1 => ?_))
  refine pw_pI ?_
  have s1 : M1 0 = xs := by rw [f1 0 (by omega)]; exact hs
  have y1 : modIs M1 N1 324 a := hy.same (fun x hx => f1 x (by omega)) (fun x hx => n1 x (by omega))
  refine pw_aload_n 621 rfl rfl rfl ?_
  refine pw_aload_n 622 rfl rfl rfl ?_
  refine pw_iload_n 623 rfl rfl rfl ?_
  refine pw_iconst (v := nI 1) 624 rfl rfl (by decide) ?_
  first | refine pw_iaddN 625 rfl rfl (by with_reducible rfl) (by with_reducible rfl) ?_ | refine pw_iadd 625 rfl rfl ?_
  refine pw_sld _ 626 rfl rfl (by first | assumption | rfl) (by with_reducible rfl) (by first | assumption | omega) (by omega) ?_
  rw [s1]
  refine pw_cV1 629 rfl rfl (by first | assumption | exact ⟨by decide, rfl⟩) rfl (Nat.le_of_ble_eq_true rfl) rfl rfl (Nat.le_of_ble_eq_true rfl) (m_lean hB hw.1 ho y1 (fun M2 N2 f2 n2 y2 => ?_))
  refine pw_pI ?_
  have x2 := x1.frr f2 (by decide) (fun x hx => n2 x (by omega))
  skip
  refine pw_icmp_eq_t 1032 rfl rfl (rfl) ?_
  exact next M2 N2 _ ⟨by rw [f2 0 (by omega)]; exact s1, x2, y2, hw⟩
set_option maxRecDepth 20000 in
theorem law_20 (hL : L ≤ 3072) (hi : i + 6 ≤ L) (hsc : sh[0]? = some (.inl (0, L, []))) (hA : isApp sh 1) (hB : isMod sh 324) (h : lI M N xs a) (next : ∀ M' N' a', lI M' N' xs a' → PW mL_law 1032 [.ref 0, .ref 1, .ref 324, .int (nI i)] [] sh M' N' Q) : PW mL_law 634 [.ref 0, .ref 1, .ref 324, .int (nI i)] [] sh M N Q := by
  obtain ⟨hs, hx, hy, hw⟩ := h
  have ho := ok_app hx
  have oA := hA.1
  have oB := hB.1
  refine pw_aload_n 635 rfl rfl rfl ?_
  refine pw_aload_n 636 rfl rfl rfl ?_
  refine pw_iload_n 637 rfl rfl rfl ?_
  refine pw_iconst (v := nI 1) 638 rfl rfl (by decide) ?_
  first | refine pw_iaddN 639 rfl rfl (by with_reducible rfl) (by with_reducible rfl) ?_ | refine pw_iadd 639 rfl rfl ?_
  refine pw_sld _ 640 rfl rfl (by first | assumption | rfl) (by with_reducible rfl) (by first | assumption | omega) (by omega) ?_
  refine pw_aload_n 641 rfl rfl rfl ?_
  refine pw_iload_n 642 rfl rfl rfl ?_
  refine pw_iconst (v := nI 2) 643 rfl rfl (by decide) ?_
  first | refine pw_iaddN 644 rfl rfl (by with_reducible rfl) (by with_reducible rfl) ?_ | refine pw_iadd 644 rfl rfl ?_
  refine pw_sld _ 645 rfl rfl (by first | assumption | rfl) (by with_reducible rfl) (by first | assumption | omega) (by omega) ?_
  refine pw_aload_n 646 rfl rfl rfl ?_
  refine pw_iload_n 647 rfl rfl rfl ?_
  refine pw_iconst (v := nI 3) 648 rfl rfl (by decide) ?_
  first | refine pw_iaddN 649 rfl rfl (by with_reducible rfl) (by with_reducible rfl) ?_ | refine pw_iadd 649 rfl rfl ?_
  refine pw_sld _ 650 rfl rfl (by first | assumption | rfl) (by with_reducible rfl) (by first | assumption | omega) (by omega) ?_
  rw [hs]
  refine pw_cV3 653 rfl rfl (by first | assumption | exact ⟨by decide, rfl⟩) rfl (Nat.le_of_ble_eq_true rfl) rfl rfl (Nat.le_of_ble_eq_true rfl) (c_longOdds hA hw.1 hx (fun M1 N1 f1 n1 x1 => ?_))
  refine pw_pJ ?_
  have s1 : M1 0 = xs := by rw [f1 0 (by omega)]; exact hs
  have y1 : modIs M1 N1 324 a := hy.same (fun x hx => f1 x (by omega)) (fun x hx => n1 x (by omega))
  refine pw_aload_n 654 rfl rfl rfl ?_
  refine pw_aload_n 655 rfl rfl rfl ?_
  refine pw_iload_n 656 rfl rfl rfl ?_
  refine pw_iconst (v := nI 1) 657 rfl rfl (by decide) ?_
  first | refine pw_iaddN 658 rfl rfl (by with_reducible rfl) (by with_reducible rfl) ?_ | refine pw_iadd 658 rfl rfl ?_
  refine pw_sld _ 659 rfl rfl (by first | assumption | rfl) (by with_reducible rfl) (by first | assumption | omega) (by omega) ?_
  refine pw_aload_n 660 rfl rfl rfl ?_
  refine pw_iload_n 661 rfl rfl rfl ?_
  refine pw_iconst (v := nI 2) 662 rfl rfl (by decide) ?_
  first | refine pw_iaddN 663 rfl rfl (by with_reducible rfl) (by with_reducible rfl) ?_ | refine pw_iadd 663 rfl rfl ?_
  refine pw_sld _ 664 rfl rfl (by first | assumption | rfl) (by with_reducible rfl) (by first | assumption | omega) (by omega) ?_
  refine pw_aload_n 665 rfl rfl rfl ?_
  refine pw_iload_n 666 rfl rfl rfl ?_
  refine pw_iconst (v := nI 3) 667 rfl rfl (by decide) ?_
  first | refine pw_iaddN 668 rfl rfl (by with_reducible rfl) (by with_reducible rfl) ?_ | refine pw_iadd 668 rfl rfl ?_
  refine pw_sld _ 669 rfl rfl (by first | assumption | rfl) (by with_reducible rfl) (by first | assumption | omega) (by omega) ?_
  rw [s1]
  refine pw_cV3 672 rfl rfl (by first | assumption | exact ⟨by decide, rfl⟩) rfl (Nat.le_of_ble_eq_true rfl) rfl rfl (Nat.le_of_ble_eq_true rfl) (m_odds hB hw.1 ho y1 (fun M2 N2 f2 n2 y2 => ?_))
  refine pw_pJ ?_
  have x2 := x1.frr f2 (by decide) (fun x hx => n2 x (by omega))
  refine pw_lcmp 673 rfl rfl ?_
  refine pw_if_eq_t 1032 rfl rfl ((lg_cmpE _ _).mpr rfl) ?_
  exact next M2 N2 _ ⟨by rw [f2 0 (by omega)]; exact s1, x2, y2, hw⟩
set_option maxRecDepth 20000 in
theorem law_21 (hL : L ≤ 3072) (hi : i + 6 ≤ L) (hsc : sh[0]? = some (.inl (0, L, []))) (hA : isApp sh 1) (hB : isMod sh 324) (h : lI M N xs a) (next : ∀ M' N' a', lI M' N' xs a' → PW mL_law 1032 [.ref 0, .ref 1, .ref 324, .int (nI i)] [] sh M' N' Q) : PW mL_law 678 [.ref 0, .ref 1, .ref 324, .int (nI i)] [] sh M N Q := by
  obtain ⟨hs, hx, hy, hw⟩ := h
  have ho := ok_app hx
  have oA := hA.1
  have oB := hB.1
  refine pw_aload_n 679 rfl rfl rfl ?_
  refine pw_cV0 682 rfl rfl (by first | assumption | exact ⟨by decide, rfl⟩) rfl (Nat.le_of_ble_eq_true rfl) rfl rfl (Nat.le_of_ble_eq_true rfl) (c_image hA hw.1 hx (fun M1 N1 f1 n1 x1 => ?_))
  refine pw_pI ?_
  have s1 : M1 0 = xs := by rw [f1 0 (by omega)]; exact hs
  have y1 : modIs M1 N1 324 a := hy.same (fun x hx => f1 x (by omega)) (fun x hx => n1 x (by omega))
  refine pw_aload_n 683 rfl rfl rfl ?_
  refine pw_cV0 686 rfl rfl (by first | assumption | exact ⟨by decide, rfl⟩) rfl (Nat.le_of_ble_eq_true rfl) rfl rfl (Nat.le_of_ble_eq_true rfl) (m_image hB hw.1 ho y1 (fun M2 N2 f2 n2 y2 => ?_))
  refine pw_pI ?_
  have x2 := x1.frr f2 (by decide) (fun x hx => n2 x (by omega))
  skip
  refine pw_icmp_eq_t 1032 rfl rfl (rfl) ?_
  exact next M2 N2 _ ⟨by rw [f2 0 (by omega)]; exact s1, x2, y2, k_image hw⟩
set_option maxRecDepth 20000 in
theorem law_22 (hL : L ≤ 3072) (hi : i + 6 ≤ L) (hsc : sh[0]? = some (.inl (0, L, []))) (hA : isApp sh 1) (hB : isMod sh 324) (h : lI M N xs a) (next : ∀ M' N' a', lI M' N' xs a' → PW mL_law 1032 [.ref 0, .ref 1, .ref 324, .int (nI i)] [] sh M' N' Q) : PW mL_law 691 [.ref 0, .ref 1, .ref 324, .int (nI i)] [] sh M N Q := by
  obtain ⟨hs, hx, hy, hw⟩ := h
  have ho := ok_app hx
  have oA := hA.1
  have oB := hB.1
  refine pw_aload_n 692 rfl rfl rfl ?_
  refine pw_cV0 695 rfl rfl (by first | assumption | exact ⟨by decide, rfl⟩) rfl (Nat.le_of_ble_eq_true rfl) rfl rfl (Nat.le_of_ble_eq_true rfl) (c_restore hA hw.1 hx (fun M1 N1 f1 n1 x1 => ?_))
  refine pw_pI ?_
  have s1 : M1 0 = xs := by rw [f1 0 (by omega)]; exact hs
  have y1 : modIs M1 N1 324 a := hy.same (fun x hx => f1 x (by omega)) (fun x hx => n1 x (by omega))
  refine pw_aload_n 696 rfl rfl rfl ?_
  refine pw_cV0 699 rfl rfl (by first | assumption | exact ⟨by decide, rfl⟩) rfl (Nat.le_of_ble_eq_true rfl) rfl rfl (Nat.le_of_ble_eq_true rfl) (m_restore hB hw.1 ho y1 (fun M2 N2 f2 n2 y2 => ?_))
  refine pw_pI ?_
  have x2 := x1.frr f2 (by decide) (fun x hx => n2 x (by omega))
  skip
  refine pw_icmp_eq_t 1032 rfl rfl (rfl) ?_
  exact next M2 N2 _ ⟨by rw [f2 0 (by omega)]; exact s1, x2, y2, k_restore hw⟩
set_option maxRecDepth 20000 in
theorem law_23 (hL : L ≤ 3072) (hi : i + 6 ≤ L) (hsc : sh[0]? = some (.inl (0, L, []))) (hA : isApp sh 1) (hB : isMod sh 324) (h : lI M N xs a) (next : ∀ M' N' a', lI M' N' xs a' → PW mL_law 1032 [.ref 0, .ref 1, .ref 324, .int (nI i)] [] sh M' N' Q) : PW mL_law 704 [.ref 0, .ref 1, .ref 324, .int (nI i)] [] sh M N Q := by
  obtain ⟨hs, hx, hy, hw⟩ := h
  have ho := ok_app hx
  have oA := hA.1
  have oB := hB.1
  refine pw_aload_n 705 rfl rfl rfl ?_
  refine pw_aload_n 706 rfl rfl rfl ?_
  refine pw_iload_n 707 rfl rfl rfl ?_
  refine pw_iconst (v := nI 1) 708 rfl rfl (by decide) ?_
  first | refine pw_iaddN 709 rfl rfl (by with_reducible rfl) (by with_reducible rfl) ?_ | refine pw_iadd 709 rfl rfl ?_
  refine pw_sld _ 710 rfl rfl (by first | assumption | rfl) (by with_reducible rfl) (by first | assumption | omega) (by omega) ?_
  refine pw_aload_n 711 rfl rfl rfl ?_
  refine pw_iload_n 712 rfl rfl rfl ?_
  refine pw_iconst (v := nI 2) 713 rfl rfl (by decide) ?_
  first | refine pw_iaddN 714 rfl rfl (by with_reducible rfl) (by with_reducible rfl) ?_ | refine pw_iadd 714 rfl rfl ?_
  refine pw_sld _ 715 rfl rfl (by first | assumption | rfl) (by with_reducible rfl) (by first | assumption | omega) (by omega) ?_
  refine pw_aload_n 716 rfl rfl rfl ?_
  refine pw_iload_n 717 rfl rfl rfl ?_
  refine pw_iconst (v := nI 3) 718 rfl rfl (by decide) ?_
  first | refine pw_iaddN 719 rfl rfl (by with_reducible rfl) (by with_reducible rfl) ?_ | refine pw_iadd 719 rfl rfl ?_
  refine pw_sld _ 720 rfl rfl (by first | assumption | rfl) (by with_reducible rfl) (by first | assumption | omega) (by omega) ?_
  refine pw_aload_n 721 rfl rfl rfl ?_
  refine pw_iload_n 722 rfl rfl rfl ?_
  refine pw_iconst (v := nI 4) 723 rfl rfl (by decide) ?_
  first | refine pw_iaddN 724 rfl rfl (by with_reducible rfl) (by with_reducible rfl) ?_ | refine pw_iadd 724 rfl rfl ?_
  refine pw_sld _ 725 rfl rfl (by first | assumption | rfl) (by with_reducible rfl) (by first | assumption | omega) (by omega) ?_
  refine pw_aload_n 726 rfl rfl rfl ?_
  refine pw_iload_n 727 rfl rfl rfl ?_
  refine pw_iconst (v := nI 5) 728 rfl rfl (by decide) ?_
  first | refine pw_iaddN 729 rfl rfl (by with_reducible rfl) (by with_reducible rfl) ?_ | refine pw_iadd 729 rfl rfl ?_
  refine pw_sld _ 730 rfl rfl (by first | assumption | rfl) (by with_reducible rfl) (by first | assumption | omega) (by omega) ?_
  rw [hs]
  refine pw_cV5 733 rfl rfl (by first | assumption | exact ⟨by decide, rfl⟩) rfl (Nat.le_of_ble_eq_true rfl) rfl rfl (Nat.le_of_ble_eq_true rfl) (c_came hA hw.1 hx (fun M1 N1 f1 n1 x1 => ?_))
  refine pw_pI ?_
  have s1 : M1 0 = xs := by rw [f1 0 (by omega)]; exact hs
  have y1 : modIs M1 N1 324 a := hy.same (fun x hx => f1 x (by omega)) (fun x hx => n1 x (by omega))
  refine pw_aload_n 734 rfl rfl rfl ?_
  refine pw_aload_n 735 rfl rfl rfl ?_
  refine pw_iload_n 736 rfl rfl rfl ?_
  refine pw_iconst (v := nI 1) 737 rfl rfl (by decide) ?_
  first | refine pw_iaddN 738 rfl rfl (by with_reducible rfl) (by with_reducible rfl) ?_ | refine pw_iadd 738 rfl rfl ?_
  refine pw_sld _ 739 rfl rfl (by first | assumption | rfl) (by with_reducible rfl) (by first | assumption | omega) (by omega) ?_
  refine pw_aload_n 740 rfl rfl rfl ?_
  refine pw_iload_n 741 rfl rfl rfl ?_
  refine pw_iconst (v := nI 2) 742 rfl rfl (by decide) ?_
  first | refine pw_iaddN 743 rfl rfl (by with_reducible rfl) (by with_reducible rfl) ?_ | refine pw_iadd 743 rfl rfl ?_
  refine pw_sld _ 744 rfl rfl (by first | assumption | rfl) (by with_reducible rfl) (by first | assumption | omega) (by omega) ?_
  refine pw_aload_n 745 rfl rfl rfl ?_
  refine pw_iload_n 746 rfl rfl rfl ?_
  refine pw_iconst (v := nI 3) 747 rfl rfl (by decide) ?_
  first | refine pw_iaddN 748 rfl rfl (by with_reducible rfl) (by with_reducible rfl) ?_ | refine pw_iadd 748 rfl rfl ?_
  refine pw_sld _ 749 rfl rfl (by first | assumption | rfl) (by with_reducible rfl) (by first | assumption | omega) (by omega) ?_
  refine pw_aload_n 750 rfl rfl rfl ?_
  refine pw_iload_n 751 rfl rfl rfl ?_
  refine pw_iconst (v := nI 4) 752 rfl rfl (by decide) ?_
  first | refine pw_iaddN 753 rfl rfl (by with_reducible rfl) (by with_reducible rfl) ?_ | refine pw_iadd 753 rfl rfl ?_
  refine pw_sld _ 754 rfl rfl (by first | assumption | rfl) (by with_reducible rfl) (by first | assumption | omega) (by omega) ?_
  refine pw_aload_n 755 rfl rfl rfl ?_
  refine pw_iload_n 756 rfl rfl rfl ?_
  refine pw_iconst (v := nI 5) 757 rfl rfl (by decide) ?_
  first | refine pw_iaddN 758 rfl rfl (by with_reducible rfl) (by with_reducible rfl) ?_ | refine pw_iadd 758 rfl rfl ?_
  refine pw_sld _ 759 rfl rfl (by first | assumption | rfl) (by with_reducible rfl) (by first | assumption | omega) (by omega) ?_
  rw [s1]
  refine pw_cV5 762 rfl rfl (by first | assumption | exact ⟨by decide, rfl⟩) rfl (Nat.le_of_ble_eq_true rfl) rfl rfl (Nat.le_of_ble_eq_true rfl) (m_came hB hw.1 ho y1 (fun M2 N2 f2 n2 y2 => ?_))
  refine pw_pI ?_
  have x2 := x1.frr f2 (by decide) (fun x hx => n2 x (by omega))
  skip
  refine pw_icmp_eq_t 1032 rfl rfl (rfl) ?_
  exact next M2 N2 _ ⟨by rw [f2 0 (by omega)]; exact s1, x2, y2, hw⟩
set_option maxRecDepth 20000 in
theorem law_24 (hL : L ≤ 3072) (hi : i + 6 ≤ L) (hsc : sh[0]? = some (.inl (0, L, []))) (hA : isApp sh 1) (hB : isMod sh 324) (h : lI M N xs a) (next : ∀ M' N' a', lI M' N' xs a' → PW mL_law 1032 [.ref 0, .ref 1, .ref 324, .int (nI i)] [] sh M' N' Q) : PW mL_law 767 [.ref 0, .ref 1, .ref 324, .int (nI i)] [] sh M N Q := by
  obtain ⟨hs, hx, hy, hw⟩ := h
  have ho := ok_app hx
  have oA := hA.1
  have oB := hB.1
  refine pw_aload_n 768 rfl rfl rfl ?_
  refine pw_aload_n 769 rfl rfl rfl ?_
  refine pw_iload_n 770 rfl rfl rfl ?_
  refine pw_iconst (v := nI 1) 771 rfl rfl (by decide) ?_
  first | refine pw_iaddN 772 rfl rfl (by with_reducible rfl) (by with_reducible rfl) ?_ | refine pw_iadd 772 rfl rfl ?_
  refine pw_sld _ 773 rfl rfl (by first | assumption | rfl) (by with_reducible rfl) (by first | assumption | omega) (by omega) ?_
  refine pw_aload_n 774 rfl rfl rfl ?_
  refine pw_iload_n 775 rfl rfl rfl ?_
  refine pw_iconst (v := nI 2) 776 rfl rfl (by decide) ?_
  first | refine pw_iaddN 777 rfl rfl (by with_reducible rfl) (by with_reducible rfl) ?_ | refine pw_iadd 777 rfl rfl ?_
  refine pw_sld _ 778 rfl rfl (by first | assumption | rfl) (by with_reducible rfl) (by first | assumption | omega) (by omega) ?_
  refine pw_aload_n 779 rfl rfl rfl ?_
  refine pw_iload_n 780 rfl rfl rfl ?_
  refine pw_iconst (v := nI 3) 781 rfl rfl (by decide) ?_
  first | refine pw_iaddN 782 rfl rfl (by with_reducible rfl) (by with_reducible rfl) ?_ | refine pw_iadd 782 rfl rfl ?_
  refine pw_sld _ 783 rfl rfl (by first | assumption | rfl) (by with_reducible rfl) (by first | assumption | omega) (by omega) ?_
  refine pw_aload_n 784 rfl rfl rfl ?_
  refine pw_iload_n 785 rfl rfl rfl ?_
  refine pw_iconst (v := nI 4) 786 rfl rfl (by decide) ?_
  first | refine pw_iaddN 787 rfl rfl (by with_reducible rfl) (by with_reducible rfl) ?_ | refine pw_iadd 787 rfl rfl ?_
  refine pw_sld _ 788 rfl rfl (by first | assumption | rfl) (by with_reducible rfl) (by first | assumption | omega) (by omega) ?_
  rw [hs]
  refine pw_cV4 791 rfl rfl (by first | assumption | exact ⟨by decide, rfl⟩) rfl (Nat.le_of_ble_eq_true rfl) rfl rfl (Nat.le_of_ble_eq_true rfl) (c_film hA hw.1 hx (fun M1 N1 f1 n1 x1 => ?_))
  refine pw_pI ?_
  have s1 : M1 0 = xs := by rw [f1 0 (by omega)]; exact hs
  have y1 : modIs M1 N1 324 a := hy.same (fun x hx => f1 x (by omega)) (fun x hx => n1 x (by omega))
  refine pw_aload_n 792 rfl rfl rfl ?_
  refine pw_aload_n 793 rfl rfl rfl ?_
  refine pw_iload_n 794 rfl rfl rfl ?_
  refine pw_iconst (v := nI 1) 795 rfl rfl (by decide) ?_
  first | refine pw_iaddN 796 rfl rfl (by with_reducible rfl) (by with_reducible rfl) ?_ | refine pw_iadd 796 rfl rfl ?_
  refine pw_sld _ 797 rfl rfl (by first | assumption | rfl) (by with_reducible rfl) (by first | assumption | omega) (by omega) ?_
  refine pw_aload_n 798 rfl rfl rfl ?_
  refine pw_iload_n 799 rfl rfl rfl ?_
  refine pw_iconst (v := nI 2) 800 rfl rfl (by decide) ?_
  first | refine pw_iaddN 801 rfl rfl (by with_reducible rfl) (by with_reducible rfl) ?_ | refine pw_iadd 801 rfl rfl ?_
  refine pw_sld _ 802 rfl rfl (by first | assumption | rfl) (by with_reducible rfl) (by first | assumption | omega) (by omega) ?_
  refine pw_aload_n 803 rfl rfl rfl ?_
  refine pw_iload_n 804 rfl rfl rfl ?_
  refine pw_iconst (v := nI 3) 805 rfl rfl (by decide) ?_
  first | refine pw_iaddN 806 rfl rfl (by with_reducible rfl) (by with_reducible rfl) ?_ | refine pw_iadd 806 rfl rfl ?_
  refine pw_sld _ 807 rfl rfl (by first | assumption | rfl) (by with_reducible rfl) (by first | assumption | omega) (by omega) ?_
  refine pw_aload_n 808 rfl rfl rfl ?_
  refine pw_iload_n 809 rfl rfl rfl ?_
  refine pw_iconst (v := nI 4) 810 rfl rfl (by decide) ?_
  first | refine pw_iaddN 811 rfl rfl (by with_reducible rfl) (by with_reducible rfl) ?_ | refine pw_iadd 811 rfl rfl ?_
  refine pw_sld _ 812 rfl rfl (by first | assumption | rfl) (by with_reducible rfl) (by first | assumption | omega) (by omega) ?_
  rw [s1]
  refine pw_cV4 815 rfl rfl (by first | assumption | exact ⟨by decide, rfl⟩) rfl (Nat.le_of_ble_eq_true rfl) rfl rfl (Nat.le_of_ble_eq_true rfl) (m_film hB hw.1 ho y1 (fun M2 N2 f2 n2 y2 => ?_))
  refine pw_pI ?_
  have x2 := x1.frr f2 (by decide) (fun x hx => n2 x (by omega))
  skip
  refine pw_icmp_eq_t 1032 rfl rfl (rfl) ?_
  exact next M2 N2 _ ⟨by rw [f2 0 (by omega)]; exact s1, x2, y2, k_film hw⟩
set_option maxRecDepth 20000 in
theorem law_25 (hL : L ≤ 3072) (hi : i + 6 ≤ L) (hsc : sh[0]? = some (.inl (0, L, []))) (hA : isApp sh 1) (hB : isMod sh 324) (h : lI M N xs a) (next : ∀ M' N' a', lI M' N' xs a' → PW mL_law 1032 [.ref 0, .ref 1, .ref 324, .int (nI i)] [] sh M' N' Q) : PW mL_law 820 [.ref 0, .ref 1, .ref 324, .int (nI i)] [] sh M N Q := by
  obtain ⟨hs, hx, hy, hw⟩ := h
  have ho := ok_app hx
  have oA := hA.1
  have oB := hB.1
  refine pw_aload_n 821 rfl rfl rfl ?_
  refine pw_aload_n 822 rfl rfl rfl ?_
  refine pw_iload_n 823 rfl rfl rfl ?_
  refine pw_iconst (v := nI 1) 824 rfl rfl (by decide) ?_
  first | refine pw_iaddN 825 rfl rfl (by with_reducible rfl) (by with_reducible rfl) ?_ | refine pw_iadd 825 rfl rfl ?_
  refine pw_sld _ 826 rfl rfl (by first | assumption | rfl) (by with_reducible rfl) (by first | assumption | omega) (by omega) ?_
  refine pw_aload_n 827 rfl rfl rfl ?_
  refine pw_iload_n 828 rfl rfl rfl ?_
  refine pw_iconst (v := nI 2) 829 rfl rfl (by decide) ?_
  first | refine pw_iaddN 830 rfl rfl (by with_reducible rfl) (by with_reducible rfl) ?_ | refine pw_iadd 830 rfl rfl ?_
  refine pw_sld _ 831 rfl rfl (by first | assumption | rfl) (by with_reducible rfl) (by first | assumption | omega) (by omega) ?_
  refine pw_aload_n 832 rfl rfl rfl ?_
  refine pw_iload_n 833 rfl rfl rfl ?_
  refine pw_iconst (v := nI 3) 834 rfl rfl (by decide) ?_
  first | refine pw_iaddN 835 rfl rfl (by with_reducible rfl) (by with_reducible rfl) ?_ | refine pw_iadd 835 rfl rfl ?_
  refine pw_sld _ 836 rfl rfl (by first | assumption | rfl) (by with_reducible rfl) (by first | assumption | omega) (by omega) ?_
  rw [hs]
  refine pw_cV3 839 rfl rfl (by first | assumption | exact ⟨by decide, rfl⟩) rfl (Nat.le_of_ble_eq_true rfl) rfl rfl (Nat.le_of_ble_eq_true rfl) (c_sheet hA hw.1 hx (fun M1 N1 f1 n1 x1 => ?_))
  refine pw_pI ?_
  have s1 : M1 0 = xs := by rw [f1 0 (by omega)]; exact hs
  have y1 : modIs M1 N1 324 a := hy.same (fun x hx => f1 x (by omega)) (fun x hx => n1 x (by omega))
  refine pw_aload_n 840 rfl rfl rfl ?_
  refine pw_aload_n 841 rfl rfl rfl ?_
  refine pw_iload_n 842 rfl rfl rfl ?_
  refine pw_iconst (v := nI 1) 843 rfl rfl (by decide) ?_
  first | refine pw_iaddN 844 rfl rfl (by with_reducible rfl) (by with_reducible rfl) ?_ | refine pw_iadd 844 rfl rfl ?_
  refine pw_sld _ 845 rfl rfl (by first | assumption | rfl) (by with_reducible rfl) (by first | assumption | omega) (by omega) ?_
  refine pw_aload_n 846 rfl rfl rfl ?_
  refine pw_iload_n 847 rfl rfl rfl ?_
  refine pw_iconst (v := nI 2) 848 rfl rfl (by decide) ?_
  first | refine pw_iaddN 849 rfl rfl (by with_reducible rfl) (by with_reducible rfl) ?_ | refine pw_iadd 849 rfl rfl ?_
  refine pw_sld _ 850 rfl rfl (by first | assumption | rfl) (by with_reducible rfl) (by first | assumption | omega) (by omega) ?_
  refine pw_aload_n 851 rfl rfl rfl ?_
  refine pw_iload_n 852 rfl rfl rfl ?_
  refine pw_iconst (v := nI 3) 853 rfl rfl (by decide) ?_
  first | refine pw_iaddN 854 rfl rfl (by with_reducible rfl) (by with_reducible rfl) ?_ | refine pw_iadd 854 rfl rfl ?_
  refine pw_sld _ 855 rfl rfl (by first | assumption | rfl) (by with_reducible rfl) (by first | assumption | omega) (by omega) ?_
  rw [s1]
  refine pw_cV3 858 rfl rfl (by first | assumption | exact ⟨by decide, rfl⟩) rfl (Nat.le_of_ble_eq_true rfl) rfl rfl (Nat.le_of_ble_eq_true rfl) (m_sheet hB hw.1 ho y1 (fun M2 N2 f2 n2 y2 => ?_))
  refine pw_pI ?_
  have x2 := x1.frr f2 (by decide) (fun x hx => n2 x (by omega))
  skip
  refine pw_icmp_eq_t 1032 rfl rfl (rfl) ?_
  exact next M2 N2 _ ⟨by rw [f2 0 (by omega)]; exact s1, x2, y2, k_sheet hw⟩
set_option maxRecDepth 20000 in
theorem law_26 (hL : L ≤ 3072) (hi : i + 6 ≤ L) (hsc : sh[0]? = some (.inl (0, L, []))) (hA : isApp sh 1) (hB : isMod sh 324) (h : lI M N xs a) (next : ∀ M' N' a', lI M' N' xs a' → PW mL_law 1032 [.ref 0, .ref 1, .ref 324, .int (nI i)] [] sh M' N' Q) : PW mL_law 863 [.ref 0, .ref 1, .ref 324, .int (nI i)] [] sh M N Q := by
  obtain ⟨hs, hx, hy, hw⟩ := h
  have ho := ok_app hx
  have oA := hA.1
  have oB := hB.1
  refine pw_aload_n 864 rfl rfl rfl ?_
  refine pw_aload_n 865 rfl rfl rfl ?_
  refine pw_iload_n 866 rfl rfl rfl ?_
  refine pw_iconst (v := nI 1) 867 rfl rfl (by decide) ?_
  first | refine pw_iaddN 868 rfl rfl (by with_reducible rfl) (by with_reducible rfl) ?_ | refine pw_iadd 868 rfl rfl ?_
  refine pw_sld _ 869 rfl rfl (by first | assumption | rfl) (by with_reducible rfl) (by first | assumption | omega) (by omega) ?_
  rw [hs]
  refine pw_cV1 872 rfl rfl (by first | assumption | exact ⟨by decide, rfl⟩) rfl (Nat.le_of_ble_eq_true rfl) rfl rfl (Nat.le_of_ble_eq_true rfl) (c_drop hA hw.1 hx (fun M1 N1 f1 n1 x1 => ?_))
  refine pw_pI ?_
  have s1 : M1 0 = xs := by rw [f1 0 (by omega)]; exact hs
  have y1 : modIs M1 N1 324 a := hy.same (fun x hx => f1 x (by omega)) (fun x hx => n1 x (by omega))
  refine pw_aload_n 873 rfl rfl rfl ?_
  refine pw_aload_n 874 rfl rfl rfl ?_
  refine pw_iload_n 875 rfl rfl rfl ?_
  refine pw_iconst (v := nI 1) 876 rfl rfl (by decide) ?_
  first | refine pw_iaddN 877 rfl rfl (by with_reducible rfl) (by with_reducible rfl) ?_ | refine pw_iadd 877 rfl rfl ?_
  refine pw_sld _ 878 rfl rfl (by first | assumption | rfl) (by with_reducible rfl) (by first | assumption | omega) (by omega) ?_
  rw [s1]
  refine pw_cV1 881 rfl rfl (by first | assumption | exact ⟨by decide, rfl⟩) rfl (Nat.le_of_ble_eq_true rfl) rfl rfl (Nat.le_of_ble_eq_true rfl) (m_drop hB hw.1 ho y1 (fun M2 N2 f2 n2 y2 => ?_))
  refine pw_pI ?_
  have x2 := x1.frr f2 (by decide) (fun x hx => n2 x (by omega))
  skip
  refine pw_icmp_eq_t 1032 rfl rfl (rfl) ?_
  exact next M2 N2 _ ⟨by rw [f2 0 (by omega)]; exact s1, x2, y2, k_drop hw⟩
set_option maxRecDepth 20000 in
theorem law_27 (hL : L ≤ 3072) (hi : i + 6 ≤ L) (hsc : sh[0]? = some (.inl (0, L, []))) (hA : isApp sh 1) (hB : isMod sh 324) (h : lI M N xs a) (next : ∀ M' N' a', lI M' N' xs a' → PW mL_law 1032 [.ref 0, .ref 1, .ref 324, .int (nI i)] [] sh M' N' Q) : PW mL_law 886 [.ref 0, .ref 1, .ref 324, .int (nI i)] [] sh M N Q := by
  obtain ⟨hs, hx, hy, hw⟩ := h
  have ho := ok_app hx
  have oA := hA.1
  have oB := hB.1
  refine pw_aload_n 887 rfl rfl rfl ?_
  refine pw_aload_n 888 rfl rfl rfl ?_
  refine pw_iload_n 889 rfl rfl rfl ?_
  refine pw_iconst (v := nI 1) 890 rfl rfl (by decide) ?_
  first | refine pw_iaddN 891 rfl rfl (by with_reducible rfl) (by with_reducible rfl) ?_ | refine pw_iadd 891 rfl rfl ?_
  refine pw_sld _ 892 rfl rfl (by first | assumption | rfl) (by with_reducible rfl) (by first | assumption | omega) (by omega) ?_
  refine pw_aload_n 893 rfl rfl rfl ?_
  refine pw_iload_n 894 rfl rfl rfl ?_
  refine pw_iconst (v := nI 2) 895 rfl rfl (by decide) ?_
  first | refine pw_iaddN 896 rfl rfl (by with_reducible rfl) (by with_reducible rfl) ?_ | refine pw_iadd 896 rfl rfl ?_
  refine pw_sld _ 897 rfl rfl (by first | assumption | rfl) (by with_reducible rfl) (by first | assumption | omega) (by omega) ?_
  refine pw_aload_n 898 rfl rfl rfl ?_
  refine pw_iload_n 899 rfl rfl rfl ?_
  refine pw_iconst (v := nI 3) 900 rfl rfl (by decide) ?_
  first | refine pw_iaddN 901 rfl rfl (by with_reducible rfl) (by with_reducible rfl) ?_ | refine pw_iadd 901 rfl rfl ?_
  refine pw_sld _ 902 rfl rfl (by first | assumption | rfl) (by with_reducible rfl) (by first | assumption | omega) (by omega) ?_
  refine pw_aload_n 903 rfl rfl rfl ?_
  refine pw_iload_n 904 rfl rfl rfl ?_
  refine pw_iconst (v := nI 4) 905 rfl rfl (by decide) ?_
  first | refine pw_iaddN 906 rfl rfl (by with_reducible rfl) (by with_reducible rfl) ?_ | refine pw_iadd 906 rfl rfl ?_
  refine pw_sld _ 907 rfl rfl (by first | assumption | rfl) (by with_reducible rfl) (by first | assumption | omega) (by omega) ?_
  refine pw_i2l 908 rfl rfl ?_
  refine pw_bipush (v := nI 32) 910 rfl rfl (by decide) ?_
  refine pw_lshl 911 rfl rfl ?_
  refine pw_aload_n 912 rfl rfl rfl ?_
  refine pw_iload_n 913 rfl rfl rfl ?_
  refine pw_iconst (v := nI 5) 914 rfl rfl (by decide) ?_
  first | refine pw_iaddN 915 rfl rfl (by with_reducible rfl) (by with_reducible rfl) ?_ | refine pw_iadd 915 rfl rfl ?_
  refine pw_sld _ 916 rfl rfl (by first | assumption | rfl) (by with_reducible rfl) (by first | assumption | omega) (by omega) ?_
  refine pw_i2l 917 rfl rfl ?_
  refine pw_ldc2_w (v := lN 4294967295) 920 rfl rfl rfl ?_
  refine pw_land 921 rfl rfl ?_
  refine pw_lor 922 rfl rfl ?_
  rw [hs]
  refine pw_cV4 925 rfl rfl (by first | assumption | exact ⟨by decide, rfl⟩) rfl (Nat.le_of_ble_eq_true rfl) rfl rfl (Nat.le_of_ble_eq_true rfl) (c_item hA hw.1 hx (fun M1 N1 f1 n1 x1 => ?_))
  refine pw_pI ?_
  have s1 : M1 0 = xs := by rw [f1 0 (by omega)]; exact hs
  have y1 : modIs M1 N1 324 a := hy.same (fun x hx => f1 x (by omega)) (fun x hx => n1 x (by omega))
  refine pw_aload_n 926 rfl rfl rfl ?_
  refine pw_aload_n 927 rfl rfl rfl ?_
  refine pw_iload_n 928 rfl rfl rfl ?_
  refine pw_iconst (v := nI 1) 929 rfl rfl (by decide) ?_
  first | refine pw_iaddN 930 rfl rfl (by with_reducible rfl) (by with_reducible rfl) ?_ | refine pw_iadd 930 rfl rfl ?_
  refine pw_sld _ 931 rfl rfl (by first | assumption | rfl) (by with_reducible rfl) (by first | assumption | omega) (by omega) ?_
  refine pw_aload_n 932 rfl rfl rfl ?_
  refine pw_iload_n 933 rfl rfl rfl ?_
  refine pw_iconst (v := nI 2) 934 rfl rfl (by decide) ?_
  first | refine pw_iaddN 935 rfl rfl (by with_reducible rfl) (by with_reducible rfl) ?_ | refine pw_iadd 935 rfl rfl ?_
  refine pw_sld _ 936 rfl rfl (by first | assumption | rfl) (by with_reducible rfl) (by first | assumption | omega) (by omega) ?_
  refine pw_aload_n 937 rfl rfl rfl ?_
  refine pw_iload_n 938 rfl rfl rfl ?_
  refine pw_iconst (v := nI 3) 939 rfl rfl (by decide) ?_
  first | refine pw_iaddN 940 rfl rfl (by with_reducible rfl) (by with_reducible rfl) ?_ | refine pw_iadd 940 rfl rfl ?_
  refine pw_sld _ 941 rfl rfl (by first | assumption | rfl) (by with_reducible rfl) (by first | assumption | omega) (by omega) ?_
  refine pw_aload_n 942 rfl rfl rfl ?_
  refine pw_iload_n 943 rfl rfl rfl ?_
  refine pw_iconst (v := nI 4) 944 rfl rfl (by decide) ?_
  first | refine pw_iaddN 945 rfl rfl (by with_reducible rfl) (by with_reducible rfl) ?_ | refine pw_iadd 945 rfl rfl ?_
  refine pw_sld _ 946 rfl rfl (by first | assumption | rfl) (by with_reducible rfl) (by first | assumption | omega) (by omega) ?_
  refine pw_i2l 947 rfl rfl ?_
  refine pw_bipush (v := nI 32) 949 rfl rfl (by decide) ?_
  refine pw_lshl 950 rfl rfl ?_
  refine pw_aload_n 951 rfl rfl rfl ?_
  refine pw_iload_n 952 rfl rfl rfl ?_
  refine pw_iconst (v := nI 5) 953 rfl rfl (by decide) ?_
  first | refine pw_iaddN 954 rfl rfl (by with_reducible rfl) (by with_reducible rfl) ?_ | refine pw_iadd 954 rfl rfl ?_
  refine pw_sld _ 955 rfl rfl (by first | assumption | rfl) (by with_reducible rfl) (by first | assumption | omega) (by omega) ?_
  refine pw_i2l 956 rfl rfl ?_
  refine pw_ldc2_w (v := lN 4294967295) 959 rfl rfl rfl ?_
  refine pw_land 960 rfl rfl ?_
  refine pw_lor 961 rfl rfl ?_
  rw [s1]
  refine pw_cV4 964 rfl rfl (by first | assumption | exact ⟨by decide, rfl⟩) rfl (Nat.le_of_ble_eq_true rfl) rfl rfl (Nat.le_of_ble_eq_true rfl) (m_item hB hw.1 ho y1 (fun M2 N2 f2 n2 y2 => ?_))
  refine pw_pI ?_
  have x2 := x1.frr f2 (by decide) (fun x hx => n2 x (by omega))
  skip
  refine pw_icmp_eq_t 1032 rfl rfl (rfl) ?_
  exact next M2 N2 _ ⟨by rw [f2 0 (by omega)]; exact s1, x2, y2, k_item hw⟩
set_option maxRecDepth 20000 in
theorem law_28 (hL : L ≤ 3072) (hi : i + 6 ≤ L) (hsc : sh[0]? = some (.inl (0, L, []))) (hA : isApp sh 1) (hB : isMod sh 324) (h : lI M N xs a) (next : ∀ M' N' a', lI M' N' xs a' → PW mL_law 1032 [.ref 0, .ref 1, .ref 324, .int (nI i)] [] sh M' N' Q) : PW mL_law 969 [.ref 0, .ref 1, .ref 324, .int (nI i)] [] sh M N Q := by
  obtain ⟨hs, hx, hy, hw⟩ := h
  have ho := ok_app hx
  have oA := hA.1
  have oB := hB.1
  refine pw_aload_n 970 rfl rfl rfl ?_
  refine pw_aload_n 971 rfl rfl rfl ?_
  refine pw_iload_n 972 rfl rfl rfl ?_
  refine pw_iconst (v := nI 1) 973 rfl rfl (by decide) ?_
  first | refine pw_iaddN 974 rfl rfl (by with_reducible rfl) (by with_reducible rfl) ?_ | refine pw_iadd 974 rfl rfl ?_
  refine pw_sld _ 975 rfl rfl (by first | assumption | rfl) (by with_reducible rfl) (by first | assumption | omega) (by omega) ?_
  refine pw_aload_n 976 rfl rfl rfl ?_
  refine pw_iload_n 977 rfl rfl rfl ?_
  refine pw_iconst (v := nI 2) 978 rfl rfl (by decide) ?_
  first | refine pw_iaddN 979 rfl rfl (by with_reducible rfl) (by with_reducible rfl) ?_ | refine pw_iadd 979 rfl rfl ?_
  refine pw_sld _ 980 rfl rfl (by first | assumption | rfl) (by with_reducible rfl) (by first | assumption | omega) (by omega) ?_
  refine pw_aload_n 981 rfl rfl rfl ?_
  refine pw_iload_n 982 rfl rfl rfl ?_
  refine pw_iconst (v := nI 3) 983 rfl rfl (by decide) ?_
  first | refine pw_iaddN 984 rfl rfl (by with_reducible rfl) (by with_reducible rfl) ?_ | refine pw_iadd 984 rfl rfl ?_
  refine pw_sld _ 985 rfl rfl (by first | assumption | rfl) (by with_reducible rfl) (by first | assumption | omega) (by omega) ?_
  refine pw_aload_n 986 rfl rfl rfl ?_
  refine pw_iload_n 987 rfl rfl rfl ?_
  refine pw_iconst (v := nI 4) 988 rfl rfl (by decide) ?_
  first | refine pw_iaddN 989 rfl rfl (by with_reducible rfl) (by with_reducible rfl) ?_ | refine pw_iadd 989 rfl rfl ?_
  refine pw_sld _ 990 rfl rfl (by first | assumption | rfl) (by with_reducible rfl) (by first | assumption | omega) (by omega) ?_
  refine pw_aload_n 991 rfl rfl rfl ?_
  refine pw_iload_n 992 rfl rfl rfl ?_
  refine pw_iconst (v := nI 5) 993 rfl rfl (by decide) ?_
  first | refine pw_iaddN 994 rfl rfl (by with_reducible rfl) (by with_reducible rfl) ?_ | refine pw_iadd 994 rfl rfl ?_
  refine pw_sld _ 995 rfl rfl (by first | assumption | rfl) (by with_reducible rfl) (by first | assumption | omega) (by omega) ?_
  rw [hs]
  refine pw_cV5 998 rfl rfl (by first | assumption | exact ⟨by decide, rfl⟩) rfl (Nat.le_of_ble_eq_true rfl) rfl rfl (Nat.le_of_ble_eq_true rfl) (c_copy hA hw.1 hx (fun M1 N1 f1 n1 x1 => ?_))
  refine pw_pI ?_
  have s1 : M1 0 = xs := by rw [f1 0 (by omega)]; exact hs
  have y1 : modIs M1 N1 324 a := hy.same (fun x hx => f1 x (by omega)) (fun x hx => n1 x (by omega))
  refine pw_aload_n 999 rfl rfl rfl ?_
  refine pw_aload_n 1000 rfl rfl rfl ?_
  refine pw_iload_n 1001 rfl rfl rfl ?_
  refine pw_iconst (v := nI 1) 1002 rfl rfl (by decide) ?_
  first | refine pw_iaddN 1003 rfl rfl (by with_reducible rfl) (by with_reducible rfl) ?_ | refine pw_iadd 1003 rfl rfl ?_
  refine pw_sld _ 1004 rfl rfl (by first | assumption | rfl) (by with_reducible rfl) (by first | assumption | omega) (by omega) ?_
  refine pw_aload_n 1005 rfl rfl rfl ?_
  refine pw_iload_n 1006 rfl rfl rfl ?_
  refine pw_iconst (v := nI 2) 1007 rfl rfl (by decide) ?_
  first | refine pw_iaddN 1008 rfl rfl (by with_reducible rfl) (by with_reducible rfl) ?_ | refine pw_iadd 1008 rfl rfl ?_
  refine pw_sld _ 1009 rfl rfl (by first | assumption | rfl) (by with_reducible rfl) (by first | assumption | omega) (by omega) ?_
  refine pw_aload_n 1010 rfl rfl rfl ?_
  refine pw_iload_n 1011 rfl rfl rfl ?_
  refine pw_iconst (v := nI 3) 1012 rfl rfl (by decide) ?_
  first | refine pw_iaddN 1013 rfl rfl (by with_reducible rfl) (by with_reducible rfl) ?_ | refine pw_iadd 1013 rfl rfl ?_
  refine pw_sld _ 1014 rfl rfl (by first | assumption | rfl) (by with_reducible rfl) (by first | assumption | omega) (by omega) ?_
  refine pw_aload_n 1015 rfl rfl rfl ?_
  refine pw_iload_n 1016 rfl rfl rfl ?_
  refine pw_iconst (v := nI 4) 1017 rfl rfl (by decide) ?_
  first | refine pw_iaddN 1018 rfl rfl (by with_reducible rfl) (by with_reducible rfl) ?_ | refine pw_iadd 1018 rfl rfl ?_
  refine pw_sld _ 1019 rfl rfl (by first | assumption | rfl) (by with_reducible rfl) (by first | assumption | omega) (by omega) ?_
  refine pw_aload_n 1020 rfl rfl rfl ?_
  refine pw_iload_n 1021 rfl rfl rfl ?_
  refine pw_iconst (v := nI 5) 1022 rfl rfl (by decide) ?_
  first | refine pw_iaddN 1023 rfl rfl (by with_reducible rfl) (by with_reducible rfl) ?_ | refine pw_iadd 1023 rfl rfl ?_
  refine pw_sld _ 1024 rfl rfl (by first | assumption | rfl) (by with_reducible rfl) (by first | assumption | omega) (by omega) ?_
  rw [s1]
  refine pw_cV5 1027 rfl rfl (by first | assumption | exact ⟨by decide, rfl⟩) rfl (Nat.le_of_ble_eq_true rfl) rfl rfl (Nat.le_of_ble_eq_true rfl) (m_copy hB hw.1 ho y1 (fun M2 N2 f2 n2 y2 => ?_))
  refine pw_pI ?_
  have x2 := x1.frr f2 (by decide) (fun x hx => n2 x (by omega))
  skip
  refine pw_icmp_eq_t 1032 rfl rfl (rfl) ?_
  exact next M2 N2 _ ⟨by rw [f2 0 (by omega)]; exact s1, x2, y2, k_copy hw⟩
theorem and31 (x : Int32) : ∃ c, c < 32 ∧ x &&& nI 31 = nI c := by
  have e : x &&& nI 31 = nI (x.toBitVec.toNat &&& 31) := by
    apply Int32.toBitVec_inj.mp
    apply BitVec.eq_of_toNat_eq
    have h := x.toBitVec.isLt
    simp only [Int32.toBitVec_and, BitVec.toNat_and, nI]
    have h1 : (Int32.ofNat 31).toBitVec.toNat = 31 := rfl
    have h2 : (Int32.ofNat (x.toBitVec.toNat &&& 31)).toBitVec.toNat = (x.toBitVec.toNat &&& 31) % 2 ^ 32 := rfl
    have h3 : x.toBitVec.toNat &&& 31 ≤ 31 := Nat.and_le_right
    rw [h1, h2, Nat.mod_eq_of_lt (by omega)]
  exact ⟨_, Nat.lt_of_le_of_lt Nat.and_le_right (by decide), e⟩
theorem six {L i : Nat} (hL : L ≤ 3072) (hi : i ≤ 4000) : nI L - nI 6 < nI i ↔ L < i + 6 := by
  by_cases q : 6 ≤ L
  · obtain ⟨m, rfl⟩ : ∃ m, L = m + 6 := ⟨L - 6, by omega⟩
    rw [← nI_add, Int32.add_sub_cancel, nI_ltI (by omega) (by omega)]
    omega
  · have h0 : nI L - nI 6 < 0 := by
      rcases (show L = 0 ∨ L = 1 ∨ L = 2 ∨ L = 3 ∨ L = 4 ∨ L = 5 by omega) with rfl | rfl | rfl | rfl | rfl | rfl <;> decide
    exact ⟨fun _ => by omega, fun _ => Int32.lt_of_lt_of_le h0 (nI_pos' (by omega))⟩
set_option maxRecDepth 20000 in
theorem law_loop (hL : L ≤ 3072) (hsc : sh[0]? = some (.inl (0, L, []))) (hA : isApp sh 1) (hB : isMod sh 324) (kk : ∀ M' N', Q (some (.int (nI 1))) sh M' N') :
    ∀ (d i : Nat) (M : pmM) (N : pmN) (a : aW), L + 6 - i ≤ d → i ≤ 4000 → lI M N xs a → PW mL_law 18 [.ref 0, .ref 1, .ref 324, .int (nI i)] [] sh M N Q := by
  intro d
  induction d with
  | zero =>
    intro i M N a hd hi h
    refine pw_iload_n 19 rfl rfl rfl ?_
    refine pw_aload_n 20 rfl rfl rfl ?_
    refine pw_slen 21 rfl rfl (by first | assumption | rfl) ?_
    refine pw_bipush (v := nI 6) 23 rfl rfl (by decide) ?_
    refine pw_isub 24 rfl rfl ?_
    skip
    refine pw_icmp_gt_t 1038 rfl rfl ((six hL hi).mpr (by omega)) ?_
    refine pw_iconst (v := nI 1) 1039 rfl rfl (by decide) ?_
    exact pw_zret rfl rfl (by first | exact Or.inl rfl | exact Or.inr rfl | assumption) (kk _ _)
  | succ d ih =>
    intro i M N a hd hi h
    refine pw_iload_n 19 rfl rfl rfl ?_
    refine pw_aload_n 20 rfl rfl rfl ?_
    refine pw_slen 21 rfl rfl (by first | assumption | rfl) ?_
    refine pw_bipush (v := nI 6) 23 rfl rfl (by decide) ?_
    refine pw_isub 24 rfl rfl ?_
    by_cases q : L < i + 6
    · skip
      refine pw_icmp_gt_t 1038 rfl rfl ((six hL hi).mpr q) ?_
      refine pw_iconst (v := nI 1) 1039 rfl rfl (by decide) ?_
      exact pw_zret rfl rfl (by first | exact Or.inl rfl | exact Or.inr rfl | assumption) (kk _ _)
    · have next : ∀ M' N' a', lI M' N' xs a' → PW mL_law 1032 [.ref 0, .ref 1, .ref 324, .int (nI i)] [] sh M' N' Q := by
        intro M' N' a' h'
        have e6 : nI i + Int32.ofInt 6 = nI (i + 6) := nI_add i 6
        first | refine pw_iincN3 1035 rfl rfl rfl (by with_reducible rfl) ?_ | refine pw_iinc3 (w := _) 1035 rfl rfl rfl rfl ?_
        refine pw_goto rfl 18 rfl ?_
        rw [e6]
        exact ih (i + 6) M' N' a' (by omega) (by omega) h'
      skip
      refine pw_icmp_gt_f 27 rfl rfl (fun e => q ((six hL hi).mp e)) ?_
      refine pw_aload_n 28 rfl rfl rfl ?_
      refine pw_iload_n 29 rfl rfl rfl ?_
      refine pw_sld _ 30 rfl rfl (by first | assumption | rfl) (by with_reducible rfl) (by first | assumption | omega) (by omega) ?_
      refine pw_bipush (v := nI 31) 32 rfl rfl (by decide) ?_
      refine pw_iand 33 rfl rfl ?_
      obtain ⟨c, hc, e⟩ := and31 (M 0 i)
      rw [e]
      rcases (show c = 0 ∨ c = 1 ∨ c = 2 ∨ c = 3 ∨ c = 4 ∨ c = 5 ∨ c = 6 ∨ c = 7 ∨ c = 8 ∨ c = 9 ∨ c = 10 ∨ c = 11 ∨ c = 12 ∨ c = 13 ∨ c = 14 ∨ c = 15 ∨ c = 16 ∨ c = 17 ∨ c = 18 ∨ c = 19 ∨ c = 20 ∨ c = 21 ∨ c = 22 ∨ c = 23 ∨ c = 24 ∨ c = 25 ∨ c = 26 ∨ c = 27 ∨ c = 28 ∨ c = 29 ∨ c = 30 ∨ c = 31 by omega) with rfl | rfl | rfl | rfl | rfl | rfl | rfl | rfl | rfl | rfl | rfl | rfl | rfl | rfl | rfl | rfl | rfl | rfl | rfl | rfl | rfl | rfl | rfl | rfl | rfl | rfl | rfl | rfl | rfl | rfl | rfl | rfl
      · skip
        refine pw_tsw 164 rfl (rfl) ?_
        exact law_0 hL (by omega) hsc hA hB h next
      · skip
        refine pw_tsw 187 rfl (rfl) ?_
        exact law_1 hL (by omega) hsc hA hB h next
      · skip
        refine pw_tsw 200 rfl (rfl) ?_
        exact law_2 hL (by omega) hsc hA hB h next
      · skip
        refine pw_tsw 213 rfl (rfl) ?_
        exact law_3 hL (by omega) hsc hA hB h next
      · skip
        refine pw_tsw 246 rfl (rfl) ?_
        exact law_4 hL (by omega) hsc hA hB h next
      · skip
        refine pw_tsw 289 rfl (rfl) ?_
        exact law_5 hL (by omega) hsc hA hB h next
      · skip
        refine pw_tsw 322 rfl (rfl) ?_
        exact law_6 hL (by omega) hsc hA hB h next
      · skip
        refine pw_tsw 345 rfl (rfl) ?_
        exact law_7 hL (by omega) hsc hA hB h next
      · skip
        refine pw_tsw 378 rfl (rfl) ?_
        exact law_8 hL (by omega) hsc hA hB h next
      · skip
        refine pw_tsw 401 rfl (rfl) ?_
        exact law_9 hL (by omega) hsc hA hB h next
      · skip
        refine pw_tsw 424 rfl (rfl) ?_
        exact law_10 hL (by omega) hsc hA hB h next
      · skip
        refine pw_tsw 447 rfl (rfl) ?_
        exact law_11 hL (by omega) hsc hA hB h next
      · skip
        refine pw_tsw 470 rfl (rfl) ?_
        exact law_12 hL (by omega) hsc hA hB h next
      · skip
        refine pw_tsw 483 rfl (rfl) ?_
        exact law_13 hL (by omega) hsc hA hB h next
      · skip
        refine pw_tsw 496 rfl (rfl) ?_
        exact law_14 hL (by omega) hsc hA hB h next
      · skip
        refine pw_tsw 529 rfl (rfl) ?_
        exact law_15 hL (by omega) hsc hA hB h next
      · skip
        refine pw_tsw 552 rfl (rfl) ?_
        exact law_16 hL (by omega) hsc hA hB h next
      · skip
        refine pw_tsw 575 rfl (rfl) ?_
        exact law_17 hL (by omega) hsc hA hB h next
      · skip
        refine pw_tsw 588 rfl (rfl) ?_
        exact law_18 hL (by omega) hsc hA hB h next
      · skip
        refine pw_tsw 611 rfl (rfl) ?_
        exact law_19 hL (by omega) hsc hA hB h next
      · skip
        refine pw_tsw 634 rfl (rfl) ?_
        exact law_20 hL (by omega) hsc hA hB h next
      · skip
        refine pw_tsw 678 rfl (rfl) ?_
        exact law_21 hL (by omega) hsc hA hB h next
      · skip
        refine pw_tsw 691 rfl (rfl) ?_
        exact law_22 hL (by omega) hsc hA hB h next
      · skip
        refine pw_tsw 704 rfl (rfl) ?_
        exact law_23 hL (by omega) hsc hA hB h next
      · skip
        refine pw_tsw 767 rfl (rfl) ?_
        exact law_24 hL (by omega) hsc hA hB h next
      · skip
        refine pw_tsw 820 rfl (rfl) ?_
        exact law_25 hL (by omega) hsc hA hB h next
      · skip
        refine pw_tsw 863 rfl (rfl) ?_
        exact law_26 hL (by omega) hsc hA hB h next
      · skip
        refine pw_tsw 886 rfl (rfl) ?_
        exact law_27 hL (by omega) hsc hA hB h next
      · skip
        refine pw_tsw 969 rfl (rfl) ?_
        exact law_28 hL (by omega) hsc hA hB h next
      · skip
        refine pw_tsw 1032 rfl (rfl) ?_
        exact next M N a h
      · skip
        refine pw_tsw 1032 rfl (rfl) ?_
        exact next M N a h
      · skip
        refine pw_tsw 1032 rfl (rfl) ?_
        exact next M N a h
end LAW
