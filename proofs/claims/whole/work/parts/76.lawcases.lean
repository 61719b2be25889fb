/-! THE LAW: its cases, by program -/
theorem lc_0 {p : Program} {l : Launch} {e : Env} {s : State} {m : MethodId} {below : List Frame} {meth : Method} {c : Code} {b L : Nat} {xs : Nat → Int32} {ad : Nat → Nat} {D : va_G} {cI cS : ClassId} {H : Heap} {locs : List Loc} {ls : Array Slot} {j : Nat} {σ : mS} (X : lX p s m meth c b L xs ad D cI cS) (hL : L ≤ 4096) (hj : 8 * j + 8 ≤ L) (hl : lv_has ls 4 (lL b ad j)) (hP : va_P D vwCl (m_ws ad cI cS σ) H) (hS : va_S (LA s) s.heap H locs) (hR : ∃ π, RR π σ) (kk : ∀ (τ : mS) (H1 : Heap) (locs1 : List Loc), (∃ π, RR π τ) → va_P D vwCl (m_ws ad cI cS τ) H1 → va_S (LA s) s.heap H1 locs1 → W p l e room_1 s m #[Value.ref b] below meth c H1 locs1 600000 7302250 (lw_Z below #[Value.ref b] s) (F0 m 688 ls [])) : W p l e room_1 s m #[Value.ref b] below meth c H locs 600000 7302250 (lw_Z below #[Value.ref b] s) (F0 m 120 ls []) := by
  refine lv_aload_n X.1 X.2.1 dl_120 rfl (lv_at hl 2 rfl) ?_
  refine lw_ld X (k := 1) (by omega) hL dl_121 dl_122 dl_123 rfl dl_124 dl_125 hl hS ?_
  refine lw_call X (M' := M_O_cls) (q := (0, 0)) (as := [.inl (xs (8 * j + 1))]) (st := []) (pp_cls hR _) mi_O_cls wkL_13 rfl rfl (by decide) (by decide) dl_126 hP hS hl (Nat.le_of_ble_eq_true rfl) (fun r τ H1 locs1 hq hP hS => ?_)
  obtain ⟨v, rfl, hm⟩ := hq
  refine lv_aload_n X.1 X.2.1 dl_129 rfl (lv_at hl 1 rfl) ?_
  refine lw_ld X (k := 1) (by omega) hL dl_130 dl_131 dl_132 rfl dl_133 dl_134 hl hS ?_
  refine lw_call X (M' := M_M_cls) (q := (25, 0)) (as := [.inl (xs (8 * j + 1))]) (st := [.int v]) hm mi_M_cls wkL_17 rfl rfl (by decide) (by decide) dl_135 hP hS hl (Nat.le_of_ble_eq_true rfl) (fun r τ H1 locs1 hq hP hS => ?_)
  obtain ⟨rfl, hR⟩ := hq
  exact lv_icmp_eq (tgt := 688) X.1 X.2.1 dl_138 (by decide) (fun _ => kk τ H1 locs1 hR hP hS) (fun q => absurd rfl q)
theorem lc_1 {p : Program} {l : Launch} {e : Env} {s : State} {m : MethodId} {below : List Frame} {meth : Method} {c : Code} {b L : Nat} {xs : Nat → Int32} {ad : Nat → Nat} {D : va_G} {cI cS : ClassId} {H : Heap} {locs : List Loc} {ls : Array Slot} {j : Nat} {σ : mS} (X : lX p s m meth c b L xs ad D cI cS) (hL : L ≤ 4096) (hj : 8 * j + 8 ≤ L) (hl : lv_has ls 4 (lL b ad j)) (hP : va_P D vwCl (m_ws ad cI cS σ) H) (hS : va_S (LA s) s.heap H locs) (hR : ∃ π, RR π σ) (kk : ∀ (τ : mS) (H1 : Heap) (locs1 : List Loc), (∃ π, RR π τ) → va_P D vwCl (m_ws ad cI cS τ) H1 → va_S (LA s) s.heap H1 locs1 → W p l e room_1 s m #[Value.ref b] below meth c H1 locs1 600000 7302250 (lw_Z below #[Value.ref b] s) (F0 m 688 ls [])) : W p l e room_1 s m #[Value.ref b] below meth c H locs 600000 7302250 (lw_Z below #[Value.ref b] s) (F0 m 143 ls []) := by
  refine lv_aload_n X.1 X.2.1 dl_143 rfl (lv_at hl 2 rfl) ?_
  refine lw_ld X (k := 1) (by omega) hL dl_144 dl_145 dl_146 rfl dl_147 dl_148 hl hS ?_
  refine lw_call X (M' := M_O_field) (q := (0, 0)) (as := [.inl (xs (8 * j + 1))]) (st := []) (pp_field hR _) mi_O_field wkL_18 rfl rfl (by decide) (by decide) dl_149 hP hS hl (Nat.le_of_ble_eq_true rfl) (fun r τ H1 locs1 hq hP hS => ?_)
  obtain ⟨v, rfl, hm⟩ := hq
  refine lv_aload_n X.1 X.2.1 dl_152 rfl (lv_at hl 1 rfl) ?_
  refine lw_ld X (k := 1) (by omega) hL dl_153 dl_154 dl_155 rfl dl_156 dl_157 hl hS ?_
  refine lw_call X (M' := M_M_field) (q := (25, 0)) (as := [.inl (xs (8 * j + 1))]) (st := [.int v]) hm mi_M_field wkL_21 rfl rfl (by decide) (by decide) dl_158 hP hS hl (Nat.le_of_ble_eq_true rfl) (fun r τ H1 locs1 hq hP hS => ?_)
  obtain ⟨rfl, hR⟩ := hq
  exact lv_icmp_eq (tgt := 688) X.1 X.2.1 dl_161 (by decide) (fun _ => kk τ H1 locs1 hR hP hS) (fun q => absurd rfl q)
theorem lc_2 {p : Program} {l : Launch} {e : Env} {s : State} {m : MethodId} {below : List Frame} {meth : Method} {c : Code} {b L : Nat} {xs : Nat → Int32} {ad : Nat → Nat} {D : va_G} {cI cS : ClassId} {H : Heap} {locs : List Loc} {ls : Array Slot} {j : Nat} {σ : mS} (X : lX p s m meth c b L xs ad D cI cS) (hL : L ≤ 4096) (hj : 8 * j + 8 ≤ L) (hl : lv_has ls 4 (lL b ad j)) (hP : va_P D vwCl (m_ws ad cI cS σ) H) (hS : va_S (LA s) s.heap H locs) (hR : ∃ π, RR π σ) (kk : ∀ (τ : mS) (H1 : Heap) (locs1 : List Loc), (∃ π, RR π τ) → va_P D vwCl (m_ws ad cI cS τ) H1 → va_S (LA s) s.heap H1 locs1 → W p l e room_1 s m #[Value.ref b] below meth c H1 locs1 600000 7302250 (lw_Z below #[Value.ref b] s) (F0 m 688 ls [])) : W p l e room_1 s m #[Value.ref b] below meth c H locs 600000 7302250 (lw_Z below #[Value.ref b] s) (F0 m 166 ls []) := by
  refine lv_aload_n X.1 X.2.1 dl_166 rfl (lv_at hl 2 rfl) ?_
  refine lw_ld X (k := 1) (by omega) hL dl_167 dl_168 dl_169 rfl dl_170 dl_171 hl hS ?_
  refine lw_ld X (k := 2) (by omega) hL dl_172 dl_173 dl_174 rfl dl_175 dl_176 hl hS ?_
  refine lw_call X (M' := M_O_method) (q := (0, 0)) (as := [.inl (xs (8 * j + 1)), .inl (xs (8 * j + 2))]) (st := []) (pp_method hR _ _) mi_O_method wkL_22 rfl rfl (by decide) (by decide) dl_177 hP hS hl (Nat.le_of_ble_eq_true rfl) (fun r τ H1 locs1 hq hP hS => ?_)
  obtain ⟨v, rfl, hm⟩ := hq
  refine lv_aload_n X.1 X.2.1 dl_180 rfl (lv_at hl 1 rfl) ?_
  refine lw_ld X (k := 1) (by omega) hL dl_181 dl_182 dl_183 rfl dl_184 dl_185 hl hS ?_
  refine lw_ld X (k := 2) (by omega) hL dl_186 dl_187 dl_188 rfl dl_189 dl_190 hl hS ?_
  refine lw_call X (M' := M_M_method) (q := (25, 0)) (as := [.inl (xs (8 * j + 1)), .inl (xs (8 * j + 2))]) (st := [.int v]) hm mi_M_method wkL_26 rfl rfl (by decide) (by decide) dl_191 hP hS hl (Nat.le_of_ble_eq_true rfl) (fun r τ H1 locs1 hq hP hS => ?_)
  obtain ⟨rfl, hR⟩ := hq
  exact lv_icmp_eq (tgt := 688) X.1 X.2.1 dl_194 (by decide) (fun _ => kk τ H1 locs1 hR hP hS) (fun q => absurd rfl q)
theorem lc_3 {p : Program} {l : Launch} {e : Env} {s : State} {m : MethodId} {below : List Frame} {meth : Method} {c : Code} {b L : Nat} {xs : Nat → Int32} {ad : Nat → Nat} {D : va_G} {cI cS : ClassId} {H : Heap} {locs : List Loc} {ls : Array Slot} {j : Nat} {σ : mS} (X : lX p s m meth c b L xs ad D cI cS) (hL : L ≤ 4096) (hj : 8 * j + 8 ≤ L) (hl : lv_has ls 4 (lL b ad j)) (hP : va_P D vwCl (m_ws ad cI cS σ) H) (hS : va_S (LA s) s.heap H locs) (hR : ∃ π, RR π σ) (kk : ∀ (τ : mS) (H1 : Heap) (locs1 : List Loc), (∃ π, RR π τ) → va_P D vwCl (m_ws ad cI cS τ) H1 → va_S (LA s) s.heap H1 locs1 → W p l e room_1 s m #[Value.ref b] below meth c H1 locs1 600000 7302250 (lw_Z below #[Value.ref b] s) (F0 m 688 ls [])) : W p l e room_1 s m #[Value.ref b] below meth c H locs 600000 7302250 (lw_Z below #[Value.ref b] s) (F0 m 199 ls []) := by
  refine lv_aload_n X.1 X.2.1 dl_199 rfl (lv_at hl 2 rfl) ?_
  refine lw_ld X (k := 1) (by omega) hL dl_200 dl_201 dl_202 rfl dl_203 dl_204 hl hS ?_
  refine lw_ld X (k := 2) (by omega) hL dl_205 dl_206 dl_207 rfl dl_208 dl_209 hl hS ?_
  refine lw_ld X (k := 3) (by omega) hL dl_210 dl_211 dl_212 rfl dl_213 dl_214 hl hS ?_
  refine lw_ld X (k := 4) (by omega) hL dl_215 dl_216 dl_217 rfl dl_218 dl_219 hl hS ?_
  refine lw_ld X (k := 5) (by omega) hL dl_220 dl_221 dl_222 rfl dl_223 dl_224 hl hS ?_
  refine lw_ldb X (k := 6) (by omega) hL dl_225 dl_226 dl_227 rfl dl_229 dl_230 hl hS ?_
  refine lw_ldb X (k := 7) (by omega) hL dl_231 dl_232 dl_233 rfl dl_235 dl_236 hl hS ?_
  refine lw_call X (M' := M_O_statement) (q := (0, 0)) (as := [.inl (xs (8 * j + 1)), .inl (xs (8 * j + 2)), .inl (xs (8 * j + 3)), .inl (xs (8 * j + 4)), .inl (xs (8 * j + 5)), .inl (xs (8 * j + 6)), .inl (xs (8 * j + 7))]) (st := []) (pp_statement hR _ _ _ _ _ _ _) mi_O_statement wkL_27 rfl rfl (by decide) (by decide) dl_237 hP hS hl (Nat.le_of_ble_eq_true rfl) (fun r τ H1 locs1 hq hP hS => ?_)
  obtain ⟨v, rfl, hm⟩ := hq
  refine lv_aload_n X.1 X.2.1 dl_240 rfl (lv_at hl 1 rfl) ?_
  refine lw_ld X (k := 1) (by omega) hL dl_241 dl_242 dl_243 rfl dl_244 dl_245 hl hS ?_
  refine lw_ld X (k := 2) (by omega) hL dl_246 dl_247 dl_248 rfl dl_249 dl_250 hl hS ?_
  refine lw_ld X (k := 3) (by omega) hL dl_251 dl_252 dl_253 rfl dl_254 dl_255 hl hS ?_
  refine lw_ld X (k := 4) (by omega) hL dl_256 dl_257 dl_258 rfl dl_259 dl_260 hl hS ?_
  refine lw_ld X (k := 5) (by omega) hL dl_261 dl_262 dl_263 rfl dl_264 dl_265 hl hS ?_
  refine lw_ldb X (k := 6) (by omega) hL dl_266 dl_267 dl_268 rfl dl_270 dl_271 hl hS ?_
  refine lw_ldb X (k := 7) (by omega) hL dl_272 dl_273 dl_274 rfl dl_276 dl_277 hl hS ?_
  refine lw_call X (M' := M_M_statement) (q := (25, 0)) (as := [.inl (xs (8 * j + 1)), .inl (xs (8 * j + 2)), .inl (xs (8 * j + 3)), .inl (xs (8 * j + 4)), .inl (xs (8 * j + 5)), .inl (xs (8 * j + 6)), .inl (xs (8 * j + 7))]) (st := [.int v]) hm mi_M_statement wkL_31 rfl rfl (by decide) (by decide) dl_278 hP hS hl (Nat.le_of_ble_eq_true rfl) (fun r τ H1 locs1 hq hP hS => ?_)
  obtain ⟨rfl, hR⟩ := hq
  exact lv_icmp_eq (tgt := 688) X.1 X.2.1 dl_281 (by decide) (fun _ => kk τ H1 locs1 hR hP hS) (fun q => absurd rfl q)
theorem lc_4 {p : Program} {l : Launch} {e : Env} {s : State} {m : MethodId} {below : List Frame} {meth : Method} {c : Code} {b L : Nat} {xs : Nat → Int32} {ad : Nat → Nat} {D : va_G} {cI cS : ClassId} {H : Heap} {locs : List Loc} {ls : Array Slot} {j : Nat} {σ : mS} (X : lX p s m meth c b L xs ad D cI cS) (hL : L ≤ 4096) (hj : 8 * j + 8 ≤ L) (hl : lv_has ls 4 (lL b ad j)) (hP : va_P D vwCl (m_ws ad cI cS σ) H) (hS : va_S (LA s) s.heap H locs) (hR : ∃ π, RR π σ) (kk : ∀ (τ : mS) (H1 : Heap) (locs1 : List Loc), (∃ π, RR π τ) → va_P D vwCl (m_ws ad cI cS τ) H1 → va_S (LA s) s.heap H1 locs1 → W p l e room_1 s m #[Value.ref b] below meth c H1 locs1 600000 7302250 (lw_Z below #[Value.ref b] s) (F0 m 688 ls [])) : W p l e room_1 s m #[Value.ref b] below meth c H locs 600000 7302250 (lw_Z below #[Value.ref b] s) (F0 m 286 ls []) := by
  refine lv_aload_n X.1 X.2.1 dl_286 rfl (lv_at hl 2 rfl) ?_
  refine lw_ld X (k := 1) (by omega) hL dl_287 dl_288 dl_289 rfl dl_290 dl_291 hl hS ?_
  refine lw_call X (M' := M_O_mode) (q := (0, 0)) (as := [.inl (xs (8 * j + 1))]) (st := []) (pp_mode hR _) mi_O_mode wkL_32 rfl rfl (by decide) (by decide) dl_292 hP hS hl (Nat.le_of_ble_eq_true rfl) (fun r τ H1 locs1 hq hP hS => ?_)
  obtain ⟨v, rfl, hm⟩ := hq
  refine lv_aload_n X.1 X.2.1 dl_295 rfl (lv_at hl 1 rfl) ?_
  refine lw_ld X (k := 1) (by omega) hL dl_296 dl_297 dl_298 rfl dl_299 dl_300 hl hS ?_
  refine lw_call X (M' := M_M_mode) (q := (25, 0)) (as := [.inl (xs (8 * j + 1))]) (st := [.int v]) hm mi_M_mode wkL_35 rfl rfl (by decide) (by decide) dl_301 hP hS hl (Nat.le_of_ble_eq_true rfl) (fun r τ H1 locs1 hq hP hS => ?_)
  obtain ⟨rfl, hR⟩ := hq
  exact lv_icmp_eq (tgt := 688) X.1 X.2.1 dl_304 (by decide) (fun _ => kk τ H1 locs1 hR hP hS) (fun q => absurd rfl q)
theorem lc_5 {p : Program} {l : Launch} {e : Env} {s : State} {m : MethodId} {below : List Frame} {meth : Method} {c : Code} {b L : Nat} {xs : Nat → Int32} {ad : Nat → Nat} {D : va_G} {cI cS : ClassId} {H : Heap} {locs : List Loc} {ls : Array Slot} {j : Nat} {σ : mS} (X : lX p s m meth c b L xs ad D cI cS) (hL : L ≤ 4096) (hj : 8 * j + 8 ≤ L) (hl : lv_has ls 4 (lL b ad j)) (hP : va_P D vwCl (m_ws ad cI cS σ) H) (hS : va_S (LA s) s.heap H locs) (hR : ∃ π, RR π σ) (kk : ∀ (τ : mS) (H1 : Heap) (locs1 : List Loc), (∃ π, RR π τ) → va_P D vwCl (m_ws ad cI cS τ) H1 → va_S (LA s) s.heap H1 locs1 → W p l e room_1 s m #[Value.ref b] below meth c H1 locs1 600000 7302250 (lw_Z below #[Value.ref b] s) (F0 m 688 ls [])) : W p l e room_1 s m #[Value.ref b] below meth c H locs 600000 7302250 (lw_Z below #[Value.ref b] s) (F0 m 309 ls []) := by
  refine lv_aload_n X.1 X.2.1 dl_309 rfl (lv_at hl 2 rfl) ?_
  refine lw_call X (M' := M_O_clear) (q := (0, 0)) (as := []) (st := []) (pp_clear hR) mi_O_clear wkL_36 rfl rfl (by decide) (by decide) dl_310 hP hS hl (Nat.le_of_ble_eq_true rfl) (fun r τ H1 locs1 hq hP hS => ?_)
  obtain ⟨v, rfl, hm⟩ := hq
  refine lv_aload_n X.1 X.2.1 dl_313 rfl (lv_at hl 1 rfl) ?_
  refine lw_call X (M' := M_M_clear) (q := (25, 0)) (as := []) (st := [.int v]) hm mi_M_clear wkL_40 rfl rfl (by decide) (by decide) dl_314 hP hS hl (Nat.le_of_ble_eq_true rfl) (fun r τ H1 locs1 hq hP hS => ?_)
  obtain ⟨rfl, hR⟩ := hq
  exact lv_icmp_eq (tgt := 688) X.1 X.2.1 dl_317 (by decide) (fun _ => kk τ H1 locs1 hR hP hS) (fun q => absurd rfl q)
theorem lc_6 {p : Program} {l : Launch} {e : Env} {s : State} {m : MethodId} {below : List Frame} {meth : Method} {c : Code} {b L : Nat} {xs : Nat → Int32} {ad : Nat → Nat} {D : va_G} {cI cS : ClassId} {H : Heap} {locs : List Loc} {ls : Array Slot} {j : Nat} {σ : mS} (X : lX p s m meth c b L xs ad D cI cS) (hL : L ≤ 4096) (hj : 8 * j + 8 ≤ L) (hl : lv_has ls 4 (lL b ad j)) (hP : va_P D vwCl (m_ws ad cI cS σ) H) (hS : va_S (LA s) s.heap H locs) (hR : ∃ π, RR π σ) (kk : ∀ (τ : mS) (H1 : Heap) (locs1 : List Loc), (∃ π, RR π τ) → va_P D vwCl (m_ws ad cI cS τ) H1 → va_S (LA s) s.heap H1 locs1 → W p l e room_1 s m #[Value.ref b] below meth c H1 locs1 600000 7302250 (lw_Z below #[Value.ref b] s) (F0 m 688 ls [])) : W p l e room_1 s m #[Value.ref b] below meth c H locs 600000 7302250 (lw_Z below #[Value.ref b] s) (F0 m 322 ls []) := by
  refine lv_aload_n X.1 X.2.1 dl_322 rfl (lv_at hl 2 rfl) ?_
  refine lw_ld X (k := 1) (by omega) hL dl_323 dl_324 dl_325 rfl dl_326 dl_327 hl hS ?_
  refine lw_ld X (k := 2) (by omega) hL dl_328 dl_329 dl_330 rfl dl_331 dl_332 hl hS ?_
  refine lw_ld X (k := 3) (by omega) hL dl_333 dl_334 dl_335 rfl dl_336 dl_337 hl hS ?_
  refine lw_call X (M' := M_O_points) (q := (0, 0)) (as := [.inl (xs (8 * j + 1)), .inl (xs (8 * j + 2)), .inl (xs (8 * j + 3))]) (st := []) (pp_points hR _ _ _) mi_O_points wkL_41 rfl rfl (by decide) (by decide) dl_338 hP hS hl (Nat.le_of_ble_eq_true rfl) (fun r τ H1 locs1 hq hP hS => ?_)
  obtain ⟨v, rfl, hm⟩ := hq
  refine lv_aload_n X.1 X.2.1 dl_341 rfl (lv_at hl 1 rfl) ?_
  refine lw_ld X (k := 1) (by omega) hL dl_342 dl_343 dl_344 rfl dl_345 dl_346 hl hS ?_
  refine lw_ld X (k := 2) (by omega) hL dl_347 dl_348 dl_349 rfl dl_350 dl_351 hl hS ?_
  refine lw_ld X (k := 3) (by omega) hL dl_352 dl_353 dl_354 rfl dl_355 dl_356 hl hS ?_
  refine lw_call X (M' := M_M_points) (q := (25, 0)) (as := [.inl (xs (8 * j + 1)), .inl (xs (8 * j + 2)), .inl (xs (8 * j + 3))]) (st := [.int v]) hm mi_M_points wkL_45 rfl rfl (by decide) (by decide) dl_357 hP hS hl (Nat.le_of_ble_eq_true rfl) (fun r τ H1 locs1 hq hP hS => ?_)
  obtain ⟨rfl, hR⟩ := hq
  exact lv_icmp_eq (tgt := 688) X.1 X.2.1 dl_360 (by decide) (fun _ => kk τ H1 locs1 hR hP hS) (fun q => absurd rfl q)
theorem lc_7 {p : Program} {l : Launch} {e : Env} {s : State} {m : MethodId} {below : List Frame} {meth : Method} {c : Code} {b L : Nat} {xs : Nat → Int32} {ad : Nat → Nat} {D : va_G} {cI cS : ClassId} {H : Heap} {locs : List Loc} {ls : Array Slot} {j : Nat} {σ : mS} (X : lX p s m meth c b L xs ad D cI cS) (hL : L ≤ 4096) (hj : 8 * j + 8 ≤ L) (hl : lv_has ls 4 (lL b ad j)) (hP : va_P D vwCl (m_ws ad cI cS σ) H) (hS : va_S (LA s) s.heap H locs) (hR : ∃ π, RR π σ) (kk : ∀ (τ : mS) (H1 : Heap) (locs1 : List Loc), (∃ π, RR π τ) → va_P D vwCl (m_ws ad cI cS τ) H1 → va_S (LA s) s.heap H1 locs1 → W p l e room_1 s m #[Value.ref b] below meth c H1 locs1 600000 7302250 (lw_Z below #[Value.ref b] s) (F0 m 688 ls [])) : W p l e room_1 s m #[Value.ref b] below meth c H locs 600000 7302250 (lw_Z below #[Value.ref b] s) (F0 m 365 ls []) := by
  refine lv_aload_n X.1 X.2.1 dl_365 rfl (lv_at hl 2 rfl) ?_
  refine lw_ld X (k := 1) (by omega) hL dl_366 dl_367 dl_368 rfl dl_369 dl_370 hl hS ?_
  refine lw_ld X (k := 2) (by omega) hL dl_371 dl_372 dl_373 rfl dl_374 dl_375 hl hS ?_
  refine lw_call X (M' := M_O_inField) (q := (0, 0)) (as := [.inl (xs (8 * j + 1)), .inl (xs (8 * j + 2))]) (st := []) (pp_inField hR _ _) mi_O_inField wkL_46 rfl rfl (by decide) (by decide) dl_376 hP hS hl (Nat.le_of_ble_eq_true rfl) (fun r τ H1 locs1 hq hP hS => ?_)
  obtain ⟨v, rfl, hm⟩ := hq
  refine lv_aload_n X.1 X.2.1 dl_379 rfl (lv_at hl 1 rfl) ?_
  refine lw_ld X (k := 1) (by omega) hL dl_380 dl_381 dl_382 rfl dl_383 dl_384 hl hS ?_
  refine lw_ld X (k := 2) (by omega) hL dl_385 dl_386 dl_387 rfl dl_388 dl_389 hl hS ?_
  refine lw_call X (M' := M_M_inField) (q := (25, 0)) (as := [.inl (xs (8 * j + 1)), .inl (xs (8 * j + 2))]) (st := [.int v]) hm mi_M_inField wkL_49 rfl rfl (by decide) (by decide) dl_390 hP hS hl (Nat.le_of_ble_eq_true rfl) (fun r τ H1 locs1 hq hP hS => ?_)
  obtain ⟨rfl, hR⟩ := hq
  exact lv_icmp_eq (tgt := 688) X.1 X.2.1 dl_393 (by decide) (fun _ => kk τ H1 locs1 hR hP hS) (fun q => absurd rfl q)
theorem lc_8 {p : Program} {l : Launch} {e : Env} {s : State} {m : MethodId} {below : List Frame} {meth : Method} {c : Code} {b L : Nat} {xs : Nat → Int32} {ad : Nat → Nat} {D : va_G} {cI cS : ClassId} {H : Heap} {locs : List Loc} {ls : Array Slot} {j : Nat} {σ : mS} (X : lX p s m meth c b L xs ad D cI cS) (hL : L ≤ 4096) (hj : 8 * j + 8 ≤ L) (hl : lv_has ls 4 (lL b ad j)) (hP : va_P D vwCl (m_ws ad cI cS σ) H) (hS : va_S (LA s) s.heap H locs) (hR : ∃ π, RR π σ) (kk : ∀ (τ : mS) (H1 : Heap) (locs1 : List Loc), (∃ π, RR π τ) → va_P D vwCl (m_ws ad cI cS τ) H1 → va_S (LA s) s.heap H1 locs1 → W p l e room_1 s m #[Value.ref b] below meth c H1 locs1 600000 7302250 (lw_Z below #[Value.ref b] s) (F0 m 688 ls [])) : W p l e room_1 s m #[Value.ref b] below meth c H locs 600000 7302250 (lw_Z below #[Value.ref b] s) (F0 m 398 ls []) := by
  refine lv_aload_n X.1 X.2.1 dl_398 rfl (lv_at hl 2 rfl) ?_
  refine lw_ld X (k := 1) (by omega) hL dl_399 dl_400 dl_401 rfl dl_402 dl_403 hl hS ?_
  refine lw_call X (M' := M_O_element) (q := (0, 0)) (as := [.inl (xs (8 * j + 1))]) (st := []) (pp_element hR _) mi_O_element wkL_50 rfl rfl (by decide) (by decide) dl_404 hP hS hl (Nat.le_of_ble_eq_true rfl) (fun r τ H1 locs1 hq hP hS => ?_)
  obtain ⟨v, rfl, hm⟩ := hq
  refine lv_aload_n X.1 X.2.1 dl_407 rfl (lv_at hl 1 rfl) ?_
  refine lw_ld X (k := 1) (by omega) hL dl_408 dl_409 dl_410 rfl dl_411 dl_412 hl hS ?_
  refine lw_call X (M' := M_M_element) (q := (25, 0)) (as := [.inl (xs (8 * j + 1))]) (st := [.int v]) hm mi_M_element wkL_53 rfl rfl (by decide) (by decide) dl_413 hP hS hl (Nat.le_of_ble_eq_true rfl) (fun r τ H1 locs1 hq hP hS => ?_)
  obtain ⟨rfl, hR⟩ := hq
  exact lv_icmp_eq (tgt := 688) X.1 X.2.1 dl_416 (by decide) (fun _ => kk τ H1 locs1 hR hP hS) (fun q => absurd rfl q)
theorem lc_9 {p : Program} {l : Launch} {e : Env} {s : State} {m : MethodId} {below : List Frame} {meth : Method} {c : Code} {b L : Nat} {xs : Nat → Int32} {ad : Nat → Nat} {D : va_G} {cI cS : ClassId} {H : Heap} {locs : List Loc} {ls : Array Slot} {j : Nat} {σ : mS} (X : lX p s m meth c b L xs ad D cI cS) (hL : L ≤ 4096) (hj : 8 * j + 8 ≤ L) (hl : lv_has ls 4 (lL b ad j)) (hP : va_P D vwCl (m_ws ad cI cS σ) H) (hS : va_S (LA s) s.heap H locs) (hR : ∃ π, RR π σ) (kk : ∀ (τ : mS) (H1 : Heap) (locs1 : List Loc), (∃ π, RR π τ) → va_P D vwCl (m_ws ad cI cS τ) H1 → va_S (LA s) s.heap H1 locs1 → W p l e room_1 s m #[Value.ref b] below meth c H1 locs1 600000 7302250 (lw_Z below #[Value.ref b] s) (F0 m 688 ls [])) : W p l e room_1 s m #[Value.ref b] below meth c H locs 600000 7302250 (lw_Z below #[Value.ref b] s) (F0 m 421 ls []) := by
  refine lv_aload_n X.1 X.2.1 dl_421 rfl (lv_at hl 2 rfl) ?_
  refine lw_ld X (k := 1) (by omega) hL dl_422 dl_423 dl_424 rfl dl_425 dl_426 hl hS ?_
  refine lw_call X (M' := M_O_inStatic) (q := (0, 0)) (as := [.inl (xs (8 * j + 1))]) (st := []) (pp_inStatic hR _) mi_O_inStatic wkL_54 rfl rfl (by decide) (by decide) dl_427 hP hS hl (Nat.le_of_ble_eq_true rfl) (fun r τ H1 locs1 hq hP hS => ?_)
  obtain ⟨v, rfl, hm⟩ := hq
  refine lv_aload_n X.1 X.2.1 dl_430 rfl (lv_at hl 1 rfl) ?_
  refine lw_ld X (k := 1) (by omega) hL dl_431 dl_432 dl_433 rfl dl_434 dl_435 hl hS ?_
  refine lw_call X (M' := M_M_inStatic) (q := (25, 0)) (as := [.inl (xs (8 * j + 1))]) (st := [.int v]) hm mi_M_inStatic wkL_57 rfl rfl (by decide) (by decide) dl_436 hP hS hl (Nat.le_of_ble_eq_true rfl) (fun r τ H1 locs1 hq hP hS => ?_)
  obtain ⟨rfl, hR⟩ := hq
  exact lv_icmp_eq (tgt := 688) X.1 X.2.1 dl_439 (by decide) (fun _ => kk τ H1 locs1 hR hP hS) (fun q => absurd rfl q)
theorem lc_10 {p : Program} {l : Launch} {e : Env} {s : State} {m : MethodId} {below : List Frame} {meth : Method} {c : Code} {b L : Nat} {xs : Nat → Int32} {ad : Nat → Nat} {D : va_G} {cI cS : ClassId} {H : Heap} {locs : List Loc} {ls : Array Slot} {j : Nat} {σ : mS} (X : lX p s m meth c b L xs ad D cI cS) (hL : L ≤ 4096) (hj : 8 * j + 8 ≤ L) (hl : lv_has ls 4 (lL b ad j)) (hP : va_P D vwCl (m_ws ad cI cS σ) H) (hS : va_S (LA s) s.heap H locs) (hR : ∃ π, RR π σ) (kk : ∀ (τ : mS) (H1 : Heap) (locs1 : List Loc), (∃ π, RR π τ) → va_P D vwCl (m_ws ad cI cS τ) H1 → va_S (LA s) s.heap H1 locs1 → W p l e room_1 s m #[Value.ref b] below meth c H1 locs1 600000 7302250 (lw_Z below #[Value.ref b] s) (F0 m 688 ls [])) : W p l e room_1 s m #[Value.ref b] below meth c H locs 600000 7302250 (lw_Z below #[Value.ref b] s) (F0 m 444 ls []) := by
  refine lv_aload_n X.1 X.2.1 dl_444 rfl (lv_at hl 2 rfl) ?_
  refine lw_ld X (k := 1) (by omega) hL dl_445 dl_446 dl_447 rfl dl_448 dl_449 hl hS ?_
  refine lw_call X (M' := M_O_reached) (q := (0, 0)) (as := [.inl (xs (8 * j + 1))]) (st := []) (pp_reached hR _) mi_O_reached wkL_58 rfl rfl (by decide) (by decide) dl_450 hP hS hl (Nat.le_of_ble_eq_true rfl) (fun r τ H1 locs1 hq hP hS => ?_)
  obtain ⟨v, rfl, hm⟩ := hq
  refine lv_aload_n X.1 X.2.1 dl_453 rfl (lv_at hl 1 rfl) ?_
  refine lw_ld X (k := 1) (by omega) hL dl_454 dl_455 dl_456 rfl dl_457 dl_458 hl hS ?_
  refine lw_call X (M' := M_M_reached) (q := (25, 0)) (as := [.inl (xs (8 * j + 1))]) (st := [.int v]) hm mi_M_reached wkL_61 rfl rfl (by decide) (by decide) dl_459 hP hS hl (Nat.le_of_ble_eq_true rfl) (fun r τ H1 locs1 hq hP hS => ?_)
  obtain ⟨rfl, hR⟩ := hq
  exact lv_icmp_eq (tgt := 688) X.1 X.2.1 dl_462 (by decide) (fun _ => kk τ H1 locs1 hR hP hS) (fun q => absurd rfl q)
theorem lc_11 {p : Program} {l : Launch} {e : Env} {s : State} {m : MethodId} {below : List Frame} {meth : Method} {c : Code} {b L : Nat} {xs : Nat → Int32} {ad : Nat → Nat} {D : va_G} {cI cS : ClassId} {H : Heap} {locs : List Loc} {ls : Array Slot} {j : Nat} {σ : mS} (X : lX p s m meth c b L xs ad D cI cS) (hL : L ≤ 4096) (hj : 8 * j + 8 ≤ L) (hl : lv_has ls 4 (lL b ad j)) (hP : va_P D vwCl (m_ws ad cI cS σ) H) (hS : va_S (LA s) s.heap H locs) (hR : ∃ π, RR π σ) (kk : ∀ (τ : mS) (H1 : Heap) (locs1 : List Loc), (∃ π, RR π τ) → va_P D vwCl (m_ws ad cI cS τ) H1 → va_S (LA s) s.heap H1 locs1 → W p l e room_1 s m #[Value.ref b] below meth c H1 locs1 600000 7302250 (lw_Z below #[Value.ref b] s) (F0 m 688 ls [])) : W p l e room_1 s m #[Value.ref b] below meth c H locs 600000 7302250 (lw_Z below #[Value.ref b] s) (F0 m 467 ls []) := by
  refine lv_aload_n X.1 X.2.1 dl_467 rfl (lv_at hl 2 rfl) ?_
  refine lw_ld X (k := 1) (by omega) hL dl_468 dl_469 dl_470 rfl dl_471 dl_472 hl hS ?_
  refine lw_call X (M' := M_O_may) (q := (0, 0)) (as := [.inl (xs (8 * j + 1))]) (st := []) (pp_may hR _) mi_O_may wkL_62 rfl rfl (by decide) (by decide) dl_473 hP hS hl (Nat.le_of_ble_eq_true rfl) (fun r τ H1 locs1 hq hP hS => ?_)
  obtain ⟨v, rfl, hm⟩ := hq
  refine lv_aload_n X.1 X.2.1 dl_476 rfl (lv_at hl 1 rfl) ?_
  refine lw_ld X (k := 1) (by omega) hL dl_477 dl_478 dl_479 rfl dl_480 dl_481 hl hS ?_
  refine lw_call X (M' := M_M_may) (q := (25, 0)) (as := [.inl (xs (8 * j + 1))]) (st := [.int v]) hm mi_M_may wkL_65 rfl rfl (by decide) (by decide) dl_482 hP hS hl (Nat.le_of_ble_eq_true rfl) (fun r τ H1 locs1 hq hP hS => ?_)
  obtain ⟨rfl, hR⟩ := hq
  exact lv_icmp_eq (tgt := 688) X.1 X.2.1 dl_485 (by decide) (fun _ => kk τ H1 locs1 hR hP hS) (fun q => absurd rfl q)
theorem lc_12 {p : Program} {l : Launch} {e : Env} {s : State} {m : MethodId} {below : List Frame} {meth : Method} {c : Code} {b L : Nat} {xs : Nat → Int32} {ad : Nat → Nat} {D : va_G} {cI cS : ClassId} {H : Heap} {locs : List Loc} {ls : Array Slot} {j : Nat} {σ : mS} (X : lX p s m meth c b L xs ad D cI cS) (hL : L ≤ 4096) (hj : 8 * j + 8 ≤ L) (hl : lv_has ls 4 (lL b ad j)) (hP : va_P D vwCl (m_ws ad cI cS σ) H) (hS : va_S (LA s) s.heap H locs) (hR : ∃ π, RR π σ) (kk : ∀ (τ : mS) (H1 : Heap) (locs1 : List Loc), (∃ π, RR π τ) → va_P D vwCl (m_ws ad cI cS τ) H1 → va_S (LA s) s.heap H1 locs1 → W p l e room_1 s m #[Value.ref b] below meth c H1 locs1 600000 7302250 (lw_Z below #[Value.ref b] s) (F0 m 688 ls [])) : W p l e room_1 s m #[Value.ref b] below meth c H locs 600000 7302250 (lw_Z below #[Value.ref b] s) (F0 m 490 ls []) := by
  refine lv_aload_n X.1 X.2.1 dl_490 rfl (lv_at hl 2 rfl) ?_
  refine lw_ld X (k := 1) (by omega) hL dl_491 dl_492 dl_493 rfl dl_494 dl_495 hl hS ?_
  refine lw_ld X (k := 2) (by omega) hL dl_496 dl_497 dl_498 rfl dl_499 dl_500 hl hS ?_
  refine lw_ld X (k := 3) (by omega) hL dl_501 dl_502 dl_503 rfl dl_504 dl_505 hl hS ?_
  refine lw_ld X (k := 4) (by omega) hL dl_506 dl_507 dl_508 rfl dl_509 dl_510 hl hS ?_
  refine lw_call X (M' := M_O_alias) (q := (0, 0)) (as := [.inl (xs (8 * j + 1)), .inl (xs (8 * j + 2)), .inl (xs (8 * j + 3)), .inl (xs (8 * j + 4))]) (st := []) (pp_alias hR _ _ _ _) mi_O_alias wkL_66 rfl rfl (by decide) (by decide) dl_511 hP hS hl (Nat.le_of_ble_eq_true rfl) (fun r τ H1 locs1 hq hP hS => ?_)
  obtain ⟨v, rfl, hm⟩ := hq
  refine lv_aload_n X.1 X.2.1 dl_514 rfl (lv_at hl 1 rfl) ?_
  refine lw_ld X (k := 1) (by omega) hL dl_515 dl_516 dl_517 rfl dl_518 dl_519 hl hS ?_
  refine lw_ld X (k := 2) (by omega) hL dl_520 dl_521 dl_522 rfl dl_523 dl_524 hl hS ?_
  refine lw_ld X (k := 3) (by omega) hL dl_525 dl_526 dl_527 rfl dl_528 dl_529 hl hS ?_
  refine lw_ld X (k := 4) (by omega) hL dl_530 dl_531 dl_532 rfl dl_533 dl_534 hl hS ?_
  refine lw_call X (M' := M_M_alias) (q := (25, 0)) (as := [.inl (xs (8 * j + 1)), .inl (xs (8 * j + 2)), .inl (xs (8 * j + 3)), .inl (xs (8 * j + 4))]) (st := [.int v]) hm mi_M_alias wkL_70 rfl rfl (by decide) (by decide) dl_535 hP hS hl (Nat.le_of_ble_eq_true rfl) (fun r τ H1 locs1 hq hP hS => ?_)
  obtain ⟨rfl, hR⟩ := hq
  exact lv_icmp_eq (tgt := 688) X.1 X.2.1 dl_538 (by decide) (fun _ => kk τ H1 locs1 hR hP hS) (fun q => absurd rfl q)
theorem lc_13 {p : Program} {l : Launch} {e : Env} {s : State} {m : MethodId} {below : List Frame} {meth : Method} {c : Code} {b L : Nat} {xs : Nat → Int32} {ad : Nat → Nat} {D : va_G} {cI cS : ClassId} {H : Heap} {locs : List Loc} {ls : Array Slot} {j : Nat} {σ : mS} (X : lX p s m meth c b L xs ad D cI cS) (hL : L ≤ 4096) (hj : 8 * j + 8 ≤ L) (hl : lv_has ls 4 (lL b ad j)) (hP : va_P D vwCl (m_ws ad cI cS σ) H) (hS : va_S (LA s) s.heap H locs) (hR : ∃ π, RR π σ) (kk : ∀ (τ : mS) (H1 : Heap) (locs1 : List Loc), (∃ π, RR π τ) → va_P D vwCl (m_ws ad cI cS τ) H1 → va_S (LA s) s.heap H1 locs1 → W p l e room_1 s m #[Value.ref b] below meth c H1 locs1 600000 7302250 (lw_Z below #[Value.ref b] s) (F0 m 688 ls [])) : W p l e room_1 s m #[Value.ref b] below meth c H locs 600000 7302250 (lw_Z below #[Value.ref b] s) (F0 m 543 ls []) := by
  refine lv_aload_n X.1 X.2.1 dl_543 rfl (lv_at hl 2 rfl) ?_
  refine lw_call X (M' := M_O_rounds) (q := (0, 0)) (as := []) (st := []) (pp_rounds hR) mi_O_rounds wkL_71 rfl rfl (by decide) (by decide) dl_544 hP hS hl (Nat.le_of_ble_eq_true rfl) (fun r τ H1 locs1 hq hP hS => ?_)
  obtain ⟨v, rfl, hm⟩ := hq
  refine lv_aload_n X.1 X.2.1 dl_547 rfl (lv_at hl 1 rfl) ?_
  refine lw_call X (M' := M_M_rounds) (q := (25, 0)) (as := []) (st := [.int v]) hm mi_M_rounds wkL_74 rfl rfl (by decide) (by decide) dl_548 hP hS hl (Nat.le_of_ble_eq_true rfl) (fun r τ H1 locs1 hq hP hS => ?_)
  obtain ⟨rfl, hR⟩ := hq
  exact lv_icmp_eq (tgt := 688) X.1 X.2.1 dl_551 (by decide) (fun _ => kk τ H1 locs1 hR hP hS) (fun q => absurd rfl q)
theorem lc_14 {p : Program} {l : Launch} {e : Env} {s : State} {m : MethodId} {below : List Frame} {meth : Method} {c : Code} {b L : Nat} {xs : Nat → Int32} {ad : Nat → Nat} {D : va_G} {cI cS : ClassId} {H : Heap} {locs : List Loc} {ls : Array Slot} {j : Nat} {σ : mS} (X : lX p s m meth c b L xs ad D cI cS) (hL : L ≤ 4096) (hj : 8 * j + 8 ≤ L) (hl : lv_has ls 4 (lL b ad j)) (hP : va_P D vwCl (m_ws ad cI cS σ) H) (hS : va_S (LA s) s.heap H locs) (hR : ∃ π, RR π σ) (kk : ∀ (τ : mS) (H1 : Heap) (locs1 : List Loc), (∃ π, RR π τ) → va_P D vwCl (m_ws ad cI cS τ) H1 → va_S (LA s) s.heap H1 locs1 → W p l e room_1 s m #[Value.ref b] below meth c H1 locs1 600000 7302250 (lw_Z below #[Value.ref b] s) (F0 m 688 ls [])) : W p l e room_1 s m #[Value.ref b] below meth c H locs 600000 7302250 (lw_Z below #[Value.ref b] s) (F0 m 556 ls []) := by
  refine lv_aload_n X.1 X.2.1 dl_556 rfl (lv_at hl 2 rfl) ?_
  refine lw_ld X (k := 1) (by omega) hL dl_557 dl_558 dl_559 rfl dl_560 dl_561 hl hS ?_
  refine lw_ld X (k := 2) (by omega) hL dl_562 dl_563 dl_564 rfl dl_565 dl_566 hl hS ?_
  refine lw_ld X (k := 3) (by omega) hL dl_567 dl_568 dl_569 rfl dl_570 dl_571 hl hS ?_
  refine lw_call X (M' := M_O_when) (q := (0, 0)) (as := [.inl (xs (8 * j + 1)), .inl (xs (8 * j + 2)), .inl (xs (8 * j + 3))]) (st := []) (pp_when hR _ _ _) mi_O_when wkL_75 rfl rfl (by decide) (by decide) dl_572 hP hS hl (Nat.le_of_ble_eq_true rfl) (fun r τ H1 locs1 hq hP hS => ?_)
  obtain ⟨v, rfl, hm⟩ := hq
  refine lv_aload_n X.1 X.2.1 dl_575 rfl (lv_at hl 1 rfl) ?_
  refine lw_ld X (k := 1) (by omega) hL dl_576 dl_577 dl_578 rfl dl_579 dl_580 hl hS ?_
  refine lw_ld X (k := 2) (by omega) hL dl_581 dl_582 dl_583 rfl dl_584 dl_585 hl hS ?_
  refine lw_ld X (k := 3) (by omega) hL dl_586 dl_587 dl_588 rfl dl_589 dl_590 hl hS ?_
  refine lw_call X (M' := M_M_when) (q := (25, 0)) (as := [.inl (xs (8 * j + 1)), .inl (xs (8 * j + 2)), .inl (xs (8 * j + 3))]) (st := [.int v]) hm mi_M_when wkL_78 rfl rfl (by decide) (by decide) dl_591 hP hS hl (Nat.le_of_ble_eq_true rfl) (fun r τ H1 locs1 hq hP hS => ?_)
  obtain ⟨rfl, hR⟩ := hq
  exact lv_icmp_eq (tgt := 688) X.1 X.2.1 dl_594 (by decide) (fun _ => kk τ H1 locs1 hR hP hS) (fun q => absurd rfl q)
theorem lc_15 {p : Program} {l : Launch} {e : Env} {s : State} {m : MethodId} {below : List Frame} {meth : Method} {c : Code} {b L : Nat} {xs : Nat → Int32} {ad : Nat → Nat} {D : va_G} {cI cS : ClassId} {H : Heap} {locs : List Loc} {ls : Array Slot} {j : Nat} {σ : mS} (X : lX p s m meth c b L xs ad D cI cS) (hL : L ≤ 4096) (hj : 8 * j + 8 ≤ L) (hl : lv_has ls 4 (lL b ad j)) (hP : va_P D vwCl (m_ws ad cI cS σ) H) (hS : va_S (LA s) s.heap H locs) (hR : ∃ π, RR π σ) (kk : ∀ (τ : mS) (H1 : Heap) (locs1 : List Loc), (∃ π, RR π τ) → va_P D vwCl (m_ws ad cI cS τ) H1 → va_S (LA s) s.heap H1 locs1 → W p l e room_1 s m #[Value.ref b] below meth c H1 locs1 600000 7302250 (lw_Z below #[Value.ref b] s) (F0 m 688 ls [])) : W p l e room_1 s m #[Value.ref b] below meth c H locs 600000 7302250 (lw_Z below #[Value.ref b] s) (F0 m 599 ls []) := by
  refine lv_aload_n X.1 X.2.1 dl_599 rfl (lv_at hl 2 rfl) ?_
  refine lw_ld X (k := 1) (by omega) hL dl_600 dl_601 dl_602 rfl dl_603 dl_604 hl hS ?_
  refine lw_ld X (k := 2) (by omega) hL dl_605 dl_606 dl_607 rfl dl_608 dl_609 hl hS ?_
  refine lw_call X (M' := M_O_run) (q := (0, 0)) (as := [.inl (xs (8 * j + 1)), .inl (xs (8 * j + 2))]) (st := []) (pp_run hR _ _) mi_O_run wkL_79 rfl rfl (by decide) (by decide) dl_610 hP hS hl (Nat.le_of_ble_eq_true rfl) (fun r τ H1 locs1 hq hP hS => ?_)
  obtain ⟨v, rfl, hm⟩ := hq
  refine lv_aload_n X.1 X.2.1 dl_613 rfl (lv_at hl 1 rfl) ?_
  refine lw_ld X (k := 1) (by omega) hL dl_614 dl_615 dl_616 rfl dl_617 dl_618 hl hS ?_
  refine lw_ld X (k := 2) (by omega) hL dl_619 dl_620 dl_621 rfl dl_622 dl_623 hl hS ?_
  refine lw_call X (M' := M_M_run) (q := (25, 0)) (as := [.inl (xs (8 * j + 1)), .inl (xs (8 * j + 2))]) (st := [.int v]) hm mi_M_run wkL_82 rfl rfl (by decide) (by decide) dl_624 hP hS hl (Nat.le_of_ble_eq_true rfl) (fun r τ H1 locs1 hq hP hS => ?_)
  obtain ⟨rfl, hR⟩ := hq
  exact lv_icmp_eq (tgt := 688) X.1 X.2.1 dl_627 (by decide) (fun _ => kk τ H1 locs1 hR hP hS) (fun q => absurd rfl q)
theorem lc_16 {p : Program} {l : Launch} {e : Env} {s : State} {m : MethodId} {below : List Frame} {meth : Method} {c : Code} {b L : Nat} {xs : Nat → Int32} {ad : Nat → Nat} {D : va_G} {cI cS : ClassId} {H : Heap} {locs : List Loc} {ls : Array Slot} {j : Nat} {σ : mS} (X : lX p s m meth c b L xs ad D cI cS) (hL : L ≤ 4096) (hj : 8 * j + 8 ≤ L) (hl : lv_has ls 4 (lL b ad j)) (hP : va_P D vwCl (m_ws ad cI cS σ) H) (hS : va_S (LA s) s.heap H locs) (hR : ∃ π, RR π σ) (kk : ∀ (τ : mS) (H1 : Heap) (locs1 : List Loc), (∃ π, RR π τ) → va_P D vwCl (m_ws ad cI cS τ) H1 → va_S (LA s) s.heap H1 locs1 → W p l e room_1 s m #[Value.ref b] below meth c H1 locs1 600000 7302250 (lw_Z below #[Value.ref b] s) (F0 m 688 ls [])) : W p l e room_1 s m #[Value.ref b] below meth c H locs 600000 7302250 (lw_Z below #[Value.ref b] s) (F0 m 632 ls []) := by
  refine lv_aload_n X.1 X.2.1 dl_632 rfl (lv_at hl 2 rfl) ?_
  refine lw_ld X (k := 1) (by omega) hL dl_633 dl_634 dl_635 rfl dl_636 dl_637 hl hS ?_
  refine lw_ld X (k := 2) (by omega) hL dl_638 dl_639 dl_640 rfl dl_641 dl_642 hl hS ?_
  refine lw_call X (M' := M_O_met) (q := (0, 0)) (as := [.inl (xs (8 * j + 1)), .inl (xs (8 * j + 2))]) (st := []) (pp_met hR _ _) mi_O_met wkL_83 rfl rfl (by decide) (by decide) dl_643 hP hS hl (Nat.le_of_ble_eq_true rfl) (fun r τ H1 locs1 hq hP hS => ?_)
  obtain ⟨v, rfl, hm⟩ := hq
  refine lv_aload_n X.1 X.2.1 dl_646 rfl (lv_at hl 1 rfl) ?_
  refine lw_ld X (k := 1) (by omega) hL dl_647 dl_648 dl_649 rfl dl_650 dl_651 hl hS ?_
  refine lw_ld X (k := 2) (by omega) hL dl_652 dl_653 dl_654 rfl dl_655 dl_656 hl hS ?_
  refine lw_call X (M' := M_M_met) (q := (25, 0)) (as := [.inl (xs (8 * j + 1)), .inl (xs (8 * j + 2))]) (st := [.int v]) hm mi_M_met wkL_86 rfl rfl (by decide) (by decide) dl_657 hP hS hl (Nat.le_of_ble_eq_true rfl) (fun r τ H1 locs1 hq hP hS => ?_)
  obtain ⟨rfl, hR⟩ := hq
  exact lv_icmp_eq (tgt := 688) X.1 X.2.1 dl_660 (by decide) (fun _ => kk τ H1 locs1 hR hP hS) (fun q => absurd rfl q)
theorem lc_17 {p : Program} {l : Launch} {e : Env} {s : State} {m : MethodId} {below : List Frame} {meth : Method} {c : Code} {b L : Nat} {xs : Nat → Int32} {ad : Nat → Nat} {D : va_G} {cI cS : ClassId} {H : Heap} {locs : List Loc} {ls : Array Slot} {j : Nat} {σ : mS} (X : lX p s m meth c b L xs ad D cI cS) (hL : L ≤ 4096) (hj : 8 * j + 8 ≤ L) (hl : lv_has ls 4 (lL b ad j)) (hP : va_P D vwCl (m_ws ad cI cS σ) H) (hS : va_S (LA s) s.heap H locs) (hR : ∃ π, RR π σ) (kk : ∀ (τ : mS) (H1 : Heap) (locs1 : List Loc), (∃ π, RR π τ) → va_P D vwCl (m_ws ad cI cS τ) H1 → va_S (LA s) s.heap H1 locs1 → W p l e room_1 s m #[Value.ref b] below meth c H1 locs1 600000 7302250 (lw_Z below #[Value.ref b] s) (F0 m 688 ls [])) : W p l e room_1 s m #[Value.ref b] below meth c H locs 600000 7302250 (lw_Z below #[Value.ref b] s) (F0 m 665 ls []) := by
  refine lv_aload_n X.1 X.2.1 dl_665 rfl (lv_at hl 2 rfl) ?_
  refine lw_ld X (k := 1) (by omega) hL dl_666 dl_667 dl_668 rfl dl_669 dl_670 hl hS ?_
  refine lw_call X (M' := M_O_ran) (q := (0, 0)) (as := [.inl (xs (8 * j + 1))]) (st := []) (pp_ran hR _) mi_O_ran wkL_87 rfl rfl (by decide) (by decide) dl_671 hP hS hl (Nat.le_of_ble_eq_true rfl) (fun r τ H1 locs1 hq hP hS => ?_)
  obtain ⟨v, rfl, hm⟩ := hq
  refine lv_aload_n X.1 X.2.1 dl_674 rfl (lv_at hl 1 rfl) ?_
  refine lw_ld X (k := 1) (by omega) hL dl_675 dl_676 dl_677 rfl dl_678 dl_679 hl hS ?_
  refine lw_call X (M' := M_M_ran) (q := (25, 0)) (as := [.inl (xs (8 * j + 1))]) (st := [.int v]) hm mi_M_ran wkL_90 rfl rfl (by decide) (by decide) dl_680 hP hS hl (Nat.le_of_ble_eq_true rfl) (fun r τ H1 locs1 hq hP hS => ?_)
  obtain ⟨rfl, hR⟩ := hq
  exact lv_icmp_eq (tgt := 688) X.1 X.2.1 dl_683 (by decide) (fun _ => kk τ H1 locs1 hR hP hS) (fun q => absurd rfl q)
