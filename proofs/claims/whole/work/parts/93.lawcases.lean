set_option maxRecDepth 100000 in
set_option maxHeartbeats 4000000 in
theorem law_case_0 {p : Program} {l : Launch} {e : Env} {s : State} {m : MethodId} {below : List Frame} {meth : Method} {c : Code} {D : va_G} {ct : Bool → ClassId} {aC aM : Nat → Nat} {b L : Nat} {xs : Nat → Int32} {i : Int32} {f : xM} {g : xN} {h : xM} {k : xN} {n : Nat} (hC : zC p s m meth c D ct aC aM b L xs) (hi1 : vp_in (i + (1 : Int32)) L) (hi2 : vp_in (i + (2 : Int32)) L) (hi3 : vp_in (i + (3 : Int32)) L) (hi4 : vp_in (i + (4 : Int32)) L) (hi5 : vp_in (i + (5 : Int32)) L) (hn : n ≤ 100) (hR : Rel n f g h k) (hk : ∀ f2 g2 h2 k2, Rel (n + 1) f2 g2 h2 k2 → Z p l e s m below meth c D ct aC aM b 1110 i [] f2 g2 h2 k2) : Z p l e s m below meth c D ct aC aM b 156 i [] f g h k := by
  refine Z.aload1 hC dL_law_156 ?_
  refine Z.aload0 hC dL_law_157 ?_
  refine Z.iload3 hC dL_law_158 ?_
  refine Z.iconst (v := (1 : Int32)) hC dL_law_159 (by decide) ?_
  refine Z.iadd hC dL_law_160 ?_
  refine Z.sld hC dL_law_161 hi1 ?_
  obtain ⟨F, a, a2, h1, h2, h3, hR2⟩ := e_write hn hR (xs (i + (1 : Int32)).toNatClampNeg)
  refine Z.callC (μ := mX11_write) (As := [.int (xs (i + (1 : Int32)).toNatClampNeg)]) (st := []) (st1 := [.int a.1]) (r := some (.int a.1)) (f' := a.2) (g' := g) hC (tX11_write h1) (by decide) cwX11_write rfl rfl mlL_13 rfl (fun _ => rfl) (fun _ => rfl) rfl rfl (Nat.le_of_ble_eq_true rfl) dL_law_162 ?_
  refine Z.aload2 hC dL_law_165 ?_
  refine Z.aload0 hC dL_law_166 ?_
  refine Z.iload3 hC dL_law_167 ?_
  refine Z.iconst (v := (1 : Int32)) hC dL_law_168 (by decide) ?_
  refine Z.iadd hC dL_law_169 ?_
  refine Z.sld hC dL_law_170 hi1 ?_
  refine Z.callM (μ := mX12_write) (As := [.int (xs (i + (1 : Int32)).toNatClampNeg)]) (st := [.int a.1]) (st1 := [.int a2.1, .int a.1]) (r := some (.int a2.1)) (h' := a2.2) (k' := k) hC (tX12_write h2) (by decide) cwX12_write rfl rfl mlL_17 rfl (fun _ => rfl) (fun _ => rfl) rfl rfl (Nat.le_of_ble_eq_true rfl) dL_law_171 ?_
  refine Z.eqT (tgt := 1110) hC dL_law_174 (by decide) h3 ?_
  exact hk _ _ _ _ hR2
set_option maxRecDepth 100000 in
set_option maxHeartbeats 4000000 in
theorem law_case_1 {p : Program} {l : Launch} {e : Env} {s : State} {m : MethodId} {below : List Frame} {meth : Method} {c : Code} {D : va_G} {ct : Bool → ClassId} {aC aM : Nat → Nat} {b L : Nat} {xs : Nat → Int32} {i : Int32} {f : xM} {g : xN} {h : xM} {k : xN} {n : Nat} (hC : zC p s m meth c D ct aC aM b L xs) (hi1 : vp_in (i + (1 : Int32)) L) (hi2 : vp_in (i + (2 : Int32)) L) (hi3 : vp_in (i + (3 : Int32)) L) (hi4 : vp_in (i + (4 : Int32)) L) (hi5 : vp_in (i + (5 : Int32)) L) (hn : n ≤ 100) (hR : Rel n f g h k) (hk : ∀ f2 g2 h2 k2, Rel (n + 1) f2 g2 h2 k2 → Z p l e s m below meth c D ct aC aM b 1110 i [] f2 g2 h2 k2) : Z p l e s m below meth c D ct aC aM b 179 i [] f g h k := by
  refine Z.aload1 hC dL_law_179 ?_
  obtain ⟨F, a, a2, h1, h2, h3, hR2⟩ := e_wipe hn hR
  refine Z.callC (μ := mX11_wipe) (As := []) (st := []) (st1 := [.int a.1]) (r := some (.int a.1)) (f' := a.2) (g' := g) hC (tX11_wipe h1) (by decide) cwX11_wipe rfl rfl mlL_18 rfl (fun _ => rfl) (fun _ => rfl) rfl rfl (Nat.le_of_ble_eq_true rfl) dL_law_180 ?_
  refine Z.aload2 hC dL_law_183 ?_
  refine Z.callM (μ := mX12_wipe) (As := []) (st := [.int a.1]) (st1 := [.int a2.1, .int a.1]) (r := some (.int a2.1)) (h' := a2.2) (k' := k) hC (tX12_wipe h2) (by decide) cwX12_wipe rfl rfl mlL_22 rfl (fun _ => rfl) (fun _ => rfl) rfl rfl (Nat.le_of_ble_eq_true rfl) dL_law_184 ?_
  refine Z.eqT (tgt := 1110) hC dL_law_187 (by decide) h3 ?_
  exact hk _ _ _ _ hR2
set_option maxRecDepth 100000 in
set_option maxHeartbeats 4000000 in
theorem law_case_2 {p : Program} {l : Launch} {e : Env} {s : State} {m : MethodId} {below : List Frame} {meth : Method} {c : Code} {D : va_G} {ct : Bool → ClassId} {aC aM : Nat → Nat} {b L : Nat} {xs : Nat → Int32} {i : Int32} {f : xM} {g : xN} {h : xM} {k : xN} {n : Nat} (hC : zC p s m meth c D ct aC aM b L xs) (hi1 : vp_in (i + (1 : Int32)) L) (hi2 : vp_in (i + (2 : Int32)) L) (hi3 : vp_in (i + (3 : Int32)) L) (hi4 : vp_in (i + (4 : Int32)) L) (hi5 : vp_in (i + (5 : Int32)) L) (hn : n ≤ 100) (hR : Rel n f g h k) (hk : ∀ f2 g2 h2 k2, Rel (n + 1) f2 g2 h2 k2 → Z p l e s m below meth c D ct aC aM b 1110 i [] f2 g2 h2 k2) : Z p l e s m below meth c D ct aC aM b 192 i [] f g h k := by
  refine Z.aload1 hC dL_law_192 ?_
  obtain ⟨F, a, a2, h1, h2, h3, hR2⟩ := e_fault hn hR
  refine Z.callC (μ := mX11_fault) (As := []) (st := []) (st1 := [.int a.1]) (r := some (.int a.1)) (f' := a.2) (g' := g) hC (tX11_fault h1) (by decide) cwX11_fault rfl rfl mlL_23 rfl (fun _ => rfl) (fun _ => rfl) rfl rfl (Nat.le_of_ble_eq_true rfl) dL_law_193 ?_
  refine Z.aload2 hC dL_law_196 ?_
  refine Z.callM (μ := mX12_fault) (As := []) (st := [.int a.1]) (st1 := [.int a2.1, .int a.1]) (r := some (.int a2.1)) (h' := a2.2) (k' := k) hC (tX12_fault h2) (by decide) cwX12_fault rfl rfl mlL_26 rfl (fun _ => rfl) (fun _ => rfl) rfl rfl (Nat.le_of_ble_eq_true rfl) dL_law_197 ?_
  refine Z.eqT (tgt := 1110) hC dL_law_200 (by decide) h3 ?_
  exact hk _ _ _ _ hR2
set_option maxRecDepth 100000 in
set_option maxHeartbeats 4000000 in
theorem law_case_3 {p : Program} {l : Launch} {e : Env} {s : State} {m : MethodId} {below : List Frame} {meth : Method} {c : Code} {D : va_G} {ct : Bool → ClassId} {aC aM : Nat → Nat} {b L : Nat} {xs : Nat → Int32} {i : Int32} {f : xM} {g : xN} {h : xM} {k : xN} {n : Nat} (hC : zC p s m meth c D ct aC aM b L xs) (hi1 : vp_in (i + (1 : Int32)) L) (hi2 : vp_in (i + (2 : Int32)) L) (hi3 : vp_in (i + (3 : Int32)) L) (hi4 : vp_in (i + (4 : Int32)) L) (hi5 : vp_in (i + (5 : Int32)) L) (hn : n ≤ 100) (hR : Rel n f g h k) (hk : ∀ f2 g2 h2 k2, Rel (n + 1) f2 g2 h2 k2 → Z p l e s m below meth c D ct aC aM b 1110 i [] f2 g2 h2 k2) : Z p l e s m below meth c D ct aC aM b 205 i [] f g h k := by
  refine Z.aload1 hC dL_law_205 ?_
  obtain ⟨F, a, a2, h1, h2, h3, hR2⟩ := e_paper hn hR
  refine Z.callC (μ := mX11_paper) (As := []) (st := []) (st1 := [.int a.1]) (r := some (.int a.1)) (f' := a.2) (g' := g) hC (tX11_paper h1) (by decide) cwX11_paper rfl rfl mlL_27 rfl (fun _ => rfl) (fun _ => rfl) rfl rfl (Nat.le_of_ble_eq_true rfl) dL_law_206 ?_
  refine Z.aload2 hC dL_law_209 ?_
  refine Z.callM (μ := mX12_paper) (As := []) (st := [.int a.1]) (st1 := [.int a2.1, .int a.1]) (r := some (.int a2.1)) (h' := a2.2) (k' := k) hC (tX12_paper h2) (by decide) cwX12_paper rfl rfl mlL_30 rfl (fun _ => rfl) (fun _ => rfl) rfl rfl (Nat.le_of_ble_eq_true rfl) dL_law_210 ?_
  refine Z.eqT (tgt := 1110) hC dL_law_213 (by decide) h3 ?_
  exact hk _ _ _ _ hR2
set_option maxRecDepth 100000 in
set_option maxHeartbeats 4000000 in
theorem law_case_4 {p : Program} {l : Launch} {e : Env} {s : State} {m : MethodId} {below : List Frame} {meth : Method} {c : Code} {D : va_G} {ct : Bool → ClassId} {aC aM : Nat → Nat} {b L : Nat} {xs : Nat → Int32} {i : Int32} {f : xM} {g : xN} {h : xM} {k : xN} {n : Nat} (hC : zC p s m meth c D ct aC aM b L xs) (hi1 : vp_in (i + (1 : Int32)) L) (hi2 : vp_in (i + (2 : Int32)) L) (hi3 : vp_in (i + (3 : Int32)) L) (hi4 : vp_in (i + (4 : Int32)) L) (hi5 : vp_in (i + (5 : Int32)) L) (hn : n ≤ 100) (hR : Rel n f g h k) (hk : ∀ f2 g2 h2 k2, Rel (n + 1) f2 g2 h2 k2 → Z p l e s m below meth c D ct aC aM b 1110 i [] f2 g2 h2 k2) : Z p l e s m below meth c D ct aC aM b 218 i [] f g h k := by
  refine Z.aload1 hC dL_law_218 ?_
  refine Z.aload0 hC dL_law_219 ?_
  refine Z.iload3 hC dL_law_220 ?_
  refine Z.iconst (v := (1 : Int32)) hC dL_law_221 (by decide) ?_
  refine Z.iadd hC dL_law_222 ?_
  refine Z.sld hC dL_law_223 hi1 ?_
  obtain ⟨F, a, a2, h1, h2, h3, hR2⟩ := e_about hn hR (xs (i + (1 : Int32)).toNatClampNeg)
  refine Z.callC (μ := mX11_about) (As := [.int (xs (i + (1 : Int32)).toNatClampNeg)]) (st := []) (st1 := [.int a]) (r := some (.int a)) (f' := f) (g' := g) hC (tX11_about h1) (by decide) cwX11_about rfl rfl mlL_31 rfl (fun _ => rfl) (fun _ => rfl) rfl rfl (Nat.le_of_ble_eq_true rfl) dL_law_224 ?_
  refine Z.aload2 hC dL_law_227 ?_
  refine Z.aload0 hC dL_law_228 ?_
  refine Z.iload3 hC dL_law_229 ?_
  refine Z.iconst (v := (1 : Int32)) hC dL_law_230 (by decide) ?_
  refine Z.iadd hC dL_law_231 ?_
  refine Z.sld hC dL_law_232 hi1 ?_
  refine Z.callM (μ := mX12_about) (As := [.int (xs (i + (1 : Int32)).toNatClampNeg)]) (st := [.int a]) (st1 := [.int a2.1, .int a]) (r := some (.int a2.1)) (h' := a2.2) (k' := k) hC (tX12_about h2) (by decide) cwX12_about rfl rfl mlL_34 rfl (fun _ => rfl) (fun _ => rfl) rfl rfl (Nat.le_of_ble_eq_true rfl) dL_law_233 ?_
  refine Z.eqT (tgt := 1110) hC dL_law_236 (by decide) h3 ?_
  exact hk _ _ _ _ hR2
set_option maxRecDepth 100000 in
set_option maxHeartbeats 4000000 in
theorem law_case_5 {p : Program} {l : Launch} {e : Env} {s : State} {m : MethodId} {below : List Frame} {meth : Method} {c : Code} {D : va_G} {ct : Bool → ClassId} {aC aM : Nat → Nat} {b L : Nat} {xs : Nat → Int32} {i : Int32} {f : xM} {g : xN} {h : xM} {k : xN} {n : Nat} (hC : zC p s m meth c D ct aC aM b L xs) (hi1 : vp_in (i + (1 : Int32)) L) (hi2 : vp_in (i + (2 : Int32)) L) (hi3 : vp_in (i + (3 : Int32)) L) (hi4 : vp_in (i + (4 : Int32)) L) (hi5 : vp_in (i + (5 : Int32)) L) (hn : n ≤ 100) (hR : Rel n f g h k) (hk : ∀ f2 g2 h2 k2, Rel (n + 1) f2 g2 h2 k2 → Z p l e s m below meth c D ct aC aM b 1110 i [] f2 g2 h2 k2) : Z p l e s m below meth c D ct aC aM b 241 i [] f g h k := by
  refine Z.aload1 hC dL_law_241 ?_
  refine Z.aload0 hC dL_law_242 ?_
  refine Z.iload3 hC dL_law_243 ?_
  refine Z.iconst (v := (1 : Int32)) hC dL_law_244 (by decide) ?_
  refine Z.iadd hC dL_law_245 ?_
  refine Z.sld hC dL_law_246 hi1 ?_
  obtain ⟨F, a, a2, h1, h2, h3, hR2⟩ := e_kind hn hR (xs (i + (1 : Int32)).toNatClampNeg)
  refine Z.callC (μ := mX11_kind) (As := [.int (xs (i + (1 : Int32)).toNatClampNeg)]) (st := []) (st1 := [.int a]) (r := some (.int a)) (f' := f) (g' := g) hC (tX11_kind h1) (by decide) cwX11_kind rfl rfl mlL_35 rfl (fun _ => rfl) (fun _ => rfl) rfl rfl (Nat.le_of_ble_eq_true rfl) dL_law_247 ?_
  refine Z.aload2 hC dL_law_250 ?_
  refine Z.aload0 hC dL_law_251 ?_
  refine Z.iload3 hC dL_law_252 ?_
  refine Z.iconst (v := (1 : Int32)) hC dL_law_253 (by decide) ?_
  refine Z.iadd hC dL_law_254 ?_
  refine Z.sld hC dL_law_255 hi1 ?_
  refine Z.callM (μ := mX12_kind) (As := [.int (xs (i + (1 : Int32)).toNatClampNeg)]) (st := [.int a]) (st1 := [.int a2.1, .int a]) (r := some (.int a2.1)) (h' := a2.2) (k' := k) hC (tX12_kind h2) (by decide) cwX12_kind rfl rfl mlL_38 rfl (fun _ => rfl) (fun _ => rfl) rfl rfl (Nat.le_of_ble_eq_true rfl) dL_law_256 ?_
  refine Z.eqT (tgt := 1110) hC dL_law_259 (by decide) h3 ?_
  exact hk _ _ _ _ hR2
set_option maxRecDepth 100000 in
set_option maxHeartbeats 4000000 in
theorem law_case_6 {p : Program} {l : Launch} {e : Env} {s : State} {m : MethodId} {below : List Frame} {meth : Method} {c : Code} {D : va_G} {ct : Bool → ClassId} {aC aM : Nat → Nat} {b L : Nat} {xs : Nat → Int32} {i : Int32} {f : xM} {g : xN} {h : xM} {k : xN} {n : Nat} (hC : zC p s m meth c D ct aC aM b L xs) (hi1 : vp_in (i + (1 : Int32)) L) (hi2 : vp_in (i + (2 : Int32)) L) (hi3 : vp_in (i + (3 : Int32)) L) (hi4 : vp_in (i + (4 : Int32)) L) (hi5 : vp_in (i + (5 : Int32)) L) (hn : n ≤ 100) (hR : Rel n f g h k) (hk : ∀ f2 g2 h2 k2, Rel (n + 1) f2 g2 h2 k2 → Z p l e s m below meth c D ct aC aM b 1110 i [] f2 g2 h2 k2) : Z p l e s m below meth c D ct aC aM b 264 i [] f g h k := by
  refine Z.aload1 hC dL_law_264 ?_
  refine Z.aload0 hC dL_law_265 ?_
  refine Z.iload3 hC dL_law_266 ?_
  refine Z.iconst (v := (1 : Int32)) hC dL_law_267 (by decide) ?_
  refine Z.iadd hC dL_law_268 ?_
  refine Z.sld hC dL_law_269 hi1 ?_
  refine Z.aload0 hC dL_law_270 ?_
  refine Z.iload3 hC dL_law_271 ?_
  refine Z.iconst (v := (2 : Int32)) hC dL_law_272 (by decide) ?_
  refine Z.iadd hC dL_law_273 ?_
  refine Z.sld hC dL_law_274 hi2 ?_
  obtain ⟨F, a, a2, h1, h2, h3, hR2⟩ := e_reader hn hR (xs (i + (1 : Int32)).toNatClampNeg) (xs (i + (2 : Int32)).toNatClampNeg)
  refine Z.callC (μ := mX11_reader) (As := [.int (xs (i + (1 : Int32)).toNatClampNeg), .int (xs (i + (2 : Int32)).toNatClampNeg)]) (st := []) (st1 := [.int a]) (r := some (.int a)) (f' := f) (g' := g) hC (tX11_reader h1) (by decide) cwX11_reader rfl rfl mlL_39 rfl (fun _ => rfl) (fun _ => rfl) rfl rfl (Nat.le_of_ble_eq_true rfl) dL_law_275 ?_
  refine Z.aload2 hC dL_law_278 ?_
  refine Z.aload0 hC dL_law_279 ?_
  refine Z.iload3 hC dL_law_280 ?_
  refine Z.iconst (v := (1 : Int32)) hC dL_law_281 (by decide) ?_
  refine Z.iadd hC dL_law_282 ?_
  refine Z.sld hC dL_law_283 hi1 ?_
  refine Z.aload0 hC dL_law_284 ?_
  refine Z.iload3 hC dL_law_285 ?_
  refine Z.iconst (v := (2 : Int32)) hC dL_law_286 (by decide) ?_
  refine Z.iadd hC dL_law_287 ?_
  refine Z.sld hC dL_law_288 hi2 ?_
  refine Z.callM (μ := mX12_reader) (As := [.int (xs (i + (1 : Int32)).toNatClampNeg), .int (xs (i + (2 : Int32)).toNatClampNeg)]) (st := [.int a]) (st1 := [.int a2.1, .int a]) (r := some (.int a2.1)) (h' := a2.2) (k' := k) hC (tX12_reader h2) (by decide) cwX12_reader rfl rfl mlL_43 rfl (fun _ => rfl) (fun _ => rfl) rfl rfl (Nat.le_of_ble_eq_true rfl) dL_law_289 ?_
  refine Z.eqT (tgt := 1110) hC dL_law_292 (by decide) h3 ?_
  exact hk _ _ _ _ hR2
set_option maxRecDepth 100000 in
set_option maxHeartbeats 4000000 in
theorem law_case_7 {p : Program} {l : Launch} {e : Env} {s : State} {m : MethodId} {below : List Frame} {meth : Method} {c : Code} {D : va_G} {ct : Bool → ClassId} {aC aM : Nat → Nat} {b L : Nat} {xs : Nat → Int32} {i : Int32} {f : xM} {g : xN} {h : xM} {k : xN} {n : Nat} (hC : zC p s m meth c D ct aC aM b L xs) (hi1 : vp_in (i + (1 : Int32)) L) (hi2 : vp_in (i + (2 : Int32)) L) (hi3 : vp_in (i + (3 : Int32)) L) (hi4 : vp_in (i + (4 : Int32)) L) (hi5 : vp_in (i + (5 : Int32)) L) (hn : n ≤ 100) (hR : Rel n f g h k) (hk : ∀ f2 g2 h2 k2, Rel (n + 1) f2 g2 h2 k2 → Z p l e s m below meth c D ct aC aM b 1110 i [] f2 g2 h2 k2) : Z p l e s m below meth c D ct aC aM b 297 i [] f g h k := by
  refine Z.aload1 hC dL_law_297 ?_
  refine Z.aload0 hC dL_law_298 ?_
  refine Z.iload3 hC dL_law_299 ?_
  refine Z.iconst (v := (1 : Int32)) hC dL_law_300 (by decide) ?_
  refine Z.iadd hC dL_law_301 ?_
  refine Z.sld hC dL_law_302 hi1 ?_
  refine Z.aload0 hC dL_law_303 ?_
  refine Z.iload3 hC dL_law_304 ?_
  refine Z.iconst (v := (2 : Int32)) hC dL_law_305 (by decide) ?_
  refine Z.iadd hC dL_law_306 ?_
  refine Z.sld hC dL_law_307 hi2 ?_
  refine Z.aload0 hC dL_law_308 ?_
  refine Z.iload3 hC dL_law_309 ?_
  refine Z.iconst (v := (3 : Int32)) hC dL_law_310 (by decide) ?_
  refine Z.iadd hC dL_law_311 ?_
  refine Z.sld hC dL_law_312 hi3 ?_
  obtain ⟨F, a, a2, h1, h2, h3, hR2⟩ := e_print hn hR (xs (i + (1 : Int32)).toNatClampNeg) (xs (i + (2 : Int32)).toNatClampNeg) (xs (i + (3 : Int32)).toNatClampNeg)
  refine Z.callC (μ := mX11_print) (As := [.int (xs (i + (1 : Int32)).toNatClampNeg), .int (xs (i + (2 : Int32)).toNatClampNeg), .int (xs (i + (3 : Int32)).toNatClampNeg)]) (st := []) (st1 := [.int a.1]) (r := some (.int a.1)) (f' := a.2) (g' := g) hC (tX11_print h1) (by decide) cwX11_print rfl rfl mlL_44 rfl (fun _ => rfl) (fun _ => rfl) rfl rfl (Nat.le_of_ble_eq_true rfl) dL_law_313 ?_
  refine Z.aload2 hC dL_law_316 ?_
  refine Z.aload0 hC dL_law_317 ?_
  refine Z.iload3 hC dL_law_318 ?_
  refine Z.iconst (v := (1 : Int32)) hC dL_law_319 (by decide) ?_
  refine Z.iadd hC dL_law_320 ?_
  refine Z.sld hC dL_law_321 hi1 ?_
  refine Z.aload0 hC dL_law_322 ?_
  refine Z.iload3 hC dL_law_323 ?_
  refine Z.iconst (v := (2 : Int32)) hC dL_law_324 (by decide) ?_
  refine Z.iadd hC dL_law_325 ?_
  refine Z.sld hC dL_law_326 hi2 ?_
  refine Z.aload0 hC dL_law_327 ?_
  refine Z.iload3 hC dL_law_328 ?_
  refine Z.iconst (v := (3 : Int32)) hC dL_law_329 (by decide) ?_
  refine Z.iadd hC dL_law_330 ?_
  refine Z.sld hC dL_law_331 hi3 ?_
  refine Z.callM (μ := mX12_print) (As := [.int (xs (i + (1 : Int32)).toNatClampNeg), .int (xs (i + (2 : Int32)).toNatClampNeg), .int (xs (i + (3 : Int32)).toNatClampNeg)]) (st := [.int a.1]) (st1 := [.int a2.1, .int a.1]) (r := some (.int a2.1)) (h' := a2.2) (k' := k) hC (tX12_print h2) (by decide) cwX12_print rfl rfl mlL_48 rfl (fun _ => rfl) (fun _ => rfl) rfl rfl (Nat.le_of_ble_eq_true rfl) dL_law_332 ?_
  refine Z.eqT (tgt := 1110) hC dL_law_335 (by decide) h3 ?_
  exact hk _ _ _ _ hR2
set_option maxRecDepth 100000 in
set_option maxHeartbeats 4000000 in
theorem law_case_8 {p : Program} {l : Launch} {e : Env} {s : State} {m : MethodId} {below : List Frame} {meth : Method} {c : Code} {D : va_G} {ct : Bool → ClassId} {aC aM : Nat → Nat} {b L : Nat} {xs : Nat → Int32} {i : Int32} {f : xM} {g : xN} {h : xM} {k : xN} {n : Nat} (hC : zC p s m meth c D ct aC aM b L xs) (hi1 : vp_in (i + (1 : Int32)) L) (hi2 : vp_in (i + (2 : Int32)) L) (hi3 : vp_in (i + (3 : Int32)) L) (hi4 : vp_in (i + (4 : Int32)) L) (hi5 : vp_in (i + (5 : Int32)) L) (hn : n ≤ 100) (hR : Rel n f g h k) (hk : ∀ f2 g2 h2 k2, Rel (n + 1) f2 g2 h2 k2 → Z p l e s m below meth c D ct aC aM b 1110 i [] f2 g2 h2 k2) : Z p l e s m below meth c D ct aC aM b 340 i [] f g h k := by
  refine Z.aload1 hC dL_law_340 ?_
  obtain ⟨F, a, a2, h1, h2, h3, hR2⟩ := e_quiet hn hR
  refine Z.callC (μ := mX11_quiet) (As := []) (st := []) (st1 := [.int a.1]) (r := some (.int a.1)) (f' := a.2) (g' := g) hC (tX11_quiet h1) (by decide) cwX11_quiet rfl rfl mlL_49 rfl (fun _ => rfl) (fun _ => rfl) rfl rfl (Nat.le_of_ble_eq_true rfl) dL_law_341 ?_
  refine Z.aload2 hC dL_law_344 ?_
  refine Z.callM (μ := mX12_quiet) (As := []) (st := [.int a.1]) (st1 := [.int a2.1, .int a.1]) (r := some (.int a2.1)) (h' := a2.2) (k' := k) hC (tX12_quiet h2) (by decide) cwX12_quiet rfl rfl mlL_52 rfl (fun _ => rfl) (fun _ => rfl) rfl rfl (Nat.le_of_ble_eq_true rfl) dL_law_345 ?_
  refine Z.eqT (tgt := 1110) hC dL_law_348 (by decide) h3 ?_
  exact hk _ _ _ _ hR2
set_option maxRecDepth 100000 in
set_option maxHeartbeats 4000000 in
theorem law_case_9 {p : Program} {l : Launch} {e : Env} {s : State} {m : MethodId} {below : List Frame} {meth : Method} {c : Code} {D : va_G} {ct : Bool → ClassId} {aC aM : Nat → Nat} {b L : Nat} {xs : Nat → Int32} {i : Int32} {f : xM} {g : xN} {h : xM} {k : xN} {n : Nat} (hC : zC p s m meth c D ct aC aM b L xs) (hi1 : vp_in (i + (1 : Int32)) L) (hi2 : vp_in (i + (2 : Int32)) L) (hi3 : vp_in (i + (3 : Int32)) L) (hi4 : vp_in (i + (4 : Int32)) L) (hi5 : vp_in (i + (5 : Int32)) L) (hn : n ≤ 100) (hR : Rel n f g h k) (hk : ∀ f2 g2 h2 k2, Rel (n + 1) f2 g2 h2 k2 → Z p l e s m below meth c D ct aC aM b 1110 i [] f2 g2 h2 k2) : Z p l e s m below meth c D ct aC aM b 353 i [] f g h k := by
  refine Z.aload1 hC dL_law_353 ?_
  refine Z.aload0 hC dL_law_354 ?_
  refine Z.iload3 hC dL_law_355 ?_
  refine Z.iconst (v := (1 : Int32)) hC dL_law_356 (by decide) ?_
  refine Z.iadd hC dL_law_357 ?_
  refine Z.sld hC dL_law_358 hi1 ?_
  refine Z.aload0 hC dL_law_359 ?_
  refine Z.iload3 hC dL_law_360 ?_
  refine Z.iconst (v := (2 : Int32)) hC dL_law_361 (by decide) ?_
  refine Z.iadd hC dL_law_362 ?_
  refine Z.sld hC dL_law_363 hi2 ?_
  obtain ⟨F, a, a2, h1, h2, h3, hR2⟩ := e_tell hn hR (xs (i + (1 : Int32)).toNatClampNeg) (xs (i + (2 : Int32)).toNatClampNeg)
  refine Z.callC (μ := mX11_tell) (As := [.int (xs (i + (1 : Int32)).toNatClampNeg), .int (xs (i + (2 : Int32)).toNatClampNeg)]) (st := []) (st1 := [.int a.1]) (r := some (.int a.1)) (f' := a.2) (g' := g) hC (tX11_tell h1) (by decide) cwX11_tell rfl rfl mlL_53 rfl (fun _ => rfl) (fun _ => rfl) rfl rfl (Nat.le_of_ble_eq_true rfl) dL_law_364 ?_
  refine Z.aload2 hC dL_law_367 ?_
  refine Z.aload0 hC dL_law_368 ?_
  refine Z.iload3 hC dL_law_369 ?_
  refine Z.iconst (v := (1 : Int32)) hC dL_law_370 (by decide) ?_
  refine Z.iadd hC dL_law_371 ?_
  refine Z.sld hC dL_law_372 hi1 ?_
  refine Z.aload0 hC dL_law_373 ?_
  refine Z.iload3 hC dL_law_374 ?_
  refine Z.iconst (v := (2 : Int32)) hC dL_law_375 (by decide) ?_
  refine Z.iadd hC dL_law_376 ?_
  refine Z.sld hC dL_law_377 hi2 ?_
  refine Z.callM (μ := mX12_tell) (As := [.int (xs (i + (1 : Int32)).toNatClampNeg), .int (xs (i + (2 : Int32)).toNatClampNeg)]) (st := [.int a.1]) (st1 := [.int a2.1, .int a.1]) (r := some (.int a2.1)) (h' := a2.2) (k' := k) hC (tX12_tell h2) (by decide) cwX12_tell rfl rfl mlL_56 rfl (fun _ => rfl) (fun _ => rfl) rfl rfl (Nat.le_of_ble_eq_true rfl) dL_law_378 ?_
  refine Z.eqT (tgt := 1110) hC dL_law_381 (by decide) h3 ?_
  exact hk _ _ _ _ hR2
set_option maxRecDepth 100000 in
set_option maxHeartbeats 4000000 in
theorem law_case_10 {p : Program} {l : Launch} {e : Env} {s : State} {m : MethodId} {below : List Frame} {meth : Method} {c : Code} {D : va_G} {ct : Bool → ClassId} {aC aM : Nat → Nat} {b L : Nat} {xs : Nat → Int32} {i : Int32} {f : xM} {g : xN} {h : xM} {k : xN} {n : Nat} (hC : zC p s m meth c D ct aC aM b L xs) (hi1 : vp_in (i + (1 : Int32)) L) (hi2 : vp_in (i + (2 : Int32)) L) (hi3 : vp_in (i + (3 : Int32)) L) (hi4 : vp_in (i + (4 : Int32)) L) (hi5 : vp_in (i + (5 : Int32)) L) (hn : n ≤ 100) (hR : Rel n f g h k) (hk : ∀ f2 g2 h2 k2, Rel (n + 1) f2 g2 h2 k2 → Z p l e s m below meth c D ct aC aM b 1110 i [] f2 g2 h2 k2) : Z p l e s m below meth c D ct aC aM b 386 i [] f g h k := by
  refine Z.aload1 hC dL_law_386 ?_
  refine Z.aload0 hC dL_law_387 ?_
  refine Z.iload3 hC dL_law_388 ?_
  refine Z.iconst (v := (1 : Int32)) hC dL_law_389 (by decide) ?_
  refine Z.iadd hC dL_law_390 ?_
  refine Z.sld hC dL_law_391 hi1 ?_
  refine Z.aload0 hC dL_law_392 ?_
  refine Z.iload3 hC dL_law_393 ?_
  refine Z.iconst (v := (2 : Int32)) hC dL_law_394 (by decide) ?_
  refine Z.iadd hC dL_law_395 ?_
  refine Z.sld hC dL_law_396 hi2 ?_
  obtain ⟨F, a, a2, h1, h2, h3, hR2⟩ := e_learn hn hR (xs (i + (1 : Int32)).toNatClampNeg) (xs (i + (2 : Int32)).toNatClampNeg)
  refine Z.callC (μ := mX11_learn) (As := [.int (xs (i + (1 : Int32)).toNatClampNeg), .int (xs (i + (2 : Int32)).toNatClampNeg)]) (st := []) (st1 := [.int a.1]) (r := some (.int a.1)) (f' := a.2) (g' := g) hC (tX11_learn h1) (by decide) cwX11_learn rfl rfl mlL_57 rfl (fun _ => rfl) (fun _ => rfl) rfl rfl (Nat.le_of_ble_eq_true rfl) dL_law_397 ?_
  refine Z.aload2 hC dL_law_400 ?_
  refine Z.aload0 hC dL_law_401 ?_
  refine Z.iload3 hC dL_law_402 ?_
  refine Z.iconst (v := (1 : Int32)) hC dL_law_403 (by decide) ?_
  refine Z.iadd hC dL_law_404 ?_
  refine Z.sld hC dL_law_405 hi1 ?_
  refine Z.aload0 hC dL_law_406 ?_
  refine Z.iload3 hC dL_law_407 ?_
  refine Z.iconst (v := (2 : Int32)) hC dL_law_408 (by decide) ?_
  refine Z.iadd hC dL_law_409 ?_
  refine Z.sld hC dL_law_410 hi2 ?_
  refine Z.callM (μ := mX12_learn) (As := [.int (xs (i + (1 : Int32)).toNatClampNeg), .int (xs (i + (2 : Int32)).toNatClampNeg)]) (st := [.int a.1]) (st1 := [.int a2.1, .int a.1]) (r := some (.int a2.1)) (h' := a2.2) (k' := k) hC (tX12_learn h2) (by decide) cwX12_learn rfl rfl mlL_60 rfl (fun _ => rfl) (fun _ => rfl) rfl rfl (Nat.le_of_ble_eq_true rfl) dL_law_411 ?_
  refine Z.eqT (tgt := 1110) hC dL_law_414 (by decide) h3 ?_
  exact hk _ _ _ _ hR2
set_option maxRecDepth 100000 in
set_option maxHeartbeats 4000000 in
theorem law_case_11 {p : Program} {l : Launch} {e : Env} {s : State} {m : MethodId} {below : List Frame} {meth : Method} {c : Code} {D : va_G} {ct : Bool → ClassId} {aC aM : Nat → Nat} {b L : Nat} {xs : Nat → Int32} {i : Int32} {f : xM} {g : xN} {h : xM} {k : xN} {n : Nat} (hC : zC p s m meth c D ct aC aM b L xs) (hi1 : vp_in (i + (1 : Int32)) L) (hi2 : vp_in (i + (2 : Int32)) L) (hi3 : vp_in (i + (3 : Int32)) L) (hi4 : vp_in (i + (4 : Int32)) L) (hi5 : vp_in (i + (5 : Int32)) L) (hn : n ≤ 100) (hR : Rel n f g h k) (hk : ∀ f2 g2 h2 k2, Rel (n + 1) f2 g2 h2 k2 → Z p l e s m below meth c D ct aC aM b 1110 i [] f2 g2 h2 k2) : Z p l e s m below meth c D ct aC aM b 419 i [] f g h k := by
  refine Z.aload1 hC dL_law_419 ?_
  obtain ⟨F, a, a2, h1, h2, h3, hR2⟩ := e_undo hn hR
  refine Z.callC (μ := mX11_undo) (As := []) (st := []) (st1 := [.int a.1]) (r := some (.int a.1)) (f' := a.2) (g' := g) hC (tX11_undo h1) (by decide) cwX11_undo rfl rfl mlL_61 rfl (fun _ => rfl) (fun _ => rfl) rfl rfl (Nat.le_of_ble_eq_true rfl) dL_law_420 ?_
  refine Z.aload2 hC dL_law_423 ?_
  refine Z.callM (μ := mX12_undo) (As := []) (st := [.int a.1]) (st1 := [.int a2.1, .int a.1]) (r := some (.int a2.1)) (h' := a2.2) (k' := k) hC (tX12_undo h2) (by decide) cwX12_undo rfl rfl mlL_64 rfl (fun _ => rfl) (fun _ => rfl) rfl rfl (Nat.le_of_ble_eq_true rfl) dL_law_424 ?_
  refine Z.eqT (tgt := 1110) hC dL_law_427 (by decide) h3 ?_
  exact hk _ _ _ _ hR2
set_option maxRecDepth 100000 in
set_option maxHeartbeats 4000000 in
theorem law_case_12 {p : Program} {l : Launch} {e : Env} {s : State} {m : MethodId} {below : List Frame} {meth : Method} {c : Code} {D : va_G} {ct : Bool → ClassId} {aC aM : Nat → Nat} {b L : Nat} {xs : Nat → Int32} {i : Int32} {f : xM} {g : xN} {h : xM} {k : xN} {n : Nat} (hC : zC p s m meth c D ct aC aM b L xs) (hi1 : vp_in (i + (1 : Int32)) L) (hi2 : vp_in (i + (2 : Int32)) L) (hi3 : vp_in (i + (3 : Int32)) L) (hi4 : vp_in (i + (4 : Int32)) L) (hi5 : vp_in (i + (5 : Int32)) L) (hn : n ≤ 100) (hR : Rel n f g h k) (hk : ∀ f2 g2 h2 k2, Rel (n + 1) f2 g2 h2 k2 → Z p l e s m below meth c D ct aC aM b 1110 i [] f2 g2 h2 k2) : Z p l e s m below meth c D ct aC aM b 432 i [] f g h k := by
  refine Z.aload1 hC dL_law_432 ?_
  refine Z.aload0 hC dL_law_433 ?_
  refine Z.iload3 hC dL_law_434 ?_
  refine Z.iconst (v := (1 : Int32)) hC dL_law_435 (by decide) ?_
  refine Z.iadd hC dL_law_436 ?_
  refine Z.sld hC dL_law_437 hi1 ?_
  refine Z.aload0 hC dL_law_438 ?_
  refine Z.iload3 hC dL_law_439 ?_
  refine Z.iconst (v := (2 : Int32)) hC dL_law_440 (by decide) ?_
  refine Z.iadd hC dL_law_441 ?_
  refine Z.sld hC dL_law_442 hi2 ?_
  refine Z.aload0 hC dL_law_443 ?_
  refine Z.iload3 hC dL_law_444 ?_
  refine Z.iconst (v := (3 : Int32)) hC dL_law_445 (by decide) ?_
  refine Z.iadd hC dL_law_446 ?_
  refine Z.sld hC dL_law_447 hi3 ?_
  refine Z.i2l hC dL_law_448 ?_
  refine Z.bipush (v := (32 : Int32)) hC dL_law_449 (by decide) ?_
  refine Z.lshl hC dL_law_451 ?_
  refine Z.aload0 hC dL_law_452 ?_
  refine Z.iload3 hC dL_law_453 ?_
  refine Z.iconst (v := (4 : Int32)) hC dL_law_454 (by decide) ?_
  refine Z.iadd hC dL_law_455 ?_
  refine Z.sld hC dL_law_456 hi4 ?_
  refine Z.i2l hC dL_law_457 ?_
  refine Z.ldc2 hC dL_law_458 lcL_65 ?_
  refine Z.land hC dL_law_461 ?_
  refine Z.lor hC dL_law_462 ?_
  obtain ⟨F, a, a2, h1, h2, h3, hR2⟩ := e_after hn hR (xs (i + (1 : Int32)).toNatClampNeg) (xs (i + (2 : Int32)).toNatClampNeg) (((xs (i + (3 : Int32)).toNatClampNeg).toInt64 <<< ((32 : Int32).toInt64 &&& 63)) ||| ((xs (i + (4 : Int32)).toNatClampNeg).toInt64 &&& (4294967295 : Int64)))
  refine Z.callC (μ := mX11_after) (As := [.int (xs (i + (1 : Int32)).toNatClampNeg), .int (xs (i + (2 : Int32)).toNatClampNeg), .long (((xs (i + (3 : Int32)).toNatClampNeg).toInt64 <<< ((32 : Int32).toInt64 &&& 63)) ||| ((xs (i + (4 : Int32)).toNatClampNeg).toInt64 &&& (4294967295 : Int64)))]) (st := []) (st1 := [.int a.1]) (r := some (.int a.1)) (f' := a.2) (g' := g) hC (tX11_after h1) (by decide) cwX11_after rfl rfl mlL_67 rfl (fun _ => rfl) (fun _ => rfl) rfl rfl (Nat.le_of_ble_eq_true rfl) dL_law_463 ?_
  refine Z.aload2 hC dL_law_466 ?_
  refine Z.aload0 hC dL_law_467 ?_
  refine Z.iload3 hC dL_law_468 ?_
  refine Z.iconst (v := (1 : Int32)) hC dL_law_469 (by decide) ?_
  refine Z.iadd hC dL_law_470 ?_
  refine Z.sld hC dL_law_471 hi1 ?_
  refine Z.aload0 hC dL_law_472 ?_
  refine Z.iload3 hC dL_law_473 ?_
  refine Z.iconst (v := (2 : Int32)) hC dL_law_474 (by decide) ?_
  refine Z.iadd hC dL_law_475 ?_
  refine Z.sld hC dL_law_476 hi2 ?_
  refine Z.aload0 hC dL_law_477 ?_
  refine Z.iload3 hC dL_law_478 ?_
  refine Z.iconst (v := (3 : Int32)) hC dL_law_479 (by decide) ?_
  refine Z.iadd hC dL_law_480 ?_
  refine Z.sld hC dL_law_481 hi3 ?_
  refine Z.i2l hC dL_law_482 ?_
  refine Z.bipush (v := (32 : Int32)) hC dL_law_483 (by decide) ?_
  refine Z.lshl hC dL_law_485 ?_
  refine Z.aload0 hC dL_law_486 ?_
  refine Z.iload3 hC dL_law_487 ?_
  refine Z.iconst (v := (4 : Int32)) hC dL_law_488 (by decide) ?_
  refine Z.iadd hC dL_law_489 ?_
  refine Z.sld hC dL_law_490 hi4 ?_
  refine Z.i2l hC dL_law_491 ?_
  refine Z.ldc2 hC dL_law_492 lcL_65 ?_
  refine Z.land hC dL_law_495 ?_
  refine Z.lor hC dL_law_496 ?_
  refine Z.callM (μ := mX12_after) (As := [.int (xs (i + (1 : Int32)).toNatClampNeg), .int (xs (i + (2 : Int32)).toNatClampNeg), .long (((xs (i + (3 : Int32)).toNatClampNeg).toInt64 <<< ((32 : Int32).toInt64 &&& 63)) ||| ((xs (i + (4 : Int32)).toNatClampNeg).toInt64 &&& (4294967295 : Int64)))]) (st := [.int a.1]) (st1 := [.int a2.1, .int a.1]) (r := some (.int a2.1)) (h' := a2.2) (k' := k) hC (tX12_after h2) (by decide) cwX12_after rfl rfl mlL_71 rfl (fun _ => rfl) (fun _ => rfl) rfl rfl (Nat.le_of_ble_eq_true rfl) dL_law_497 ?_
  refine Z.eqT (tgt := 1110) hC dL_law_500 (by decide) h3 ?_
  exact hk _ _ _ _ hR2
set_option maxRecDepth 100000 in
set_option maxHeartbeats 4000000 in
theorem law_case_13 {p : Program} {l : Launch} {e : Env} {s : State} {m : MethodId} {below : List Frame} {meth : Method} {c : Code} {D : va_G} {ct : Bool → ClassId} {aC aM : Nat → Nat} {b L : Nat} {xs : Nat → Int32} {i : Int32} {f : xM} {g : xN} {h : xM} {k : xN} {n : Nat} (hC : zC p s m meth c D ct aC aM b L xs) (hi1 : vp_in (i + (1 : Int32)) L) (hi2 : vp_in (i + (2 : Int32)) L) (hi3 : vp_in (i + (3 : Int32)) L) (hi4 : vp_in (i + (4 : Int32)) L) (hi5 : vp_in (i + (5 : Int32)) L) (hn : n ≤ 100) (hR : Rel n f g h k) (hk : ∀ f2 g2 h2 k2, Rel (n + 1) f2 g2 h2 k2 → Z p l e s m below meth c D ct aC aM b 1110 i [] f2 g2 h2 k2) : Z p l e s m below meth c D ct aC aM b 505 i [] f g h k := by
  refine Z.aload1 hC dL_law_505 ?_
  refine Z.aload0 hC dL_law_506 ?_
  refine Z.iload3 hC dL_law_507 ?_
  refine Z.iconst (v := (1 : Int32)) hC dL_law_508 (by decide) ?_
  refine Z.iadd hC dL_law_509 ?_
  refine Z.sld hC dL_law_510 hi1 ?_
  obtain ⟨F, a, a2, h1, h2, h3, hR2⟩ := e_righted hn hR (xs (i + (1 : Int32)).toNatClampNeg)
  refine Z.callC (μ := mX11_righted) (As := [.int (xs (i + (1 : Int32)).toNatClampNeg)]) (st := []) (st1 := [.int a.1]) (r := some (.int a.1)) (f' := a.2) (g' := g) hC (tX11_righted h1) (by decide) cwX11_righted rfl rfl mlL_72 rfl (fun _ => rfl) (fun _ => rfl) rfl rfl (Nat.le_of_ble_eq_true rfl) dL_law_511 ?_
  refine Z.aload2 hC dL_law_514 ?_
  refine Z.aload0 hC dL_law_515 ?_
  refine Z.iload3 hC dL_law_516 ?_
  refine Z.iconst (v := (1 : Int32)) hC dL_law_517 (by decide) ?_
  refine Z.iadd hC dL_law_518 ?_
  refine Z.sld hC dL_law_519 hi1 ?_
  refine Z.callM (μ := mX12_righted) (As := [.int (xs (i + (1 : Int32)).toNatClampNeg)]) (st := [.int a.1]) (st1 := [.int a2.1, .int a.1]) (r := some (.int a2.1)) (h' := a2.2) (k' := k) hC (tX12_righted h2) (by decide) cwX12_righted rfl rfl mlL_75 rfl (fun _ => rfl) (fun _ => rfl) rfl rfl (Nat.le_of_ble_eq_true rfl) dL_law_520 ?_
  refine Z.eqT (tgt := 1110) hC dL_law_523 (by decide) h3 ?_
  exact hk _ _ _ _ hR2
set_option maxRecDepth 100000 in
set_option maxHeartbeats 4000000 in
theorem law_case_14 {p : Program} {l : Launch} {e : Env} {s : State} {m : MethodId} {below : List Frame} {meth : Method} {c : Code} {D : va_G} {ct : Bool → ClassId} {aC aM : Nat → Nat} {b L : Nat} {xs : Nat → Int32} {i : Int32} {f : xM} {g : xN} {h : xM} {k : xN} {n : Nat} (hC : zC p s m meth c D ct aC aM b L xs) (hi1 : vp_in (i + (1 : Int32)) L) (hi2 : vp_in (i + (2 : Int32)) L) (hi3 : vp_in (i + (3 : Int32)) L) (hi4 : vp_in (i + (4 : Int32)) L) (hi5 : vp_in (i + (5 : Int32)) L) (hn : n ≤ 100) (hR : Rel n f g h k) (hk : ∀ f2 g2 h2 k2, Rel (n + 1) f2 g2 h2 k2 → Z p l e s m below meth c D ct aC aM b 1110 i [] f2 g2 h2 k2) : Z p l e s m below meth c D ct aC aM b 528 i [] f g h k := by
  refine Z.aload1 hC dL_law_528 ?_
  refine Z.aload0 hC dL_law_529 ?_
  refine Z.iload3 hC dL_law_530 ?_
  refine Z.iconst (v := (1 : Int32)) hC dL_law_531 (by decide) ?_
  refine Z.iadd hC dL_law_532 ?_
  refine Z.sld hC dL_law_533 hi1 ?_
  obtain ⟨F, a, a2, h1, h2, h3, hR2⟩ := e_allRighted hn hR (xs (i + (1 : Int32)).toNatClampNeg)
  refine Z.callC (μ := mX11_allRighted) (As := [.int (xs (i + (1 : Int32)).toNatClampNeg)]) (st := []) (st1 := [.int a.1]) (r := some (.int a.1)) (f' := a.2) (g' := g) hC (tX11_allRighted h1) (by decide) cwX11_allRighted rfl rfl mlL_76 rfl (fun _ => rfl) (fun _ => rfl) rfl rfl (Nat.le_of_ble_eq_true rfl) dL_law_534 ?_
  refine Z.aload2 hC dL_law_537 ?_
  refine Z.aload0 hC dL_law_538 ?_
  refine Z.iload3 hC dL_law_539 ?_
  refine Z.iconst (v := (1 : Int32)) hC dL_law_540 (by decide) ?_
  refine Z.iadd hC dL_law_541 ?_
  refine Z.sld hC dL_law_542 hi1 ?_
  refine Z.callM (μ := mX12_allRighted) (As := [.int (xs (i + (1 : Int32)).toNatClampNeg)]) (st := [.int a.1]) (st1 := [.int a2.1, .int a.1]) (r := some (.int a2.1)) (h' := a2.2) (k' := k) hC (tX12_allRighted h2) (by decide) cwX12_allRighted rfl rfl mlL_79 rfl (fun _ => rfl) (fun _ => rfl) rfl rfl (Nat.le_of_ble_eq_true rfl) dL_law_543 ?_
  refine Z.eqT (tgt := 1110) hC dL_law_546 (by decide) h3 ?_
  exact hk _ _ _ _ hR2
set_option maxRecDepth 100000 in
set_option maxHeartbeats 4000000 in
theorem law_case_15 {p : Program} {l : Launch} {e : Env} {s : State} {m : MethodId} {below : List Frame} {meth : Method} {c : Code} {D : va_G} {ct : Bool → ClassId} {aC aM : Nat → Nat} {b L : Nat} {xs : Nat → Int32} {i : Int32} {f : xM} {g : xN} {h : xM} {k : xN} {n : Nat} (hC : zC p s m meth c D ct aC aM b L xs) (hi1 : vp_in (i + (1 : Int32)) L) (hi2 : vp_in (i + (2 : Int32)) L) (hi3 : vp_in (i + (3 : Int32)) L) (hi4 : vp_in (i + (4 : Int32)) L) (hi5 : vp_in (i + (5 : Int32)) L) (hn : n ≤ 100) (hR : Rel n f g h k) (hk : ∀ f2 g2 h2 k2, Rel (n + 1) f2 g2 h2 k2 → Z p l e s m below meth c D ct aC aM b 1110 i [] f2 g2 h2 k2) : Z p l e s m below meth c D ct aC aM b 551 i [] f g h k := by
  refine Z.aload1 hC dL_law_551 ?_
  refine Z.aload0 hC dL_law_552 ?_
  refine Z.iload3 hC dL_law_553 ?_
  refine Z.iconst (v := (1 : Int32)) hC dL_law_554 (by decide) ?_
  refine Z.iadd hC dL_law_555 ?_
  refine Z.sld hC dL_law_556 hi1 ?_
  refine Z.aload0 hC dL_law_557 ?_
  refine Z.iload3 hC dL_law_558 ?_
  refine Z.iconst (v := (2 : Int32)) hC dL_law_559 (by decide) ?_
  refine Z.iadd hC dL_law_560 ?_
  refine Z.sld hC dL_law_561 hi2 ?_
  refine Z.i2l hC dL_law_562 ?_
  refine Z.bipush (v := (32 : Int32)) hC dL_law_563 (by decide) ?_
  refine Z.lshl hC dL_law_565 ?_
  refine Z.aload0 hC dL_law_566 ?_
  refine Z.iload3 hC dL_law_567 ?_
  refine Z.iconst (v := (3 : Int32)) hC dL_law_568 (by decide) ?_
  refine Z.iadd hC dL_law_569 ?_
  refine Z.sld hC dL_law_570 hi3 ?_
  refine Z.i2l hC dL_law_571 ?_
  refine Z.ldc2 hC dL_law_572 lcL_65 ?_
  refine Z.land hC dL_law_575 ?_
  refine Z.lor hC dL_law_576 ?_
  refine Z.aload0 hC dL_law_577 ?_
  refine Z.iload3 hC dL_law_578 ?_
  refine Z.iconst (v := (4 : Int32)) hC dL_law_579 (by decide) ?_
  refine Z.iadd hC dL_law_580 ?_
  refine Z.sld hC dL_law_581 hi4 ?_
  obtain ⟨F, a, a2, h1, h2, h3, hR2⟩ := e_ring hn hR (xs (i + (1 : Int32)).toNatClampNeg) (((xs (i + (2 : Int32)).toNatClampNeg).toInt64 <<< ((32 : Int32).toInt64 &&& 63)) ||| ((xs (i + (3 : Int32)).toNatClampNeg).toInt64 &&& (4294967295 : Int64))) (xs (i + (4 : Int32)).toNatClampNeg)
  refine Z.callC (μ := mX11_ring) (As := [.int (xs (i + (1 : Int32)).toNatClampNeg), .long (((xs (i + (2 : Int32)).toNatClampNeg).toInt64 <<< ((32 : Int32).toInt64 &&& 63)) ||| ((xs (i + (3 : Int32)).toNatClampNeg).toInt64 &&& (4294967295 : Int64))), .int (xs (i + (4 : Int32)).toNatClampNeg)]) (st := []) (st1 := [.int a.1]) (r := some (.int a.1)) (f' := a.2) (g' := g) hC (tX11_ring h1) (by decide) cwX11_ring rfl rfl mlL_80 rfl (fun _ => rfl) (fun _ => rfl) rfl rfl (Nat.le_of_ble_eq_true rfl) dL_law_582 ?_
  refine Z.aload2 hC dL_law_585 ?_
  refine Z.aload0 hC dL_law_586 ?_
  refine Z.iload3 hC dL_law_587 ?_
  refine Z.iconst (v := (1 : Int32)) hC dL_law_588 (by decide) ?_
  refine Z.iadd hC dL_law_589 ?_
  refine Z.sld hC dL_law_590 hi1 ?_
  refine Z.aload0 hC dL_law_591 ?_
  refine Z.iload3 hC dL_law_592 ?_
  refine Z.iconst (v := (2 : Int32)) hC dL_law_593 (by decide) ?_
  refine Z.iadd hC dL_law_594 ?_
  refine Z.sld hC dL_law_595 hi2 ?_
  refine Z.i2l hC dL_law_596 ?_
  refine Z.bipush (v := (32 : Int32)) hC dL_law_597 (by decide) ?_
  refine Z.lshl hC dL_law_599 ?_
  refine Z.aload0 hC dL_law_600 ?_
  refine Z.iload3 hC dL_law_601 ?_
  refine Z.iconst (v := (3 : Int32)) hC dL_law_602 (by decide) ?_
  refine Z.iadd hC dL_law_603 ?_
  refine Z.sld hC dL_law_604 hi3 ?_
  refine Z.i2l hC dL_law_605 ?_
  refine Z.ldc2 hC dL_law_606 lcL_65 ?_
  refine Z.land hC dL_law_609 ?_
  refine Z.lor hC dL_law_610 ?_
  refine Z.aload0 hC dL_law_611 ?_
  refine Z.iload3 hC dL_law_612 ?_
  refine Z.iconst (v := (4 : Int32)) hC dL_law_613 (by decide) ?_
  refine Z.iadd hC dL_law_614 ?_
  refine Z.sld hC dL_law_615 hi4 ?_
  refine Z.callM (μ := mX12_ring) (As := [.int (xs (i + (1 : Int32)).toNatClampNeg), .long (((xs (i + (2 : Int32)).toNatClampNeg).toInt64 <<< ((32 : Int32).toInt64 &&& 63)) ||| ((xs (i + (3 : Int32)).toNatClampNeg).toInt64 &&& (4294967295 : Int64))), .int (xs (i + (4 : Int32)).toNatClampNeg)]) (st := [.int a.1]) (st1 := [.int a2.1, .int a.1]) (r := some (.int a2.1)) (h' := a2.2) (k' := k) hC (tX12_ring h2) (by decide) cwX12_ring rfl rfl mlL_84 rfl (fun _ => rfl) (fun _ => rfl) rfl rfl (Nat.le_of_ble_eq_true rfl) dL_law_616 ?_
  refine Z.eqT (tgt := 1110) hC dL_law_619 (by decide) h3 ?_
  exact hk _ _ _ _ hR2
set_option maxRecDepth 100000 in
set_option maxHeartbeats 4000000 in
theorem law_case_16 {p : Program} {l : Launch} {e : Env} {s : State} {m : MethodId} {below : List Frame} {meth : Method} {c : Code} {D : va_G} {ct : Bool → ClassId} {aC aM : Nat → Nat} {b L : Nat} {xs : Nat → Int32} {i : Int32} {f : xM} {g : xN} {h : xM} {k : xN} {n : Nat} (hC : zC p s m meth c D ct aC aM b L xs) (hi1 : vp_in (i + (1 : Int32)) L) (hi2 : vp_in (i + (2 : Int32)) L) (hi3 : vp_in (i + (3 : Int32)) L) (hi4 : vp_in (i + (4 : Int32)) L) (hi5 : vp_in (i + (5 : Int32)) L) (hn : n ≤ 100) (hR : Rel n f g h k) (hk : ∀ f2 g2 h2 k2, Rel (n + 1) f2 g2 h2 k2 → Z p l e s m below meth c D ct aC aM b 1110 i [] f2 g2 h2 k2) : Z p l e s m below meth c D ct aC aM b 624 i [] f g h k := by
  refine Z.aload1 hC dL_law_624 ?_
  refine Z.aload0 hC dL_law_625 ?_
  refine Z.iload3 hC dL_law_626 ?_
  refine Z.iconst (v := (1 : Int32)) hC dL_law_627 (by decide) ?_
  refine Z.iadd hC dL_law_628 ?_
  refine Z.sld hC dL_law_629 hi1 ?_
  refine Z.aload0 hC dL_law_630 ?_
  refine Z.iload3 hC dL_law_631 ?_
  refine Z.iconst (v := (2 : Int32)) hC dL_law_632 (by decide) ?_
  refine Z.iadd hC dL_law_633 ?_
  refine Z.sld hC dL_law_634 hi2 ?_
  refine Z.i2l hC dL_law_635 ?_
  refine Z.bipush (v := (32 : Int32)) hC dL_law_636 (by decide) ?_
  refine Z.lshl hC dL_law_638 ?_
  refine Z.aload0 hC dL_law_639 ?_
  refine Z.iload3 hC dL_law_640 ?_
  refine Z.iconst (v := (3 : Int32)) hC dL_law_641 (by decide) ?_
  refine Z.iadd hC dL_law_642 ?_
  refine Z.sld hC dL_law_643 hi3 ?_
  refine Z.i2l hC dL_law_644 ?_
  refine Z.ldc2 hC dL_law_645 lcL_65 ?_
  refine Z.land hC dL_law_648 ?_
  refine Z.lor hC dL_law_649 ?_
  refine Z.aload0 hC dL_law_650 ?_
  refine Z.iload3 hC dL_law_651 ?_
  refine Z.iconst (v := (4 : Int32)) hC dL_law_652 (by decide) ?_
  refine Z.iadd hC dL_law_653 ?_
  refine Z.sld hC dL_law_654 hi4 ?_
  obtain ⟨F, a, a2, h1, h2, h3, hR2⟩ := e_first hn hR (xs (i + (1 : Int32)).toNatClampNeg) (((xs (i + (2 : Int32)).toNatClampNeg).toInt64 <<< ((32 : Int32).toInt64 &&& 63)) ||| ((xs (i + (3 : Int32)).toNatClampNeg).toInt64 &&& (4294967295 : Int64))) (xs (i + (4 : Int32)).toNatClampNeg)
  refine Z.callC (μ := mX11_first) (As := [.int (xs (i + (1 : Int32)).toNatClampNeg), .long (((xs (i + (2 : Int32)).toNatClampNeg).toInt64 <<< ((32 : Int32).toInt64 &&& 63)) ||| ((xs (i + (3 : Int32)).toNatClampNeg).toInt64 &&& (4294967295 : Int64))), .int (xs (i + (4 : Int32)).toNatClampNeg)]) (st := []) (st1 := [.int a.1]) (r := some (.int a.1)) (f' := a.2) (g' := g) hC (tX11_first h1) (by decide) cwX11_first rfl rfl mlL_85 rfl (fun _ => rfl) (fun _ => rfl) rfl rfl (Nat.le_of_ble_eq_true rfl) dL_law_655 ?_
  refine Z.aload2 hC dL_law_658 ?_
  refine Z.aload0 hC dL_law_659 ?_
  refine Z.iload3 hC dL_law_660 ?_
  refine Z.iconst (v := (1 : Int32)) hC dL_law_661 (by decide) ?_
  refine Z.iadd hC dL_law_662 ?_
  refine Z.sld hC dL_law_663 hi1 ?_
  refine Z.aload0 hC dL_law_664 ?_
  refine Z.iload3 hC dL_law_665 ?_
  refine Z.iconst (v := (2 : Int32)) hC dL_law_666 (by decide) ?_
  refine Z.iadd hC dL_law_667 ?_
  refine Z.sld hC dL_law_668 hi2 ?_
  refine Z.i2l hC dL_law_669 ?_
  refine Z.bipush (v := (32 : Int32)) hC dL_law_670 (by decide) ?_
  refine Z.lshl hC dL_law_672 ?_
  refine Z.aload0 hC dL_law_673 ?_
  refine Z.iload3 hC dL_law_674 ?_
  refine Z.iconst (v := (3 : Int32)) hC dL_law_675 (by decide) ?_
  refine Z.iadd hC dL_law_676 ?_
  refine Z.sld hC dL_law_677 hi3 ?_
  refine Z.i2l hC dL_law_678 ?_
  refine Z.ldc2 hC dL_law_679 lcL_65 ?_
  refine Z.land hC dL_law_682 ?_
  refine Z.lor hC dL_law_683 ?_
  refine Z.aload0 hC dL_law_684 ?_
  refine Z.iload3 hC dL_law_685 ?_
  refine Z.iconst (v := (4 : Int32)) hC dL_law_686 (by decide) ?_
  refine Z.iadd hC dL_law_687 ?_
  refine Z.sld hC dL_law_688 hi4 ?_
  refine Z.callM (μ := mX12_first) (As := [.int (xs (i + (1 : Int32)).toNatClampNeg), .long (((xs (i + (2 : Int32)).toNatClampNeg).toInt64 <<< ((32 : Int32).toInt64 &&& 63)) ||| ((xs (i + (3 : Int32)).toNatClampNeg).toInt64 &&& (4294967295 : Int64))), .int (xs (i + (4 : Int32)).toNatClampNeg)]) (st := [.int a.1]) (st1 := [.int a2.1, .int a.1]) (r := some (.int a2.1)) (h' := a2.2) (k' := k) hC (tX12_first h2) (by decide) cwX12_first rfl rfl mlL_88 rfl (fun _ => rfl) (fun _ => rfl) rfl rfl (Nat.le_of_ble_eq_true rfl) dL_law_689 ?_
  refine Z.eqT (tgt := 1110) hC dL_law_692 (by decide) h3 ?_
  exact hk _ _ _ _ hR2
set_option maxRecDepth 100000 in
set_option maxHeartbeats 4000000 in
theorem law_case_17 {p : Program} {l : Launch} {e : Env} {s : State} {m : MethodId} {below : List Frame} {meth : Method} {c : Code} {D : va_G} {ct : Bool → ClassId} {aC aM : Nat → Nat} {b L : Nat} {xs : Nat → Int32} {i : Int32} {f : xM} {g : xN} {h : xM} {k : xN} {n : Nat} (hC : zC p s m meth c D ct aC aM b L xs) (hi1 : vp_in (i + (1 : Int32)) L) (hi2 : vp_in (i + (2 : Int32)) L) (hi3 : vp_in (i + (3 : Int32)) L) (hi4 : vp_in (i + (4 : Int32)) L) (hi5 : vp_in (i + (5 : Int32)) L) (hn : n ≤ 100) (hR : Rel n f g h k) (hk : ∀ f2 g2 h2 k2, Rel (n + 1) f2 g2 h2 k2 → Z p l e s m below meth c D ct aC aM b 1110 i [] f2 g2 h2 k2) : Z p l e s m below meth c D ct aC aM b 697 i [] f g h k := by
  refine Z.aload1 hC dL_law_697 ?_
  refine Z.aload0 hC dL_law_698 ?_
  refine Z.iload3 hC dL_law_699 ?_
  refine Z.iconst (v := (1 : Int32)) hC dL_law_700 (by decide) ?_
  refine Z.iadd hC dL_law_701 ?_
  refine Z.sld hC dL_law_702 hi1 ?_
  refine Z.aload0 hC dL_law_703 ?_
  refine Z.iload3 hC dL_law_704 ?_
  refine Z.iconst (v := (2 : Int32)) hC dL_law_705 (by decide) ?_
  refine Z.iadd hC dL_law_706 ?_
  refine Z.sld hC dL_law_707 hi2 ?_
  refine Z.aload0 hC dL_law_708 ?_
  refine Z.iload3 hC dL_law_709 ?_
  refine Z.iconst (v := (3 : Int32)) hC dL_law_710 (by decide) ?_
  refine Z.iadd hC dL_law_711 ?_
  refine Z.sld hC dL_law_712 hi3 ?_
  refine Z.aload0 hC dL_law_713 ?_
  refine Z.iload3 hC dL_law_714 ?_
  refine Z.iconst (v := (4 : Int32)) hC dL_law_715 (by decide) ?_
  refine Z.iadd hC dL_law_716 ?_
  refine Z.sld hC dL_law_717 hi4 ?_
  obtain ⟨F, a, a2, h1, h2, h3, hR2⟩ := e_who hn hR (xs (i + (1 : Int32)).toNatClampNeg) (xs (i + (2 : Int32)).toNatClampNeg) (xs (i + (3 : Int32)).toNatClampNeg) (xs (i + (4 : Int32)).toNatClampNeg)
  refine Z.callC (μ := mX11_who) (As := [.int (xs (i + (1 : Int32)).toNatClampNeg), .int (xs (i + (2 : Int32)).toNatClampNeg), .int (xs (i + (3 : Int32)).toNatClampNeg), .int (xs (i + (4 : Int32)).toNatClampNeg)]) (st := []) (st1 := [.int a]) (r := some (.int a)) (f' := f) (g' := g) hC (tX11_who h1) (by decide) cwX11_who rfl rfl mlL_89 rfl (fun _ => rfl) (fun _ => rfl) rfl rfl (Nat.le_of_ble_eq_true rfl) dL_law_718 ?_
  refine Z.aload2 hC dL_law_721 ?_
  refine Z.aload0 hC dL_law_722 ?_
  refine Z.iload3 hC dL_law_723 ?_
  refine Z.iconst (v := (1 : Int32)) hC dL_law_724 (by decide) ?_
  refine Z.iadd hC dL_law_725 ?_
  refine Z.sld hC dL_law_726 hi1 ?_
  refine Z.aload0 hC dL_law_727 ?_
  refine Z.iload3 hC dL_law_728 ?_
  refine Z.iconst (v := (2 : Int32)) hC dL_law_729 (by decide) ?_
  refine Z.iadd hC dL_law_730 ?_
  refine Z.sld hC dL_law_731 hi2 ?_
  refine Z.aload0 hC dL_law_732 ?_
  refine Z.iload3 hC dL_law_733 ?_
  refine Z.iconst (v := (3 : Int32)) hC dL_law_734 (by decide) ?_
  refine Z.iadd hC dL_law_735 ?_
  refine Z.sld hC dL_law_736 hi3 ?_
  refine Z.aload0 hC dL_law_737 ?_
  refine Z.iload3 hC dL_law_738 ?_
  refine Z.iconst (v := (4 : Int32)) hC dL_law_739 (by decide) ?_
  refine Z.iadd hC dL_law_740 ?_
  refine Z.sld hC dL_law_741 hi4 ?_
  refine Z.callM (μ := mX12_who) (As := [.int (xs (i + (1 : Int32)).toNatClampNeg), .int (xs (i + (2 : Int32)).toNatClampNeg), .int (xs (i + (3 : Int32)).toNatClampNeg), .int (xs (i + (4 : Int32)).toNatClampNeg)]) (st := [.int a]) (st1 := [.int a2.1, .int a]) (r := some (.int a2.1)) (h' := a2.2) (k' := k) hC (tX12_who h2) (by decide) cwX12_who rfl rfl mlL_93 rfl (fun _ => rfl) (fun _ => rfl) rfl rfl (Nat.le_of_ble_eq_true rfl) dL_law_742 ?_
  refine Z.eqT (tgt := 1110) hC dL_law_745 (by decide) h3 ?_
  exact hk _ _ _ _ hR2
set_option maxRecDepth 100000 in
set_option maxHeartbeats 4000000 in
theorem law_case_18 {p : Program} {l : Launch} {e : Env} {s : State} {m : MethodId} {below : List Frame} {meth : Method} {c : Code} {D : va_G} {ct : Bool → ClassId} {aC aM : Nat → Nat} {b L : Nat} {xs : Nat → Int32} {i : Int32} {f : xM} {g : xN} {h : xM} {k : xN} {n : Nat} (hC : zC p s m meth c D ct aC aM b L xs) (hi1 : vp_in (i + (1 : Int32)) L) (hi2 : vp_in (i + (2 : Int32)) L) (hi3 : vp_in (i + (3 : Int32)) L) (hi4 : vp_in (i + (4 : Int32)) L) (hi5 : vp_in (i + (5 : Int32)) L) (hn : n ≤ 100) (hR : Rel n f g h k) (hk : ∀ f2 g2 h2 k2, Rel (n + 1) f2 g2 h2 k2 → Z p l e s m below meth c D ct aC aM b 1110 i [] f2 g2 h2 k2) : Z p l e s m below meth c D ct aC aM b 750 i [] f g h k := by
  refine Z.aload1 hC dL_law_750 ?_
  refine Z.aload0 hC dL_law_751 ?_
  refine Z.iload3 hC dL_law_752 ?_
  refine Z.iconst (v := (1 : Int32)) hC dL_law_753 (by decide) ?_
  refine Z.iadd hC dL_law_754 ?_
  refine Z.sld hC dL_law_755 hi1 ?_
  obtain ⟨F, a, a2, h1, h2, h3, hR2⟩ := e_code hn hR (xs (i + (1 : Int32)).toNatClampNeg)
  refine Z.callC (μ := mX11_code) (As := [.int (xs (i + (1 : Int32)).toNatClampNeg)]) (st := []) (st1 := [.int a.1]) (r := some (.int a.1)) (f' := a.2) (g' := g) hC (tX11_code h1) (by decide) cwX11_code rfl rfl mlL_94 rfl (fun _ => rfl) (fun _ => rfl) rfl rfl (Nat.le_of_ble_eq_true rfl) dL_law_756 ?_
  refine Z.aload2 hC dL_law_759 ?_
  refine Z.aload0 hC dL_law_760 ?_
  refine Z.iload3 hC dL_law_761 ?_
  refine Z.iconst (v := (1 : Int32)) hC dL_law_762 (by decide) ?_
  refine Z.iadd hC dL_law_763 ?_
  refine Z.sld hC dL_law_764 hi1 ?_
  refine Z.callM (μ := mX12_code) (As := [.int (xs (i + (1 : Int32)).toNatClampNeg)]) (st := [.int a.1]) (st1 := [.int a2.1, .int a.1]) (r := some (.int a2.1)) (h' := a2.2) (k' := k) hC (tX12_code h2) (by decide) cwX12_code rfl rfl mlL_97 rfl (fun _ => rfl) (fun _ => rfl) rfl rfl (Nat.le_of_ble_eq_true rfl) dL_law_765 ?_
  refine Z.eqT (tgt := 1110) hC dL_law_768 (by decide) h3 ?_
  exact hk _ _ _ _ hR2
set_option maxRecDepth 100000 in
set_option maxHeartbeats 4000000 in
theorem law_case_19 {p : Program} {l : Launch} {e : Env} {s : State} {m : MethodId} {below : List Frame} {meth : Method} {c : Code} {D : va_G} {ct : Bool → ClassId} {aC aM : Nat → Nat} {b L : Nat} {xs : Nat → Int32} {i : Int32} {f : xM} {g : xN} {h : xM} {k : xN} {n : Nat} (hC : zC p s m meth c D ct aC aM b L xs) (hi1 : vp_in (i + (1 : Int32)) L) (hi2 : vp_in (i + (2 : Int32)) L) (hi3 : vp_in (i + (3 : Int32)) L) (hi4 : vp_in (i + (4 : Int32)) L) (hi5 : vp_in (i + (5 : Int32)) L) (hn : n ≤ 100) (hR : Rel n f g h k) (hk : ∀ f2 g2 h2 k2, Rel (n + 1) f2 g2 h2 k2 → Z p l e s m below meth c D ct aC aM b 1110 i [] f2 g2 h2 k2) : Z p l e s m below meth c D ct aC aM b 773 i [] f g h k := by
  refine Z.aload1 hC dL_law_773 ?_
  refine Z.aload0 hC dL_law_774 ?_
  refine Z.iload3 hC dL_law_775 ?_
  refine Z.iconst (v := (1 : Int32)) hC dL_law_776 (by decide) ?_
  refine Z.iadd hC dL_law_777 ?_
  refine Z.sld hC dL_law_778 hi1 ?_
  refine Z.aload0 hC dL_law_779 ?_
  refine Z.iload3 hC dL_law_780 ?_
  refine Z.iconst (v := (2 : Int32)) hC dL_law_781 (by decide) ?_
  refine Z.iadd hC dL_law_782 ?_
  refine Z.sld hC dL_law_783 hi2 ?_
  obtain ⟨F, a, a2, h1, h2, h3, hR2⟩ := e_codeName hn hR (xs (i + (1 : Int32)).toNatClampNeg) (xs (i + (2 : Int32)).toNatClampNeg)
  refine Z.callC (μ := mX11_codeName) (As := [.int (xs (i + (1 : Int32)).toNatClampNeg), .int (xs (i + (2 : Int32)).toNatClampNeg)]) (st := []) (st1 := [.int a.1]) (r := some (.int a.1)) (f' := a.2) (g' := g) hC (tX11_codeName h1) (by decide) cwX11_codeName rfl rfl mlL_98 rfl (fun _ => rfl) (fun _ => rfl) rfl rfl (Nat.le_of_ble_eq_true rfl) dL_law_784 ?_
  refine Z.aload2 hC dL_law_787 ?_
  refine Z.aload0 hC dL_law_788 ?_
  refine Z.iload3 hC dL_law_789 ?_
  refine Z.iconst (v := (1 : Int32)) hC dL_law_790 (by decide) ?_
  refine Z.iadd hC dL_law_791 ?_
  refine Z.sld hC dL_law_792 hi1 ?_
  refine Z.aload0 hC dL_law_793 ?_
  refine Z.iload3 hC dL_law_794 ?_
  refine Z.iconst (v := (2 : Int32)) hC dL_law_795 (by decide) ?_
  refine Z.iadd hC dL_law_796 ?_
  refine Z.sld hC dL_law_797 hi2 ?_
  refine Z.callM (μ := mX12_codeName) (As := [.int (xs (i + (1 : Int32)).toNatClampNeg), .int (xs (i + (2 : Int32)).toNatClampNeg)]) (st := [.int a.1]) (st1 := [.int a2.1, .int a.1]) (r := some (.int a2.1)) (h' := a2.2) (k' := k) hC (tX12_codeName h2) (by decide) cwX12_codeName rfl rfl mlL_101 rfl (fun _ => rfl) (fun _ => rfl) rfl rfl (Nat.le_of_ble_eq_true rfl) dL_law_798 ?_
  refine Z.eqT (tgt := 1110) hC dL_law_801 (by decide) h3 ?_
  exact hk _ _ _ _ hR2
set_option maxRecDepth 100000 in
set_option maxHeartbeats 4000000 in
theorem law_case_20 {p : Program} {l : Launch} {e : Env} {s : State} {m : MethodId} {below : List Frame} {meth : Method} {c : Code} {D : va_G} {ct : Bool → ClassId} {aC aM : Nat → Nat} {b L : Nat} {xs : Nat → Int32} {i : Int32} {f : xM} {g : xN} {h : xM} {k : xN} {n : Nat} (hC : zC p s m meth c D ct aC aM b L xs) (hi1 : vp_in (i + (1 : Int32)) L) (hi2 : vp_in (i + (2 : Int32)) L) (hi3 : vp_in (i + (3 : Int32)) L) (hi4 : vp_in (i + (4 : Int32)) L) (hi5 : vp_in (i + (5 : Int32)) L) (hn : n ≤ 100) (hR : Rel n f g h k) (hk : ∀ f2 g2 h2 k2, Rel (n + 1) f2 g2 h2 k2 → Z p l e s m below meth c D ct aC aM b 1110 i [] f2 g2 h2 k2) : Z p l e s m below meth c D ct aC aM b 806 i [] f g h k := by
  refine Z.aload1 hC dL_law_806 ?_
  refine Z.aload0 hC dL_law_807 ?_
  refine Z.iload3 hC dL_law_808 ?_
  refine Z.iconst (v := (1 : Int32)) hC dL_law_809 (by decide) ?_
  refine Z.iadd hC dL_law_810 ?_
  refine Z.sld hC dL_law_811 hi1 ?_
  refine Z.aload0 hC dL_law_812 ?_
  refine Z.iload3 hC dL_law_813 ?_
  refine Z.iconst (v := (2 : Int32)) hC dL_law_814 (by decide) ?_
  refine Z.iadd hC dL_law_815 ?_
  refine Z.sld hC dL_law_816 hi2 ?_
  refine Z.aload0 hC dL_law_817 ?_
  refine Z.iload3 hC dL_law_818 ?_
  refine Z.iconst (v := (3 : Int32)) hC dL_law_819 (by decide) ?_
  refine Z.iadd hC dL_law_820 ?_
  refine Z.sld hC dL_law_821 hi3 ?_
  refine Z.aload0 hC dL_law_822 ?_
  refine Z.iload3 hC dL_law_823 ?_
  refine Z.iconst (v := (4 : Int32)) hC dL_law_824 (by decide) ?_
  refine Z.iadd hC dL_law_825 ?_
  refine Z.sld hC dL_law_826 hi4 ?_
  refine Z.aload0 hC dL_law_827 ?_
  refine Z.iload3 hC dL_law_828 ?_
  refine Z.iconst (v := (5 : Int32)) hC dL_law_829 (by decide) ?_
  refine Z.iadd hC dL_law_830 ?_
  refine Z.sld hC dL_law_831 hi5 ?_
  obtain ⟨F, a, a2, h1, h2, h3, hR2⟩ := e_rests hn hR (xs (i + (1 : Int32)).toNatClampNeg) (xs (i + (2 : Int32)).toNatClampNeg) (xs (i + (3 : Int32)).toNatClampNeg) (xs (i + (4 : Int32)).toNatClampNeg) (xs (i + (5 : Int32)).toNatClampNeg)
  refine Z.callC (μ := mX11_rests) (As := [.int (xs (i + (1 : Int32)).toNatClampNeg), .int (xs (i + (2 : Int32)).toNatClampNeg), .int (xs (i + (3 : Int32)).toNatClampNeg), .int (xs (i + (4 : Int32)).toNatClampNeg), .int (xs (i + (5 : Int32)).toNatClampNeg)]) (st := []) (st1 := [.int a.1]) (r := some (.int a.1)) (f' := a.2) (g' := g) hC (tX11_rests h1) (by decide) cwX11_rests rfl rfl mlL_102 rfl (fun _ => rfl) (fun _ => rfl) rfl rfl (Nat.le_of_ble_eq_true rfl) dL_law_832 ?_
  refine Z.aload2 hC dL_law_835 ?_
  refine Z.aload0 hC dL_law_836 ?_
  refine Z.iload3 hC dL_law_837 ?_
  refine Z.iconst (v := (1 : Int32)) hC dL_law_838 (by decide) ?_
  refine Z.iadd hC dL_law_839 ?_
  refine Z.sld hC dL_law_840 hi1 ?_
  refine Z.aload0 hC dL_law_841 ?_
  refine Z.iload3 hC dL_law_842 ?_
  refine Z.iconst (v := (2 : Int32)) hC dL_law_843 (by decide) ?_
  refine Z.iadd hC dL_law_844 ?_
  refine Z.sld hC dL_law_845 hi2 ?_
  refine Z.aload0 hC dL_law_846 ?_
  refine Z.iload3 hC dL_law_847 ?_
  refine Z.iconst (v := (3 : Int32)) hC dL_law_848 (by decide) ?_
  refine Z.iadd hC dL_law_849 ?_
  refine Z.sld hC dL_law_850 hi3 ?_
  refine Z.aload0 hC dL_law_851 ?_
  refine Z.iload3 hC dL_law_852 ?_
  refine Z.iconst (v := (4 : Int32)) hC dL_law_853 (by decide) ?_
  refine Z.iadd hC dL_law_854 ?_
  refine Z.sld hC dL_law_855 hi4 ?_
  refine Z.aload0 hC dL_law_856 ?_
  refine Z.iload3 hC dL_law_857 ?_
  refine Z.iconst (v := (5 : Int32)) hC dL_law_858 (by decide) ?_
  refine Z.iadd hC dL_law_859 ?_
  refine Z.sld hC dL_law_860 hi5 ?_
  refine Z.callM (μ := mX12_rests) (As := [.int (xs (i + (1 : Int32)).toNatClampNeg), .int (xs (i + (2 : Int32)).toNatClampNeg), .int (xs (i + (3 : Int32)).toNatClampNeg), .int (xs (i + (4 : Int32)).toNatClampNeg), .int (xs (i + (5 : Int32)).toNatClampNeg)]) (st := [.int a.1]) (st1 := [.int a2.1, .int a.1]) (r := some (.int a2.1)) (h' := a2.2) (k' := k) hC (tX12_rests h2) (by decide) cwX12_rests rfl rfl mlL_106 rfl (fun _ => rfl) (fun _ => rfl) rfl rfl (Nat.le_of_ble_eq_true rfl) dL_law_861 ?_
  refine Z.eqT (tgt := 1110) hC dL_law_864 (by decide) h3 ?_
  exact hk _ _ _ _ hR2
set_option maxRecDepth 100000 in
set_option maxHeartbeats 4000000 in
theorem law_case_21 {p : Program} {l : Launch} {e : Env} {s : State} {m : MethodId} {below : List Frame} {meth : Method} {c : Code} {D : va_G} {ct : Bool → ClassId} {aC aM : Nat → Nat} {b L : Nat} {xs : Nat → Int32} {i : Int32} {f : xM} {g : xN} {h : xM} {k : xN} {n : Nat} (hC : zC p s m meth c D ct aC aM b L xs) (hi1 : vp_in (i + (1 : Int32)) L) (hi2 : vp_in (i + (2 : Int32)) L) (hi3 : vp_in (i + (3 : Int32)) L) (hi4 : vp_in (i + (4 : Int32)) L) (hi5 : vp_in (i + (5 : Int32)) L) (hn : n ≤ 100) (hR : Rel n f g h k) (hk : ∀ f2 g2 h2 k2, Rel (n + 1) f2 g2 h2 k2 → Z p l e s m below meth c D ct aC aM b 1110 i [] f2 g2 h2 k2) : Z p l e s m below meth c D ct aC aM b 869 i [] f g h k := by
  refine Z.aload1 hC dL_law_869 ?_
  refine Z.aload0 hC dL_law_870 ?_
  refine Z.iload3 hC dL_law_871 ?_
  refine Z.iconst (v := (1 : Int32)) hC dL_law_872 (by decide) ?_
  refine Z.iadd hC dL_law_873 ?_
  refine Z.sld hC dL_law_874 hi1 ?_
  refine Z.aload0 hC dL_law_875 ?_
  refine Z.iload3 hC dL_law_876 ?_
  refine Z.iconst (v := (2 : Int32)) hC dL_law_877 (by decide) ?_
  refine Z.iadd hC dL_law_878 ?_
  refine Z.sld hC dL_law_879 hi2 ?_
  refine Z.aload0 hC dL_law_880 ?_
  refine Z.iload3 hC dL_law_881 ?_
  refine Z.iconst (v := (3 : Int32)) hC dL_law_882 (by decide) ?_
  refine Z.iadd hC dL_law_883 ?_
  refine Z.sld hC dL_law_884 hi3 ?_
  refine Z.aload0 hC dL_law_885 ?_
  refine Z.iload3 hC dL_law_886 ?_
  refine Z.iconst (v := (4 : Int32)) hC dL_law_887 (by decide) ?_
  refine Z.iadd hC dL_law_888 ?_
  refine Z.sld hC dL_law_889 hi4 ?_
  by_cases cz : (xs (i + (4 : Int32)).toNatClampNeg) = 0
  · refine Z.ifT (tgt := 897) hC dL_law_890 (by decide) cz ?_
    refine Z.iconst (v := (0 : Int32)) hC dL_law_897 (by decide) ?_
    obtain ⟨F, a, a2, h1, h2, h3, hR2⟩ := e_chance hn hR (xs (i + (1 : Int32)).toNatClampNeg) (xs (i + (2 : Int32)).toNatClampNeg) (xs (i + (3 : Int32)).toNatClampNeg) (0 : Int32)
    refine Z.callC (μ := mX11_chance) (As := [.int (xs (i + (1 : Int32)).toNatClampNeg), .int (xs (i + (2 : Int32)).toNatClampNeg), .int (xs (i + (3 : Int32)).toNatClampNeg), .int (0 : Int32)]) (st := []) (st1 := [.int a]) (r := some (.int a)) (f' := f) (g' := g) hC (tX11_chance h1) (by decide) cwX11_chance rfl rfl mlL_107 rfl (fun _ => rfl) (fun _ => rfl) rfl rfl (Nat.le_of_ble_eq_true rfl) dL_law_898 ?_
    refine Z.aload2 hC dL_law_901 ?_
    refine Z.aload0 hC dL_law_902 ?_
    refine Z.iload3 hC dL_law_903 ?_
    refine Z.iconst (v := (1 : Int32)) hC dL_law_904 (by decide) ?_
    refine Z.iadd hC dL_law_905 ?_
    refine Z.sld hC dL_law_906 hi1 ?_
    refine Z.aload0 hC dL_law_907 ?_
    refine Z.iload3 hC dL_law_908 ?_
    refine Z.iconst (v := (2 : Int32)) hC dL_law_909 (by decide) ?_
    refine Z.iadd hC dL_law_910 ?_
    refine Z.sld hC dL_law_911 hi2 ?_
    refine Z.aload0 hC dL_law_912 ?_
    refine Z.iload3 hC dL_law_913 ?_
    refine Z.iconst (v := (3 : Int32)) hC dL_law_914 (by decide) ?_
    refine Z.iadd hC dL_law_915 ?_
    refine Z.sld hC dL_law_916 hi3 ?_
    refine Z.aload0 hC dL_law_917 ?_
    refine Z.iload3 hC dL_law_918 ?_
    refine Z.iconst (v := (4 : Int32)) hC dL_law_919 (by decide) ?_
    refine Z.iadd hC dL_law_920 ?_
    refine Z.sld hC dL_law_921 hi4 ?_
    refine Z.ifT (tgt := 929) hC dL_law_922 (by decide) cz ?_
    refine Z.iconst (v := (0 : Int32)) hC dL_law_929 (by decide) ?_
    refine Z.callM (μ := mX12_chance) (As := [.int (xs (i + (1 : Int32)).toNatClampNeg), .int (xs (i + (2 : Int32)).toNatClampNeg), .int (xs (i + (3 : Int32)).toNatClampNeg), .int (0 : Int32)]) (st := [.int a]) (st1 := [.int a2.1, .int a]) (r := some (.int a2.1)) (h' := a2.2) (k' := k) hC (tX12_chance h2) (by decide) cwX12_chance rfl rfl mlL_111 rfl (fun _ => rfl) (fun _ => rfl) rfl rfl (Nat.le_of_ble_eq_true rfl) dL_law_930 ?_
    refine Z.eqT (tgt := 1110) hC dL_law_933 (by decide) h3 ?_
    exact hk _ _ _ _ hR2
  · refine Z.ifF (tgt := 897) hC dL_law_890 (by decide) cz ?_
    refine Z.iconst (v := (1 : Int32)) hC dL_law_893 (by decide) ?_
    refine Z.goto (tgt := 898) hC dL_law_894 (by decide) ?_
    obtain ⟨F, a, a2, h1, h2, h3, hR2⟩ := e_chance hn hR (xs (i + (1 : Int32)).toNatClampNeg) (xs (i + (2 : Int32)).toNatClampNeg) (xs (i + (3 : Int32)).toNatClampNeg) (1 : Int32)
    refine Z.callC (μ := mX11_chance) (As := [.int (xs (i + (1 : Int32)).toNatClampNeg), .int (xs (i + (2 : Int32)).toNatClampNeg), .int (xs (i + (3 : Int32)).toNatClampNeg), .int (1 : Int32)]) (st := []) (st1 := [.int a]) (r := some (.int a)) (f' := f) (g' := g) hC (tX11_chance h1) (by decide) cwX11_chance rfl rfl mlL_107 rfl (fun _ => rfl) (fun _ => rfl) rfl rfl (Nat.le_of_ble_eq_true rfl) dL_law_898 ?_
    refine Z.aload2 hC dL_law_901 ?_
    refine Z.aload0 hC dL_law_902 ?_
    refine Z.iload3 hC dL_law_903 ?_
    refine Z.iconst (v := (1 : Int32)) hC dL_law_904 (by decide) ?_
    refine Z.iadd hC dL_law_905 ?_
    refine Z.sld hC dL_law_906 hi1 ?_
    refine Z.aload0 hC dL_law_907 ?_
    refine Z.iload3 hC dL_law_908 ?_
    refine Z.iconst (v := (2 : Int32)) hC dL_law_909 (by decide) ?_
    refine Z.iadd hC dL_law_910 ?_
    refine Z.sld hC dL_law_911 hi2 ?_
    refine Z.aload0 hC dL_law_912 ?_
    refine Z.iload3 hC dL_law_913 ?_
    refine Z.iconst (v := (3 : Int32)) hC dL_law_914 (by decide) ?_
    refine Z.iadd hC dL_law_915 ?_
    refine Z.sld hC dL_law_916 hi3 ?_
    refine Z.aload0 hC dL_law_917 ?_
    refine Z.iload3 hC dL_law_918 ?_
    refine Z.iconst (v := (4 : Int32)) hC dL_law_919 (by decide) ?_
    refine Z.iadd hC dL_law_920 ?_
    refine Z.sld hC dL_law_921 hi4 ?_
    refine Z.ifF (tgt := 929) hC dL_law_922 (by decide) cz ?_
    refine Z.iconst (v := (1 : Int32)) hC dL_law_925 (by decide) ?_
    refine Z.goto (tgt := 930) hC dL_law_926 (by decide) ?_
    refine Z.callM (μ := mX12_chance) (As := [.int (xs (i + (1 : Int32)).toNatClampNeg), .int (xs (i + (2 : Int32)).toNatClampNeg), .int (xs (i + (3 : Int32)).toNatClampNeg), .int (1 : Int32)]) (st := [.int a]) (st1 := [.int a2.1, .int a]) (r := some (.int a2.1)) (h' := a2.2) (k' := k) hC (tX12_chance h2) (by decide) cwX12_chance rfl rfl mlL_111 rfl (fun _ => rfl) (fun _ => rfl) rfl rfl (Nat.le_of_ble_eq_true rfl) dL_law_930 ?_
    refine Z.eqT (tgt := 1110) hC dL_law_933 (by decide) h3 ?_
    exact hk _ _ _ _ hR2
set_option maxRecDepth 100000 in
set_option maxHeartbeats 4000000 in
theorem law_case_22 {p : Program} {l : Launch} {e : Env} {s : State} {m : MethodId} {below : List Frame} {meth : Method} {c : Code} {D : va_G} {ct : Bool → ClassId} {aC aM : Nat → Nat} {b L : Nat} {xs : Nat → Int32} {i : Int32} {f : xM} {g : xN} {h : xM} {k : xN} {n : Nat} (hC : zC p s m meth c D ct aC aM b L xs) (hi1 : vp_in (i + (1 : Int32)) L) (hi2 : vp_in (i + (2 : Int32)) L) (hi3 : vp_in (i + (3 : Int32)) L) (hi4 : vp_in (i + (4 : Int32)) L) (hi5 : vp_in (i + (5 : Int32)) L) (hn : n ≤ 100) (hR : Rel n f g h k) (hk : ∀ f2 g2 h2 k2, Rel (n + 1) f2 g2 h2 k2 → Z p l e s m below meth c D ct aC aM b 1110 i [] f2 g2 h2 k2) : Z p l e s m below meth c D ct aC aM b 938 i [] f g h k := by
  refine Z.aload1 hC dL_law_938 ?_
  refine Z.aload0 hC dL_law_939 ?_
  refine Z.iload3 hC dL_law_940 ?_
  refine Z.iconst (v := (1 : Int32)) hC dL_law_941 (by decide) ?_
  refine Z.iadd hC dL_law_942 ?_
  refine Z.sld hC dL_law_943 hi1 ?_
  refine Z.aload0 hC dL_law_944 ?_
  refine Z.iload3 hC dL_law_945 ?_
  refine Z.iconst (v := (2 : Int32)) hC dL_law_946 (by decide) ?_
  refine Z.iadd hC dL_law_947 ?_
  refine Z.sld hC dL_law_948 hi2 ?_
  by_cases cz : (xs (i + (2 : Int32)).toNatClampNeg) = 0
  · refine Z.ifT (tgt := 956) hC dL_law_949 (by decide) cz ?_
    refine Z.iconst (v := (0 : Int32)) hC dL_law_956 (by decide) ?_
    obtain ⟨F, a, a2, h1, h2, h3, hR2⟩ := e_share hn hR (xs (i + (1 : Int32)).toNatClampNeg) (0 : Int32)
    refine Z.callC (μ := mX11_share) (As := [.int (xs (i + (1 : Int32)).toNatClampNeg), .int (0 : Int32)]) (st := []) (st1 := [.int a.1]) (r := some (.int a.1)) (f' := a.2) (g' := g) hC (tX11_share h1) (by decide) cwX11_share rfl rfl mlL_112 rfl (fun _ => rfl) (fun _ => rfl) rfl rfl (Nat.le_of_ble_eq_true rfl) dL_law_957 ?_
    refine Z.aload2 hC dL_law_960 ?_
    refine Z.aload0 hC dL_law_961 ?_
    refine Z.iload3 hC dL_law_962 ?_
    refine Z.iconst (v := (1 : Int32)) hC dL_law_963 (by decide) ?_
    refine Z.iadd hC dL_law_964 ?_
    refine Z.sld hC dL_law_965 hi1 ?_
    refine Z.aload0 hC dL_law_966 ?_
    refine Z.iload3 hC dL_law_967 ?_
    refine Z.iconst (v := (2 : Int32)) hC dL_law_968 (by decide) ?_
    refine Z.iadd hC dL_law_969 ?_
    refine Z.sld hC dL_law_970 hi2 ?_
    refine Z.ifT (tgt := 978) hC dL_law_971 (by decide) cz ?_
    refine Z.iconst (v := (0 : Int32)) hC dL_law_978 (by decide) ?_
    refine Z.callM (μ := mX12_share) (As := [.int (xs (i + (1 : Int32)).toNatClampNeg), .int (0 : Int32)]) (st := [.int a.1]) (st1 := [.int a2.1, .int a.1]) (r := some (.int a2.1)) (h' := a2.2) (k' := k) hC (tX12_share h2) (by decide) cwX12_share rfl rfl mlL_116 rfl (fun _ => rfl) (fun _ => rfl) rfl rfl (Nat.le_of_ble_eq_true rfl) dL_law_979 ?_
    refine Z.eqT (tgt := 1110) hC dL_law_982 (by decide) h3 ?_
    exact hk _ _ _ _ hR2
  · refine Z.ifF (tgt := 956) hC dL_law_949 (by decide) cz ?_
    refine Z.iconst (v := (1 : Int32)) hC dL_law_952 (by decide) ?_
    refine Z.goto (tgt := 957) hC dL_law_953 (by decide) ?_
    obtain ⟨F, a, a2, h1, h2, h3, hR2⟩ := e_share hn hR (xs (i + (1 : Int32)).toNatClampNeg) (1 : Int32)
    refine Z.callC (μ := mX11_share) (As := [.int (xs (i + (1 : Int32)).toNatClampNeg), .int (1 : Int32)]) (st := []) (st1 := [.int a.1]) (r := some (.int a.1)) (f' := a.2) (g' := g) hC (tX11_share h1) (by decide) cwX11_share rfl rfl mlL_112 rfl (fun _ => rfl) (fun _ => rfl) rfl rfl (Nat.le_of_ble_eq_true rfl) dL_law_957 ?_
    refine Z.aload2 hC dL_law_960 ?_
    refine Z.aload0 hC dL_law_961 ?_
    refine Z.iload3 hC dL_law_962 ?_
    refine Z.iconst (v := (1 : Int32)) hC dL_law_963 (by decide) ?_
    refine Z.iadd hC dL_law_964 ?_
    refine Z.sld hC dL_law_965 hi1 ?_
    refine Z.aload0 hC dL_law_966 ?_
    refine Z.iload3 hC dL_law_967 ?_
    refine Z.iconst (v := (2 : Int32)) hC dL_law_968 (by decide) ?_
    refine Z.iadd hC dL_law_969 ?_
    refine Z.sld hC dL_law_970 hi2 ?_
    refine Z.ifF (tgt := 978) hC dL_law_971 (by decide) cz ?_
    refine Z.iconst (v := (1 : Int32)) hC dL_law_974 (by decide) ?_
    refine Z.goto (tgt := 979) hC dL_law_975 (by decide) ?_
    refine Z.callM (μ := mX12_share) (As := [.int (xs (i + (1 : Int32)).toNatClampNeg), .int (1 : Int32)]) (st := [.int a.1]) (st1 := [.int a2.1, .int a.1]) (r := some (.int a2.1)) (h' := a2.2) (k' := k) hC (tX12_share h2) (by decide) cwX12_share rfl rfl mlL_116 rfl (fun _ => rfl) (fun _ => rfl) rfl rfl (Nat.le_of_ble_eq_true rfl) dL_law_979 ?_
    refine Z.eqT (tgt := 1110) hC dL_law_982 (by decide) h3 ?_
    exact hk _ _ _ _ hR2
set_option maxRecDepth 100000 in
set_option maxHeartbeats 4000000 in
theorem law_case_23 {p : Program} {l : Launch} {e : Env} {s : State} {m : MethodId} {below : List Frame} {meth : Method} {c : Code} {D : va_G} {ct : Bool → ClassId} {aC aM : Nat → Nat} {b L : Nat} {xs : Nat → Int32} {i : Int32} {f : xM} {g : xN} {h : xM} {k : xN} {n : Nat} (hC : zC p s m meth c D ct aC aM b L xs) (hi1 : vp_in (i + (1 : Int32)) L) (hi2 : vp_in (i + (2 : Int32)) L) (hi3 : vp_in (i + (3 : Int32)) L) (hi4 : vp_in (i + (4 : Int32)) L) (hi5 : vp_in (i + (5 : Int32)) L) (hn : n ≤ 100) (hR : Rel n f g h k) (hk : ∀ f2 g2 h2 k2, Rel (n + 1) f2 g2 h2 k2 → Z p l e s m below meth c D ct aC aM b 1110 i [] f2 g2 h2 k2) : Z p l e s m below meth c D ct aC aM b 987 i [] f g h k := by
  refine Z.aload1 hC dL_law_987 ?_
  refine Z.aload0 hC dL_law_988 ?_
  refine Z.iload3 hC dL_law_989 ?_
  refine Z.iconst (v := (1 : Int32)) hC dL_law_990 (by decide) ?_
  refine Z.iadd hC dL_law_991 ?_
  refine Z.sld hC dL_law_992 hi1 ?_
  refine Z.i2l hC dL_law_993 ?_
  refine Z.bipush (v := (32 : Int32)) hC dL_law_994 (by decide) ?_
  refine Z.lshl hC dL_law_996 ?_
  refine Z.aload0 hC dL_law_997 ?_
  refine Z.iload3 hC dL_law_998 ?_
  refine Z.iconst (v := (2 : Int32)) hC dL_law_999 (by decide) ?_
  refine Z.iadd hC dL_law_1000 ?_
  refine Z.sld hC dL_law_1001 hi2 ?_
  refine Z.i2l hC dL_law_1002 ?_
  refine Z.ldc2 hC dL_law_1003 lcL_65 ?_
  refine Z.land hC dL_law_1006 ?_
  refine Z.lor hC dL_law_1007 ?_
  obtain ⟨F, a, a2, h1, h2, h3, hR2⟩ := e_seed hn hR (((xs (i + (1 : Int32)).toNatClampNeg).toInt64 <<< ((32 : Int32).toInt64 &&& 63)) ||| ((xs (i + (2 : Int32)).toNatClampNeg).toInt64 &&& (4294967295 : Int64)))
  refine Z.callC (μ := mX11_seed) (As := [.long (((xs (i + (1 : Int32)).toNatClampNeg).toInt64 <<< ((32 : Int32).toInt64 &&& 63)) ||| ((xs (i + (2 : Int32)).toNatClampNeg).toInt64 &&& (4294967295 : Int64)))]) (st := []) (st1 := [.long a.1]) (r := some (.long a.1)) (f' := f) (g' := a.2) hC (tX11_seed h1) (by decide) cwX11_seed rfl rfl mlL_117 rfl (fun _ => rfl) (fun _ => rfl) rfl rfl (Nat.le_of_ble_eq_true rfl) dL_law_1008 ?_
  refine Z.aload2 hC dL_law_1011 ?_
  refine Z.aload0 hC dL_law_1012 ?_
  refine Z.iload3 hC dL_law_1013 ?_
  refine Z.iconst (v := (1 : Int32)) hC dL_law_1014 (by decide) ?_
  refine Z.iadd hC dL_law_1015 ?_
  refine Z.sld hC dL_law_1016 hi1 ?_
  refine Z.i2l hC dL_law_1017 ?_
  refine Z.bipush (v := (32 : Int32)) hC dL_law_1018 (by decide) ?_
  refine Z.lshl hC dL_law_1020 ?_
  refine Z.aload0 hC dL_law_1021 ?_
  refine Z.iload3 hC dL_law_1022 ?_
  refine Z.iconst (v := (2 : Int32)) hC dL_law_1023 (by decide) ?_
  refine Z.iadd hC dL_law_1024 ?_
  refine Z.sld hC dL_law_1025 hi2 ?_
  refine Z.i2l hC dL_law_1026 ?_
  refine Z.ldc2 hC dL_law_1027 lcL_65 ?_
  refine Z.land hC dL_law_1030 ?_
  refine Z.lor hC dL_law_1031 ?_
  refine Z.callM (μ := mX12_seed) (As := [.long (((xs (i + (1 : Int32)).toNatClampNeg).toInt64 <<< ((32 : Int32).toInt64 &&& 63)) ||| ((xs (i + (2 : Int32)).toNatClampNeg).toInt64 &&& (4294967295 : Int64)))]) (st := [.long a.1]) (st1 := [.long a2.1, .long a.1]) (r := some (.long a2.1)) (h' := a2.2.1) (k' := a2.2.2) hC (tX12_seed h2) (by decide) cwX12_seed rfl rfl mlL_121 rfl (fun _ => rfl) (fun _ => rfl) rfl rfl (Nat.le_of_ble_eq_true rfl) dL_law_1032 ?_
  refine Z.lcmpE hC dL_law_1035 h3 ?_
  refine Z.ifT (tgt := 1110) hC dL_law_1036 (by decide) rfl ?_
  exact hk _ _ _ _ hR2
set_option maxRecDepth 100000 in
set_option maxHeartbeats 4000000 in
theorem law_case_24 {p : Program} {l : Launch} {e : Env} {s : State} {m : MethodId} {below : List Frame} {meth : Method} {c : Code} {D : va_G} {ct : Bool → ClassId} {aC aM : Nat → Nat} {b L : Nat} {xs : Nat → Int32} {i : Int32} {f : xM} {g : xN} {h : xM} {k : xN} {n : Nat} (hC : zC p s m meth c D ct aC aM b L xs) (hi1 : vp_in (i + (1 : Int32)) L) (hi2 : vp_in (i + (2 : Int32)) L) (hi3 : vp_in (i + (3 : Int32)) L) (hi4 : vp_in (i + (4 : Int32)) L) (hi5 : vp_in (i + (5 : Int32)) L) (hn : n ≤ 100) (hR : Rel n f g h k) (hk : ∀ f2 g2 h2 k2, Rel (n + 1) f2 g2 h2 k2 → Z p l e s m below meth c D ct aC aM b 1110 i [] f2 g2 h2 k2) : Z p l e s m below meth c D ct aC aM b 1041 i [] f g h k := by
  refine Z.aload1 hC dL_law_1041 ?_
  refine Z.aload0 hC dL_law_1042 ?_
  refine Z.iload3 hC dL_law_1043 ?_
  refine Z.iconst (v := (1 : Int32)) hC dL_law_1044 (by decide) ?_
  refine Z.iadd hC dL_law_1045 ?_
  refine Z.sld hC dL_law_1046 hi1 ?_
  obtain ⟨F, a, a2, h1, h2, h3, hR2⟩ := e_years hn hR (xs (i + (1 : Int32)).toNatClampNeg)
  refine Z.callC (μ := mX11_years) (As := [.int (xs (i + (1 : Int32)).toNatClampNeg)]) (st := []) (st1 := [.int a.1]) (r := some (.int a.1)) (f' := f) (g' := a.2) hC (tX11_years h1) (by decide) cwX11_years rfl rfl mlL_122 rfl (fun _ => rfl) (fun _ => rfl) rfl rfl (Nat.le_of_ble_eq_true rfl) dL_law_1047 ?_
  refine Z.aload2 hC dL_law_1050 ?_
  refine Z.aload0 hC dL_law_1051 ?_
  refine Z.iload3 hC dL_law_1052 ?_
  refine Z.iconst (v := (1 : Int32)) hC dL_law_1053 (by decide) ?_
  refine Z.iadd hC dL_law_1054 ?_
  refine Z.sld hC dL_law_1055 hi1 ?_
  refine Z.callM (μ := mX12_years) (As := [.int (xs (i + (1 : Int32)).toNatClampNeg)]) (st := [.int a.1]) (st1 := [.int a2.1, .int a.1]) (r := some (.int a2.1)) (h' := a2.2.1) (k' := a2.2.2) hC (tX12_years h2) (by decide) cwX12_years rfl rfl mlL_125 rfl (fun _ => rfl) (fun _ => rfl) rfl rfl (Nat.le_of_ble_eq_true rfl) dL_law_1056 ?_
  refine Z.eqT (tgt := 1110) hC dL_law_1059 (by decide) h3 ?_
  exact hk _ _ _ _ hR2
set_option maxRecDepth 100000 in
set_option maxHeartbeats 4000000 in
theorem law_case_25 {p : Program} {l : Launch} {e : Env} {s : State} {m : MethodId} {below : List Frame} {meth : Method} {c : Code} {D : va_G} {ct : Bool → ClassId} {aC aM : Nat → Nat} {b L : Nat} {xs : Nat → Int32} {i : Int32} {f : xM} {g : xN} {h : xM} {k : xN} {n : Nat} (hC : zC p s m meth c D ct aC aM b L xs) (hi1 : vp_in (i + (1 : Int32)) L) (hi2 : vp_in (i + (2 : Int32)) L) (hi3 : vp_in (i + (3 : Int32)) L) (hi4 : vp_in (i + (4 : Int32)) L) (hi5 : vp_in (i + (5 : Int32)) L) (hn : n ≤ 100) (hR : Rel n f g h k) (hk : ∀ f2 g2 h2 k2, Rel (n + 1) f2 g2 h2 k2 → Z p l e s m below meth c D ct aC aM b 1110 i [] f2 g2 h2 k2) : Z p l e s m below meth c D ct aC aM b 1064 i [] f g h k := by
  refine Z.aload1 hC dL_law_1064 ?_
  refine Z.aload0 hC dL_law_1065 ?_
  refine Z.iload3 hC dL_law_1066 ?_
  refine Z.iconst (v := (1 : Int32)) hC dL_law_1067 (by decide) ?_
  refine Z.iadd hC dL_law_1068 ?_
  refine Z.sld hC dL_law_1069 hi1 ?_
  obtain ⟨F, a, a2, h1, h2, h3, hR2⟩ := e_keep hn hR (xs (i + (1 : Int32)).toNatClampNeg)
  refine Z.callC (μ := mX11_keep) (As := [.int (xs (i + (1 : Int32)).toNatClampNeg)]) (st := []) (st1 := [.int a.1]) (r := some (.int a.1)) (f' := a.2) (g' := g) hC (tX11_keep h1) (by decide) cwX11_keep rfl rfl mlL_126 rfl (fun _ => rfl) (fun _ => rfl) rfl rfl (Nat.le_of_ble_eq_true rfl) dL_law_1070 ?_
  refine Z.aload2 hC dL_law_1073 ?_
  refine Z.aload0 hC dL_law_1074 ?_
  refine Z.iload3 hC dL_law_1075 ?_
  refine Z.iconst (v := (1 : Int32)) hC dL_law_1076 (by decide) ?_
  refine Z.iadd hC dL_law_1077 ?_
  refine Z.sld hC dL_law_1078 hi1 ?_
  refine Z.callM (μ := mX12_keep) (As := [.int (xs (i + (1 : Int32)).toNatClampNeg)]) (st := [.int a.1]) (st1 := [.int a2.1, .int a.1]) (r := some (.int a2.1)) (h' := a2.2) (k' := k) hC (tX12_keep h2) (by decide) cwX12_keep rfl rfl mlL_129 rfl (fun _ => rfl) (fun _ => rfl) rfl rfl (Nat.le_of_ble_eq_true rfl) dL_law_1079 ?_
  refine Z.eqT (tgt := 1110) hC dL_law_1082 (by decide) h3 ?_
  exact hk _ _ _ _ hR2
set_option maxRecDepth 100000 in
set_option maxHeartbeats 4000000 in
theorem law_case_26 {p : Program} {l : Launch} {e : Env} {s : State} {m : MethodId} {below : List Frame} {meth : Method} {c : Code} {D : va_G} {ct : Bool → ClassId} {aC aM : Nat → Nat} {b L : Nat} {xs : Nat → Int32} {i : Int32} {f : xM} {g : xN} {h : xM} {k : xN} {n : Nat} (hC : zC p s m meth c D ct aC aM b L xs) (hi1 : vp_in (i + (1 : Int32)) L) (hi2 : vp_in (i + (2 : Int32)) L) (hi3 : vp_in (i + (3 : Int32)) L) (hi4 : vp_in (i + (4 : Int32)) L) (hi5 : vp_in (i + (5 : Int32)) L) (hn : n ≤ 100) (hR : Rel n f g h k) (hk : ∀ f2 g2 h2 k2, Rel (n + 1) f2 g2 h2 k2 → Z p l e s m below meth c D ct aC aM b 1110 i [] f2 g2 h2 k2) : Z p l e s m below meth c D ct aC aM b 1087 i [] f g h k := by
  refine Z.aload1 hC dL_law_1087 ?_
  refine Z.aload0 hC dL_law_1088 ?_
  refine Z.iload3 hC dL_law_1089 ?_
  refine Z.iconst (v := (1 : Int32)) hC dL_law_1090 (by decide) ?_
  refine Z.iadd hC dL_law_1091 ?_
  refine Z.sld hC dL_law_1092 hi1 ?_
  obtain ⟨F, a, a2, h1, h2, h3, hR2⟩ := e_again hn hR (xs (i + (1 : Int32)).toNatClampNeg)
  refine Z.callC (μ := mX11_again) (As := [.int (xs (i + (1 : Int32)).toNatClampNeg)]) (st := []) (st1 := [.int a.1]) (r := some (.int a.1)) (f' := a.2) (g' := g) hC (tX11_again h1) (by decide) cwX11_again rfl rfl mlL_130 rfl (fun _ => rfl) (fun _ => rfl) rfl rfl (Nat.le_of_ble_eq_true rfl) dL_law_1093 ?_
  refine Z.aload2 hC dL_law_1096 ?_
  refine Z.aload0 hC dL_law_1097 ?_
  refine Z.iload3 hC dL_law_1098 ?_
  refine Z.iconst (v := (1 : Int32)) hC dL_law_1099 (by decide) ?_
  refine Z.iadd hC dL_law_1100 ?_
  refine Z.sld hC dL_law_1101 hi1 ?_
  refine Z.callM (μ := mX12_again) (As := [.int (xs (i + (1 : Int32)).toNatClampNeg)]) (st := [.int a.1]) (st1 := [.int a2.1, .int a.1]) (r := some (.int a2.1)) (h' := a2.2) (k' := k) hC (tX12_again h2) (by decide) cwX12_again rfl rfl mlL_133 rfl (fun _ => rfl) (fun _ => rfl) rfl rfl (Nat.le_of_ble_eq_true rfl) dL_law_1102 ?_
  refine Z.eqT (tgt := 1110) hC dL_law_1105 (by decide) h3 ?_
  exact hk _ _ _ _ hR2
theorem law_gt {L j : Nat} (h : L < j + 6) (hL : L ≤ 384) (hj : j ≤ 384) : nI L - 6 < nI j := by
  rw [Int32.lt_iff_toInt_lt, show (6 : Int32) = nI 6 from rfl, pk_sub_toInt (by omega) (by omega), nI_toInt (by omega)]
  omega
set_option maxRecDepth 100000 in
set_option maxHeartbeats 4000000 in
theorem law_loop {p : Program} {l : Launch} {e : Env} {s : State} {m : MethodId} {below : List Frame} {meth : Method} {c : Code} {D : va_G} {ct : Bool → ClassId} {aC aM : Nat → Nat} {b L : Nat} {xs : Nat → Int32} (hC : zC p s m meth c D ct aC aM b L xs) : ∀ (N j n : Nat) {i : Int32} {f : xM} {g : xN} {h : xM} {k : xN}, i = nI j → j ≤ 384 → L < j + N → 6 * n ≤ j → Rel n f g h k → Z p l e s m below meth c D ct aC aM b 18 i [] f g h k := by
  intro N
  have hL : L ≤ 384 := hC.2.1
  induction N with
  | zero =>
    intro j n i f g h k hi hj hN hn hR
    refine Z.iload3 hC dL_law_18 ?_
    refine Z.aload0 hC dL_law_19 ?_
    refine Z.slen hC dL_law_20 ?_
    refine Z.bipush (v := (6 : Int32)) hC dL_law_21 (by decide) ?_
    refine Z.isub hC dL_law_23 ?_
    refine Z.gt (tgt := 1116) hC dL_law_24 (by decide) (fun _ => ?_) (fun c1 => ?_)
    · refine Z.iconst (v := (1 : Int32)) hC dL_law_1116 (by decide) ?_
      exact Z.ret hC dL_law_1117
    · exact absurd (by rw [hi]; exact law_gt (by omega) (by omega) (by omega)) c1
  | succ N ih =>
    intro j n i f g h k hi hj hN hn hR
    refine Z.iload3 hC dL_law_18 ?_
    refine Z.aload0 hC dL_law_19 ?_
    refine Z.slen hC dL_law_20 ?_
    refine Z.bipush (v := (6 : Int32)) hC dL_law_21 (by decide) ?_
    refine Z.isub hC dL_law_23 ?_
    refine Z.gt (tgt := 1116) hC dL_law_24 (by decide) (fun _ => ?_) (fun c1 => ?_)
    · refine Z.iconst (v := (1 : Int32)) hC dL_law_1116 (by decide) ?_
      exact Z.ret hC dL_law_1117
    · have hjL : j + 6 ≤ L := by
        rcases Nat.lt_or_ge L (j + 6) with q | q
        · exact absurd (by rw [hi]; exact law_gt q (by omega) (by omega)) c1
        · exact q
      have hix : ∀ q : Nat, q < 6 → vp_in (i + nI q) L := fun q hq => by rw [hi, nI_add]; exact vp_in_nI (by omega) (by omega)
      have hi0 : vp_in i L := by rw [hi]; exact vp_in_nI (by omega) (by omega)
      have hi1 : vp_in (i + (1 : Int32)) L := hix 1 (by omega)
      have hi2 : vp_in (i + (2 : Int32)) L := hix 2 (by omega)
      have hi3 : vp_in (i + (3 : Int32)) L := hix 3 (by omega)
      have hi4 : vp_in (i + (4 : Int32)) L := hix 4 (by omega)
      have hi5 : vp_in (i + (5 : Int32)) L := hix 5 (by omega)
      have hn1 : n ≤ 100 := by omega
      have hnext : ∀ f2 g2 h2 k2, Rel (n + 1) f2 g2 h2 k2 → Z p l e s m below meth c D ct aC aM b 1110 i [] f2 g2 h2 k2 := by
        intro f2 g2 h2 k2 hR2
        refine Z.iinc3 hC dL_law_1110 ?_
        refine Z.goto (tgt := 18) hC dL_law_1113 (by decide) ?_
        exact ih (j + 6) (n + 1) (by rw [hi]; exact nI_add j 6) (by omega) (by omega) (by omega) hR2
      have hskip : Rel n f g h k → Z p l e s m below meth c D ct aC aM b 1110 i [] f g h k := by
        intro hR2
        refine Z.iinc3 hC dL_law_1110 ?_
        refine Z.goto (tgt := 18) hC dL_law_1113 (by decide) ?_
        exact ih (j + 6) n (by rw [hi]; exact nI_add j 6) (by omega) (by omega) (by omega) hR2
      refine Z.aload0 hC dL_law_27 ?_
      refine Z.iload3 hC dL_law_28 ?_
      refine Z.sld hC dL_law_29 hi0 ?_
      refine Z.bipush (v := (31 : Int32)) hC dL_law_30 (by decide) ?_
      refine Z.iand hC dL_law_32 ?_
      generalize xs i.toNatClampNeg &&& 31 = x
      by_cases z0 : x = (0 : Int32)
      · exact Z.swIn (off := 123) (tgt := 156) hC dL_law_33 z0 (by decide) (by decide) rfl (by decide) (law_case_0 hC hi1 hi2 hi3 hi4 hi5 hn1 hR hnext)
      by_cases z1 : x = (1 : Int32)
      · exact Z.swIn (off := 146) (tgt := 179) hC dL_law_33 z1 (by decide) (by decide) rfl (by decide) (law_case_1 hC hi1 hi2 hi3 hi4 hi5 hn1 hR hnext)
      by_cases z2 : x = (2 : Int32)
      · exact Z.swIn (off := 159) (tgt := 192) hC dL_law_33 z2 (by decide) (by decide) rfl (by decide) (law_case_2 hC hi1 hi2 hi3 hi4 hi5 hn1 hR hnext)
      by_cases z3 : x = (3 : Int32)
      · exact Z.swIn (off := 172) (tgt := 205) hC dL_law_33 z3 (by decide) (by decide) rfl (by decide) (law_case_3 hC hi1 hi2 hi3 hi4 hi5 hn1 hR hnext)
      by_cases z4 : x = (4 : Int32)
      · exact Z.swIn (off := 185) (tgt := 218) hC dL_law_33 z4 (by decide) (by decide) rfl (by decide) (law_case_4 hC hi1 hi2 hi3 hi4 hi5 hn1 hR hnext)
      by_cases z5 : x = (5 : Int32)
      · exact Z.swIn (off := 208) (tgt := 241) hC dL_law_33 z5 (by decide) (by decide) rfl (by decide) (law_case_5 hC hi1 hi2 hi3 hi4 hi5 hn1 hR hnext)
      by_cases z6 : x = (6 : Int32)
      · exact Z.swIn (off := 231) (tgt := 264) hC dL_law_33 z6 (by decide) (by decide) rfl (by decide) (law_case_6 hC hi1 hi2 hi3 hi4 hi5 hn1 hR hnext)
      by_cases z7 : x = (7 : Int32)
      · exact Z.swIn (off := 264) (tgt := 297) hC dL_law_33 z7 (by decide) (by decide) rfl (by decide) (law_case_7 hC hi1 hi2 hi3 hi4 hi5 hn1 hR hnext)
      by_cases z8 : x = (8 : Int32)
      · exact Z.swIn (off := 307) (tgt := 340) hC dL_law_33 z8 (by decide) (by decide) rfl (by decide) (law_case_8 hC hi1 hi2 hi3 hi4 hi5 hn1 hR hnext)
      by_cases z9 : x = (9 : Int32)
      · exact Z.swIn (off := 320) (tgt := 353) hC dL_law_33 z9 (by decide) (by decide) rfl (by decide) (law_case_9 hC hi1 hi2 hi3 hi4 hi5 hn1 hR hnext)
      by_cases z10 : x = (10 : Int32)
      · exact Z.swIn (off := 353) (tgt := 386) hC dL_law_33 z10 (by decide) (by decide) rfl (by decide) (law_case_10 hC hi1 hi2 hi3 hi4 hi5 hn1 hR hnext)
      by_cases z11 : x = (11 : Int32)
      · exact Z.swIn (off := 386) (tgt := 419) hC dL_law_33 z11 (by decide) (by decide) rfl (by decide) (law_case_11 hC hi1 hi2 hi3 hi4 hi5 hn1 hR hnext)
      by_cases z12 : x = (12 : Int32)
      · exact Z.swIn (off := 399) (tgt := 432) hC dL_law_33 z12 (by decide) (by decide) rfl (by decide) (law_case_12 hC hi1 hi2 hi3 hi4 hi5 hn1 hR hnext)
      by_cases z13 : x = (13 : Int32)
      · exact Z.swIn (off := 472) (tgt := 505) hC dL_law_33 z13 (by decide) (by decide) rfl (by decide) (law_case_13 hC hi1 hi2 hi3 hi4 hi5 hn1 hR hnext)
      by_cases z14 : x = (14 : Int32)
      · exact Z.swIn (off := 495) (tgt := 528) hC dL_law_33 z14 (by decide) (by decide) rfl (by decide) (law_case_14 hC hi1 hi2 hi3 hi4 hi5 hn1 hR hnext)
      by_cases z15 : x = (15 : Int32)
      · exact Z.swIn (off := 518) (tgt := 551) hC dL_law_33 z15 (by decide) (by decide) rfl (by decide) (law_case_15 hC hi1 hi2 hi3 hi4 hi5 hn1 hR hnext)
      by_cases z16 : x = (16 : Int32)
      · exact Z.swIn (off := 591) (tgt := 624) hC dL_law_33 z16 (by decide) (by decide) rfl (by decide) (law_case_16 hC hi1 hi2 hi3 hi4 hi5 hn1 hR hnext)
      by_cases z17 : x = (17 : Int32)
      · exact Z.swIn (off := 664) (tgt := 697) hC dL_law_33 z17 (by decide) (by decide) rfl (by decide) (law_case_17 hC hi1 hi2 hi3 hi4 hi5 hn1 hR hnext)
      by_cases z18 : x = (18 : Int32)
      · exact Z.swIn (off := 717) (tgt := 750) hC dL_law_33 z18 (by decide) (by decide) rfl (by decide) (law_case_18 hC hi1 hi2 hi3 hi4 hi5 hn1 hR hnext)
      by_cases z19 : x = (19 : Int32)
      · exact Z.swIn (off := 740) (tgt := 773) hC dL_law_33 z19 (by decide) (by decide) rfl (by decide) (law_case_19 hC hi1 hi2 hi3 hi4 hi5 hn1 hR hnext)
      by_cases z20 : x = (20 : Int32)
      · exact Z.swIn (off := 773) (tgt := 806) hC dL_law_33 z20 (by decide) (by decide) rfl (by decide) (law_case_20 hC hi1 hi2 hi3 hi4 hi5 hn1 hR hnext)
      by_cases z21 : x = (21 : Int32)
      · exact Z.swIn (off := 836) (tgt := 869) hC dL_law_33 z21 (by decide) (by decide) rfl (by decide) (law_case_21 hC hi1 hi2 hi3 hi4 hi5 hn1 hR hnext)
      by_cases z22 : x = (22 : Int32)
      · exact Z.swIn (off := 905) (tgt := 938) hC dL_law_33 z22 (by decide) (by decide) rfl (by decide) (law_case_22 hC hi1 hi2 hi3 hi4 hi5 hn1 hR hnext)
      by_cases z23 : x = (23 : Int32)
      · exact Z.swIn (off := 954) (tgt := 987) hC dL_law_33 z23 (by decide) (by decide) rfl (by decide) (law_case_23 hC hi1 hi2 hi3 hi4 hi5 hn1 hR hnext)
      by_cases z24 : x = (24 : Int32)
      · exact Z.swIn (off := 1008) (tgt := 1041) hC dL_law_33 z24 (by decide) (by decide) rfl (by decide) (law_case_24 hC hi1 hi2 hi3 hi4 hi5 hn1 hR hnext)
      by_cases z25 : x = (25 : Int32)
      · exact Z.swIn (off := 1031) (tgt := 1064) hC dL_law_33 z25 (by decide) (by decide) rfl (by decide) (law_case_25 hC hi1 hi2 hi3 hi4 hi5 hn1 hR hnext)
      by_cases z26 : x = (26 : Int32)
      · exact Z.swIn (off := 1054) (tgt := 1087) hC dL_law_33 z26 (by decide) (by decide) rfl (by decide) (law_case_26 hC hi1 hi2 hi3 hi4 hi5 hn1 hR hnext)
      refine Z.swOut (tgt := 1110) hC dL_law_33 (xsw_out (fun q q1 q2 => ?_)) (by decide) (hskip hR)
      rcases (show q = 0 ∨ q = 1 ∨ q = 2 ∨ q = 3 ∨ q = 4 ∨ q = 5 ∨ q = 6 ∨ q = 7 ∨ q = 8 ∨ q = 9 ∨ q = 10 ∨ q = 11 ∨ q = 12 ∨ q = 13 ∨ q = 14 ∨ q = 15 ∨ q = 16 ∨ q = 17 ∨ q = 18 ∨ q = 19 ∨ q = 20 ∨ q = 21 ∨ q = 22 ∨ q = 23 ∨ q = 24 ∨ q = 25 ∨ q = 26 by omega) with rfl | rfl | rfl | rfl | rfl | rfl | rfl | rfl | rfl | rfl | rfl | rfl | rfl | rfl | rfl | rfl | rfl | rfl | rfl | rfl | rfl | rfl | rfl | rfl | rfl | rfl | rfl <;> assumption
