/-! The cases of the law's switch. (wip/whole/gen/law.py) -/
theorem g_bool {κ : KX} {D : CX} {lay : List Kd} {ad : Nat → Nat} {n1 n2 : Nat} {w : Wd} {pc : Nat} {ls : List (Nat × Value)} {st : List Value} {cc : ByteArray} {own : String} {rm : Room} {lc : Launch} {L y : Nat} {a o1 o2 : Int} (X : gX κ D cc own rm lc L) (d0 : decode cc pc = .ok (.ifCond .eq o1, 3)) (d1 : decode cc (pc + 3) = .ok (.iconst 1, 1)) (d2 : decode cc (pc + 3 + 1) = .ok (.goto o2, 3)) (d3 : decode cc (pc + 7) = .ok (.iconst 0, 1)) (h1 : (pc : Int) + o1 = ((pc + 7 : Nat) : Int)) (h2 : ((pc + 3 + 1 : Nat) : Int) + o2 = (y : Int)) (hy : y = pc + 8) (ha : R32 a) (k : G κ D lay ad n1 n2 w y ls (iv (bz (decide (a ≠ 0))) :: st)) : G κ D lay ad n1 n2 w pc ls (iv a :: st) := by
  subst hy
  by_cases c : a = 0
  · rw [decide_eq_false (by omega)] at k
    refine g_if_eq X (Y := some ()) (Z := none) (v := ()) (by rw [wr_id ha.1 ha.2, if_pos c]) d0 h1 (fun _ => ?_) (fun h => by cases h)
    exact g_iconst X d3 k
  · rw [decide_eq_true c] at k
    refine g_if_eq X (Y := none) (Z := some ()) (v := ()) (by rw [wr_id ha.1 ha.2, if_neg c]) d0 h1 (fun h => by cases h) (fun _ => ?_)
    refine g_iconst X d1 ?_
    exact g_goto X d2 h2 k
theorem ship_26 {w w1 : Wd} (hR : Rel w) {r a1 a2 a3 a4 a5 a6 a7 : Int} (r1 : R32 a1) (r2 : R32 a2) (r3 : R32 a3) (r4 : R32 a4) (r5 : R32 a5) (r6 : R32 a6) (r7 : R32 a7) (hx : x_ship a1 a2 a3 a4 a5 a6 a7 w = some (r, w1)) : 0 ≤ w1 26 4 ∧ w1 26 4 ≤ 7 := by
  have p := p_ship hR.1 r1 r2 r3 r4 r5 r6 r7
  have e : w 26 4 = w 5 0 := hR.2.1
  have hN := hR.1.1
  by_cases c : shipC a1 a2 a3 a4 a5 a6 a7 ∧ w 5 0 < 7
  · cases (p.1 c).symm.trans hx
    show 0 ≤ w 26 4 ∧ w 26 4 ≤ 7
    omega
  · cases (p.2 c).symm.trans hx
    omega
theorem quay_26 {w w1 : Wd} (hR : Rel w) {r a1 a2 a4 a5 : Int} {v : Bool} (r1 : R32 a1) (r2 : R32 a2) (r4 : R32 a4) (r5 : R32 a5) (hx : x_quay a1 a2 (bz v) a4 a5 w = some (r, w1)) : 0 ≤ w1 26 6 ∧ w1 26 6 ≤ 4 := by
  have p := p_quay (v := v) hR.1 r1 r2 r4 r5
  have e : w 26 6 = w 16 0 := hR.2.2.1
  have hN := hR.1.2.1
  by_cases c : quayC a1 a2 a4 a5 ∧ w 16 0 < 4
  · cases (p.1 c).symm.trans hx
    show 0 ≤ w 26 6 ∧ w 26 6 ≤ 4
    omega
  · cases (p.2 c).symm.trans hx
    omega
theorem lc_0 {κ : KX} {D : CX} {ad : Nat → Nat} {n1 n2 : Nat} {w : Wd} {lc : Launch} {b N : Nat} {xs : Nat → Int32} {i : Int} (X : gX κ D cL_law RL room_1 lc 7) (S : gS κ b N xs) (hi : 0 ≤ i ∧ i + 8 ≤ (N : Int)) (hN : N ≤ 4096) (hR : Rel w) (hf : n1 + 1 ≤ 601024 ∧ n2 + 7 ≤ 7293034) (k : ∀ w', Rel w' → G κ D LAY ad (n1 + 1) (n2 + 7) w' 948 [(0, .ref b), (1, .ref (ad 0)), (2, .ref (ad 26)), (3, .ref (ad 40)), (4, iv i)] []) : G κ D LAY ad n1 n2 w 140 [(0, .ref b), (1, .ref (ad 0)), (2, .ref (ad 26)), (3, .ref (ad 40)), (4, iv i)] [] := by
  obtain ⟨r, w1, w2, hx, hm, hR2⟩ := a_tide hR (sx_R xs (i + 1)) (sx_R xs (i + 2))
  refine g_aload_n X 1 dL_law_140 rfl rfl ?_
  refine g_aload_n X 0 dL_law_141 rfl rfl ?_
  refine g_iload X 4 dL_law_142 rfl ?_
  refine g_iconst X dL_law_144 ?_
  refine g_iadd X dL_law_145 ?_
  refine g_sld X S (by omega) hN dL_law_146 ?_
  refine g_aload_n X 0 dL_law_147 rfl rfl ?_
  refine g_iload X 4 dL_law_148 rfl ?_
  refine g_iconst X dL_law_150 ?_
  refine g_iadd X dL_law_151 ?_
  refine g_sld X S (by omega) hN dL_law_152 ?_
  refine g_callVi X (st := []) 0 [iv (sx xs (i + 1)), iv (sx xs (i + 2))] (mc_x_tide hx) cal_X3_tide rfl rfl wm_L_19 (by decide) rfl rfl ⟨by have := hf.1; show n1 ≤ 601024; omega, by have := hf.2; show n2 ≤ 7293034; omega⟩ rfl (Nat.le_of_ble_eq_true rfl) dL_law_153 ?_
  refine g_aload_n X 2 dL_law_156 rfl rfl ?_
  refine g_aload_n X 0 dL_law_157 rfl rfl ?_
  refine g_iload X 4 dL_law_158 rfl ?_
  refine g_iconst X dL_law_160 ?_
  refine g_iadd X dL_law_161 ?_
  refine g_sld X S (by omega) hN dL_law_162 ?_
  refine g_aload_n X 0 dL_law_163 rfl rfl ?_
  refine g_iload X 4 dL_law_164 rfl ?_
  refine g_iconst X dL_law_166 ?_
  refine g_iadd X dL_law_167 ?_
  refine g_sld X S (by omega) hN dL_law_168 ?_
  refine g_callVi X (st := [iv r]) 26 [iv (sx xs (i + 1)), iv (sx xs (i + 2))] (mc_m_tide hm) cal_X4_tide rfl rfl wm_L_23 (by decide) rfl rfl ⟨by have := hf.1; show n1 ≤ 601024; omega, by have := hf.2; show n2 ≤ 7293034; omega⟩ rfl (Nat.le_of_ble_eq_true rfl) dL_law_169 ?_
  refine g_wide (k := n1 + 1) (n := n2 + 7) (by omega) (by omega) ?_
  exact g_icmp_eq X (Y := some ()) (Z := none) (v := ()) (if_pos rfl) dL_law_172 (tgt := 948) (by decide) (fun _ => k w2 hR2) (fun h => by cases h)
theorem lc_1 {κ : KX} {D : CX} {ad : Nat → Nat} {n1 n2 : Nat} {w : Wd} {lc : Launch} {b N : Nat} {xs : Nat → Int32} {i : Int} (X : gX κ D cL_law RL room_1 lc 7) (S : gS κ b N xs) (hi : 0 ≤ i ∧ i + 8 ≤ (N : Int)) (hN : N ≤ 4096) (hR : Rel w) (hf : n1 + 1 ≤ 601024 ∧ n2 + 7 ≤ 7293034) {t : Nat} (E : gE κ (Ez t)) (k : ∀ w', Rel w' → G κ D LAY ad (n1 + 1) (n2 + 7) w' 948 [(0, .ref b), (1, .ref (ad 0)), (2, .ref (ad 26)), (3, .ref (ad 40)), (4, iv i)] []) : G κ D LAY ad n1 n2 w 177 [(0, .ref b), (1, .ref (ad 0)), (2, .ref (ad 26)), (3, .ref (ad 40)), (4, iv i)] [] := by
  obtain ⟨r, w1, w2, hx, hm, hR2⟩ := a_set hR (sx_R xs (i + 1)) (sx_R xs (i + 2))
  refine g_aload_n X 1 dL_law_177 rfl rfl ?_
  refine g_aload_n X 0 dL_law_178 rfl rfl ?_
  refine g_iload X 4 dL_law_179 rfl ?_
  refine g_iconst X dL_law_181 ?_
  refine g_iadd X dL_law_182 ?_
  refine g_sld X S (by omega) hN dL_law_183 ?_
  refine g_aload_n X 0 dL_law_184 rfl rfl ?_
  refine g_iload X 4 dL_law_185 rfl ?_
  refine g_iconst X dL_law_187 ?_
  refine g_iadd X dL_law_188 ?_
  refine g_sld X S (by omega) hN dL_law_189 ?_
  refine g_callVE X (Ez_ok t) E (r := some (iv r)) (mc := 0) (ms := 0) (st := []) 0 [iv (sx xs (i + 1)), iv (sx xs (i + 2))] (mc_x_set (sx_R xs (i + 1)) (sx_R xs (i + 2)) hx) cal_X3_set rfl rfl wm_L_24 (by decide) rfl rfl ⟨by have := hf.1; show n1 ≤ 601024; omega, by have := hf.2; show n2 ≤ 7293034; omega⟩ rfl (Nat.le_of_ble_eq_true rfl) dL_law_190 ?_
  show G κ D LAY ad n1 n2 w1 193 [(0, .ref b), (1, .ref (ad 0)), (2, .ref (ad 26)), (3, .ref (ad 40)), (4, iv i)] [iv r]
  refine g_aload_n X 2 dL_law_193 rfl rfl ?_
  refine g_aload_n X 0 dL_law_194 rfl rfl ?_
  refine g_iload X 4 dL_law_195 rfl ?_
  refine g_iconst X dL_law_197 ?_
  refine g_iadd X dL_law_198 ?_
  refine g_sld X S (by omega) hN dL_law_199 ?_
  refine g_aload_n X 0 dL_law_200 rfl rfl ?_
  refine g_iload X 4 dL_law_201 rfl ?_
  refine g_iconst X dL_law_203 ?_
  refine g_iadd X dL_law_204 ?_
  refine g_sld X S (by omega) hN dL_law_205 ?_
  refine g_callVi X (st := [iv r]) 26 [iv (sx xs (i + 1)), iv (sx xs (i + 2))] (mc_m_set hm) cal_X4_set rfl rfl wm_L_28 (by decide) rfl rfl ⟨by have := hf.1; show n1 ≤ 601024; omega, by have := hf.2; show n2 ≤ 7293034; omega⟩ rfl (Nat.le_of_ble_eq_true rfl) dL_law_206 ?_
  refine g_wide (k := n1 + 1) (n := n2 + 7) (by omega) (by omega) ?_
  exact g_icmp_eq X (Y := some ()) (Z := none) (v := ()) (if_pos rfl) dL_law_209 (tgt := 948) (by decide) (fun _ => k w2 hR2) (fun h => by cases h)
theorem lc_2 {κ : KX} {D : CX} {ad : Nat → Nat} {n1 n2 : Nat} {w : Wd} {lc : Launch} {b N : Nat} {xs : Nat → Int32} {i : Int} (X : gX κ D cL_law RL room_1 lc 7) (S : gS κ b N xs) (hi : 0 ≤ i ∧ i + 8 ≤ (N : Int)) (hN : N ≤ 4096) (hR : Rel w) (hf : n1 + 1 ≤ 601024 ∧ n2 + 7 ≤ 7293034) (k : ∀ w', Rel w' → G κ D LAY ad (n1 + 1) (n2 + 7) w' 948 [(0, .ref b), (1, .ref (ad 0)), (2, .ref (ad 26)), (3, .ref (ad 40)), (4, iv i)] []) : G κ D LAY ad n1 n2 w 214 [(0, .ref b), (1, .ref (ad 0)), (2, .ref (ad 26)), (3, .ref (ad 40)), (4, iv i)] [] := by
  obtain ⟨r, w1, w2, hx, hm, hR2⟩ := a_tugs hR (sx_R xs (i + 1)) (sx_R xs (i + 2)) (sx_R xs (i + 3))
  refine g_aload_n X 1 dL_law_214 rfl rfl ?_
  refine g_aload_n X 0 dL_law_215 rfl rfl ?_
  refine g_iload X 4 dL_law_216 rfl ?_
  refine g_iconst X dL_law_218 ?_
  refine g_iadd X dL_law_219 ?_
  refine g_sld X S (by omega) hN dL_law_220 ?_
  refine g_aload_n X 0 dL_law_221 rfl rfl ?_
  refine g_iload X 4 dL_law_222 rfl ?_
  refine g_iconst X dL_law_224 ?_
  refine g_iadd X dL_law_225 ?_
  refine g_sld X S (by omega) hN dL_law_226 ?_
  refine g_aload_n X 0 dL_law_227 rfl rfl ?_
  refine g_iload X 4 dL_law_228 rfl ?_
  refine g_iconst X dL_law_230 ?_
  refine g_iadd X dL_law_231 ?_
  refine g_sld X S (by omega) hN dL_law_232 ?_
  refine g_callVi X (st := []) 0 [iv (sx xs (i + 1)), iv (sx xs (i + 2)), iv (sx xs (i + 3))] (mc_x_tugs hx) cal_X3_tugs rfl rfl wm_L_29 (by decide) rfl rfl ⟨by have := hf.1; show n1 ≤ 601024; omega, by have := hf.2; show n2 ≤ 7293034; omega⟩ rfl (Nat.le_of_ble_eq_true rfl) dL_law_233 ?_
  refine g_aload_n X 2 dL_law_236 rfl rfl ?_
  refine g_aload_n X 0 dL_law_237 rfl rfl ?_
  refine g_iload X 4 dL_law_238 rfl ?_
  refine g_iconst X dL_law_240 ?_
  refine g_iadd X dL_law_241 ?_
  refine g_sld X S (by omega) hN dL_law_242 ?_
  refine g_aload_n X 0 dL_law_243 rfl rfl ?_
  refine g_iload X 4 dL_law_244 rfl ?_
  refine g_iconst X dL_law_246 ?_
  refine g_iadd X dL_law_247 ?_
  refine g_sld X S (by omega) hN dL_law_248 ?_
  refine g_aload_n X 0 dL_law_249 rfl rfl ?_
  refine g_iload X 4 dL_law_250 rfl ?_
  refine g_iconst X dL_law_252 ?_
  refine g_iadd X dL_law_253 ?_
  refine g_sld X S (by omega) hN dL_law_254 ?_
  refine g_callVi X (st := [iv r]) 26 [iv (sx xs (i + 1)), iv (sx xs (i + 2)), iv (sx xs (i + 3))] (mc_m_tugs hm) cal_X4_tugs rfl rfl wm_L_33 (by decide) rfl rfl ⟨by have := hf.1; show n1 ≤ 601024; omega, by have := hf.2; show n2 ≤ 7293034; omega⟩ rfl (Nat.le_of_ble_eq_true rfl) dL_law_255 ?_
  refine g_wide (k := n1 + 1) (n := n2 + 7) (by omega) (by omega) ?_
  exact g_icmp_eq X (Y := some ()) (Z := none) (v := ()) (if_pos rfl) dL_law_258 (tgt := 948) (by decide) (fun _ => k w2 hR2) (fun h => by cases h)
theorem lc_3 {κ : KX} {D : CX} {ad : Nat → Nat} {n1 n2 : Nat} {w : Wd} {lc : Launch} {b N : Nat} {xs : Nat → Int32} {i : Int} (X : gX κ D cL_law RL room_1 lc 7) (S : gS κ b N xs) (hi : 0 ≤ i ∧ i + 8 ≤ (N : Int)) (hN : N ≤ 4096) (hR : Rel w) (hf : n1 + 1 ≤ 601024 ∧ n2 + 7 ≤ 7293034) (k : ∀ w', Rel w' → G κ D LAY ad (n1 + 1) (n2 + 7) w' 948 [(0, .ref b), (1, .ref (ad 0)), (2, .ref (ad 26)), (3, .ref (ad 40)), (4, iv i)] []) : G κ D LAY ad n1 n2 w 263 [(0, .ref b), (1, .ref (ad 0)), (2, .ref (ad 26)), (3, .ref (ad 40)), (4, iv i)] [] := by
  obtain ⟨r, w1, w2, hx, hm, hR2⟩ := a_ship hR (sx_R xs (i + 1)) (sx_R xs (i + 2)) (sx_R xs (i + 3)) (sx_R xs (i + 4)) (sx_R xs (i + 5)) (sx_R xs (i + 6)) (sx_R xs (i + 7))
  refine g_aload_n X 1 dL_law_263 rfl rfl ?_
  refine g_aload_n X 0 dL_law_264 rfl rfl ?_
  refine g_iload X 4 dL_law_265 rfl ?_
  refine g_iconst X dL_law_267 ?_
  refine g_iadd X dL_law_268 ?_
  refine g_sld X S (by omega) hN dL_law_269 ?_
  refine g_aload_n X 0 dL_law_270 rfl rfl ?_
  refine g_iload X 4 dL_law_271 rfl ?_
  refine g_iconst X dL_law_273 ?_
  refine g_iadd X dL_law_274 ?_
  refine g_sld X S (by omega) hN dL_law_275 ?_
  refine g_aload_n X 0 dL_law_276 rfl rfl ?_
  refine g_iload X 4 dL_law_277 rfl ?_
  refine g_iconst X dL_law_279 ?_
  refine g_iadd X dL_law_280 ?_
  refine g_sld X S (by omega) hN dL_law_281 ?_
  refine g_aload_n X 0 dL_law_282 rfl rfl ?_
  refine g_iload X 4 dL_law_283 rfl ?_
  refine g_iconst X dL_law_285 ?_
  refine g_iadd X dL_law_286 ?_
  refine g_sld X S (by omega) hN dL_law_287 ?_
  refine g_aload_n X 0 dL_law_288 rfl rfl ?_
  refine g_iload X 4 dL_law_289 rfl ?_
  refine g_iconst X dL_law_291 ?_
  refine g_iadd X dL_law_292 ?_
  refine g_sld X S (by omega) hN dL_law_293 ?_
  refine g_aload_n X 0 dL_law_294 rfl rfl ?_
  refine g_iload X 4 dL_law_295 rfl ?_
  refine g_bipush X 6 dL_law_297 (by decide) ?_
  refine g_iadd X dL_law_299 ?_
  refine g_sld X S (by omega) hN dL_law_300 ?_
  refine g_aload_n X 0 dL_law_301 rfl rfl ?_
  refine g_iload X 4 dL_law_302 rfl ?_
  refine g_bipush X 7 dL_law_304 (by decide) ?_
  refine g_iadd X dL_law_306 ?_
  refine g_sld X S (by omega) hN dL_law_307 ?_
  refine g_callVi X (st := []) 0 [iv (sx xs (i + 1)), iv (sx xs (i + 2)), iv (sx xs (i + 3)), iv (sx xs (i + 4)), iv (sx xs (i + 5)), iv (sx xs (i + 6)), iv (sx xs (i + 7))] (mc_x_ship hx) cal_X3_ship rfl rfl wm_L_34 (by decide) rfl rfl ⟨by have := hf.1; show n1 ≤ 601024; omega, by have := hf.2; show n2 ≤ 7293034; omega⟩ rfl (Nat.le_of_ble_eq_true rfl) dL_law_308 ?_
  refine g_aload_n X 2 dL_law_311 rfl rfl ?_
  refine g_aload_n X 0 dL_law_312 rfl rfl ?_
  refine g_iload X 4 dL_law_313 rfl ?_
  refine g_iconst X dL_law_315 ?_
  refine g_iadd X dL_law_316 ?_
  refine g_sld X S (by omega) hN dL_law_317 ?_
  refine g_aload_n X 0 dL_law_318 rfl rfl ?_
  refine g_iload X 4 dL_law_319 rfl ?_
  refine g_iconst X dL_law_321 ?_
  refine g_iadd X dL_law_322 ?_
  refine g_sld X S (by omega) hN dL_law_323 ?_
  refine g_aload_n X 0 dL_law_324 rfl rfl ?_
  refine g_iload X 4 dL_law_325 rfl ?_
  refine g_iconst X dL_law_327 ?_
  refine g_iadd X dL_law_328 ?_
  refine g_sld X S (by omega) hN dL_law_329 ?_
  refine g_aload_n X 0 dL_law_330 rfl rfl ?_
  refine g_iload X 4 dL_law_331 rfl ?_
  refine g_iconst X dL_law_333 ?_
  refine g_iadd X dL_law_334 ?_
  refine g_sld X S (by omega) hN dL_law_335 ?_
  refine g_aload_n X 0 dL_law_336 rfl rfl ?_
  refine g_iload X 4 dL_law_337 rfl ?_
  refine g_iconst X dL_law_339 ?_
  refine g_iadd X dL_law_340 ?_
  refine g_sld X S (by omega) hN dL_law_341 ?_
  refine g_aload_n X 0 dL_law_342 rfl rfl ?_
  refine g_iload X 4 dL_law_343 rfl ?_
  refine g_bipush X 6 dL_law_345 (by decide) ?_
  refine g_iadd X dL_law_347 ?_
  refine g_sld X S (by omega) hN dL_law_348 ?_
  refine g_aload_n X 0 dL_law_349 rfl rfl ?_
  refine g_iload X 4 dL_law_350 rfl ?_
  refine g_bipush X 7 dL_law_352 (by decide) ?_
  refine g_iadd X dL_law_354 ?_
  refine g_sld X S (by omega) hN dL_law_355 ?_
  refine g_callV X (r := some (iv r)) (mc := 1) (ms := 7) (st := [iv r]) 26 [iv (sx xs (i + 1)), iv (sx xs (i + 2)), iv (sx xs (i + 3)), iv (sx xs (i + 4)), iv (sx xs (i + 5)), iv (sx xs (i + 6)), iv (sx xs (i + 7))] (mc_m_ship (v := (r, w2)) (ship_26 hR (sx_R xs (i + 1)) (sx_R xs (i + 2)) (sx_R xs (i + 3)) (sx_R xs (i + 4)) (sx_R xs (i + 5)) (sx_R xs (i + 6)) (sx_R xs (i + 7)) hx) (sx_R xs (i + 1)) (sx_R xs (i + 2)) (sx_R xs (i + 3)) (sx_R xs (i + 4)) (sx_R xs (i + 5)) (sx_R xs (i + 6)) (sx_R xs (i + 7)) hm) cal_X4_ship rfl rfl wm_L_38 (by decide) rfl rfl ⟨hf.1, by have := hf.2; show n2 + 7 ≤ 7293034; omega⟩ rfl (Nat.le_of_ble_eq_true rfl) dL_law_356 ?_
  refine g_wide (k := n1 + 1) (n := n2 + 7) (by omega) (by omega) ?_
  show G κ D LAY ad (n1 + 1) (n2 + 7) w2 359 [(0, .ref b), (1, .ref (ad 0)), (2, .ref (ad 26)), (3, .ref (ad 40)), (4, iv i)] [iv r, iv r]
  exact g_icmp_eq X (Y := some ()) (Z := none) (v := ()) (if_pos rfl) dL_law_359 (tgt := 948) (by decide) (fun _ => k w2 hR2) (fun h => by cases h)
theorem lc_4 {κ : KX} {D : CX} {ad : Nat → Nat} {n1 n2 : Nat} {w : Wd} {lc : Launch} {b N : Nat} {xs : Nat → Int32} {i : Int} (X : gX κ D cL_law RL room_1 lc 7) (S : gS κ b N xs) (hi : 0 ≤ i ∧ i + 8 ≤ (N : Int)) (hN : N ≤ 4096) (hR : Rel w) (hf : n1 + 1 ≤ 601024 ∧ n2 + 7 ≤ 7293034) (k : ∀ w', Rel w' → G κ D LAY ad (n1 + 1) (n2 + 7) w' 948 [(0, .ref b), (1, .ref (ad 0)), (2, .ref (ad 26)), (3, .ref (ad 40)), (4, iv i)] []) : G κ D LAY ad n1 n2 w 364 [(0, .ref b), (1, .ref (ad 0)), (2, .ref (ad 26)), (3, .ref (ad 40)), (4, iv i)] [] := by
  obtain ⟨r, w1, w2, hx, hm, hR2⟩ := a_quay (v := (decide (sx xs (i + 3) ≠ 0))) hR (sx_R xs (i + 1)) (sx_R xs (i + 2)) (sx_R xs (i + 4)) (sx_R xs (i + 5))
  refine g_aload_n X 1 dL_law_364 rfl rfl ?_
  refine g_aload_n X 0 dL_law_365 rfl rfl ?_
  refine g_iload X 4 dL_law_366 rfl ?_
  refine g_iconst X dL_law_368 ?_
  refine g_iadd X dL_law_369 ?_
  refine g_sld X S (by omega) hN dL_law_370 ?_
  refine g_aload_n X 0 dL_law_371 rfl rfl ?_
  refine g_iload X 4 dL_law_372 rfl ?_
  refine g_iconst X dL_law_374 ?_
  refine g_iadd X dL_law_375 ?_
  refine g_sld X S (by omega) hN dL_law_376 ?_
  refine g_aload_n X 0 dL_law_377 rfl rfl ?_
  refine g_iload X 4 dL_law_378 rfl ?_
  refine g_iconst X dL_law_380 ?_
  refine g_iadd X dL_law_381 ?_
  refine g_sld X S (by omega) hN dL_law_382 ?_
  refine g_bool X (y := 391) dL_law_383 dL_law_386 dL_law_387 dL_law_390 (by decide) (by decide) rfl (sx_R xs _) ?_
  refine g_aload_n X 0 dL_law_391 rfl rfl ?_
  refine g_iload X 4 dL_law_392 rfl ?_
  refine g_iconst X dL_law_394 ?_
  refine g_iadd X dL_law_395 ?_
  refine g_sld X S (by omega) hN dL_law_396 ?_
  refine g_aload_n X 0 dL_law_397 rfl rfl ?_
  refine g_iload X 4 dL_law_398 rfl ?_
  refine g_iconst X dL_law_400 ?_
  refine g_iadd X dL_law_401 ?_
  refine g_sld X S (by omega) hN dL_law_402 ?_
  refine g_callVi X (st := []) 0 [iv (sx xs (i + 1)), iv (sx xs (i + 2)), iv (bz (decide (sx xs (i + 3) ≠ 0))), iv (sx xs (i + 4)), iv (sx xs (i + 5))] (mc_x_quay hx) cal_X3_quay rfl rfl wm_L_39 (by decide) rfl rfl ⟨by have := hf.1; show n1 ≤ 601024; omega, by have := hf.2; show n2 ≤ 7293034; omega⟩ rfl (Nat.le_of_ble_eq_true rfl) dL_law_403 ?_
  refine g_aload_n X 2 dL_law_406 rfl rfl ?_
  refine g_aload_n X 0 dL_law_407 rfl rfl ?_
  refine g_iload X 4 dL_law_408 rfl ?_
  refine g_iconst X dL_law_410 ?_
  refine g_iadd X dL_law_411 ?_
  refine g_sld X S (by omega) hN dL_law_412 ?_
  refine g_aload_n X 0 dL_law_413 rfl rfl ?_
  refine g_iload X 4 dL_law_414 rfl ?_
  refine g_iconst X dL_law_416 ?_
  refine g_iadd X dL_law_417 ?_
  refine g_sld X S (by omega) hN dL_law_418 ?_
  refine g_aload_n X 0 dL_law_419 rfl rfl ?_
  refine g_iload X 4 dL_law_420 rfl ?_
  refine g_iconst X dL_law_422 ?_
  refine g_iadd X dL_law_423 ?_
  refine g_sld X S (by omega) hN dL_law_424 ?_
  refine g_bool X (y := 433) dL_law_425 dL_law_428 dL_law_429 dL_law_432 (by decide) (by decide) rfl (sx_R xs _) ?_
  refine g_aload_n X 0 dL_law_433 rfl rfl ?_
  refine g_iload X 4 dL_law_434 rfl ?_
  refine g_iconst X dL_law_436 ?_
  refine g_iadd X dL_law_437 ?_
  refine g_sld X S (by omega) hN dL_law_438 ?_
  refine g_aload_n X 0 dL_law_439 rfl rfl ?_
  refine g_iload X 4 dL_law_440 rfl ?_
  refine g_iconst X dL_law_442 ?_
  refine g_iadd X dL_law_443 ?_
  refine g_sld X S (by omega) hN dL_law_444 ?_
  refine g_callV X (r := some (iv r)) (mc := 1) (ms := 5) (st := [iv r]) 26 [iv (sx xs (i + 1)), iv (sx xs (i + 2)), iv (bz (decide (sx xs (i + 3) ≠ 0))), iv (sx xs (i + 4)), iv (sx xs (i + 5))] (mc_m_quay (v := (r, w2)) (quay_26 hR (sx_R xs (i + 1)) (sx_R xs (i + 2)) (sx_R xs (i + 4)) (sx_R xs (i + 5)) hx) (sx_R xs (i + 1)) (sx_R xs (i + 2)) (sx_R xs (i + 4)) (sx_R xs (i + 5)) hm) cal_X4_quay rfl rfl wm_L_43 (by decide) rfl rfl ⟨hf.1, by have := hf.2; show n2 + 5 ≤ 7293034; omega⟩ rfl (Nat.le_of_ble_eq_true rfl) dL_law_445 ?_
  refine g_wide (k := n1 + 1) (n := n2 + 7) (by omega) (by omega) ?_
  show G κ D LAY ad (n1 + 1) (n2 + 7) w2 448 [(0, .ref b), (1, .ref (ad 0)), (2, .ref (ad 26)), (3, .ref (ad 40)), (4, iv i)] [iv r, iv r]
  exact g_icmp_eq X (Y := some ()) (Z := none) (v := ()) (if_pos rfl) dL_law_448 (tgt := 948) (by decide) (fun _ => k w2 hR2) (fun h => by cases h)
theorem lc_5 {κ : KX} {D : CX} {ad : Nat → Nat} {n1 n2 : Nat} {w : Wd} {lc : Launch} {b N : Nat} {xs : Nat → Int32} {i : Int} (X : gX κ D cL_law RL room_1 lc 7) (S : gS κ b N xs) (hi : 0 ≤ i ∧ i + 8 ≤ (N : Int)) (hN : N ≤ 4096) (hR : Rel w) (hf : n1 + 1 ≤ 601024 ∧ n2 + 7 ≤ 7293034) (k : ∀ w', Rel w' → G κ D LAY ad (n1 + 1) (n2 + 7) w' 948 [(0, .ref b), (1, .ref (ad 0)), (2, .ref (ad 26)), (3, .ref (ad 40)), (4, iv i)] []) : G κ D LAY ad n1 n2 w 453 [(0, .ref b), (1, .ref (ad 0)), (2, .ref (ad 26)), (3, .ref (ad 40)), (4, iv i)] [] := by
  obtain ⟨r, w1, w2, hx, hm, hR2⟩ := a_foul (v := (decide (sx xs (i + 3) ≠ 0))) hR (sx_R xs (i + 1)) (sx_R xs (i + 2))
  refine g_aload_n X 1 dL_law_453 rfl rfl ?_
  refine g_aload_n X 0 dL_law_454 rfl rfl ?_
  refine g_iload X 4 dL_law_455 rfl ?_
  refine g_iconst X dL_law_457 ?_
  refine g_iadd X dL_law_458 ?_
  refine g_sld X S (by omega) hN dL_law_459 ?_
  refine g_aload_n X 0 dL_law_460 rfl rfl ?_
  refine g_iload X 4 dL_law_461 rfl ?_
  refine g_iconst X dL_law_463 ?_
  refine g_iadd X dL_law_464 ?_
  refine g_sld X S (by omega) hN dL_law_465 ?_
  refine g_aload_n X 0 dL_law_466 rfl rfl ?_
  refine g_iload X 4 dL_law_467 rfl ?_
  refine g_iconst X dL_law_469 ?_
  refine g_iadd X dL_law_470 ?_
  refine g_sld X S (by omega) hN dL_law_471 ?_
  refine g_bool X (y := 480) dL_law_472 dL_law_475 dL_law_476 dL_law_479 (by decide) (by decide) rfl (sx_R xs _) ?_
  refine g_callVi X (st := []) 0 [iv (sx xs (i + 1)), iv (sx xs (i + 2)), iv (bz (decide (sx xs (i + 3) ≠ 0)))] (mc_x_foul hx) cal_X3_foul rfl rfl wm_L_44 (by decide) rfl rfl ⟨by have := hf.1; show n1 ≤ 601024; omega, by have := hf.2; show n2 ≤ 7293034; omega⟩ rfl (Nat.le_of_ble_eq_true rfl) dL_law_480 ?_
  refine g_aload_n X 2 dL_law_483 rfl rfl ?_
  refine g_aload_n X 0 dL_law_484 rfl rfl ?_
  refine g_iload X 4 dL_law_485 rfl ?_
  refine g_iconst X dL_law_487 ?_
  refine g_iadd X dL_law_488 ?_
  refine g_sld X S (by omega) hN dL_law_489 ?_
  refine g_aload_n X 0 dL_law_490 rfl rfl ?_
  refine g_iload X 4 dL_law_491 rfl ?_
  refine g_iconst X dL_law_493 ?_
  refine g_iadd X dL_law_494 ?_
  refine g_sld X S (by omega) hN dL_law_495 ?_
  refine g_aload_n X 0 dL_law_496 rfl rfl ?_
  refine g_iload X 4 dL_law_497 rfl ?_
  refine g_iconst X dL_law_499 ?_
  refine g_iadd X dL_law_500 ?_
  refine g_sld X S (by omega) hN dL_law_501 ?_
  refine g_bool X (y := 510) dL_law_502 dL_law_505 dL_law_506 dL_law_509 (by decide) (by decide) rfl (sx_R xs _) ?_
  refine g_callVi X (st := [iv r]) 26 [iv (sx xs (i + 1)), iv (sx xs (i + 2)), iv (bz (decide (sx xs (i + 3) ≠ 0)))] (mc_m_foul hm) cal_X4_foul rfl rfl wm_L_48 (by decide) rfl rfl ⟨by have := hf.1; show n1 ≤ 601024; omega, by have := hf.2; show n2 ≤ 7293034; omega⟩ rfl (Nat.le_of_ble_eq_true rfl) dL_law_510 ?_
  refine g_wide (k := n1 + 1) (n := n2 + 7) (by omega) (by omega) ?_
  exact g_icmp_eq X (Y := some ()) (Z := none) (v := ()) (if_pos rfl) dL_law_513 (tgt := 948) (by decide) (fun _ => k w2 hR2) (fun h => by cases h)
theorem lc_6 {κ : KX} {D : CX} {ad : Nat → Nat} {n1 n2 : Nat} {w : Wd} {lc : Launch} {b N : Nat} {xs : Nat → Int32} {i : Int} (X : gX κ D cL_law RL room_1 lc 7) (S : gS κ b N xs) (hi : 0 ≤ i ∧ i + 8 ≤ (N : Int)) (hN : N ≤ 4096) (hR : Rel w) (hf : n1 + 1 ≤ 601024 ∧ n2 + 7 ≤ 7293034) (k : ∀ w', Rel w' → G κ D LAY ad (n1 + 1) (n2 + 7) w' 948 [(0, .ref b), (1, .ref (ad 0)), (2, .ref (ad 26)), (3, .ref (ad 40)), (4, iv i)] []) : G κ D LAY ad n1 n2 w 518 [(0, .ref b), (1, .ref (ad 0)), (2, .ref (ad 26)), (3, .ref (ad 40)), (4, iv i)] [] := by
  obtain ⟨r, w1, w2, hx, hm, hR2⟩ := a_arrives hR (sx_R xs (i + 1)) (sx_R xs (i + 2))
  refine g_aload_n X 1 dL_law_518 rfl rfl ?_
  refine g_aload_n X 0 dL_law_519 rfl rfl ?_
  refine g_iload X 4 dL_law_520 rfl ?_
  refine g_iconst X dL_law_522 ?_
  refine g_iadd X dL_law_523 ?_
  refine g_sld X S (by omega) hN dL_law_524 ?_
  refine g_aload_n X 0 dL_law_525 rfl rfl ?_
  refine g_iload X 4 dL_law_526 rfl ?_
  refine g_iconst X dL_law_528 ?_
  refine g_iadd X dL_law_529 ?_
  refine g_sld X S (by omega) hN dL_law_530 ?_
  refine g_callVi X (st := []) 0 [iv (sx xs (i + 1)), iv (sx xs (i + 2))] (mc_x_arrives hx) cal_X3_arrives rfl rfl wm_L_49 (by decide) rfl rfl ⟨by have := hf.1; show n1 ≤ 601024; omega, by have := hf.2; show n2 ≤ 7293034; omega⟩ rfl (Nat.le_of_ble_eq_true rfl) dL_law_531 ?_
  refine g_aload_n X 2 dL_law_534 rfl rfl ?_
  refine g_aload_n X 0 dL_law_535 rfl rfl ?_
  refine g_iload X 4 dL_law_536 rfl ?_
  refine g_iconst X dL_law_538 ?_
  refine g_iadd X dL_law_539 ?_
  refine g_sld X S (by omega) hN dL_law_540 ?_
  refine g_aload_n X 0 dL_law_541 rfl rfl ?_
  refine g_iload X 4 dL_law_542 rfl ?_
  refine g_iconst X dL_law_544 ?_
  refine g_iadd X dL_law_545 ?_
  refine g_sld X S (by omega) hN dL_law_546 ?_
  refine g_callVi X (st := [iv r]) 26 [iv (sx xs (i + 1)), iv (sx xs (i + 2))] (mc_m_arrives hm) cal_X4_arrives rfl rfl wm_L_52 (by decide) rfl rfl ⟨by have := hf.1; show n1 ≤ 601024; omega, by have := hf.2; show n2 ≤ 7293034; omega⟩ rfl (Nat.le_of_ble_eq_true rfl) dL_law_547 ?_
  refine g_wide (k := n1 + 1) (n := n2 + 7) (by omega) (by omega) ?_
  exact g_icmp_eq X (Y := some ()) (Z := none) (v := ()) (if_pos rfl) dL_law_550 (tgt := 948) (by decide) (fun _ => k w2 hR2) (fun h => by cases h)
theorem lc_7 {κ : KX} {D : CX} {ad : Nat → Nat} {n1 n2 : Nat} {w : Wd} {lc : Launch} {b N : Nat} {xs : Nat → Int32} {i : Int} (X : gX κ D cL_law RL room_1 lc 7) (S : gS κ b N xs) (hi : 0 ≤ i ∧ i + 8 ≤ (N : Int)) (hN : N ≤ 4096) (hR : Rel w) (hf : n1 + 1 ≤ 601024 ∧ n2 + 7 ≤ 7293034) (k : ∀ w', Rel w' → G κ D LAY ad (n1 + 1) (n2 + 7) w' 948 [(0, .ref b), (1, .ref (ad 0)), (2, .ref (ad 26)), (3, .ref (ad 40)), (4, iv i)] []) : G κ D LAY ad n1 n2 w 555 [(0, .ref b), (1, .ref (ad 0)), (2, .ref (ad 26)), (3, .ref (ad 40)), (4, iv i)] [] := by
  obtain ⟨r, w1, w2, hx, hm, hR2⟩ := a_count hR (sx_R xs (i + 1))
  refine g_aload_n X 1 dL_law_555 rfl rfl ?_
  refine g_aload_n X 0 dL_law_556 rfl rfl ?_
  refine g_iload X 4 dL_law_557 rfl ?_
  refine g_iconst X dL_law_559 ?_
  refine g_iadd X dL_law_560 ?_
  refine g_sld X S (by omega) hN dL_law_561 ?_
  refine g_callVi X (st := []) 0 [iv (sx xs (i + 1))] (mc_x_count hx) cal_X3_count rfl rfl wm_L_53 (by decide) rfl rfl ⟨by have := hf.1; show n1 ≤ 601024; omega, by have := hf.2; show n2 ≤ 7293034; omega⟩ rfl (Nat.le_of_ble_eq_true rfl) dL_law_562 ?_
  refine g_aload_n X 2 dL_law_565 rfl rfl ?_
  refine g_aload_n X 0 dL_law_566 rfl rfl ?_
  refine g_iload X 4 dL_law_567 rfl ?_
  refine g_iconst X dL_law_569 ?_
  refine g_iadd X dL_law_570 ?_
  refine g_sld X S (by omega) hN dL_law_571 ?_
  refine g_callVi X (st := [iv r]) 26 [iv (sx xs (i + 1))] (mc_m_count hm) cal_X4_count rfl rfl wm_L_56 (by decide) rfl rfl ⟨by have := hf.1; show n1 ≤ 601024; omega, by have := hf.2; show n2 ≤ 7293034; omega⟩ rfl (Nat.le_of_ble_eq_true rfl) dL_law_572 ?_
  refine g_wide (k := n1 + 1) (n := n2 + 7) (by omega) (by omega) ?_
  exact g_icmp_eq X (Y := some ()) (Z := none) (v := ()) (if_pos rfl) dL_law_575 (tgt := 948) (by decide) (fun _ => k w2 hR2) (fun h => by cases h)
theorem lc_8 {κ : KX} {D : CX} {ad : Nat → Nat} {n1 n2 : Nat} {w : Wd} {lc : Launch} {b N : Nat} {xs : Nat → Int32} {i : Int} (X : gX κ D cL_law RL room_1 lc 7) (S : gS κ b N xs) (hi : 0 ≤ i ∧ i + 8 ≤ (N : Int)) (hN : N ≤ 4096) (hR : Rel w) (hf : n1 + 1 ≤ 601024 ∧ n2 + 7 ≤ 7293034) (k : ∀ w', Rel w' → G κ D LAY ad (n1 + 1) (n2 + 7) w' 948 [(0, .ref b), (1, .ref (ad 0)), (2, .ref (ad 26)), (3, .ref (ad 40)), (4, iv i)] []) : G κ D LAY ad n1 n2 w 580 [(0, .ref b), (1, .ref (ad 0)), (2, .ref (ad 26)), (3, .ref (ad 40)), (4, iv i)] [] := by
  obtain ⟨r, w1, w2, hx, hm, hR2⟩ := a_first hR (sx_R xs (i + 1)) (sx_R xs (i + 2)) (sx_R xs (i + 3))
  refine g_aload_n X 1 dL_law_580 rfl rfl ?_
  refine g_aload_n X 0 dL_law_581 rfl rfl ?_
  refine g_iload X 4 dL_law_582 rfl ?_
  refine g_iconst X dL_law_584 ?_
  refine g_iadd X dL_law_585 ?_
  refine g_sld X S (by omega) hN dL_law_586 ?_
  refine g_aload_n X 0 dL_law_587 rfl rfl ?_
  refine g_iload X 4 dL_law_588 rfl ?_
  refine g_iconst X dL_law_590 ?_
  refine g_iadd X dL_law_591 ?_
  refine g_sld X S (by omega) hN dL_law_592 ?_
  refine g_aload_n X 0 dL_law_593 rfl rfl ?_
  refine g_iload X 4 dL_law_594 rfl ?_
  refine g_iconst X dL_law_596 ?_
  refine g_iadd X dL_law_597 ?_
  refine g_sld X S (by omega) hN dL_law_598 ?_
  refine g_callVi X (st := []) 0 [iv (sx xs (i + 1)), iv (sx xs (i + 2)), iv (sx xs (i + 3))] (mc_x_first hx) cal_X3_first rfl rfl wm_L_57 (by decide) rfl rfl ⟨by have := hf.1; show n1 ≤ 601024; omega, by have := hf.2; show n2 ≤ 7293034; omega⟩ rfl (Nat.le_of_ble_eq_true rfl) dL_law_599 ?_
  refine g_aload_n X 2 dL_law_602 rfl rfl ?_
  refine g_aload_n X 0 dL_law_603 rfl rfl ?_
  refine g_iload X 4 dL_law_604 rfl ?_
  refine g_iconst X dL_law_606 ?_
  refine g_iadd X dL_law_607 ?_
  refine g_sld X S (by omega) hN dL_law_608 ?_
  refine g_aload_n X 0 dL_law_609 rfl rfl ?_
  refine g_iload X 4 dL_law_610 rfl ?_
  refine g_iconst X dL_law_612 ?_
  refine g_iadd X dL_law_613 ?_
  refine g_sld X S (by omega) hN dL_law_614 ?_
  refine g_aload_n X 0 dL_law_615 rfl rfl ?_
  refine g_iload X 4 dL_law_616 rfl ?_
  refine g_iconst X dL_law_618 ?_
  refine g_iadd X dL_law_619 ?_
  refine g_sld X S (by omega) hN dL_law_620 ?_
  refine g_callVi X (st := [iv r]) 26 [iv (sx xs (i + 1)), iv (sx xs (i + 2)), iv (sx xs (i + 3))] (mc_m_first hm) cal_X4_first rfl rfl wm_L_61 (by decide) rfl rfl ⟨by have := hf.1; show n1 ≤ 601024; omega, by have := hf.2; show n2 ≤ 7293034; omega⟩ rfl (Nat.le_of_ble_eq_true rfl) dL_law_621 ?_
  refine g_wide (k := n1 + 1) (n := n2 + 7) (by omega) (by omega) ?_
  exact g_icmp_eq X (Y := some ()) (Z := none) (v := ()) (if_pos rfl) dL_law_624 (tgt := 948) (by decide) (fun _ => k w2 hR2) (fun h => by cases h)
theorem lc_9 {κ : KX} {D : CX} {ad : Nat → Nat} {n1 n2 : Nat} {w : Wd} {lc : Launch} {b N : Nat} {xs : Nat → Int32} {i : Int} (X : gX κ D cL_law RL room_1 lc 7) (S : gS κ b N xs) (hi : 0 ≤ i ∧ i + 8 ≤ (N : Int)) (hN : N ≤ 4096) (hR : Rel w) (hf : n1 + 1 ≤ 601024 ∧ n2 + 7 ≤ 7293034) (k : ∀ w', Rel w' → G κ D LAY ad (n1 + 1) (n2 + 7) w' 948 [(0, .ref b), (1, .ref (ad 0)), (2, .ref (ad 26)), (3, .ref (ad 40)), (4, iv i)] []) : G κ D LAY ad n1 n2 w 629 [(0, .ref b), (1, .ref (ad 0)), (2, .ref (ad 26)), (3, .ref (ad 40)), (4, iv i)] [] := by
  obtain ⟨r, w1, w2, hx, hm, hR2⟩ := a_may hR (sx_R xs (i + 1)) (sx_R xs (i + 2))
  refine g_aload_n X 1 dL_law_629 rfl rfl ?_
  refine g_aload_n X 0 dL_law_630 rfl rfl ?_
  refine g_iload X 4 dL_law_631 rfl ?_
  refine g_iconst X dL_law_633 ?_
  refine g_iadd X dL_law_634 ?_
  refine g_sld X S (by omega) hN dL_law_635 ?_
  refine g_aload_n X 0 dL_law_636 rfl rfl ?_
  refine g_iload X 4 dL_law_637 rfl ?_
  refine g_iconst X dL_law_639 ?_
  refine g_iadd X dL_law_640 ?_
  refine g_sld X S (by omega) hN dL_law_641 ?_
  refine g_callVi X (st := []) 0 [iv (sx xs (i + 1)), iv (sx xs (i + 2))] (mc_x_may hx) cal_X3_may rfl rfl wm_L_62 (by decide) rfl rfl ⟨by have := hf.1; show n1 ≤ 601024; omega, by have := hf.2; show n2 ≤ 7293034; omega⟩ rfl (Nat.le_of_ble_eq_true rfl) dL_law_642 ?_
  refine g_aload_n X 2 dL_law_645 rfl rfl ?_
  refine g_aload_n X 0 dL_law_646 rfl rfl ?_
  refine g_iload X 4 dL_law_647 rfl ?_
  refine g_iconst X dL_law_649 ?_
  refine g_iadd X dL_law_650 ?_
  refine g_sld X S (by omega) hN dL_law_651 ?_
  refine g_aload_n X 0 dL_law_652 rfl rfl ?_
  refine g_iload X 4 dL_law_653 rfl ?_
  refine g_iconst X dL_law_655 ?_
  refine g_iadd X dL_law_656 ?_
  refine g_sld X S (by omega) hN dL_law_657 ?_
  refine g_callVi X (st := [iv r]) 26 [iv (sx xs (i + 1)), iv (sx xs (i + 2))] (mc_m_may hm) cal_X4_may rfl rfl wm_L_65 (by decide) rfl rfl ⟨by have := hf.1; show n1 ≤ 601024; omega, by have := hf.2; show n2 ≤ 7293034; omega⟩ rfl (Nat.le_of_ble_eq_true rfl) dL_law_658 ?_
  refine g_wide (k := n1 + 1) (n := n2 + 7) (by omega) (by omega) ?_
  exact g_icmp_eq X (Y := some ()) (Z := none) (v := ()) (if_pos rfl) dL_law_661 (tgt := 948) (by decide) (fun _ => k w2 hR2) (fun h => by cases h)
theorem lc_10 {κ : KX} {D : CX} {ad : Nat → Nat} {n1 n2 : Nat} {w : Wd} {lc : Launch} {b N : Nat} {xs : Nat → Int32} {i : Int} (X : gX κ D cL_law RL room_1 lc 7) (S : gS κ b N xs) (hi : 0 ≤ i ∧ i + 8 ≤ (N : Int)) (hN : N ≤ 4096) (hR : Rel w) (hf : n1 + 1 ≤ 601024 ∧ n2 + 7 ≤ 7293034) (k : ∀ w', Rel w' → G κ D LAY ad (n1 + 1) (n2 + 7) w' 948 [(0, .ref b), (1, .ref (ad 0)), (2, .ref (ad 26)), (3, .ref (ad 40)), (4, iv i)] []) : G κ D LAY ad n1 n2 w 666 [(0, .ref b), (1, .ref (ad 0)), (2, .ref (ad 26)), (3, .ref (ad 40)), (4, iv i)] [] := by
  obtain ⟨r, w1, w2, hx, hm, hR2⟩ := a_put hR (sx_R xs (i + 1)) (sx_R xs (i + 2))
  refine g_aload_n X 1 dL_law_666 rfl rfl ?_
  refine g_aload_n X 0 dL_law_667 rfl rfl ?_
  refine g_iload X 4 dL_law_668 rfl ?_
  refine g_iconst X dL_law_670 ?_
  refine g_iadd X dL_law_671 ?_
  refine g_sld X S (by omega) hN dL_law_672 ?_
  refine g_aload_n X 0 dL_law_673 rfl rfl ?_
  refine g_iload X 4 dL_law_674 rfl ?_
  refine g_iconst X dL_law_676 ?_
  refine g_iadd X dL_law_677 ?_
  refine g_sld X S (by omega) hN dL_law_678 ?_
  refine g_callVi X (st := []) 0 [iv (sx xs (i + 1)), iv (sx xs (i + 2))] (mc_x_put hx) cal_X3_put rfl rfl wm_L_66 (by decide) rfl rfl ⟨by have := hf.1; show n1 ≤ 601024; omega, by have := hf.2; show n2 ≤ 7293034; omega⟩ rfl (Nat.le_of_ble_eq_true rfl) dL_law_679 ?_
  refine g_aload_n X 2 dL_law_682 rfl rfl ?_
  refine g_aload_n X 0 dL_law_683 rfl rfl ?_
  refine g_iload X 4 dL_law_684 rfl ?_
  refine g_iconst X dL_law_686 ?_
  refine g_iadd X dL_law_687 ?_
  refine g_sld X S (by omega) hN dL_law_688 ?_
  refine g_aload_n X 0 dL_law_689 rfl rfl ?_
  refine g_iload X 4 dL_law_690 rfl ?_
  refine g_iconst X dL_law_692 ?_
  refine g_iadd X dL_law_693 ?_
  refine g_sld X S (by omega) hN dL_law_694 ?_
  refine g_callVi X (st := [iv r]) 26 [iv (sx xs (i + 1)), iv (sx xs (i + 2))] (mc_m_put hm) cal_X4_put rfl rfl wm_L_69 (by decide) rfl rfl ⟨by have := hf.1; show n1 ≤ 601024; omega, by have := hf.2; show n2 ≤ 7293034; omega⟩ rfl (Nat.le_of_ble_eq_true rfl) dL_law_695 ?_
  refine g_wide (k := n1 + 1) (n := n2 + 7) (by omega) (by omega) ?_
  exact g_icmp_eq X (Y := some ()) (Z := none) (v := ()) (if_pos rfl) dL_law_698 (tgt := 948) (by decide) (fun _ => k w2 hR2) (fun h => by cases h)
theorem lc_12 {κ : KX} {D : CX} {ad : Nat → Nat} {n1 n2 : Nat} {w : Wd} {lc : Launch} {b N : Nat} {xs : Nat → Int32} {i : Int} (X : gX κ D cL_law RL room_1 lc 7) (S : gS κ b N xs) (hi : 0 ≤ i ∧ i + 8 ≤ (N : Int)) (hN : N ≤ 4096) (hR : Rel w) (hf : n1 + 1 ≤ 601024 ∧ n2 + 7 ≤ 7293034) (k : ∀ w', Rel w' → G κ D LAY ad (n1 + 1) (n2 + 7) w' 948 [(0, .ref b), (1, .ref (ad 0)), (2, .ref (ad 26)), (3, .ref (ad 40)), (4, iv i)] []) : G κ D LAY ad n1 n2 w 759 [(0, .ref b), (1, .ref (ad 0)), (2, .ref (ad 26)), (3, .ref (ad 40)), (4, iv i)] [] := by
  obtain ⟨r, w1, w2, hx, hm, hR2⟩ := a_wrong hR
  refine g_aload_n X 1 dL_law_759 rfl rfl ?_
  refine g_callVi X (st := []) 0 [] (mc_x_wrong hx) cal_X3_wrong rfl rfl wm_L_80 (by decide) rfl rfl ⟨by have := hf.1; show n1 ≤ 601024; omega, by have := hf.2; show n2 ≤ 7293034; omega⟩ rfl (Nat.le_of_ble_eq_true rfl) dL_law_760 ?_
  refine g_aload_n X 2 dL_law_763 rfl rfl ?_
  refine g_callVi X (st := [iv r]) 26 [] (mc_m_wrong hm) cal_X4_wrong rfl rfl wm_L_83 (by decide) rfl rfl ⟨by have := hf.1; show n1 ≤ 601024; omega, by have := hf.2; show n2 ≤ 7293034; omega⟩ rfl (Nat.le_of_ble_eq_true rfl) dL_law_764 ?_
  refine g_wide (k := n1 + 1) (n := n2 + 7) (by omega) (by omega) ?_
  exact g_icmp_eq X (Y := some ()) (Z := none) (v := ()) (if_pos rfl) dL_law_767 (tgt := 948) (by decide) (fun _ => k w2 hR2) (fun h => by cases h)
theorem lc_13 {κ : KX} {D : CX} {ad : Nat → Nat} {n1 n2 : Nat} {w : Wd} {lc : Launch} {b N : Nat} {xs : Nat → Int32} {i : Int} (X : gX κ D cL_law RL room_1 lc 7) (S : gS κ b N xs) (hi : 0 ≤ i ∧ i + 8 ≤ (N : Int)) (hN : N ≤ 4096) (hR : Rel w) (hf : n1 + 1 ≤ 601024 ∧ n2 + 7 ≤ 7293034) (k : ∀ w', Rel w' → G κ D LAY ad (n1 + 1) (n2 + 7) w' 948 [(0, .ref b), (1, .ref (ad 0)), (2, .ref (ad 26)), (3, .ref (ad 40)), (4, iv i)] []) : G κ D LAY ad n1 n2 w 772 [(0, .ref b), (1, .ref (ad 0)), (2, .ref (ad 26)), (3, .ref (ad 40)), (4, iv i)] [] := by
  obtain ⟨r, w1, w2, hx, hm, hR2⟩ := a_best hR
  refine g_aload_n X 1 dL_law_772 rfl rfl ?_
  refine g_callVi X (st := []) 0 [] (mc_x_best hx) cal_X3_best rfl rfl wm_L_84 (by decide) rfl rfl ⟨by have := hf.1; show n1 ≤ 601024; omega, by have := hf.2; show n2 ≤ 7293034; omega⟩ rfl (Nat.le_of_ble_eq_true rfl) dL_law_773 ?_
  refine g_aload_n X 2 dL_law_776 rfl rfl ?_
  refine g_callVi X (st := [iv r]) 26 [] (mc_m_best hm) cal_X4_best rfl rfl wm_L_87 (by decide) rfl rfl ⟨by have := hf.1; show n1 ≤ 601024; omega, by have := hf.2; show n2 ≤ 7293034; omega⟩ rfl (Nat.le_of_ble_eq_true rfl) dL_law_777 ?_
  refine g_wide (k := n1 + 1) (n := n2 + 7) (by omega) (by omega) ?_
  exact g_icmp_eq X (Y := some ()) (Z := none) (v := ()) (if_pos rfl) dL_law_780 (tgt := 948) (by decide) (fun _ => k w2 hR2) (fun h => by cases h)
theorem lc_14 {κ : KX} {D : CX} {ad : Nat → Nat} {n1 n2 : Nat} {w : Wd} {lc : Launch} {b N : Nat} {xs : Nat → Int32} {i : Int} (X : gX κ D cL_law RL room_1 lc 7) (S : gS κ b N xs) (hi : 0 ≤ i ∧ i + 8 ≤ (N : Int)) (hN : N ≤ 4096) (hR : Rel w) (hf : n1 + 1 ≤ 601024 ∧ n2 + 7 ≤ 7293034) (k : ∀ w', Rel w' → G κ D LAY ad (n1 + 1) (n2 + 7) w' 948 [(0, .ref b), (1, .ref (ad 0)), (2, .ref (ad 26)), (3, .ref (ad 40)), (4, iv i)] []) : G κ D LAY ad n1 n2 w 785 [(0, .ref b), (1, .ref (ad 0)), (2, .ref (ad 26)), (3, .ref (ad 40)), (4, iv i)] [] := by
  obtain ⟨r, w1, w2, hx, hm, hR2⟩ := a_mend hR
  refine g_aload_n X 1 dL_law_785 rfl rfl ?_
  refine g_callVi X (st := []) 0 [] (mc_x_mend hx) cal_X3_mend rfl rfl wm_L_88 (by decide) rfl rfl ⟨by have := hf.1; show n1 ≤ 601024; omega, by have := hf.2; show n2 ≤ 7293034; omega⟩ rfl (Nat.le_of_ble_eq_true rfl) dL_law_786 ?_
  refine g_aload_n X 2 dL_law_789 rfl rfl ?_
  refine g_callVi X (st := [iv r]) 26 [] (mc_m_mend hm) cal_X4_mend rfl rfl wm_L_91 (by decide) rfl rfl ⟨by have := hf.1; show n1 ≤ 601024; omega, by have := hf.2; show n2 ≤ 7293034; omega⟩ rfl (Nat.le_of_ble_eq_true rfl) dL_law_790 ?_
  refine g_wide (k := n1 + 1) (n := n2 + 7) (by omega) (by omega) ?_
  exact g_icmp_eq X (Y := some ()) (Z := none) (v := ()) (if_pos rfl) dL_law_793 (tgt := 948) (by decide) (fun _ => k w2 hR2) (fun h => by cases h)
theorem lc_15 {κ : KX} {D : CX} {ad : Nat → Nat} {n1 n2 : Nat} {w : Wd} {lc : Launch} {b N : Nat} {xs : Nat → Int32} {i : Int} (X : gX κ D cL_law RL room_1 lc 7) (S : gS κ b N xs) (hi : 0 ≤ i ∧ i + 8 ≤ (N : Int)) (hN : N ≤ 4096) (hR : Rel w) (hf : n1 + 1 ≤ 601024 ∧ n2 + 7 ≤ 7293034) (k : ∀ w', Rel w' → G κ D LAY ad (n1 + 1) (n2 + 7) w' 948 [(0, .ref b), (1, .ref (ad 0)), (2, .ref (ad 26)), (3, .ref (ad 40)), (4, iv i)] []) : G κ D LAY ad n1 n2 w 798 [(0, .ref b), (1, .ref (ad 0)), (2, .ref (ad 26)), (3, .ref (ad 40)), (4, iv i)] [] := by
  obtain ⟨r, w1, w2, hx, hm, hR2⟩ := a_left hR (sx_R xs (i + 1))
  refine g_aload_n X 1 dL_law_798 rfl rfl ?_
  refine g_aload_n X 0 dL_law_799 rfl rfl ?_
  refine g_iload X 4 dL_law_800 rfl ?_
  refine g_iconst X dL_law_802 ?_
  refine g_iadd X dL_law_803 ?_
  refine g_sld X S (by omega) hN dL_law_804 ?_
  refine g_callVi X (st := []) 0 [iv (sx xs (i + 1))] (mc_x_left hx) cal_X3_left rfl rfl wm_L_92 (by decide) rfl rfl ⟨by have := hf.1; show n1 ≤ 601024; omega, by have := hf.2; show n2 ≤ 7293034; omega⟩ rfl (Nat.le_of_ble_eq_true rfl) dL_law_805 ?_
  refine g_aload_n X 2 dL_law_808 rfl rfl ?_
  refine g_aload_n X 0 dL_law_809 rfl rfl ?_
  refine g_iload X 4 dL_law_810 rfl ?_
  refine g_iconst X dL_law_812 ?_
  refine g_iadd X dL_law_813 ?_
  refine g_sld X S (by omega) hN dL_law_814 ?_
  refine g_callVi X (st := [iv r]) 26 [iv (sx xs (i + 1))] (mc_m_left hm) cal_X4_left rfl rfl wm_L_95 (by decide) rfl rfl ⟨by have := hf.1; show n1 ≤ 601024; omega, by have := hf.2; show n2 ≤ 7293034; omega⟩ rfl (Nat.le_of_ble_eq_true rfl) dL_law_815 ?_
  refine g_wide (k := n1 + 1) (n := n2 + 7) (by omega) (by omega) ?_
  exact g_icmp_eq X (Y := some ()) (Z := none) (v := ()) (if_pos rfl) dL_law_818 (tgt := 948) (by decide) (fun _ => k w2 hR2) (fun h => by cases h)
theorem lc_16 {κ : KX} {D : CX} {ad : Nat → Nat} {n1 n2 : Nat} {w : Wd} {lc : Launch} {b N : Nat} {xs : Nat → Int32} {i : Int} (X : gX κ D cL_law RL room_1 lc 7) (S : gS κ b N xs) (hi : 0 ≤ i ∧ i + 8 ≤ (N : Int)) (hN : N ≤ 4096) (hR : Rel w) (hf : n1 + 1 ≤ 601024 ∧ n2 + 7 ≤ 7293034) (k : ∀ w', Rel w' → G κ D LAY ad (n1 + 1) (n2 + 7) w' 948 [(0, .ref b), (1, .ref (ad 0)), (2, .ref (ad 26)), (3, .ref (ad 40)), (4, iv i)] []) : G κ D LAY ad n1 n2 w 823 [(0, .ref b), (1, .ref (ad 0)), (2, .ref (ad 26)), (3, .ref (ad 40)), (4, iv i)] [] := by
  obtain ⟨r, w1, w2, hx, hm, hR2⟩ := a_plan hR
  refine g_aload_n X 1 dL_law_823 rfl rfl ?_
  refine g_callVi X (st := []) 0 [] (mc_x_plan hx) cal_X3_plan rfl rfl wm_L_96 (by decide) rfl rfl ⟨by have := hf.1; show n1 ≤ 601024; omega, by have := hf.2; show n2 ≤ 7293034; omega⟩ rfl (Nat.le_of_ble_eq_true rfl) dL_law_824 ?_
  refine g_aload_n X 2 dL_law_827 rfl rfl ?_
  refine g_callVi X (st := [iv r]) 26 [] (mc_m_plan hm) cal_X4_plan rfl rfl wm_L_99 (by decide) rfl rfl ⟨by have := hf.1; show n1 ≤ 601024; omega, by have := hf.2; show n2 ≤ 7293034; omega⟩ rfl (Nat.le_of_ble_eq_true rfl) dL_law_828 ?_
  refine g_wide (k := n1 + 1) (n := n2 + 7) (by omega) (by omega) ?_
  exact g_icmp_eq X (Y := some ()) (Z := none) (v := ()) (if_pos rfl) dL_law_831 (tgt := 948) (by decide) (fun _ => k w2 hR2) (fun h => by cases h)
theorem lc_17 {κ : KX} {D : CX} {ad : Nat → Nat} {n1 n2 : Nat} {w : Wd} {lc : Launch} {b N : Nat} {xs : Nat → Int32} {i : Int} (X : gX κ D cL_law RL room_1 lc 7) (S : gS κ b N xs) (hi : 0 ≤ i ∧ i + 8 ≤ (N : Int)) (hN : N ≤ 4096) (hR : Rel w) (hf : n1 + 1 ≤ 601024 ∧ n2 + 7 ≤ 7293034) (k : ∀ w', Rel w' → G κ D LAY ad (n1 + 1) (n2 + 7) w' 948 [(0, .ref b), (1, .ref (ad 0)), (2, .ref (ad 26)), (3, .ref (ad 40)), (4, iv i)] []) : G κ D LAY ad n1 n2 w 836 [(0, .ref b), (1, .ref (ad 0)), (2, .ref (ad 26)), (3, .ref (ad 40)), (4, iv i)] [] := by
  obtain ⟨r, w1, w2, hx, hm, hR2⟩ := a_in hR (sx_R xs (i + 1))
  refine g_aload_n X 1 dL_law_836 rfl rfl ?_
  refine g_aload_n X 0 dL_law_837 rfl rfl ?_
  refine g_iload X 4 dL_law_838 rfl ?_
  refine g_iconst X dL_law_840 ?_
  refine g_iadd X dL_law_841 ?_
  refine g_sld X S (by omega) hN dL_law_842 ?_
  refine g_callVi X (st := []) 0 [iv (sx xs (i + 1))] (mc_x_in hx) cal_X3_in rfl rfl wm_L_100 (by decide) rfl rfl ⟨by have := hf.1; show n1 ≤ 601024; omega, by have := hf.2; show n2 ≤ 7293034; omega⟩ rfl (Nat.le_of_ble_eq_true rfl) dL_law_843 ?_
  refine g_aload_n X 2 dL_law_846 rfl rfl ?_
  refine g_aload_n X 0 dL_law_847 rfl rfl ?_
  refine g_iload X 4 dL_law_848 rfl ?_
  refine g_iconst X dL_law_850 ?_
  refine g_iadd X dL_law_851 ?_
  refine g_sld X S (by omega) hN dL_law_852 ?_
  refine g_callVi X (st := [iv r]) 26 [iv (sx xs (i + 1))] (mc_m_in_ hm) cal_X4_in_ rfl rfl wm_L_103 (by decide) rfl rfl ⟨by have := hf.1; show n1 ≤ 601024; omega, by have := hf.2; show n2 ≤ 7293034; omega⟩ rfl (Nat.le_of_ble_eq_true rfl) dL_law_853 ?_
  refine g_wide (k := n1 + 1) (n := n2 + 7) (by omega) (by omega) ?_
  exact g_icmp_eq X (Y := some ()) (Z := none) (v := ()) (if_pos rfl) dL_law_856 (tgt := 948) (by decide) (fun _ => k w2 hR2) (fun h => by cases h)
theorem lc_18 {κ : KX} {D : CX} {ad : Nat → Nat} {n1 n2 : Nat} {w : Wd} {lc : Launch} {b N : Nat} {xs : Nat → Int32} {i : Int} (X : gX κ D cL_law RL room_1 lc 7) (S : gS κ b N xs) (hi : 0 ≤ i ∧ i + 8 ≤ (N : Int)) (hN : N ≤ 4096) (hR : Rel w) (hf : n1 + 1 ≤ 601024 ∧ n2 + 7 ≤ 7293034) (k : ∀ w', Rel w' → G κ D LAY ad (n1 + 1) (n2 + 7) w' 948 [(0, .ref b), (1, .ref (ad 0)), (2, .ref (ad 26)), (3, .ref (ad 40)), (4, iv i)] []) : G κ D LAY ad n1 n2 w 861 [(0, .ref b), (1, .ref (ad 0)), (2, .ref (ad 26)), (3, .ref (ad 40)), (4, iv i)] [] := by
  obtain ⟨r, w1, w2, hx, hm, hR2⟩ := a_parade hR (sx_R xs (i + 1))
  refine g_aload_n X 1 dL_law_861 rfl rfl ?_
  refine g_aload_n X 0 dL_law_862 rfl rfl ?_
  refine g_iload X 4 dL_law_863 rfl ?_
  refine g_iconst X dL_law_865 ?_
  refine g_iadd X dL_law_866 ?_
  refine g_sld X S (by omega) hN dL_law_867 ?_
  refine g_callVi X (st := []) 0 [iv (sx xs (i + 1))] (mc_x_parade hx) cal_X3_parade rfl rfl wm_L_104 (by decide) rfl rfl ⟨by have := hf.1; show n1 ≤ 601024; omega, by have := hf.2; show n2 ≤ 7293034; omega⟩ rfl (Nat.le_of_ble_eq_true rfl) dL_law_868 ?_
  refine g_aload_n X 2 dL_law_871 rfl rfl ?_
  refine g_aload_n X 0 dL_law_872 rfl rfl ?_
  refine g_iload X 4 dL_law_873 rfl ?_
  refine g_iconst X dL_law_875 ?_
  refine g_iadd X dL_law_876 ?_
  refine g_sld X S (by omega) hN dL_law_877 ?_
  refine g_callVi X (st := [iv r]) 26 [iv (sx xs (i + 1))] (mc_m_parade hm) cal_X4_parade rfl rfl wm_L_107 (by decide) rfl rfl ⟨by have := hf.1; show n1 ≤ 601024; omega, by have := hf.2; show n2 ≤ 7293034; omega⟩ rfl (Nat.le_of_ble_eq_true rfl) dL_law_878 ?_
  refine g_wide (k := n1 + 1) (n := n2 + 7) (by omega) (by omega) ?_
  exact g_icmp_eq X (Y := some ()) (Z := none) (v := ()) (if_pos rfl) dL_law_881 (tgt := 948) (by decide) (fun _ => k w2 hR2) (fun h => by cases h)
theorem lc_19 {κ : KX} {D : CX} {ad : Nat → Nat} {n1 n2 : Nat} {w : Wd} {lc : Launch} {b N : Nat} {xs : Nat → Int32} {i : Int} (X : gX κ D cL_law RL room_1 lc 7) (S : gS κ b N xs) (hi : 0 ≤ i ∧ i + 8 ≤ (N : Int)) (hN : N ≤ 4096) (hR : Rel w) (hf : n1 + 1 ≤ 601024 ∧ n2 + 7 ≤ 7293034) (k : ∀ w', Rel w' → G κ D LAY ad (n1 + 1) (n2 + 7) w' 948 [(0, .ref b), (1, .ref (ad 0)), (2, .ref (ad 26)), (3, .ref (ad 40)), (4, iv i)] []) : G κ D LAY ad n1 n2 w 886 [(0, .ref b), (1, .ref (ad 0)), (2, .ref (ad 26)), (3, .ref (ad 40)), (4, iv i)] [] := by
  obtain ⟨r, w1, w2, hx, hm, hR2⟩ := a_minutes hR
  refine g_aload_n X 1 dL_law_886 rfl rfl ?_
  refine g_callVi X (st := []) 0 [] (mc_x_minutes hx) cal_X3_minutes rfl rfl wm_L_108 (by decide) rfl rfl ⟨by have := hf.1; show n1 ≤ 601024; omega, by have := hf.2; show n2 ≤ 7293034; omega⟩ rfl (Nat.le_of_ble_eq_true rfl) dL_law_887 ?_
  refine g_aload_n X 2 dL_law_890 rfl rfl ?_
  refine g_callVi X (st := [iv r]) 26 [] (mc_m_minutes hm) cal_X4_minutes rfl rfl wm_L_111 (by decide) rfl rfl ⟨by have := hf.1; show n1 ≤ 601024; omega, by have := hf.2; show n2 ≤ 7293034; omega⟩ rfl (Nat.le_of_ble_eq_true rfl) dL_law_891 ?_
  refine g_wide (k := n1 + 1) (n := n2 + 7) (by omega) (by omega) ?_
  exact g_icmp_eq X (Y := some ()) (Z := none) (v := ()) (if_pos rfl) dL_law_894 (tgt := 948) (by decide) (fun _ => k w2 hR2) (fun h => by cases h)
theorem lc_20 {κ : KX} {D : CX} {ad : Nat → Nat} {n1 n2 : Nat} {w : Wd} {lc : Launch} {b N : Nat} {xs : Nat → Int32} {i : Int} (X : gX κ D cL_law RL room_1 lc 7) (S : gS κ b N xs) (hi : 0 ≤ i ∧ i + 8 ≤ (N : Int)) (hN : N ≤ 4096) (hR : Rel w) (hf : n1 + 1 ≤ 601024 ∧ n2 + 7 ≤ 7293034) (k : ∀ w', Rel w' → G κ D LAY ad (n1 + 1) (n2 + 7) w' 948 [(0, .ref b), (1, .ref (ad 0)), (2, .ref (ad 26)), (3, .ref (ad 40)), (4, iv i)] []) : G κ D LAY ad n1 n2 w 899 [(0, .ref b), (1, .ref (ad 0)), (2, .ref (ad 26)), (3, .ref (ad 40)), (4, iv i)] [] := by
  obtain ⟨r, w1, w2, hx, hm, hR2⟩ := a_open hR (sx_R xs (i + 1)) (sx_R xs (i + 2)) (sx_R xs (i + 3))
  refine g_aload_n X 1 dL_law_899 rfl rfl ?_
  refine g_aload_n X 0 dL_law_900 rfl rfl ?_
  refine g_iload X 4 dL_law_901 rfl ?_
  refine g_iconst X dL_law_903 ?_
  refine g_iadd X dL_law_904 ?_
  refine g_sld X S (by omega) hN dL_law_905 ?_
  refine g_aload_n X 0 dL_law_906 rfl rfl ?_
  refine g_iload X 4 dL_law_907 rfl ?_
  refine g_iconst X dL_law_909 ?_
  refine g_iadd X dL_law_910 ?_
  refine g_sld X S (by omega) hN dL_law_911 ?_
  refine g_aload_n X 0 dL_law_912 rfl rfl ?_
  refine g_iload X 4 dL_law_913 rfl ?_
  refine g_iconst X dL_law_915 ?_
  refine g_iadd X dL_law_916 ?_
  refine g_sld X S (by omega) hN dL_law_917 ?_
  refine g_callVi X (st := []) 0 [iv (sx xs (i + 1)), iv (sx xs (i + 2)), iv (sx xs (i + 3))] (mc_x_open hx) cal_X3_open rfl rfl wm_L_112 (by decide) rfl rfl ⟨by have := hf.1; show n1 ≤ 601024; omega, by have := hf.2; show n2 ≤ 7293034; omega⟩ rfl (Nat.le_of_ble_eq_true rfl) dL_law_918 ?_
  refine g_aload_n X 2 dL_law_921 rfl rfl ?_
  refine g_aload_n X 0 dL_law_922 rfl rfl ?_
  refine g_iload X 4 dL_law_923 rfl ?_
  refine g_iconst X dL_law_925 ?_
  refine g_iadd X dL_law_926 ?_
  refine g_sld X S (by omega) hN dL_law_927 ?_
  refine g_aload_n X 0 dL_law_928 rfl rfl ?_
  refine g_iload X 4 dL_law_929 rfl ?_
  refine g_iconst X dL_law_931 ?_
  refine g_iadd X dL_law_932 ?_
  refine g_sld X S (by omega) hN dL_law_933 ?_
  refine g_aload_n X 0 dL_law_934 rfl rfl ?_
  refine g_iload X 4 dL_law_935 rfl ?_
  refine g_iconst X dL_law_937 ?_
  refine g_iadd X dL_law_938 ?_
  refine g_sld X S (by omega) hN dL_law_939 ?_
  refine g_callVi X (st := [iv r]) 26 [iv (sx xs (i + 1)), iv (sx xs (i + 2)), iv (sx xs (i + 3))] (mc_m_open hm) cal_X4_open rfl rfl wm_L_115 (by decide) rfl rfl ⟨by have := hf.1; show n1 ≤ 601024; omega, by have := hf.2; show n2 ≤ 7293034; omega⟩ rfl (Nat.le_of_ble_eq_true rfl) dL_law_940 ?_
  refine g_wide (k := n1 + 1) (n := n2 + 7) (by omega) (by omega) ?_
  exact g_icmp_eq X (Y := some ()) (Z := none) (v := ()) (if_pos rfl) dL_law_943 (tgt := 948) (by decide) (fun _ => k w2 hR2) (fun h => by cases h)
