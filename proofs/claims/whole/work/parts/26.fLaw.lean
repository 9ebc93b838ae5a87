/-! by a program of ours (wip/whole/gen/func.py, mklaw.py) out of the listing: the law -/
section
theorem zl_bud {a n : Nat} (h : a ≤ 10) : 10 * n ≤ 10 * (n + 1) - a := by omega
theorem zl_bus {a n : Nat} (h : a ≤ 1064) : 1064 * n ≤ 1064 * (n + 1) - a := by omega
theorem zl_bue {a n : Nat} (h : a ≤ 10) : a ≤ 10 * (n + 1) := by omega
theorem zl_buf {a n : Nat} (h : a ≤ 1064) : a ≤ 1064 * (n + 1) := by omega
variable {d : Nat} {M : MD} {mc ms pc pc' tgt : Nat} {ls ls' r : List Value} {s : Sg} {Q : Option (Option Value) → Sg → Prop}
/-- a static method that catches -/
theorem xi_SW (as : List Value) {M' : MD} {idx d' : Nat} (hd : Dc M pc (.invokestatic idx) 3 pc') (hL9 : zn_Ml M.1.cls idx M') (hW9 : zn_MW M') (hN : zn_na M' as.length) (hroom : (r.map fun v => v.category).sum ≤ 8 ∧ M'.2.2.1 ≤ 40 ∧ d' + 1 ≤ d ∧ M'.2.2.2.2.1 ≤ mc ∧ M'.2.2.2.2.2.1 ≤ ms)
    (kk : Cw d' M' as s (zl_K d M (mc - M'.2.2.2.2.1) (ms - M'.2.2.2.2.2.1) pc' ls r Q)) : Xw d M mc ms pc ls (as.reverse ++ r) s Q := by
  obtain ⟨hd, rfl⟩ := hd
  intro w ρ0 s0 p l e R st m args below meth c H locs cells slots Qr ρ lr S E Dy
  obtain ⟨hro, hml, hdd, hmc, hms⟩ := hroom
  obtain ⟨D0, hb, hL, hw, hs⟩ := Dy
  have hs9 : (∀ x ∈ as, zl_wf (mN s) x) ∧ ∀ x ∈ r, zl_wf (mN s) x := ⟨fun x hx => hs x (List.mem_append_left _ (List.mem_reverse.mpr hx)), fun x hx => hs x (List.mem_append_right _ hx)⟩
  have hts := S.2.2.2.2.2.1
  have hrm := S.2.2.2.2.2.2.2.1
  obtain ⟨hh, i1, i3, i4, i5⟩ := hW9
  have cw := vx_cwSW (R := R) (s := st) (args := args) (own := M.1.cls) (index := idx) (y := M'.1) (rm := zl_rm d' M') (mc := M'.2.2.2.2.1) (ms := M'.2.2.2.2.2.1) as.length hts (zl_goodIn4 (fun x hx => by
      simp only [List.mem_cons, List.not_mem_nil, or_false] at hx
      rcases hx with rfl | rfl | rfl
      · exact hL9
      · exact i1
      · exact i3) (zl_goodInW hh i4)) (zl_mdwsW hh) rfl rfl ⟨i5.1, i5.2, hN⟩ ⟨by show d' + 1 ≤ R.frames; omega, by show 8 + (M'.2.2.1 + 11) + 60 * d' ≤ R.locals; omega⟩
  have hp : PreS st H (zl_Pc w ρ as s) (as.map (zl_rv ρ)) := ⟨zl_blind, zl_start S D0 hs9.1⟩
  have run := vx_runSX (e := e) (below := below) (meth := meth) (locs := locs) (cells := cells) (slots := slots) (rest := r.map (zl_rv ρ)) (g := F0 m pc lr ((as.reverse ++ r).map (zl_rv ρ))) ⟨S.1, S.2.1, S.2.2.2.1, S.2.2.2.2.1, hts⟩ (kk l S.2.2.2.2.2.2.2.2.2.2.1 w ρ) cw hp rfl (by simp) hL.1 (by simp) (by rw [zl_catsum]; show 2 * 0 + _ ≤ 8; omega) hd ⟨by omega, by omega⟩
  exact zl_behind (as := as) E S ⟨D0, hb, hL, hw, hs9.2⟩ ⟨hmc, hms⟩ run
end
noncomputable def f_La_law_b1966 (R23 : Int32 → Sg → Option (Int32 × Sg)) (x4 : Int32) (s : Sg) : Option (Int32 × Sg) :=
  R23 (x4 + 7) s
theorem w_La_law_b1966 {x4 : Int32} {s : Sg} {d : Nat} {Q : Option (Option Value) → Sg → Prop} (hd : 64 ≤ d) {n : Nat} {R23 : Int32 → Sg → Option (Int32 × Sg)} (hR23 : ∀ (x4 : Int32) (s : Sg), okx (zq_I Q) (R23 x4 s) → Xw d M_La_law (10 * n) (1064 * n) 23 [.ref 0, .ref 4, .ref 46, .ref 80, .int x4, .retAddr 0, .retAddr 0, .retAddr 0] [] s Q) (h : okx (zq_I Q) (f_La_law_b1966 R23 x4 s)) : Xw d M_La_law (10 * n) (1064 * n) 1966 [.ref 0, .ref 4, .ref 46, .ref 80, .int x4, .retAddr 0, .retAddr 0, .retAddr 0] [] s Q := by
  unfold f_La_law_b1966 at h
  refine xi_iinc (v := _ + 7) (ls' := [_, _, _, _, _, _, _, _]) D_La_law_1966 rfl rfl rfl (by decide) ?_
  refine xi_goto D_La_law_1969 ?_
  exact hR23 _ _ h
noncomputable def f_La_law_b196 (R23 : Int32 → Sg → Option (Int32 × Sg)) (x4 : Int32) (s : Sg) : Option (Int32 × Sg) :=
  f_ck (vp_in (x4 + 1) (Int32.toNatClampNeg (mI s 0 4000))) <|
  f_ck (vp_in (x4 + 2) (Int32.toNatClampNeg (mI s 0 4000))) <|
  f_ck (vp_in (x4 + 3) (Int32.toNatClampNeg (mI s 0 4000))) <|
  f_ck (vp_in (x4 + 4) (Int32.toNatClampNeg (mI s 0 4000))) <|
  f_ck (vp_in (x4 + 5) (Int32.toNatClampNeg (mI s 0 4000))) <|
  f_ck (vp_in (x4 + 6) (Int32.toNatClampNeg (mI s 0 4000))) <|
  f_ck (zl_B s) <|
  f_bd (f_Wk_feed (((Int32.toInt64 (mI s 0 (Int32.toNatClampNeg (x4 + 1)))) <<< (Int32.toInt64 32 &&& 63)) ||| ((Int32.toInt64 (mI s 0 (Int32.toNatClampNeg (x4 + 2)))) &&& 4294967295)) (((Int32.toInt64 (mI s 0 (Int32.toNatClampNeg (x4 + 3)))) <<< (Int32.toInt64 32 &&& 63)) ||| ((Int32.toInt64 (mI s 0 (Int32.toNatClampNeg (x4 + 4)))) &&& 4294967295)) (((Int32.toInt64 (mI s 0 (Int32.toNatClampNeg (x4 + 5)))) <<< (Int32.toInt64 32 &&& 63)) ||| ((Int32.toInt64 (mI s 0 (Int32.toNatClampNeg (x4 + 6)))) &&& 4294967295)) s) fun r61 s62 =>
  f_ck (vp_in (x4 + 1) (Int32.toNatClampNeg (mI s62 0 4000))) <|
  f_ck (vp_in (x4 + 2) (Int32.toNatClampNeg (mI s62 0 4000))) <|
  f_ck (vp_in (x4 + 3) (Int32.toNatClampNeg (mI s62 0 4000))) <|
  f_ck (vp_in (x4 + 4) (Int32.toNatClampNeg (mI s62 0 4000))) <|
  f_ck (vp_in (x4 + 5) (Int32.toNatClampNeg (mI s62 0 4000))) <|
  f_ck (vp_in (x4 + 6) (Int32.toNatClampNeg (mI s62 0 4000))) <|
  f_ck (zl_B s62) <|
  f_bd (f_Mo_feed (((Int32.toInt64 (mI s62 0 (Int32.toNatClampNeg (x4 + 1)))) <<< (Int32.toInt64 32 &&& 63)) ||| ((Int32.toInt64 (mI s62 0 (Int32.toNatClampNeg (x4 + 2)))) &&& 4294967295)) (((Int32.toInt64 (mI s62 0 (Int32.toNatClampNeg (x4 + 3)))) <<< (Int32.toInt64 32 &&& 63)) ||| ((Int32.toInt64 (mI s62 0 (Int32.toNatClampNeg (x4 + 4)))) &&& 4294967295)) (((Int32.toInt64 (mI s62 0 (Int32.toNatClampNeg (x4 + 5)))) <<< (Int32.toInt64 32 &&& 63)) ||| ((Int32.toInt64 (mI s62 0 (Int32.toNatClampNeg (x4 + 6)))) &&& 4294967295)) s62) fun r70 s71 =>
  if r61 = r70 then
    f_La_law_b1966 R23 x4 s71
  else
    some (0, s71)
theorem w_La_law_b196 {x4 : Int32} {s : Sg} {d : Nat} {Q : Option (Option Value) → Sg → Prop} (hd : 64 ≤ d) {n : Nat} {R23 : Int32 → Sg → Option (Int32 × Sg)} (hR23 : ∀ (x4 : Int32) (s : Sg), okx (zq_I Q) (R23 x4 s) → Xw d M_La_law (10 * n) (1064 * n) 23 [.ref 0, .ref 4, .ref 46, .ref 80, .int x4, .retAddr 0, .retAddr 0, .retAddr 0] [] s Q) (h : okx (zq_I Q) (f_La_law_b196 R23 x4 s)) : Xw d M_La_law (10 * (n + 1)) (1064 * (n + 1)) 196 [.ref 0, .ref 4, .ref 46, .ref 80, .int x4, .retAddr 0, .retAddr 0, .retAddr 0] [] s Q := by
  unfold f_La_law_b196 at h
  refine xi_aload_n D_La_law_196 rfl ?_
  refine xi_aload_n D_La_law_197 rfl ?_
  refine xi_iload D_La_law_198 rfl ?_
  refine xj_iconst (v := 1) D_La_law_200 rfl ?_
  refine xi_iadd D_La_law_201 ?_
  obtain ⟨g54, h⟩ := okx_ck h
  refine xi_sld D_La_law_202 g54 ?_
  refine xi_i2l D_La_law_203 ?_
  refine xi_bipush (v := 32) D_La_law_204 rfl ?_
  refine xi_lshl D_La_law_206 ?_
  refine xi_aload_n D_La_law_207 rfl ?_
  refine xi_iload D_La_law_208 rfl ?_
  refine xj_iconst (v := 2) D_La_law_210 rfl ?_
  refine xi_iadd D_La_law_211 ?_
  obtain ⟨g55, h⟩ := okx_ck h
  refine xi_sld D_La_law_212 g55 ?_
  refine xi_i2l D_La_law_213 ?_
  refine xi_ldc2 D_La_law_214 K_La_62 ?_
  refine xi_land D_La_law_217 ?_
  refine xi_lor D_La_law_218 ?_
  refine xi_aload_n D_La_law_219 rfl ?_
  refine xi_iload D_La_law_220 rfl ?_
  refine xj_iconst (v := 3) D_La_law_222 rfl ?_
  refine xi_iadd D_La_law_223 ?_
  obtain ⟨g56, h⟩ := okx_ck h
  refine xi_sld D_La_law_224 g56 ?_
  refine xi_i2l D_La_law_225 ?_
  refine xi_bipush (v := 32) D_La_law_226 rfl ?_
  refine xi_lshl D_La_law_228 ?_
  refine xi_aload_n D_La_law_229 rfl ?_
  refine xi_iload D_La_law_230 rfl ?_
  refine xj_iconst (v := 4) D_La_law_232 rfl ?_
  refine xi_iadd D_La_law_233 ?_
  obtain ⟨g57, h⟩ := okx_ck h
  refine xi_sld D_La_law_234 g57 ?_
  refine xi_i2l D_La_law_235 ?_
  refine xi_ldc2 D_La_law_236 K_La_62 ?_
  refine xi_land D_La_law_239 ?_
  refine xi_lor D_La_law_240 ?_
  refine xi_aload_n D_La_law_241 rfl ?_
  refine xi_iload D_La_law_242 rfl ?_
  refine xj_iconst (v := 5) D_La_law_244 rfl ?_
  refine xi_iadd D_La_law_245 ?_
  obtain ⟨g58, h⟩ := okx_ck h
  refine xi_sld D_La_law_246 g58 ?_
  refine xi_i2l D_La_law_247 ?_
  refine xi_bipush (v := 32) D_La_law_248 rfl ?_
  refine xi_lshl D_La_law_250 ?_
  refine xi_aload_n D_La_law_251 rfl ?_
  refine xi_iload D_La_law_252 rfl ?_
  refine xi_bipush (v := 6) D_La_law_254 rfl ?_
  refine xi_iadd D_La_law_256 ?_
  obtain ⟨g59, h⟩ := okx_ck h
  refine xi_sld D_La_law_257 g59 ?_
  refine xi_i2l D_La_law_258 ?_
  refine xi_ldc2 D_La_law_259 K_La_62 ?_
  refine xi_land D_La_law_262 ?_
  refine xi_lor D_La_law_263 ?_
  obtain ⟨g60, h⟩ := okx_ck h
  refine xj_V3 D_La_law_264 L_La_64 C_Wk_feed Z_Wk_feed (zl_fo (g60).1 rfl) (Nat.le_of_ble_eq_true rfl) (Nat.le_of_eq (Nat.sub_add_cancel (by omega))) (w_Wk_feed (by omega) (okx_mono (okx_bd h) ?_))
  intro r61 s62 h
  show Xw _ _ _ _ 267 _ [_] _ _
  refine xi_aload_n D_La_law_267 rfl ?_
  refine xi_aload_n D_La_law_268 rfl ?_
  refine xi_iload D_La_law_269 rfl ?_
  refine xj_iconst (v := 1) D_La_law_271 rfl ?_
  refine xi_iadd D_La_law_272 ?_
  obtain ⟨g63, h⟩ := okx_ck h
  refine xi_sld D_La_law_273 g63 ?_
  refine xi_i2l D_La_law_274 ?_
  refine xi_bipush (v := 32) D_La_law_275 rfl ?_
  refine xi_lshl D_La_law_277 ?_
  refine xi_aload_n D_La_law_278 rfl ?_
  refine xi_iload D_La_law_279 rfl ?_
  refine xj_iconst (v := 2) D_La_law_281 rfl ?_
  refine xi_iadd D_La_law_282 ?_
  obtain ⟨g64, h⟩ := okx_ck h
  refine xi_sld D_La_law_283 g64 ?_
  refine xi_i2l D_La_law_284 ?_
  refine xi_ldc2 D_La_law_285 K_La_62 ?_
  refine xi_land D_La_law_288 ?_
  refine xi_lor D_La_law_289 ?_
  refine xi_aload_n D_La_law_290 rfl ?_
  refine xi_iload D_La_law_291 rfl ?_
  refine xj_iconst (v := 3) D_La_law_293 rfl ?_
  refine xi_iadd D_La_law_294 ?_
  obtain ⟨g65, h⟩ := okx_ck h
  refine xi_sld D_La_law_295 g65 ?_
  refine xi_i2l D_La_law_296 ?_
  refine xi_bipush (v := 32) D_La_law_297 rfl ?_
  refine xi_lshl D_La_law_299 ?_
  refine xi_aload_n D_La_law_300 rfl ?_
  refine xi_iload D_La_law_301 rfl ?_
  refine xj_iconst (v := 4) D_La_law_303 rfl ?_
  refine xi_iadd D_La_law_304 ?_
  obtain ⟨g66, h⟩ := okx_ck h
  refine xi_sld D_La_law_305 g66 ?_
  refine xi_i2l D_La_law_306 ?_
  refine xi_ldc2 D_La_law_307 K_La_62 ?_
  refine xi_land D_La_law_310 ?_
  refine xi_lor D_La_law_311 ?_
  refine xi_aload_n D_La_law_312 rfl ?_
  refine xi_iload D_La_law_313 rfl ?_
  refine xj_iconst (v := 5) D_La_law_315 rfl ?_
  refine xi_iadd D_La_law_316 ?_
  obtain ⟨g67, h⟩ := okx_ck h
  refine xi_sld D_La_law_317 g67 ?_
  refine xi_i2l D_La_law_318 ?_
  refine xi_bipush (v := 32) D_La_law_319 rfl ?_
  refine xi_lshl D_La_law_321 ?_
  refine xi_aload_n D_La_law_322 rfl ?_
  refine xi_iload D_La_law_323 rfl ?_
  refine xi_bipush (v := 6) D_La_law_325 rfl ?_
  refine xi_iadd D_La_law_327 ?_
  obtain ⟨g68, h⟩ := okx_ck h
  refine xi_sld D_La_law_328 g68 ?_
  refine xi_i2l D_La_law_329 ?_
  refine xi_ldc2 D_La_law_330 K_La_62 ?_
  refine xi_land D_La_law_333 ?_
  refine xi_lor D_La_law_334 ?_
  obtain ⟨g69, h⟩ := okx_ck h
  refine xj_V3 D_La_law_335 L_La_68 C_Mo_feed Z_Mo_feed (zl_fo (g69).1 rfl) (Nat.le_of_ble_eq_true rfl) (Nat.le_of_eq (Nat.sub_add_cancel (by omega))) (w_Mo_feed (by omega) (okx_mono (okx_bd h) ?_))
  intro r70 s71 h
  show Xw _ _ _ _ 338 _ [_, _] _ _
  refine xi_icmp_eq D_La_law_338 (fun c72 => ?_) (fun c72 => ?_)
  · have h := okx_T c72 h
    exact xi_less (Nat.mul_le_mul_left _ (Nat.le_succ _)) (Nat.mul_le_mul_left _ (Nat.le_succ _)) (w_La_law_b1966 (by omega) hR23 h)
  · have h := okx_F c72 h
    refine xj_iconst (v := 0) D_La_law_341 rfl ?_
    exact xi_ireturn D_La_law_342 rfl (rfl) (okx_I h)
noncomputable def f_La_law_b343 (R23 : Int32 → Sg → Option (Int32 × Sg)) (x4 : Int32) (s : Sg) : Option (Int32 × Sg) :=
  f_ck (zl_B s) <|
  f_bd (f_Wk_works  s) fun r74 s75 =>
  f_ck (zl_B s75) <|
  f_bd (f_Mo_works  s75) fun r77 s78 =>
  if r74 = r77 then
    f_La_law_b1966 R23 x4 s78
  else
    some (0, s78)
theorem w_La_law_b343 {x4 : Int32} {s : Sg} {d : Nat} {Q : Option (Option Value) → Sg → Prop} (hd : 64 ≤ d) {n : Nat} {R23 : Int32 → Sg → Option (Int32 × Sg)} (hR23 : ∀ (x4 : Int32) (s : Sg), okx (zq_I Q) (R23 x4 s) → Xw d M_La_law (10 * n) (1064 * n) 23 [.ref 0, .ref 4, .ref 46, .ref 80, .int x4, .retAddr 0, .retAddr 0, .retAddr 0] [] s Q) (h : okx (zq_I Q) (f_La_law_b343 R23 x4 s)) : Xw d M_La_law (10 * (n + 1)) (1064 * (n + 1)) 343 [.ref 0, .ref 4, .ref 46, .ref 80, .int x4, .retAddr 0, .retAddr 0, .retAddr 0] [] s Q := by
  unfold f_La_law_b343 at h
  refine xi_aload_n D_La_law_343 rfl ?_
  obtain ⟨g73, h⟩ := okx_ck h
  refine xj_V0 D_La_law_344 L_La_69 C_Wk_works Z_Wk_works (zl_fo (g73).1 rfl) (Nat.le_of_ble_eq_true rfl) (Nat.le_of_eq (Nat.sub_add_cancel (by omega))) (w_Wk_works (by omega) (okx_mono (okx_bd h) ?_))
  intro r74 s75 h
  show Xw _ _ _ _ 347 _ [_] _ _
  refine xi_aload_n D_La_law_347 rfl ?_
  obtain ⟨g76, h⟩ := okx_ck h
  refine xj_V0 D_La_law_348 L_La_73 C_Mo_works Z_Mo_works (zl_fo (g76).1 rfl) (Nat.le_of_ble_eq_true rfl) (Nat.le_of_eq (Nat.sub_add_cancel (by omega))) (w_Mo_works (by omega) (okx_mono (okx_bd h) ?_))
  intro r77 s78 h
  show Xw _ _ _ _ 351 _ [_, _] _ _
  refine xi_icmp_eq D_La_law_351 (fun c79 => ?_) (fun c79 => ?_)
  · have h := okx_T c79 h
    exact xi_less (Nat.mul_le_mul_left _ (Nat.le_succ _)) (Nat.mul_le_mul_left _ (Nat.le_succ _)) (w_La_law_b1966 (by omega) hR23 h)
  · have h := okx_F c79 h
    refine xj_iconst (v := 0) D_La_law_354 rfl ?_
    exact xi_ireturn D_La_law_355 rfl (rfl) (okx_I h)
noncomputable def f_La_law_b356 (R23 : Int32 → Sg → Option (Int32 × Sg)) (x4 : Int32) (s : Sg) : Option (Int32 × Sg) :=
  f_ck (vp_in (x4 + 1) (Int32.toNatClampNeg (mI s 0 4000))) <|
  f_ck (vp_in (x4 + 2) (Int32.toNatClampNeg (mI s 0 4000))) <|
  f_ck (zl_B s) <|
  f_bd (f_Wk_cost (mI s 0 (Int32.toNatClampNeg (x4 + 1))) (mI s 0 (Int32.toNatClampNeg (x4 + 2))) s) fun r83 s84 =>
  f_ck (vp_in (x4 + 1) (Int32.toNatClampNeg (mI s84 0 4000))) <|
  f_ck (vp_in (x4 + 2) (Int32.toNatClampNeg (mI s84 0 4000))) <|
  f_ck (zl_B s84) <|
  f_bd (f_Mo_cost (mI s84 0 (Int32.toNatClampNeg (x4 + 1))) (mI s84 0 (Int32.toNatClampNeg (x4 + 2))) s84) fun r88 s89 =>
  if r83 = r88 then
    f_La_law_b1966 R23 x4 s89
  else
    some (0, s89)
theorem w_La_law_b356 {x4 : Int32} {s : Sg} {d : Nat} {Q : Option (Option Value) → Sg → Prop} (hd : 64 ≤ d) {n : Nat} {R23 : Int32 → Sg → Option (Int32 × Sg)} (hR23 : ∀ (x4 : Int32) (s : Sg), okx (zq_I Q) (R23 x4 s) → Xw d M_La_law (10 * n) (1064 * n) 23 [.ref 0, .ref 4, .ref 46, .ref 80, .int x4, .retAddr 0, .retAddr 0, .retAddr 0] [] s Q) (h : okx (zq_I Q) (f_La_law_b356 R23 x4 s)) : Xw d M_La_law (10 * (n + 1)) (1064 * (n + 1)) 356 [.ref 0, .ref 4, .ref 46, .ref 80, .int x4, .retAddr 0, .retAddr 0, .retAddr 0] [] s Q := by
  unfold f_La_law_b356 at h
  refine xi_aload_n D_La_law_356 rfl ?_
  refine xi_aload_n D_La_law_357 rfl ?_
  refine xi_iload D_La_law_358 rfl ?_
  refine xj_iconst (v := 1) D_La_law_360 rfl ?_
  refine xi_iadd D_La_law_361 ?_
  obtain ⟨g80, h⟩ := okx_ck h
  refine xi_sld D_La_law_362 g80 ?_
  refine xi_aload_n D_La_law_363 rfl ?_
  refine xi_iload D_La_law_364 rfl ?_
  refine xj_iconst (v := 2) D_La_law_366 rfl ?_
  refine xi_iadd D_La_law_367 ?_
  obtain ⟨g81, h⟩ := okx_ck h
  refine xi_sld D_La_law_368 g81 ?_
  obtain ⟨g82, h⟩ := okx_ck h
  refine xj_V2 D_La_law_369 L_La_74 C_Wk_cost Z_Wk_cost (zl_fo (g82).1 rfl) (Nat.le_of_ble_eq_true rfl) (Nat.le_of_eq (Nat.sub_add_cancel (by omega))) (w_Wk_cost (by omega) (okx_mono (okx_bd h) ?_))
  intro r83 s84 h
  show Xw _ _ _ _ 372 _ [_] _ _
  refine xi_aload_n D_La_law_372 rfl ?_
  refine xi_aload_n D_La_law_373 rfl ?_
  refine xi_iload D_La_law_374 rfl ?_
  refine xj_iconst (v := 1) D_La_law_376 rfl ?_
  refine xi_iadd D_La_law_377 ?_
  obtain ⟨g85, h⟩ := okx_ck h
  refine xi_sld D_La_law_378 g85 ?_
  refine xi_aload_n D_La_law_379 rfl ?_
  refine xi_iload D_La_law_380 rfl ?_
  refine xj_iconst (v := 2) D_La_law_382 rfl ?_
  refine xi_iadd D_La_law_383 ?_
  obtain ⟨g86, h⟩ := okx_ck h
  refine xi_sld D_La_law_384 g86 ?_
  obtain ⟨g87, h⟩ := okx_ck h
  refine xj_V2 D_La_law_385 L_La_77 C_Mo_cost Z_Mo_cost (zl_fo (g87).1 rfl) (Nat.le_of_ble_eq_true rfl) (Nat.le_of_eq (Nat.sub_add_cancel (by omega))) (w_Mo_cost (by omega) (okx_mono (okx_bd h) ?_))
  intro r88 s89 h
  show Xw _ _ _ _ 388 _ [_, _] _ _
  refine xi_icmp_eq D_La_law_388 (fun c90 => ?_) (fun c90 => ?_)
  · have h := okx_T c90 h
    exact xi_less (Nat.mul_le_mul_left _ (Nat.le_succ _)) (Nat.mul_le_mul_left _ (Nat.le_succ _)) (w_La_law_b1966 (by omega) hR23 h)
  · have h := okx_F c90 h
    refine xj_iconst (v := 0) D_La_law_391 rfl ?_
    exact xi_ireturn D_La_law_392 rfl (rfl) (okx_I h)
noncomputable def f_La_law_b470 (R23 : Int32 → Sg → Option (Int32 × Sg)) (x4 : Int32) (s : Sg) : Option (Int32 × Sg) :=
  f_La_law_b1966 R23 x4 s
theorem w_La_law_b470 {x4 : Int32} {s : Sg} {d : Nat} {Q : Option (Option Value) → Sg → Prop} (hd : 64 ≤ d) {n : Nat} {R23 : Int32 → Sg → Option (Int32 × Sg)} (hR23 : ∀ (x4 : Int32) (s : Sg), okx (zq_I Q) (R23 x4 s) → Xw d M_La_law (10 * n) (1064 * n) 23 [.ref 0, .ref 4, .ref 46, .ref 80, .int x4, .retAddr 0, .retAddr 0, .retAddr 0] [] s Q) (h : okx (zq_I Q) (f_La_law_b470 R23 x4 s)) : Xw d M_La_law (10 * n) (1064 * n) 470 [.ref 0, .ref 4, .ref 46, .ref 80, .int x4, .retAddr 0, .retAddr 0, .retAddr 0] [] s Q := by
  unfold f_La_law_b470 at h
  refine xi_goto D_La_law_470 ?_
  exact w_La_law_b1966 (by omega) hR23 h
noncomputable def f_La_law_b393 (R23 : Int32 → Sg → Option (Int32 × Sg)) (x4 : Int32) (s : Sg) : Option (Int32 × Sg) :=
  f_ck (vp_in (x4 + 1) (Int32.toNatClampNeg (mI s 0 4000))) <|
  f_ck (vp_in (x4 + 2) (Int32.toNatClampNeg (mI s 0 4000))) <|
  f_ck (vp_in (x4 + 3) (Int32.toNatClampNeg (mI s 0 4000))) <|
  f_bd (f_La_worth (mI s 0 (Int32.toNatClampNeg (x4 + 1))) (mI s 0 (Int32.toNatClampNeg (x4 + 2))) (mI s 0 (Int32.toNatClampNeg (x4 + 3))) s) fun r94 s95 =>
  f_ck (vp_in (x4 + 1) (Int32.toNatClampNeg (mI s95 0 4000))) <|
  f_ck (vp_in (x4 + 2) (Int32.toNatClampNeg (mI s95 0 4000))) <|
  f_ck (vp_in (x4 + 3) (Int32.toNatClampNeg (mI s95 0 4000))) <|
  f_ck (zl_B s95) <|
  f_bd (f_Mo_worth (mI s95 0 (Int32.toNatClampNeg (x4 + 1))) (mI s95 0 (Int32.toNatClampNeg (x4 + 2))) (mI s95 0 (Int32.toNatClampNeg (x4 + 3))) s95) fun r100 s101 =>
  f_ck (zl_B s101) <|
  f_bd (f_Mo_thrown  s101) fun r103 s104 =>
  if r103 = r94 then
    if r94 = 0 then
      f_ck (zl_B s104) <|
      if (lg_cmp (mL s104 80 (Int32.toNatClampNeg (0 : Int32))) (Int32.toInt64 r100)) = 0 then
        f_La_law_b470 R23 x4 s104
      else
        some (0, s104)
    else
      f_La_law_b470 R23 x4 s104
  else
    some (0, s104)
theorem w_La_law_b393 {x4 : Int32} {s : Sg} {d : Nat} {Q : Option (Option Value) → Sg → Prop} (hd : 64 ≤ d) {n : Nat} {R23 : Int32 → Sg → Option (Int32 × Sg)} (hR23 : ∀ (x4 : Int32) (s : Sg), okx (zq_I Q) (R23 x4 s) → Xw d M_La_law (10 * n) (1064 * n) 23 [.ref 0, .ref 4, .ref 46, .ref 80, .int x4, .retAddr 0, .retAddr 0, .retAddr 0] [] s Q) (h : okx (zq_I Q) (f_La_law_b393 R23 x4 s)) : Xw d M_La_law (10 * (n + 1)) (1064 * (n + 1)) 393 [.ref 0, .ref 4, .ref 46, .ref 80, .int x4, .retAddr 0, .retAddr 0, .retAddr 0] [] s Q := by
  unfold f_La_law_b393 at h
  refine xi_aload_n D_La_law_393 rfl ?_
  refine xi_aload_n D_La_law_394 rfl ?_
  refine xi_iload D_La_law_395 rfl ?_
  refine xj_iconst (v := 1) D_La_law_397 rfl ?_
  refine xi_iadd D_La_law_398 ?_
  obtain ⟨g91, h⟩ := okx_ck h
  refine xi_sld D_La_law_399 g91 ?_
  refine xi_aload_n D_La_law_400 rfl ?_
  refine xi_iload D_La_law_401 rfl ?_
  refine xj_iconst (v := 2) D_La_law_403 rfl ?_
  refine xi_iadd D_La_law_404 ?_
  obtain ⟨g92, h⟩ := okx_ck h
  refine xi_sld D_La_law_405 g92 ?_
  refine xi_aload_n D_La_law_406 rfl ?_
  refine xi_iload D_La_law_407 rfl ?_
  refine xj_iconst (v := 3) D_La_law_409 rfl ?_
  refine xi_iadd D_La_law_410 ?_
  obtain ⟨g93, h⟩ := okx_ck h
  refine xi_sld D_La_law_411 g93 ?_
  refine xi_aload_n D_La_law_412 rfl ?_
  refine xi_SW [_, _, _, _, _] D_La_law_413 L_La_78 C_La_worth.1 C_La_worth.2.1 ⟨(Nat.le_of_ble_eq_true rfl), C_La_worth.2.2, (Nat.le_of_eq (Nat.sub_add_cancel (by omega))), zl_bue (by decide), zl_buf (by decide)⟩ (w_La_worth (by omega) (okx_mono (okx_bd h) ?_))
  intro r94 s95 h
  show Xw _ _ _ _ 416 _ [_] _ _
  refine xi_less (zl_bud (by decide)) (zl_bus (by decide)) ?_
  refine xi_istore (ls' := [_, _, _, _, _, _, _, _]) D_La_law_416 rfl (by decide) ?_
  refine xi_aload_n D_La_law_418 rfl ?_
  refine xi_aload_n D_La_law_419 rfl ?_
  refine xi_iload D_La_law_420 rfl ?_
  refine xj_iconst (v := 1) D_La_law_422 rfl ?_
  refine xi_iadd D_La_law_423 ?_
  obtain ⟨g96, h⟩ := okx_ck h
  refine xi_sld D_La_law_424 g96 ?_
  refine xi_aload_n D_La_law_425 rfl ?_
  refine xi_iload D_La_law_426 rfl ?_
  refine xj_iconst (v := 2) D_La_law_428 rfl ?_
  refine xi_iadd D_La_law_429 ?_
  obtain ⟨g97, h⟩ := okx_ck h
  refine xi_sld D_La_law_430 g97 ?_
  refine xi_aload_n D_La_law_431 rfl ?_
  refine xi_iload D_La_law_432 rfl ?_
  refine xj_iconst (v := 3) D_La_law_434 rfl ?_
  refine xi_iadd D_La_law_435 ?_
  obtain ⟨g98, h⟩ := okx_ck h
  refine xi_sld D_La_law_436 g98 ?_
  obtain ⟨g99, h⟩ := okx_ck h
  refine xj_V3 D_La_law_437 L_La_83 C_Mo_worth Z_Mo_worth (zl_fo (g99).1 rfl) (Nat.le_of_ble_eq_true rfl) (Nat.le_of_eq (Nat.sub_add_cancel (by omega))) (w_Mo_worth (by omega) (okx_mono (okx_bd h) ?_))
  intro r100 s101 h
  show Xw _ _ _ _ 440 _ [_] _ _
  refine xi_istore (ls' := [_, _, _, _, _, _, _, _]) D_La_law_440 rfl (by decide) ?_
  refine xi_aload_n D_La_law_442 rfl ?_
  obtain ⟨g102, h⟩ := okx_ck h
  refine xj_V0 D_La_law_443 L_La_84 C_Mo_thrown Z_Mo_thrown (zl_fo (g102).1 rfl) (Nat.le_of_ble_eq_true rfl) (Nat.le_of_eq (Nat.sub_add_cancel (by omega))) (w_Mo_thrown (by omega) (okx_mono (okx_bd h) ?_))
  intro r103 s104 h
  show Xw _ _ _ _ 446 _ [_] _ _
  refine xi_iload D_La_law_446 rfl ?_
  refine xi_icmp_eq D_La_law_448 (fun c105 => ?_) (fun c105 => ?_)
  · have h := okx_T c105 h
    refine xi_iload D_La_law_453 rfl ?_
    refine xi_if_ne D_La_law_455 (fun c106 => ?_) (fun c106 => ?_)
    · have h := okx_F c106 h
      exact xk_wk (w_La_law_b470 (by omega) hR23 h) ⟨Or.inl rfl, Or.inl rfl, Or.inl rfl, Or.inl rfl, Or.inl rfl, Or.inr rfl, Or.inr rfl, Or.inl rfl, trivial⟩
    · have h := okx_T c106 h
      refine xi_aload_n D_La_law_458 rfl ?_
      refine xj_iconst (v := 0) D_La_law_459 rfl ?_
      obtain ⟨g107, h⟩ := okx_ck h
      refine xj_lald D_La_law_460 (zl_fx (g107).1 rfl) (zl_ib (n := 1) rfl (zl_vin rfl)) ?_
      refine xi_iload D_La_law_461 rfl ?_
      refine xi_i2l D_La_law_463 ?_
      refine xi_lcmp D_La_law_464 ?_
      refine xi_if_eq D_La_law_465 (fun c108 => ?_) (fun c108 => ?_)
      · have h := okx_T c108 h
        exact xk_wk (w_La_law_b470 (by omega) hR23 h) ⟨Or.inl rfl, Or.inl rfl, Or.inl rfl, Or.inl rfl, Or.inl rfl, Or.inr rfl, Or.inr rfl, Or.inl rfl, trivial⟩
      · have h := okx_F c108 h
        refine xj_iconst (v := 0) D_La_law_468 rfl ?_
        exact xi_ireturn D_La_law_469 rfl (rfl) (okx_I h)
  · have h := okx_F c105 h
    refine xj_iconst (v := 0) D_La_law_451 rfl ?_
    exact xi_ireturn D_La_law_452 rfl (rfl) (okx_I h)
noncomputable def f_La_law_b473 (R23 : Int32 → Sg → Option (Int32 × Sg)) (x4 : Int32) (s : Sg) : Option (Int32 × Sg) :=
  f_ck (vp_in (x4 + 1) (Int32.toNatClampNeg (mI s 0 4000))) <|
  f_ck (vp_in (x4 + 2) (Int32.toNatClampNeg (mI s 0 4000))) <|
  f_ck (vp_in (x4 + 3) (Int32.toNatClampNeg (mI s 0 4000))) <|
  f_ck (zl_B s) <|
  f_bd (f_Wk_own (mI s 0 (Int32.toNatClampNeg (x4 + 1))) (mI s 0 (Int32.toNatClampNeg (x4 + 2))) (mI s 0 (Int32.toNatClampNeg (x4 + 3))) s) fun r113 s114 =>
  f_ck (vp_in (x4 + 1) (Int32.toNatClampNeg (mI s114 0 4000))) <|
  f_ck (vp_in (x4 + 2) (Int32.toNatClampNeg (mI s114 0 4000))) <|
  f_ck (vp_in (x4 + 3) (Int32.toNatClampNeg (mI s114 0 4000))) <|
  f_ck (zl_B s114) <|
  f_bd (f_Mo_own (mI s114 0 (Int32.toNatClampNeg (x4 + 1))) (mI s114 0 (Int32.toNatClampNeg (x4 + 2))) (mI s114 0 (Int32.toNatClampNeg (x4 + 3))) s114) fun r119 s120 =>
  if r113 = r119 then
    f_La_law_b1966 R23 x4 s120
  else
    some (0, s120)
theorem w_La_law_b473 {x4 : Int32} {s : Sg} {d : Nat} {Q : Option (Option Value) → Sg → Prop} (hd : 64 ≤ d) {n : Nat} {R23 : Int32 → Sg → Option (Int32 × Sg)} (hR23 : ∀ (x4 : Int32) (s : Sg), okx (zq_I Q) (R23 x4 s) → Xw d M_La_law (10 * n) (1064 * n) 23 [.ref 0, .ref 4, .ref 46, .ref 80, .int x4, .retAddr 0, .retAddr 0, .retAddr 0] [] s Q) (h : okx (zq_I Q) (f_La_law_b473 R23 x4 s)) : Xw d M_La_law (10 * (n + 1)) (1064 * (n + 1)) 473 [.ref 0, .ref 4, .ref 46, .ref 80, .int x4, .retAddr 0, .retAddr 0, .retAddr 0] [] s Q := by
  unfold f_La_law_b473 at h
  refine xi_aload_n D_La_law_473 rfl ?_
  refine xi_aload_n D_La_law_474 rfl ?_
  refine xi_iload D_La_law_475 rfl ?_
  refine xj_iconst (v := 1) D_La_law_477 rfl ?_
  refine xi_iadd D_La_law_478 ?_
  obtain ⟨g109, h⟩ := okx_ck h
  refine xi_sld D_La_law_479 g109 ?_
  refine xi_aload_n D_La_law_480 rfl ?_
  refine xi_iload D_La_law_481 rfl ?_
  refine xj_iconst (v := 2) D_La_law_483 rfl ?_
  refine xi_iadd D_La_law_484 ?_
  obtain ⟨g110, h⟩ := okx_ck h
  refine xi_sld D_La_law_485 g110 ?_
  refine xi_aload_n D_La_law_486 rfl ?_
  refine xi_iload D_La_law_487 rfl ?_
  refine xj_iconst (v := 3) D_La_law_489 rfl ?_
  refine xi_iadd D_La_law_490 ?_
  obtain ⟨g111, h⟩ := okx_ck h
  refine xi_sld D_La_law_491 g111 ?_
  obtain ⟨g112, h⟩ := okx_ck h
  refine xj_V3 D_La_law_492 L_La_87 C_Wk_own Z_Wk_own (zl_fo (g112).1 rfl) (Nat.le_of_ble_eq_true rfl) (Nat.le_of_eq (Nat.sub_add_cancel (by omega))) (w_Wk_own (by omega) (okx_mono (okx_bd h) ?_))
  intro r113 s114 h
  show Xw _ _ _ _ 495 _ [_] _ _
  refine xi_aload_n D_La_law_495 rfl ?_
  refine xi_aload_n D_La_law_496 rfl ?_
  refine xi_iload D_La_law_497 rfl ?_
  refine xj_iconst (v := 1) D_La_law_499 rfl ?_
  refine xi_iadd D_La_law_500 ?_
  obtain ⟨g115, h⟩ := okx_ck h
  refine xi_sld D_La_law_501 g115 ?_
  refine xi_aload_n D_La_law_502 rfl ?_
  refine xi_iload D_La_law_503 rfl ?_
  refine xj_iconst (v := 2) D_La_law_505 rfl ?_
  refine xi_iadd D_La_law_506 ?_
  obtain ⟨g116, h⟩ := okx_ck h
  refine xi_sld D_La_law_507 g116 ?_
  refine xi_aload_n D_La_law_508 rfl ?_
  refine xi_iload D_La_law_509 rfl ?_
  refine xj_iconst (v := 3) D_La_law_511 rfl ?_
  refine xi_iadd D_La_law_512 ?_
  obtain ⟨g117, h⟩ := okx_ck h
  refine xi_sld D_La_law_513 g117 ?_
  obtain ⟨g118, h⟩ := okx_ck h
  refine xj_V3 D_La_law_514 L_La_91 C_Mo_own Z_Mo_own (zl_fo (g118).1 rfl) (Nat.le_of_ble_eq_true rfl) (Nat.le_of_eq (Nat.sub_add_cancel (by omega))) (w_Mo_own (by omega) (okx_mono (okx_bd h) ?_))
  intro r119 s120 h
  show Xw _ _ _ _ 517 _ [_, _] _ _
  refine xi_icmp_eq D_La_law_517 (fun c121 => ?_) (fun c121 => ?_)
  · have h := okx_T c121 h
    exact xi_less (Nat.mul_le_mul_left _ (Nat.le_succ _)) (Nat.mul_le_mul_left _ (Nat.le_succ _)) (w_La_law_b1966 (by omega) hR23 h)
  · have h := okx_F c121 h
    refine xj_iconst (v := 0) D_La_law_520 rfl ?_
    exact xi_ireturn D_La_law_521 rfl (rfl) (okx_I h)
noncomputable def f_La_law_b522 (R23 : Int32 → Sg → Option (Int32 × Sg)) (x4 : Int32) (s : Sg) : Option (Int32 × Sg) :=
  f_ck (vp_in (x4 + 1) (Int32.toNatClampNeg (mI s 0 4000))) <|
  f_ck (vp_in (x4 + 2) (Int32.toNatClampNeg (mI s 0 4000))) <|
  f_ck (zl_B s) <|
  f_bd (f_Wk_owner (mI s 0 (Int32.toNatClampNeg (x4 + 1))) (mI s 0 (Int32.toNatClampNeg (x4 + 2))) s) fun r125 s126 =>
  f_ck (vp_in (x4 + 1) (Int32.toNatClampNeg (mI s126 0 4000))) <|
  f_ck (vp_in (x4 + 2) (Int32.toNatClampNeg (mI s126 0 4000))) <|
  f_ck (zl_B s126) <|
  f_bd (f_Mo_owner (mI s126 0 (Int32.toNatClampNeg (x4 + 1))) (mI s126 0 (Int32.toNatClampNeg (x4 + 2))) s126) fun r130 s131 =>
  if r125 = r130 then
    f_La_law_b1966 R23 x4 s131
  else
    some (0, s131)
theorem w_La_law_b522 {x4 : Int32} {s : Sg} {d : Nat} {Q : Option (Option Value) → Sg → Prop} (hd : 64 ≤ d) {n : Nat} {R23 : Int32 → Sg → Option (Int32 × Sg)} (hR23 : ∀ (x4 : Int32) (s : Sg), okx (zq_I Q) (R23 x4 s) → Xw d M_La_law (10 * n) (1064 * n) 23 [.ref 0, .ref 4, .ref 46, .ref 80, .int x4, .retAddr 0, .retAddr 0, .retAddr 0] [] s Q) (h : okx (zq_I Q) (f_La_law_b522 R23 x4 s)) : Xw d M_La_law (10 * (n + 1)) (1064 * (n + 1)) 522 [.ref 0, .ref 4, .ref 46, .ref 80, .int x4, .retAddr 0, .retAddr 0, .retAddr 0] [] s Q := by
  unfold f_La_law_b522 at h
  refine xi_aload_n D_La_law_522 rfl ?_
  refine xi_aload_n D_La_law_523 rfl ?_
  refine xi_iload D_La_law_524 rfl ?_
  refine xj_iconst (v := 1) D_La_law_526 rfl ?_
  refine xi_iadd D_La_law_527 ?_
  obtain ⟨g122, h⟩ := okx_ck h
  refine xi_sld D_La_law_528 g122 ?_
  refine xi_aload_n D_La_law_529 rfl ?_
  refine xi_iload D_La_law_530 rfl ?_
  refine xj_iconst (v := 2) D_La_law_532 rfl ?_
  refine xi_iadd D_La_law_533 ?_
  obtain ⟨g123, h⟩ := okx_ck h
  refine xi_sld D_La_law_534 g123 ?_
  obtain ⟨g124, h⟩ := okx_ck h
  refine xj_V2 D_La_law_535 L_La_92 C_Wk_owner Z_Wk_owner (zl_fo (g124).1 rfl) (Nat.le_of_ble_eq_true rfl) (Nat.le_of_eq (Nat.sub_add_cancel (by omega))) (w_Wk_owner (by omega) (okx_mono (okx_bd h) ?_))
  intro r125 s126 h
  show Xw _ _ _ _ 538 _ [_] _ _
  refine xi_aload_n D_La_law_538 rfl ?_
  refine xi_aload_n D_La_law_539 rfl ?_
  refine xi_iload D_La_law_540 rfl ?_
  refine xj_iconst (v := 1) D_La_law_542 rfl ?_
  refine xi_iadd D_La_law_543 ?_
  obtain ⟨g127, h⟩ := okx_ck h
  refine xi_sld D_La_law_544 g127 ?_
  refine xi_aload_n D_La_law_545 rfl ?_
  refine xi_iload D_La_law_546 rfl ?_
  refine xj_iconst (v := 2) D_La_law_548 rfl ?_
  refine xi_iadd D_La_law_549 ?_
  obtain ⟨g128, h⟩ := okx_ck h
  refine xi_sld D_La_law_550 g128 ?_
  obtain ⟨g129, h⟩ := okx_ck h
  refine xj_V2 D_La_law_551 L_La_95 C_Mo_owner Z_Mo_owner (zl_fo (g129).1 rfl) (Nat.le_of_ble_eq_true rfl) (Nat.le_of_eq (Nat.sub_add_cancel (by omega))) (w_Mo_owner (by omega) (okx_mono (okx_bd h) ?_))
  intro r130 s131 h
  show Xw _ _ _ _ 554 _ [_, _] _ _
  refine xi_icmp_eq D_La_law_554 (fun c132 => ?_) (fun c132 => ?_)
  · have h := okx_T c132 h
    exact xi_less (Nat.mul_le_mul_left _ (Nat.le_succ _)) (Nat.mul_le_mul_left _ (Nat.le_succ _)) (w_La_law_b1966 (by omega) hR23 h)
  · have h := okx_F c132 h
    refine xj_iconst (v := 0) D_La_law_557 rfl ?_
    exact xi_ireturn D_La_law_558 rfl (rfl) (okx_I h)
noncomputable def f_La_law_b559 (R23 : Int32 → Sg → Option (Int32 × Sg)) (x4 : Int32) (s : Sg) : Option (Int32 × Sg) :=
  f_ck (vp_in (x4 + 1) (Int32.toNatClampNeg (mI s 0 4000))) <|
  f_ck (vp_in (x4 + 2) (Int32.toNatClampNeg (mI s 0 4000))) <|
  f_ck (vp_in (x4 + 3) (Int32.toNatClampNeg (mI s 0 4000))) <|
  f_ck (zl_B s) <|
  f_bd (f_Wk_later (mI s 0 (Int32.toNatClampNeg (x4 + 1))) (mI s 0 (Int32.toNatClampNeg (x4 + 2))) (mI s 0 (Int32.toNatClampNeg (x4 + 3))) s) fun r137 s138 =>
  f_ck (vp_in (x4 + 1) (Int32.toNatClampNeg (mI s138 0 4000))) <|
  f_ck (vp_in (x4 + 2) (Int32.toNatClampNeg (mI s138 0 4000))) <|
  f_ck (vp_in (x4 + 3) (Int32.toNatClampNeg (mI s138 0 4000))) <|
  f_ck (zl_B s138) <|
  f_bd (f_Mo_later (mI s138 0 (Int32.toNatClampNeg (x4 + 1))) (mI s138 0 (Int32.toNatClampNeg (x4 + 2))) (mI s138 0 (Int32.toNatClampNeg (x4 + 3))) s138) fun r143 s144 =>
  if r137 = r143 then
    f_La_law_b1966 R23 x4 s144
  else
    some (0, s144)
theorem w_La_law_b559 {x4 : Int32} {s : Sg} {d : Nat} {Q : Option (Option Value) → Sg → Prop} (hd : 64 ≤ d) {n : Nat} {R23 : Int32 → Sg → Option (Int32 × Sg)} (hR23 : ∀ (x4 : Int32) (s : Sg), okx (zq_I Q) (R23 x4 s) → Xw d M_La_law (10 * n) (1064 * n) 23 [.ref 0, .ref 4, .ref 46, .ref 80, .int x4, .retAddr 0, .retAddr 0, .retAddr 0] [] s Q) (h : okx (zq_I Q) (f_La_law_b559 R23 x4 s)) : Xw d M_La_law (10 * (n + 1)) (1064 * (n + 1)) 559 [.ref 0, .ref 4, .ref 46, .ref 80, .int x4, .retAddr 0, .retAddr 0, .retAddr 0] [] s Q := by
  unfold f_La_law_b559 at h
  refine xi_aload_n D_La_law_559 rfl ?_
  refine xi_aload_n D_La_law_560 rfl ?_
  refine xi_iload D_La_law_561 rfl ?_
  refine xj_iconst (v := 1) D_La_law_563 rfl ?_
  refine xi_iadd D_La_law_564 ?_
  obtain ⟨g133, h⟩ := okx_ck h
  refine xi_sld D_La_law_565 g133 ?_
  refine xi_aload_n D_La_law_566 rfl ?_
  refine xi_iload D_La_law_567 rfl ?_
  refine xj_iconst (v := 2) D_La_law_569 rfl ?_
  refine xi_iadd D_La_law_570 ?_
  obtain ⟨g134, h⟩ := okx_ck h
  refine xi_sld D_La_law_571 g134 ?_
  refine xi_aload_n D_La_law_572 rfl ?_
  refine xi_iload D_La_law_573 rfl ?_
  refine xj_iconst (v := 3) D_La_law_575 rfl ?_
  refine xi_iadd D_La_law_576 ?_
  obtain ⟨g135, h⟩ := okx_ck h
  refine xi_sld D_La_law_577 g135 ?_
  obtain ⟨g136, h⟩ := okx_ck h
  refine xj_V3 D_La_law_578 L_La_96 C_Wk_later Z_Wk_later (zl_fo (g136).1 rfl) (Nat.le_of_ble_eq_true rfl) (Nat.le_of_eq (Nat.sub_add_cancel (by omega))) (w_Wk_later (by omega) (okx_mono (okx_bd h) ?_))
  intro r137 s138 h
  show Xw _ _ _ _ 581 _ [_] _ _
  refine xi_aload_n D_La_law_581 rfl ?_
  refine xi_aload_n D_La_law_582 rfl ?_
  refine xi_iload D_La_law_583 rfl ?_
  refine xj_iconst (v := 1) D_La_law_585 rfl ?_
  refine xi_iadd D_La_law_586 ?_
  obtain ⟨g139, h⟩ := okx_ck h
  refine xi_sld D_La_law_587 g139 ?_
  refine xi_aload_n D_La_law_588 rfl ?_
  refine xi_iload D_La_law_589 rfl ?_
  refine xj_iconst (v := 2) D_La_law_591 rfl ?_
  refine xi_iadd D_La_law_592 ?_
  obtain ⟨g140, h⟩ := okx_ck h
  refine xi_sld D_La_law_593 g140 ?_
  refine xi_aload_n D_La_law_594 rfl ?_
  refine xi_iload D_La_law_595 rfl ?_
  refine xj_iconst (v := 3) D_La_law_597 rfl ?_
  refine xi_iadd D_La_law_598 ?_
  obtain ⟨g141, h⟩ := okx_ck h
  refine xi_sld D_La_law_599 g141 ?_
  obtain ⟨g142, h⟩ := okx_ck h
  refine xj_V3 D_La_law_600 L_La_99 C_Mo_later Z_Mo_later (zl_fo (g142).1 rfl) (Nat.le_of_ble_eq_true rfl) (Nat.le_of_eq (Nat.sub_add_cancel (by omega))) (w_Mo_later (by omega) (okx_mono (okx_bd h) ?_))
  intro r143 s144 h
  show Xw _ _ _ _ 603 _ [_, _] _ _
  refine xi_icmp_eq D_La_law_603 (fun c145 => ?_) (fun c145 => ?_)
  · have h := okx_T c145 h
    exact xi_less (Nat.mul_le_mul_left _ (Nat.le_succ _)) (Nat.mul_le_mul_left _ (Nat.le_succ _)) (w_La_law_b1966 (by omega) hR23 h)
  · have h := okx_F c145 h
    refine xj_iconst (v := 0) D_La_law_606 rfl ?_
    exact xi_ireturn D_La_law_607 rfl (rfl) (okx_I h)
noncomputable def f_La_law_b608 (R23 : Int32 → Sg → Option (Int32 × Sg)) (x4 : Int32) (s : Sg) : Option (Int32 × Sg) :=
  f_ck (vp_in (x4 + 1) (Int32.toNatClampNeg (mI s 0 4000))) <|
  f_ck (zl_B s) <|
  f_bd (f_Wk_chance (mI s 0 (Int32.toNatClampNeg (x4 + 1))) s) fun r148 s149 =>
  f_ck (vp_in (x4 + 1) (Int32.toNatClampNeg (mI s149 0 4000))) <|
  f_ck (zl_B s149) <|
  f_bd (f_Mo_chance (mI s149 0 (Int32.toNatClampNeg (x4 + 1))) s149) fun r152 s153 =>
  if r148 = r152 then
    f_La_law_b1966 R23 x4 s153
  else
    some (0, s153)
theorem w_La_law_b608 {x4 : Int32} {s : Sg} {d : Nat} {Q : Option (Option Value) → Sg → Prop} (hd : 64 ≤ d) {n : Nat} {R23 : Int32 → Sg → Option (Int32 × Sg)} (hR23 : ∀ (x4 : Int32) (s : Sg), okx (zq_I Q) (R23 x4 s) → Xw d M_La_law (10 * n) (1064 * n) 23 [.ref 0, .ref 4, .ref 46, .ref 80, .int x4, .retAddr 0, .retAddr 0, .retAddr 0] [] s Q) (h : okx (zq_I Q) (f_La_law_b608 R23 x4 s)) : Xw d M_La_law (10 * (n + 1)) (1064 * (n + 1)) 608 [.ref 0, .ref 4, .ref 46, .ref 80, .int x4, .retAddr 0, .retAddr 0, .retAddr 0] [] s Q := by
  unfold f_La_law_b608 at h
  refine xi_aload_n D_La_law_608 rfl ?_
  refine xi_aload_n D_La_law_609 rfl ?_
  refine xi_iload D_La_law_610 rfl ?_
  refine xj_iconst (v := 1) D_La_law_612 rfl ?_
  refine xi_iadd D_La_law_613 ?_
  obtain ⟨g146, h⟩ := okx_ck h
  refine xi_sld D_La_law_614 g146 ?_
  obtain ⟨g147, h⟩ := okx_ck h
  refine xj_V1 D_La_law_615 L_La_100 C_Wk_chance Z_Wk_chance (zl_fo (g147).1 rfl) (Nat.le_of_ble_eq_true rfl) (Nat.le_of_eq (Nat.sub_add_cancel (by omega))) (w_Wk_chance (by omega) (okx_mono (okx_bd h) ?_))
  intro r148 s149 h
  show Xw _ _ _ _ 618 _ [_] _ _
  refine xi_aload_n D_La_law_618 rfl ?_
  refine xi_aload_n D_La_law_619 rfl ?_
  refine xi_iload D_La_law_620 rfl ?_
  refine xj_iconst (v := 1) D_La_law_622 rfl ?_
  refine xi_iadd D_La_law_623 ?_
  obtain ⟨g150, h⟩ := okx_ck h
  refine xi_sld D_La_law_624 g150 ?_
  obtain ⟨g151, h⟩ := okx_ck h
  refine xj_V1 D_La_law_625 L_La_104 C_Mo_chance Z_Mo_chance (zl_fo (g151).1 rfl) (Nat.le_of_ble_eq_true rfl) (Nat.le_of_eq (Nat.sub_add_cancel (by omega))) (w_Mo_chance (by omega) (okx_mono (okx_bd h) ?_))
  intro r152 s153 h
  show Xw _ _ _ _ 628 _ [_, _] _ _
  refine xi_icmp_eq D_La_law_628 (fun c154 => ?_) (fun c154 => ?_)
  · have h := okx_T c154 h
    exact xi_less (Nat.mul_le_mul_left _ (Nat.le_succ _)) (Nat.mul_le_mul_left _ (Nat.le_succ _)) (w_La_law_b1966 (by omega) hR23 h)
  · have h := okx_F c154 h
    refine xj_iconst (v := 0) D_La_law_631 rfl ?_
    exact xi_ireturn D_La_law_632 rfl (rfl) (okx_I h)
noncomputable def f_La_law_b633 (R23 : Int32 → Sg → Option (Int32 × Sg)) (x4 : Int32) (s : Sg) : Option (Int32 × Sg) :=
  f_ck (vp_in (x4 + 1) (Int32.toNatClampNeg (mI s 0 4000))) <|
  f_ck (zl_B s) <|
  f_bd (f_Wk_has (mI s 0 (Int32.toNatClampNeg (x4 + 1))) s) fun r157 s158 =>
  f_ck (vp_in (x4 + 1) (Int32.toNatClampNeg (mI s158 0 4000))) <|
  f_ck (zl_B s158) <|
  f_bd (f_Mo_has (mI s158 0 (Int32.toNatClampNeg (x4 + 1))) s158) fun r161 s162 =>
  if r157 = r161 then
    f_La_law_b1966 R23 x4 s162
  else
    some (0, s162)
theorem w_La_law_b633 {x4 : Int32} {s : Sg} {d : Nat} {Q : Option (Option Value) → Sg → Prop} (hd : 64 ≤ d) {n : Nat} {R23 : Int32 → Sg → Option (Int32 × Sg)} (hR23 : ∀ (x4 : Int32) (s : Sg), okx (zq_I Q) (R23 x4 s) → Xw d M_La_law (10 * n) (1064 * n) 23 [.ref 0, .ref 4, .ref 46, .ref 80, .int x4, .retAddr 0, .retAddr 0, .retAddr 0] [] s Q) (h : okx (zq_I Q) (f_La_law_b633 R23 x4 s)) : Xw d M_La_law (10 * (n + 1)) (1064 * (n + 1)) 633 [.ref 0, .ref 4, .ref 46, .ref 80, .int x4, .retAddr 0, .retAddr 0, .retAddr 0] [] s Q := by
  unfold f_La_law_b633 at h
  refine xi_aload_n D_La_law_633 rfl ?_
  refine xi_aload_n D_La_law_634 rfl ?_
  refine xi_iload D_La_law_635 rfl ?_
  refine xj_iconst (v := 1) D_La_law_637 rfl ?_
  refine xi_iadd D_La_law_638 ?_
  obtain ⟨g155, h⟩ := okx_ck h
  refine xi_sld D_La_law_639 g155 ?_
  obtain ⟨g156, h⟩ := okx_ck h
  refine xj_V1 D_La_law_640 L_La_105 C_Wk_has Z_Wk_has (zl_fo (g156).1 rfl) (Nat.le_of_ble_eq_true rfl) (Nat.le_of_eq (Nat.sub_add_cancel (by omega))) (w_Wk_has (by omega) (okx_mono (okx_bd h) ?_))
  intro r157 s158 h
  show Xw _ _ _ _ 643 _ [_] _ _
  refine xi_aload_n D_La_law_643 rfl ?_
  refine xi_aload_n D_La_law_644 rfl ?_
  refine xi_iload D_La_law_645 rfl ?_
  refine xj_iconst (v := 1) D_La_law_647 rfl ?_
  refine xi_iadd D_La_law_648 ?_
  obtain ⟨g159, h⟩ := okx_ck h
  refine xi_sld D_La_law_649 g159 ?_
  obtain ⟨g160, h⟩ := okx_ck h
  refine xj_V1 D_La_law_650 L_La_108 C_Mo_has Z_Mo_has (zl_fo (g160).1 rfl) (Nat.le_of_ble_eq_true rfl) (Nat.le_of_eq (Nat.sub_add_cancel (by omega))) (w_Mo_has (by omega) (okx_mono (okx_bd h) ?_))
  intro r161 s162 h
  show Xw _ _ _ _ 653 _ [_, _] _ _
  refine xi_icmp_eq D_La_law_653 (fun c163 => ?_) (fun c163 => ?_)
  · have h := okx_T c163 h
    exact xi_less (Nat.mul_le_mul_left _ (Nat.le_succ _)) (Nat.mul_le_mul_left _ (Nat.le_succ _)) (w_La_law_b1966 (by omega) hR23 h)
  · have h := okx_F c163 h
    refine xj_iconst (v := 0) D_La_law_656 rfl ?_
    exact xi_ireturn D_La_law_657 rfl (rfl) (okx_I h)
noncomputable def f_La_law_b723 (R23 : Int32 → Sg → Option (Int32 × Sg)) (x4 : Int32) (s : Sg) : Option (Int32 × Sg) :=
  f_La_law_b1966 R23 x4 s
theorem w_La_law_b723 {x4 : Int32} {s : Sg} {d : Nat} {Q : Option (Option Value) → Sg → Prop} (hd : 64 ≤ d) {n : Nat} {R23 : Int32 → Sg → Option (Int32 × Sg)} (hR23 : ∀ (x4 : Int32) (s : Sg), okx (zq_I Q) (R23 x4 s) → Xw d M_La_law (10 * n) (1064 * n) 23 [.ref 0, .ref 4, .ref 46, .ref 80, .int x4, .retAddr 0, .retAddr 0, .retAddr 0] [] s Q) (h : okx (zq_I Q) (f_La_law_b723 R23 x4 s)) : Xw d M_La_law (10 * n) (1064 * n) 723 [.ref 0, .ref 4, .ref 46, .ref 80, .int x4, .retAddr 0, .retAddr 0, .retAddr 0] [] s Q := by
  unfold f_La_law_b723 at h
  refine xi_goto D_La_law_723 ?_
  exact w_La_law_b1966 (by omega) hR23 h
noncomputable def f_La_law_b658 (R23 : Int32 → Sg → Option (Int32 × Sg)) (x4 : Int32) (s : Sg) : Option (Int32 × Sg) :=
  f_ck (vp_in (x4 + 1) (Int32.toNatClampNeg (mI s 0 4000))) <|
  f_ck (vp_in (x4 + 2) (Int32.toNatClampNeg (mI s 0 4000))) <|
  f_bd (f_La_makes (mI s 0 (Int32.toNatClampNeg (x4 + 1))) (mI s 0 (Int32.toNatClampNeg (x4 + 2))) s) fun r166 s167 =>
  f_ck (vp_in (x4 + 1) (Int32.toNatClampNeg (mI s167 0 4000))) <|
  f_ck (vp_in (x4 + 2) (Int32.toNatClampNeg (mI s167 0 4000))) <|
  f_ck (zl_B s167) <|
  f_bd (f_Mo_makes (mI s167 0 (Int32.toNatClampNeg (x4 + 1))) (mI s167 0 (Int32.toNatClampNeg (x4 + 2))) s167) fun r171 s172 =>
  f_ck (zl_B s172) <|
  f_bd (f_Mo_thrown  s172) fun r174 s175 =>
  if r174 = r166 then
    if r166 = 0 then
      f_ck (zl_B s175) <|
      if (lg_cmp (mL s175 80 (Int32.toNatClampNeg (0 : Int32))) (Int32.toInt64 r171)) = 0 then
        f_La_law_b723 R23 x4 s175
      else
        some (0, s175)
    else
      f_La_law_b723 R23 x4 s175
  else
    some (0, s175)
theorem w_La_law_b658 {x4 : Int32} {s : Sg} {d : Nat} {Q : Option (Option Value) → Sg → Prop} (hd : 64 ≤ d) {n : Nat} {R23 : Int32 → Sg → Option (Int32 × Sg)} (hR23 : ∀ (x4 : Int32) (s : Sg), okx (zq_I Q) (R23 x4 s) → Xw d M_La_law (10 * n) (1064 * n) 23 [.ref 0, .ref 4, .ref 46, .ref 80, .int x4, .retAddr 0, .retAddr 0, .retAddr 0] [] s Q) (h : okx (zq_I Q) (f_La_law_b658 R23 x4 s)) : Xw d M_La_law (10 * (n + 1)) (1064 * (n + 1)) 658 [.ref 0, .ref 4, .ref 46, .ref 80, .int x4, .retAddr 0, .retAddr 0, .retAddr 0] [] s Q := by
  unfold f_La_law_b658 at h
  refine xi_aload_n D_La_law_658 rfl ?_
  refine xi_aload_n D_La_law_659 rfl ?_
  refine xi_iload D_La_law_660 rfl ?_
  refine xj_iconst (v := 1) D_La_law_662 rfl ?_
  refine xi_iadd D_La_law_663 ?_
  obtain ⟨g164, h⟩ := okx_ck h
  refine xi_sld D_La_law_664 g164 ?_
  refine xi_aload_n D_La_law_665 rfl ?_
  refine xi_iload D_La_law_666 rfl ?_
  refine xj_iconst (v := 2) D_La_law_668 rfl ?_
  refine xi_iadd D_La_law_669 ?_
  obtain ⟨g165, h⟩ := okx_ck h
  refine xi_sld D_La_law_670 g165 ?_
  refine xi_aload_n D_La_law_671 rfl ?_
  refine xi_SW [_, _, _, _] D_La_law_672 L_La_109 C_La_makes.1 C_La_makes.2.1 ⟨(Nat.le_of_ble_eq_true rfl), C_La_makes.2.2, (Nat.le_of_eq (Nat.sub_add_cancel (by omega))), zl_bue (by decide), zl_buf (by decide)⟩ (w_La_makes (by omega) (okx_mono (okx_bd h) ?_))
  intro r166 s167 h
  show Xw _ _ _ _ 675 _ [_] _ _
  refine xi_less (zl_bud (by decide)) (zl_bus (by decide)) ?_
  refine xi_istore (ls' := [_, _, _, _, _, _, _, _]) D_La_law_675 rfl (by decide) ?_
  refine xi_aload_n D_La_law_677 rfl ?_
  refine xi_aload_n D_La_law_678 rfl ?_
  refine xi_iload D_La_law_679 rfl ?_
  refine xj_iconst (v := 1) D_La_law_681 rfl ?_
  refine xi_iadd D_La_law_682 ?_
  obtain ⟨g168, h⟩ := okx_ck h
  refine xi_sld D_La_law_683 g168 ?_
  refine xi_aload_n D_La_law_684 rfl ?_
  refine xi_iload D_La_law_685 rfl ?_
  refine xj_iconst (v := 2) D_La_law_687 rfl ?_
  refine xi_iadd D_La_law_688 ?_
  obtain ⟨g169, h⟩ := okx_ck h
  refine xi_sld D_La_law_689 g169 ?_
  obtain ⟨g170, h⟩ := okx_ck h
  refine xj_V2 D_La_law_690 L_La_112 C_Mo_makes Z_Mo_makes (zl_fo (g170).1 rfl) (Nat.le_of_ble_eq_true rfl) (Nat.le_of_eq (Nat.sub_add_cancel (by omega))) (w_Mo_makes (by omega) (okx_mono (okx_bd h) ?_))
  intro r171 s172 h
  show Xw _ _ _ _ 693 _ [_] _ _
  refine xi_istore (ls' := [_, _, _, _, _, _, _, _]) D_La_law_693 rfl (by decide) ?_
  refine xi_aload_n D_La_law_695 rfl ?_
  obtain ⟨g173, h⟩ := okx_ck h
  refine xj_V0 D_La_law_696 L_La_84 C_Mo_thrown Z_Mo_thrown (zl_fo (g173).1 rfl) (Nat.le_of_ble_eq_true rfl) (Nat.le_of_eq (Nat.sub_add_cancel (by omega))) (w_Mo_thrown (by omega) (okx_mono (okx_bd h) ?_))
  intro r174 s175 h
  show Xw _ _ _ _ 699 _ [_] _ _
  refine xi_iload D_La_law_699 rfl ?_
  refine xi_icmp_eq D_La_law_701 (fun c176 => ?_) (fun c176 => ?_)
  · have h := okx_T c176 h
    refine xi_iload D_La_law_706 rfl ?_
    refine xi_if_ne D_La_law_708 (fun c177 => ?_) (fun c177 => ?_)
    · have h := okx_F c177 h
      exact xk_wk (w_La_law_b723 (by omega) hR23 h) ⟨Or.inl rfl, Or.inl rfl, Or.inl rfl, Or.inl rfl, Or.inl rfl, Or.inr rfl, Or.inr rfl, Or.inl rfl, trivial⟩
    · have h := okx_T c177 h
      refine xi_aload_n D_La_law_711 rfl ?_
      refine xj_iconst (v := 0) D_La_law_712 rfl ?_
      obtain ⟨g178, h⟩ := okx_ck h
      refine xj_lald D_La_law_713 (zl_fx (g178).1 rfl) (zl_ib (n := 1) rfl (zl_vin rfl)) ?_
      refine xi_iload D_La_law_714 rfl ?_
      refine xi_i2l D_La_law_716 ?_
      refine xi_lcmp D_La_law_717 ?_
      refine xi_if_eq D_La_law_718 (fun c179 => ?_) (fun c179 => ?_)
      · have h := okx_T c179 h
        exact xk_wk (w_La_law_b723 (by omega) hR23 h) ⟨Or.inl rfl, Or.inl rfl, Or.inl rfl, Or.inl rfl, Or.inl rfl, Or.inr rfl, Or.inr rfl, Or.inl rfl, trivial⟩
      · have h := okx_F c179 h
        refine xj_iconst (v := 0) D_La_law_721 rfl ?_
        exact xi_ireturn D_La_law_722 rfl (rfl) (okx_I h)
  · have h := okx_F c176 h
    refine xj_iconst (v := 0) D_La_law_704 rfl ?_
    exact xi_ireturn D_La_law_705 rfl (rfl) (okx_I h)
noncomputable def f_La_law_b726 (R23 : Int32 → Sg → Option (Int32 × Sg)) (x4 : Int32) (s : Sg) : Option (Int32 × Sg) :=
  f_ck (vp_in (x4 + 1) (Int32.toNatClampNeg (mI s 0 4000))) <|
  f_ck (vp_in (x4 + 2) (Int32.toNatClampNeg (mI s 0 4000))) <|
  f_ck (zl_B s) <|
  f_bd (f_Wk_bargain (mI s 0 (Int32.toNatClampNeg (x4 + 1))) (mI s 0 (Int32.toNatClampNeg (x4 + 2))) s) fun r183 s184 =>
  f_ck (vp_in (x4 + 1) (Int32.toNatClampNeg (mI s184 0 4000))) <|
  f_ck (vp_in (x4 + 2) (Int32.toNatClampNeg (mI s184 0 4000))) <|
  f_ck (zl_B s184) <|
  f_bd (f_Mo_bargain (mI s184 0 (Int32.toNatClampNeg (x4 + 1))) (mI s184 0 (Int32.toNatClampNeg (x4 + 2))) s184) fun r188 s189 =>
  if r183 = r188 then
    f_La_law_b1966 R23 x4 s189
  else
    some (0, s189)
theorem w_La_law_b726 {x4 : Int32} {s : Sg} {d : Nat} {Q : Option (Option Value) → Sg → Prop} (hd : 64 ≤ d) {n : Nat} {R23 : Int32 → Sg → Option (Int32 × Sg)} (hR23 : ∀ (x4 : Int32) (s : Sg), okx (zq_I Q) (R23 x4 s) → Xw d M_La_law (10 * n) (1064 * n) 23 [.ref 0, .ref 4, .ref 46, .ref 80, .int x4, .retAddr 0, .retAddr 0, .retAddr 0] [] s Q) (h : okx (zq_I Q) (f_La_law_b726 R23 x4 s)) : Xw d M_La_law (10 * (n + 1)) (1064 * (n + 1)) 726 [.ref 0, .ref 4, .ref 46, .ref 80, .int x4, .retAddr 0, .retAddr 0, .retAddr 0] [] s Q := by
  unfold f_La_law_b726 at h
  refine xi_aload_n D_La_law_726 rfl ?_
  refine xi_aload_n D_La_law_727 rfl ?_
  refine xi_iload D_La_law_728 rfl ?_
  refine xj_iconst (v := 1) D_La_law_730 rfl ?_
  refine xi_iadd D_La_law_731 ?_
  obtain ⟨g180, h⟩ := okx_ck h
  refine xi_sld D_La_law_732 g180 ?_
  refine xi_aload_n D_La_law_733 rfl ?_
  refine xi_iload D_La_law_734 rfl ?_
  refine xj_iconst (v := 2) D_La_law_736 rfl ?_
  refine xi_iadd D_La_law_737 ?_
  obtain ⟨g181, h⟩ := okx_ck h
  refine xi_sld D_La_law_738 g181 ?_
  obtain ⟨g182, h⟩ := okx_ck h
  refine xj_V2 D_La_law_739 L_La_113 C_Wk_bargain Z_Wk_bargain (zl_fo (g182).1 rfl) (Nat.le_of_ble_eq_true rfl) (Nat.le_of_eq (Nat.sub_add_cancel (by omega))) (w_Wk_bargain (by omega) (okx_mono (okx_bd h) ?_))
  intro r183 s184 h
  show Xw _ _ _ _ 742 _ [_] _ _
  refine xi_aload_n D_La_law_742 rfl ?_
  refine xi_aload_n D_La_law_743 rfl ?_
  refine xi_iload D_La_law_744 rfl ?_
  refine xj_iconst (v := 1) D_La_law_746 rfl ?_
  refine xi_iadd D_La_law_747 ?_
  obtain ⟨g185, h⟩ := okx_ck h
  refine xi_sld D_La_law_748 g185 ?_
  refine xi_aload_n D_La_law_749 rfl ?_
  refine xi_iload D_La_law_750 rfl ?_
  refine xj_iconst (v := 2) D_La_law_752 rfl ?_
  refine xi_iadd D_La_law_753 ?_
  obtain ⟨g186, h⟩ := okx_ck h
  refine xi_sld D_La_law_754 g186 ?_
  obtain ⟨g187, h⟩ := okx_ck h
  refine xj_V2 D_La_law_755 L_La_117 C_Mo_bargain Z_Mo_bargain (zl_fo (g187).1 rfl) (Nat.le_of_ble_eq_true rfl) (Nat.le_of_eq (Nat.sub_add_cancel (by omega))) (w_Mo_bargain (by omega) (okx_mono (okx_bd h) ?_))
  intro r188 s189 h
  show Xw _ _ _ _ 758 _ [_, _] _ _
  refine xi_icmp_eq D_La_law_758 (fun c190 => ?_) (fun c190 => ?_)
  · have h := okx_T c190 h
    exact xi_less (Nat.mul_le_mul_left _ (Nat.le_succ _)) (Nat.mul_le_mul_left _ (Nat.le_succ _)) (w_La_law_b1966 (by omega) hR23 h)
  · have h := okx_F c190 h
    refine xj_iconst (v := 0) D_La_law_761 rfl ?_
    exact xi_ireturn D_La_law_762 rfl (rfl) (okx_I h)
noncomputable def f_La_law_b839 (R23 : Int32 → Sg → Option (Int32 × Sg)) (x4 : Int32) (s : Sg) : Option (Int32 × Sg) :=
  f_La_law_b1966 R23 x4 s
theorem w_La_law_b839 {x4 : Int32} {s : Sg} {d : Nat} {Q : Option (Option Value) → Sg → Prop} (hd : 64 ≤ d) {n : Nat} {R23 : Int32 → Sg → Option (Int32 × Sg)} (hR23 : ∀ (x4 : Int32) (s : Sg), okx (zq_I Q) (R23 x4 s) → Xw d M_La_law (10 * n) (1064 * n) 23 [.ref 0, .ref 4, .ref 46, .ref 80, .int x4, .retAddr 0, .retAddr 0, .retAddr 0] [] s Q) (h : okx (zq_I Q) (f_La_law_b839 R23 x4 s)) : Xw d M_La_law (10 * n) (1064 * n) 839 [.ref 0, .ref 4, .ref 46, .ref 80, .int x4, .retAddr 0, .retAddr 0, .retAddr 0] [] s Q := by
  unfold f_La_law_b839 at h
  refine xi_goto D_La_law_839 ?_
  exact w_La_law_b1966 (by omega) hR23 h
noncomputable def f_La_law_b763 (R23 : Int32 → Sg → Option (Int32 × Sg)) (x4 : Int32) (s : Sg) : Option (Int32 × Sg) :=
  f_ck (vp_in (x4 + 1) (Int32.toNatClampNeg (mI s 0 4000))) <|
  f_ck (vp_in (x4 + 2) (Int32.toNatClampNeg (mI s 0 4000))) <|
  f_ck (vp_in (x4 + 3) (Int32.toNatClampNeg (mI s 0 4000))) <|
  f_bd (f_La_share (mI s 0 (Int32.toNatClampNeg (x4 + 1))) (mI s 0 (Int32.toNatClampNeg (x4 + 2))) (mI s 0 (Int32.toNatClampNeg (x4 + 3))) s) fun r194 s195 =>
  f_ck (vp_in (x4 + 1) (Int32.toNatClampNeg (mI s195 0 4000))) <|
  f_ck (vp_in (x4 + 2) (Int32.toNatClampNeg (mI s195 0 4000))) <|
  f_ck (vp_in (x4 + 3) (Int32.toNatClampNeg (mI s195 0 4000))) <|
  f_ck (zl_B s195) <|
  f_bd (f_Mo_share (mI s195 0 (Int32.toNatClampNeg (x4 + 1))) (mI s195 0 (Int32.toNatClampNeg (x4 + 2))) (mI s195 0 (Int32.toNatClampNeg (x4 + 3))) s195) fun r200 s201 =>
  f_ck (zl_B s201) <|
  f_bd (f_Mo_thrown  s201) fun r203 s204 =>
  if r203 = r194 then
    if r194 = 0 then
      f_ck (zl_B s204) <|
      if (lg_cmp (mL s204 80 (Int32.toNatClampNeg (0 : Int32))) r200) = 0 then
        f_La_law_b839 R23 x4 s204
      else
        some (0, s204)
    else
      f_La_law_b839 R23 x4 s204
  else
    some (0, s204)
theorem w_La_law_b763 {x4 : Int32} {s : Sg} {d : Nat} {Q : Option (Option Value) → Sg → Prop} (hd : 64 ≤ d) {n : Nat} {R23 : Int32 → Sg → Option (Int32 × Sg)} (hR23 : ∀ (x4 : Int32) (s : Sg), okx (zq_I Q) (R23 x4 s) → Xw d M_La_law (10 * n) (1064 * n) 23 [.ref 0, .ref 4, .ref 46, .ref 80, .int x4, .retAddr 0, .retAddr 0, .retAddr 0] [] s Q) (h : okx (zq_I Q) (f_La_law_b763 R23 x4 s)) : Xw d M_La_law (10 * (n + 1)) (1064 * (n + 1)) 763 [.ref 0, .ref 4, .ref 46, .ref 80, .int x4, .retAddr 0, .retAddr 0, .retAddr 0] [] s Q := by
  unfold f_La_law_b763 at h
  refine xi_aload_n D_La_law_763 rfl ?_
  refine xi_aload_n D_La_law_764 rfl ?_
  refine xi_iload D_La_law_765 rfl ?_
  refine xj_iconst (v := 1) D_La_law_767 rfl ?_
  refine xi_iadd D_La_law_768 ?_
  obtain ⟨g191, h⟩ := okx_ck h
  refine xi_sld D_La_law_769 g191 ?_
  refine xi_aload_n D_La_law_770 rfl ?_
  refine xi_iload D_La_law_771 rfl ?_
  refine xj_iconst (v := 2) D_La_law_773 rfl ?_
  refine xi_iadd D_La_law_774 ?_
  obtain ⟨g192, h⟩ := okx_ck h
  refine xi_sld D_La_law_775 g192 ?_
  refine xi_aload_n D_La_law_776 rfl ?_
  refine xi_iload D_La_law_777 rfl ?_
  refine xj_iconst (v := 3) D_La_law_779 rfl ?_
  refine xi_iadd D_La_law_780 ?_
  obtain ⟨g193, h⟩ := okx_ck h
  refine xi_sld D_La_law_781 g193 ?_
  refine xi_aload_n D_La_law_782 rfl ?_
  refine xi_SW [_, _, _, _, _] D_La_law_783 L_La_118 C_La_share.1 C_La_share.2.1 ⟨(Nat.le_of_ble_eq_true rfl), C_La_share.2.2, (Nat.le_of_eq (Nat.sub_add_cancel (by omega))), zl_bue (by decide), zl_buf (by decide)⟩ (w_La_share (by omega) (okx_mono (okx_bd h) ?_))
  intro r194 s195 h
  show Xw _ _ _ _ 786 _ [_] _ _
  refine xi_less (zl_bud (by decide)) (zl_bus (by decide)) ?_
  refine xi_istore (ls' := [_, _, _, _, _, _, _, _]) D_La_law_786 rfl (by decide) ?_
  refine xi_aload_n D_La_law_788 rfl ?_
  refine xi_aload_n D_La_law_789 rfl ?_
  refine xi_iload D_La_law_790 rfl ?_
  refine xj_iconst (v := 1) D_La_law_792 rfl ?_
  refine xi_iadd D_La_law_793 ?_
  obtain ⟨g196, h⟩ := okx_ck h
  refine xi_sld D_La_law_794 g196 ?_
  refine xi_aload_n D_La_law_795 rfl ?_
  refine xi_iload D_La_law_796 rfl ?_
  refine xj_iconst (v := 2) D_La_law_798 rfl ?_
  refine xi_iadd D_La_law_799 ?_
  obtain ⟨g197, h⟩ := okx_ck h
  refine xi_sld D_La_law_800 g197 ?_
  refine xi_aload_n D_La_law_801 rfl ?_
  refine xi_iload D_La_law_802 rfl ?_
  refine xj_iconst (v := 3) D_La_law_804 rfl ?_
  refine xi_iadd D_La_law_805 ?_
  obtain ⟨g198, h⟩ := okx_ck h
  refine xi_sld D_La_law_806 g198 ?_
  obtain ⟨g199, h⟩ := okx_ck h
  refine xj_V3 D_La_law_807 L_La_120 C_Mo_share Z_Mo_share (zl_fo (g199).1 rfl) (Nat.le_of_ble_eq_true rfl) (Nat.le_of_eq (Nat.sub_add_cancel (by omega))) (w_Mo_share (by omega) (okx_mono (okx_bd h) ?_))
  intro r200 s201 h
  show Xw _ _ _ _ 810 _ [_] _ _
  refine xi_lstore (ls' := [_, _, _, _, _, _, _, _]) D_La_law_810 rfl (by decide) ?_
  refine xi_aload_n D_La_law_812 rfl ?_
  obtain ⟨g202, h⟩ := okx_ck h
  refine xj_V0 D_La_law_813 L_La_84 C_Mo_thrown Z_Mo_thrown (zl_fo (g202).1 rfl) (Nat.le_of_ble_eq_true rfl) (Nat.le_of_eq (Nat.sub_add_cancel (by omega))) (w_Mo_thrown (by omega) (okx_mono (okx_bd h) ?_))
  intro r203 s204 h
  show Xw _ _ _ _ 816 _ [_] _ _
  refine xi_iload D_La_law_816 rfl ?_
  refine xi_icmp_eq D_La_law_818 (fun c205 => ?_) (fun c205 => ?_)
  · have h := okx_T c205 h
    refine xi_iload D_La_law_823 rfl ?_
    refine xi_if_ne D_La_law_825 (fun c206 => ?_) (fun c206 => ?_)
    · have h := okx_F c206 h
      exact xk_wk (w_La_law_b839 (by omega) hR23 h) ⟨Or.inl rfl, Or.inl rfl, Or.inl rfl, Or.inl rfl, Or.inl rfl, Or.inr rfl, Or.inr rfl, Or.inl rfl, trivial⟩
    · have h := okx_T c206 h
      refine xi_aload_n D_La_law_828 rfl ?_
      refine xj_iconst (v := 0) D_La_law_829 rfl ?_
      obtain ⟨g207, h⟩ := okx_ck h
      refine xj_lald D_La_law_830 (zl_fx (g207).1 rfl) (zl_ib (n := 1) rfl (zl_vin rfl)) ?_
      refine xi_lload D_La_law_831 rfl ?_
      refine xi_lcmp D_La_law_833 ?_
      refine xi_if_eq D_La_law_834 (fun c208 => ?_) (fun c208 => ?_)
      · have h := okx_T c208 h
        exact xk_wk (w_La_law_b839 (by omega) hR23 h) ⟨Or.inl rfl, Or.inl rfl, Or.inl rfl, Or.inl rfl, Or.inl rfl, Or.inr rfl, Or.inr rfl, Or.inl rfl, trivial⟩
      · have h := okx_F c208 h
        refine xj_iconst (v := 0) D_La_law_837 rfl ?_
        exact xi_ireturn D_La_law_838 rfl (rfl) (okx_I h)
  · have h := okx_F c205 h
    refine xj_iconst (v := 0) D_La_law_821 rfl ?_
    exact xi_ireturn D_La_law_822 rfl (rfl) (okx_I h)
noncomputable def f_La_law_b842 (R23 : Int32 → Sg → Option (Int32 × Sg)) (x4 : Int32) (s : Sg) : Option (Int32 × Sg) :=
  f_ck (vp_in (x4 + 1) (Int32.toNatClampNeg (mI s 0 4000))) <|
  f_ck (vp_in (x4 + 2) (Int32.toNatClampNeg (mI s 0 4000))) <|
  f_ck (zl_B s) <|
  f_bd (f_Wk_would (mI s 0 (Int32.toNatClampNeg (x4 + 1))) (mI s 0 (Int32.toNatClampNeg (x4 + 2))) s) fun r212 s213 =>
  f_ck (vp_in (x4 + 1) (Int32.toNatClampNeg (mI s213 0 4000))) <|
  f_ck (vp_in (x4 + 2) (Int32.toNatClampNeg (mI s213 0 4000))) <|
  f_ck (zl_B s213) <|
  f_bd (f_Mo_would (mI s213 0 (Int32.toNatClampNeg (x4 + 1))) (mI s213 0 (Int32.toNatClampNeg (x4 + 2))) s213) fun r217 s218 =>
  if r212 = r217 then
    f_La_law_b1966 R23 x4 s218
  else
    some (0, s218)
theorem w_La_law_b842 {x4 : Int32} {s : Sg} {d : Nat} {Q : Option (Option Value) → Sg → Prop} (hd : 64 ≤ d) {n : Nat} {R23 : Int32 → Sg → Option (Int32 × Sg)} (hR23 : ∀ (x4 : Int32) (s : Sg), okx (zq_I Q) (R23 x4 s) → Xw d M_La_law (10 * n) (1064 * n) 23 [.ref 0, .ref 4, .ref 46, .ref 80, .int x4, .retAddr 0, .retAddr 0, .retAddr 0] [] s Q) (h : okx (zq_I Q) (f_La_law_b842 R23 x4 s)) : Xw d M_La_law (10 * (n + 1)) (1064 * (n + 1)) 842 [.ref 0, .ref 4, .ref 46, .ref 80, .int x4, .retAddr 0, .retAddr 0, .retAddr 0] [] s Q := by
  unfold f_La_law_b842 at h
  refine xi_aload_n D_La_law_842 rfl ?_
  refine xi_aload_n D_La_law_843 rfl ?_
  refine xi_iload D_La_law_844 rfl ?_
  refine xj_iconst (v := 1) D_La_law_846 rfl ?_
  refine xi_iadd D_La_law_847 ?_
  obtain ⟨g209, h⟩ := okx_ck h
  refine xi_sld D_La_law_848 g209 ?_
  refine xi_aload_n D_La_law_849 rfl ?_
  refine xi_iload D_La_law_850 rfl ?_
  refine xj_iconst (v := 2) D_La_law_852 rfl ?_
  refine xi_iadd D_La_law_853 ?_
  obtain ⟨g210, h⟩ := okx_ck h
  refine xi_sld D_La_law_854 g210 ?_
  obtain ⟨g211, h⟩ := okx_ck h
  refine xj_V2 D_La_law_855 L_La_121 C_Wk_would Z_Wk_would (zl_fo (g211).1 rfl) (Nat.le_of_ble_eq_true rfl) (Nat.le_of_eq (Nat.sub_add_cancel (by omega))) (w_Wk_would (by omega) (okx_mono (okx_bd h) ?_))
  intro r212 s213 h
  show Xw _ _ _ _ 858 _ [_] _ _
  refine xi_aload_n D_La_law_858 rfl ?_
  refine xi_aload_n D_La_law_859 rfl ?_
  refine xi_iload D_La_law_860 rfl ?_
  refine xj_iconst (v := 1) D_La_law_862 rfl ?_
  refine xi_iadd D_La_law_863 ?_
  obtain ⟨g214, h⟩ := okx_ck h
  refine xi_sld D_La_law_864 g214 ?_
  refine xi_aload_n D_La_law_865 rfl ?_
  refine xi_iload D_La_law_866 rfl ?_
  refine xj_iconst (v := 2) D_La_law_868 rfl ?_
  refine xi_iadd D_La_law_869 ?_
  obtain ⟨g215, h⟩ := okx_ck h
  refine xi_sld D_La_law_870 g215 ?_
  obtain ⟨g216, h⟩ := okx_ck h
  refine xj_V2 D_La_law_871 L_La_124 C_Mo_would Z_Mo_would (zl_fo (g216).1 rfl) (Nat.le_of_ble_eq_true rfl) (Nat.le_of_eq (Nat.sub_add_cancel (by omega))) (w_Mo_would (by omega) (okx_mono (okx_bd h) ?_))
  intro r217 s218 h
  show Xw _ _ _ _ 874 _ [_, _] _ _
  refine xi_icmp_eq D_La_law_874 (fun c219 => ?_) (fun c219 => ?_)
  · have h := okx_T c219 h
    exact xi_less (Nat.mul_le_mul_left _ (Nat.le_succ _)) (Nat.mul_le_mul_left _ (Nat.le_succ _)) (w_La_law_b1966 (by omega) hR23 h)
  · have h := okx_F c219 h
    refine xj_iconst (v := 0) D_La_law_877 rfl ?_
    exact xi_ireturn D_La_law_878 rfl (rfl) (okx_I h)
noncomputable def f_La_law_b879 (R23 : Int32 → Sg → Option (Int32 × Sg)) (x4 : Int32) (s : Sg) : Option (Int32 × Sg) :=
  f_ck (vp_in (x4 + 1) (Int32.toNatClampNeg (mI s 0 4000))) <|
  f_ck (zl_B s) <|
  f_bd (f_Wk_isRest (mI s 0 (Int32.toNatClampNeg (x4 + 1))) s) fun r222 s223 =>
  f_ck (vp_in (x4 + 1) (Int32.toNatClampNeg (mI s223 0 4000))) <|
  f_ck (zl_B s223) <|
  f_bd (f_Mo_isRest (mI s223 0 (Int32.toNatClampNeg (x4 + 1))) s223) fun r226 s227 =>
  if r222 = r226 then
    f_La_law_b1966 R23 x4 s227
  else
    some (0, s227)
theorem w_La_law_b879 {x4 : Int32} {s : Sg} {d : Nat} {Q : Option (Option Value) → Sg → Prop} (hd : 64 ≤ d) {n : Nat} {R23 : Int32 → Sg → Option (Int32 × Sg)} (hR23 : ∀ (x4 : Int32) (s : Sg), okx (zq_I Q) (R23 x4 s) → Xw d M_La_law (10 * n) (1064 * n) 23 [.ref 0, .ref 4, .ref 46, .ref 80, .int x4, .retAddr 0, .retAddr 0, .retAddr 0] [] s Q) (h : okx (zq_I Q) (f_La_law_b879 R23 x4 s)) : Xw d M_La_law (10 * (n + 1)) (1064 * (n + 1)) 879 [.ref 0, .ref 4, .ref 46, .ref 80, .int x4, .retAddr 0, .retAddr 0, .retAddr 0] [] s Q := by
  unfold f_La_law_b879 at h
  refine xi_aload_n D_La_law_879 rfl ?_
  refine xi_aload_n D_La_law_880 rfl ?_
  refine xi_iload D_La_law_881 rfl ?_
  refine xj_iconst (v := 1) D_La_law_883 rfl ?_
  refine xi_iadd D_La_law_884 ?_
  obtain ⟨g220, h⟩ := okx_ck h
  refine xi_sld D_La_law_885 g220 ?_
  obtain ⟨g221, h⟩ := okx_ck h
  refine xj_V1 D_La_law_886 L_La_125 C_Wk_isRest Z_Wk_isRest (zl_fo (g221).1 rfl) (Nat.le_of_ble_eq_true rfl) (Nat.le_of_eq (Nat.sub_add_cancel (by omega))) (w_Wk_isRest (by omega) (okx_mono (okx_bd h) ?_))
  intro r222 s223 h
  show Xw _ _ _ _ 889 _ [_] _ _
  refine xi_aload_n D_La_law_889 rfl ?_
  refine xi_aload_n D_La_law_890 rfl ?_
  refine xi_iload D_La_law_891 rfl ?_
  refine xj_iconst (v := 1) D_La_law_893 rfl ?_
  refine xi_iadd D_La_law_894 ?_
  obtain ⟨g224, h⟩ := okx_ck h
  refine xi_sld D_La_law_895 g224 ?_
  obtain ⟨g225, h⟩ := okx_ck h
  refine xj_V1 D_La_law_896 L_La_128 C_Mo_isRest Z_Mo_isRest (zl_fo (g225).1 rfl) (Nat.le_of_ble_eq_true rfl) (Nat.le_of_eq (Nat.sub_add_cancel (by omega))) (w_Mo_isRest (by omega) (okx_mono (okx_bd h) ?_))
  intro r226 s227 h
  show Xw _ _ _ _ 899 _ [_, _] _ _
  refine xi_icmp_eq D_La_law_899 (fun c228 => ?_) (fun c228 => ?_)
  · have h := okx_T c228 h
    exact xi_less (Nat.mul_le_mul_left _ (Nat.le_succ _)) (Nat.mul_le_mul_left _ (Nat.le_succ _)) (w_La_law_b1966 (by omega) hR23 h)
  · have h := okx_F c228 h
    refine xj_iconst (v := 0) D_La_law_902 rfl ?_
    exact xi_ireturn D_La_law_903 rfl (rfl) (okx_I h)
noncomputable def f_La_law_b957 (R23 : Int32 → Sg → Option (Int32 × Sg)) (x4 : Int32) (s : Sg) : Option (Int32 × Sg) :=
  f_La_law_b1966 R23 x4 s
theorem w_La_law_b957 {x4 : Int32} {s : Sg} {d : Nat} {Q : Option (Option Value) → Sg → Prop} (hd : 64 ≤ d) {n : Nat} {R23 : Int32 → Sg → Option (Int32 × Sg)} (hR23 : ∀ (x4 : Int32) (s : Sg), okx (zq_I Q) (R23 x4 s) → Xw d M_La_law (10 * n) (1064 * n) 23 [.ref 0, .ref 4, .ref 46, .ref 80, .int x4, .retAddr 0, .retAddr 0, .retAddr 0] [] s Q) (h : okx (zq_I Q) (f_La_law_b957 R23 x4 s)) : Xw d M_La_law (10 * n) (1064 * n) 957 [.ref 0, .ref 4, .ref 46, .ref 80, .int x4, .retAddr 0, .retAddr 0, .retAddr 0] [] s Q := by
  unfold f_La_law_b957 at h
  refine xi_goto D_La_law_957 ?_
  exact w_La_law_b1966 (by omega) hR23 h
noncomputable def f_La_law_b904 (R23 : Int32 → Sg → Option (Int32 × Sg)) (x4 : Int32) (s : Sg) : Option (Int32 × Sg) :=
  f_ck (vp_in (x4 + 1) (Int32.toNatClampNeg (mI s 0 4000))) <|
  f_bd (f_La_rest (mI s 0 (Int32.toNatClampNeg (x4 + 1))) s) fun r230 s231 =>
  f_ck (vp_in (x4 + 1) (Int32.toNatClampNeg (mI s231 0 4000))) <|
  f_ck (zl_B s231) <|
  f_bd (f_Mo_rest (mI s231 0 (Int32.toNatClampNeg (x4 + 1))) s231) fun r234 s235 =>
  f_ck (zl_B s235) <|
  f_bd (f_Mo_thrown  s235) fun r237 s238 =>
  if r237 = r230 then
    if r230 = 0 then
      f_ck (zl_B s238) <|
      if (lg_cmp (mL s238 80 (Int32.toNatClampNeg (0 : Int32))) (Int32.toInt64 r234)) = 0 then
        f_La_law_b957 R23 x4 s238
      else
        some (0, s238)
    else
      f_La_law_b957 R23 x4 s238
  else
    some (0, s238)
theorem w_La_law_b904 {x4 : Int32} {s : Sg} {d : Nat} {Q : Option (Option Value) → Sg → Prop} (hd : 64 ≤ d) {n : Nat} {R23 : Int32 → Sg → Option (Int32 × Sg)} (hR23 : ∀ (x4 : Int32) (s : Sg), okx (zq_I Q) (R23 x4 s) → Xw d M_La_law (10 * n) (1064 * n) 23 [.ref 0, .ref 4, .ref 46, .ref 80, .int x4, .retAddr 0, .retAddr 0, .retAddr 0] [] s Q) (h : okx (zq_I Q) (f_La_law_b904 R23 x4 s)) : Xw d M_La_law (10 * (n + 1)) (1064 * (n + 1)) 904 [.ref 0, .ref 4, .ref 46, .ref 80, .int x4, .retAddr 0, .retAddr 0, .retAddr 0] [] s Q := by
  unfold f_La_law_b904 at h
  refine xi_aload_n D_La_law_904 rfl ?_
  refine xi_aload_n D_La_law_905 rfl ?_
  refine xi_iload D_La_law_906 rfl ?_
  refine xj_iconst (v := 1) D_La_law_908 rfl ?_
  refine xi_iadd D_La_law_909 ?_
  obtain ⟨g229, h⟩ := okx_ck h
  refine xi_sld D_La_law_910 g229 ?_
  refine xi_aload_n D_La_law_911 rfl ?_
  refine xi_SW [_, _, _] D_La_law_912 L_La_129 C_La_rest.1 C_La_rest.2.1 ⟨(Nat.le_of_ble_eq_true rfl), C_La_rest.2.2, (Nat.le_of_eq (Nat.sub_add_cancel (by omega))), zl_bue (by decide), zl_buf (by decide)⟩ (w_La_rest (by omega) (okx_mono (okx_bd h) ?_))
  intro r230 s231 h
  show Xw _ _ _ _ 915 _ [_] _ _
  refine xi_less (zl_bud (by decide)) (zl_bus (by decide)) ?_
  refine xi_istore (ls' := [_, _, _, _, _, _, _, _]) D_La_law_915 rfl (by decide) ?_
  refine xi_aload_n D_La_law_917 rfl ?_
  refine xi_aload_n D_La_law_918 rfl ?_
  refine xi_iload D_La_law_919 rfl ?_
  refine xj_iconst (v := 1) D_La_law_921 rfl ?_
  refine xi_iadd D_La_law_922 ?_
  obtain ⟨g232, h⟩ := okx_ck h
  refine xi_sld D_La_law_923 g232 ?_
  obtain ⟨g233, h⟩ := okx_ck h
  refine xj_V1 D_La_law_924 L_La_132 C_Mo_rest Z_Mo_rest (zl_fo (g233).1 rfl) (Nat.le_of_ble_eq_true rfl) (Nat.le_of_eq (Nat.sub_add_cancel (by omega))) (w_Mo_rest (by omega) (okx_mono (okx_bd h) ?_))
  intro r234 s235 h
  show Xw _ _ _ _ 927 _ [_] _ _
  refine xi_istore (ls' := [_, _, _, _, _, _, _, _]) D_La_law_927 rfl (by decide) ?_
  refine xi_aload_n D_La_law_929 rfl ?_
  obtain ⟨g236, h⟩ := okx_ck h
  refine xj_V0 D_La_law_930 L_La_84 C_Mo_thrown Z_Mo_thrown (zl_fo (g236).1 rfl) (Nat.le_of_ble_eq_true rfl) (Nat.le_of_eq (Nat.sub_add_cancel (by omega))) (w_Mo_thrown (by omega) (okx_mono (okx_bd h) ?_))
  intro r237 s238 h
  show Xw _ _ _ _ 933 _ [_] _ _
  refine xi_iload D_La_law_933 rfl ?_
  refine xi_icmp_eq D_La_law_935 (fun c239 => ?_) (fun c239 => ?_)
  · have h := okx_T c239 h
    refine xi_iload D_La_law_940 rfl ?_
    refine xi_if_ne D_La_law_942 (fun c240 => ?_) (fun c240 => ?_)
    · have h := okx_F c240 h
      exact xk_wk (w_La_law_b957 (by omega) hR23 h) ⟨Or.inl rfl, Or.inl rfl, Or.inl rfl, Or.inl rfl, Or.inl rfl, Or.inr rfl, Or.inr rfl, Or.inl rfl, trivial⟩
    · have h := okx_T c240 h
      refine xi_aload_n D_La_law_945 rfl ?_
      refine xj_iconst (v := 0) D_La_law_946 rfl ?_
      obtain ⟨g241, h⟩ := okx_ck h
      refine xj_lald D_La_law_947 (zl_fx (g241).1 rfl) (zl_ib (n := 1) rfl (zl_vin rfl)) ?_
      refine xi_iload D_La_law_948 rfl ?_
      refine xi_i2l D_La_law_950 ?_
      refine xi_lcmp D_La_law_951 ?_
      refine xi_if_eq D_La_law_952 (fun c242 => ?_) (fun c242 => ?_)
      · have h := okx_T c242 h
        exact xk_wk (w_La_law_b957 (by omega) hR23 h) ⟨Or.inl rfl, Or.inl rfl, Or.inl rfl, Or.inl rfl, Or.inl rfl, Or.inr rfl, Or.inr rfl, Or.inl rfl, trivial⟩
      · have h := okx_F c242 h
        refine xj_iconst (v := 0) D_La_law_955 rfl ?_
        exact xi_ireturn D_La_law_956 rfl (rfl) (okx_I h)
  · have h := okx_F c239 h
    refine xj_iconst (v := 0) D_La_law_938 rfl ?_
    exact xi_ireturn D_La_law_939 rfl (rfl) (okx_I h)
noncomputable def f_La_law_b960 (R23 : Int32 → Sg → Option (Int32 × Sg)) (x4 : Int32) (s : Sg) : Option (Int32 × Sg) :=
  f_ck (vp_in (x4 + 1) (Int32.toNatClampNeg (mI s 0 4000))) <|
  f_ck (zl_B s) <|
  f_bd (f_Wk_rests (mI s 0 (Int32.toNatClampNeg (x4 + 1))) s) fun r245 s246 =>
  f_ck (vp_in (x4 + 1) (Int32.toNatClampNeg (mI s246 0 4000))) <|
  f_ck (zl_B s246) <|
  f_bd (f_Mo_rests (mI s246 0 (Int32.toNatClampNeg (x4 + 1))) s246) fun r249 s250 =>
  if r245 = r249 then
    f_La_law_b1966 R23 x4 s250
  else
    some (0, s250)
theorem w_La_law_b960 {x4 : Int32} {s : Sg} {d : Nat} {Q : Option (Option Value) → Sg → Prop} (hd : 64 ≤ d) {n : Nat} {R23 : Int32 → Sg → Option (Int32 × Sg)} (hR23 : ∀ (x4 : Int32) (s : Sg), okx (zq_I Q) (R23 x4 s) → Xw d M_La_law (10 * n) (1064 * n) 23 [.ref 0, .ref 4, .ref 46, .ref 80, .int x4, .retAddr 0, .retAddr 0, .retAddr 0] [] s Q) (h : okx (zq_I Q) (f_La_law_b960 R23 x4 s)) : Xw d M_La_law (10 * (n + 1)) (1064 * (n + 1)) 960 [.ref 0, .ref 4, .ref 46, .ref 80, .int x4, .retAddr 0, .retAddr 0, .retAddr 0] [] s Q := by
  unfold f_La_law_b960 at h
  refine xi_aload_n D_La_law_960 rfl ?_
  refine xi_aload_n D_La_law_961 rfl ?_
  refine xi_iload D_La_law_962 rfl ?_
  refine xj_iconst (v := 1) D_La_law_964 rfl ?_
  refine xi_iadd D_La_law_965 ?_
  obtain ⟨g243, h⟩ := okx_ck h
  refine xi_sld D_La_law_966 g243 ?_
  obtain ⟨g244, h⟩ := okx_ck h
  refine xj_V1 D_La_law_967 L_La_133 C_Wk_rests Z_Wk_rests (zl_fo (g244).1 rfl) (Nat.le_of_ble_eq_true rfl) (Nat.le_of_eq (Nat.sub_add_cancel (by omega))) (w_Wk_rests (by omega) (okx_mono (okx_bd h) ?_))
  intro r245 s246 h
  show Xw _ _ _ _ 970 _ [_] _ _
  refine xi_aload_n D_La_law_970 rfl ?_
  refine xi_aload_n D_La_law_971 rfl ?_
  refine xi_iload D_La_law_972 rfl ?_
  refine xj_iconst (v := 1) D_La_law_974 rfl ?_
  refine xi_iadd D_La_law_975 ?_
  obtain ⟨g247, h⟩ := okx_ck h
  refine xi_sld D_La_law_976 g247 ?_
  obtain ⟨g248, h⟩ := okx_ck h
  refine xj_V1 D_La_law_977 L_La_136 C_Mo_rests Z_Mo_rests (zl_fo (g248).1 rfl) (Nat.le_of_ble_eq_true rfl) (Nat.le_of_eq (Nat.sub_add_cancel (by omega))) (w_Mo_rests (by omega) (okx_mono (okx_bd h) ?_))
  intro r249 s250 h
  show Xw _ _ _ _ 980 _ [_, _] _ _
  refine xi_icmp_eq D_La_law_980 (fun c251 => ?_) (fun c251 => ?_)
  · have h := okx_T c251 h
    exact xi_less (Nat.mul_le_mul_left _ (Nat.le_succ _)) (Nat.mul_le_mul_left _ (Nat.le_succ _)) (w_La_law_b1966 (by omega) hR23 h)
  · have h := okx_F c251 h
    refine xj_iconst (v := 0) D_La_law_983 rfl ?_
    exact xi_ireturn D_La_law_984 rfl (rfl) (okx_I h)
noncomputable def f_La_law_b1038 (R23 : Int32 → Sg → Option (Int32 × Sg)) (x4 : Int32) (s : Sg) : Option (Int32 × Sg) :=
  f_La_law_b1966 R23 x4 s
theorem w_La_law_b1038 {x4 : Int32} {s : Sg} {d : Nat} {Q : Option (Option Value) → Sg → Prop} (hd : 64 ≤ d) {n : Nat} {R23 : Int32 → Sg → Option (Int32 × Sg)} (hR23 : ∀ (x4 : Int32) (s : Sg), okx (zq_I Q) (R23 x4 s) → Xw d M_La_law (10 * n) (1064 * n) 23 [.ref 0, .ref 4, .ref 46, .ref 80, .int x4, .retAddr 0, .retAddr 0, .retAddr 0] [] s Q) (h : okx (zq_I Q) (f_La_law_b1038 R23 x4 s)) : Xw d M_La_law (10 * n) (1064 * n) 1038 [.ref 0, .ref 4, .ref 46, .ref 80, .int x4, .retAddr 0, .retAddr 0, .retAddr 0] [] s Q := by
  unfold f_La_law_b1038 at h
  refine xi_goto D_La_law_1038 ?_
  exact w_La_law_b1966 (by omega) hR23 h
noncomputable def f_La_law_b985 (R23 : Int32 → Sg → Option (Int32 × Sg)) (x4 : Int32) (s : Sg) : Option (Int32 × Sg) :=
  f_ck (vp_in (x4 + 1) (Int32.toNatClampNeg (mI s 0 4000))) <|
  f_bd (f_La_good (mI s 0 (Int32.toNatClampNeg (x4 + 1))) s) fun r253 s254 =>
  f_ck (vp_in (x4 + 1) (Int32.toNatClampNeg (mI s254 0 4000))) <|
  f_ck (zl_B s254) <|
  f_bd (f_Mo_good (mI s254 0 (Int32.toNatClampNeg (x4 + 1))) s254) fun r257 s258 =>
  f_ck (zl_B s258) <|
  f_bd (f_Mo_thrown  s258) fun r260 s261 =>
  if r260 = r253 then
    if r253 = 0 then
      f_ck (zl_B s261) <|
      if (lg_cmp (mL s261 80 (Int32.toNatClampNeg (0 : Int32))) (Int32.toInt64 r257)) = 0 then
        f_La_law_b1038 R23 x4 s261
      else
        some (0, s261)
    else
      f_La_law_b1038 R23 x4 s261
  else
    some (0, s261)
theorem w_La_law_b985 {x4 : Int32} {s : Sg} {d : Nat} {Q : Option (Option Value) → Sg → Prop} (hd : 64 ≤ d) {n : Nat} {R23 : Int32 → Sg → Option (Int32 × Sg)} (hR23 : ∀ (x4 : Int32) (s : Sg), okx (zq_I Q) (R23 x4 s) → Xw d M_La_law (10 * n) (1064 * n) 23 [.ref 0, .ref 4, .ref 46, .ref 80, .int x4, .retAddr 0, .retAddr 0, .retAddr 0] [] s Q) (h : okx (zq_I Q) (f_La_law_b985 R23 x4 s)) : Xw d M_La_law (10 * (n + 1)) (1064 * (n + 1)) 985 [.ref 0, .ref 4, .ref 46, .ref 80, .int x4, .retAddr 0, .retAddr 0, .retAddr 0] [] s Q := by
  unfold f_La_law_b985 at h
  refine xi_aload_n D_La_law_985 rfl ?_
  refine xi_aload_n D_La_law_986 rfl ?_
  refine xi_iload D_La_law_987 rfl ?_
  refine xj_iconst (v := 1) D_La_law_989 rfl ?_
  refine xi_iadd D_La_law_990 ?_
  obtain ⟨g252, h⟩ := okx_ck h
  refine xi_sld D_La_law_991 g252 ?_
  refine xi_aload_n D_La_law_992 rfl ?_
  refine xi_SW [_, _, _] D_La_law_993 L_La_137 C_La_good.1 C_La_good.2.1 ⟨(Nat.le_of_ble_eq_true rfl), C_La_good.2.2, (Nat.le_of_eq (Nat.sub_add_cancel (by omega))), zl_bue (by decide), zl_buf (by decide)⟩ (w_La_good (by omega) (okx_mono (okx_bd h) ?_))
  intro r253 s254 h
  show Xw _ _ _ _ 996 _ [_] _ _
  refine xi_less (zl_bud (by decide)) (zl_bus (by decide)) ?_
  refine xi_istore (ls' := [_, _, _, _, _, _, _, _]) D_La_law_996 rfl (by decide) ?_
  refine xi_aload_n D_La_law_998 rfl ?_
  refine xi_aload_n D_La_law_999 rfl ?_
  refine xi_iload D_La_law_1000 rfl ?_
  refine xj_iconst (v := 1) D_La_law_1002 rfl ?_
  refine xi_iadd D_La_law_1003 ?_
  obtain ⟨g255, h⟩ := okx_ck h
  refine xi_sld D_La_law_1004 g255 ?_
  obtain ⟨g256, h⟩ := okx_ck h
  refine xj_V1 D_La_law_1005 L_La_139 C_Mo_good Z_Mo_good (zl_fo (g256).1 rfl) (Nat.le_of_ble_eq_true rfl) (Nat.le_of_eq (Nat.sub_add_cancel (by omega))) (w_Mo_good (by omega) (okx_mono (okx_bd h) ?_))
  intro r257 s258 h
  show Xw _ _ _ _ 1008 _ [_] _ _
  refine xi_istore (ls' := [_, _, _, _, _, _, _, _]) D_La_law_1008 rfl (by decide) ?_
  refine xi_aload_n D_La_law_1010 rfl ?_
  obtain ⟨g259, h⟩ := okx_ck h
  refine xj_V0 D_La_law_1011 L_La_84 C_Mo_thrown Z_Mo_thrown (zl_fo (g259).1 rfl) (Nat.le_of_ble_eq_true rfl) (Nat.le_of_eq (Nat.sub_add_cancel (by omega))) (w_Mo_thrown (by omega) (okx_mono (okx_bd h) ?_))
  intro r260 s261 h
  show Xw _ _ _ _ 1014 _ [_] _ _
  refine xi_iload D_La_law_1014 rfl ?_
  refine xi_icmp_eq D_La_law_1016 (fun c262 => ?_) (fun c262 => ?_)
  · have h := okx_T c262 h
    refine xi_iload D_La_law_1021 rfl ?_
    refine xi_if_ne D_La_law_1023 (fun c263 => ?_) (fun c263 => ?_)
    · have h := okx_F c263 h
      exact xk_wk (w_La_law_b1038 (by omega) hR23 h) ⟨Or.inl rfl, Or.inl rfl, Or.inl rfl, Or.inl rfl, Or.inl rfl, Or.inr rfl, Or.inr rfl, Or.inl rfl, trivial⟩
    · have h := okx_T c263 h
      refine xi_aload_n D_La_law_1026 rfl ?_
      refine xj_iconst (v := 0) D_La_law_1027 rfl ?_
      obtain ⟨g264, h⟩ := okx_ck h
      refine xj_lald D_La_law_1028 (zl_fx (g264).1 rfl) (zl_ib (n := 1) rfl (zl_vin rfl)) ?_
      refine xi_iload D_La_law_1029 rfl ?_
      refine xi_i2l D_La_law_1031 ?_
      refine xi_lcmp D_La_law_1032 ?_
      refine xi_if_eq D_La_law_1033 (fun c265 => ?_) (fun c265 => ?_)
      · have h := okx_T c265 h
        exact xk_wk (w_La_law_b1038 (by omega) hR23 h) ⟨Or.inl rfl, Or.inl rfl, Or.inl rfl, Or.inl rfl, Or.inl rfl, Or.inr rfl, Or.inr rfl, Or.inl rfl, trivial⟩
      · have h := okx_F c265 h
        refine xj_iconst (v := 0) D_La_law_1036 rfl ?_
        exact xi_ireturn D_La_law_1037 rfl (rfl) (okx_I h)
  · have h := okx_F c262 h
    refine xj_iconst (v := 0) D_La_law_1019 rfl ?_
    exact xi_ireturn D_La_law_1020 rfl (rfl) (okx_I h)
noncomputable def f_La_law_b1094 (R23 : Int32 → Sg → Option (Int32 × Sg)) (x4 : Int32) (s : Sg) : Option (Int32 × Sg) :=
  f_La_law_b1966 R23 x4 s
theorem w_La_law_b1094 {x4 : Int32} {s : Sg} {d : Nat} {Q : Option (Option Value) → Sg → Prop} (hd : 64 ≤ d) {n : Nat} {R23 : Int32 → Sg → Option (Int32 × Sg)} (hR23 : ∀ (x4 : Int32) (s : Sg), okx (zq_I Q) (R23 x4 s) → Xw d M_La_law (10 * n) (1064 * n) 23 [.ref 0, .ref 4, .ref 46, .ref 80, .int x4, .retAddr 0, .retAddr 0, .retAddr 0] [] s Q) (h : okx (zq_I Q) (f_La_law_b1094 R23 x4 s)) : Xw d M_La_law (10 * n) (1064 * n) 1094 [.ref 0, .ref 4, .ref 46, .ref 80, .int x4, .retAddr 0, .retAddr 0, .retAddr 0] [] s Q := by
  unfold f_La_law_b1094 at h
  refine xi_goto D_La_law_1094 ?_
  exact w_La_law_b1966 (by omega) hR23 h
noncomputable def f_La_law_b1041 (R23 : Int32 → Sg → Option (Int32 × Sg)) (x4 : Int32) (s : Sg) : Option (Int32 × Sg) :=
  f_ck (vp_in (x4 + 1) (Int32.toNatClampNeg (mI s 0 4000))) <|
  f_bd (f_La_best (mI s 0 (Int32.toNatClampNeg (x4 + 1))) s) fun r267 s268 =>
  f_ck (vp_in (x4 + 1) (Int32.toNatClampNeg (mI s268 0 4000))) <|
  f_ck (zl_B s268) <|
  f_bd (f_Mo_best (mI s268 0 (Int32.toNatClampNeg (x4 + 1))) s268) fun r271 s272 =>
  f_ck (zl_B s272) <|
  f_bd (f_Mo_thrown  s272) fun r274 s275 =>
  if r274 = r267 then
    if r267 = 0 then
      f_ck (zl_B s275) <|
      if (lg_cmp (mL s275 80 (Int32.toNatClampNeg (0 : Int32))) (Int32.toInt64 r271)) = 0 then
        f_La_law_b1094 R23 x4 s275
      else
        some (0, s275)
    else
      f_La_law_b1094 R23 x4 s275
  else
    some (0, s275)
theorem w_La_law_b1041 {x4 : Int32} {s : Sg} {d : Nat} {Q : Option (Option Value) → Sg → Prop} (hd : 64 ≤ d) {n : Nat} {R23 : Int32 → Sg → Option (Int32 × Sg)} (hR23 : ∀ (x4 : Int32) (s : Sg), okx (zq_I Q) (R23 x4 s) → Xw d M_La_law (10 * n) (1064 * n) 23 [.ref 0, .ref 4, .ref 46, .ref 80, .int x4, .retAddr 0, .retAddr 0, .retAddr 0] [] s Q) (h : okx (zq_I Q) (f_La_law_b1041 R23 x4 s)) : Xw d M_La_law (10 * (n + 1)) (1064 * (n + 1)) 1041 [.ref 0, .ref 4, .ref 46, .ref 80, .int x4, .retAddr 0, .retAddr 0, .retAddr 0] [] s Q := by
  unfold f_La_law_b1041 at h
  refine xi_aload_n D_La_law_1041 rfl ?_
  refine xi_aload_n D_La_law_1042 rfl ?_
  refine xi_iload D_La_law_1043 rfl ?_
  refine xj_iconst (v := 1) D_La_law_1045 rfl ?_
  refine xi_iadd D_La_law_1046 ?_
  obtain ⟨g266, h⟩ := okx_ck h
  refine xi_sld D_La_law_1047 g266 ?_
  refine xi_aload_n D_La_law_1048 rfl ?_
  refine xi_SW [_, _, _] D_La_law_1049 L_La_140 C_La_best.1 C_La_best.2.1 ⟨(Nat.le_of_ble_eq_true rfl), C_La_best.2.2, (Nat.le_of_eq (Nat.sub_add_cancel (by omega))), zl_bue (by decide), zl_buf (by decide)⟩ (w_La_best (by omega) (okx_mono (okx_bd h) ?_))
  intro r267 s268 h
  show Xw _ _ _ _ 1052 _ [_] _ _
  refine xi_less (zl_bud (by decide)) (zl_bus (by decide)) ?_
  refine xi_istore (ls' := [_, _, _, _, _, _, _, _]) D_La_law_1052 rfl (by decide) ?_
  refine xi_aload_n D_La_law_1054 rfl ?_
  refine xi_aload_n D_La_law_1055 rfl ?_
  refine xi_iload D_La_law_1056 rfl ?_
  refine xj_iconst (v := 1) D_La_law_1058 rfl ?_
  refine xi_iadd D_La_law_1059 ?_
  obtain ⟨g269, h⟩ := okx_ck h
  refine xi_sld D_La_law_1060 g269 ?_
  obtain ⟨g270, h⟩ := okx_ck h
  refine xj_V1 D_La_law_1061 L_La_142 C_Mo_best Z_Mo_best (zl_fo (g270).1 rfl) (Nat.le_of_ble_eq_true rfl) (Nat.le_of_eq (Nat.sub_add_cancel (by omega))) (w_Mo_best (by omega) (okx_mono (okx_bd h) ?_))
  intro r271 s272 h
  show Xw _ _ _ _ 1064 _ [_] _ _
  refine xi_istore (ls' := [_, _, _, _, _, _, _, _]) D_La_law_1064 rfl (by decide) ?_
  refine xi_aload_n D_La_law_1066 rfl ?_
  obtain ⟨g273, h⟩ := okx_ck h
  refine xj_V0 D_La_law_1067 L_La_84 C_Mo_thrown Z_Mo_thrown (zl_fo (g273).1 rfl) (Nat.le_of_ble_eq_true rfl) (Nat.le_of_eq (Nat.sub_add_cancel (by omega))) (w_Mo_thrown (by omega) (okx_mono (okx_bd h) ?_))
  intro r274 s275 h
  show Xw _ _ _ _ 1070 _ [_] _ _
  refine xi_iload D_La_law_1070 rfl ?_
  refine xi_icmp_eq D_La_law_1072 (fun c276 => ?_) (fun c276 => ?_)
  · have h := okx_T c276 h
    refine xi_iload D_La_law_1077 rfl ?_
    refine xi_if_ne D_La_law_1079 (fun c277 => ?_) (fun c277 => ?_)
    · have h := okx_F c277 h
      exact xk_wk (w_La_law_b1094 (by omega) hR23 h) ⟨Or.inl rfl, Or.inl rfl, Or.inl rfl, Or.inl rfl, Or.inl rfl, Or.inr rfl, Or.inr rfl, Or.inl rfl, trivial⟩
    · have h := okx_T c277 h
      refine xi_aload_n D_La_law_1082 rfl ?_
      refine xj_iconst (v := 0) D_La_law_1083 rfl ?_
      obtain ⟨g278, h⟩ := okx_ck h
      refine xj_lald D_La_law_1084 (zl_fx (g278).1 rfl) (zl_ib (n := 1) rfl (zl_vin rfl)) ?_
      refine xi_iload D_La_law_1085 rfl ?_
      refine xi_i2l D_La_law_1087 ?_
      refine xi_lcmp D_La_law_1088 ?_
      refine xi_if_eq D_La_law_1089 (fun c279 => ?_) (fun c279 => ?_)
      · have h := okx_T c279 h
        exact xk_wk (w_La_law_b1094 (by omega) hR23 h) ⟨Or.inl rfl, Or.inl rfl, Or.inl rfl, Or.inl rfl, Or.inl rfl, Or.inr rfl, Or.inr rfl, Or.inl rfl, trivial⟩
      · have h := okx_F c279 h
        refine xj_iconst (v := 0) D_La_law_1092 rfl ?_
        exact xi_ireturn D_La_law_1093 rfl (rfl) (okx_I h)
  · have h := okx_F c276 h
    refine xj_iconst (v := 0) D_La_law_1075 rfl ?_
    exact xi_ireturn D_La_law_1076 rfl (rfl) (okx_I h)
noncomputable def f_La_law_b1097 (R23 : Int32 → Sg → Option (Int32 × Sg)) (x4 : Int32) (s : Sg) : Option (Int32 × Sg) :=
  f_ck (vp_in (x4 + 1) (Int32.toNatClampNeg (mI s 0 4000))) <|
  f_ck (zl_B s) <|
  f_bd (f_Wk_lost (mI s 0 (Int32.toNatClampNeg (x4 + 1))) s) fun r282 s283 =>
  f_ck (vp_in (x4 + 1) (Int32.toNatClampNeg (mI s283 0 4000))) <|
  f_ck (zl_B s283) <|
  f_bd (f_Mo_lost (mI s283 0 (Int32.toNatClampNeg (x4 + 1))) s283) fun r286 s287 =>
  if r282 = r286 then
    f_La_law_b1966 R23 x4 s287
  else
    some (0, s287)
theorem w_La_law_b1097 {x4 : Int32} {s : Sg} {d : Nat} {Q : Option (Option Value) → Sg → Prop} (hd : 64 ≤ d) {n : Nat} {R23 : Int32 → Sg → Option (Int32 × Sg)} (hR23 : ∀ (x4 : Int32) (s : Sg), okx (zq_I Q) (R23 x4 s) → Xw d M_La_law (10 * n) (1064 * n) 23 [.ref 0, .ref 4, .ref 46, .ref 80, .int x4, .retAddr 0, .retAddr 0, .retAddr 0] [] s Q) (h : okx (zq_I Q) (f_La_law_b1097 R23 x4 s)) : Xw d M_La_law (10 * (n + 1)) (1064 * (n + 1)) 1097 [.ref 0, .ref 4, .ref 46, .ref 80, .int x4, .retAddr 0, .retAddr 0, .retAddr 0] [] s Q := by
  unfold f_La_law_b1097 at h
  refine xi_aload_n D_La_law_1097 rfl ?_
  refine xi_aload_n D_La_law_1098 rfl ?_
  refine xi_iload D_La_law_1099 rfl ?_
  refine xj_iconst (v := 1) D_La_law_1101 rfl ?_
  refine xi_iadd D_La_law_1102 ?_
  obtain ⟨g280, h⟩ := okx_ck h
  refine xi_sld D_La_law_1103 g280 ?_
  obtain ⟨g281, h⟩ := okx_ck h
  refine xj_V1 D_La_law_1104 L_La_143 C_Wk_lost Z_Wk_lost (zl_fo (g281).1 rfl) (Nat.le_of_ble_eq_true rfl) (Nat.le_of_eq (Nat.sub_add_cancel (by omega))) (w_Wk_lost (by omega) (okx_mono (okx_bd h) ?_))
  intro r282 s283 h
  show Xw _ _ _ _ 1107 _ [_] _ _
  refine xi_aload_n D_La_law_1107 rfl ?_
  refine xi_aload_n D_La_law_1108 rfl ?_
  refine xi_iload D_La_law_1109 rfl ?_
  refine xj_iconst (v := 1) D_La_law_1111 rfl ?_
  refine xi_iadd D_La_law_1112 ?_
  obtain ⟨g284, h⟩ := okx_ck h
  refine xi_sld D_La_law_1113 g284 ?_
  obtain ⟨g285, h⟩ := okx_ck h
  refine xj_V1 D_La_law_1114 L_La_146 C_Mo_lost Z_Mo_lost (zl_fo (g285).1 rfl) (Nat.le_of_ble_eq_true rfl) (Nat.le_of_eq (Nat.sub_add_cancel (by omega))) (w_Mo_lost (by omega) (okx_mono (okx_bd h) ?_))
  intro r286 s287 h
  show Xw _ _ _ _ 1117 _ [_, _] _ _
  refine xi_icmp_eq D_La_law_1117 (fun c288 => ?_) (fun c288 => ?_)
  · have h := okx_T c288 h
    exact xi_less (Nat.mul_le_mul_left _ (Nat.le_succ _)) (Nat.mul_le_mul_left _ (Nat.le_succ _)) (w_La_law_b1966 (by omega) hR23 h)
  · have h := okx_F c288 h
    refine xj_iconst (v := 0) D_La_law_1120 rfl ?_
    exact xi_ireturn D_La_law_1121 rfl (rfl) (okx_I h)
noncomputable def f_La_law_b1175 (R23 : Int32 → Sg → Option (Int32 × Sg)) (x4 : Int32) (s : Sg) : Option (Int32 × Sg) :=
  f_La_law_b1966 R23 x4 s
theorem w_La_law_b1175 {x4 : Int32} {s : Sg} {d : Nat} {Q : Option (Option Value) → Sg → Prop} (hd : 64 ≤ d) {n : Nat} {R23 : Int32 → Sg → Option (Int32 × Sg)} (hR23 : ∀ (x4 : Int32) (s : Sg), okx (zq_I Q) (R23 x4 s) → Xw d M_La_law (10 * n) (1064 * n) 23 [.ref 0, .ref 4, .ref 46, .ref 80, .int x4, .retAddr 0, .retAddr 0, .retAddr 0] [] s Q) (h : okx (zq_I Q) (f_La_law_b1175 R23 x4 s)) : Xw d M_La_law (10 * n) (1064 * n) 1175 [.ref 0, .ref 4, .ref 46, .ref 80, .int x4, .retAddr 0, .retAddr 0, .retAddr 0] [] s Q := by
  unfold f_La_law_b1175 at h
  refine xi_goto D_La_law_1175 ?_
  exact w_La_law_b1966 (by omega) hR23 h
noncomputable def f_La_law_b1122 (R23 : Int32 → Sg → Option (Int32 × Sg)) (x4 : Int32) (s : Sg) : Option (Int32 × Sg) :=
  f_ck (vp_in (x4 + 1) (Int32.toNatClampNeg (mI s 0 4000))) <|
  f_bd (f_La_reached (mI s 0 (Int32.toNatClampNeg (x4 + 1))) s) fun r290 s291 =>
  f_ck (vp_in (x4 + 1) (Int32.toNatClampNeg (mI s291 0 4000))) <|
  f_ck (zl_B s291) <|
  f_bd (f_Mo_reached (mI s291 0 (Int32.toNatClampNeg (x4 + 1))) s291) fun r294 s295 =>
  f_ck (zl_B s295) <|
  f_bd (f_Mo_thrown  s295) fun r297 s298 =>
  if r297 = r290 then
    if r290 = 0 then
      f_ck (zl_B s298) <|
      if (lg_cmp (mL s298 80 (Int32.toNatClampNeg (0 : Int32))) (Int32.toInt64 r294)) = 0 then
        f_La_law_b1175 R23 x4 s298
      else
        some (0, s298)
    else
      f_La_law_b1175 R23 x4 s298
  else
    some (0, s298)
theorem w_La_law_b1122 {x4 : Int32} {s : Sg} {d : Nat} {Q : Option (Option Value) → Sg → Prop} (hd : 64 ≤ d) {n : Nat} {R23 : Int32 → Sg → Option (Int32 × Sg)} (hR23 : ∀ (x4 : Int32) (s : Sg), okx (zq_I Q) (R23 x4 s) → Xw d M_La_law (10 * n) (1064 * n) 23 [.ref 0, .ref 4, .ref 46, .ref 80, .int x4, .retAddr 0, .retAddr 0, .retAddr 0] [] s Q) (h : okx (zq_I Q) (f_La_law_b1122 R23 x4 s)) : Xw d M_La_law (10 * (n + 1)) (1064 * (n + 1)) 1122 [.ref 0, .ref 4, .ref 46, .ref 80, .int x4, .retAddr 0, .retAddr 0, .retAddr 0] [] s Q := by
  unfold f_La_law_b1122 at h
  refine xi_aload_n D_La_law_1122 rfl ?_
  refine xi_aload_n D_La_law_1123 rfl ?_
  refine xi_iload D_La_law_1124 rfl ?_
  refine xj_iconst (v := 1) D_La_law_1126 rfl ?_
  refine xi_iadd D_La_law_1127 ?_
  obtain ⟨g289, h⟩ := okx_ck h
  refine xi_sld D_La_law_1128 g289 ?_
  refine xi_aload_n D_La_law_1129 rfl ?_
  refine xi_SW [_, _, _] D_La_law_1130 L_La_147 C_La_reached.1 C_La_reached.2.1 ⟨(Nat.le_of_ble_eq_true rfl), C_La_reached.2.2, (Nat.le_of_eq (Nat.sub_add_cancel (by omega))), zl_bue (by decide), zl_buf (by decide)⟩ (w_La_reached (by omega) (okx_mono (okx_bd h) ?_))
  intro r290 s291 h
  show Xw _ _ _ _ 1133 _ [_] _ _
  refine xi_less (zl_bud (by decide)) (zl_bus (by decide)) ?_
  refine xi_istore (ls' := [_, _, _, _, _, _, _, _]) D_La_law_1133 rfl (by decide) ?_
  refine xi_aload_n D_La_law_1135 rfl ?_
  refine xi_aload_n D_La_law_1136 rfl ?_
  refine xi_iload D_La_law_1137 rfl ?_
  refine xj_iconst (v := 1) D_La_law_1139 rfl ?_
  refine xi_iadd D_La_law_1140 ?_
  obtain ⟨g292, h⟩ := okx_ck h
  refine xi_sld D_La_law_1141 g292 ?_
  obtain ⟨g293, h⟩ := okx_ck h
  refine xj_V1 D_La_law_1142 L_La_149 C_Mo_reached Z_Mo_reached (zl_fo (g293).1 rfl) (Nat.le_of_ble_eq_true rfl) (Nat.le_of_eq (Nat.sub_add_cancel (by omega))) (w_Mo_reached (by omega) (okx_mono (okx_bd h) ?_))
  intro r294 s295 h
  show Xw _ _ _ _ 1145 _ [_] _ _
  refine xi_istore (ls' := [_, _, _, _, _, _, _, _]) D_La_law_1145 rfl (by decide) ?_
  refine xi_aload_n D_La_law_1147 rfl ?_
  obtain ⟨g296, h⟩ := okx_ck h
  refine xj_V0 D_La_law_1148 L_La_84 C_Mo_thrown Z_Mo_thrown (zl_fo (g296).1 rfl) (Nat.le_of_ble_eq_true rfl) (Nat.le_of_eq (Nat.sub_add_cancel (by omega))) (w_Mo_thrown (by omega) (okx_mono (okx_bd h) ?_))
  intro r297 s298 h
  show Xw _ _ _ _ 1151 _ [_] _ _
  refine xi_iload D_La_law_1151 rfl ?_
  refine xi_icmp_eq D_La_law_1153 (fun c299 => ?_) (fun c299 => ?_)
  · have h := okx_T c299 h
    refine xi_iload D_La_law_1158 rfl ?_
    refine xi_if_ne D_La_law_1160 (fun c300 => ?_) (fun c300 => ?_)
    · have h := okx_F c300 h
      exact xk_wk (w_La_law_b1175 (by omega) hR23 h) ⟨Or.inl rfl, Or.inl rfl, Or.inl rfl, Or.inl rfl, Or.inl rfl, Or.inr rfl, Or.inr rfl, Or.inl rfl, trivial⟩
    · have h := okx_T c300 h
      refine xi_aload_n D_La_law_1163 rfl ?_
      refine xj_iconst (v := 0) D_La_law_1164 rfl ?_
      obtain ⟨g301, h⟩ := okx_ck h
      refine xj_lald D_La_law_1165 (zl_fx (g301).1 rfl) (zl_ib (n := 1) rfl (zl_vin rfl)) ?_
      refine xi_iload D_La_law_1166 rfl ?_
      refine xi_i2l D_La_law_1168 ?_
      refine xi_lcmp D_La_law_1169 ?_
      refine xi_if_eq D_La_law_1170 (fun c302 => ?_) (fun c302 => ?_)
      · have h := okx_T c302 h
        exact xk_wk (w_La_law_b1175 (by omega) hR23 h) ⟨Or.inl rfl, Or.inl rfl, Or.inl rfl, Or.inl rfl, Or.inl rfl, Or.inr rfl, Or.inr rfl, Or.inl rfl, trivial⟩
      · have h := okx_F c302 h
        refine xj_iconst (v := 0) D_La_law_1173 rfl ?_
        exact xi_ireturn D_La_law_1174 rfl (rfl) (okx_I h)
  · have h := okx_F c299 h
    refine xj_iconst (v := 0) D_La_law_1156 rfl ?_
    exact xi_ireturn D_La_law_1157 rfl (rfl) (okx_I h)
noncomputable def f_La_law_b1178 (R23 : Int32 → Sg → Option (Int32 × Sg)) (x4 : Int32) (s : Sg) : Option (Int32 × Sg) :=
  f_ck (vp_in (x4 + 1) (Int32.toNatClampNeg (mI s 0 4000))) <|
  f_ck (zl_B s) <|
  f_bd (f_Wk_first (mI s 0 (Int32.toNatClampNeg (x4 + 1))) s) fun r305 s306 =>
  f_ck (vp_in (x4 + 1) (Int32.toNatClampNeg (mI s306 0 4000))) <|
  f_ck (zl_B s306) <|
  f_bd (f_Mo_first (mI s306 0 (Int32.toNatClampNeg (x4 + 1))) s306) fun r309 s310 =>
  if r305 = r309 then
    f_La_law_b1966 R23 x4 s310
  else
    some (0, s310)
theorem w_La_law_b1178 {x4 : Int32} {s : Sg} {d : Nat} {Q : Option (Option Value) → Sg → Prop} (hd : 64 ≤ d) {n : Nat} {R23 : Int32 → Sg → Option (Int32 × Sg)} (hR23 : ∀ (x4 : Int32) (s : Sg), okx (zq_I Q) (R23 x4 s) → Xw d M_La_law (10 * n) (1064 * n) 23 [.ref 0, .ref 4, .ref 46, .ref 80, .int x4, .retAddr 0, .retAddr 0, .retAddr 0] [] s Q) (h : okx (zq_I Q) (f_La_law_b1178 R23 x4 s)) : Xw d M_La_law (10 * (n + 1)) (1064 * (n + 1)) 1178 [.ref 0, .ref 4, .ref 46, .ref 80, .int x4, .retAddr 0, .retAddr 0, .retAddr 0] [] s Q := by
  unfold f_La_law_b1178 at h
  refine xi_aload_n D_La_law_1178 rfl ?_
  refine xi_aload_n D_La_law_1179 rfl ?_
  refine xi_iload D_La_law_1180 rfl ?_
  refine xj_iconst (v := 1) D_La_law_1182 rfl ?_
  refine xi_iadd D_La_law_1183 ?_
  obtain ⟨g303, h⟩ := okx_ck h
  refine xi_sld D_La_law_1184 g303 ?_
  obtain ⟨g304, h⟩ := okx_ck h
  refine xj_V1 D_La_law_1185 L_La_150 C_Wk_first Z_Wk_first (zl_fo (g304).1 rfl) (Nat.le_of_ble_eq_true rfl) (Nat.le_of_eq (Nat.sub_add_cancel (by omega))) (w_Wk_first (by omega) (okx_mono (okx_bd h) ?_))
  intro r305 s306 h
  show Xw _ _ _ _ 1188 _ [_] _ _
  refine xi_aload_n D_La_law_1188 rfl ?_
  refine xi_aload_n D_La_law_1189 rfl ?_
  refine xi_iload D_La_law_1190 rfl ?_
  refine xj_iconst (v := 1) D_La_law_1192 rfl ?_
  refine xi_iadd D_La_law_1193 ?_
  obtain ⟨g307, h⟩ := okx_ck h
  refine xi_sld D_La_law_1194 g307 ?_
  obtain ⟨g308, h⟩ := okx_ck h
  refine xj_V1 D_La_law_1195 L_La_153 C_Mo_first Z_Mo_first (zl_fo (g308).1 rfl) (Nat.le_of_ble_eq_true rfl) (Nat.le_of_eq (Nat.sub_add_cancel (by omega))) (w_Mo_first (by omega) (okx_mono (okx_bd h) ?_))
  intro r309 s310 h
  show Xw _ _ _ _ 1198 _ [_, _] _ _
  refine xi_icmp_eq D_La_law_1198 (fun c311 => ?_) (fun c311 => ?_)
  · have h := okx_T c311 h
    exact xi_less (Nat.mul_le_mul_left _ (Nat.le_succ _)) (Nat.mul_le_mul_left _ (Nat.le_succ _)) (w_La_law_b1966 (by omega) hR23 h)
  · have h := okx_F c311 h
    refine xj_iconst (v := 0) D_La_law_1201 rfl ?_
    exact xi_ireturn D_La_law_1202 rfl (rfl) (okx_I h)
noncomputable def f_La_law_b1203 (R23 : Int32 → Sg → Option (Int32 × Sg)) (x4 : Int32) (s : Sg) : Option (Int32 × Sg) :=
  f_ck (zl_B s) <|
  f_bd (f_Wk_gap  s) fun r313 s314 =>
  f_ck (zl_B s314) <|
  f_bd (f_Mo_gap  s314) fun r316 s317 =>
  if r313 = r316 then
    f_La_law_b1966 R23 x4 s317
  else
    some (0, s317)
theorem w_La_law_b1203 {x4 : Int32} {s : Sg} {d : Nat} {Q : Option (Option Value) → Sg → Prop} (hd : 64 ≤ d) {n : Nat} {R23 : Int32 → Sg → Option (Int32 × Sg)} (hR23 : ∀ (x4 : Int32) (s : Sg), okx (zq_I Q) (R23 x4 s) → Xw d M_La_law (10 * n) (1064 * n) 23 [.ref 0, .ref 4, .ref 46, .ref 80, .int x4, .retAddr 0, .retAddr 0, .retAddr 0] [] s Q) (h : okx (zq_I Q) (f_La_law_b1203 R23 x4 s)) : Xw d M_La_law (10 * (n + 1)) (1064 * (n + 1)) 1203 [.ref 0, .ref 4, .ref 46, .ref 80, .int x4, .retAddr 0, .retAddr 0, .retAddr 0] [] s Q := by
  unfold f_La_law_b1203 at h
  refine xi_aload_n D_La_law_1203 rfl ?_
  obtain ⟨g312, h⟩ := okx_ck h
  refine xj_V0 D_La_law_1204 L_La_154 C_Wk_gap Z_Wk_gap (zl_fo (g312).1 rfl) (Nat.le_of_ble_eq_true rfl) (Nat.le_of_eq (Nat.sub_add_cancel (by omega))) (w_Wk_gap (by omega) (okx_mono (okx_bd h) ?_))
  intro r313 s314 h
  show Xw _ _ _ _ 1207 _ [_] _ _
  refine xi_aload_n D_La_law_1207 rfl ?_
  obtain ⟨g315, h⟩ := okx_ck h
  refine xj_V0 D_La_law_1208 L_La_157 C_Mo_gap Z_Mo_gap (zl_fo (g315).1 rfl) (Nat.le_of_ble_eq_true rfl) (Nat.le_of_eq (Nat.sub_add_cancel (by omega))) (w_Mo_gap (by omega) (okx_mono (okx_bd h) ?_))
  intro r316 s317 h
  show Xw _ _ _ _ 1211 _ [_, _] _ _
  refine xi_icmp_eq D_La_law_1211 (fun c318 => ?_) (fun c318 => ?_)
  · have h := okx_T c318 h
    exact xi_less (Nat.mul_le_mul_left _ (Nat.le_succ _)) (Nat.mul_le_mul_left _ (Nat.le_succ _)) (w_La_law_b1966 (by omega) hR23 h)
  · have h := okx_F c318 h
    refine xj_iconst (v := 0) D_La_law_1214 rfl ?_
    exact xi_ireturn D_La_law_1215 rfl (rfl) (okx_I h)
noncomputable def f_La_law_b1216 (R23 : Int32 → Sg → Option (Int32 × Sg)) (x4 : Int32) (s : Sg) : Option (Int32 × Sg) :=
  f_ck (vp_in (x4 + 1) (Int32.toNatClampNeg (mI s 0 4000))) <|
  f_ck (zl_B s) <|
  f_bd (f_Wk_joint (mI s 0 (Int32.toNatClampNeg (x4 + 1))) s) fun r321 s322 =>
  f_ck (vp_in (x4 + 1) (Int32.toNatClampNeg (mI s322 0 4000))) <|
  f_ck (zl_B s322) <|
  f_bd (f_Mo_joint (mI s322 0 (Int32.toNatClampNeg (x4 + 1))) s322) fun r325 s326 =>
  if r321 = r325 then
    f_La_law_b1966 R23 x4 s326
  else
    some (0, s326)
theorem w_La_law_b1216 {x4 : Int32} {s : Sg} {d : Nat} {Q : Option (Option Value) → Sg → Prop} (hd : 64 ≤ d) {n : Nat} {R23 : Int32 → Sg → Option (Int32 × Sg)} (hR23 : ∀ (x4 : Int32) (s : Sg), okx (zq_I Q) (R23 x4 s) → Xw d M_La_law (10 * n) (1064 * n) 23 [.ref 0, .ref 4, .ref 46, .ref 80, .int x4, .retAddr 0, .retAddr 0, .retAddr 0] [] s Q) (h : okx (zq_I Q) (f_La_law_b1216 R23 x4 s)) : Xw d M_La_law (10 * (n + 1)) (1064 * (n + 1)) 1216 [.ref 0, .ref 4, .ref 46, .ref 80, .int x4, .retAddr 0, .retAddr 0, .retAddr 0] [] s Q := by
  unfold f_La_law_b1216 at h
  refine xi_aload_n D_La_law_1216 rfl ?_
  refine xi_aload_n D_La_law_1217 rfl ?_
  refine xi_iload D_La_law_1218 rfl ?_
  refine xj_iconst (v := 1) D_La_law_1220 rfl ?_
  refine xi_iadd D_La_law_1221 ?_
  obtain ⟨g319, h⟩ := okx_ck h
  refine xi_sld D_La_law_1222 g319 ?_
  obtain ⟨g320, h⟩ := okx_ck h
  refine xj_V1 D_La_law_1223 L_La_158 C_Wk_joint Z_Wk_joint (zl_fo (g320).1 rfl) (Nat.le_of_ble_eq_true rfl) (Nat.le_of_eq (Nat.sub_add_cancel (by omega))) (w_Wk_joint (by omega) (okx_mono (okx_bd h) ?_))
  intro r321 s322 h
  show Xw _ _ _ _ 1226 _ [_] _ _
  refine xi_aload_n D_La_law_1226 rfl ?_
  refine xi_aload_n D_La_law_1227 rfl ?_
  refine xi_iload D_La_law_1228 rfl ?_
  refine xj_iconst (v := 1) D_La_law_1230 rfl ?_
  refine xi_iadd D_La_law_1231 ?_
  obtain ⟨g323, h⟩ := okx_ck h
  refine xi_sld D_La_law_1232 g323 ?_
  obtain ⟨g324, h⟩ := okx_ck h
  refine xj_V1 D_La_law_1233 L_La_161 C_Mo_joint Z_Mo_joint (zl_fo (g324).1 rfl) (Nat.le_of_ble_eq_true rfl) (Nat.le_of_eq (Nat.sub_add_cancel (by omega))) (w_Mo_joint (by omega) (okx_mono (okx_bd h) ?_))
  intro r325 s326 h
  show Xw _ _ _ _ 1236 _ [_, _] _ _
  refine xi_icmp_eq D_La_law_1236 (fun c327 => ?_) (fun c327 => ?_)
  · have h := okx_T c327 h
    exact xi_less (Nat.mul_le_mul_left _ (Nat.le_succ _)) (Nat.mul_le_mul_left _ (Nat.le_succ _)) (w_La_law_b1966 (by omega) hR23 h)
  · have h := okx_F c327 h
    refine xj_iconst (v := 0) D_La_law_1239 rfl ?_
    exact xi_ireturn D_La_law_1240 rfl (rfl) (okx_I h)
noncomputable def f_La_law_b1241 (R23 : Int32 → Sg → Option (Int32 × Sg)) (x4 : Int32) (s : Sg) : Option (Int32 × Sg) :=
  f_ck (vp_in (x4 + 1) (Int32.toNatClampNeg (mI s 0 4000))) <|
  f_ck (vp_in (x4 + 2) (Int32.toNatClampNeg (mI s 0 4000))) <|
  f_ck (zl_B s) <|
  f_bd (f_Wk_apart (mI s 0 (Int32.toNatClampNeg (x4 + 1))) (mI s 0 (Int32.toNatClampNeg (x4 + 2))) s) fun r331 s332 =>
  f_ck (vp_in (x4 + 1) (Int32.toNatClampNeg (mI s332 0 4000))) <|
  f_ck (vp_in (x4 + 2) (Int32.toNatClampNeg (mI s332 0 4000))) <|
  f_ck (zl_B s332) <|
  f_bd (f_Mo_apart (mI s332 0 (Int32.toNatClampNeg (x4 + 1))) (mI s332 0 (Int32.toNatClampNeg (x4 + 2))) s332) fun r336 s337 =>
  if r331 = r336 then
    f_La_law_b1966 R23 x4 s337
  else
    some (0, s337)
theorem w_La_law_b1241 {x4 : Int32} {s : Sg} {d : Nat} {Q : Option (Option Value) → Sg → Prop} (hd : 64 ≤ d) {n : Nat} {R23 : Int32 → Sg → Option (Int32 × Sg)} (hR23 : ∀ (x4 : Int32) (s : Sg), okx (zq_I Q) (R23 x4 s) → Xw d M_La_law (10 * n) (1064 * n) 23 [.ref 0, .ref 4, .ref 46, .ref 80, .int x4, .retAddr 0, .retAddr 0, .retAddr 0] [] s Q) (h : okx (zq_I Q) (f_La_law_b1241 R23 x4 s)) : Xw d M_La_law (10 * (n + 1)) (1064 * (n + 1)) 1241 [.ref 0, .ref 4, .ref 46, .ref 80, .int x4, .retAddr 0, .retAddr 0, .retAddr 0] [] s Q := by
  unfold f_La_law_b1241 at h
  refine xi_aload_n D_La_law_1241 rfl ?_
  refine xi_aload_n D_La_law_1242 rfl ?_
  refine xi_iload D_La_law_1243 rfl ?_
  refine xj_iconst (v := 1) D_La_law_1245 rfl ?_
  refine xi_iadd D_La_law_1246 ?_
  obtain ⟨g328, h⟩ := okx_ck h
  refine xi_sld D_La_law_1247 g328 ?_
  refine xi_aload_n D_La_law_1248 rfl ?_
  refine xi_iload D_La_law_1249 rfl ?_
  refine xj_iconst (v := 2) D_La_law_1251 rfl ?_
  refine xi_iadd D_La_law_1252 ?_
  obtain ⟨g329, h⟩ := okx_ck h
  refine xi_sld D_La_law_1253 g329 ?_
  obtain ⟨g330, h⟩ := okx_ck h
  refine xj_V2 D_La_law_1254 L_La_162 C_Wk_apart Z_Wk_apart (zl_fo (g330).1 rfl) (Nat.le_of_ble_eq_true rfl) (Nat.le_of_eq (Nat.sub_add_cancel (by omega))) (w_Wk_apart (by omega) (okx_mono (okx_bd h) ?_))
  intro r331 s332 h
  show Xw _ _ _ _ 1257 _ [_] _ _
  refine xi_aload_n D_La_law_1257 rfl ?_
  refine xi_aload_n D_La_law_1258 rfl ?_
  refine xi_iload D_La_law_1259 rfl ?_
  refine xj_iconst (v := 1) D_La_law_1261 rfl ?_
  refine xi_iadd D_La_law_1262 ?_
  obtain ⟨g333, h⟩ := okx_ck h
  refine xi_sld D_La_law_1263 g333 ?_
  refine xi_aload_n D_La_law_1264 rfl ?_
  refine xi_iload D_La_law_1265 rfl ?_
  refine xj_iconst (v := 2) D_La_law_1267 rfl ?_
  refine xi_iadd D_La_law_1268 ?_
  obtain ⟨g334, h⟩ := okx_ck h
  refine xi_sld D_La_law_1269 g334 ?_
  obtain ⟨g335, h⟩ := okx_ck h
  refine xj_V2 D_La_law_1270 L_La_165 C_Mo_apart Z_Mo_apart (zl_fo (g335).1 rfl) (Nat.le_of_ble_eq_true rfl) (Nat.le_of_eq (Nat.sub_add_cancel (by omega))) (w_Mo_apart (by omega) (okx_mono (okx_bd h) ?_))
  intro r336 s337 h
  show Xw _ _ _ _ 1273 _ [_, _] _ _
  refine xi_icmp_eq D_La_law_1273 (fun c338 => ?_) (fun c338 => ?_)
  · have h := okx_T c338 h
    exact xi_less (Nat.mul_le_mul_left _ (Nat.le_succ _)) (Nat.mul_le_mul_left _ (Nat.le_succ _)) (w_La_law_b1966 (by omega) hR23 h)
  · have h := okx_F c338 h
    refine xj_iconst (v := 0) D_La_law_1276 rfl ?_
    exact xi_ireturn D_La_law_1277 rfl (rfl) (okx_I h)
noncomputable def f_La_law_b1343 (R23 : Int32 → Sg → Option (Int32 × Sg)) (x4 : Int32) (s : Sg) : Option (Int32 × Sg) :=
  f_La_law_b1966 R23 x4 s
theorem w_La_law_b1343 {x4 : Int32} {s : Sg} {d : Nat} {Q : Option (Option Value) → Sg → Prop} (hd : 64 ≤ d) {n : Nat} {R23 : Int32 → Sg → Option (Int32 × Sg)} (hR23 : ∀ (x4 : Int32) (s : Sg), okx (zq_I Q) (R23 x4 s) → Xw d M_La_law (10 * n) (1064 * n) 23 [.ref 0, .ref 4, .ref 46, .ref 80, .int x4, .retAddr 0, .retAddr 0, .retAddr 0] [] s Q) (h : okx (zq_I Q) (f_La_law_b1343 R23 x4 s)) : Xw d M_La_law (10 * n) (1064 * n) 1343 [.ref 0, .ref 4, .ref 46, .ref 80, .int x4, .retAddr 0, .retAddr 0, .retAddr 0] [] s Q := by
  unfold f_La_law_b1343 at h
  refine xi_goto D_La_law_1343 ?_
  exact w_La_law_b1966 (by omega) hR23 h
noncomputable def f_La_law_b1278 (R23 : Int32 → Sg → Option (Int32 × Sg)) (x4 : Int32) (s : Sg) : Option (Int32 × Sg) :=
  f_ck (vp_in (x4 + 1) (Int32.toNatClampNeg (mI s 0 4000))) <|
  f_ck (vp_in (x4 + 2) (Int32.toNatClampNeg (mI s 0 4000))) <|
  f_bd (f_La_oneHand (mI s 0 (Int32.toNatClampNeg (x4 + 1))) (mI s 0 (Int32.toNatClampNeg (x4 + 2))) s) fun r341 s342 =>
  f_ck (vp_in (x4 + 1) (Int32.toNatClampNeg (mI s342 0 4000))) <|
  f_ck (vp_in (x4 + 2) (Int32.toNatClampNeg (mI s342 0 4000))) <|
  f_ck (zl_B s342) <|
  f_bd (f_Mo_oneHand (mI s342 0 (Int32.toNatClampNeg (x4 + 1))) (mI s342 0 (Int32.toNatClampNeg (x4 + 2))) s342) fun r346 s347 =>
  f_ck (zl_B s347) <|
  f_bd (f_Mo_thrown  s347) fun r349 s350 =>
  if r349 = r341 then
    if r341 = 0 then
      f_ck (zl_B s350) <|
      if (lg_cmp (mL s350 80 (Int32.toNatClampNeg (0 : Int32))) (Int32.toInt64 r346)) = 0 then
        f_La_law_b1343 R23 x4 s350
      else
        some (0, s350)
    else
      f_La_law_b1343 R23 x4 s350
  else
    some (0, s350)
theorem w_La_law_b1278 {x4 : Int32} {s : Sg} {d : Nat} {Q : Option (Option Value) → Sg → Prop} (hd : 64 ≤ d) {n : Nat} {R23 : Int32 → Sg → Option (Int32 × Sg)} (hR23 : ∀ (x4 : Int32) (s : Sg), okx (zq_I Q) (R23 x4 s) → Xw d M_La_law (10 * n) (1064 * n) 23 [.ref 0, .ref 4, .ref 46, .ref 80, .int x4, .retAddr 0, .retAddr 0, .retAddr 0] [] s Q) (h : okx (zq_I Q) (f_La_law_b1278 R23 x4 s)) : Xw d M_La_law (10 * (n + 1)) (1064 * (n + 1)) 1278 [.ref 0, .ref 4, .ref 46, .ref 80, .int x4, .retAddr 0, .retAddr 0, .retAddr 0] [] s Q := by
  unfold f_La_law_b1278 at h
  refine xi_aload_n D_La_law_1278 rfl ?_
  refine xi_aload_n D_La_law_1279 rfl ?_
  refine xi_iload D_La_law_1280 rfl ?_
  refine xj_iconst (v := 1) D_La_law_1282 rfl ?_
  refine xi_iadd D_La_law_1283 ?_
  obtain ⟨g339, h⟩ := okx_ck h
  refine xi_sld D_La_law_1284 g339 ?_
  refine xi_aload_n D_La_law_1285 rfl ?_
  refine xi_iload D_La_law_1286 rfl ?_
  refine xj_iconst (v := 2) D_La_law_1288 rfl ?_
  refine xi_iadd D_La_law_1289 ?_
  obtain ⟨g340, h⟩ := okx_ck h
  refine xi_sld D_La_law_1290 g340 ?_
  refine xi_aload_n D_La_law_1291 rfl ?_
  refine xi_SW [_, _, _, _] D_La_law_1292 L_La_166 C_La_oneHand.1 C_La_oneHand.2.1 ⟨(Nat.le_of_ble_eq_true rfl), C_La_oneHand.2.2, (Nat.le_of_eq (Nat.sub_add_cancel (by omega))), zl_bue (by decide), zl_buf (by decide)⟩ (w_La_oneHand (by omega) (okx_mono (okx_bd h) ?_))
  intro r341 s342 h
  show Xw _ _ _ _ 1295 _ [_] _ _
  refine xi_less (zl_bud (by decide)) (zl_bus (by decide)) ?_
  refine xi_istore (ls' := [_, _, _, _, _, _, _, _]) D_La_law_1295 rfl (by decide) ?_
  refine xi_aload_n D_La_law_1297 rfl ?_
  refine xi_aload_n D_La_law_1298 rfl ?_
  refine xi_iload D_La_law_1299 rfl ?_
  refine xj_iconst (v := 1) D_La_law_1301 rfl ?_
  refine xi_iadd D_La_law_1302 ?_
  obtain ⟨g343, h⟩ := okx_ck h
  refine xi_sld D_La_law_1303 g343 ?_
  refine xi_aload_n D_La_law_1304 rfl ?_
  refine xi_iload D_La_law_1305 rfl ?_
  refine xj_iconst (v := 2) D_La_law_1307 rfl ?_
  refine xi_iadd D_La_law_1308 ?_
  obtain ⟨g344, h⟩ := okx_ck h
  refine xi_sld D_La_law_1309 g344 ?_
  obtain ⟨g345, h⟩ := okx_ck h
  refine xj_V2 D_La_law_1310 L_La_168 C_Mo_oneHand Z_Mo_oneHand (zl_fo (g345).1 rfl) (Nat.le_of_ble_eq_true rfl) (Nat.le_of_eq (Nat.sub_add_cancel (by omega))) (w_Mo_oneHand (by omega) (okx_mono (okx_bd h) ?_))
  intro r346 s347 h
  show Xw _ _ _ _ 1313 _ [_] _ _
  refine xi_istore (ls' := [_, _, _, _, _, _, _, _]) D_La_law_1313 rfl (by decide) ?_
  refine xi_aload_n D_La_law_1315 rfl ?_
  obtain ⟨g348, h⟩ := okx_ck h
  refine xj_V0 D_La_law_1316 L_La_84 C_Mo_thrown Z_Mo_thrown (zl_fo (g348).1 rfl) (Nat.le_of_ble_eq_true rfl) (Nat.le_of_eq (Nat.sub_add_cancel (by omega))) (w_Mo_thrown (by omega) (okx_mono (okx_bd h) ?_))
  intro r349 s350 h
  show Xw _ _ _ _ 1319 _ [_] _ _
  refine xi_iload D_La_law_1319 rfl ?_
  refine xi_icmp_eq D_La_law_1321 (fun c351 => ?_) (fun c351 => ?_)
  · have h := okx_T c351 h
    refine xi_iload D_La_law_1326 rfl ?_
    refine xi_if_ne D_La_law_1328 (fun c352 => ?_) (fun c352 => ?_)
    · have h := okx_F c352 h
      exact xk_wk (w_La_law_b1343 (by omega) hR23 h) ⟨Or.inl rfl, Or.inl rfl, Or.inl rfl, Or.inl rfl, Or.inl rfl, Or.inr rfl, Or.inr rfl, Or.inl rfl, trivial⟩
    · have h := okx_T c352 h
      refine xi_aload_n D_La_law_1331 rfl ?_
      refine xj_iconst (v := 0) D_La_law_1332 rfl ?_
      obtain ⟨g353, h⟩ := okx_ck h
      refine xj_lald D_La_law_1333 (zl_fx (g353).1 rfl) (zl_ib (n := 1) rfl (zl_vin rfl)) ?_
      refine xi_iload D_La_law_1334 rfl ?_
      refine xi_i2l D_La_law_1336 ?_
      refine xi_lcmp D_La_law_1337 ?_
      refine xi_if_eq D_La_law_1338 (fun c354 => ?_) (fun c354 => ?_)
      · have h := okx_T c354 h
        exact xk_wk (w_La_law_b1343 (by omega) hR23 h) ⟨Or.inl rfl, Or.inl rfl, Or.inl rfl, Or.inl rfl, Or.inl rfl, Or.inr rfl, Or.inr rfl, Or.inl rfl, trivial⟩
      · have h := okx_F c354 h
        refine xj_iconst (v := 0) D_La_law_1341 rfl ?_
        exact xi_ireturn D_La_law_1342 rfl (rfl) (okx_I h)
  · have h := okx_F c351 h
    refine xj_iconst (v := 0) D_La_law_1324 rfl ?_
    exact xi_ireturn D_La_law_1325 rfl (rfl) (okx_I h)
noncomputable def f_La_law_b1411 (R23 : Int32 → Sg → Option (Int32 × Sg)) (x4 : Int32) (s : Sg) : Option (Int32 × Sg) :=
  f_La_law_b1966 R23 x4 s
theorem w_La_law_b1411 {x4 : Int32} {s : Sg} {d : Nat} {Q : Option (Option Value) → Sg → Prop} (hd : 64 ≤ d) {n : Nat} {R23 : Int32 → Sg → Option (Int32 × Sg)} (hR23 : ∀ (x4 : Int32) (s : Sg), okx (zq_I Q) (R23 x4 s) → Xw d M_La_law (10 * n) (1064 * n) 23 [.ref 0, .ref 4, .ref 46, .ref 80, .int x4, .retAddr 0, .retAddr 0, .retAddr 0] [] s Q) (h : okx (zq_I Q) (f_La_law_b1411 R23 x4 s)) : Xw d M_La_law (10 * n) (1064 * n) 1411 [.ref 0, .ref 4, .ref 46, .ref 80, .int x4, .retAddr 0, .retAddr 0, .retAddr 0] [] s Q := by
  unfold f_La_law_b1411 at h
  refine xi_goto D_La_law_1411 ?_
  exact w_La_law_b1966 (by omega) hR23 h
noncomputable def f_La_law_b1346 (R23 : Int32 → Sg → Option (Int32 × Sg)) (x4 : Int32) (s : Sg) : Option (Int32 × Sg) :=
  f_ck (vp_in (x4 + 1) (Int32.toNatClampNeg (mI s 0 4000))) <|
  f_ck (vp_in (x4 + 2) (Int32.toNatClampNeg (mI s 0 4000))) <|
  f_bd (f_La_written (mI s 0 (Int32.toNatClampNeg (x4 + 1))) (mI s 0 (Int32.toNatClampNeg (x4 + 2))) s) fun r357 s358 =>
  f_ck (vp_in (x4 + 1) (Int32.toNatClampNeg (mI s358 0 4000))) <|
  f_ck (vp_in (x4 + 2) (Int32.toNatClampNeg (mI s358 0 4000))) <|
  f_ck (zl_B s358) <|
  f_bd (f_Mo_written (mI s358 0 (Int32.toNatClampNeg (x4 + 1))) (mI s358 0 (Int32.toNatClampNeg (x4 + 2))) s358) fun r362 s363 =>
  f_ck (zl_B s363) <|
  f_bd (f_Mo_thrown  s363) fun r365 s366 =>
  if r365 = r357 then
    if r357 = 0 then
      f_ck (zl_B s366) <|
      if (lg_cmp (mL s366 80 (Int32.toNatClampNeg (0 : Int32))) (Int32.toInt64 r362)) = 0 then
        f_La_law_b1411 R23 x4 s366
      else
        some (0, s366)
    else
      f_La_law_b1411 R23 x4 s366
  else
    some (0, s366)
theorem w_La_law_b1346 {x4 : Int32} {s : Sg} {d : Nat} {Q : Option (Option Value) → Sg → Prop} (hd : 64 ≤ d) {n : Nat} {R23 : Int32 → Sg → Option (Int32 × Sg)} (hR23 : ∀ (x4 : Int32) (s : Sg), okx (zq_I Q) (R23 x4 s) → Xw d M_La_law (10 * n) (1064 * n) 23 [.ref 0, .ref 4, .ref 46, .ref 80, .int x4, .retAddr 0, .retAddr 0, .retAddr 0] [] s Q) (h : okx (zq_I Q) (f_La_law_b1346 R23 x4 s)) : Xw d M_La_law (10 * (n + 1)) (1064 * (n + 1)) 1346 [.ref 0, .ref 4, .ref 46, .ref 80, .int x4, .retAddr 0, .retAddr 0, .retAddr 0] [] s Q := by
  unfold f_La_law_b1346 at h
  refine xi_aload_n D_La_law_1346 rfl ?_
  refine xi_aload_n D_La_law_1347 rfl ?_
  refine xi_iload D_La_law_1348 rfl ?_
  refine xj_iconst (v := 1) D_La_law_1350 rfl ?_
  refine xi_iadd D_La_law_1351 ?_
  obtain ⟨g355, h⟩ := okx_ck h
  refine xi_sld D_La_law_1352 g355 ?_
  refine xi_aload_n D_La_law_1353 rfl ?_
  refine xi_iload D_La_law_1354 rfl ?_
  refine xj_iconst (v := 2) D_La_law_1356 rfl ?_
  refine xi_iadd D_La_law_1357 ?_
  obtain ⟨g356, h⟩ := okx_ck h
  refine xi_sld D_La_law_1358 g356 ?_
  refine xi_aload_n D_La_law_1359 rfl ?_
  refine xi_SW [_, _, _, _] D_La_law_1360 L_La_169 C_La_written.1 C_La_written.2.1 ⟨(Nat.le_of_ble_eq_true rfl), C_La_written.2.2, (Nat.le_of_eq (Nat.sub_add_cancel (by omega))), zl_bue (by decide), zl_buf (by decide)⟩ (w_La_written (by omega) (okx_mono (okx_bd h) ?_))
  intro r357 s358 h
  show Xw _ _ _ _ 1363 _ [_] _ _
  refine xi_less (zl_bud (by decide)) (zl_bus (by decide)) ?_
  refine xi_istore (ls' := [_, _, _, _, _, _, _, _]) D_La_law_1363 rfl (by decide) ?_
  refine xi_aload_n D_La_law_1365 rfl ?_
  refine xi_aload_n D_La_law_1366 rfl ?_
  refine xi_iload D_La_law_1367 rfl ?_
  refine xj_iconst (v := 1) D_La_law_1369 rfl ?_
  refine xi_iadd D_La_law_1370 ?_
  obtain ⟨g359, h⟩ := okx_ck h
  refine xi_sld D_La_law_1371 g359 ?_
  refine xi_aload_n D_La_law_1372 rfl ?_
  refine xi_iload D_La_law_1373 rfl ?_
  refine xj_iconst (v := 2) D_La_law_1375 rfl ?_
  refine xi_iadd D_La_law_1376 ?_
  obtain ⟨g360, h⟩ := okx_ck h
  refine xi_sld D_La_law_1377 g360 ?_
  obtain ⟨g361, h⟩ := okx_ck h
  refine xj_V2 D_La_law_1378 L_La_171 C_Mo_written Z_Mo_written (zl_fo (g361).1 rfl) (Nat.le_of_ble_eq_true rfl) (Nat.le_of_eq (Nat.sub_add_cancel (by omega))) (w_Mo_written (by omega) (okx_mono (okx_bd h) ?_))
  intro r362 s363 h
  show Xw _ _ _ _ 1381 _ [_] _ _
  refine xi_istore (ls' := [_, _, _, _, _, _, _, _]) D_La_law_1381 rfl (by decide) ?_
  refine xi_aload_n D_La_law_1383 rfl ?_
  obtain ⟨g364, h⟩ := okx_ck h
  refine xj_V0 D_La_law_1384 L_La_84 C_Mo_thrown Z_Mo_thrown (zl_fo (g364).1 rfl) (Nat.le_of_ble_eq_true rfl) (Nat.le_of_eq (Nat.sub_add_cancel (by omega))) (w_Mo_thrown (by omega) (okx_mono (okx_bd h) ?_))
  intro r365 s366 h
  show Xw _ _ _ _ 1387 _ [_] _ _
  refine xi_iload D_La_law_1387 rfl ?_
  refine xi_icmp_eq D_La_law_1389 (fun c367 => ?_) (fun c367 => ?_)
  · have h := okx_T c367 h
    refine xi_iload D_La_law_1394 rfl ?_
    refine xi_if_ne D_La_law_1396 (fun c368 => ?_) (fun c368 => ?_)
    · have h := okx_F c368 h
      exact xk_wk (w_La_law_b1411 (by omega) hR23 h) ⟨Or.inl rfl, Or.inl rfl, Or.inl rfl, Or.inl rfl, Or.inl rfl, Or.inr rfl, Or.inr rfl, Or.inl rfl, trivial⟩
    · have h := okx_T c368 h
      refine xi_aload_n D_La_law_1399 rfl ?_
      refine xj_iconst (v := 0) D_La_law_1400 rfl ?_
      obtain ⟨g369, h⟩ := okx_ck h
      refine xj_lald D_La_law_1401 (zl_fx (g369).1 rfl) (zl_ib (n := 1) rfl (zl_vin rfl)) ?_
      refine xi_iload D_La_law_1402 rfl ?_
      refine xi_i2l D_La_law_1404 ?_
      refine xi_lcmp D_La_law_1405 ?_
      refine xi_if_eq D_La_law_1406 (fun c370 => ?_) (fun c370 => ?_)
      · have h := okx_T c370 h
        exact xk_wk (w_La_law_b1411 (by omega) hR23 h) ⟨Or.inl rfl, Or.inl rfl, Or.inl rfl, Or.inl rfl, Or.inl rfl, Or.inr rfl, Or.inr rfl, Or.inl rfl, trivial⟩
      · have h := okx_F c370 h
        refine xj_iconst (v := 0) D_La_law_1409 rfl ?_
        exact xi_ireturn D_La_law_1410 rfl (rfl) (okx_I h)
  · have h := okx_F c367 h
    refine xj_iconst (v := 0) D_La_law_1392 rfl ?_
    exact xi_ireturn D_La_law_1393 rfl (rfl) (okx_I h)
noncomputable def f_La_law_b1479 (R23 : Int32 → Sg → Option (Int32 × Sg)) (x4 : Int32) (s : Sg) : Option (Int32 × Sg) :=
  f_La_law_b1966 R23 x4 s
theorem w_La_law_b1479 {x4 : Int32} {s : Sg} {d : Nat} {Q : Option (Option Value) → Sg → Prop} (hd : 64 ≤ d) {n : Nat} {R23 : Int32 → Sg → Option (Int32 × Sg)} (hR23 : ∀ (x4 : Int32) (s : Sg), okx (zq_I Q) (R23 x4 s) → Xw d M_La_law (10 * n) (1064 * n) 23 [.ref 0, .ref 4, .ref 46, .ref 80, .int x4, .retAddr 0, .retAddr 0, .retAddr 0] [] s Q) (h : okx (zq_I Q) (f_La_law_b1479 R23 x4 s)) : Xw d M_La_law (10 * n) (1064 * n) 1479 [.ref 0, .ref 4, .ref 46, .ref 80, .int x4, .retAddr 0, .retAddr 0, .retAddr 0] [] s Q := by
  unfold f_La_law_b1479 at h
  refine xi_goto D_La_law_1479 ?_
  exact w_La_law_b1966 (by omega) hR23 h
noncomputable def f_La_law_b1414 (R23 : Int32 → Sg → Option (Int32 × Sg)) (x4 : Int32) (s : Sg) : Option (Int32 × Sg) :=
  f_ck (vp_in (x4 + 1) (Int32.toNatClampNeg (mI s 0 4000))) <|
  f_ck (vp_in (x4 + 2) (Int32.toNatClampNeg (mI s 0 4000))) <|
  f_bd (f_La_writing (mI s 0 (Int32.toNatClampNeg (x4 + 1))) (mI s 0 (Int32.toNatClampNeg (x4 + 2))) s) fun r373 s374 =>
  f_ck (vp_in (x4 + 1) (Int32.toNatClampNeg (mI s374 0 4000))) <|
  f_ck (vp_in (x4 + 2) (Int32.toNatClampNeg (mI s374 0 4000))) <|
  f_ck (zl_B s374) <|
  f_bd (f_Mo_writing (mI s374 0 (Int32.toNatClampNeg (x4 + 1))) (mI s374 0 (Int32.toNatClampNeg (x4 + 2))) s374) fun r378 s379 =>
  f_ck (zl_B s379) <|
  f_bd (f_Mo_thrown  s379) fun r381 s382 =>
  if r381 = r373 then
    if r373 = 0 then
      f_ck (zl_B s382) <|
      if (lg_cmp (mL s382 80 (Int32.toNatClampNeg (0 : Int32))) (Int32.toInt64 r378)) = 0 then
        f_La_law_b1479 R23 x4 s382
      else
        some (0, s382)
    else
      f_La_law_b1479 R23 x4 s382
  else
    some (0, s382)
theorem w_La_law_b1414 {x4 : Int32} {s : Sg} {d : Nat} {Q : Option (Option Value) → Sg → Prop} (hd : 64 ≤ d) {n : Nat} {R23 : Int32 → Sg → Option (Int32 × Sg)} (hR23 : ∀ (x4 : Int32) (s : Sg), okx (zq_I Q) (R23 x4 s) → Xw d M_La_law (10 * n) (1064 * n) 23 [.ref 0, .ref 4, .ref 46, .ref 80, .int x4, .retAddr 0, .retAddr 0, .retAddr 0] [] s Q) (h : okx (zq_I Q) (f_La_law_b1414 R23 x4 s)) : Xw d M_La_law (10 * (n + 1)) (1064 * (n + 1)) 1414 [.ref 0, .ref 4, .ref 46, .ref 80, .int x4, .retAddr 0, .retAddr 0, .retAddr 0] [] s Q := by
  unfold f_La_law_b1414 at h
  refine xi_aload_n D_La_law_1414 rfl ?_
  refine xi_aload_n D_La_law_1415 rfl ?_
  refine xi_iload D_La_law_1416 rfl ?_
  refine xj_iconst (v := 1) D_La_law_1418 rfl ?_
  refine xi_iadd D_La_law_1419 ?_
  obtain ⟨g371, h⟩ := okx_ck h
  refine xi_sld D_La_law_1420 g371 ?_
  refine xi_aload_n D_La_law_1421 rfl ?_
  refine xi_iload D_La_law_1422 rfl ?_
  refine xj_iconst (v := 2) D_La_law_1424 rfl ?_
  refine xi_iadd D_La_law_1425 ?_
  obtain ⟨g372, h⟩ := okx_ck h
  refine xi_sld D_La_law_1426 g372 ?_
  refine xi_aload_n D_La_law_1427 rfl ?_
  refine xi_SW [_, _, _, _] D_La_law_1428 L_La_172 C_La_writing.1 C_La_writing.2.1 ⟨(Nat.le_of_ble_eq_true rfl), C_La_writing.2.2, (Nat.le_of_eq (Nat.sub_add_cancel (by omega))), zl_bue (by decide), zl_buf (by decide)⟩ (w_La_writing (by omega) (okx_mono (okx_bd h) ?_))
  intro r373 s374 h
  show Xw _ _ _ _ 1431 _ [_] _ _
  refine xi_less (zl_bud (by decide)) (zl_bus (by decide)) ?_
  refine xi_istore (ls' := [_, _, _, _, _, _, _, _]) D_La_law_1431 rfl (by decide) ?_
  refine xi_aload_n D_La_law_1433 rfl ?_
  refine xi_aload_n D_La_law_1434 rfl ?_
  refine xi_iload D_La_law_1435 rfl ?_
  refine xj_iconst (v := 1) D_La_law_1437 rfl ?_
  refine xi_iadd D_La_law_1438 ?_
  obtain ⟨g375, h⟩ := okx_ck h
  refine xi_sld D_La_law_1439 g375 ?_
  refine xi_aload_n D_La_law_1440 rfl ?_
  refine xi_iload D_La_law_1441 rfl ?_
  refine xj_iconst (v := 2) D_La_law_1443 rfl ?_
  refine xi_iadd D_La_law_1444 ?_
  obtain ⟨g376, h⟩ := okx_ck h
  refine xi_sld D_La_law_1445 g376 ?_
  obtain ⟨g377, h⟩ := okx_ck h
  refine xj_V2 D_La_law_1446 L_La_174 C_Mo_writing Z_Mo_writing (zl_fo (g377).1 rfl) (Nat.le_of_ble_eq_true rfl) (Nat.le_of_eq (Nat.sub_add_cancel (by omega))) (w_Mo_writing (by omega) (okx_mono (okx_bd h) ?_))
  intro r378 s379 h
  show Xw _ _ _ _ 1449 _ [_] _ _
  refine xi_istore (ls' := [_, _, _, _, _, _, _, _]) D_La_law_1449 rfl (by decide) ?_
  refine xi_aload_n D_La_law_1451 rfl ?_
  obtain ⟨g380, h⟩ := okx_ck h
  refine xj_V0 D_La_law_1452 L_La_84 C_Mo_thrown Z_Mo_thrown (zl_fo (g380).1 rfl) (Nat.le_of_ble_eq_true rfl) (Nat.le_of_eq (Nat.sub_add_cancel (by omega))) (w_Mo_thrown (by omega) (okx_mono (okx_bd h) ?_))
  intro r381 s382 h
  show Xw _ _ _ _ 1455 _ [_] _ _
  refine xi_iload D_La_law_1455 rfl ?_
  refine xi_icmp_eq D_La_law_1457 (fun c383 => ?_) (fun c383 => ?_)
  · have h := okx_T c383 h
    refine xi_iload D_La_law_1462 rfl ?_
    refine xi_if_ne D_La_law_1464 (fun c384 => ?_) (fun c384 => ?_)
    · have h := okx_F c384 h
      exact xk_wk (w_La_law_b1479 (by omega) hR23 h) ⟨Or.inl rfl, Or.inl rfl, Or.inl rfl, Or.inl rfl, Or.inl rfl, Or.inr rfl, Or.inr rfl, Or.inl rfl, trivial⟩
    · have h := okx_T c384 h
      refine xi_aload_n D_La_law_1467 rfl ?_
      refine xj_iconst (v := 0) D_La_law_1468 rfl ?_
      obtain ⟨g385, h⟩ := okx_ck h
      refine xj_lald D_La_law_1469 (zl_fx (g385).1 rfl) (zl_ib (n := 1) rfl (zl_vin rfl)) ?_
      refine xi_iload D_La_law_1470 rfl ?_
      refine xi_i2l D_La_law_1472 ?_
      refine xi_lcmp D_La_law_1473 ?_
      refine xi_if_eq D_La_law_1474 (fun c386 => ?_) (fun c386 => ?_)
      · have h := okx_T c386 h
        exact xk_wk (w_La_law_b1479 (by omega) hR23 h) ⟨Or.inl rfl, Or.inl rfl, Or.inl rfl, Or.inl rfl, Or.inl rfl, Or.inr rfl, Or.inr rfl, Or.inl rfl, trivial⟩
      · have h := okx_F c386 h
        refine xj_iconst (v := 0) D_La_law_1477 rfl ?_
        exact xi_ireturn D_La_law_1478 rfl (rfl) (okx_I h)
  · have h := okx_F c383 h
    refine xj_iconst (v := 0) D_La_law_1460 rfl ?_
    exact xi_ireturn D_La_law_1461 rfl (rfl) (okx_I h)
noncomputable def f_La_law_b1571 (R23 : Int32 → Sg → Option (Int32 × Sg)) (x4 : Int32) (s : Sg) : Option (Int32 × Sg) :=
  f_La_law_b1966 R23 x4 s
theorem w_La_law_b1571 {x4 : Int32} {s : Sg} {d : Nat} {Q : Option (Option Value) → Sg → Prop} (hd : 64 ≤ d) {n : Nat} {R23 : Int32 → Sg → Option (Int32 × Sg)} (hR23 : ∀ (x4 : Int32) (s : Sg), okx (zq_I Q) (R23 x4 s) → Xw d M_La_law (10 * n) (1064 * n) 23 [.ref 0, .ref 4, .ref 46, .ref 80, .int x4, .retAddr 0, .retAddr 0, .retAddr 0] [] s Q) (h : okx (zq_I Q) (f_La_law_b1571 R23 x4 s)) : Xw d M_La_law (10 * n) (1064 * n) 1571 [.ref 0, .ref 4, .ref 46, .ref 80, .int x4, .retAddr 0, .retAddr 0, .retAddr 0] [] s Q := by
  unfold f_La_law_b1571 at h
  refine xi_goto D_La_law_1571 ?_
  exact w_La_law_b1966 (by omega) hR23 h
noncomputable def f_La_law_b1482 (R23 : Int32 → Sg → Option (Int32 × Sg)) (x4 : Int32) (s : Sg) : Option (Int32 × Sg) :=
  f_ck (vp_in (x4 + 1) (Int32.toNatClampNeg (mI s 0 4000))) <|
  f_ck (vp_in (x4 + 2) (Int32.toNatClampNeg (mI s 0 4000))) <|
  f_ck (vp_in (x4 + 3) (Int32.toNatClampNeg (mI s 0 4000))) <|
  f_ck (vp_in (x4 + 4) (Int32.toNatClampNeg (mI s 0 4000))) <|
  f_bd (f_La_right (mI s 0 (Int32.toNatClampNeg (x4 + 1))) (mI s 0 (Int32.toNatClampNeg (x4 + 2))) (mI s 0 (Int32.toNatClampNeg (x4 + 3))) (mI s 0 (Int32.toNatClampNeg (x4 + 4))) s) fun r391 s392 =>
  f_ck (vp_in (x4 + 1) (Int32.toNatClampNeg (mI s392 0 4000))) <|
  f_ck (vp_in (x4 + 2) (Int32.toNatClampNeg (mI s392 0 4000))) <|
  f_ck (vp_in (x4 + 3) (Int32.toNatClampNeg (mI s392 0 4000))) <|
  f_ck (vp_in (x4 + 4) (Int32.toNatClampNeg (mI s392 0 4000))) <|
  f_ck (zl_B s392) <|
  f_bd (f_Mo_right (mI s392 0 (Int32.toNatClampNeg (x4 + 1))) (mI s392 0 (Int32.toNatClampNeg (x4 + 2))) (mI s392 0 (Int32.toNatClampNeg (x4 + 3))) (mI s392 0 (Int32.toNatClampNeg (x4 + 4))) s392) fun r398 s399 =>
  f_ck (zl_B s399) <|
  f_bd (f_Mo_thrown  s399) fun r401 s402 =>
  if r401 = r391 then
    if r391 = 0 then
      f_ck (zl_B s402) <|
      if (lg_cmp (mL s402 80 (Int32.toNatClampNeg (0 : Int32))) (Int32.toInt64 r398)) = 0 then
        f_La_law_b1571 R23 x4 s402
      else
        some (0, s402)
    else
      f_La_law_b1571 R23 x4 s402
  else
    some (0, s402)
theorem w_La_law_b1482 {x4 : Int32} {s : Sg} {d : Nat} {Q : Option (Option Value) → Sg → Prop} (hd : 64 ≤ d) {n : Nat} {R23 : Int32 → Sg → Option (Int32 × Sg)} (hR23 : ∀ (x4 : Int32) (s : Sg), okx (zq_I Q) (R23 x4 s) → Xw d M_La_law (10 * n) (1064 * n) 23 [.ref 0, .ref 4, .ref 46, .ref 80, .int x4, .retAddr 0, .retAddr 0, .retAddr 0] [] s Q) (h : okx (zq_I Q) (f_La_law_b1482 R23 x4 s)) : Xw d M_La_law (10 * (n + 1)) (1064 * (n + 1)) 1482 [.ref 0, .ref 4, .ref 46, .ref 80, .int x4, .retAddr 0, .retAddr 0, .retAddr 0] [] s Q := by
  unfold f_La_law_b1482 at h
  refine xi_aload_n D_La_law_1482 rfl ?_
  refine xi_aload_n D_La_law_1483 rfl ?_
  refine xi_iload D_La_law_1484 rfl ?_
  refine xj_iconst (v := 1) D_La_law_1486 rfl ?_
  refine xi_iadd D_La_law_1487 ?_
  obtain ⟨g387, h⟩ := okx_ck h
  refine xi_sld D_La_law_1488 g387 ?_
  refine xi_aload_n D_La_law_1489 rfl ?_
  refine xi_iload D_La_law_1490 rfl ?_
  refine xj_iconst (v := 2) D_La_law_1492 rfl ?_
  refine xi_iadd D_La_law_1493 ?_
  obtain ⟨g388, h⟩ := okx_ck h
  refine xi_sld D_La_law_1494 g388 ?_
  refine xi_aload_n D_La_law_1495 rfl ?_
  refine xi_iload D_La_law_1496 rfl ?_
  refine xj_iconst (v := 3) D_La_law_1498 rfl ?_
  refine xi_iadd D_La_law_1499 ?_
  obtain ⟨g389, h⟩ := okx_ck h
  refine xi_sld D_La_law_1500 g389 ?_
  refine xi_aload_n D_La_law_1501 rfl ?_
  refine xi_iload D_La_law_1502 rfl ?_
  refine xj_iconst (v := 4) D_La_law_1504 rfl ?_
  refine xi_iadd D_La_law_1505 ?_
  obtain ⟨g390, h⟩ := okx_ck h
  refine xi_sld D_La_law_1506 g390 ?_
  refine xi_aload_n D_La_law_1507 rfl ?_
  refine xi_SW [_, _, _, _, _, _] D_La_law_1508 L_La_175 C_La_right.1 C_La_right.2.1 ⟨(Nat.le_of_ble_eq_true rfl), C_La_right.2.2, (Nat.le_of_eq (Nat.sub_add_cancel (by omega))), zl_bue (by decide), zl_buf (by decide)⟩ (w_La_right (by omega) (okx_mono (okx_bd h) ?_))
  intro r391 s392 h
  show Xw _ _ _ _ 1511 _ [_] _ _
  refine xi_less (zl_bud (by decide)) (zl_bus (by decide)) ?_
  refine xi_istore (ls' := [_, _, _, _, _, _, _, _]) D_La_law_1511 rfl (by decide) ?_
  refine xi_aload_n D_La_law_1513 rfl ?_
  refine xi_aload_n D_La_law_1514 rfl ?_
  refine xi_iload D_La_law_1515 rfl ?_
  refine xj_iconst (v := 1) D_La_law_1517 rfl ?_
  refine xi_iadd D_La_law_1518 ?_
  obtain ⟨g393, h⟩ := okx_ck h
  refine xi_sld D_La_law_1519 g393 ?_
  refine xi_aload_n D_La_law_1520 rfl ?_
  refine xi_iload D_La_law_1521 rfl ?_
  refine xj_iconst (v := 2) D_La_law_1523 rfl ?_
  refine xi_iadd D_La_law_1524 ?_
  obtain ⟨g394, h⟩ := okx_ck h
  refine xi_sld D_La_law_1525 g394 ?_
  refine xi_aload_n D_La_law_1526 rfl ?_
  refine xi_iload D_La_law_1527 rfl ?_
  refine xj_iconst (v := 3) D_La_law_1529 rfl ?_
  refine xi_iadd D_La_law_1530 ?_
  obtain ⟨g395, h⟩ := okx_ck h
  refine xi_sld D_La_law_1531 g395 ?_
  refine xi_aload_n D_La_law_1532 rfl ?_
  refine xi_iload D_La_law_1533 rfl ?_
  refine xj_iconst (v := 4) D_La_law_1535 rfl ?_
  refine xi_iadd D_La_law_1536 ?_
  obtain ⟨g396, h⟩ := okx_ck h
  refine xi_sld D_La_law_1537 g396 ?_
  obtain ⟨g397, h⟩ := okx_ck h
  refine xj_V4 D_La_law_1538 L_La_178 C_Mo_right Z_Mo_right (zl_fo (g397).1 rfl) (Nat.le_of_ble_eq_true rfl) (Nat.le_of_eq (Nat.sub_add_cancel (by omega))) (w_Mo_right (by omega) (okx_mono (okx_bd h) ?_))
  intro r398 s399 h
  show Xw _ _ _ _ 1541 _ [_] _ _
  refine xi_istore (ls' := [_, _, _, _, _, _, _, _]) D_La_law_1541 rfl (by decide) ?_
  refine xi_aload_n D_La_law_1543 rfl ?_
  obtain ⟨g400, h⟩ := okx_ck h
  refine xj_V0 D_La_law_1544 L_La_84 C_Mo_thrown Z_Mo_thrown (zl_fo (g400).1 rfl) (Nat.le_of_ble_eq_true rfl) (Nat.le_of_eq (Nat.sub_add_cancel (by omega))) (w_Mo_thrown (by omega) (okx_mono (okx_bd h) ?_))
  intro r401 s402 h
  show Xw _ _ _ _ 1547 _ [_] _ _
  refine xi_iload D_La_law_1547 rfl ?_
  refine xi_icmp_eq D_La_law_1549 (fun c403 => ?_) (fun c403 => ?_)
  · have h := okx_T c403 h
    refine xi_iload D_La_law_1554 rfl ?_
    refine xi_if_ne D_La_law_1556 (fun c404 => ?_) (fun c404 => ?_)
    · have h := okx_F c404 h
      exact xk_wk (w_La_law_b1571 (by omega) hR23 h) ⟨Or.inl rfl, Or.inl rfl, Or.inl rfl, Or.inl rfl, Or.inl rfl, Or.inr rfl, Or.inr rfl, Or.inl rfl, trivial⟩
    · have h := okx_T c404 h
      refine xi_aload_n D_La_law_1559 rfl ?_
      refine xj_iconst (v := 0) D_La_law_1560 rfl ?_
      obtain ⟨g405, h⟩ := okx_ck h
      refine xj_lald D_La_law_1561 (zl_fx (g405).1 rfl) (zl_ib (n := 1) rfl (zl_vin rfl)) ?_
      refine xi_iload D_La_law_1562 rfl ?_
      refine xi_i2l D_La_law_1564 ?_
      refine xi_lcmp D_La_law_1565 ?_
      refine xi_if_eq D_La_law_1566 (fun c406 => ?_) (fun c406 => ?_)
      · have h := okx_T c406 h
        exact xk_wk (w_La_law_b1571 (by omega) hR23 h) ⟨Or.inl rfl, Or.inl rfl, Or.inl rfl, Or.inl rfl, Or.inl rfl, Or.inr rfl, Or.inr rfl, Or.inl rfl, trivial⟩
      · have h := okx_F c406 h
        refine xj_iconst (v := 0) D_La_law_1569 rfl ?_
        exact xi_ireturn D_La_law_1570 rfl (rfl) (okx_I h)
  · have h := okx_F c403 h
    refine xj_iconst (v := 0) D_La_law_1552 rfl ?_
    exact xi_ireturn D_La_law_1553 rfl (rfl) (okx_I h)
noncomputable def f_La_law_b1663 (R23 : Int32 → Sg → Option (Int32 × Sg)) (x4 : Int32) (s : Sg) : Option (Int32 × Sg) :=
  f_La_law_b1966 R23 x4 s
theorem w_La_law_b1663 {x4 : Int32} {s : Sg} {d : Nat} {Q : Option (Option Value) → Sg → Prop} (hd : 64 ≤ d) {n : Nat} {R23 : Int32 → Sg → Option (Int32 × Sg)} (hR23 : ∀ (x4 : Int32) (s : Sg), okx (zq_I Q) (R23 x4 s) → Xw d M_La_law (10 * n) (1064 * n) 23 [.ref 0, .ref 4, .ref 46, .ref 80, .int x4, .retAddr 0, .retAddr 0, .retAddr 0] [] s Q) (h : okx (zq_I Q) (f_La_law_b1663 R23 x4 s)) : Xw d M_La_law (10 * n) (1064 * n) 1663 [.ref 0, .ref 4, .ref 46, .ref 80, .int x4, .retAddr 0, .retAddr 0, .retAddr 0] [] s Q := by
  unfold f_La_law_b1663 at h
  refine xi_goto D_La_law_1663 ?_
  exact w_La_law_b1966 (by omega) hR23 h
noncomputable def f_La_law_b1574 (R23 : Int32 → Sg → Option (Int32 × Sg)) (x4 : Int32) (s : Sg) : Option (Int32 × Sg) :=
  f_ck (vp_in (x4 + 1) (Int32.toNatClampNeg (mI s 0 4000))) <|
  f_ck (vp_in (x4 + 2) (Int32.toNatClampNeg (mI s 0 4000))) <|
  f_ck (vp_in (x4 + 3) (Int32.toNatClampNeg (mI s 0 4000))) <|
  f_ck (vp_in (x4 + 4) (Int32.toNatClampNeg (mI s 0 4000))) <|
  f_bd (f_La_rightPrice (mI s 0 (Int32.toNatClampNeg (x4 + 1))) (mI s 0 (Int32.toNatClampNeg (x4 + 2))) (mI s 0 (Int32.toNatClampNeg (x4 + 3))) (mI s 0 (Int32.toNatClampNeg (x4 + 4))) s) fun r411 s412 =>
  f_ck (vp_in (x4 + 1) (Int32.toNatClampNeg (mI s412 0 4000))) <|
  f_ck (vp_in (x4 + 2) (Int32.toNatClampNeg (mI s412 0 4000))) <|
  f_ck (vp_in (x4 + 3) (Int32.toNatClampNeg (mI s412 0 4000))) <|
  f_ck (vp_in (x4 + 4) (Int32.toNatClampNeg (mI s412 0 4000))) <|
  f_ck (zl_B s412) <|
  f_bd (f_Mo_rightPrice (mI s412 0 (Int32.toNatClampNeg (x4 + 1))) (mI s412 0 (Int32.toNatClampNeg (x4 + 2))) (mI s412 0 (Int32.toNatClampNeg (x4 + 3))) (mI s412 0 (Int32.toNatClampNeg (x4 + 4))) s412) fun r418 s419 =>
  f_ck (zl_B s419) <|
  f_bd (f_Mo_thrown  s419) fun r421 s422 =>
  if r421 = r411 then
    if r411 = 0 then
      f_ck (zl_B s422) <|
      if (lg_cmp (mL s422 80 (Int32.toNatClampNeg (0 : Int32))) (Int32.toInt64 r418)) = 0 then
        f_La_law_b1663 R23 x4 s422
      else
        some (0, s422)
    else
      f_La_law_b1663 R23 x4 s422
  else
    some (0, s422)
theorem w_La_law_b1574 {x4 : Int32} {s : Sg} {d : Nat} {Q : Option (Option Value) → Sg → Prop} (hd : 64 ≤ d) {n : Nat} {R23 : Int32 → Sg → Option (Int32 × Sg)} (hR23 : ∀ (x4 : Int32) (s : Sg), okx (zq_I Q) (R23 x4 s) → Xw d M_La_law (10 * n) (1064 * n) 23 [.ref 0, .ref 4, .ref 46, .ref 80, .int x4, .retAddr 0, .retAddr 0, .retAddr 0] [] s Q) (h : okx (zq_I Q) (f_La_law_b1574 R23 x4 s)) : Xw d M_La_law (10 * (n + 1)) (1064 * (n + 1)) 1574 [.ref 0, .ref 4, .ref 46, .ref 80, .int x4, .retAddr 0, .retAddr 0, .retAddr 0] [] s Q := by
  unfold f_La_law_b1574 at h
  refine xi_aload_n D_La_law_1574 rfl ?_
  refine xi_aload_n D_La_law_1575 rfl ?_
  refine xi_iload D_La_law_1576 rfl ?_
  refine xj_iconst (v := 1) D_La_law_1578 rfl ?_
  refine xi_iadd D_La_law_1579 ?_
  obtain ⟨g407, h⟩ := okx_ck h
  refine xi_sld D_La_law_1580 g407 ?_
  refine xi_aload_n D_La_law_1581 rfl ?_
  refine xi_iload D_La_law_1582 rfl ?_
  refine xj_iconst (v := 2) D_La_law_1584 rfl ?_
  refine xi_iadd D_La_law_1585 ?_
  obtain ⟨g408, h⟩ := okx_ck h
  refine xi_sld D_La_law_1586 g408 ?_
  refine xi_aload_n D_La_law_1587 rfl ?_
  refine xi_iload D_La_law_1588 rfl ?_
  refine xj_iconst (v := 3) D_La_law_1590 rfl ?_
  refine xi_iadd D_La_law_1591 ?_
  obtain ⟨g409, h⟩ := okx_ck h
  refine xi_sld D_La_law_1592 g409 ?_
  refine xi_aload_n D_La_law_1593 rfl ?_
  refine xi_iload D_La_law_1594 rfl ?_
  refine xj_iconst (v := 4) D_La_law_1596 rfl ?_
  refine xi_iadd D_La_law_1597 ?_
  obtain ⟨g410, h⟩ := okx_ck h
  refine xi_sld D_La_law_1598 g410 ?_
  refine xi_aload_n D_La_law_1599 rfl ?_
  refine xi_SW [_, _, _, _, _, _] D_La_law_1600 L_La_179 C_La_rightPrice.1 C_La_rightPrice.2.1 ⟨(Nat.le_of_ble_eq_true rfl), C_La_rightPrice.2.2, (Nat.le_of_eq (Nat.sub_add_cancel (by omega))), zl_bue (by decide), zl_buf (by decide)⟩ (w_La_rightPrice (by omega) (okx_mono (okx_bd h) ?_))
  intro r411 s412 h
  show Xw _ _ _ _ 1603 _ [_] _ _
  refine xi_less (zl_bud (by decide)) (zl_bus (by decide)) ?_
  refine xi_istore (ls' := [_, _, _, _, _, _, _, _]) D_La_law_1603 rfl (by decide) ?_
  refine xi_aload_n D_La_law_1605 rfl ?_
  refine xi_aload_n D_La_law_1606 rfl ?_
  refine xi_iload D_La_law_1607 rfl ?_
  refine xj_iconst (v := 1) D_La_law_1609 rfl ?_
  refine xi_iadd D_La_law_1610 ?_
  obtain ⟨g413, h⟩ := okx_ck h
  refine xi_sld D_La_law_1611 g413 ?_
  refine xi_aload_n D_La_law_1612 rfl ?_
  refine xi_iload D_La_law_1613 rfl ?_
  refine xj_iconst (v := 2) D_La_law_1615 rfl ?_
  refine xi_iadd D_La_law_1616 ?_
  obtain ⟨g414, h⟩ := okx_ck h
  refine xi_sld D_La_law_1617 g414 ?_
  refine xi_aload_n D_La_law_1618 rfl ?_
  refine xi_iload D_La_law_1619 rfl ?_
  refine xj_iconst (v := 3) D_La_law_1621 rfl ?_
  refine xi_iadd D_La_law_1622 ?_
  obtain ⟨g415, h⟩ := okx_ck h
  refine xi_sld D_La_law_1623 g415 ?_
  refine xi_aload_n D_La_law_1624 rfl ?_
  refine xi_iload D_La_law_1625 rfl ?_
  refine xj_iconst (v := 4) D_La_law_1627 rfl ?_
  refine xi_iadd D_La_law_1628 ?_
  obtain ⟨g416, h⟩ := okx_ck h
  refine xi_sld D_La_law_1629 g416 ?_
  obtain ⟨g417, h⟩ := okx_ck h
  refine xj_V4 D_La_law_1630 L_La_181 C_Mo_rightPrice Z_Mo_rightPrice (zl_fo (g417).1 rfl) (Nat.le_of_ble_eq_true rfl) (Nat.le_of_eq (Nat.sub_add_cancel (by omega))) (w_Mo_rightPrice (by omega) (okx_mono (okx_bd h) ?_))
  intro r418 s419 h
  show Xw _ _ _ _ 1633 _ [_] _ _
  refine xi_istore (ls' := [_, _, _, _, _, _, _, _]) D_La_law_1633 rfl (by decide) ?_
  refine xi_aload_n D_La_law_1635 rfl ?_
  obtain ⟨g420, h⟩ := okx_ck h
  refine xj_V0 D_La_law_1636 L_La_84 C_Mo_thrown Z_Mo_thrown (zl_fo (g420).1 rfl) (Nat.le_of_ble_eq_true rfl) (Nat.le_of_eq (Nat.sub_add_cancel (by omega))) (w_Mo_thrown (by omega) (okx_mono (okx_bd h) ?_))
  intro r421 s422 h
  show Xw _ _ _ _ 1639 _ [_] _ _
  refine xi_iload D_La_law_1639 rfl ?_
  refine xi_icmp_eq D_La_law_1641 (fun c423 => ?_) (fun c423 => ?_)
  · have h := okx_T c423 h
    refine xi_iload D_La_law_1646 rfl ?_
    refine xi_if_ne D_La_law_1648 (fun c424 => ?_) (fun c424 => ?_)
    · have h := okx_F c424 h
      exact xk_wk (w_La_law_b1663 (by omega) hR23 h) ⟨Or.inl rfl, Or.inl rfl, Or.inl rfl, Or.inl rfl, Or.inl rfl, Or.inr rfl, Or.inr rfl, Or.inl rfl, trivial⟩
    · have h := okx_T c424 h
      refine xi_aload_n D_La_law_1651 rfl ?_
      refine xj_iconst (v := 0) D_La_law_1652 rfl ?_
      obtain ⟨g425, h⟩ := okx_ck h
      refine xj_lald D_La_law_1653 (zl_fx (g425).1 rfl) (zl_ib (n := 1) rfl (zl_vin rfl)) ?_
      refine xi_iload D_La_law_1654 rfl ?_
      refine xi_i2l D_La_law_1656 ?_
      refine xi_lcmp D_La_law_1657 ?_
      refine xi_if_eq D_La_law_1658 (fun c426 => ?_) (fun c426 => ?_)
      · have h := okx_T c426 h
        exact xk_wk (w_La_law_b1663 (by omega) hR23 h) ⟨Or.inl rfl, Or.inl rfl, Or.inl rfl, Or.inl rfl, Or.inl rfl, Or.inr rfl, Or.inr rfl, Or.inl rfl, trivial⟩
      · have h := okx_F c426 h
        refine xj_iconst (v := 0) D_La_law_1661 rfl ?_
        exact xi_ireturn D_La_law_1662 rfl (rfl) (okx_I h)
  · have h := okx_F c423 h
    refine xj_iconst (v := 0) D_La_law_1644 rfl ?_
    exact xi_ireturn D_La_law_1645 rfl (rfl) (okx_I h)
noncomputable def f_La_law_b1755 (R23 : Int32 → Sg → Option (Int32 × Sg)) (x4 : Int32) (s : Sg) : Option (Int32 × Sg) :=
  f_La_law_b1966 R23 x4 s
theorem w_La_law_b1755 {x4 : Int32} {s : Sg} {d : Nat} {Q : Option (Option Value) → Sg → Prop} (hd : 64 ≤ d) {n : Nat} {R23 : Int32 → Sg → Option (Int32 × Sg)} (hR23 : ∀ (x4 : Int32) (s : Sg), okx (zq_I Q) (R23 x4 s) → Xw d M_La_law (10 * n) (1064 * n) 23 [.ref 0, .ref 4, .ref 46, .ref 80, .int x4, .retAddr 0, .retAddr 0, .retAddr 0] [] s Q) (h : okx (zq_I Q) (f_La_law_b1755 R23 x4 s)) : Xw d M_La_law (10 * n) (1064 * n) 1755 [.ref 0, .ref 4, .ref 46, .ref 80, .int x4, .retAddr 0, .retAddr 0, .retAddr 0] [] s Q := by
  unfold f_La_law_b1755 at h
  refine xi_goto D_La_law_1755 ?_
  exact w_La_law_b1966 (by omega) hR23 h
noncomputable def f_La_law_b1666 (R23 : Int32 → Sg → Option (Int32 × Sg)) (x4 : Int32) (s : Sg) : Option (Int32 × Sg) :=
  f_ck (vp_in (x4 + 1) (Int32.toNatClampNeg (mI s 0 4000))) <|
  f_ck (vp_in (x4 + 2) (Int32.toNatClampNeg (mI s 0 4000))) <|
  f_ck (vp_in (x4 + 3) (Int32.toNatClampNeg (mI s 0 4000))) <|
  f_ck (vp_in (x4 + 4) (Int32.toNatClampNeg (mI s 0 4000))) <|
  f_bd (f_La_lender (mI s 0 (Int32.toNatClampNeg (x4 + 1))) (mI s 0 (Int32.toNatClampNeg (x4 + 2))) (mI s 0 (Int32.toNatClampNeg (x4 + 3))) (mI s 0 (Int32.toNatClampNeg (x4 + 4))) s) fun r431 s432 =>
  f_ck (vp_in (x4 + 1) (Int32.toNatClampNeg (mI s432 0 4000))) <|
  f_ck (vp_in (x4 + 2) (Int32.toNatClampNeg (mI s432 0 4000))) <|
  f_ck (vp_in (x4 + 3) (Int32.toNatClampNeg (mI s432 0 4000))) <|
  f_ck (vp_in (x4 + 4) (Int32.toNatClampNeg (mI s432 0 4000))) <|
  f_ck (zl_B s432) <|
  f_bd (f_Mo_lender (mI s432 0 (Int32.toNatClampNeg (x4 + 1))) (mI s432 0 (Int32.toNatClampNeg (x4 + 2))) (mI s432 0 (Int32.toNatClampNeg (x4 + 3))) (mI s432 0 (Int32.toNatClampNeg (x4 + 4))) s432) fun r438 s439 =>
  f_ck (zl_B s439) <|
  f_bd (f_Mo_thrown  s439) fun r441 s442 =>
  if r441 = r431 then
    if r431 = 0 then
      f_ck (zl_B s442) <|
      if (lg_cmp (mL s442 80 (Int32.toNatClampNeg (0 : Int32))) (Int32.toInt64 r438)) = 0 then
        f_La_law_b1755 R23 x4 s442
      else
        some (0, s442)
    else
      f_La_law_b1755 R23 x4 s442
  else
    some (0, s442)
theorem w_La_law_b1666 {x4 : Int32} {s : Sg} {d : Nat} {Q : Option (Option Value) → Sg → Prop} (hd : 64 ≤ d) {n : Nat} {R23 : Int32 → Sg → Option (Int32 × Sg)} (hR23 : ∀ (x4 : Int32) (s : Sg), okx (zq_I Q) (R23 x4 s) → Xw d M_La_law (10 * n) (1064 * n) 23 [.ref 0, .ref 4, .ref 46, .ref 80, .int x4, .retAddr 0, .retAddr 0, .retAddr 0] [] s Q) (h : okx (zq_I Q) (f_La_law_b1666 R23 x4 s)) : Xw d M_La_law (10 * (n + 1)) (1064 * (n + 1)) 1666 [.ref 0, .ref 4, .ref 46, .ref 80, .int x4, .retAddr 0, .retAddr 0, .retAddr 0] [] s Q := by
  unfold f_La_law_b1666 at h
  refine xi_aload_n D_La_law_1666 rfl ?_
  refine xi_aload_n D_La_law_1667 rfl ?_
  refine xi_iload D_La_law_1668 rfl ?_
  refine xj_iconst (v := 1) D_La_law_1670 rfl ?_
  refine xi_iadd D_La_law_1671 ?_
  obtain ⟨g427, h⟩ := okx_ck h
  refine xi_sld D_La_law_1672 g427 ?_
  refine xi_aload_n D_La_law_1673 rfl ?_
  refine xi_iload D_La_law_1674 rfl ?_
  refine xj_iconst (v := 2) D_La_law_1676 rfl ?_
  refine xi_iadd D_La_law_1677 ?_
  obtain ⟨g428, h⟩ := okx_ck h
  refine xi_sld D_La_law_1678 g428 ?_
  refine xi_aload_n D_La_law_1679 rfl ?_
  refine xi_iload D_La_law_1680 rfl ?_
  refine xj_iconst (v := 3) D_La_law_1682 rfl ?_
  refine xi_iadd D_La_law_1683 ?_
  obtain ⟨g429, h⟩ := okx_ck h
  refine xi_sld D_La_law_1684 g429 ?_
  refine xi_aload_n D_La_law_1685 rfl ?_
  refine xi_iload D_La_law_1686 rfl ?_
  refine xj_iconst (v := 4) D_La_law_1688 rfl ?_
  refine xi_iadd D_La_law_1689 ?_
  obtain ⟨g430, h⟩ := okx_ck h
  refine xi_sld D_La_law_1690 g430 ?_
  refine xi_aload_n D_La_law_1691 rfl ?_
  refine xi_SW [_, _, _, _, _, _] D_La_law_1692 L_La_182 C_La_lender.1 C_La_lender.2.1 ⟨(Nat.le_of_ble_eq_true rfl), C_La_lender.2.2, (Nat.le_of_eq (Nat.sub_add_cancel (by omega))), zl_bue (by decide), zl_buf (by decide)⟩ (w_La_lender (by omega) (okx_mono (okx_bd h) ?_))
  intro r431 s432 h
  show Xw _ _ _ _ 1695 _ [_] _ _
  refine xi_less (zl_bud (by decide)) (zl_bus (by decide)) ?_
  refine xi_istore (ls' := [_, _, _, _, _, _, _, _]) D_La_law_1695 rfl (by decide) ?_
  refine xi_aload_n D_La_law_1697 rfl ?_
  refine xi_aload_n D_La_law_1698 rfl ?_
  refine xi_iload D_La_law_1699 rfl ?_
  refine xj_iconst (v := 1) D_La_law_1701 rfl ?_
  refine xi_iadd D_La_law_1702 ?_
  obtain ⟨g433, h⟩ := okx_ck h
  refine xi_sld D_La_law_1703 g433 ?_
  refine xi_aload_n D_La_law_1704 rfl ?_
  refine xi_iload D_La_law_1705 rfl ?_
  refine xj_iconst (v := 2) D_La_law_1707 rfl ?_
  refine xi_iadd D_La_law_1708 ?_
  obtain ⟨g434, h⟩ := okx_ck h
  refine xi_sld D_La_law_1709 g434 ?_
  refine xi_aload_n D_La_law_1710 rfl ?_
  refine xi_iload D_La_law_1711 rfl ?_
  refine xj_iconst (v := 3) D_La_law_1713 rfl ?_
  refine xi_iadd D_La_law_1714 ?_
  obtain ⟨g435, h⟩ := okx_ck h
  refine xi_sld D_La_law_1715 g435 ?_
  refine xi_aload_n D_La_law_1716 rfl ?_
  refine xi_iload D_La_law_1717 rfl ?_
  refine xj_iconst (v := 4) D_La_law_1719 rfl ?_
  refine xi_iadd D_La_law_1720 ?_
  obtain ⟨g436, h⟩ := okx_ck h
  refine xi_sld D_La_law_1721 g436 ?_
  obtain ⟨g437, h⟩ := okx_ck h
  refine xj_V4 D_La_law_1722 L_La_184 C_Mo_lender Z_Mo_lender (zl_fo (g437).1 rfl) (Nat.le_of_ble_eq_true rfl) (Nat.le_of_eq (Nat.sub_add_cancel (by omega))) (w_Mo_lender (by omega) (okx_mono (okx_bd h) ?_))
  intro r438 s439 h
  show Xw _ _ _ _ 1725 _ [_] _ _
  refine xi_istore (ls' := [_, _, _, _, _, _, _, _]) D_La_law_1725 rfl (by decide) ?_
  refine xi_aload_n D_La_law_1727 rfl ?_
  obtain ⟨g440, h⟩ := okx_ck h
  refine xj_V0 D_La_law_1728 L_La_84 C_Mo_thrown Z_Mo_thrown (zl_fo (g440).1 rfl) (Nat.le_of_ble_eq_true rfl) (Nat.le_of_eq (Nat.sub_add_cancel (by omega))) (w_Mo_thrown (by omega) (okx_mono (okx_bd h) ?_))
  intro r441 s442 h
  show Xw _ _ _ _ 1731 _ [_] _ _
  refine xi_iload D_La_law_1731 rfl ?_
  refine xi_icmp_eq D_La_law_1733 (fun c443 => ?_) (fun c443 => ?_)
  · have h := okx_T c443 h
    refine xi_iload D_La_law_1738 rfl ?_
    refine xi_if_ne D_La_law_1740 (fun c444 => ?_) (fun c444 => ?_)
    · have h := okx_F c444 h
      exact xk_wk (w_La_law_b1755 (by omega) hR23 h) ⟨Or.inl rfl, Or.inl rfl, Or.inl rfl, Or.inl rfl, Or.inl rfl, Or.inr rfl, Or.inr rfl, Or.inl rfl, trivial⟩
    · have h := okx_T c444 h
      refine xi_aload_n D_La_law_1743 rfl ?_
      refine xj_iconst (v := 0) D_La_law_1744 rfl ?_
      obtain ⟨g445, h⟩ := okx_ck h
      refine xj_lald D_La_law_1745 (zl_fx (g445).1 rfl) (zl_ib (n := 1) rfl (zl_vin rfl)) ?_
      refine xi_iload D_La_law_1746 rfl ?_
      refine xi_i2l D_La_law_1748 ?_
      refine xi_lcmp D_La_law_1749 ?_
      refine xi_if_eq D_La_law_1750 (fun c446 => ?_) (fun c446 => ?_)
      · have h := okx_T c446 h
        exact xk_wk (w_La_law_b1755 (by omega) hR23 h) ⟨Or.inl rfl, Or.inl rfl, Or.inl rfl, Or.inl rfl, Or.inl rfl, Or.inr rfl, Or.inr rfl, Or.inl rfl, trivial⟩
      · have h := okx_F c446 h
        refine xj_iconst (v := 0) D_La_law_1753 rfl ?_
        exact xi_ireturn D_La_law_1754 rfl (rfl) (okx_I h)
  · have h := okx_F c443 h
    refine xj_iconst (v := 0) D_La_law_1736 rfl ?_
    exact xi_ireturn D_La_law_1737 rfl (rfl) (okx_I h)
noncomputable def f_La_law_b1758 (R23 : Int32 → Sg → Option (Int32 × Sg)) (x4 : Int32) (s : Sg) : Option (Int32 × Sg) :=
  f_ck (zl_B s) <|
  f_bd (f_Wk_hands  s) fun r448 s449 =>
  f_ck (zl_B s449) <|
  f_bd (f_Mo_hands  s449) fun r451 s452 =>
  if r448 = r451 then
    f_La_law_b1966 R23 x4 s452
  else
    some (0, s452)
theorem w_La_law_b1758 {x4 : Int32} {s : Sg} {d : Nat} {Q : Option (Option Value) → Sg → Prop} (hd : 64 ≤ d) {n : Nat} {R23 : Int32 → Sg → Option (Int32 × Sg)} (hR23 : ∀ (x4 : Int32) (s : Sg), okx (zq_I Q) (R23 x4 s) → Xw d M_La_law (10 * n) (1064 * n) 23 [.ref 0, .ref 4, .ref 46, .ref 80, .int x4, .retAddr 0, .retAddr 0, .retAddr 0] [] s Q) (h : okx (zq_I Q) (f_La_law_b1758 R23 x4 s)) : Xw d M_La_law (10 * (n + 1)) (1064 * (n + 1)) 1758 [.ref 0, .ref 4, .ref 46, .ref 80, .int x4, .retAddr 0, .retAddr 0, .retAddr 0] [] s Q := by
  unfold f_La_law_b1758 at h
  refine xi_aload_n D_La_law_1758 rfl ?_
  obtain ⟨g447, h⟩ := okx_ck h
  refine xj_V0 D_La_law_1759 L_La_185 C_Wk_hands Z_Wk_hands (zl_fo (g447).1 rfl) (Nat.le_of_ble_eq_true rfl) (Nat.le_of_eq (Nat.sub_add_cancel (by omega))) (w_Wk_hands (by omega) (okx_mono (okx_bd h) ?_))
  intro r448 s449 h
  show Xw _ _ _ _ 1762 _ [_] _ _
  refine xi_aload_n D_La_law_1762 rfl ?_
  obtain ⟨g450, h⟩ := okx_ck h
  refine xj_V0 D_La_law_1763 L_La_188 C_Mo_hands Z_Mo_hands (zl_fo (g450).1 rfl) (Nat.le_of_ble_eq_true rfl) (Nat.le_of_eq (Nat.sub_add_cancel (by omega))) (w_Mo_hands (by omega) (okx_mono (okx_bd h) ?_))
  intro r451 s452 h
  show Xw _ _ _ _ 1766 _ [_, _] _ _
  refine xi_icmp_eq D_La_law_1766 (fun c453 => ?_) (fun c453 => ?_)
  · have h := okx_T c453 h
    exact xi_less (Nat.mul_le_mul_left _ (Nat.le_succ _)) (Nat.mul_le_mul_left _ (Nat.le_succ _)) (w_La_law_b1966 (by omega) hR23 h)
  · have h := okx_F c453 h
    refine xj_iconst (v := 0) D_La_law_1769 rfl ?_
    exact xi_ireturn D_La_law_1770 rfl (rfl) (okx_I h)
noncomputable def f_La_law_b1836 (R23 : Int32 → Sg → Option (Int32 × Sg)) (x4 : Int32) (s : Sg) : Option (Int32 × Sg) :=
  f_La_law_b1966 R23 x4 s
theorem w_La_law_b1836 {x4 : Int32} {s : Sg} {d : Nat} {Q : Option (Option Value) → Sg → Prop} (hd : 64 ≤ d) {n : Nat} {R23 : Int32 → Sg → Option (Int32 × Sg)} (hR23 : ∀ (x4 : Int32) (s : Sg), okx (zq_I Q) (R23 x4 s) → Xw d M_La_law (10 * n) (1064 * n) 23 [.ref 0, .ref 4, .ref 46, .ref 80, .int x4, .retAddr 0, .retAddr 0, .retAddr 0] [] s Q) (h : okx (zq_I Q) (f_La_law_b1836 R23 x4 s)) : Xw d M_La_law (10 * n) (1064 * n) 1836 [.ref 0, .ref 4, .ref 46, .ref 80, .int x4, .retAddr 0, .retAddr 0, .retAddr 0] [] s Q := by
  unfold f_La_law_b1836 at h
  refine xi_goto D_La_law_1836 ?_
  exact w_La_law_b1966 (by omega) hR23 h
noncomputable def f_La_law_b1771 (R23 : Int32 → Sg → Option (Int32 × Sg)) (x4 : Int32) (s : Sg) : Option (Int32 × Sg) :=
  f_ck (vp_in (x4 + 1) (Int32.toNatClampNeg (mI s 0 4000))) <|
  f_ck (vp_in (x4 + 2) (Int32.toNatClampNeg (mI s 0 4000))) <|
  f_bd (f_La_leaving (mI s 0 (Int32.toNatClampNeg (x4 + 1))) (mI s 0 (Int32.toNatClampNeg (x4 + 2))) s) fun r456 s457 =>
  f_ck (vp_in (x4 + 1) (Int32.toNatClampNeg (mI s457 0 4000))) <|
  f_ck (vp_in (x4 + 2) (Int32.toNatClampNeg (mI s457 0 4000))) <|
  f_ck (zl_B s457) <|
  f_bd (f_Mo_leaving (mI s457 0 (Int32.toNatClampNeg (x4 + 1))) (mI s457 0 (Int32.toNatClampNeg (x4 + 2))) s457) fun r461 s462 =>
  f_ck (zl_B s462) <|
  f_bd (f_Mo_thrown  s462) fun r464 s465 =>
  if r464 = r456 then
    if r456 = 0 then
      f_ck (zl_B s465) <|
      if (lg_cmp (mL s465 80 (Int32.toNatClampNeg (0 : Int32))) (Int32.toInt64 r461)) = 0 then
        f_La_law_b1836 R23 x4 s465
      else
        some (0, s465)
    else
      f_La_law_b1836 R23 x4 s465
  else
    some (0, s465)
theorem w_La_law_b1771 {x4 : Int32} {s : Sg} {d : Nat} {Q : Option (Option Value) → Sg → Prop} (hd : 64 ≤ d) {n : Nat} {R23 : Int32 → Sg → Option (Int32 × Sg)} (hR23 : ∀ (x4 : Int32) (s : Sg), okx (zq_I Q) (R23 x4 s) → Xw d M_La_law (10 * n) (1064 * n) 23 [.ref 0, .ref 4, .ref 46, .ref 80, .int x4, .retAddr 0, .retAddr 0, .retAddr 0] [] s Q) (h : okx (zq_I Q) (f_La_law_b1771 R23 x4 s)) : Xw d M_La_law (10 * (n + 1)) (1064 * (n + 1)) 1771 [.ref 0, .ref 4, .ref 46, .ref 80, .int x4, .retAddr 0, .retAddr 0, .retAddr 0] [] s Q := by
  unfold f_La_law_b1771 at h
  refine xi_aload_n D_La_law_1771 rfl ?_
  refine xi_aload_n D_La_law_1772 rfl ?_
  refine xi_iload D_La_law_1773 rfl ?_
  refine xj_iconst (v := 1) D_La_law_1775 rfl ?_
  refine xi_iadd D_La_law_1776 ?_
  obtain ⟨g454, h⟩ := okx_ck h
  refine xi_sld D_La_law_1777 g454 ?_
  refine xi_aload_n D_La_law_1778 rfl ?_
  refine xi_iload D_La_law_1779 rfl ?_
  refine xj_iconst (v := 2) D_La_law_1781 rfl ?_
  refine xi_iadd D_La_law_1782 ?_
  obtain ⟨g455, h⟩ := okx_ck h
  refine xi_sld D_La_law_1783 g455 ?_
  refine xi_aload_n D_La_law_1784 rfl ?_
  refine xi_SW [_, _, _, _] D_La_law_1785 L_La_189 C_La_leaving.1 C_La_leaving.2.1 ⟨(Nat.le_of_ble_eq_true rfl), C_La_leaving.2.2, (Nat.le_of_eq (Nat.sub_add_cancel (by omega))), zl_bue (by decide), zl_buf (by decide)⟩ (w_La_leaving (by omega) (okx_mono (okx_bd h) ?_))
  intro r456 s457 h
  show Xw _ _ _ _ 1788 _ [_] _ _
  refine xi_less (zl_bud (by decide)) (zl_bus (by decide)) ?_
  refine xi_istore (ls' := [_, _, _, _, _, _, _, _]) D_La_law_1788 rfl (by decide) ?_
  refine xi_aload_n D_La_law_1790 rfl ?_
  refine xi_aload_n D_La_law_1791 rfl ?_
  refine xi_iload D_La_law_1792 rfl ?_
  refine xj_iconst (v := 1) D_La_law_1794 rfl ?_
  refine xi_iadd D_La_law_1795 ?_
  obtain ⟨g458, h⟩ := okx_ck h
  refine xi_sld D_La_law_1796 g458 ?_
  refine xi_aload_n D_La_law_1797 rfl ?_
  refine xi_iload D_La_law_1798 rfl ?_
  refine xj_iconst (v := 2) D_La_law_1800 rfl ?_
  refine xi_iadd D_La_law_1801 ?_
  obtain ⟨g459, h⟩ := okx_ck h
  refine xi_sld D_La_law_1802 g459 ?_
  obtain ⟨g460, h⟩ := okx_ck h
  refine xj_V2 D_La_law_1803 L_La_191 C_Mo_leaving Z_Mo_leaving (zl_fo (g460).1 rfl) (Nat.le_of_ble_eq_true rfl) (Nat.le_of_eq (Nat.sub_add_cancel (by omega))) (w_Mo_leaving (by omega) (okx_mono (okx_bd h) ?_))
  intro r461 s462 h
  show Xw _ _ _ _ 1806 _ [_] _ _
  refine xi_istore (ls' := [_, _, _, _, _, _, _, _]) D_La_law_1806 rfl (by decide) ?_
  refine xi_aload_n D_La_law_1808 rfl ?_
  obtain ⟨g463, h⟩ := okx_ck h
  refine xj_V0 D_La_law_1809 L_La_84 C_Mo_thrown Z_Mo_thrown (zl_fo (g463).1 rfl) (Nat.le_of_ble_eq_true rfl) (Nat.le_of_eq (Nat.sub_add_cancel (by omega))) (w_Mo_thrown (by omega) (okx_mono (okx_bd h) ?_))
  intro r464 s465 h
  show Xw _ _ _ _ 1812 _ [_] _ _
  refine xi_iload D_La_law_1812 rfl ?_
  refine xi_icmp_eq D_La_law_1814 (fun c466 => ?_) (fun c466 => ?_)
  · have h := okx_T c466 h
    refine xi_iload D_La_law_1819 rfl ?_
    refine xi_if_ne D_La_law_1821 (fun c467 => ?_) (fun c467 => ?_)
    · have h := okx_F c467 h
      exact xk_wk (w_La_law_b1836 (by omega) hR23 h) ⟨Or.inl rfl, Or.inl rfl, Or.inl rfl, Or.inl rfl, Or.inl rfl, Or.inr rfl, Or.inr rfl, Or.inl rfl, trivial⟩
    · have h := okx_T c467 h
      refine xi_aload_n D_La_law_1824 rfl ?_
      refine xj_iconst (v := 0) D_La_law_1825 rfl ?_
      obtain ⟨g468, h⟩ := okx_ck h
      refine xj_lald D_La_law_1826 (zl_fx (g468).1 rfl) (zl_ib (n := 1) rfl (zl_vin rfl)) ?_
      refine xi_iload D_La_law_1827 rfl ?_
      refine xi_i2l D_La_law_1829 ?_
      refine xi_lcmp D_La_law_1830 ?_
      refine xi_if_eq D_La_law_1831 (fun c469 => ?_) (fun c469 => ?_)
      · have h := okx_T c469 h
        exact xk_wk (w_La_law_b1836 (by omega) hR23 h) ⟨Or.inl rfl, Or.inl rfl, Or.inl rfl, Or.inl rfl, Or.inl rfl, Or.inr rfl, Or.inr rfl, Or.inl rfl, trivial⟩
      · have h := okx_F c469 h
        refine xj_iconst (v := 0) D_La_law_1834 rfl ?_
        exact xi_ireturn D_La_law_1835 rfl (rfl) (okx_I h)
  · have h := okx_F c466 h
    refine xj_iconst (v := 0) D_La_law_1817 rfl ?_
    exact xi_ireturn D_La_law_1818 rfl (rfl) (okx_I h)
noncomputable def f_La_law_b1839 (R23 : Int32 → Sg → Option (Int32 × Sg)) (x4 : Int32) (s : Sg) : Option (Int32 × Sg) :=
  f_ck (vp_in (x4 + 1) (Int32.toNatClampNeg (mI s 0 4000))) <|
  f_ck (vp_in (x4 + 2) (Int32.toNatClampNeg (mI s 0 4000))) <|
  f_ck (vp_in (x4 + 3) (Int32.toNatClampNeg (mI s 0 4000))) <|
  f_ck (zl_B s) <|
  f_bd (f_Wk_edge (mI s 0 (Int32.toNatClampNeg (x4 + 1))) (mI s 0 (Int32.toNatClampNeg (x4 + 2))) (mI s 0 (Int32.toNatClampNeg (x4 + 3))) s) fun r474 s475 =>
  f_ck (vp_in (x4 + 1) (Int32.toNatClampNeg (mI s475 0 4000))) <|
  f_ck (vp_in (x4 + 2) (Int32.toNatClampNeg (mI s475 0 4000))) <|
  f_ck (vp_in (x4 + 3) (Int32.toNatClampNeg (mI s475 0 4000))) <|
  f_ck (zl_B s475) <|
  f_bd (f_Mo_edge (mI s475 0 (Int32.toNatClampNeg (x4 + 1))) (mI s475 0 (Int32.toNatClampNeg (x4 + 2))) (mI s475 0 (Int32.toNatClampNeg (x4 + 3))) s475) fun r480 s481 =>
  if r474 = r480 then
    f_La_law_b1966 R23 x4 s481
  else
    some (0, s481)
theorem w_La_law_b1839 {x4 : Int32} {s : Sg} {d : Nat} {Q : Option (Option Value) → Sg → Prop} (hd : 64 ≤ d) {n : Nat} {R23 : Int32 → Sg → Option (Int32 × Sg)} (hR23 : ∀ (x4 : Int32) (s : Sg), okx (zq_I Q) (R23 x4 s) → Xw d M_La_law (10 * n) (1064 * n) 23 [.ref 0, .ref 4, .ref 46, .ref 80, .int x4, .retAddr 0, .retAddr 0, .retAddr 0] [] s Q) (h : okx (zq_I Q) (f_La_law_b1839 R23 x4 s)) : Xw d M_La_law (10 * (n + 1)) (1064 * (n + 1)) 1839 [.ref 0, .ref 4, .ref 46, .ref 80, .int x4, .retAddr 0, .retAddr 0, .retAddr 0] [] s Q := by
  unfold f_La_law_b1839 at h
  refine xi_aload_n D_La_law_1839 rfl ?_
  refine xi_aload_n D_La_law_1840 rfl ?_
  refine xi_iload D_La_law_1841 rfl ?_
  refine xj_iconst (v := 1) D_La_law_1843 rfl ?_
  refine xi_iadd D_La_law_1844 ?_
  obtain ⟨g470, h⟩ := okx_ck h
  refine xi_sld D_La_law_1845 g470 ?_
  refine xi_aload_n D_La_law_1846 rfl ?_
  refine xi_iload D_La_law_1847 rfl ?_
  refine xj_iconst (v := 2) D_La_law_1849 rfl ?_
  refine xi_iadd D_La_law_1850 ?_
  obtain ⟨g471, h⟩ := okx_ck h
  refine xi_sld D_La_law_1851 g471 ?_
  refine xi_aload_n D_La_law_1852 rfl ?_
  refine xi_iload D_La_law_1853 rfl ?_
  refine xj_iconst (v := 3) D_La_law_1855 rfl ?_
  refine xi_iadd D_La_law_1856 ?_
  obtain ⟨g472, h⟩ := okx_ck h
  refine xi_sld D_La_law_1857 g472 ?_
  obtain ⟨g473, h⟩ := okx_ck h
  refine xj_V3 D_La_law_1858 L_La_192 C_Wk_edge Z_Wk_edge (zl_fo (g473).1 rfl) (Nat.le_of_ble_eq_true rfl) (Nat.le_of_eq (Nat.sub_add_cancel (by omega))) (w_Wk_edge (by omega) (okx_mono (okx_bd h) ?_))
  intro r474 s475 h
  show Xw _ _ _ _ 1861 _ [_] _ _
  refine xi_aload_n D_La_law_1861 rfl ?_
  refine xi_aload_n D_La_law_1862 rfl ?_
  refine xi_iload D_La_law_1863 rfl ?_
  refine xj_iconst (v := 1) D_La_law_1865 rfl ?_
  refine xi_iadd D_La_law_1866 ?_
  obtain ⟨g476, h⟩ := okx_ck h
  refine xi_sld D_La_law_1867 g476 ?_
  refine xi_aload_n D_La_law_1868 rfl ?_
  refine xi_iload D_La_law_1869 rfl ?_
  refine xj_iconst (v := 2) D_La_law_1871 rfl ?_
  refine xi_iadd D_La_law_1872 ?_
  obtain ⟨g477, h⟩ := okx_ck h
  refine xi_sld D_La_law_1873 g477 ?_
  refine xi_aload_n D_La_law_1874 rfl ?_
  refine xi_iload D_La_law_1875 rfl ?_
  refine xj_iconst (v := 3) D_La_law_1877 rfl ?_
  refine xi_iadd D_La_law_1878 ?_
  obtain ⟨g478, h⟩ := okx_ck h
  refine xi_sld D_La_law_1879 g478 ?_
  obtain ⟨g479, h⟩ := okx_ck h
  refine xj_V3 D_La_law_1880 L_La_195 C_Mo_edge Z_Mo_edge (zl_fo (g479).1 rfl) (Nat.le_of_ble_eq_true rfl) (Nat.le_of_eq (Nat.sub_add_cancel (by omega))) (w_Mo_edge (by omega) (okx_mono (okx_bd h) ?_))
  intro r480 s481 h
  show Xw _ _ _ _ 1883 _ [_, _] _ _
  refine xi_icmp_eq D_La_law_1883 (fun c482 => ?_) (fun c482 => ?_)
  · have h := okx_T c482 h
    exact xi_less (Nat.mul_le_mul_left _ (Nat.le_succ _)) (Nat.mul_le_mul_left _ (Nat.le_succ _)) (w_La_law_b1966 (by omega) hR23 h)
  · have h := okx_F c482 h
    refine xj_iconst (v := 0) D_La_law_1886 rfl ?_
    exact xi_ireturn D_La_law_1887 rfl (rfl) (okx_I h)
noncomputable def f_La_law_b1933 (R23 : Int32 → Sg → Option (Int32 × Sg)) (x4 : Int32) (y0 : Int32) (y2 : Int32) (y3 : Int32) (s : Sg) : Option (Int32 × Sg) :=
  f_ck (zl_B s) <|
  f_bd (f_Mo_mark y2 y3 s) fun r493 s494 =>
  if y0 = r493 then
    f_La_law_b1966 R23 x4 s494
  else
    some (0, s494)
theorem w_La_law_b1933 {x4 : Int32} {y0 : Int32} {y2 : Int32} {y3 : Int32} {s : Sg} {d : Nat} {Q : Option (Option Value) → Sg → Prop} (hd : 64 ≤ d) {n : Nat} {R23 : Int32 → Sg → Option (Int32 × Sg)} (hR23 : ∀ (x4 : Int32) (s : Sg), okx (zq_I Q) (R23 x4 s) → Xw d M_La_law (10 * n) (1064 * n) 23 [.ref 0, .ref 4, .ref 46, .ref 80, .int x4, .retAddr 0, .retAddr 0, .retAddr 0] [] s Q) (h : okx (zq_I Q) (f_La_law_b1933 R23 x4 y0 y2 y3 s)) : Xw d M_La_law (10 * n) (1064 * n) 1933 [.ref 0, .ref 4, .ref 46, .ref 80, .int x4, .retAddr 0, .retAddr 0, .retAddr 0] [.int y3, .int y2, .ref 46, .int y0] s Q := by
  unfold f_La_law_b1933 at h
  obtain ⟨g492, h⟩ := okx_ck h
  refine xj_V2 D_La_law_1933 L_La_200 C_Mo_mark Z_Mo_mark (zl_fo (g492).1 rfl) (Nat.le_of_ble_eq_true rfl) (Nat.le_of_eq (Nat.sub_add_cancel (by omega))) (w_Mo_mark (by omega) (okx_mono (okx_bd h) ?_))
  intro r493 s494 h
  show Xw _ _ _ _ 1936 _ [_, _] _ _
  refine xi_icmp_eq D_La_law_1936 (fun c495 => ?_) (fun c495 => ?_)
  · have h := okx_T c495 h
    exact w_La_law_b1966 (by omega) hR23 h
  · have h := okx_F c495 h
    refine xj_iconst (v := 0) D_La_law_1939 rfl ?_
    exact xi_ireturn D_La_law_1940 rfl (rfl) (okx_I h)
noncomputable def f_La_law_b1909 (R23 : Int32 → Sg → Option (Int32 × Sg)) (x4 : Int32) (y1 : Int32) (y2 : Int32) (s : Sg) : Option (Int32 × Sg) :=
  f_ck (zl_B s) <|
  f_bd (f_Wk_mark y1 y2 s) fun r487 s488 =>
  f_ck (vp_in (x4 + 1) (Int32.toNatClampNeg (mI s488 0 4000))) <|
  f_ck (vp_in (x4 + 2) (Int32.toNatClampNeg (mI s488 0 4000))) <|
  if (mI s488 0 (Int32.toNatClampNeg (x4 + 2))) = 0 then
    f_La_law_b1933 R23 x4 r487 (mI s488 0 (Int32.toNatClampNeg (x4 + 1))) 0 s488
  else
    f_La_law_b1933 R23 x4 r487 (mI s488 0 (Int32.toNatClampNeg (x4 + 1))) 1 s488
theorem w_La_law_b1909 {x4 : Int32} {y1 : Int32} {y2 : Int32} {s : Sg} {d : Nat} {Q : Option (Option Value) → Sg → Prop} (hd : 64 ≤ d) {n : Nat} {R23 : Int32 → Sg → Option (Int32 × Sg)} (hR23 : ∀ (x4 : Int32) (s : Sg), okx (zq_I Q) (R23 x4 s) → Xw d M_La_law (10 * n) (1064 * n) 23 [.ref 0, .ref 4, .ref 46, .ref 80, .int x4, .retAddr 0, .retAddr 0, .retAddr 0] [] s Q) (h : okx (zq_I Q) (f_La_law_b1909 R23 x4 y1 y2 s)) : Xw d M_La_law (10 * (n + 1)) (1064 * (n + 1)) 1909 [.ref 0, .ref 4, .ref 46, .ref 80, .int x4, .retAddr 0, .retAddr 0, .retAddr 0] [.int y2, .int y1, .ref 4] s Q := by
  unfold f_La_law_b1909 at h
  obtain ⟨g486, h⟩ := okx_ck h
  refine xi_V (k := 5) [_, _] D_La_law_1909 L_La_196 C_Wk_mark.1 C_Wk_mark.2.1 ⟨zl_fo (g486).1 rfl, rfl⟩ ⟨Nat.le_of_ble_eq_true rfl, C_Wk_mark.2.2.1, (Nat.le_of_eq (Nat.sub_add_cancel (by omega))), zl_bue (by decide), zl_buf (by decide)⟩ (w_Wk_mark (by omega) (okx_mono (okx_bd h) ?_))
  intro r487 s488 h
  show Xw _ _ _ _ 1912 _ [_] _ _
  refine xi_less (zl_bud (by decide)) (zl_bus (by decide)) ?_
  refine xi_aload_n D_La_law_1912 rfl ?_
  refine xi_aload_n D_La_law_1913 rfl ?_
  refine xi_iload D_La_law_1914 rfl ?_
  refine xj_iconst (v := 1) D_La_law_1916 rfl ?_
  refine xi_iadd D_La_law_1917 ?_
  obtain ⟨g489, h⟩ := okx_ck h
  refine xi_sld D_La_law_1918 g489 ?_
  refine xi_aload_n D_La_law_1919 rfl ?_
  refine xi_iload D_La_law_1920 rfl ?_
  refine xj_iconst (v := 2) D_La_law_1922 rfl ?_
  refine xi_iadd D_La_law_1923 ?_
  obtain ⟨g490, h⟩ := okx_ck h
  refine xi_sld D_La_law_1924 g490 ?_
  refine xi_if_eq D_La_law_1925 (fun c491 => ?_) (fun c491 => ?_)
  · have h := okx_T c491 h
    refine xj_iconst (v := 0) D_La_law_1932 rfl ?_
    exact w_La_law_b1933 (by omega) hR23 h
  · have h := okx_F c491 h
    refine xj_iconst (v := 1) D_La_law_1928 rfl ?_
    refine xi_goto D_La_law_1929 ?_
    exact w_La_law_b1933 (by omega) hR23 h
noncomputable def f_La_law_b1888 (R23 : Int32 → Sg → Option (Int32 × Sg)) (x4 : Int32) (s : Sg) : Option (Int32 × Sg) :=
  f_ck (vp_in (x4 + 1) (Int32.toNatClampNeg (mI s 0 4000))) <|
  f_ck (vp_in (x4 + 2) (Int32.toNatClampNeg (mI s 0 4000))) <|
  if (mI s 0 (Int32.toNatClampNeg (x4 + 2))) = 0 then
    f_La_law_b1909 R23 x4 (mI s 0 (Int32.toNatClampNeg (x4 + 1))) 0 s
  else
    f_La_law_b1909 R23 x4 (mI s 0 (Int32.toNatClampNeg (x4 + 1))) 1 s
theorem w_La_law_b1888 {x4 : Int32} {s : Sg} {d : Nat} {Q : Option (Option Value) → Sg → Prop} (hd : 64 ≤ d) {n : Nat} {R23 : Int32 → Sg → Option (Int32 × Sg)} (hR23 : ∀ (x4 : Int32) (s : Sg), okx (zq_I Q) (R23 x4 s) → Xw d M_La_law (10 * n) (1064 * n) 23 [.ref 0, .ref 4, .ref 46, .ref 80, .int x4, .retAddr 0, .retAddr 0, .retAddr 0] [] s Q) (h : okx (zq_I Q) (f_La_law_b1888 R23 x4 s)) : Xw d M_La_law (10 * (n + 1)) (1064 * (n + 1)) 1888 [.ref 0, .ref 4, .ref 46, .ref 80, .int x4, .retAddr 0, .retAddr 0, .retAddr 0] [] s Q := by
  unfold f_La_law_b1888 at h
  refine xi_aload_n D_La_law_1888 rfl ?_
  refine xi_aload_n D_La_law_1889 rfl ?_
  refine xi_iload D_La_law_1890 rfl ?_
  refine xj_iconst (v := 1) D_La_law_1892 rfl ?_
  refine xi_iadd D_La_law_1893 ?_
  obtain ⟨g483, h⟩ := okx_ck h
  refine xi_sld D_La_law_1894 g483 ?_
  refine xi_aload_n D_La_law_1895 rfl ?_
  refine xi_iload D_La_law_1896 rfl ?_
  refine xj_iconst (v := 2) D_La_law_1898 rfl ?_
  refine xi_iadd D_La_law_1899 ?_
  obtain ⟨g484, h⟩ := okx_ck h
  refine xi_sld D_La_law_1900 g484 ?_
  refine xi_if_eq D_La_law_1901 (fun c485 => ?_) (fun c485 => ?_)
  · have h := okx_T c485 h
    refine xj_iconst (v := 0) D_La_law_1908 rfl ?_
    exact w_La_law_b1909 (by omega) hR23 h
  · have h := okx_F c485 h
    refine xj_iconst (v := 1) D_La_law_1904 rfl ?_
    refine xi_goto D_La_law_1905 ?_
    exact w_La_law_b1909 (by omega) hR23 h
noncomputable def f_La_law_b1941 (R23 : Int32 → Sg → Option (Int32 × Sg)) (x4 : Int32) (s : Sg) : Option (Int32 × Sg) :=
  f_ck (vp_in (x4 + 1) (Int32.toNatClampNeg (mI s 0 4000))) <|
  f_ck (zl_B s) <|
  f_bd (f_Wk_count (mI s 0 (Int32.toNatClampNeg (x4 + 1))) s) fun r498 s499 =>
  f_ck (vp_in (x4 + 1) (Int32.toNatClampNeg (mI s499 0 4000))) <|
  f_ck (zl_B s499) <|
  f_bd (f_Mo_count (mI s499 0 (Int32.toNatClampNeg (x4 + 1))) s499) fun r502 s503 =>
  if r498 = r502 then
    f_La_law_b1966 R23 x4 s503
  else
    some (0, s503)
theorem w_La_law_b1941 {x4 : Int32} {s : Sg} {d : Nat} {Q : Option (Option Value) → Sg → Prop} (hd : 64 ≤ d) {n : Nat} {R23 : Int32 → Sg → Option (Int32 × Sg)} (hR23 : ∀ (x4 : Int32) (s : Sg), okx (zq_I Q) (R23 x4 s) → Xw d M_La_law (10 * n) (1064 * n) 23 [.ref 0, .ref 4, .ref 46, .ref 80, .int x4, .retAddr 0, .retAddr 0, .retAddr 0] [] s Q) (h : okx (zq_I Q) (f_La_law_b1941 R23 x4 s)) : Xw d M_La_law (10 * (n + 1)) (1064 * (n + 1)) 1941 [.ref 0, .ref 4, .ref 46, .ref 80, .int x4, .retAddr 0, .retAddr 0, .retAddr 0] [] s Q := by
  unfold f_La_law_b1941 at h
  refine xi_aload_n D_La_law_1941 rfl ?_
  refine xi_aload_n D_La_law_1942 rfl ?_
  refine xi_iload D_La_law_1943 rfl ?_
  refine xj_iconst (v := 1) D_La_law_1945 rfl ?_
  refine xi_iadd D_La_law_1946 ?_
  obtain ⟨g496, h⟩ := okx_ck h
  refine xi_sld D_La_law_1947 g496 ?_
  obtain ⟨g497, h⟩ := okx_ck h
  refine xj_V1 D_La_law_1948 L_La_201 C_Wk_count Z_Wk_count (zl_fo (g497).1 rfl) (Nat.le_of_ble_eq_true rfl) (Nat.le_of_eq (Nat.sub_add_cancel (by omega))) (w_Wk_count (by omega) (okx_mono (okx_bd h) ?_))
  intro r498 s499 h
  show Xw _ _ _ _ 1951 _ [_] _ _
  refine xi_aload_n D_La_law_1951 rfl ?_
  refine xi_aload_n D_La_law_1952 rfl ?_
  refine xi_iload D_La_law_1953 rfl ?_
  refine xj_iconst (v := 1) D_La_law_1955 rfl ?_
  refine xi_iadd D_La_law_1956 ?_
  obtain ⟨g500, h⟩ := okx_ck h
  refine xi_sld D_La_law_1957 g500 ?_
  obtain ⟨g501, h⟩ := okx_ck h
  refine xj_V1 D_La_law_1958 L_La_204 C_Mo_count Z_Mo_count (zl_fo (g501).1 rfl) (Nat.le_of_ble_eq_true rfl) (Nat.le_of_eq (Nat.sub_add_cancel (by omega))) (w_Mo_count (by omega) (okx_mono (okx_bd h) ?_))
  intro r502 s503 h
  show Xw _ _ _ _ 1961 _ [_, _] _ _
  refine xi_icmp_eq D_La_law_1961 (fun c504 => ?_) (fun c504 => ?_)
  · have h := okx_T c504 h
    exact xi_less (Nat.mul_le_mul_left _ (Nat.le_succ _)) (Nat.mul_le_mul_left _ (Nat.le_succ _)) (w_La_law_b1966 (by omega) hR23 h)
  · have h := okx_F c504 h
    refine xj_iconst (v := 0) D_La_law_1964 rfl ?_
    exact xi_ireturn D_La_law_1965 rfl (rfl) (okx_I h)
noncomputable def f_La_law_b23 (R23 : Int32 → Sg → Option (Int32 × Sg)) (x4 : Int32) (s : Sg) : Option (Int32 × Sg) :=
  f_ck (¬ mI s 0 4000 < 0) <|
  if ((mI s 0 4000) - 7) < x4 then
    some (1, s)
  else
    f_ck (vp_in x4 (Int32.toNatClampNeg (mI s 0 4000))) <|
    if ((mI s 0 (Int32.toNatClampNeg x4)) &&& 63) = 0 then
      f_La_law_b196 R23 x4 s
    else
    if ((mI s 0 (Int32.toNatClampNeg x4)) &&& 63) = 1 then
      f_La_law_b343 R23 x4 s
    else
    if ((mI s 0 (Int32.toNatClampNeg x4)) &&& 63) = 2 then
      f_La_law_b356 R23 x4 s
    else
    if ((mI s 0 (Int32.toNatClampNeg x4)) &&& 63) = 3 then
      f_La_law_b393 R23 x4 s
    else
    if ((mI s 0 (Int32.toNatClampNeg x4)) &&& 63) = 4 then
      f_La_law_b473 R23 x4 s
    else
    if ((mI s 0 (Int32.toNatClampNeg x4)) &&& 63) = 5 then
      f_La_law_b522 R23 x4 s
    else
    if ((mI s 0 (Int32.toNatClampNeg x4)) &&& 63) = 6 then
      f_La_law_b559 R23 x4 s
    else
    if ((mI s 0 (Int32.toNatClampNeg x4)) &&& 63) = 7 then
      f_La_law_b608 R23 x4 s
    else
    if ((mI s 0 (Int32.toNatClampNeg x4)) &&& 63) = 8 then
      f_La_law_b633 R23 x4 s
    else
    if ((mI s 0 (Int32.toNatClampNeg x4)) &&& 63) = 9 then
      f_La_law_b658 R23 x4 s
    else
    if ((mI s 0 (Int32.toNatClampNeg x4)) &&& 63) = 10 then
      f_La_law_b726 R23 x4 s
    else
    if ((mI s 0 (Int32.toNatClampNeg x4)) &&& 63) = 11 then
      f_La_law_b763 R23 x4 s
    else
    if ((mI s 0 (Int32.toNatClampNeg x4)) &&& 63) = 12 then
      f_La_law_b842 R23 x4 s
    else
    if ((mI s 0 (Int32.toNatClampNeg x4)) &&& 63) = 13 then
      f_La_law_b879 R23 x4 s
    else
    if ((mI s 0 (Int32.toNatClampNeg x4)) &&& 63) = 14 then
      f_La_law_b904 R23 x4 s
    else
    if ((mI s 0 (Int32.toNatClampNeg x4)) &&& 63) = 15 then
      f_La_law_b960 R23 x4 s
    else
    if ((mI s 0 (Int32.toNatClampNeg x4)) &&& 63) = 16 then
      f_La_law_b985 R23 x4 s
    else
    if ((mI s 0 (Int32.toNatClampNeg x4)) &&& 63) = 17 then
      f_La_law_b1041 R23 x4 s
    else
    if ((mI s 0 (Int32.toNatClampNeg x4)) &&& 63) = 18 then
      f_La_law_b1097 R23 x4 s
    else
    if ((mI s 0 (Int32.toNatClampNeg x4)) &&& 63) = 19 then
      f_La_law_b1122 R23 x4 s
    else
    if ((mI s 0 (Int32.toNatClampNeg x4)) &&& 63) = 20 then
      f_La_law_b1178 R23 x4 s
    else
    if ((mI s 0 (Int32.toNatClampNeg x4)) &&& 63) = 21 then
      f_La_law_b1203 R23 x4 s
    else
    if ((mI s 0 (Int32.toNatClampNeg x4)) &&& 63) = 22 then
      f_La_law_b1216 R23 x4 s
    else
    if ((mI s 0 (Int32.toNatClampNeg x4)) &&& 63) = 23 then
      f_La_law_b1241 R23 x4 s
    else
    if ((mI s 0 (Int32.toNatClampNeg x4)) &&& 63) = 24 then
      f_La_law_b1278 R23 x4 s
    else
    if ((mI s 0 (Int32.toNatClampNeg x4)) &&& 63) = 25 then
      f_La_law_b1346 R23 x4 s
    else
    if ((mI s 0 (Int32.toNatClampNeg x4)) &&& 63) = 26 then
      f_La_law_b1414 R23 x4 s
    else
    if ((mI s 0 (Int32.toNatClampNeg x4)) &&& 63) = 27 then
      f_La_law_b1482 R23 x4 s
    else
    if ((mI s 0 (Int32.toNatClampNeg x4)) &&& 63) = 28 then
      f_La_law_b1574 R23 x4 s
    else
    if ((mI s 0 (Int32.toNatClampNeg x4)) &&& 63) = 29 then
      f_La_law_b1666 R23 x4 s
    else
    if ((mI s 0 (Int32.toNatClampNeg x4)) &&& 63) = 30 then
      f_La_law_b1758 R23 x4 s
    else
    if ((mI s 0 (Int32.toNatClampNeg x4)) &&& 63) = 31 then
      f_La_law_b1771 R23 x4 s
    else
    if ((mI s 0 (Int32.toNatClampNeg x4)) &&& 63) = 32 then
      f_La_law_b1839 R23 x4 s
    else
    if ((mI s 0 (Int32.toNatClampNeg x4)) &&& 63) = 33 then
      f_La_law_b1888 R23 x4 s
    else
    if ((mI s 0 (Int32.toNatClampNeg x4)) &&& 63) = 34 then
      f_La_law_b1941 R23 x4 s
    else
      f_La_law_b1966 R23 x4 s
theorem w_La_law_b23 {x4 : Int32} {s : Sg} {d : Nat} {Q : Option (Option Value) → Sg → Prop} (hd : 64 ≤ d) {n : Nat} {R23 : Int32 → Sg → Option (Int32 × Sg)} (hR23 : ∀ (x4 : Int32) (s : Sg), okx (zq_I Q) (R23 x4 s) → Xw d M_La_law (10 * n) (1064 * n) 23 [.ref 0, .ref 4, .ref 46, .ref 80, .int x4, .retAddr 0, .retAddr 0, .retAddr 0] [] s Q) (h : okx (zq_I Q) (f_La_law_b23 R23 x4 s)) : Xw d M_La_law (10 * (n + 1)) (1064 * (n + 1)) 23 [.ref 0, .ref 4, .ref 46, .ref 80, .int x4, .retAddr 0, .retAddr 0, .retAddr 0] [] s Q := by
  unfold f_La_law_b23 at h
  refine xi_iload D_La_law_23 rfl ?_
  refine xi_aload_n D_La_law_25 rfl ?_
  obtain ⟨g16, h⟩ := okx_ck h
  refine xi_slen D_La_law_26 g16 ?_
  refine xi_bipush (v := 7) D_La_law_27 rfl ?_
  refine xi_isub D_La_law_29 ?_
  refine xi_icmp_gt D_La_law_30 (fun c17 => ?_) (fun c17 => ?_)
  · have h := okx_T c17 h
    refine xj_iconst (v := 1) D_La_law_1972 rfl ?_
    exact xi_ireturn D_La_law_1973 rfl (rfl) (okx_I h)
  · have h := okx_F c17 h
    refine xi_aload_n D_La_law_33 rfl ?_
    refine xi_iload D_La_law_34 rfl ?_
    obtain ⟨g18, h⟩ := okx_ck h
    refine xi_sld D_La_law_36 g18 ?_
    refine xi_bipush (v := 63) D_La_law_37 rfl ?_
    refine xi_iand D_La_law_39 ?_
    by_cases c19 : ((mI s 0 (Int32.toNatClampNeg x4)) &&& 63) = 0
    · have h := okx_T c19 h
      refine xi_tableIn (tgt := 196) D_La_law_40 (by rw [c19]; decide) (by rw [c19]; decide) (by rw [c19]; rfl) (by decide) ?_
      exact w_La_law_b196 (by omega) hR23 h
    have h := okx_F c19 h
    by_cases c20 : ((mI s 0 (Int32.toNatClampNeg x4)) &&& 63) = 1
    · have h := okx_T c20 h
      refine xi_tableIn (tgt := 343) D_La_law_40 (by rw [c20]; decide) (by rw [c20]; decide) (by rw [c20]; rfl) (by decide) ?_
      exact w_La_law_b343 (by omega) hR23 h
    have h := okx_F c20 h
    by_cases c21 : ((mI s 0 (Int32.toNatClampNeg x4)) &&& 63) = 2
    · have h := okx_T c21 h
      refine xi_tableIn (tgt := 356) D_La_law_40 (by rw [c21]; decide) (by rw [c21]; decide) (by rw [c21]; rfl) (by decide) ?_
      exact w_La_law_b356 (by omega) hR23 h
    have h := okx_F c21 h
    by_cases c22 : ((mI s 0 (Int32.toNatClampNeg x4)) &&& 63) = 3
    · have h := okx_T c22 h
      refine xi_tableIn (tgt := 393) D_La_law_40 (by rw [c22]; decide) (by rw [c22]; decide) (by rw [c22]; rfl) (by decide) ?_
      exact w_La_law_b393 (by omega) hR23 h
    have h := okx_F c22 h
    by_cases c23 : ((mI s 0 (Int32.toNatClampNeg x4)) &&& 63) = 4
    · have h := okx_T c23 h
      refine xi_tableIn (tgt := 473) D_La_law_40 (by rw [c23]; decide) (by rw [c23]; decide) (by rw [c23]; rfl) (by decide) ?_
      exact w_La_law_b473 (by omega) hR23 h
    have h := okx_F c23 h
    by_cases c24 : ((mI s 0 (Int32.toNatClampNeg x4)) &&& 63) = 5
    · have h := okx_T c24 h
      refine xi_tableIn (tgt := 522) D_La_law_40 (by rw [c24]; decide) (by rw [c24]; decide) (by rw [c24]; rfl) (by decide) ?_
      exact w_La_law_b522 (by omega) hR23 h
    have h := okx_F c24 h
    by_cases c25 : ((mI s 0 (Int32.toNatClampNeg x4)) &&& 63) = 6
    · have h := okx_T c25 h
      refine xi_tableIn (tgt := 559) D_La_law_40 (by rw [c25]; decide) (by rw [c25]; decide) (by rw [c25]; rfl) (by decide) ?_
      exact w_La_law_b559 (by omega) hR23 h
    have h := okx_F c25 h
    by_cases c26 : ((mI s 0 (Int32.toNatClampNeg x4)) &&& 63) = 7
    · have h := okx_T c26 h
      refine xi_tableIn (tgt := 608) D_La_law_40 (by rw [c26]; decide) (by rw [c26]; decide) (by rw [c26]; rfl) (by decide) ?_
      exact w_La_law_b608 (by omega) hR23 h
    have h := okx_F c26 h
    by_cases c27 : ((mI s 0 (Int32.toNatClampNeg x4)) &&& 63) = 8
    · have h := okx_T c27 h
      refine xi_tableIn (tgt := 633) D_La_law_40 (by rw [c27]; decide) (by rw [c27]; decide) (by rw [c27]; rfl) (by decide) ?_
      exact w_La_law_b633 (by omega) hR23 h
    have h := okx_F c27 h
    by_cases c28 : ((mI s 0 (Int32.toNatClampNeg x4)) &&& 63) = 9
    · have h := okx_T c28 h
      refine xi_tableIn (tgt := 658) D_La_law_40 (by rw [c28]; decide) (by rw [c28]; decide) (by rw [c28]; rfl) (by decide) ?_
      exact w_La_law_b658 (by omega) hR23 h
    have h := okx_F c28 h
    by_cases c29 : ((mI s 0 (Int32.toNatClampNeg x4)) &&& 63) = 10
    · have h := okx_T c29 h
      refine xi_tableIn (tgt := 726) D_La_law_40 (by rw [c29]; decide) (by rw [c29]; decide) (by rw [c29]; rfl) (by decide) ?_
      exact w_La_law_b726 (by omega) hR23 h
    have h := okx_F c29 h
    by_cases c30 : ((mI s 0 (Int32.toNatClampNeg x4)) &&& 63) = 11
    · have h := okx_T c30 h
      refine xi_tableIn (tgt := 763) D_La_law_40 (by rw [c30]; decide) (by rw [c30]; decide) (by rw [c30]; rfl) (by decide) ?_
      exact w_La_law_b763 (by omega) hR23 h
    have h := okx_F c30 h
    by_cases c31 : ((mI s 0 (Int32.toNatClampNeg x4)) &&& 63) = 12
    · have h := okx_T c31 h
      refine xi_tableIn (tgt := 842) D_La_law_40 (by rw [c31]; decide) (by rw [c31]; decide) (by rw [c31]; rfl) (by decide) ?_
      exact w_La_law_b842 (by omega) hR23 h
    have h := okx_F c31 h
    by_cases c32 : ((mI s 0 (Int32.toNatClampNeg x4)) &&& 63) = 13
    · have h := okx_T c32 h
      refine xi_tableIn (tgt := 879) D_La_law_40 (by rw [c32]; decide) (by rw [c32]; decide) (by rw [c32]; rfl) (by decide) ?_
      exact w_La_law_b879 (by omega) hR23 h
    have h := okx_F c32 h
    by_cases c33 : ((mI s 0 (Int32.toNatClampNeg x4)) &&& 63) = 14
    · have h := okx_T c33 h
      refine xi_tableIn (tgt := 904) D_La_law_40 (by rw [c33]; decide) (by rw [c33]; decide) (by rw [c33]; rfl) (by decide) ?_
      exact w_La_law_b904 (by omega) hR23 h
    have h := okx_F c33 h
    by_cases c34 : ((mI s 0 (Int32.toNatClampNeg x4)) &&& 63) = 15
    · have h := okx_T c34 h
      refine xi_tableIn (tgt := 960) D_La_law_40 (by rw [c34]; decide) (by rw [c34]; decide) (by rw [c34]; rfl) (by decide) ?_
      exact w_La_law_b960 (by omega) hR23 h
    have h := okx_F c34 h
    by_cases c35 : ((mI s 0 (Int32.toNatClampNeg x4)) &&& 63) = 16
    · have h := okx_T c35 h
      refine xi_tableIn (tgt := 985) D_La_law_40 (by rw [c35]; decide) (by rw [c35]; decide) (by rw [c35]; rfl) (by decide) ?_
      exact w_La_law_b985 (by omega) hR23 h
    have h := okx_F c35 h
    by_cases c36 : ((mI s 0 (Int32.toNatClampNeg x4)) &&& 63) = 17
    · have h := okx_T c36 h
      refine xi_tableIn (tgt := 1041) D_La_law_40 (by rw [c36]; decide) (by rw [c36]; decide) (by rw [c36]; rfl) (by decide) ?_
      exact w_La_law_b1041 (by omega) hR23 h
    have h := okx_F c36 h
    by_cases c37 : ((mI s 0 (Int32.toNatClampNeg x4)) &&& 63) = 18
    · have h := okx_T c37 h
      refine xi_tableIn (tgt := 1097) D_La_law_40 (by rw [c37]; decide) (by rw [c37]; decide) (by rw [c37]; rfl) (by decide) ?_
      exact w_La_law_b1097 (by omega) hR23 h
    have h := okx_F c37 h
    by_cases c38 : ((mI s 0 (Int32.toNatClampNeg x4)) &&& 63) = 19
    · have h := okx_T c38 h
      refine xi_tableIn (tgt := 1122) D_La_law_40 (by rw [c38]; decide) (by rw [c38]; decide) (by rw [c38]; rfl) (by decide) ?_
      exact w_La_law_b1122 (by omega) hR23 h
    have h := okx_F c38 h
    by_cases c39 : ((mI s 0 (Int32.toNatClampNeg x4)) &&& 63) = 20
    · have h := okx_T c39 h
      refine xi_tableIn (tgt := 1178) D_La_law_40 (by rw [c39]; decide) (by rw [c39]; decide) (by rw [c39]; rfl) (by decide) ?_
      exact w_La_law_b1178 (by omega) hR23 h
    have h := okx_F c39 h
    by_cases c40 : ((mI s 0 (Int32.toNatClampNeg x4)) &&& 63) = 21
    · have h := okx_T c40 h
      refine xi_tableIn (tgt := 1203) D_La_law_40 (by rw [c40]; decide) (by rw [c40]; decide) (by rw [c40]; rfl) (by decide) ?_
      exact w_La_law_b1203 (by omega) hR23 h
    have h := okx_F c40 h
    by_cases c41 : ((mI s 0 (Int32.toNatClampNeg x4)) &&& 63) = 22
    · have h := okx_T c41 h
      refine xi_tableIn (tgt := 1216) D_La_law_40 (by rw [c41]; decide) (by rw [c41]; decide) (by rw [c41]; rfl) (by decide) ?_
      exact w_La_law_b1216 (by omega) hR23 h
    have h := okx_F c41 h
    by_cases c42 : ((mI s 0 (Int32.toNatClampNeg x4)) &&& 63) = 23
    · have h := okx_T c42 h
      refine xi_tableIn (tgt := 1241) D_La_law_40 (by rw [c42]; decide) (by rw [c42]; decide) (by rw [c42]; rfl) (by decide) ?_
      exact w_La_law_b1241 (by omega) hR23 h
    have h := okx_F c42 h
    by_cases c43 : ((mI s 0 (Int32.toNatClampNeg x4)) &&& 63) = 24
    · have h := okx_T c43 h
      refine xi_tableIn (tgt := 1278) D_La_law_40 (by rw [c43]; decide) (by rw [c43]; decide) (by rw [c43]; rfl) (by decide) ?_
      exact w_La_law_b1278 (by omega) hR23 h
    have h := okx_F c43 h
    by_cases c44 : ((mI s 0 (Int32.toNatClampNeg x4)) &&& 63) = 25
    · have h := okx_T c44 h
      refine xi_tableIn (tgt := 1346) D_La_law_40 (by rw [c44]; decide) (by rw [c44]; decide) (by rw [c44]; rfl) (by decide) ?_
      exact w_La_law_b1346 (by omega) hR23 h
    have h := okx_F c44 h
    by_cases c45 : ((mI s 0 (Int32.toNatClampNeg x4)) &&& 63) = 26
    · have h := okx_T c45 h
      refine xi_tableIn (tgt := 1414) D_La_law_40 (by rw [c45]; decide) (by rw [c45]; decide) (by rw [c45]; rfl) (by decide) ?_
      exact w_La_law_b1414 (by omega) hR23 h
    have h := okx_F c45 h
    by_cases c46 : ((mI s 0 (Int32.toNatClampNeg x4)) &&& 63) = 27
    · have h := okx_T c46 h
      refine xi_tableIn (tgt := 1482) D_La_law_40 (by rw [c46]; decide) (by rw [c46]; decide) (by rw [c46]; rfl) (by decide) ?_
      exact w_La_law_b1482 (by omega) hR23 h
    have h := okx_F c46 h
    by_cases c47 : ((mI s 0 (Int32.toNatClampNeg x4)) &&& 63) = 28
    · have h := okx_T c47 h
      refine xi_tableIn (tgt := 1574) D_La_law_40 (by rw [c47]; decide) (by rw [c47]; decide) (by rw [c47]; rfl) (by decide) ?_
      exact w_La_law_b1574 (by omega) hR23 h
    have h := okx_F c47 h
    by_cases c48 : ((mI s 0 (Int32.toNatClampNeg x4)) &&& 63) = 29
    · have h := okx_T c48 h
      refine xi_tableIn (tgt := 1666) D_La_law_40 (by rw [c48]; decide) (by rw [c48]; decide) (by rw [c48]; rfl) (by decide) ?_
      exact w_La_law_b1666 (by omega) hR23 h
    have h := okx_F c48 h
    by_cases c49 : ((mI s 0 (Int32.toNatClampNeg x4)) &&& 63) = 30
    · have h := okx_T c49 h
      refine xi_tableIn (tgt := 1758) D_La_law_40 (by rw [c49]; decide) (by rw [c49]; decide) (by rw [c49]; rfl) (by decide) ?_
      exact w_La_law_b1758 (by omega) hR23 h
    have h := okx_F c49 h
    by_cases c50 : ((mI s 0 (Int32.toNatClampNeg x4)) &&& 63) = 31
    · have h := okx_T c50 h
      refine xi_tableIn (tgt := 1771) D_La_law_40 (by rw [c50]; decide) (by rw [c50]; decide) (by rw [c50]; rfl) (by decide) ?_
      exact w_La_law_b1771 (by omega) hR23 h
    have h := okx_F c50 h
    by_cases c51 : ((mI s 0 (Int32.toNatClampNeg x4)) &&& 63) = 32
    · have h := okx_T c51 h
      refine xi_tableIn (tgt := 1839) D_La_law_40 (by rw [c51]; decide) (by rw [c51]; decide) (by rw [c51]; rfl) (by decide) ?_
      exact w_La_law_b1839 (by omega) hR23 h
    have h := okx_F c51 h
    by_cases c52 : ((mI s 0 (Int32.toNatClampNeg x4)) &&& 63) = 33
    · have h := okx_T c52 h
      refine xi_tableIn (tgt := 1888) D_La_law_40 (by rw [c52]; decide) (by rw [c52]; decide) (by rw [c52]; rfl) (by decide) ?_
      exact w_La_law_b1888 (by omega) hR23 h
    have h := okx_F c52 h
    by_cases c53 : ((mI s 0 (Int32.toNatClampNeg x4)) &&& 63) = 34
    · have h := okx_T c53 h
      refine xi_tableIn (tgt := 1941) D_La_law_40 (by rw [c53]; decide) (by rw [c53]; decide) (by rw [c53]; rfl) (by decide) ?_
      exact w_La_law_b1941 (by omega) hR23 h
    have h := okx_F c53 h
    refine xi_tableOut (tgt := 1966) D_La_law_40 (by have e0 : ¬ Int32.toInt ((mI s 0 (Int32.toNatClampNeg x4)) &&& 63) = 0 := fun e => c19 (Int32.toInt_inj.mp (e.trans (by decide))); have e1 : ¬ Int32.toInt ((mI s 0 (Int32.toNatClampNeg x4)) &&& 63) = 1 := fun e => c20 (Int32.toInt_inj.mp (e.trans (by decide))); have e2 : ¬ Int32.toInt ((mI s 0 (Int32.toNatClampNeg x4)) &&& 63) = 2 := fun e => c21 (Int32.toInt_inj.mp (e.trans (by decide))); have e3 : ¬ Int32.toInt ((mI s 0 (Int32.toNatClampNeg x4)) &&& 63) = 3 := fun e => c22 (Int32.toInt_inj.mp (e.trans (by decide))); have e4 : ¬ Int32.toInt ((mI s 0 (Int32.toNatClampNeg x4)) &&& 63) = 4 := fun e => c23 (Int32.toInt_inj.mp (e.trans (by decide))); have e5 : ¬ Int32.toInt ((mI s 0 (Int32.toNatClampNeg x4)) &&& 63) = 5 := fun e => c24 (Int32.toInt_inj.mp (e.trans (by decide))); have e6 : ¬ Int32.toInt ((mI s 0 (Int32.toNatClampNeg x4)) &&& 63) = 6 := fun e => c25 (Int32.toInt_inj.mp (e.trans (by decide))); have e7 : ¬ Int32.toInt ((mI s 0 (Int32.toNatClampNeg x4)) &&& 63) = 7 := fun e => c26 (Int32.toInt_inj.mp (e.trans (by decide))); have e8 : ¬ Int32.toInt ((mI s 0 (Int32.toNatClampNeg x4)) &&& 63) = 8 := fun e => c27 (Int32.toInt_inj.mp (e.trans (by decide))); have e9 : ¬ Int32.toInt ((mI s 0 (Int32.toNatClampNeg x4)) &&& 63) = 9 := fun e => c28 (Int32.toInt_inj.mp (e.trans (by decide))); have e10 : ¬ Int32.toInt ((mI s 0 (Int32.toNatClampNeg x4)) &&& 63) = 10 := fun e => c29 (Int32.toInt_inj.mp (e.trans (by decide))); have e11 : ¬ Int32.toInt ((mI s 0 (Int32.toNatClampNeg x4)) &&& 63) = 11 := fun e => c30 (Int32.toInt_inj.mp (e.trans (by decide))); have e12 : ¬ Int32.toInt ((mI s 0 (Int32.toNatClampNeg x4)) &&& 63) = 12 := fun e => c31 (Int32.toInt_inj.mp (e.trans (by decide))); have e13 : ¬ Int32.toInt ((mI s 0 (Int32.toNatClampNeg x4)) &&& 63) = 13 := fun e => c32 (Int32.toInt_inj.mp (e.trans (by decide))); have e14 : ¬ Int32.toInt ((mI s 0 (Int32.toNatClampNeg x4)) &&& 63) = 14 := fun e => c33 (Int32.toInt_inj.mp (e.trans (by decide))); have e15 : ¬ Int32.toInt ((mI s 0 (Int32.toNatClampNeg x4)) &&& 63) = 15 := fun e => c34 (Int32.toInt_inj.mp (e.trans (by decide))); have e16 : ¬ Int32.toInt ((mI s 0 (Int32.toNatClampNeg x4)) &&& 63) = 16 := fun e => c35 (Int32.toInt_inj.mp (e.trans (by decide))); have e17 : ¬ Int32.toInt ((mI s 0 (Int32.toNatClampNeg x4)) &&& 63) = 17 := fun e => c36 (Int32.toInt_inj.mp (e.trans (by decide))); have e18 : ¬ Int32.toInt ((mI s 0 (Int32.toNatClampNeg x4)) &&& 63) = 18 := fun e => c37 (Int32.toInt_inj.mp (e.trans (by decide))); have e19 : ¬ Int32.toInt ((mI s 0 (Int32.toNatClampNeg x4)) &&& 63) = 19 := fun e => c38 (Int32.toInt_inj.mp (e.trans (by decide))); have e20 : ¬ Int32.toInt ((mI s 0 (Int32.toNatClampNeg x4)) &&& 63) = 20 := fun e => c39 (Int32.toInt_inj.mp (e.trans (by decide))); have e21 : ¬ Int32.toInt ((mI s 0 (Int32.toNatClampNeg x4)) &&& 63) = 21 := fun e => c40 (Int32.toInt_inj.mp (e.trans (by decide))); have e22 : ¬ Int32.toInt ((mI s 0 (Int32.toNatClampNeg x4)) &&& 63) = 22 := fun e => c41 (Int32.toInt_inj.mp (e.trans (by decide))); have e23 : ¬ Int32.toInt ((mI s 0 (Int32.toNatClampNeg x4)) &&& 63) = 23 := fun e => c42 (Int32.toInt_inj.mp (e.trans (by decide))); have e24 : ¬ Int32.toInt ((mI s 0 (Int32.toNatClampNeg x4)) &&& 63) = 24 := fun e => c43 (Int32.toInt_inj.mp (e.trans (by decide))); have e25 : ¬ Int32.toInt ((mI s 0 (Int32.toNatClampNeg x4)) &&& 63) = 25 := fun e => c44 (Int32.toInt_inj.mp (e.trans (by decide))); have e26 : ¬ Int32.toInt ((mI s 0 (Int32.toNatClampNeg x4)) &&& 63) = 26 := fun e => c45 (Int32.toInt_inj.mp (e.trans (by decide))); have e27 : ¬ Int32.toInt ((mI s 0 (Int32.toNatClampNeg x4)) &&& 63) = 27 := fun e => c46 (Int32.toInt_inj.mp (e.trans (by decide))); have e28 : ¬ Int32.toInt ((mI s 0 (Int32.toNatClampNeg x4)) &&& 63) = 28 := fun e => c47 (Int32.toInt_inj.mp (e.trans (by decide))); have e29 : ¬ Int32.toInt ((mI s 0 (Int32.toNatClampNeg x4)) &&& 63) = 29 := fun e => c48 (Int32.toInt_inj.mp (e.trans (by decide))); have e30 : ¬ Int32.toInt ((mI s 0 (Int32.toNatClampNeg x4)) &&& 63) = 30 := fun e => c49 (Int32.toInt_inj.mp (e.trans (by decide))); have e31 : ¬ Int32.toInt ((mI s 0 (Int32.toNatClampNeg x4)) &&& 63) = 31 := fun e => c50 (Int32.toInt_inj.mp (e.trans (by decide))); have e32 : ¬ Int32.toInt ((mI s 0 (Int32.toNatClampNeg x4)) &&& 63) = 32 := fun e => c51 (Int32.toInt_inj.mp (e.trans (by decide))); have e33 : ¬ Int32.toInt ((mI s 0 (Int32.toNatClampNeg x4)) &&& 63) = 33 := fun e => c52 (Int32.toInt_inj.mp (e.trans (by decide))); have e34 : ¬ Int32.toInt ((mI s 0 (Int32.toNatClampNeg x4)) &&& 63) = 34 := fun e => c53 (Int32.toInt_inj.mp (e.trans (by decide))); omega) (by decide) ?_
    exact xi_less (Nat.mul_le_mul_left _ (Nat.le_succ _)) (Nat.mul_le_mul_left _ (Nat.le_succ _)) (w_La_law_b1966 (by omega) hR23 h)
noncomputable def f_La_law_h23 : Nat → Int32 → Sg → Option (Int32 × Sg)
  | 0, _, _ => none
  | n + 1, x4, s => f_La_law_b23 (f_La_law_h23 n) x4 s
theorem w_La_law_h23 {d : Nat} {Q : Option (Option Value) → Sg → Prop} (hd : 64 ≤ d) : ∀ (n : Nat) (x4 : Int32) (s : Sg), okx (zq_I Q) (f_La_law_h23 n x4 s) → Xw d M_La_law (10 * n) (1064 * n) 23 [.ref 0, .ref 4, .ref 46, .ref 80, .int x4, .retAddr 0, .retAddr 0, .retAddr 0] [] s Q := by
  intro n
  induction n with
  | zero => intro x4 s h; exact okx_no h
  | succ n ih => intro x4 s h; exact w_La_law_b23 hd  ih  h
noncomputable def f_La_law  (s : Sg) : Option (Int32 × Sg) :=
  f_ck ((zn_SH (mN s)).1 = 5) <|
  f_ck (mN s = 4) <|
  let s4 : Sg := uN s
  f_bd (f_Wk_init  s4) fun r5 s6 =>
  f_ck ((zn_SH (mN s6)).1 = 6) <|
  f_ck (mN s6 = 46) <|
  let s10 : Sg := uN s6
  f_bd (f_Mo_init  s10) fun r11 s12 =>
  f_ck (zn_SH (mN s12) = (11, 1)) <|
  f_ck (mN s12 = 80) <|
  let s15 : Sg := uN s12
  f_La_law_h23  zl_fl 0 s15
theorem w_La_law {s : Sg} {d : Nat} {Q : Option (Option Value) → Sg → Prop} (hd : 64 ≤ d) (h : okx (zq_I Q) (f_La_law s)) : Xw d M_La_law 601024 7293034 0 [.ref 0, .retAddr 0, .retAddr 0, .retAddr 0, .retAddr 0, .retAddr 0, .retAddr 0, .retAddr 0] [] s Q := by
  unfold f_La_law at h
  obtain ⟨g1, h⟩ := okx_ck h
  refine xi_new (k := 5) D_La_law_0 J_La_8 T_Wk.1 T_Wk.2 (by decide) g1 ⟨by decide, by decide⟩ ?_
  obtain ⟨g3, h⟩ := okx_ck h
  rw [g3]
  refine xi_dupr D_La_law_3 ?_
  refine xi_I D_La_law_4 L_La_58 C_Wk_init.1 C_Wk_init.2.1 ⟨Nat.le_of_ble_eq_true rfl, C_Wk_init.2.2, (Nat.le_of_eq (Nat.sub_add_cancel (by omega))), by decide, by decide⟩ (w_Wk_init (by omega) (okx_mono (okx_bd h) ?_))
  intro r5 s6 h
  show Xw _ _ _ _ 7 _ [_] _ _
  refine xi_astore_n (ls' := [_, _, _, _, _, _, _, _]) D_La_law_7 rfl (by decide) ?_
  obtain ⟨g7, h⟩ := okx_ck h
  refine xi_new (k := 6) D_La_law_8 J_La_59 T_Mo.1 T_Mo.2 (by decide) g7 ⟨by decide, by decide⟩ ?_
  obtain ⟨g9, h⟩ := okx_ck h
  rw [g9]
  refine xi_dupr D_La_law_11 ?_
  refine xi_I D_La_law_12 L_La_61 C_Mo_init.1 C_Mo_init.2.1 ⟨Nat.le_of_ble_eq_true rfl, C_Mo_init.2.2, (Nat.le_of_eq (Nat.sub_add_cancel (by omega))), by decide, by decide⟩ (w_Mo_init (by omega) (okx_mono (okx_bd h) ?_))
  intro r11 s12 h
  show Xw _ _ _ _ 15 _ [_] _ _
  refine xi_astore_n (ls' := [_, _, _, _, _, _, _, _]) D_La_law_15 rfl (by decide) ?_
  refine xj_iconst (v := 1) D_La_law_16 rfl ?_
  obtain ⟨g13, h⟩ := okx_ck h
  refine xi_newa (k := 11) (n := 1) D_La_law_17 rfl T_long (by decide) ⟨by decide, by decide, by decide⟩ g13 ⟨by decide, by decide⟩ ?_
  obtain ⟨n14, h⟩ := okx_ck h
  rw [n14]
  refine xi_astore_n (ls' := [_, _, _, _, _, _, _, _]) D_La_law_19 rfl (by decide) ?_
  refine xj_iconst (v := 0) D_La_law_20 rfl ?_
  refine xi_istore (ls' := [_, _, _, _, _, _, _, _]) D_La_law_21 rfl (by decide) ?_
  exact xi_less (by decide) (by decide) (w_La_law_h23 (by omega)  _ _ _ h)
