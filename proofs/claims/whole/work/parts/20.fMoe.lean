/-! by a program of ours (wip/whole/gen/func.py, mkall.py) out of the listing: Mo_makes Mo_moves Mo_mark Mo_oneHand Mo_opens Mo_own Mo_owner Mo_puts Mo_reached Mo_whose -/
noncomputable def f_Mo_makes_b22 (x1 : Int32) (x2 : Int32) (y1 : Int32) (s : Sg) : Option (Int32 × Sg) :=
  f_ck (zl_B s) <|
  let s10 : Sg := uI s 46 0 y1
  f_bd (f_Mo_asItIs  s10) fun r11 s12 =>
  f_ck (zl_B s12) <|
  if (mI s12 46 0) = 1 then
    some (0, s12)
  else
    f_bd (f_Mo_makesBy 0 x1 x2 s12) fun r15 s16 =>
    some (r15, s16)
theorem w_Mo_makes_b22 {x1 : Int32} {x2 : Int32} {y1 : Int32} {s : Sg} {d : Nat} {Q : Option (Option Value) → Sg → Prop} (hd : 4 ≤ d) (h : okx (zq_I Q) (f_Mo_makes_b22 x1 x2 y1 s)) : Xw d M_Mo_makes 0 0 22 [.ref 46, .int x1, .int x2] [.int y1, .ref 46] s Q := by
  unfold f_Mo_makes_b22 at h
  obtain ⟨g9, h⟩ := okx_ck h
  refine xi_putI D_Mo_makes_22 F_Mo_114 (zl_fo (g9).1 rfl) ⟨rfl, by decide, rfl⟩ (⟨rfl, rfl⟩) ?_
  refine xi_aload_n D_Mo_makes_25 rfl ?_
  refine xj_V0 D_Mo_makes_26 L_Mo_325 C_Mo_asItIs Z_Mo_asItIs (zl_fo (g9).1 rfl) (Nat.le_of_ble_eq_true rfl) (Nat.le_of_eq (Nat.sub_add_cancel (by omega))) (w_Mo_asItIs (by omega) (okx_mono (okx_bd h) ?_))
  intro r11 s12 h
  show Xw _ _ _ _ 29 _ [] _ _
  refine xi_aload_n D_Mo_makes_29 rfl ?_
  obtain ⟨g13, h⟩ := okx_ck h
  refine xi_getI D_Mo_makes_30 F_Mo_114 (zl_fo (g13).1 rfl) ⟨rfl, by decide⟩ ?_
  refine xj_iconst (v := 1) D_Mo_makes_33 rfl ?_
  refine xi_icmp_ne D_Mo_makes_34 (fun c14 => ?_) (fun c14 => ?_)
  · have h := okx_F c14 h
    refine xi_aload_n D_Mo_makes_41 rfl ?_
    refine xj_iconst (v := 0) D_Mo_makes_42 rfl ?_
    refine xi_iload_n D_Mo_makes_43 rfl ?_
    refine xi_iload_n D_Mo_makes_44 rfl ?_
    refine xj_V3 D_Mo_makes_45 L_Mo_328 C_Mo_makesBy Z_Mo_makesBy (zl_fo (g13).1 rfl) (Nat.le_of_ble_eq_true rfl) (Nat.le_of_eq (Nat.sub_add_cancel (by omega))) (w_Mo_makesBy (by omega) (okx_mono (okx_bd h) ?_))
    intro r15 s16 h
    show Xw _ _ _ _ 48 _ [_] _ _
    exact xi_ireturn D_Mo_makes_48 rfl (rfl) (okx_I h)
  · have h := okx_T c14 h
    refine xj_iconst (v := 0) D_Mo_makes_37 rfl ?_
    refine xi_goto D_Mo_makes_38 ?_
    exact xi_ireturn D_Mo_makes_48 rfl (rfl) (okx_I h)
noncomputable def f_Mo_makes_b21 (x1 : Int32) (x2 : Int32) (s : Sg) : Option (Int32 × Sg) :=
  f_Mo_makes_b22  x1 x2 1 s
theorem w_Mo_makes_b21 {x1 : Int32} {x2 : Int32} {s : Sg} {d : Nat} {Q : Option (Option Value) → Sg → Prop} (hd : 4 ≤ d) (h : okx (zq_I Q) (f_Mo_makes_b21 x1 x2 s)) : Xw d M_Mo_makes 0 0 21 [.ref 46, .int x1, .int x2] [.ref 46] s Q := by
  unfold f_Mo_makes_b21 at h
  refine xj_iconst (v := 1) D_Mo_makes_21 rfl ?_
  exact w_Mo_makes_b22 (by omega)  h
noncomputable def f_Mo_makes (x1 : Int32) (x2 : Int32) (s : Sg) : Option (Int32 × Sg) :=
  f_ck (zl_B s) <|
  f_bd (f_Mo_areThem x1 s) fun r2 s3 =>
  if r2 = 0 then
    f_Mo_makes_b21  x1 x2 s3
  else
    f_ck (zl_B s3) <|
    f_bd (f_Mo_isPains x2 s3) fun r6 s7 =>
    if r6 = 0 then
      f_Mo_makes_b21  x1 x2 s7
    else
      f_Mo_makes_b22  x1 x2 0 s7
theorem w_Mo_makes {x1 : Int32} {x2 : Int32} {s : Sg} {d : Nat} {Q : Option (Option Value) → Sg → Prop} (hd : 4 ≤ d) (h : okx (zq_I Q) (f_Mo_makes x1 x2 s)) : Cw d M_Mo_makes [.ref 46, .int x1, .int x2] s Q := by
  refine Cw.of (by decide +kernel) (Nat.le_of_ble_eq_true rfl) ?_
  show Xw d M_Mo_makes 0 0 0 [.ref 46, .int x1, .int x2] [] s _
  unfold f_Mo_makes at h
  refine xi_aload_n D_Mo_makes_0 rfl ?_
  refine xi_aload_n D_Mo_makes_1 rfl ?_
  refine xi_iload_n D_Mo_makes_2 rfl ?_
  obtain ⟨g1, h⟩ := okx_ck h
  refine xj_V1 D_Mo_makes_3 L_Mo_293 C_Mo_areThem Z_Mo_areThem (zl_fo (g1).1 rfl) (Nat.le_of_ble_eq_true rfl) (Nat.le_of_eq (Nat.sub_add_cancel (by omega))) (w_Mo_areThem (by omega) (okx_mono (okx_bd h) ?_))
  intro r2 s3 h
  show Xw _ _ _ _ 6 _ [_, _] _ _
  refine xi_if_eq D_Mo_makes_6 (fun c4 => ?_) (fun c4 => ?_)
  · have h := okx_T c4 h
    exact w_Mo_makes_b21 (by omega)  h
  · have h := okx_F c4 h
    refine xi_aload_n D_Mo_makes_9 rfl ?_
    refine xi_iload_n D_Mo_makes_10 rfl ?_
    obtain ⟨g5, h⟩ := okx_ck h
    refine xj_V1 D_Mo_makes_11 L_Mo_296 C_Mo_isPains Z_Mo_isPains (zl_fo (g5).1 rfl) (Nat.le_of_ble_eq_true rfl) (Nat.le_of_eq (Nat.sub_add_cancel (by omega))) (w_Mo_isPains (by omega) (okx_mono (okx_bd h) ?_))
    intro r6 s7 h
    show Xw _ _ _ _ 14 _ [_, _] _ _
    refine xi_if_eq D_Mo_makes_14 (fun c8 => ?_) (fun c8 => ?_)
    · have h := okx_T c8 h
      exact w_Mo_makes_b21 (by omega)  h
    · have h := okx_F c8 h
      refine xj_iconst (v := 0) D_Mo_makes_17 rfl ?_
      refine xi_goto D_Mo_makes_18 ?_
      exact w_Mo_makes_b22 (by omega)  h
noncomputable def f_Mo_moves_b406 (R254 : Int32 → Int32 → Int32 → Int32 → Sg → Option (Unit × Sg)) (x1 : Int32) (x2 : Int32) (x3 : Int32) (x4 : Int32) (y1 : Int32) (y2 : Int32) (s : Sg) : Option (Unit × Sg) :=
  f_ck (zl_B s) <|
  f_ck (vp_in y1 3) <|
  let s90 : Sg := uI s 73 (Int32.toNatClampNeg y1) (vp_nar .boolean y2)
  R254 x1 x2 x3 (x4 + 1) s90
theorem w_Mo_moves_b406 {x1 : Int32} {x2 : Int32} {x3 : Int32} {x4 : Int32} {y1 : Int32} {y2 : Int32} {s : Sg} {d : Nat} {Q : Option (Option Value) → Sg → Prop} (hd : 2 ≤ d) {R254 : Int32 → Int32 → Int32 → Int32 → Sg → Option (Unit × Sg)} (hR254 : ∀ (x1 : Int32) (x2 : Int32) (x3 : Int32) (x4 : Int32) (s : Sg), okx (zq_V Q) (R254 x1 x2 x3 x4 s) → Xw d M_Mo_moves 0 0 254 [.ref 46, .int x1, .int x2, .int x3, .int x4] [] s Q) (h : okx (zq_V Q) (f_Mo_moves_b406 R254 x1 x2 x3 x4 y1 y2 s)) : Xw d M_Mo_moves 0 0 406 [.ref 46, .int x1, .int x2, .int x3, .int x4] [.int y2, .int y1, .ref 73] s Q := by
  unfold f_Mo_moves_b406 at h
  obtain ⟨g88, h⟩ := okx_ck h
  obtain ⟨g89, h⟩ := okx_ck h
  refine xj_zast D_Mo_moves_406 (zl_fx (g88).1 rfl) (zl_ib (n := 3) rfl (g89)) rfl ?_
  refine xi_iinc (v := _ + 1) (ls' := [_, _, _, _, _]) D_Mo_moves_407 rfl rfl rfl (by decide) ?_
  refine xi_goto D_Mo_moves_410 ?_
  exact hR254 _ _ _ _ _ h
noncomputable def f_Mo_moves_b393 (R254 : Int32 → Int32 → Int32 → Int32 → Sg → Option (Unit × Sg)) (x1 : Int32) (x2 : Int32) (x3 : Int32) (x4 : Int32) (y1 : Int32) (y3 : Int32) (y4 : Int32) (s : Sg) : Option (Unit × Sg) :=
  f_ck (zl_B s) <|
  f_bd (f_Mo_keeps y3 y4 x2 s) fun r85 s86 =>
  if r85 = 1 then
    f_Mo_moves_b406 R254 x1 x2 x3 x4 y1 1 s86
  else
    f_Mo_moves_b406 R254 x1 x2 x3 x4 y1 0 s86
theorem w_Mo_moves_b393 {x1 : Int32} {x2 : Int32} {x3 : Int32} {x4 : Int32} {y1 : Int32} {y3 : Int32} {y4 : Int32} {s : Sg} {d : Nat} {Q : Option (Option Value) → Sg → Prop} (hd : 2 ≤ d) {R254 : Int32 → Int32 → Int32 → Int32 → Sg → Option (Unit × Sg)} (hR254 : ∀ (x1 : Int32) (x2 : Int32) (x3 : Int32) (x4 : Int32) (s : Sg), okx (zq_V Q) (R254 x1 x2 x3 x4 s) → Xw d M_Mo_moves 0 0 254 [.ref 46, .int x1, .int x2, .int x3, .int x4] [] s Q) (h : okx (zq_V Q) (f_Mo_moves_b393 R254 x1 x2 x3 x4 y1 y3 y4 s)) : Xw d M_Mo_moves 0 0 393 [.ref 46, .int x1, .int x2, .int x3, .int x4] [.int y4, .int y3, .ref 46, .int y1, .ref 73] s Q := by
  unfold f_Mo_moves_b393 at h
  refine xi_iload_n D_Mo_moves_393 rfl ?_
  obtain ⟨g84, h⟩ := okx_ck h
  refine xj_V3 D_Mo_moves_394 L_Mo_429 C_Mo_keeps Z_Mo_keeps (zl_fo (g84).1 rfl) (Nat.le_of_ble_eq_true rfl) (Nat.le_of_eq (Nat.sub_add_cancel (by omega))) (w_Mo_keeps (by omega) (okx_mono (okx_bd h) ?_))
  intro r85 s86 h
  show Xw _ _ _ _ 397 _ [_, _, _] _ _
  refine xj_iconst (v := 1) D_Mo_moves_397 rfl ?_
  refine xi_icmp_ne D_Mo_moves_398 (fun c87 => ?_) (fun c87 => ?_)
  · have h := okx_F c87 h
    refine xj_iconst (v := 0) D_Mo_moves_405 rfl ?_
    exact w_Mo_moves_b406 (by omega) hR254 h
  · have h := okx_T c87 h
    refine xj_iconst (v := 1) D_Mo_moves_401 rfl ?_
    refine xi_goto D_Mo_moves_402 ?_
    exact w_Mo_moves_b406 (by omega) hR254 h
noncomputable def f_Mo_moves_b468 (R416 : Int32 → Int32 → Int32 → Sg → Option (Unit × Sg)) (x1 : Int32) (x2 : Int32) (x4 : Int32) (s : Sg) : Option (Unit × Sg) :=
  R416 x1 x2 (x4 + 1) s
theorem w_Mo_moves_b468 {x1 : Int32} {x2 : Int32} {x4 : Int32} {s : Sg} {d : Nat} {Q : Option (Option Value) → Sg → Prop} (hd : 2 ≤ d) {R416 : Int32 → Int32 → Int32 → Sg → Option (Unit × Sg)} (hR416 : ∀ (x1 : Int32) (x2 : Int32) (x4 : Int32) (s : Sg), okx (zq_V Q) (R416 x1 x2 x4 s) → Xw d M_Mo_moves 0 0 416 [.ref 46, .int x1, .int x2, .retAddr 0, .int x4] [] s Q) (h : okx (zq_V Q) (f_Mo_moves_b468 R416 x1 x2 x4 s)) : Xw d M_Mo_moves 0 0 468 [.ref 46, .int x1, .int x2, .retAddr 0, .int x4] [] s Q := by
  unfold f_Mo_moves_b468 at h
  refine xi_iinc (v := _ + 1) (ls' := [_, _, _, _, _]) D_Mo_moves_468 rfl rfl rfl (by decide) ?_
  refine xi_goto D_Mo_moves_471 ?_
  exact hR416 _ _ _ _ h
noncomputable def f_Mo_moves_b532 (R477 : Int32 → Int32 → Int32 → Sg → Option (Unit × Sg)) (x1 : Int32) (x2 : Int32) (x4 : Int32) (s : Sg) : Option (Unit × Sg) :=
  R477 x1 x2 (x4 + 1) s
theorem w_Mo_moves_b532 {x1 : Int32} {x2 : Int32} {x4 : Int32} {s : Sg} {d : Nat} {Q : Option (Option Value) → Sg → Prop} (hd : 2 ≤ d) {R477 : Int32 → Int32 → Int32 → Sg → Option (Unit × Sg)} (hR477 : ∀ (x1 : Int32) (x2 : Int32) (x4 : Int32) (s : Sg), okx (zq_V Q) (R477 x1 x2 x4 s) → Xw d M_Mo_moves 0 0 477 [.ref 46, .int x1, .int x2, .retAddr 0, .int x4] [] s Q) (h : okx (zq_V Q) (f_Mo_moves_b532 R477 x1 x2 x4 s)) : Xw d M_Mo_moves 0 0 532 [.ref 46, .int x1, .int x2, .retAddr 0, .int x4] [] s Q := by
  unfold f_Mo_moves_b532 at h
  refine xi_iinc (v := _ + 1) (ls' := [_, _, _, _, _]) D_Mo_moves_532 rfl rfl rfl (by decide) ?_
  refine xi_goto D_Mo_moves_535 ?_
  exact hR477 _ _ _ _ h
noncomputable def f_Mo_moves_b477 (R477 : Int32 → Int32 → Int32 → Sg → Option (Unit × Sg)) (x1 : Int32) (x2 : Int32) (x4 : Int32) (s : Sg) : Option (Unit × Sg) :=
  if 2048 ≤ x4 then
    some ((), s)
  else
    if x2 = 0 then
      f_ck (zl_B s) <|
      f_ck (vp_in x4 2048) <|
      f_ck (vp_in ((2048 * x1) + x4) 8192) <|
      let s106 : Sg := uI s 79 (Int32.toNatClampNeg ((2048 * x1) + x4)) (mI s 68 (Int32.toNatClampNeg x4))
      f_Mo_moves_b532 R477 x1 x2 x4 s106
    else
      f_ck (zl_B s) <|
      f_ck (vp_in ((2048 * x1) + x4) 8192) <|
      f_ck (vp_in x4 2048) <|
      let s110 : Sg := uI s 68 (Int32.toNatClampNeg x4) (mI s 79 (Int32.toNatClampNeg ((2048 * x1) + x4)))
      f_Mo_moves_b532 R477 x1 x2 x4 s110
theorem w_Mo_moves_b477 {x1 : Int32} {x2 : Int32} {x4 : Int32} {s : Sg} {d : Nat} {Q : Option (Option Value) → Sg → Prop} (hd : 2 ≤ d) {R477 : Int32 → Int32 → Int32 → Sg → Option (Unit × Sg)} (hR477 : ∀ (x1 : Int32) (x2 : Int32) (x4 : Int32) (s : Sg), okx (zq_V Q) (R477 x1 x2 x4 s) → Xw d M_Mo_moves 0 0 477 [.ref 46, .int x1, .int x2, .retAddr 0, .int x4] [] s Q) (h : okx (zq_V Q) (f_Mo_moves_b477 R477 x1 x2 x4 s)) : Xw d M_Mo_moves 0 0 477 [.ref 46, .int x1, .int x2, .retAddr 0, .int x4] [] s Q := by
  unfold f_Mo_moves_b477 at h
  refine xi_iload D_Mo_moves_477 rfl ?_
  refine xi_sipush (v := 2048) D_Mo_moves_479 rfl ?_
  refine xi_icmp_ge D_Mo_moves_482 (fun c101 => ?_) (fun c101 => ?_)
  · have h := okx_T c101 h
    exact xi_return D_Mo_moves_538 rfl (okx_V h)
  · have h := okx_F c101 h
    refine xi_iload_n D_Mo_moves_485 rfl ?_
    refine xi_if_eq D_Mo_moves_486 (fun c102 => ?_) (fun c102 => ?_)
    · have h := okx_T c102 h
      refine xi_aload_n D_Mo_moves_512 rfl ?_
      obtain ⟨g103, h⟩ := okx_ck h
      refine xi_getR D_Mo_moves_513 F_Mo_108 (zl_fo (g103).1 rfl) ⟨rfl, by decide⟩ (zl_gr (g103).2 rfl rfl) ?_
      refine xi_sipush (v := 2048) D_Mo_moves_516 rfl ?_
      refine xi_iload_n D_Mo_moves_519 rfl ?_
      refine xi_imul D_Mo_moves_520 ?_
      refine xi_iload D_Mo_moves_521 rfl ?_
      refine xi_iadd D_Mo_moves_523 ?_
      refine xi_aload_n D_Mo_moves_524 rfl ?_
      refine xi_getR D_Mo_moves_525 F_Mo_75 (zl_fo (g103).1 rfl) ⟨rfl, by decide⟩ (zl_gr (g103).2 rfl rfl) ?_
      refine xi_iload D_Mo_moves_528 rfl ?_
      obtain ⟨g104, h⟩ := okx_ck h
      refine xj_iald D_Mo_moves_530 (zl_fx (g103).1 rfl) (zl_ib (n := 2048) rfl (g104)) ?_
      obtain ⟨g105, h⟩ := okx_ck h
      refine xj_iast D_Mo_moves_531 (zl_fx (g103).1 rfl) (zl_ib (n := 8192) rfl (g105)) ?_
      exact w_Mo_moves_b532 (by omega) hR477 h
    · have h := okx_F c102 h
      refine xi_aload_n D_Mo_moves_489 rfl ?_
      obtain ⟨g107, h⟩ := okx_ck h
      refine xi_getR D_Mo_moves_490 F_Mo_75 (zl_fo (g107).1 rfl) ⟨rfl, by decide⟩ (zl_gr (g107).2 rfl rfl) ?_
      refine xi_iload D_Mo_moves_493 rfl ?_
      refine xi_aload_n D_Mo_moves_495 rfl ?_
      refine xi_getR D_Mo_moves_496 F_Mo_108 (zl_fo (g107).1 rfl) ⟨rfl, by decide⟩ (zl_gr (g107).2 rfl rfl) ?_
      refine xi_sipush (v := 2048) D_Mo_moves_499 rfl ?_
      refine xi_iload_n D_Mo_moves_502 rfl ?_
      refine xi_imul D_Mo_moves_503 ?_
      refine xi_iload D_Mo_moves_504 rfl ?_
      refine xi_iadd D_Mo_moves_506 ?_
      obtain ⟨g108, h⟩ := okx_ck h
      refine xj_iald D_Mo_moves_507 (zl_fx (g107).1 rfl) (zl_ib (n := 8192) rfl (g108)) ?_
      obtain ⟨g109, h⟩ := okx_ck h
      refine xj_iast D_Mo_moves_508 (zl_fx (g107).1 rfl) (zl_ib (n := 2048) rfl (g109)) ?_
      refine xi_goto D_Mo_moves_509 ?_
      exact w_Mo_moves_b532 (by omega) hR477 h
noncomputable def f_Mo_moves_h477 : Nat → Int32 → Int32 → Int32 → Sg → Option (Unit × Sg)
  | 0, _, _, _, _ => none
  | n + 1, x1, x2, x4, s => f_Mo_moves_b477 (f_Mo_moves_h477 n) x1 x2 x4 s
theorem w_Mo_moves_h477 {d : Nat} {Q : Option (Option Value) → Sg → Prop} (hd : 2 ≤ d) : ∀ (n : Nat) (x1 : Int32) (x2 : Int32) (x4 : Int32) (s : Sg), okx (zq_V Q) (f_Mo_moves_h477 n x1 x2 x4 s) → Xw d M_Mo_moves 0 0 477 [.ref 46, .int x1, .int x2, .retAddr 0, .int x4] [] s Q := by
  intro n
  induction n with
  | zero => intro x1 x2 x4 s h; exact okx_no h
  | succ n ih => intro x1 x2 x4 s h; exact w_Mo_moves_b477 hd  ih  h
noncomputable def f_Mo_moves_b474 (x1 : Int32) (x2 : Int32) (s : Sg) : Option (Unit × Sg) :=
  f_Mo_moves_h477  zl_fl x1 x2 0 s
theorem w_Mo_moves_b474 {x1 : Int32} {x2 : Int32} {s : Sg} {d : Nat} {Q : Option (Option Value) → Sg → Prop} (hd : 2 ≤ d) (h : okx (zq_V Q) (f_Mo_moves_b474 x1 x2 s)) : Xw d M_Mo_moves 0 0 474 [.ref 46, .int x1, .int x2, .retAddr 0, .retAddr 0] [] s Q := by
  unfold f_Mo_moves_b474 at h
  refine xj_iconst (v := 0) D_Mo_moves_474 rfl ?_
  refine xi_istore (ls' := [_, _, _, _, _]) D_Mo_moves_475 rfl (by decide) ?_
  exact w_Mo_moves_h477 (by omega)  _ _ _ _ _ h
noncomputable def f_Mo_moves_b416 (R416 : Int32 → Int32 → Int32 → Sg → Option (Unit × Sg)) (x1 : Int32) (x2 : Int32) (x4 : Int32) (s : Sg) : Option (Unit × Sg) :=
  if 7 ≤ x4 then
    f_Mo_moves_b474  x1 x2 s
  else
    if x2 = 0 then
      f_ck (zl_B s) <|
      f_ck (vp_in x4 14) <|
      f_ck (vp_in ((7 * x1) + x4) 28) <|
      let s96 : Sg := uL s 78 (Int32.toNatClampNeg ((7 * x1) + x4)) (mL s 48 (Int32.toNatClampNeg x4))
      f_Mo_moves_b468 R416 x1 x2 x4 s96
    else
      f_ck (zl_B s) <|
      f_ck (vp_in ((7 * x1) + x4) 28) <|
      f_ck (vp_in x4 14) <|
      let s100 : Sg := uL s 48 (Int32.toNatClampNeg x4) (mL s 78 (Int32.toNatClampNeg ((7 * x1) + x4)))
      f_Mo_moves_b468 R416 x1 x2 x4 s100
theorem w_Mo_moves_b416 {x1 : Int32} {x2 : Int32} {x4 : Int32} {s : Sg} {d : Nat} {Q : Option (Option Value) → Sg → Prop} (hd : 2 ≤ d) {R416 : Int32 → Int32 → Int32 → Sg → Option (Unit × Sg)} (hR416 : ∀ (x1 : Int32) (x2 : Int32) (x4 : Int32) (s : Sg), okx (zq_V Q) (R416 x1 x2 x4 s) → Xw d M_Mo_moves 0 0 416 [.ref 46, .int x1, .int x2, .retAddr 0, .int x4] [] s Q) (h : okx (zq_V Q) (f_Mo_moves_b416 R416 x1 x2 x4 s)) : Xw d M_Mo_moves 0 0 416 [.ref 46, .int x1, .int x2, .retAddr 0, .int x4] [] s Q := by
  unfold f_Mo_moves_b416 at h
  refine xi_iload D_Mo_moves_416 rfl ?_
  refine xi_bipush (v := 7) D_Mo_moves_418 rfl ?_
  refine xi_icmp_ge D_Mo_moves_420 (fun c91 => ?_) (fun c91 => ?_)
  · have h := okx_T c91 h
    exact xk_wk (w_Mo_moves_b474 (by omega)  h) ⟨Or.inl rfl, Or.inl rfl, Or.inl rfl, Or.inl rfl, Or.inr rfl, trivial⟩
  · have h := okx_F c91 h
    refine xi_iload_n D_Mo_moves_423 rfl ?_
    refine xi_if_eq D_Mo_moves_424 (fun c92 => ?_) (fun c92 => ?_)
    · have h := okx_T c92 h
      refine xi_aload_n D_Mo_moves_449 rfl ?_
      obtain ⟨g93, h⟩ := okx_ck h
      refine xi_getR D_Mo_moves_450 F_Mo_105 (zl_fo (g93).1 rfl) ⟨rfl, by decide⟩ (zl_gr (g93).2 rfl rfl) ?_
      refine xi_bipush (v := 7) D_Mo_moves_453 rfl ?_
      refine xi_iload_n D_Mo_moves_455 rfl ?_
      refine xi_imul D_Mo_moves_456 ?_
      refine xi_iload D_Mo_moves_457 rfl ?_
      refine xi_iadd D_Mo_moves_459 ?_
      refine xi_aload_n D_Mo_moves_460 rfl ?_
      refine xi_getR D_Mo_moves_461 F_Mo_13 (zl_fo (g93).1 rfl) ⟨rfl, by decide⟩ (zl_gr (g93).2 rfl rfl) ?_
      refine xi_iload D_Mo_moves_464 rfl ?_
      obtain ⟨g94, h⟩ := okx_ck h
      refine xj_lald D_Mo_moves_466 (zl_fx (g93).1 rfl) (zl_ib (n := 14) rfl (g94)) ?_
      obtain ⟨g95, h⟩ := okx_ck h
      refine xj_last D_Mo_moves_467 (zl_fx (g93).1 rfl) (zl_ib (n := 28) rfl (g95)) ?_
      exact w_Mo_moves_b468 (by omega) hR416 h
    · have h := okx_F c92 h
      refine xi_aload_n D_Mo_moves_427 rfl ?_
      obtain ⟨g97, h⟩ := okx_ck h
      refine xi_getR D_Mo_moves_428 F_Mo_13 (zl_fo (g97).1 rfl) ⟨rfl, by decide⟩ (zl_gr (g97).2 rfl rfl) ?_
      refine xi_iload D_Mo_moves_431 rfl ?_
      refine xi_aload_n D_Mo_moves_433 rfl ?_
      refine xi_getR D_Mo_moves_434 F_Mo_105 (zl_fo (g97).1 rfl) ⟨rfl, by decide⟩ (zl_gr (g97).2 rfl rfl) ?_
      refine xi_bipush (v := 7) D_Mo_moves_437 rfl ?_
      refine xi_iload_n D_Mo_moves_439 rfl ?_
      refine xi_imul D_Mo_moves_440 ?_
      refine xi_iload D_Mo_moves_441 rfl ?_
      refine xi_iadd D_Mo_moves_443 ?_
      obtain ⟨g98, h⟩ := okx_ck h
      refine xj_lald D_Mo_moves_444 (zl_fx (g97).1 rfl) (zl_ib (n := 28) rfl (g98)) ?_
      obtain ⟨g99, h⟩ := okx_ck h
      refine xj_last D_Mo_moves_445 (zl_fx (g97).1 rfl) (zl_ib (n := 14) rfl (g99)) ?_
      refine xi_goto D_Mo_moves_446 ?_
      exact w_Mo_moves_b468 (by omega) hR416 h
noncomputable def f_Mo_moves_h416 : Nat → Int32 → Int32 → Int32 → Sg → Option (Unit × Sg)
  | 0, _, _, _, _ => none
  | n + 1, x1, x2, x4, s => f_Mo_moves_b416 (f_Mo_moves_h416 n) x1 x2 x4 s
theorem w_Mo_moves_h416 {d : Nat} {Q : Option (Option Value) → Sg → Prop} (hd : 2 ≤ d) : ∀ (n : Nat) (x1 : Int32) (x2 : Int32) (x4 : Int32) (s : Sg), okx (zq_V Q) (f_Mo_moves_h416 n x1 x2 x4 s) → Xw d M_Mo_moves 0 0 416 [.ref 46, .int x1, .int x2, .retAddr 0, .int x4] [] s Q := by
  intro n
  induction n with
  | zero => intro x1 x2 x4 s h; exact okx_no h
  | succ n ih => intro x1 x2 x4 s h; exact w_Mo_moves_b416 hd  ih  h
noncomputable def f_Mo_moves_b413 (x1 : Int32) (x2 : Int32) (s : Sg) : Option (Unit × Sg) :=
  f_Mo_moves_h416  zl_fl x1 x2 0 s
theorem w_Mo_moves_b413 {x1 : Int32} {x2 : Int32} {s : Sg} {d : Nat} {Q : Option (Option Value) → Sg → Prop} (hd : 2 ≤ d) (h : okx (zq_V Q) (f_Mo_moves_b413 x1 x2 s)) : Xw d M_Mo_moves 0 0 413 [.ref 46, .int x1, .int x2, .retAddr 0, .retAddr 0] [] s Q := by
  unfold f_Mo_moves_b413 at h
  refine xj_iconst (v := 0) D_Mo_moves_413 rfl ?_
  refine xi_istore (ls' := [_, _, _, _, _]) D_Mo_moves_414 rfl (by decide) ?_
  exact w_Mo_moves_h416 (by omega)  _ _ _ _ _ h
noncomputable def f_Mo_moves_b254 (R254 : Int32 → Int32 → Int32 → Int32 → Sg → Option (Unit × Sg)) (x1 : Int32) (x2 : Int32) (x3 : Int32) (x4 : Int32) (s : Sg) : Option (Unit × Sg) :=
  if 3 ≤ x4 then
    f_Mo_moves_b413  x1 x2 s
  else
    f_ck (zl_B s) <|
    f_ck (vp_in x4 3) <|
    f_bd (f_Mo_keeps ((x3 + 42) + x4) (mI s 69 (Int32.toNatClampNeg x4)) x2 s) fun r59 s60 =>
    f_ck (zl_B s60) <|
    f_ck (vp_in x4 3) <|
    let s63 : Sg := uI s60 69 (Int32.toNatClampNeg x4) r59
    f_ck (vp_in x4 3) <|
    f_bd (f_Mo_keeps ((x3 + 45) + x4) (mI s63 70 (Int32.toNatClampNeg x4)) x2 s63) fun r65 s66 =>
    f_ck (zl_B s66) <|
    f_ck (vp_in x4 3) <|
    let s69 : Sg := uI s66 70 (Int32.toNatClampNeg x4) r65
    f_ck (vp_in x4 3) <|
    f_bd (f_Mo_keeps ((x3 + 48) + x4) (mI s69 71 (Int32.toNatClampNeg x4)) x2 s69) fun r71 s72 =>
    f_ck (zl_B s72) <|
    f_ck (vp_in x4 3) <|
    let s75 : Sg := uI s72 71 (Int32.toNatClampNeg x4) r71
    f_ck (vp_in x4 3) <|
    f_bd (f_Mo_keeps ((x3 + 51) + x4) (mI s75 72 (Int32.toNatClampNeg x4)) x2 s75) fun r77 s78 =>
    f_ck (zl_B s78) <|
    f_ck (vp_in x4 3) <|
    let s81 : Sg := uI s78 72 (Int32.toNatClampNeg x4) r77
    f_ck (vp_in x4 3) <|
    if (mI s81 73 (Int32.toNatClampNeg x4)) = 0 then
      f_Mo_moves_b393 R254 x1 x2 x3 x4 x4 ((x3 + 54) + x4) 0 s81
    else
      f_Mo_moves_b393 R254 x1 x2 x3 x4 x4 ((x3 + 54) + x4) 1 s81
theorem w_Mo_moves_b254 {x1 : Int32} {x2 : Int32} {x3 : Int32} {x4 : Int32} {s : Sg} {d : Nat} {Q : Option (Option Value) → Sg → Prop} (hd : 2 ≤ d) {R254 : Int32 → Int32 → Int32 → Int32 → Sg → Option (Unit × Sg)} (hR254 : ∀ (x1 : Int32) (x2 : Int32) (x3 : Int32) (x4 : Int32) (s : Sg), okx (zq_V Q) (R254 x1 x2 x3 x4 s) → Xw d M_Mo_moves 0 0 254 [.ref 46, .int x1, .int x2, .int x3, .int x4] [] s Q) (h : okx (zq_V Q) (f_Mo_moves_b254 R254 x1 x2 x3 x4 s)) : Xw d M_Mo_moves 0 0 254 [.ref 46, .int x1, .int x2, .int x3, .int x4] [] s Q := by
  unfold f_Mo_moves_b254 at h
  refine xi_iload D_Mo_moves_254 rfl ?_
  refine xj_iconst (v := 3) D_Mo_moves_256 rfl ?_
  refine xi_icmp_ge D_Mo_moves_257 (fun c56 => ?_) (fun c56 => ?_)
  · have h := okx_T c56 h
    exact xk_wk (w_Mo_moves_b413 (by omega)  h) ⟨Or.inl rfl, Or.inl rfl, Or.inl rfl, Or.inr rfl, Or.inr rfl, trivial⟩
  · have h := okx_F c56 h
    refine xi_aload_n D_Mo_moves_260 rfl ?_
    obtain ⟨g57, h⟩ := okx_ck h
    refine xi_getR D_Mo_moves_261 F_Mo_78 (zl_fo (g57).1 rfl) ⟨rfl, by decide⟩ (zl_gr (g57).2 rfl rfl) ?_
    refine xi_iload D_Mo_moves_264 rfl ?_
    refine xi_aload_n D_Mo_moves_266 rfl ?_
    refine xi_iload_n D_Mo_moves_267 rfl ?_
    refine xi_bipush (v := 42) D_Mo_moves_268 rfl ?_
    refine xi_iadd D_Mo_moves_270 ?_
    refine xi_iload D_Mo_moves_271 rfl ?_
    refine xi_iadd D_Mo_moves_273 ?_
    refine xi_aload_n D_Mo_moves_274 rfl ?_
    refine xi_getR D_Mo_moves_275 F_Mo_78 (zl_fo (g57).1 rfl) ⟨rfl, by decide⟩ (zl_gr (g57).2 rfl rfl) ?_
    refine xi_iload D_Mo_moves_278 rfl ?_
    obtain ⟨g58, h⟩ := okx_ck h
    refine xj_iald D_Mo_moves_280 (zl_fx (g57).1 rfl) (zl_ib (n := 3) rfl (g58)) ?_
    refine xi_iload_n D_Mo_moves_281 rfl ?_
    refine xj_V3 D_Mo_moves_282 L_Mo_429 C_Mo_keeps Z_Mo_keeps (zl_fo (g57).1 rfl) (Nat.le_of_ble_eq_true rfl) (Nat.le_of_eq (Nat.sub_add_cancel (by omega))) (w_Mo_keeps (by omega) (okx_mono (okx_bd h) ?_))
    intro r59 s60 h
    show Xw _ _ _ _ 285 _ [_, _, _] _ _
    obtain ⟨g61, h⟩ := okx_ck h
    obtain ⟨g62, h⟩ := okx_ck h
    refine xj_iast D_Mo_moves_285 (zl_fx (g61).1 rfl) (zl_ib (n := 3) rfl (g62)) ?_
    refine xi_aload_n D_Mo_moves_286 rfl ?_
    refine xi_getR D_Mo_moves_287 F_Mo_81 (zl_fo (g61).1 rfl) ⟨rfl, by decide⟩ (zl_gr (g61).2 rfl rfl) ?_
    refine xi_iload D_Mo_moves_290 rfl ?_
    refine xi_aload_n D_Mo_moves_292 rfl ?_
    refine xi_iload_n D_Mo_moves_293 rfl ?_
    refine xi_bipush (v := 45) D_Mo_moves_294 rfl ?_
    refine xi_iadd D_Mo_moves_296 ?_
    refine xi_iload D_Mo_moves_297 rfl ?_
    refine xi_iadd D_Mo_moves_299 ?_
    refine xi_aload_n D_Mo_moves_300 rfl ?_
    refine xi_getR D_Mo_moves_301 F_Mo_81 (zl_fo (g61).1 rfl) ⟨rfl, by decide⟩ (zl_gr (g61).2 rfl rfl) ?_
    refine xi_iload D_Mo_moves_304 rfl ?_
    obtain ⟨g64, h⟩ := okx_ck h
    refine xj_iald D_Mo_moves_306 (zl_fx (g61).1 rfl) (zl_ib (n := 3) rfl (g64)) ?_
    refine xi_iload_n D_Mo_moves_307 rfl ?_
    refine xj_V3 D_Mo_moves_308 L_Mo_429 C_Mo_keeps Z_Mo_keeps (zl_fo (g61).1 rfl) (Nat.le_of_ble_eq_true rfl) (Nat.le_of_eq (Nat.sub_add_cancel (by omega))) (w_Mo_keeps (by omega) (okx_mono (okx_bd h) ?_))
    intro r65 s66 h
    show Xw _ _ _ _ 311 _ [_, _, _] _ _
    obtain ⟨g67, h⟩ := okx_ck h
    obtain ⟨g68, h⟩ := okx_ck h
    refine xj_iast D_Mo_moves_311 (zl_fx (g67).1 rfl) (zl_ib (n := 3) rfl (g68)) ?_
    refine xi_aload_n D_Mo_moves_312 rfl ?_
    refine xi_getR D_Mo_moves_313 F_Mo_84 (zl_fo (g67).1 rfl) ⟨rfl, by decide⟩ (zl_gr (g67).2 rfl rfl) ?_
    refine xi_iload D_Mo_moves_316 rfl ?_
    refine xi_aload_n D_Mo_moves_318 rfl ?_
    refine xi_iload_n D_Mo_moves_319 rfl ?_
    refine xi_bipush (v := 48) D_Mo_moves_320 rfl ?_
    refine xi_iadd D_Mo_moves_322 ?_
    refine xi_iload D_Mo_moves_323 rfl ?_
    refine xi_iadd D_Mo_moves_325 ?_
    refine xi_aload_n D_Mo_moves_326 rfl ?_
    refine xi_getR D_Mo_moves_327 F_Mo_84 (zl_fo (g67).1 rfl) ⟨rfl, by decide⟩ (zl_gr (g67).2 rfl rfl) ?_
    refine xi_iload D_Mo_moves_330 rfl ?_
    obtain ⟨g70, h⟩ := okx_ck h
    refine xj_iald D_Mo_moves_332 (zl_fx (g67).1 rfl) (zl_ib (n := 3) rfl (g70)) ?_
    refine xi_iload_n D_Mo_moves_333 rfl ?_
    refine xj_V3 D_Mo_moves_334 L_Mo_429 C_Mo_keeps Z_Mo_keeps (zl_fo (g67).1 rfl) (Nat.le_of_ble_eq_true rfl) (Nat.le_of_eq (Nat.sub_add_cancel (by omega))) (w_Mo_keeps (by omega) (okx_mono (okx_bd h) ?_))
    intro r71 s72 h
    show Xw _ _ _ _ 337 _ [_, _, _] _ _
    obtain ⟨g73, h⟩ := okx_ck h
    obtain ⟨g74, h⟩ := okx_ck h
    refine xj_iast D_Mo_moves_337 (zl_fx (g73).1 rfl) (zl_ib (n := 3) rfl (g74)) ?_
    refine xi_aload_n D_Mo_moves_338 rfl ?_
    refine xi_getR D_Mo_moves_339 F_Mo_87 (zl_fo (g73).1 rfl) ⟨rfl, by decide⟩ (zl_gr (g73).2 rfl rfl) ?_
    refine xi_iload D_Mo_moves_342 rfl ?_
    refine xi_aload_n D_Mo_moves_344 rfl ?_
    refine xi_iload_n D_Mo_moves_345 rfl ?_
    refine xi_bipush (v := 51) D_Mo_moves_346 rfl ?_
    refine xi_iadd D_Mo_moves_348 ?_
    refine xi_iload D_Mo_moves_349 rfl ?_
    refine xi_iadd D_Mo_moves_351 ?_
    refine xi_aload_n D_Mo_moves_352 rfl ?_
    refine xi_getR D_Mo_moves_353 F_Mo_87 (zl_fo (g73).1 rfl) ⟨rfl, by decide⟩ (zl_gr (g73).2 rfl rfl) ?_
    refine xi_iload D_Mo_moves_356 rfl ?_
    obtain ⟨g76, h⟩ := okx_ck h
    refine xj_iald D_Mo_moves_358 (zl_fx (g73).1 rfl) (zl_ib (n := 3) rfl (g76)) ?_
    refine xi_iload_n D_Mo_moves_359 rfl ?_
    refine xj_V3 D_Mo_moves_360 L_Mo_429 C_Mo_keeps Z_Mo_keeps (zl_fo (g73).1 rfl) (Nat.le_of_ble_eq_true rfl) (Nat.le_of_eq (Nat.sub_add_cancel (by omega))) (w_Mo_keeps (by omega) (okx_mono (okx_bd h) ?_))
    intro r77 s78 h
    show Xw _ _ _ _ 363 _ [_, _, _] _ _
    obtain ⟨g79, h⟩ := okx_ck h
    obtain ⟨g80, h⟩ := okx_ck h
    refine xj_iast D_Mo_moves_363 (zl_fx (g79).1 rfl) (zl_ib (n := 3) rfl (g80)) ?_
    refine xi_aload_n D_Mo_moves_364 rfl ?_
    refine xi_getR D_Mo_moves_365 F_Mo_90 (zl_fo (g79).1 rfl) ⟨rfl, by decide⟩ (zl_gr (g79).2 rfl rfl) ?_
    refine xi_iload D_Mo_moves_368 rfl ?_
    refine xi_aload_n D_Mo_moves_370 rfl ?_
    refine xi_iload_n D_Mo_moves_371 rfl ?_
    refine xi_bipush (v := 54) D_Mo_moves_372 rfl ?_
    refine xi_iadd D_Mo_moves_374 ?_
    refine xi_iload D_Mo_moves_375 rfl ?_
    refine xi_iadd D_Mo_moves_377 ?_
    refine xi_aload_n D_Mo_moves_378 rfl ?_
    refine xi_getR D_Mo_moves_379 F_Mo_90 (zl_fo (g79).1 rfl) ⟨rfl, by decide⟩ (zl_gr (g79).2 rfl rfl) ?_
    refine xi_iload D_Mo_moves_382 rfl ?_
    obtain ⟨g82, h⟩ := okx_ck h
    refine xj_zald D_Mo_moves_384 (zl_fx (g79).1 rfl) (zl_ib (n := 3) rfl (g82)) ?_
    refine xi_if_eq D_Mo_moves_385 (fun c83 => ?_) (fun c83 => ?_)
    · have h := okx_T c83 h
      refine xj_iconst (v := 0) D_Mo_moves_392 rfl ?_
      exact w_Mo_moves_b393 (by omega) hR254 h
    · have h := okx_F c83 h
      refine xj_iconst (v := 1) D_Mo_moves_388 rfl ?_
      refine xi_goto D_Mo_moves_389 ?_
      exact w_Mo_moves_b393 (by omega) hR254 h
noncomputable def f_Mo_moves_h254 : Nat → Int32 → Int32 → Int32 → Int32 → Sg → Option (Unit × Sg)
  | 0, _, _, _, _, _ => none
  | n + 1, x1, x2, x3, x4, s => f_Mo_moves_b254 (f_Mo_moves_h254 n) x1 x2 x3 x4 s
theorem w_Mo_moves_h254 {d : Nat} {Q : Option (Option Value) → Sg → Prop} (hd : 2 ≤ d) : ∀ (n : Nat) (x1 : Int32) (x2 : Int32) (x3 : Int32) (x4 : Int32) (s : Sg), okx (zq_V Q) (f_Mo_moves_h254 n x1 x2 x3 x4 s) → Xw d M_Mo_moves 0 0 254 [.ref 46, .int x1, .int x2, .int x3, .int x4] [] s Q := by
  intro n
  induction n with
  | zero => intro x1 x2 x3 x4 s h; exact okx_no h
  | succ n ih => intro x1 x2 x3 x4 s h; exact w_Mo_moves_b254 hd  ih  h
noncomputable def f_Mo_moves_b251 (x1 : Int32) (x2 : Int32) (x3 : Int32) (s : Sg) : Option (Unit × Sg) :=
  f_Mo_moves_h254  zl_fl x1 x2 x3 0 s
theorem w_Mo_moves_b251 {x1 : Int32} {x2 : Int32} {x3 : Int32} {s : Sg} {d : Nat} {Q : Option (Option Value) → Sg → Prop} (hd : 2 ≤ d) (h : okx (zq_V Q) (f_Mo_moves_b251 x1 x2 x3 s)) : Xw d M_Mo_moves 0 0 251 [.ref 46, .int x1, .int x2, .int x3, .retAddr 0] [] s Q := by
  unfold f_Mo_moves_b251 at h
  refine xj_iconst (v := 0) D_Mo_moves_251 rfl ?_
  refine xi_istore (ls' := [_, _, _, _, _]) D_Mo_moves_252 rfl (by decide) ?_
  exact w_Mo_moves_h254 (by omega)  _ _ _ _ _ _ h
noncomputable def f_Mo_moves_b186 (R186 : Int32 → Int32 → Int32 → Int32 → Sg → Option (Unit × Sg)) (x1 : Int32) (x2 : Int32) (x3 : Int32) (x4 : Int32) (s : Sg) : Option (Unit × Sg) :=
  if 8 ≤ x4 then
    f_Mo_moves_b251  x1 x2 x3 s
  else
    f_ck (zl_B s) <|
    f_ck (vp_in x4 16) <|
    f_bd (f_Mo_keeps ((x3 + 26) + x4) (mI s 51 (Int32.toNatClampNeg x4)) x2 s) fun r45 s46 =>
    f_ck (zl_B s46) <|
    f_ck (vp_in x4 16) <|
    let s49 : Sg := uI s46 51 (Int32.toNatClampNeg x4) r45
    f_ck (vp_in x4 16) <|
    f_bd (f_Mo_keeps ((x3 + 34) + x4) (mI s49 52 (Int32.toNatClampNeg x4)) x2 s49) fun r51 s52 =>
    f_ck (zl_B s52) <|
    f_ck (vp_in x4 16) <|
    let s55 : Sg := uI s52 52 (Int32.toNatClampNeg x4) r51
    R186 x1 x2 x3 (x4 + 1) s55
theorem w_Mo_moves_b186 {x1 : Int32} {x2 : Int32} {x3 : Int32} {x4 : Int32} {s : Sg} {d : Nat} {Q : Option (Option Value) → Sg → Prop} (hd : 2 ≤ d) {R186 : Int32 → Int32 → Int32 → Int32 → Sg → Option (Unit × Sg)} (hR186 : ∀ (x1 : Int32) (x2 : Int32) (x3 : Int32) (x4 : Int32) (s : Sg), okx (zq_V Q) (R186 x1 x2 x3 x4 s) → Xw d M_Mo_moves 0 0 186 [.ref 46, .int x1, .int x2, .int x3, .int x4] [] s Q) (h : okx (zq_V Q) (f_Mo_moves_b186 R186 x1 x2 x3 x4 s)) : Xw d M_Mo_moves 0 0 186 [.ref 46, .int x1, .int x2, .int x3, .int x4] [] s Q := by
  unfold f_Mo_moves_b186 at h
  refine xi_iload D_Mo_moves_186 rfl ?_
  refine xi_bipush (v := 8) D_Mo_moves_188 rfl ?_
  refine xi_icmp_ge D_Mo_moves_190 (fun c42 => ?_) (fun c42 => ?_)
  · have h := okx_T c42 h
    exact xk_wk (w_Mo_moves_b251 (by omega)  h) ⟨Or.inl rfl, Or.inl rfl, Or.inl rfl, Or.inl rfl, Or.inr rfl, trivial⟩
  · have h := okx_F c42 h
    refine xi_aload_n D_Mo_moves_193 rfl ?_
    obtain ⟨g43, h⟩ := okx_ck h
    refine xi_getR D_Mo_moves_194 F_Mo_23 (zl_fo (g43).1 rfl) ⟨rfl, by decide⟩ (zl_gr (g43).2 rfl rfl) ?_
    refine xi_iload D_Mo_moves_197 rfl ?_
    refine xi_aload_n D_Mo_moves_199 rfl ?_
    refine xi_iload_n D_Mo_moves_200 rfl ?_
    refine xi_bipush (v := 26) D_Mo_moves_201 rfl ?_
    refine xi_iadd D_Mo_moves_203 ?_
    refine xi_iload D_Mo_moves_204 rfl ?_
    refine xi_iadd D_Mo_moves_206 ?_
    refine xi_aload_n D_Mo_moves_207 rfl ?_
    refine xi_getR D_Mo_moves_208 F_Mo_23 (zl_fo (g43).1 rfl) ⟨rfl, by decide⟩ (zl_gr (g43).2 rfl rfl) ?_
    refine xi_iload D_Mo_moves_211 rfl ?_
    obtain ⟨g44, h⟩ := okx_ck h
    refine xj_iald D_Mo_moves_213 (zl_fx (g43).1 rfl) (zl_ib (n := 16) rfl (g44)) ?_
    refine xi_iload_n D_Mo_moves_214 rfl ?_
    refine xj_V3 D_Mo_moves_215 L_Mo_429 C_Mo_keeps Z_Mo_keeps (zl_fo (g43).1 rfl) (Nat.le_of_ble_eq_true rfl) (Nat.le_of_eq (Nat.sub_add_cancel (by omega))) (w_Mo_keeps (by omega) (okx_mono (okx_bd h) ?_))
    intro r45 s46 h
    show Xw _ _ _ _ 218 _ [_, _, _] _ _
    obtain ⟨g47, h⟩ := okx_ck h
    obtain ⟨g48, h⟩ := okx_ck h
    refine xj_iast D_Mo_moves_218 (zl_fx (g47).1 rfl) (zl_ib (n := 16) rfl (g48)) ?_
    refine xi_aload_n D_Mo_moves_219 rfl ?_
    refine xi_getR D_Mo_moves_220 F_Mo_26 (zl_fo (g47).1 rfl) ⟨rfl, by decide⟩ (zl_gr (g47).2 rfl rfl) ?_
    refine xi_iload D_Mo_moves_223 rfl ?_
    refine xi_aload_n D_Mo_moves_225 rfl ?_
    refine xi_iload_n D_Mo_moves_226 rfl ?_
    refine xi_bipush (v := 34) D_Mo_moves_227 rfl ?_
    refine xi_iadd D_Mo_moves_229 ?_
    refine xi_iload D_Mo_moves_230 rfl ?_
    refine xi_iadd D_Mo_moves_232 ?_
    refine xi_aload_n D_Mo_moves_233 rfl ?_
    refine xi_getR D_Mo_moves_234 F_Mo_26 (zl_fo (g47).1 rfl) ⟨rfl, by decide⟩ (zl_gr (g47).2 rfl rfl) ?_
    refine xi_iload D_Mo_moves_237 rfl ?_
    obtain ⟨g50, h⟩ := okx_ck h
    refine xj_iald D_Mo_moves_239 (zl_fx (g47).1 rfl) (zl_ib (n := 16) rfl (g50)) ?_
    refine xi_iload_n D_Mo_moves_240 rfl ?_
    refine xj_V3 D_Mo_moves_241 L_Mo_429 C_Mo_keeps Z_Mo_keeps (zl_fo (g47).1 rfl) (Nat.le_of_ble_eq_true rfl) (Nat.le_of_eq (Nat.sub_add_cancel (by omega))) (w_Mo_keeps (by omega) (okx_mono (okx_bd h) ?_))
    intro r51 s52 h
    show Xw _ _ _ _ 244 _ [_, _, _] _ _
    obtain ⟨g53, h⟩ := okx_ck h
    obtain ⟨g54, h⟩ := okx_ck h
    refine xj_iast D_Mo_moves_244 (zl_fx (g53).1 rfl) (zl_ib (n := 16) rfl (g54)) ?_
    refine xi_iinc (v := _ + 1) (ls' := [_, _, _, _, _]) D_Mo_moves_245 rfl rfl rfl (by decide) ?_
    refine xi_goto D_Mo_moves_248 ?_
    exact hR186 _ _ _ _ _ h
noncomputable def f_Mo_moves_h186 : Nat → Int32 → Int32 → Int32 → Int32 → Sg → Option (Unit × Sg)
  | 0, _, _, _, _, _ => none
  | n + 1, x1, x2, x3, x4, s => f_Mo_moves_b186 (f_Mo_moves_h186 n) x1 x2 x3 x4 s
theorem w_Mo_moves_h186 {d : Nat} {Q : Option (Option Value) → Sg → Prop} (hd : 2 ≤ d) : ∀ (n : Nat) (x1 : Int32) (x2 : Int32) (x3 : Int32) (x4 : Int32) (s : Sg), okx (zq_V Q) (f_Mo_moves_h186 n x1 x2 x3 x4 s) → Xw d M_Mo_moves 0 0 186 [.ref 46, .int x1, .int x2, .int x3, .int x4] [] s Q := by
  intro n
  induction n with
  | zero => intro x1 x2 x3 x4 s h; exact okx_no h
  | succ n ih => intro x1 x2 x3 x4 s h; exact w_Mo_moves_b186 hd  ih  h
noncomputable def f_Mo_moves_b183 (x1 : Int32) (x2 : Int32) (x3 : Int32) (s : Sg) : Option (Unit × Sg) :=
  f_Mo_moves_h186  zl_fl x1 x2 x3 0 s
theorem w_Mo_moves_b183 {x1 : Int32} {x2 : Int32} {x3 : Int32} {s : Sg} {d : Nat} {Q : Option (Option Value) → Sg → Prop} (hd : 2 ≤ d) (h : okx (zq_V Q) (f_Mo_moves_b183 x1 x2 x3 s)) : Xw d M_Mo_moves 0 0 183 [.ref 46, .int x1, .int x2, .int x3, .retAddr 0] [] s Q := by
  unfold f_Mo_moves_b183 at h
  refine xj_iconst (v := 0) D_Mo_moves_183 rfl ?_
  refine xi_istore (ls' := [_, _, _, _, _]) D_Mo_moves_184 rfl (by decide) ?_
  exact w_Mo_moves_h186 (by omega)  _ _ _ _ _ _ h
noncomputable def f_Mo_moves_b144 (R144 : Int32 → Int32 → Int32 → Int32 → Sg → Option (Unit × Sg)) (x1 : Int32) (x2 : Int32) (x3 : Int32) (x4 : Int32) (s : Sg) : Option (Unit × Sg) :=
  if 16 ≤ x4 then
    f_Mo_moves_b183  x1 x2 x3 s
  else
    f_ck (zl_B s) <|
    f_ck (vp_in x4 32) <|
    f_bd (f_Mo_keeps ((x3 + 10) + x4) (mI s 50 (Int32.toNatClampNeg x4)) x2 s) fun r37 s38 =>
    f_ck (zl_B s38) <|
    f_ck (vp_in x4 32) <|
    let s41 : Sg := uI s38 50 (Int32.toNatClampNeg x4) r37
    R144 x1 x2 x3 (x4 + 1) s41
theorem w_Mo_moves_b144 {x1 : Int32} {x2 : Int32} {x3 : Int32} {x4 : Int32} {s : Sg} {d : Nat} {Q : Option (Option Value) → Sg → Prop} (hd : 2 ≤ d) {R144 : Int32 → Int32 → Int32 → Int32 → Sg → Option (Unit × Sg)} (hR144 : ∀ (x1 : Int32) (x2 : Int32) (x3 : Int32) (x4 : Int32) (s : Sg), okx (zq_V Q) (R144 x1 x2 x3 x4 s) → Xw d M_Mo_moves 0 0 144 [.ref 46, .int x1, .int x2, .int x3, .int x4] [] s Q) (h : okx (zq_V Q) (f_Mo_moves_b144 R144 x1 x2 x3 x4 s)) : Xw d M_Mo_moves 0 0 144 [.ref 46, .int x1, .int x2, .int x3, .int x4] [] s Q := by
  unfold f_Mo_moves_b144 at h
  refine xi_iload D_Mo_moves_144 rfl ?_
  refine xi_bipush (v := 16) D_Mo_moves_146 rfl ?_
  refine xi_icmp_ge D_Mo_moves_148 (fun c34 => ?_) (fun c34 => ?_)
  · have h := okx_T c34 h
    exact xk_wk (w_Mo_moves_b183 (by omega)  h) ⟨Or.inl rfl, Or.inl rfl, Or.inl rfl, Or.inl rfl, Or.inr rfl, trivial⟩
  · have h := okx_F c34 h
    refine xi_aload_n D_Mo_moves_151 rfl ?_
    obtain ⟨g35, h⟩ := okx_ck h
    refine xi_getR D_Mo_moves_152 F_Mo_20 (zl_fo (g35).1 rfl) ⟨rfl, by decide⟩ (zl_gr (g35).2 rfl rfl) ?_
    refine xi_iload D_Mo_moves_155 rfl ?_
    refine xi_aload_n D_Mo_moves_157 rfl ?_
    refine xi_iload_n D_Mo_moves_158 rfl ?_
    refine xi_bipush (v := 10) D_Mo_moves_159 rfl ?_
    refine xi_iadd D_Mo_moves_161 ?_
    refine xi_iload D_Mo_moves_162 rfl ?_
    refine xi_iadd D_Mo_moves_164 ?_
    refine xi_aload_n D_Mo_moves_165 rfl ?_
    refine xi_getR D_Mo_moves_166 F_Mo_20 (zl_fo (g35).1 rfl) ⟨rfl, by decide⟩ (zl_gr (g35).2 rfl rfl) ?_
    refine xi_iload D_Mo_moves_169 rfl ?_
    obtain ⟨g36, h⟩ := okx_ck h
    refine xj_iald D_Mo_moves_171 (zl_fx (g35).1 rfl) (zl_ib (n := 32) rfl (g36)) ?_
    refine xi_iload_n D_Mo_moves_172 rfl ?_
    refine xj_V3 D_Mo_moves_173 L_Mo_429 C_Mo_keeps Z_Mo_keeps (zl_fo (g35).1 rfl) (Nat.le_of_ble_eq_true rfl) (Nat.le_of_eq (Nat.sub_add_cancel (by omega))) (w_Mo_keeps (by omega) (okx_mono (okx_bd h) ?_))
    intro r37 s38 h
    show Xw _ _ _ _ 176 _ [_, _, _] _ _
    obtain ⟨g39, h⟩ := okx_ck h
    obtain ⟨g40, h⟩ := okx_ck h
    refine xj_iast D_Mo_moves_176 (zl_fx (g39).1 rfl) (zl_ib (n := 32) rfl (g40)) ?_
    refine xi_iinc (v := _ + 1) (ls' := [_, _, _, _, _]) D_Mo_moves_177 rfl rfl rfl (by decide) ?_
    refine xi_goto D_Mo_moves_180 ?_
    exact hR144 _ _ _ _ _ h
noncomputable def f_Mo_moves_h144 : Nat → Int32 → Int32 → Int32 → Int32 → Sg → Option (Unit × Sg)
  | 0, _, _, _, _, _ => none
  | n + 1, x1, x2, x3, x4, s => f_Mo_moves_b144 (f_Mo_moves_h144 n) x1 x2 x3 x4 s
theorem w_Mo_moves_h144 {d : Nat} {Q : Option (Option Value) → Sg → Prop} (hd : 2 ≤ d) : ∀ (n : Nat) (x1 : Int32) (x2 : Int32) (x3 : Int32) (x4 : Int32) (s : Sg), okx (zq_V Q) (f_Mo_moves_h144 n x1 x2 x3 x4 s) → Xw d M_Mo_moves 0 0 144 [.ref 46, .int x1, .int x2, .int x3, .int x4] [] s Q := by
  intro n
  induction n with
  | zero => intro x1 x2 x3 x4 s h; exact okx_no h
  | succ n ih => intro x1 x2 x3 x4 s h; exact w_Mo_moves_b144 hd  ih  h
noncomputable def f_Mo_moves_b141 (x1 : Int32) (x2 : Int32) (x3 : Int32) (s : Sg) : Option (Unit × Sg) :=
  f_Mo_moves_h144  zl_fl x1 x2 x3 0 s
theorem w_Mo_moves_b141 {x1 : Int32} {x2 : Int32} {x3 : Int32} {s : Sg} {d : Nat} {Q : Option (Option Value) → Sg → Prop} (hd : 2 ≤ d) (h : okx (zq_V Q) (f_Mo_moves_b141 x1 x2 x3 s)) : Xw d M_Mo_moves 0 0 141 [.ref 46, .int x1, .int x2, .int x3, .retAddr 0] [] s Q := by
  unfold f_Mo_moves_b141 at h
  refine xj_iconst (v := 0) D_Mo_moves_141 rfl ?_
  refine xi_istore (ls' := [_, _, _, _, _]) D_Mo_moves_142 rfl (by decide) ?_
  exact w_Mo_moves_h144 (by omega)  _ _ _ _ _ _ h
noncomputable def f_Mo_moves_b103 (R103 : Int32 → Int32 → Int32 → Int32 → Sg → Option (Unit × Sg)) (x1 : Int32) (x2 : Int32) (x3 : Int32) (x4 : Int32) (s : Sg) : Option (Unit × Sg) :=
  if 4 ≤ x4 then
    f_Mo_moves_b141  x1 x2 x3 s
  else
    f_ck (zl_B s) <|
    f_ck (vp_in x4 8) <|
    f_bd (f_Mo_keeps ((x3 + 6) + x4) (mI s 49 (Int32.toNatClampNeg x4)) x2 s) fun r29 s30 =>
    f_ck (zl_B s30) <|
    f_ck (vp_in x4 8) <|
    let s33 : Sg := uI s30 49 (Int32.toNatClampNeg x4) r29
    R103 x1 x2 x3 (x4 + 1) s33
theorem w_Mo_moves_b103 {x1 : Int32} {x2 : Int32} {x3 : Int32} {x4 : Int32} {s : Sg} {d : Nat} {Q : Option (Option Value) → Sg → Prop} (hd : 2 ≤ d) {R103 : Int32 → Int32 → Int32 → Int32 → Sg → Option (Unit × Sg)} (hR103 : ∀ (x1 : Int32) (x2 : Int32) (x3 : Int32) (x4 : Int32) (s : Sg), okx (zq_V Q) (R103 x1 x2 x3 x4 s) → Xw d M_Mo_moves 0 0 103 [.ref 46, .int x1, .int x2, .int x3, .int x4] [] s Q) (h : okx (zq_V Q) (f_Mo_moves_b103 R103 x1 x2 x3 x4 s)) : Xw d M_Mo_moves 0 0 103 [.ref 46, .int x1, .int x2, .int x3, .int x4] [] s Q := by
  unfold f_Mo_moves_b103 at h
  refine xi_iload D_Mo_moves_103 rfl ?_
  refine xj_iconst (v := 4) D_Mo_moves_105 rfl ?_
  refine xi_icmp_ge D_Mo_moves_106 (fun c26 => ?_) (fun c26 => ?_)
  · have h := okx_T c26 h
    exact xk_wk (w_Mo_moves_b141 (by omega)  h) ⟨Or.inl rfl, Or.inl rfl, Or.inl rfl, Or.inl rfl, Or.inr rfl, trivial⟩
  · have h := okx_F c26 h
    refine xi_aload_n D_Mo_moves_109 rfl ?_
    obtain ⟨g27, h⟩ := okx_ck h
    refine xi_getR D_Mo_moves_110 F_Mo_17 (zl_fo (g27).1 rfl) ⟨rfl, by decide⟩ (zl_gr (g27).2 rfl rfl) ?_
    refine xi_iload D_Mo_moves_113 rfl ?_
    refine xi_aload_n D_Mo_moves_115 rfl ?_
    refine xi_iload_n D_Mo_moves_116 rfl ?_
    refine xi_bipush (v := 6) D_Mo_moves_117 rfl ?_
    refine xi_iadd D_Mo_moves_119 ?_
    refine xi_iload D_Mo_moves_120 rfl ?_
    refine xi_iadd D_Mo_moves_122 ?_
    refine xi_aload_n D_Mo_moves_123 rfl ?_
    refine xi_getR D_Mo_moves_124 F_Mo_17 (zl_fo (g27).1 rfl) ⟨rfl, by decide⟩ (zl_gr (g27).2 rfl rfl) ?_
    refine xi_iload D_Mo_moves_127 rfl ?_
    obtain ⟨g28, h⟩ := okx_ck h
    refine xj_iald D_Mo_moves_129 (zl_fx (g27).1 rfl) (zl_ib (n := 8) rfl (g28)) ?_
    refine xi_iload_n D_Mo_moves_130 rfl ?_
    refine xj_V3 D_Mo_moves_131 L_Mo_429 C_Mo_keeps Z_Mo_keeps (zl_fo (g27).1 rfl) (Nat.le_of_ble_eq_true rfl) (Nat.le_of_eq (Nat.sub_add_cancel (by omega))) (w_Mo_keeps (by omega) (okx_mono (okx_bd h) ?_))
    intro r29 s30 h
    show Xw _ _ _ _ 134 _ [_, _, _] _ _
    obtain ⟨g31, h⟩ := okx_ck h
    obtain ⟨g32, h⟩ := okx_ck h
    refine xj_iast D_Mo_moves_134 (zl_fx (g31).1 rfl) (zl_ib (n := 8) rfl (g32)) ?_
    refine xi_iinc (v := _ + 1) (ls' := [_, _, _, _, _]) D_Mo_moves_135 rfl rfl rfl (by decide) ?_
    refine xi_goto D_Mo_moves_138 ?_
    exact hR103 _ _ _ _ _ h
noncomputable def f_Mo_moves_h103 : Nat → Int32 → Int32 → Int32 → Int32 → Sg → Option (Unit × Sg)
  | 0, _, _, _, _, _ => none
  | n + 1, x1, x2, x3, x4, s => f_Mo_moves_b103 (f_Mo_moves_h103 n) x1 x2 x3 x4 s
theorem w_Mo_moves_h103 {d : Nat} {Q : Option (Option Value) → Sg → Prop} (hd : 2 ≤ d) : ∀ (n : Nat) (x1 : Int32) (x2 : Int32) (x3 : Int32) (x4 : Int32) (s : Sg), okx (zq_V Q) (f_Mo_moves_h103 n x1 x2 x3 x4 s) → Xw d M_Mo_moves 0 0 103 [.ref 46, .int x1, .int x2, .int x3, .int x4] [] s Q := by
  intro n
  induction n with
  | zero => intro x1 x2 x3 x4 s h; exact okx_no h
  | succ n ih => intro x1 x2 x3 x4 s h; exact w_Mo_moves_b103 hd  ih  h
noncomputable def f_Mo_moves (x1 : Int32) (x2 : Int32) (s : Sg) : Option (Unit × Sg) :=
  f_ck (zl_B s) <|
  f_bd (f_Mo_keeps (140 * x1) (mI s 46 10) x2 s) fun r2 s3 =>
  f_ck (zl_B s3) <|
  let s5 : Sg := uI s3 46 10 r2
  f_bd (f_Mo_keeps ((140 * x1) + 1) (mI s5 46 11) x2 s5) fun r6 s7 =>
  f_ck (zl_B s7) <|
  let s9 : Sg := uI s7 46 11 r6
  f_bd (f_Mo_keeps ((140 * x1) + 2) (mI s9 46 12) x2 s9) fun r10 s11 =>
  f_ck (zl_B s11) <|
  let s13 : Sg := uI s11 46 12 r10
  f_bd (f_Mo_keeps ((140 * x1) + 3) (mI s13 46 45) x2 s13) fun r14 s15 =>
  f_ck (zl_B s15) <|
  let s17 : Sg := uI s15 46 45 r14
  f_bd (f_Mo_keeps ((140 * x1) + 4) (mI s17 46 46) x2 s17) fun r18 s19 =>
  f_ck (zl_B s19) <|
  let s21 : Sg := uI s19 46 46 r18
  f_bd (f_Mo_keeps ((140 * x1) + 5) (mI s21 46 47) x2 s21) fun r22 s23 =>
  f_ck (zl_B s23) <|
  let s25 : Sg := uI s23 46 47 r22
  f_Mo_moves_h103  zl_fl x1 x2 (140 * x1) 0 s25
theorem w_Mo_moves {x1 : Int32} {x2 : Int32} {s : Sg} {d : Nat} {Q : Option (Option Value) → Sg → Prop} (hd : 2 ≤ d) (h : okx (zq_V Q) (f_Mo_moves x1 x2 s)) : Cw d M_Mo_moves [.ref 46, .int x1, .int x2] s Q := by
  refine Cw.of (by decide +kernel) (Nat.le_of_ble_eq_true rfl) ?_
  show Xw d M_Mo_moves 0 0 0 [.ref 46, .int x1, .int x2, .retAddr 0, .retAddr 0] [] s _
  unfold f_Mo_moves at h
  refine xi_sipush (v := 140) D_Mo_moves_0 rfl ?_
  refine xi_iload_n D_Mo_moves_3 rfl ?_
  refine xi_imul D_Mo_moves_4 ?_
  refine xi_istore_n (ls' := [_, _, _, _, _]) D_Mo_moves_5 rfl (by decide) ?_
  refine xi_aload_n D_Mo_moves_6 rfl ?_
  refine xi_aload_n D_Mo_moves_7 rfl ?_
  refine xi_iload_n D_Mo_moves_8 rfl ?_
  refine xi_aload_n D_Mo_moves_9 rfl ?_
  obtain ⟨g1, h⟩ := okx_ck h
  refine xi_getI D_Mo_moves_10 F_Mo_234 (zl_fo (g1).1 rfl) ⟨rfl, by decide⟩ ?_
  refine xi_iload_n D_Mo_moves_13 rfl ?_
  refine xj_V3 D_Mo_moves_14 L_Mo_429 C_Mo_keeps Z_Mo_keeps (zl_fo (g1).1 rfl) (Nat.le_of_ble_eq_true rfl) (Nat.le_of_eq (Nat.sub_add_cancel (by omega))) (w_Mo_keeps (by omega) (okx_mono (okx_bd h) ?_))
  intro r2 s3 h
  show Xw _ _ _ _ 17 _ [_, _] _ _
  obtain ⟨g4, h⟩ := okx_ck h
  refine xi_putI D_Mo_moves_17 F_Mo_234 (zl_fo (g4).1 rfl) ⟨rfl, by decide, rfl⟩ (⟨rfl, rfl⟩) ?_
  refine xi_aload_n D_Mo_moves_20 rfl ?_
  refine xi_aload_n D_Mo_moves_21 rfl ?_
  refine xi_iload_n D_Mo_moves_22 rfl ?_
  refine xj_iconst (v := 1) D_Mo_moves_23 rfl ?_
  refine xi_iadd D_Mo_moves_24 ?_
  refine xi_aload_n D_Mo_moves_25 rfl ?_
  refine xi_getI D_Mo_moves_26 F_Mo_259 (zl_fo (g4).1 rfl) ⟨rfl, by decide⟩ ?_
  refine xi_iload_n D_Mo_moves_29 rfl ?_
  refine xj_V3 D_Mo_moves_30 L_Mo_429 C_Mo_keeps Z_Mo_keeps (zl_fo (g4).1 rfl) (Nat.le_of_ble_eq_true rfl) (Nat.le_of_eq (Nat.sub_add_cancel (by omega))) (w_Mo_keeps (by omega) (okx_mono (okx_bd h) ?_))
  intro r6 s7 h
  show Xw _ _ _ _ 33 _ [_, _] _ _
  obtain ⟨g8, h⟩ := okx_ck h
  refine xi_putI D_Mo_moves_33 F_Mo_259 (zl_fo (g8).1 rfl) ⟨rfl, by decide, rfl⟩ (⟨rfl, rfl⟩) ?_
  refine xi_aload_n D_Mo_moves_36 rfl ?_
  refine xi_aload_n D_Mo_moves_37 rfl ?_
  refine xi_iload_n D_Mo_moves_38 rfl ?_
  refine xj_iconst (v := 2) D_Mo_moves_39 rfl ?_
  refine xi_iadd D_Mo_moves_40 ?_
  refine xi_aload_n D_Mo_moves_41 rfl ?_
  refine xi_getI D_Mo_moves_42 F_Mo_241 (zl_fo (g8).1 rfl) ⟨rfl, by decide⟩ ?_
  refine xi_iload_n D_Mo_moves_45 rfl ?_
  refine xj_V3 D_Mo_moves_46 L_Mo_429 C_Mo_keeps Z_Mo_keeps (zl_fo (g8).1 rfl) (Nat.le_of_ble_eq_true rfl) (Nat.le_of_eq (Nat.sub_add_cancel (by omega))) (w_Mo_keeps (by omega) (okx_mono (okx_bd h) ?_))
  intro r10 s11 h
  show Xw _ _ _ _ 49 _ [_, _] _ _
  obtain ⟨g12, h⟩ := okx_ck h
  refine xi_putI D_Mo_moves_49 F_Mo_241 (zl_fo (g12).1 rfl) ⟨rfl, by decide, rfl⟩ (⟨rfl, rfl⟩) ?_
  refine xi_aload_n D_Mo_moves_52 rfl ?_
  refine xi_aload_n D_Mo_moves_53 rfl ?_
  refine xi_iload_n D_Mo_moves_54 rfl ?_
  refine xj_iconst (v := 3) D_Mo_moves_55 rfl ?_
  refine xi_iadd D_Mo_moves_56 ?_
  refine xi_aload_n D_Mo_moves_57 rfl ?_
  refine xi_getI D_Mo_moves_58 F_Mo_253 (zl_fo (g12).1 rfl) ⟨rfl, by decide⟩ ?_
  refine xi_iload_n D_Mo_moves_61 rfl ?_
  refine xj_V3 D_Mo_moves_62 L_Mo_429 C_Mo_keeps Z_Mo_keeps (zl_fo (g12).1 rfl) (Nat.le_of_ble_eq_true rfl) (Nat.le_of_eq (Nat.sub_add_cancel (by omega))) (w_Mo_keeps (by omega) (okx_mono (okx_bd h) ?_))
  intro r14 s15 h
  show Xw _ _ _ _ 65 _ [_, _] _ _
  obtain ⟨g16, h⟩ := okx_ck h
  refine xi_putI D_Mo_moves_65 F_Mo_253 (zl_fo (g16).1 rfl) ⟨rfl, by decide, rfl⟩ (⟨rfl, rfl⟩) ?_
  refine xi_aload_n D_Mo_moves_68 rfl ?_
  refine xi_aload_n D_Mo_moves_69 rfl ?_
  refine xi_iload_n D_Mo_moves_70 rfl ?_
  refine xj_iconst (v := 4) D_Mo_moves_71 rfl ?_
  refine xi_iadd D_Mo_moves_72 ?_
  refine xi_aload_n D_Mo_moves_73 rfl ?_
  refine xi_getI D_Mo_moves_74 F_Mo_247 (zl_fo (g16).1 rfl) ⟨rfl, by decide⟩ ?_
  refine xi_iload_n D_Mo_moves_77 rfl ?_
  refine xj_V3 D_Mo_moves_78 L_Mo_429 C_Mo_keeps Z_Mo_keeps (zl_fo (g16).1 rfl) (Nat.le_of_ble_eq_true rfl) (Nat.le_of_eq (Nat.sub_add_cancel (by omega))) (w_Mo_keeps (by omega) (okx_mono (okx_bd h) ?_))
  intro r18 s19 h
  show Xw _ _ _ _ 81 _ [_, _] _ _
  obtain ⟨g20, h⟩ := okx_ck h
  refine xi_putI D_Mo_moves_81 F_Mo_247 (zl_fo (g20).1 rfl) ⟨rfl, by decide, rfl⟩ (⟨rfl, rfl⟩) ?_
  refine xi_aload_n D_Mo_moves_84 rfl ?_
  refine xi_aload_n D_Mo_moves_85 rfl ?_
  refine xi_iload_n D_Mo_moves_86 rfl ?_
  refine xj_iconst (v := 5) D_Mo_moves_87 rfl ?_
  refine xi_iadd D_Mo_moves_88 ?_
  refine xi_aload_n D_Mo_moves_89 rfl ?_
  refine xi_getI D_Mo_moves_90 F_Mo_250 (zl_fo (g20).1 rfl) ⟨rfl, by decide⟩ ?_
  refine xi_iload_n D_Mo_moves_93 rfl ?_
  refine xj_V3 D_Mo_moves_94 L_Mo_429 C_Mo_keeps Z_Mo_keeps (zl_fo (g20).1 rfl) (Nat.le_of_ble_eq_true rfl) (Nat.le_of_eq (Nat.sub_add_cancel (by omega))) (w_Mo_keeps (by omega) (okx_mono (okx_bd h) ?_))
  intro r22 s23 h
  show Xw _ _ _ _ 97 _ [_, _] _ _
  obtain ⟨g24, h⟩ := okx_ck h
  refine xi_putI D_Mo_moves_97 F_Mo_250 (zl_fo (g24).1 rfl) ⟨rfl, by decide, rfl⟩ (⟨rfl, rfl⟩) ?_
  refine xj_iconst (v := 0) D_Mo_moves_100 rfl ?_
  refine xi_istore (ls' := [_, _, _, _, _]) D_Mo_moves_101 rfl (by decide) ?_
  exact w_Mo_moves_h103 (by omega)  _ _ _ _ _ _ h
noncomputable def f_Mo_mark_b29 (x1 : Int32) (x2 : Int32) (s : Sg) : Option (Int32 × Sg) :=
  f_ck (zl_B s) <|
  f_bd (f_Mo_moves x1 x2 s) fun r11 s12 =>
  f_ck (zl_B s12) <|
  f_ck (vp_in x1 4) <|
  let s15 : Sg := uI s12 76 (Int32.toNatClampNeg x1) (vp_nar .boolean 1)
  some (1, s15)
theorem w_Mo_mark_b29 {x1 : Int32} {x2 : Int32} {s : Sg} {d : Nat} {Q : Option (Option Value) → Sg → Prop} (hd : 3 ≤ d) (h : okx (zq_I Q) (f_Mo_mark_b29 x1 x2 s)) : Xw d M_Mo_mark 0 0 29 [.ref 46, .int x1, .int x2] [] s Q := by
  unfold f_Mo_mark_b29 at h
  refine xi_aload_n D_Mo_mark_29 rfl ?_
  refine xi_iload_n D_Mo_mark_30 rfl ?_
  refine xi_iload_n D_Mo_mark_31 rfl ?_
  obtain ⟨g10, h⟩ := okx_ck h
  refine xj_V2 D_Mo_mark_32 L_Mo_433 C_Mo_moves Z_Mo_moves (zl_fo (g10).1 rfl) (Nat.le_of_ble_eq_true rfl) (Nat.le_of_eq (Nat.sub_add_cancel (by omega))) (w_Mo_moves (by omega) (okx_mono (okx_bd h) ?_))
  intro r11 s12 h
  show Xw _ _ _ _ 35 _ [] _ _
  refine xi_aload_n D_Mo_mark_35 rfl ?_
  obtain ⟨g13, h⟩ := okx_ck h
  refine xi_getR D_Mo_mark_36 F_Mo_99 (zl_fo (g13).1 rfl) ⟨rfl, by decide⟩ (zl_gr (g13).2 rfl rfl) ?_
  refine xi_iload_n D_Mo_mark_39 rfl ?_
  refine xj_iconst (v := 1) D_Mo_mark_40 rfl ?_
  obtain ⟨g14, h⟩ := okx_ck h
  refine xj_zast D_Mo_mark_41 (zl_fx (g13).1 rfl) (zl_ib (n := 4) rfl (g14)) rfl ?_
  refine xj_iconst (v := 1) D_Mo_mark_42 rfl ?_
  exact xi_ireturn D_Mo_mark_43 rfl (rfl) (okx_I h)
noncomputable def f_Mo_mark (x1 : Int32) (x2 : Int32) (s : Sg) : Option (Int32 × Sg) :=
  f_ck (zl_B s) <|
  let s2 : Sg := uI s 46 0 0
  f_bd (f_Mo_within x1 0 3 s2) fun r3 s4 =>
  if r3 = 0 then
    some (0, s4)
  else
    if x2 = 0 then
      f_Mo_mark_b29  x1 x2 s4
    else
      f_ck (zl_B s4) <|
      f_ck (vp_in x1 4) <|
      if (mI s4 76 (Int32.toNatClampNeg x1)) = 0 then
        some (0, s4)
      else
        f_Mo_mark_b29  x1 x2 s4
theorem w_Mo_mark {x1 : Int32} {x2 : Int32} {s : Sg} {d : Nat} {Q : Option (Option Value) → Sg → Prop} (hd : 3 ≤ d) (h : okx (zq_I Q) (f_Mo_mark x1 x2 s)) : Cw d M_Mo_mark [.ref 46, .int x1, .int x2] s Q := by
  refine Cw.of (by decide +kernel) (Nat.le_of_ble_eq_true rfl) ?_
  show Xw d M_Mo_mark 0 0 0 [.ref 46, .int x1, .int x2] [] s _
  unfold f_Mo_mark at h
  refine xi_aload_n D_Mo_mark_0 rfl ?_
  refine xj_iconst (v := 0) D_Mo_mark_1 rfl ?_
  obtain ⟨g1, h⟩ := okx_ck h
  refine xi_putI D_Mo_mark_2 F_Mo_114 (zl_fo (g1).1 rfl) ⟨rfl, by decide, rfl⟩ (⟨rfl, rfl⟩) ?_
  refine xi_iload_n D_Mo_mark_5 rfl ?_
  refine xj_iconst (v := 0) D_Mo_mark_6 rfl ?_
  refine xj_iconst (v := 3) D_Mo_mark_7 rfl ?_
  refine xj_S3 D_Mo_mark_8 L_Mo_268 C_Mo_within Z_Mo_within (Nat.le_of_ble_eq_true rfl) (Nat.le_of_eq (Nat.sub_add_cancel (by omega))) (w_Mo_within (by omega) (okx_mono (okx_bd h) ?_))
  intro r3 s4 h
  show Xw _ _ _ _ 11 _ [_] _ _
  refine xi_if_eq D_Mo_mark_11 (fun c5 => ?_) (fun c5 => ?_)
  · have h := okx_T c5 h
    refine xj_iconst (v := 0) D_Mo_mark_27 rfl ?_
    exact xi_ireturn D_Mo_mark_28 rfl (rfl) (okx_I h)
  · have h := okx_F c5 h
    refine xi_iload_n D_Mo_mark_14 rfl ?_
    refine xi_if_eq D_Mo_mark_15 (fun c6 => ?_) (fun c6 => ?_)
    · have h := okx_T c6 h
      exact w_Mo_mark_b29 (by omega)  h
    · have h := okx_F c6 h
      refine xi_aload_n D_Mo_mark_18 rfl ?_
      obtain ⟨g7, h⟩ := okx_ck h
      refine xi_getR D_Mo_mark_19 F_Mo_99 (zl_fo (g7).1 rfl) ⟨rfl, by decide⟩ (zl_gr (g7).2 rfl rfl) ?_
      refine xi_iload_n D_Mo_mark_22 rfl ?_
      obtain ⟨g8, h⟩ := okx_ck h
      refine xj_zald D_Mo_mark_23 (zl_fx (g7).1 rfl) (zl_ib (n := 4) rfl (g8)) ?_
      refine xi_if_ne D_Mo_mark_24 (fun c9 => ?_) (fun c9 => ?_)
      · have h := okx_F c9 h
        exact w_Mo_mark_b29 (by omega)  h
      · have h := okx_T c9 h
        refine xj_iconst (v := 0) D_Mo_mark_27 rfl ?_
        exact xi_ireturn D_Mo_mark_28 rfl (rfl) (okx_I h)
noncomputable def f_Mo_oneHand_b162 (R67 : Int32 → Int32 → Int32 → Int32 → Int32 → Int32 → Int32 → Sg → Option (Int32 × Sg)) (x1 : Int32) (x2 : Int32) (x3 : Int32) (x4 : Int32) (x5 : Int32) (x6 : Int32) (x7 : Int32) (s : Sg) : Option (Int32 × Sg) :=
  R67 x1 x2 x3 x4 x5 x6 (x7 + 1) s
theorem w_Mo_oneHand_b162 {x1 : Int32} {x2 : Int32} {x3 : Int32} {x4 : Int32} {x5 : Int32} {x6 : Int32} {x7 : Int32} {s : Sg} {d : Nat} {Q : Option (Option Value) → Sg → Prop} (hd : 13 ≤ d) {R67 : Int32 → Int32 → Int32 → Int32 → Int32 → Int32 → Int32 → Sg → Option (Int32 × Sg)} (hR67 : ∀ (x1 : Int32) (x2 : Int32) (x3 : Int32) (x4 : Int32) (x5 : Int32) (x6 : Int32) (x7 : Int32) (s : Sg), okx (zq_I Q) (R67 x1 x2 x3 x4 x5 x6 x7 s) → Xw d M_Mo_oneHand 0 0 67 [.ref 46, .int x1, .int x2, .int x3, .int x4, .int x5, .int x6, .int x7] [] s Q) (h : okx (zq_I Q) (f_Mo_oneHand_b162 R67 x1 x2 x3 x4 x5 x6 x7 s)) : Xw d M_Mo_oneHand 0 0 162 [.ref 46, .int x1, .int x2, .int x3, .int x4, .int x5, .int x6, .int x7] [] s Q := by
  unfold f_Mo_oneHand_b162 at h
  refine xi_iinc (v := _ + 1) (ls' := [_, _, _, _, _, _, _, _]) D_Mo_oneHand_162 rfl rfl rfl (by decide) ?_
  refine xi_goto D_Mo_oneHand_165 ?_
  exact hR67 _ _ _ _ _ _ _ _ h
noncomputable def f_Mo_oneHand_b129 (R67 : Int32 → Int32 → Int32 → Int32 → Int32 → Int32 → Int32 → Sg → Option (Int32 × Sg)) (x1 : Int32) (x2 : Int32) (x4 : Int32) (x6 : Int32) (x7 : Int32) (y0 : Int32) (s : Sg) : Option (Int32 × Sg) :=
  f_Mo_oneHand_b162 R67 x1 x2 1 x4 y0 x6 x7 s
theorem w_Mo_oneHand_b129 {x1 : Int32} {x2 : Int32} {x4 : Int32} {x6 : Int32} {x7 : Int32} {y0 : Int32} {s : Sg} {d : Nat} {Q : Option (Option Value) → Sg → Prop} (hd : 13 ≤ d) {R67 : Int32 → Int32 → Int32 → Int32 → Int32 → Int32 → Int32 → Sg → Option (Int32 × Sg)} (hR67 : ∀ (x1 : Int32) (x2 : Int32) (x3 : Int32) (x4 : Int32) (x5 : Int32) (x6 : Int32) (x7 : Int32) (s : Sg), okx (zq_I Q) (R67 x1 x2 x3 x4 x5 x6 x7 s) → Xw d M_Mo_oneHand 0 0 67 [.ref 46, .int x1, .int x2, .int x3, .int x4, .int x5, .int x6, .int x7] [] s Q) (h : okx (zq_I Q) (f_Mo_oneHand_b129 R67 x1 x2 x4 x6 x7 y0 s)) : Xw d M_Mo_oneHand 0 0 129 [.ref 46, .int x1, .int x2, .retAddr 0, .int x4, .retAddr 0, .int x6, .int x7] [.int y0] s Q := by
  unfold f_Mo_oneHand_b129 at h
  refine xi_istore (ls' := [_, _, _, _, _, _, _, _]) D_Mo_oneHand_129 rfl (by decide) ?_
  refine xj_iconst (v := 1) D_Mo_oneHand_131 rfl ?_
  refine xi_istore_n (ls' := [_, _, _, _, _, _, _, _]) D_Mo_oneHand_132 rfl (by decide) ?_
  refine xi_goto D_Mo_oneHand_133 ?_
  exact w_Mo_oneHand_b162 (by omega) hR67 h
noncomputable def f_Mo_oneHand_b157 (R67 : Int32 → Int32 → Int32 → Int32 → Int32 → Int32 → Int32 → Sg → Option (Int32 × Sg)) (x1 : Int32) (x2 : Int32) (x3 : Int32) (x5 : Int32) (x7 : Int32) (y0 : Int32) (s : Sg) : Option (Int32 × Sg) :=
  f_Mo_oneHand_b162 R67 x1 x2 x3 1 x5 y0 x7 s
theorem w_Mo_oneHand_b157 {x1 : Int32} {x2 : Int32} {x3 : Int32} {x5 : Int32} {x7 : Int32} {y0 : Int32} {s : Sg} {d : Nat} {Q : Option (Option Value) → Sg → Prop} (hd : 13 ≤ d) {R67 : Int32 → Int32 → Int32 → Int32 → Int32 → Int32 → Int32 → Sg → Option (Int32 × Sg)} (hR67 : ∀ (x1 : Int32) (x2 : Int32) (x3 : Int32) (x4 : Int32) (x5 : Int32) (x6 : Int32) (x7 : Int32) (s : Sg), okx (zq_I Q) (R67 x1 x2 x3 x4 x5 x6 x7 s) → Xw d M_Mo_oneHand 0 0 67 [.ref 46, .int x1, .int x2, .int x3, .int x4, .int x5, .int x6, .int x7] [] s Q) (h : okx (zq_I Q) (f_Mo_oneHand_b157 R67 x1 x2 x3 x5 x7 y0 s)) : Xw d M_Mo_oneHand 0 0 157 [.ref 46, .int x1, .int x2, .int x3, .retAddr 0, .int x5, .retAddr 0, .int x7] [.int y0] s Q := by
  unfold f_Mo_oneHand_b157 at h
  refine xi_istore (ls' := [_, _, _, _, _, _, _, _]) D_Mo_oneHand_157 rfl (by decide) ?_
  refine xj_iconst (v := 1) D_Mo_oneHand_159 rfl ?_
  refine xi_istore (ls' := [_, _, _, _, _, _, _, _]) D_Mo_oneHand_160 rfl (by decide) ?_
  exact w_Mo_oneHand_b162 (by omega) hR67 h
noncomputable def f_Mo_oneHand_b183 (x5 : Int32) (x6 : Int32) (y1 : Int32) (s : Sg) : Option (Int32 × Sg) :=
  f_ck (zl_B s) <|
  let s39 : Sg := uI s 46 0 y1
  if (mI s39 46 0) = 1 then
    some (0, s39)
  else
    some ((x5 - x6), s39)
theorem w_Mo_oneHand_b183 {x5 : Int32} {x6 : Int32} {y1 : Int32} {s : Sg} {d : Nat} {Q : Option (Option Value) → Sg → Prop} (hd : 13 ≤ d) (h : okx (zq_I Q) (f_Mo_oneHand_b183 x5 x6 y1 s)) : Xw d M_Mo_oneHand 0 0 183 [.ref 46, .retAddr 0, .retAddr 0, .retAddr 0, .retAddr 0, .int x5, .int x6, .retAddr 0] [.int y1, .ref 46] s Q := by
  unfold f_Mo_oneHand_b183 at h
  obtain ⟨g38, h⟩ := okx_ck h
  refine xi_putI D_Mo_oneHand_183 F_Mo_114 (zl_fo (g38).1 rfl) ⟨rfl, by decide, rfl⟩ (⟨rfl, rfl⟩) ?_
  refine xi_aload_n D_Mo_oneHand_186 rfl ?_
  refine xi_getI D_Mo_oneHand_187 F_Mo_114 (zl_fo (g38).1 rfl) ⟨rfl, by decide⟩ ?_
  refine xj_iconst (v := 1) D_Mo_oneHand_190 rfl ?_
  refine xi_icmp_ne D_Mo_oneHand_191 (fun c40 => ?_) (fun c40 => ?_)
  · have h := okx_F c40 h
    refine xi_iload D_Mo_oneHand_198 rfl ?_
    refine xi_iload D_Mo_oneHand_200 rfl ?_
    refine xi_isub D_Mo_oneHand_202 ?_
    exact xi_ireturn D_Mo_oneHand_203 rfl (rfl) (okx_I h)
  · have h := okx_T c40 h
    refine xj_iconst (v := 0) D_Mo_oneHand_194 rfl ?_
    refine xi_goto D_Mo_oneHand_195 ?_
    exact xi_ireturn D_Mo_oneHand_203 rfl (rfl) (okx_I h)
noncomputable def f_Mo_oneHand_b182 (x5 : Int32) (x6 : Int32) (s : Sg) : Option (Int32 × Sg) :=
  f_Mo_oneHand_b183  x5 x6 1 s
theorem w_Mo_oneHand_b182 {x5 : Int32} {x6 : Int32} {s : Sg} {d : Nat} {Q : Option (Option Value) → Sg → Prop} (hd : 13 ≤ d) (h : okx (zq_I Q) (f_Mo_oneHand_b182 x5 x6 s)) : Xw d M_Mo_oneHand 0 0 182 [.ref 46, .retAddr 0, .retAddr 0, .retAddr 0, .retAddr 0, .int x5, .int x6, .retAddr 0] [.ref 46] s Q := by
  unfold f_Mo_oneHand_b182 at h
  refine xj_iconst (v := 1) D_Mo_oneHand_182 rfl ?_
  exact w_Mo_oneHand_b183 (by omega)  h
noncomputable def f_Mo_oneHand_b168 (x3 : Int32) (x4 : Int32) (x5 : Int32) (x6 : Int32) (s : Sg) : Option (Int32 × Sg) :=
  if x3 = 0 then
    f_Mo_oneHand_b182  x5 x6 s
  else
    if x4 = 0 then
      f_Mo_oneHand_b182  x5 x6 s
    else
      f_Mo_oneHand_b183  x5 x6 0 s
theorem w_Mo_oneHand_b168 {x3 : Int32} {x4 : Int32} {x5 : Int32} {x6 : Int32} {s : Sg} {d : Nat} {Q : Option (Option Value) → Sg → Prop} (hd : 13 ≤ d) (h : okx (zq_I Q) (f_Mo_oneHand_b168 x3 x4 x5 x6 s)) : Xw d M_Mo_oneHand 0 0 168 [.ref 46, .retAddr 0, .retAddr 0, .int x3, .int x4, .int x5, .int x6, .retAddr 0] [] s Q := by
  unfold f_Mo_oneHand_b168 at h
  refine xi_aload_n D_Mo_oneHand_168 rfl ?_
  refine xi_iload_n D_Mo_oneHand_169 rfl ?_
  refine xi_if_eq D_Mo_oneHand_170 (fun c36 => ?_) (fun c36 => ?_)
  · have h := okx_T c36 h
    exact xk_wk (w_Mo_oneHand_b182 (by omega)  h) ⟨Or.inl rfl, Or.inl rfl, Or.inl rfl, Or.inr rfl, Or.inr rfl, Or.inl rfl, Or.inl rfl, Or.inl rfl, trivial⟩
  · have h := okx_F c36 h
    refine xi_iload D_Mo_oneHand_173 rfl ?_
    refine xi_if_eq D_Mo_oneHand_175 (fun c37 => ?_) (fun c37 => ?_)
    · have h := okx_T c37 h
      exact xk_wk (w_Mo_oneHand_b182 (by omega)  h) ⟨Or.inl rfl, Or.inl rfl, Or.inl rfl, Or.inr rfl, Or.inr rfl, Or.inl rfl, Or.inl rfl, Or.inl rfl, trivial⟩
    · have h := okx_F c37 h
      refine xj_iconst (v := 0) D_Mo_oneHand_178 rfl ?_
      refine xi_goto D_Mo_oneHand_179 ?_
      exact xk_wk (w_Mo_oneHand_b183 (by omega)  h) ⟨Or.inl rfl, Or.inl rfl, Or.inl rfl, Or.inr rfl, Or.inr rfl, Or.inl rfl, Or.inl rfl, Or.inl rfl, trivial⟩
noncomputable def f_Mo_oneHand_b67 (R67 : Int32 → Int32 → Int32 → Int32 → Int32 → Int32 → Int32 → Sg → Option (Int32 × Sg)) (x1 : Int32) (x2 : Int32) (x3 : Int32) (x4 : Int32) (x5 : Int32) (x6 : Int32) (x7 : Int32) (s : Sg) : Option (Int32 × Sg) :=
  f_ck (zl_B s) <|
  f_bd (f_Mo_owningsOf  s) fun r16 s17 =>
  if r16 ≤ x7 then
    f_Mo_oneHand_b168  x3 x4 x5 x6 s17
  else
    f_ck (zl_B s17) <|
    f_bd (f_Mo_reachBy x7 s17) fun r20 s21 =>
    f_ck (zl_B s21) <|
    if (mI s21 46 55) = 0 then
      f_Mo_oneHand_b162 R67 x1 x2 x3 x4 x5 x6 x7 s21
    else
      f_bd (f_Mo_digit x7 x1 s21) fun r24 s25 =>
      f_ck (zl_B s25) <|
      f_bd (f_Mo_digit x7 x2 s25) fun r27 s28 =>
      if r24 = r27 then
        if x3 = 0 then
          f_ck (zl_B s28) <|
          f_Mo_oneHand_b129 R67 x1 x2 x4 x6 x7 (mI s28 46 56) s28
        else
          f_ck (zl_B s28) <|
          f_Mo_oneHand_b129 R67 x1 x2 x4 x6 x7 (if x5 < (mI s28 46 56) then (mI s28 46 56) else x5) s28
      else
        if x4 = 0 then
          f_ck (zl_B s28) <|
          f_Mo_oneHand_b157 R67 x1 x2 x3 x5 x7 (mI s28 46 56) s28
        else
          f_ck (zl_B s28) <|
          f_Mo_oneHand_b157 R67 x1 x2 x3 x5 x7 (if x6 < (mI s28 46 56) then (mI s28 46 56) else x6) s28
theorem w_Mo_oneHand_b67 {x1 : Int32} {x2 : Int32} {x3 : Int32} {x4 : Int32} {x5 : Int32} {x6 : Int32} {x7 : Int32} {s : Sg} {d : Nat} {Q : Option (Option Value) → Sg → Prop} (hd : 13 ≤ d) {R67 : Int32 → Int32 → Int32 → Int32 → Int32 → Int32 → Int32 → Sg → Option (Int32 × Sg)} (hR67 : ∀ (x1 : Int32) (x2 : Int32) (x3 : Int32) (x4 : Int32) (x5 : Int32) (x6 : Int32) (x7 : Int32) (s : Sg), okx (zq_I Q) (R67 x1 x2 x3 x4 x5 x6 x7 s) → Xw d M_Mo_oneHand 0 0 67 [.ref 46, .int x1, .int x2, .int x3, .int x4, .int x5, .int x6, .int x7] [] s Q) (h : okx (zq_I Q) (f_Mo_oneHand_b67 R67 x1 x2 x3 x4 x5 x6 x7 s)) : Xw d M_Mo_oneHand 0 0 67 [.ref 46, .int x1, .int x2, .int x3, .int x4, .int x5, .int x6, .int x7] [] s Q := by
  unfold f_Mo_oneHand_b67 at h
  refine xi_iload D_Mo_oneHand_67 rfl ?_
  refine xi_aload_n D_Mo_oneHand_69 rfl ?_
  obtain ⟨g15, h⟩ := okx_ck h
  refine xj_V0 D_Mo_oneHand_70 L_Mo_406 C_Mo_owningsOf Z_Mo_owningsOf (zl_fo (g15).1 rfl) (Nat.le_of_ble_eq_true rfl) (Nat.le_of_eq (Nat.sub_add_cancel (by omega))) (w_Mo_owningsOf (by omega) (okx_mono (okx_bd h) ?_))
  intro r16 s17 h
  show Xw _ _ _ _ 73 _ [_, _] _ _
  refine xi_icmp_ge D_Mo_oneHand_73 (fun c18 => ?_) (fun c18 => ?_)
  · have h := okx_T c18 h
    exact xk_wk (w_Mo_oneHand_b168 (by omega)  h) ⟨Or.inl rfl, Or.inr rfl, Or.inr rfl, Or.inl rfl, Or.inl rfl, Or.inl rfl, Or.inl rfl, Or.inr rfl, trivial⟩
  · have h := okx_F c18 h
    refine xi_aload_n D_Mo_oneHand_76 rfl ?_
    refine xi_iload D_Mo_oneHand_77 rfl ?_
    obtain ⟨g19, h⟩ := okx_ck h
    refine xj_V1 D_Mo_oneHand_79 L_Mo_409 C_Mo_reachBy Z_Mo_reachBy (zl_fo (g19).1 rfl) (Nat.le_of_ble_eq_true rfl) (Nat.le_of_eq (Nat.sub_add_cancel (by omega))) (w_Mo_reachBy (by omega) (okx_mono (okx_bd h) ?_))
    intro r20 s21 h
    show Xw _ _ _ _ 82 _ [] _ _
    refine xi_aload_n D_Mo_oneHand_82 rfl ?_
    obtain ⟨g22, h⟩ := okx_ck h
    refine xi_getI D_Mo_oneHand_83 F_Mo_393 (zl_fo (g22).1 rfl) ⟨rfl, by decide⟩ ?_
    refine xi_if_ne D_Mo_oneHand_86 (fun c23 => ?_) (fun c23 => ?_)
    · have h := okx_F c23 h
      refine xi_aload_n D_Mo_oneHand_92 rfl ?_
      refine xi_iload D_Mo_oneHand_93 rfl ?_
      refine xi_iload_n D_Mo_oneHand_95 rfl ?_
      refine xj_V2 D_Mo_oneHand_96 L_Mo_400 C_Mo_digit Z_Mo_digit (zl_fo (g22).1 rfl) (Nat.le_of_ble_eq_true rfl) (Nat.le_of_eq (Nat.sub_add_cancel (by omega))) (w_Mo_digit (by omega) (okx_mono (okx_bd h) ?_))
      intro r24 s25 h
      show Xw _ _ _ _ 99 _ [_] _ _
      refine xi_aload_n D_Mo_oneHand_99 rfl ?_
      refine xi_iload D_Mo_oneHand_100 rfl ?_
      refine xi_iload_n D_Mo_oneHand_102 rfl ?_
      obtain ⟨g26, h⟩ := okx_ck h
      refine xj_V2 D_Mo_oneHand_103 L_Mo_400 C_Mo_digit Z_Mo_digit (zl_fo (g26).1 rfl) (Nat.le_of_ble_eq_true rfl) (Nat.le_of_eq (Nat.sub_add_cancel (by omega))) (w_Mo_digit (by omega) (okx_mono (okx_bd h) ?_))
      intro r27 s28 h
      show Xw _ _ _ _ 106 _ [_, _] _ _
      refine xi_icmp_ne D_Mo_oneHand_106 (fun c29 => ?_) (fun c29 => ?_)
      · have h := okx_F c29 h
        refine xi_iload D_Mo_oneHand_136 rfl ?_
        refine xi_if_eq D_Mo_oneHand_138 (fun c33 => ?_) (fun c33 => ?_)
        · have h := okx_T c33 h
          refine xi_aload_n D_Mo_oneHand_153 rfl ?_
          obtain ⟨g34, h⟩ := okx_ck h
          refine xi_getI D_Mo_oneHand_154 F_Mo_397 (zl_fo (g34).1 rfl) ⟨rfl, by decide⟩ ?_
          exact xk_wk (w_Mo_oneHand_b157 (by omega) hR67 h) ⟨Or.inl rfl, Or.inl rfl, Or.inl rfl, Or.inl rfl, Or.inr rfl, Or.inl rfl, Or.inr rfl, Or.inl rfl, trivial⟩
        · have h := okx_F c33 h
          refine xi_iload D_Mo_oneHand_141 rfl ?_
          refine xi_aload_n D_Mo_oneHand_143 rfl ?_
          obtain ⟨g35, h⟩ := okx_ck h
          refine xi_getI D_Mo_oneHand_144 F_Mo_397 (zl_fo (g35).1 rfl) ⟨rfl, by decide⟩ ?_
          refine xi_maxi D_Mo_oneHand_147 L_Mo_421 ⟨by omega, Nat.le_of_ble_eq_true rfl⟩ ?_
          refine xi_goto D_Mo_oneHand_150 ?_
          exact xk_wk (w_Mo_oneHand_b157 (by omega) hR67 h) ⟨Or.inl rfl, Or.inl rfl, Or.inl rfl, Or.inl rfl, Or.inr rfl, Or.inl rfl, Or.inr rfl, Or.inl rfl, trivial⟩
      · have h := okx_T c29 h
        refine xi_iload_n D_Mo_oneHand_109 rfl ?_
        refine xi_if_eq D_Mo_oneHand_110 (fun c30 => ?_) (fun c30 => ?_)
        · have h := okx_T c30 h
          refine xi_aload_n D_Mo_oneHand_125 rfl ?_
          obtain ⟨g31, h⟩ := okx_ck h
          refine xi_getI D_Mo_oneHand_126 F_Mo_397 (zl_fo (g31).1 rfl) ⟨rfl, by decide⟩ ?_
          exact xk_wk (w_Mo_oneHand_b129 (by omega) hR67 h) ⟨Or.inl rfl, Or.inl rfl, Or.inl rfl, Or.inr rfl, Or.inl rfl, Or.inr rfl, Or.inl rfl, Or.inl rfl, trivial⟩
        · have h := okx_F c30 h
          refine xi_iload D_Mo_oneHand_113 rfl ?_
          refine xi_aload_n D_Mo_oneHand_115 rfl ?_
          obtain ⟨g32, h⟩ := okx_ck h
          refine xi_getI D_Mo_oneHand_116 F_Mo_397 (zl_fo (g32).1 rfl) ⟨rfl, by decide⟩ ?_
          refine xi_maxi D_Mo_oneHand_119 L_Mo_421 ⟨by omega, Nat.le_of_ble_eq_true rfl⟩ ?_
          refine xi_goto D_Mo_oneHand_122 ?_
          exact xk_wk (w_Mo_oneHand_b129 (by omega) hR67 h) ⟨Or.inl rfl, Or.inl rfl, Or.inl rfl, Or.inr rfl, Or.inl rfl, Or.inr rfl, Or.inl rfl, Or.inl rfl, trivial⟩
    · have h := okx_T c23 h
      refine xi_goto D_Mo_oneHand_89 ?_
      exact w_Mo_oneHand_b162 (by omega) hR67 h
noncomputable def f_Mo_oneHand_h67 : Nat → Int32 → Int32 → Int32 → Int32 → Int32 → Int32 → Int32 → Sg → Option (Int32 × Sg)
  | 0, _, _, _, _, _, _, _, _ => none
  | n + 1, x1, x2, x3, x4, x5, x6, x7, s => f_Mo_oneHand_b67 (f_Mo_oneHand_h67 n) x1 x2 x3 x4 x5 x6 x7 s
theorem w_Mo_oneHand_h67 {d : Nat} {Q : Option (Option Value) → Sg → Prop} (hd : 13 ≤ d) : ∀ (n : Nat) (x1 : Int32) (x2 : Int32) (x3 : Int32) (x4 : Int32) (x5 : Int32) (x6 : Int32) (x7 : Int32) (s : Sg), okx (zq_I Q) (f_Mo_oneHand_h67 n x1 x2 x3 x4 x5 x6 x7 s) → Xw d M_Mo_oneHand 0 0 67 [.ref 46, .int x1, .int x2, .int x3, .int x4, .int x5, .int x6, .int x7] [] s Q := by
  intro n
  induction n with
  | zero => intro x1 x2 x3 x4 x5 x6 x7 s h; exact okx_no h
  | succ n ih => intro x1 x2 x3 x4 x5 x6 x7 s h; exact w_Mo_oneHand_b67 hd  ih  h
noncomputable def f_Mo_oneHand_b40 (x1 : Int32) (x2 : Int32) (y1 : Int32) (s : Sg) : Option (Int32 × Sg) :=
  f_ck (zl_B s) <|
  let s13 : Sg := uI s 46 0 y1
  if (mI s13 46 0) = 1 then
    some (0, s13)
  else
    f_Mo_oneHand_h67  zl_fl x1 x2 0 0 0 0 0 s13
theorem w_Mo_oneHand_b40 {x1 : Int32} {x2 : Int32} {y1 : Int32} {s : Sg} {d : Nat} {Q : Option (Option Value) → Sg → Prop} (hd : 13 ≤ d) (h : okx (zq_I Q) (f_Mo_oneHand_b40 x1 x2 y1 s)) : Xw d M_Mo_oneHand 0 0 40 [.ref 46, .int x1, .int x2, .retAddr 0, .retAddr 0, .retAddr 0, .retAddr 0, .retAddr 0] [.int y1, .ref 46] s Q := by
  unfold f_Mo_oneHand_b40 at h
  obtain ⟨g12, h⟩ := okx_ck h
  refine xi_putI D_Mo_oneHand_40 F_Mo_114 (zl_fo (g12).1 rfl) ⟨rfl, by decide, rfl⟩ (⟨rfl, rfl⟩) ?_
  refine xi_aload_n D_Mo_oneHand_43 rfl ?_
  refine xi_getI D_Mo_oneHand_44 F_Mo_114 (zl_fo (g12).1 rfl) ⟨rfl, by decide⟩ ?_
  refine xj_iconst (v := 1) D_Mo_oneHand_47 rfl ?_
  refine xi_icmp_ne D_Mo_oneHand_48 (fun c14 => ?_) (fun c14 => ?_)
  · have h := okx_F c14 h
    refine xj_iconst (v := 0) D_Mo_oneHand_53 rfl ?_
    refine xi_istore_n (ls' := [_, _, _, _, _, _, _, _]) D_Mo_oneHand_54 rfl (by decide) ?_
    refine xj_iconst (v := 0) D_Mo_oneHand_55 rfl ?_
    refine xi_istore (ls' := [_, _, _, _, _, _, _, _]) D_Mo_oneHand_56 rfl (by decide) ?_
    refine xj_iconst (v := 0) D_Mo_oneHand_58 rfl ?_
    refine xi_istore (ls' := [_, _, _, _, _, _, _, _]) D_Mo_oneHand_59 rfl (by decide) ?_
    refine xj_iconst (v := 0) D_Mo_oneHand_61 rfl ?_
    refine xi_istore (ls' := [_, _, _, _, _, _, _, _]) D_Mo_oneHand_62 rfl (by decide) ?_
    refine xj_iconst (v := 0) D_Mo_oneHand_64 rfl ?_
    refine xi_istore (ls' := [_, _, _, _, _, _, _, _]) D_Mo_oneHand_65 rfl (by decide) ?_
    exact w_Mo_oneHand_h67 (by omega)  _ _ _ _ _ _ _ _ _ h
  · have h := okx_T c14 h
    refine xj_iconst (v := 0) D_Mo_oneHand_51 rfl ?_
    exact xi_ireturn D_Mo_oneHand_52 rfl (rfl) (okx_I h)
noncomputable def f_Mo_oneHand_b39 (x1 : Int32) (x2 : Int32) (s : Sg) : Option (Int32 × Sg) :=
  f_Mo_oneHand_b40  x1 x2 1 s
theorem w_Mo_oneHand_b39 {x1 : Int32} {x2 : Int32} {s : Sg} {d : Nat} {Q : Option (Option Value) → Sg → Prop} (hd : 13 ≤ d) (h : okx (zq_I Q) (f_Mo_oneHand_b39 x1 x2 s)) : Xw d M_Mo_oneHand 0 0 39 [.ref 46, .int x1, .int x2, .retAddr 0, .retAddr 0, .retAddr 0, .retAddr 0, .retAddr 0] [.ref 46] s Q := by
  unfold f_Mo_oneHand_b39 at h
  refine xj_iconst (v := 1) D_Mo_oneHand_39 rfl ?_
  exact w_Mo_oneHand_b40 (by omega)  h
noncomputable def f_Mo_oneHand (x1 : Int32) (x2 : Int32) (s : Sg) : Option (Int32 × Sg) :=
  f_ck (zl_B s) <|
  let s2 : Sg := uI s 46 39 10
  if (mI s2 46 10) ≤ 0 then
    f_Mo_oneHand_b39  x1 x2 s2
  else
    f_bd (f_Mo_isThing x1 s2) fun r4 s5 =>
    if r4 = 0 then
      f_Mo_oneHand_b39  x1 x2 s5
    else
      f_ck (zl_B s5) <|
      f_bd (f_Mo_isThing x2 s5) fun r8 s9 =>
      if r8 = 0 then
        f_Mo_oneHand_b39  x1 x2 s9
      else
        if x1 = x2 then
          f_Mo_oneHand_b39  x1 x2 s9
        else
          f_Mo_oneHand_b40  x1 x2 0 s9
theorem w_Mo_oneHand {x1 : Int32} {x2 : Int32} {s : Sg} {d : Nat} {Q : Option (Option Value) → Sg → Prop} (hd : 13 ≤ d) (h : okx (zq_I Q) (f_Mo_oneHand x1 x2 s)) : Cw d M_Mo_oneHand [.ref 46, .int x1, .int x2] s Q := by
  refine Cw.of (by decide +kernel) (Nat.le_of_ble_eq_true rfl) ?_
  show Xw d M_Mo_oneHand 0 0 0 [.ref 46, .int x1, .int x2, .retAddr 0, .retAddr 0, .retAddr 0, .retAddr 0, .retAddr 0] [] s _
  unfold f_Mo_oneHand at h
  refine xi_aload_n D_Mo_oneHand_0 rfl ?_
  refine xi_bipush (v := 10) D_Mo_oneHand_1 rfl ?_
  obtain ⟨g1, h⟩ := okx_ck h
  refine xi_putI D_Mo_oneHand_3 F_Mo_272 (zl_fo (g1).1 rfl) ⟨rfl, by decide, rfl⟩ (⟨rfl, rfl⟩) ?_
  refine xi_aload_n D_Mo_oneHand_6 rfl ?_
  refine xi_aload_n D_Mo_oneHand_7 rfl ?_
  refine xi_getI D_Mo_oneHand_8 F_Mo_234 (zl_fo (g1).1 rfl) ⟨rfl, by decide⟩ ?_
  refine xi_if_le D_Mo_oneHand_11 (fun c3 => ?_) (fun c3 => ?_)
  · have h := okx_T c3 h
    exact w_Mo_oneHand_b39 (by omega)  h
  · have h := okx_F c3 h
    refine xi_aload_n D_Mo_oneHand_14 rfl ?_
    refine xi_iload_n D_Mo_oneHand_15 rfl ?_
    refine xj_V1 D_Mo_oneHand_16 L_Mo_303 C_Mo_isThing Z_Mo_isThing (zl_fo (g1).1 rfl) (Nat.le_of_ble_eq_true rfl) (Nat.le_of_eq (Nat.sub_add_cancel (by omega))) (w_Mo_isThing (by omega) (okx_mono (okx_bd h) ?_))
    intro r4 s5 h
    show Xw _ _ _ _ 19 _ [_, _] _ _
    refine xi_if_eq D_Mo_oneHand_19 (fun c6 => ?_) (fun c6 => ?_)
    · have h := okx_T c6 h
      exact w_Mo_oneHand_b39 (by omega)  h
    · have h := okx_F c6 h
      refine xi_aload_n D_Mo_oneHand_22 rfl ?_
      refine xi_iload_n D_Mo_oneHand_23 rfl ?_
      obtain ⟨g7, h⟩ := okx_ck h
      refine xj_V1 D_Mo_oneHand_24 L_Mo_303 C_Mo_isThing Z_Mo_isThing (zl_fo (g7).1 rfl) (Nat.le_of_ble_eq_true rfl) (Nat.le_of_eq (Nat.sub_add_cancel (by omega))) (w_Mo_isThing (by omega) (okx_mono (okx_bd h) ?_))
      intro r8 s9 h
      show Xw _ _ _ _ 27 _ [_, _] _ _
      refine xi_if_eq D_Mo_oneHand_27 (fun c10 => ?_) (fun c10 => ?_)
      · have h := okx_T c10 h
        exact w_Mo_oneHand_b39 (by omega)  h
      · have h := okx_F c10 h
        refine xi_iload_n D_Mo_oneHand_30 rfl ?_
        refine xi_iload_n D_Mo_oneHand_31 rfl ?_
        refine xi_icmp_eq D_Mo_oneHand_32 (fun c11 => ?_) (fun c11 => ?_)
        · have h := okx_T c11 h
          exact w_Mo_oneHand_b39 (by omega)  h
        · have h := okx_F c11 h
          refine xj_iconst (v := 0) D_Mo_oneHand_35 rfl ?_
          refine xi_goto D_Mo_oneHand_36 ?_
          exact w_Mo_oneHand_b40 (by omega)  h
noncomputable def f_Mo_opens (x1 : Int32) (s : Sg) : Option (Unit × Sg) :=
  f_ck (zl_B s) <|
  f_ck (vp_in x1 7) <|
  let s3 : Sg := uI s 59 (Int32.toNatClampNeg x1) 0
  f_ck (vp_in x1 7) <|
  let s5 : Sg := uI s3 61 (Int32.toNatClampNeg x1) 0
  f_ck (vp_in x1 7) <|
  let s7 : Sg := uI s5 62 (Int32.toNatClampNeg x1) 0
  f_ck (vp_in x1 7) <|
  let s9 : Sg := uI s7 63 (Int32.toNatClampNeg x1) 20
  f_ck (vp_in x1 7) <|
  let s11 : Sg := uI s9 65 (Int32.toNatClampNeg x1) 0
  some ((), s11)
theorem w_Mo_opens {x1 : Int32} {s : Sg} {d : Nat} {Q : Option (Option Value) → Sg → Prop} (hd : 1 ≤ d) (h : okx (zq_V Q) (f_Mo_opens x1 s)) : Cw d M_Mo_opens [.ref 46, .int x1] s Q := by
  refine Cw.of (by decide +kernel) (Nat.le_of_ble_eq_true rfl) ?_
  show Xw d M_Mo_opens 0 0 0 [.ref 46, .int x1] [] s _
  unfold f_Mo_opens at h
  refine xi_aload_n D_Mo_opens_0 rfl ?_
  obtain ⟨g1, h⟩ := okx_ck h
  refine xi_getR D_Mo_opens_1 F_Mo_48 (zl_fo (g1).1 rfl) ⟨rfl, by decide⟩ (zl_gr (g1).2 rfl rfl) ?_
  refine xi_iload_n D_Mo_opens_4 rfl ?_
  refine xj_iconst (v := 0) D_Mo_opens_5 rfl ?_
  obtain ⟨g2, h⟩ := okx_ck h
  refine xj_iast D_Mo_opens_6 (zl_fx (g1).1 rfl) (zl_ib (n := 7) rfl (g2)) ?_
  refine xi_aload_n D_Mo_opens_7 rfl ?_
  refine xi_getR D_Mo_opens_8 F_Mo_54 (zl_fo (g1).1 rfl) ⟨rfl, by decide⟩ (zl_gr (g1).2 rfl rfl) ?_
  refine xi_iload_n D_Mo_opens_11 rfl ?_
  refine xj_iconst (v := 0) D_Mo_opens_12 rfl ?_
  obtain ⟨g4, h⟩ := okx_ck h
  refine xj_iast D_Mo_opens_13 (zl_fx (g1).1 rfl) (zl_ib (n := 7) rfl (g4)) ?_
  refine xi_aload_n D_Mo_opens_14 rfl ?_
  refine xi_getR D_Mo_opens_15 F_Mo_57 (zl_fo (g1).1 rfl) ⟨rfl, by decide⟩ (zl_gr (g1).2 rfl rfl) ?_
  refine xi_iload_n D_Mo_opens_18 rfl ?_
  refine xj_iconst (v := 0) D_Mo_opens_19 rfl ?_
  obtain ⟨g6, h⟩ := okx_ck h
  refine xj_iast D_Mo_opens_20 (zl_fx (g1).1 rfl) (zl_ib (n := 7) rfl (g6)) ?_
  refine xi_aload_n D_Mo_opens_21 rfl ?_
  refine xi_getR D_Mo_opens_22 F_Mo_60 (zl_fo (g1).1 rfl) ⟨rfl, by decide⟩ (zl_gr (g1).2 rfl rfl) ?_
  refine xi_iload_n D_Mo_opens_25 rfl ?_
  refine xi_bipush (v := 20) D_Mo_opens_26 rfl ?_
  obtain ⟨g8, h⟩ := okx_ck h
  refine xj_iast D_Mo_opens_28 (zl_fx (g1).1 rfl) (zl_ib (n := 7) rfl (g8)) ?_
  refine xi_aload_n D_Mo_opens_29 rfl ?_
  refine xi_getR D_Mo_opens_30 F_Mo_66 (zl_fo (g1).1 rfl) ⟨rfl, by decide⟩ (zl_gr (g1).2 rfl rfl) ?_
  refine xi_iload_n D_Mo_opens_33 rfl ?_
  refine xj_iconst (v := 0) D_Mo_opens_34 rfl ?_
  obtain ⟨g10, h⟩ := okx_ck h
  refine xj_iast D_Mo_opens_35 (zl_fx (g1).1 rfl) (zl_ib (n := 7) rfl (g10)) ?_
  exact xi_return D_Mo_opens_36 rfl (okx_V h)
noncomputable def f_Mo_own (x1 : Int32) (x2 : Int32) (x3 : Int32) (s : Sg) : Option (Int32 × Sg) :=
  f_ck (zl_B s) <|
  let s2 : Sg := uI s 46 0 0
  f_bd (f_Mo_isOwning x1 x2 x3 s2) fun r3 s4 =>
  if r3 = 0 then
    some (0, s4)
  else
    f_ck (zl_B s4) <|
    f_ck (vp_in x1 3) <|
    let s8 : Sg := uI s4 69 (Int32.toNatClampNeg x1) x2
    f_ck (vp_in x1 3) <|
    let s10 : Sg := uI s8 70 (Int32.toNatClampNeg x1) x3
    some (1, s10)
theorem w_Mo_own {x1 : Int32} {x2 : Int32} {x3 : Int32} {s : Sg} {d : Nat} {Q : Option (Option Value) → Sg → Prop} (hd : 3 ≤ d) (h : okx (zq_I Q) (f_Mo_own x1 x2 x3 s)) : Cw d M_Mo_own [.ref 46, .int x1, .int x2, .int x3] s Q := by
  refine Cw.of (by decide +kernel) (Nat.le_of_ble_eq_true rfl) ?_
  show Xw d M_Mo_own 0 0 0 [.ref 46, .int x1, .int x2, .int x3] [] s _
  unfold f_Mo_own at h
  refine xi_aload_n D_Mo_own_0 rfl ?_
  refine xj_iconst (v := 0) D_Mo_own_1 rfl ?_
  obtain ⟨g1, h⟩ := okx_ck h
  refine xi_putI D_Mo_own_2 F_Mo_114 (zl_fo (g1).1 rfl) ⟨rfl, by decide, rfl⟩ (⟨rfl, rfl⟩) ?_
  refine xi_aload_n D_Mo_own_5 rfl ?_
  refine xi_iload_n D_Mo_own_6 rfl ?_
  refine xi_iload_n D_Mo_own_7 rfl ?_
  refine xi_iload_n D_Mo_own_8 rfl ?_
  refine xj_V3 D_Mo_own_9 L_Mo_309 C_Mo_isOwning Z_Mo_isOwning (zl_fo (g1).1 rfl) (Nat.le_of_ble_eq_true rfl) (Nat.le_of_eq (Nat.sub_add_cancel (by omega))) (w_Mo_isOwning (by omega) (okx_mono (okx_bd h) ?_))
  intro r3 s4 h
  show Xw _ _ _ _ 12 _ [_] _ _
  refine xi_if_ne D_Mo_own_12 (fun c5 => ?_) (fun c5 => ?_)
  · have h := okx_F c5 h
    refine xi_aload_n D_Mo_own_17 rfl ?_
    obtain ⟨g6, h⟩ := okx_ck h
    refine xi_getR D_Mo_own_18 F_Mo_78 (zl_fo (g6).1 rfl) ⟨rfl, by decide⟩ (zl_gr (g6).2 rfl rfl) ?_
    refine xi_iload_n D_Mo_own_21 rfl ?_
    refine xi_iload_n D_Mo_own_22 rfl ?_
    obtain ⟨g7, h⟩ := okx_ck h
    refine xj_iast D_Mo_own_23 (zl_fx (g6).1 rfl) (zl_ib (n := 3) rfl (g7)) ?_
    refine xi_aload_n D_Mo_own_24 rfl ?_
    refine xi_getR D_Mo_own_25 F_Mo_81 (zl_fo (g6).1 rfl) ⟨rfl, by decide⟩ (zl_gr (g6).2 rfl rfl) ?_
    refine xi_iload_n D_Mo_own_28 rfl ?_
    refine xi_iload_n D_Mo_own_29 rfl ?_
    obtain ⟨g9, h⟩ := okx_ck h
    refine xj_iast D_Mo_own_30 (zl_fx (g6).1 rfl) (zl_ib (n := 3) rfl (g9)) ?_
    refine xj_iconst (v := 1) D_Mo_own_31 rfl ?_
    exact xi_ireturn D_Mo_own_32 rfl (rfl) (okx_I h)
  · have h := okx_T c5 h
    refine xj_iconst (v := 0) D_Mo_own_15 rfl ?_
    exact xi_ireturn D_Mo_own_16 rfl (rfl) (okx_I h)
noncomputable def f_Mo_owner_b22  (s : Sg) : Option (Int32 × Sg) :=
  some ((-1), s)
theorem w_Mo_owner_b22 {s : Sg} {d : Nat} {Q : Option (Option Value) → Sg → Prop} (hd : 2 ≤ d) (h : okx (zq_I Q) (f_Mo_owner_b22  s)) : Xw d M_Mo_owner 0 0 22 [.retAddr 0, .retAddr 0, .retAddr 0] [] s Q := by
  unfold f_Mo_owner_b22 at h
  refine xj_iconst (v := (-1)) D_Mo_owner_22 rfl ?_
  refine xi_goto D_Mo_owner_23 ?_
  exact xi_ireturn D_Mo_owner_45 rfl (rfl) (okx_I h)
noncomputable def f_Mo_owner (x1 : Int32) (x2 : Int32) (s : Sg) : Option (Int32 × Sg) :=
  f_ck (zl_B s) <|
  let s2 : Sg := uI s 46 0 0
  f_bd (f_Mo_isThing x1 s2) fun r3 s4 =>
  if r3 = 0 then
    f_Mo_owner_b22   s4
  else
    f_bd (f_Mo_within x2 0 1 s4) fun r6 s7 =>
    if r6 = 0 then
      f_Mo_owner_b22   s7
    else
      if x2 = 0 then
        f_ck (zl_B s7) <|
        f_ck (vp_in x1 3) <|
        some ((mI s7 69 (Int32.toNatClampNeg x1)), s7)
      else
        f_ck (zl_B s7) <|
        f_ck (vp_in x1 3) <|
        some ((mI s7 70 (Int32.toNatClampNeg x1)), s7)
theorem w_Mo_owner {x1 : Int32} {x2 : Int32} {s : Sg} {d : Nat} {Q : Option (Option Value) → Sg → Prop} (hd : 2 ≤ d) (h : okx (zq_I Q) (f_Mo_owner x1 x2 s)) : Cw d M_Mo_owner [.ref 46, .int x1, .int x2] s Q := by
  refine Cw.of (by decide +kernel) (Nat.le_of_ble_eq_true rfl) ?_
  show Xw d M_Mo_owner 0 0 0 [.ref 46, .int x1, .int x2] [] s _
  unfold f_Mo_owner at h
  refine xi_aload_n D_Mo_owner_0 rfl ?_
  refine xj_iconst (v := 0) D_Mo_owner_1 rfl ?_
  obtain ⟨g1, h⟩ := okx_ck h
  refine xi_putI D_Mo_owner_2 F_Mo_114 (zl_fo (g1).1 rfl) ⟨rfl, by decide, rfl⟩ (⟨rfl, rfl⟩) ?_
  refine xi_aload_n D_Mo_owner_5 rfl ?_
  refine xi_iload_n D_Mo_owner_6 rfl ?_
  refine xj_V1 D_Mo_owner_7 L_Mo_303 C_Mo_isThing Z_Mo_isThing (zl_fo (g1).1 rfl) (Nat.le_of_ble_eq_true rfl) (Nat.le_of_eq (Nat.sub_add_cancel (by omega))) (w_Mo_isThing (by omega) (okx_mono (okx_bd h) ?_))
  intro r3 s4 h
  show Xw _ _ _ _ 10 _ [_] _ _
  refine xi_if_eq D_Mo_owner_10 (fun c5 => ?_) (fun c5 => ?_)
  · have h := okx_T c5 h
    exact xk_wk (w_Mo_owner_b22 (by omega)  h) ⟨Or.inr rfl, Or.inr rfl, Or.inr rfl, trivial⟩
  · have h := okx_F c5 h
    refine xi_iload_n D_Mo_owner_13 rfl ?_
    refine xj_iconst (v := 0) D_Mo_owner_14 rfl ?_
    refine xj_iconst (v := 1) D_Mo_owner_15 rfl ?_
    refine xj_S3 D_Mo_owner_16 L_Mo_268 C_Mo_within Z_Mo_within (Nat.le_of_ble_eq_true rfl) (Nat.le_of_eq (Nat.sub_add_cancel (by omega))) (w_Mo_within (by omega) (okx_mono (okx_bd h) ?_))
    intro r6 s7 h
    show Xw _ _ _ _ 19 _ [_] _ _
    refine xi_if_ne D_Mo_owner_19 (fun c8 => ?_) (fun c8 => ?_)
    · have h := okx_F c8 h
      refine xi_iload_n D_Mo_owner_26 rfl ?_
      refine xi_if_ne D_Mo_owner_27 (fun c9 => ?_) (fun c9 => ?_)
      · have h := okx_F c9 h
        refine xi_aload_n D_Mo_owner_39 rfl ?_
        obtain ⟨g12, h⟩ := okx_ck h
        refine xi_getR D_Mo_owner_40 F_Mo_81 (zl_fo (g12).1 rfl) ⟨rfl, by decide⟩ (zl_gr (g12).2 rfl rfl) ?_
        refine xi_iload_n D_Mo_owner_43 rfl ?_
        obtain ⟨g13, h⟩ := okx_ck h
        refine xj_iald D_Mo_owner_44 (zl_fx (g12).1 rfl) (zl_ib (n := 3) rfl (g13)) ?_
        exact xi_ireturn D_Mo_owner_45 rfl (rfl) (okx_I h)
      · have h := okx_T c9 h
        refine xi_aload_n D_Mo_owner_30 rfl ?_
        obtain ⟨g10, h⟩ := okx_ck h
        refine xi_getR D_Mo_owner_31 F_Mo_78 (zl_fo (g10).1 rfl) ⟨rfl, by decide⟩ (zl_gr (g10).2 rfl rfl) ?_
        refine xi_iload_n D_Mo_owner_34 rfl ?_
        obtain ⟨g11, h⟩ := okx_ck h
        refine xj_iald D_Mo_owner_35 (zl_fx (g10).1 rfl) (zl_ib (n := 3) rfl (g11)) ?_
        refine xi_goto D_Mo_owner_36 ?_
        exact xi_ireturn D_Mo_owner_45 rfl (rfl) (okx_I h)
    · have h := okx_T c8 h
      exact xk_wk (w_Mo_owner_b22 (by omega)  h) ⟨Or.inr rfl, Or.inr rfl, Or.inr rfl, trivial⟩
noncomputable def f_Mo_puts (x1 : Int32) (s : Sg) : Option (Unit × Sg) :=
  f_ck (zl_B s) <|
  f_ck (vp_in (mI s 46 21) 2000) <|
  let s3 : Sg := uI s 55 (Int32.toNatClampNeg (mI s 46 21)) x1
  let s4 : Sg := uI s3 46 21 ((mI s3 46 21) + 1)
  some ((), s4)
theorem w_Mo_puts {x1 : Int32} {s : Sg} {d : Nat} {Q : Option (Option Value) → Sg → Prop} (hd : 1 ≤ d) (h : okx (zq_V Q) (f_Mo_puts x1 s)) : Cw d M_Mo_puts [.ref 46, .int x1] s Q := by
  refine Cw.of (by decide +kernel) (Nat.le_of_ble_eq_true rfl) ?_
  show Xw d M_Mo_puts 0 0 0 [.ref 46, .int x1] [] s _
  unfold f_Mo_puts at h
  refine xi_aload_n D_Mo_puts_0 rfl ?_
  obtain ⟨g1, h⟩ := okx_ck h
  refine xi_getR D_Mo_puts_1 F_Mo_35 (zl_fo (g1).1 rfl) ⟨rfl, by decide⟩ (zl_gr (g1).2 rfl rfl) ?_
  refine xi_aload_n D_Mo_puts_4 rfl ?_
  refine xi_getI D_Mo_puts_5 F_Mo_153 (zl_fo (g1).1 rfl) ⟨rfl, by decide⟩ ?_
  refine xi_iload_n D_Mo_puts_8 rfl ?_
  obtain ⟨g2, h⟩ := okx_ck h
  refine xj_iast D_Mo_puts_9 (zl_fx (g1).1 rfl) (zl_ib (n := 2000) rfl (g2)) ?_
  refine xi_aload_n D_Mo_puts_10 rfl ?_
  refine xi_dupr D_Mo_puts_11 ?_
  refine xi_getI D_Mo_puts_12 F_Mo_153 (zl_fo (g1).1 rfl) ⟨rfl, by decide⟩ ?_
  refine xj_iconst (v := 1) D_Mo_puts_15 rfl ?_
  refine xi_iadd D_Mo_puts_16 ?_
  refine xi_putI D_Mo_puts_17 F_Mo_153 (zl_fo (g1).1 rfl) ⟨rfl, by decide, rfl⟩ (⟨rfl, rfl⟩) ?_
  exact xi_return D_Mo_puts_20 rfl (okx_V h)
noncomputable def f_Mo_reached_b64 (y1 : Int32) (s : Sg) : Option (Int32 × Sg) :=
  f_ck (zl_B s) <|
  let s17 : Sg := uI s 46 0 y1
  some ((mI s17 46 56), s17)
theorem w_Mo_reached_b64 {y1 : Int32} {s : Sg} {d : Nat} {Q : Option (Option Value) → Sg → Prop} (hd : 13 ≤ d) (h : okx (zq_I Q) (f_Mo_reached_b64 y1 s)) : Xw d M_Mo_reached 0 0 64 [.ref 46, .retAddr 0] [.int y1, .ref 46] s Q := by
  unfold f_Mo_reached_b64 at h
  obtain ⟨g16, h⟩ := okx_ck h
  refine xi_putI D_Mo_reached_64 F_Mo_114 (zl_fo (g16).1 rfl) ⟨rfl, by decide, rfl⟩ (⟨rfl, rfl⟩) ?_
  refine xi_aload_n D_Mo_reached_67 rfl ?_
  refine xi_getI D_Mo_reached_68 F_Mo_397 (zl_fo (g16).1 rfl) ⟨rfl, by decide⟩ ?_
  exact xi_ireturn D_Mo_reached_71 rfl (rfl) (okx_I h)
noncomputable def f_Mo_reached_b33 (x1 : Int32) (y1 : Int32) (s : Sg) : Option (Int32 × Sg) :=
  f_ck (zl_B s) <|
  let s10 : Sg := uI s 46 0 y1
  if (mI s10 46 0) = 1 then
    some (0, s10)
  else
    f_bd (f_Mo_reachBy x1 s10) fun r12 s13 =>
    f_ck (zl_B s13) <|
    if (mI s13 46 55) = 0 then
      f_Mo_reached_b64  1 s13
    else
      f_Mo_reached_b64  0 s13
theorem w_Mo_reached_b33 {x1 : Int32} {y1 : Int32} {s : Sg} {d : Nat} {Q : Option (Option Value) → Sg → Prop} (hd : 13 ≤ d) (h : okx (zq_I Q) (f_Mo_reached_b33 x1 y1 s)) : Xw d M_Mo_reached 0 0 33 [.ref 46, .int x1] [.int y1, .ref 46] s Q := by
  unfold f_Mo_reached_b33 at h
  obtain ⟨g9, h⟩ := okx_ck h
  refine xi_putI D_Mo_reached_33 F_Mo_114 (zl_fo (g9).1 rfl) ⟨rfl, by decide, rfl⟩ (⟨rfl, rfl⟩) ?_
  refine xi_aload_n D_Mo_reached_36 rfl ?_
  refine xi_getI D_Mo_reached_37 F_Mo_114 (zl_fo (g9).1 rfl) ⟨rfl, by decide⟩ ?_
  refine xj_iconst (v := 1) D_Mo_reached_40 rfl ?_
  refine xi_icmp_ne D_Mo_reached_41 (fun c11 => ?_) (fun c11 => ?_)
  · have h := okx_F c11 h
    refine xi_aload_n D_Mo_reached_46 rfl ?_
    refine xi_iload_n D_Mo_reached_47 rfl ?_
    refine xj_V1 D_Mo_reached_48 L_Mo_409 C_Mo_reachBy Z_Mo_reachBy (zl_fo (g9).1 rfl) (Nat.le_of_ble_eq_true rfl) (Nat.le_of_eq (Nat.sub_add_cancel (by omega))) (w_Mo_reachBy (by omega) (okx_mono (okx_bd h) ?_))
    intro r12 s13 h
    show Xw _ _ _ _ 51 _ [] _ _
    refine xi_aload_n D_Mo_reached_51 rfl ?_
    refine xi_aload_n D_Mo_reached_52 rfl ?_
    obtain ⟨g14, h⟩ := okx_ck h
    refine xi_getI D_Mo_reached_53 F_Mo_393 (zl_fo (g14).1 rfl) ⟨rfl, by decide⟩ ?_
    refine xi_if_eq D_Mo_reached_56 (fun c15 => ?_) (fun c15 => ?_)
    · have h := okx_T c15 h
      refine xj_iconst (v := 1) D_Mo_reached_63 rfl ?_
      exact xk_wk (w_Mo_reached_b64 (by omega)  h) ⟨Or.inl rfl, Or.inr rfl, trivial⟩
    · have h := okx_F c15 h
      refine xj_iconst (v := 0) D_Mo_reached_59 rfl ?_
      refine xi_goto D_Mo_reached_60 ?_
      exact xk_wk (w_Mo_reached_b64 (by omega)  h) ⟨Or.inl rfl, Or.inr rfl, trivial⟩
  · have h := okx_T c11 h
    refine xj_iconst (v := 0) D_Mo_reached_44 rfl ?_
    exact xi_ireturn D_Mo_reached_45 rfl (rfl) (okx_I h)
noncomputable def f_Mo_reached_b28 (x1 : Int32) (s : Sg) : Option (Int32 × Sg) :=
  f_Mo_reached_b33  x1 1 s
theorem w_Mo_reached_b28 {x1 : Int32} {s : Sg} {d : Nat} {Q : Option (Option Value) → Sg → Prop} (hd : 13 ≤ d) (h : okx (zq_I Q) (f_Mo_reached_b28 x1 s)) : Xw d M_Mo_reached 0 0 28 [.ref 46, .int x1] [.ref 46] s Q := by
  unfold f_Mo_reached_b28 at h
  refine xj_iconst (v := 1) D_Mo_reached_28 rfl ?_
  refine xi_goto D_Mo_reached_29 ?_
  exact w_Mo_reached_b33 (by omega)  h
noncomputable def f_Mo_reached (x1 : Int32) (s : Sg) : Option (Int32 × Sg) :=
  f_ck (zl_B s) <|
  let s2 : Sg := uI s 46 39 10
  if (mI s2 46 10) = 0 then
    f_Mo_reached_b28  x1 s2
  else
    f_bd (f_Mo_owningsOf  s2) fun r4 s5 =>
    f_bd (f_Mo_within x1 0 (r4 - 1) s5) fun r6 s7 =>
    if r6 = 0 then
      f_Mo_reached_b28  x1 s7
    else
      f_Mo_reached_b33  x1 0 s7
theorem w_Mo_reached {x1 : Int32} {s : Sg} {d : Nat} {Q : Option (Option Value) → Sg → Prop} (hd : 13 ≤ d) (h : okx (zq_I Q) (f_Mo_reached x1 s)) : Cw d M_Mo_reached [.ref 46, .int x1] s Q := by
  refine Cw.of (by decide +kernel) (Nat.le_of_ble_eq_true rfl) ?_
  show Xw d M_Mo_reached 0 0 0 [.ref 46, .int x1] [] s _
  unfold f_Mo_reached at h
  refine xi_aload_n D_Mo_reached_0 rfl ?_
  refine xi_bipush (v := 10) D_Mo_reached_1 rfl ?_
  obtain ⟨g1, h⟩ := okx_ck h
  refine xi_putI D_Mo_reached_3 F_Mo_272 (zl_fo (g1).1 rfl) ⟨rfl, by decide, rfl⟩ (⟨rfl, rfl⟩) ?_
  refine xi_aload_n D_Mo_reached_6 rfl ?_
  refine xi_aload_n D_Mo_reached_7 rfl ?_
  refine xi_getI D_Mo_reached_8 F_Mo_234 (zl_fo (g1).1 rfl) ⟨rfl, by decide⟩ ?_
  refine xi_if_eq D_Mo_reached_11 (fun c3 => ?_) (fun c3 => ?_)
  · have h := okx_T c3 h
    exact w_Mo_reached_b28 (by omega)  h
  · have h := okx_F c3 h
    refine xi_iload_n D_Mo_reached_14 rfl ?_
    refine xj_iconst (v := 0) D_Mo_reached_15 rfl ?_
    refine xi_aload_n D_Mo_reached_16 rfl ?_
    refine xj_V0 D_Mo_reached_17 L_Mo_406 C_Mo_owningsOf Z_Mo_owningsOf (zl_fo (g1).1 rfl) (Nat.le_of_ble_eq_true rfl) (Nat.le_of_eq (Nat.sub_add_cancel (by omega))) (w_Mo_owningsOf (by omega) (okx_mono (okx_bd h) ?_))
    intro r4 s5 h
    show Xw _ _ _ _ 20 _ [_, _, _, _] _ _
    refine xj_iconst (v := 1) D_Mo_reached_20 rfl ?_
    refine xi_isub D_Mo_reached_21 ?_
    refine xj_S3 D_Mo_reached_22 L_Mo_268 C_Mo_within Z_Mo_within (Nat.le_of_ble_eq_true rfl) (Nat.le_of_eq (Nat.sub_add_cancel (by omega))) (w_Mo_within (by omega) (okx_mono (okx_bd h) ?_))
    intro r6 s7 h
    show Xw _ _ _ _ 25 _ [_, _] _ _
    refine xi_if_ne D_Mo_reached_25 (fun c8 => ?_) (fun c8 => ?_)
    · have h := okx_F c8 h
      refine xj_iconst (v := 0) D_Mo_reached_32 rfl ?_
      exact w_Mo_reached_b33 (by omega)  h
    · have h := okx_T c8 h
      exact w_Mo_reached_b28 (by omega)  h
noncomputable def f_Mo_whose_b62 (x1 : Int32) (s : Sg) : Option (Int32 × Sg) :=
  some ((4 + x1), s)
theorem w_Mo_whose_b62 {x1 : Int32} {s : Sg} {d : Nat} {Q : Option (Option Value) → Sg → Prop} (hd : 1 ≤ d) (h : okx (zq_I Q) (f_Mo_whose_b62 x1 s)) : Xw d M_Mo_whose 0 0 62 [.retAddr 0, .int x1] [] s Q := by
  unfold f_Mo_whose_b62 at h
  refine xj_iconst (v := 4) D_Mo_whose_62 rfl ?_
  refine xi_iload_n D_Mo_whose_63 rfl ?_
  refine xi_iadd D_Mo_whose_64 ?_
  exact xi_ireturn D_Mo_whose_65 rfl (rfl) (okx_I h)
noncomputable def f_Mo_whose_b37 (R37 : Int32 → Sg → Option (Int32 × Sg)) (x1 : Int32) (s : Sg) : Option (Int32 × Sg) :=
  f_ck (zl_B s) <|
  if (mI s 46 23) ≤ x1 then
    some ((-1), s)
  else
    f_ck (vp_in (11 + x1) 14) <|
    if (lg_cmp (mL s 48 (Int32.toNatClampNeg (11 + x1))) (mL s 46 7)) = 0 then
      f_Mo_whose_b62  x1 s
    else
      R37 (x1 + 1) s
theorem w_Mo_whose_b37 {x1 : Int32} {s : Sg} {d : Nat} {Q : Option (Option Value) → Sg → Prop} (hd : 1 ≤ d) {R37 : Int32 → Sg → Option (Int32 × Sg)} (hR37 : ∀ (x1 : Int32) (s : Sg), okx (zq_I Q) (R37 x1 s) → Xw d M_Mo_whose 0 0 37 [.ref 46, .int x1] [] s Q) (h : okx (zq_I Q) (f_Mo_whose_b37 R37 x1 s)) : Xw d M_Mo_whose 0 0 37 [.ref 46, .int x1] [] s Q := by
  unfold f_Mo_whose_b37 at h
  refine xi_iload_n D_Mo_whose_37 rfl ?_
  refine xi_aload_n D_Mo_whose_38 rfl ?_
  obtain ⟨g5, h⟩ := okx_ck h
  refine xi_getI D_Mo_whose_39 F_Mo_179 (zl_fo (g5).1 rfl) ⟨rfl, by decide⟩ ?_
  refine xi_icmp_ge D_Mo_whose_42 (fun c6 => ?_) (fun c6 => ?_)
  · have h := okx_T c6 h
    refine xj_iconst (v := (-1)) D_Mo_whose_72 rfl ?_
    exact xi_ireturn D_Mo_whose_73 rfl (rfl) (okx_I h)
  · have h := okx_F c6 h
    refine xi_aload_n D_Mo_whose_45 rfl ?_
    refine xi_getR D_Mo_whose_46 F_Mo_13 (zl_fo (g5).1 rfl) ⟨rfl, by decide⟩ (zl_gr (g5).2 rfl rfl) ?_
    refine xi_bipush (v := 11) D_Mo_whose_49 rfl ?_
    refine xi_iload_n D_Mo_whose_51 rfl ?_
    refine xi_iadd D_Mo_whose_52 ?_
    obtain ⟨g7, h⟩ := okx_ck h
    refine xj_lald D_Mo_whose_53 (zl_fx (g5).1 rfl) (zl_ib (n := 14) rfl (g7)) ?_
    refine xi_aload_n D_Mo_whose_54 rfl ?_
    refine xi_getL D_Mo_whose_55 F_Mo_132 (zl_fo (g5).1 rfl) ⟨rfl, by decide⟩ ?_
    refine xi_lcmp D_Mo_whose_58 ?_
    refine xi_if_ne D_Mo_whose_59 (fun c8 => ?_) (fun c8 => ?_)
    · have h := okx_F c8 h
      refine xi_iinc (v := _ + 1) (ls' := [_, _]) D_Mo_whose_66 rfl rfl rfl (by decide) ?_
      refine xi_goto D_Mo_whose_69 ?_
      exact hR37 _ _ h
    · have h := okx_T c8 h
      exact xk_wk (w_Mo_whose_b62 (by omega)  h) ⟨Or.inr rfl, Or.inl rfl, trivial⟩
noncomputable def f_Mo_whose_h37 : Nat → Int32 → Sg → Option (Int32 × Sg)
  | 0, _, _ => none
  | n + 1, x1, s => f_Mo_whose_b37 (f_Mo_whose_h37 n) x1 s
theorem w_Mo_whose_h37 {d : Nat} {Q : Option (Option Value) → Sg → Prop} (hd : 1 ≤ d) : ∀ (n : Nat) (x1 : Int32) (s : Sg), okx (zq_I Q) (f_Mo_whose_h37 n x1 s) → Xw d M_Mo_whose 0 0 37 [.ref 46, .int x1] [] s Q := by
  intro n
  induction n with
  | zero => intro x1 s h; exact okx_no h
  | succ n ih => intro x1 s h; exact w_Mo_whose_b37 hd  ih  h
noncomputable def f_Mo_whose_b35  (s : Sg) : Option (Int32 × Sg) :=
  f_Mo_whose_h37  zl_fl 0 s
theorem w_Mo_whose_b35 {s : Sg} {d : Nat} {Q : Option (Option Value) → Sg → Prop} (hd : 1 ≤ d) (h : okx (zq_I Q) (f_Mo_whose_b35  s)) : Xw d M_Mo_whose 0 0 35 [.ref 46, .retAddr 0] [] s Q := by
  unfold f_Mo_whose_b35 at h
  refine xj_iconst (v := 0) D_Mo_whose_35 rfl ?_
  refine xi_istore_n (ls' := [_, _]) D_Mo_whose_36 rfl (by decide) ?_
  exact w_Mo_whose_h37 (by omega)  _ _ _ h
noncomputable def f_Mo_whose_b2 (R2 : Int32 → Sg → Option (Int32 × Sg)) (x1 : Int32) (s : Sg) : Option (Int32 × Sg) :=
  f_ck (zl_B s) <|
  if (mI s 46 22) ≤ x1 then
    f_Mo_whose_b35   s
  else
    f_ck (vp_in (7 + x1) 14) <|
    if (lg_cmp (mL s 48 (Int32.toNatClampNeg (7 + x1))) (mL s 46 7)) = 0 then
      some (x1, s)
    else
      R2 (x1 + 1) s
theorem w_Mo_whose_b2 {x1 : Int32} {s : Sg} {d : Nat} {Q : Option (Option Value) → Sg → Prop} (hd : 1 ≤ d) {R2 : Int32 → Sg → Option (Int32 × Sg)} (hR2 : ∀ (x1 : Int32) (s : Sg), okx (zq_I Q) (R2 x1 s) → Xw d M_Mo_whose 0 0 2 [.ref 46, .int x1] [] s Q) (h : okx (zq_I Q) (f_Mo_whose_b2 R2 x1 s)) : Xw d M_Mo_whose 0 0 2 [.ref 46, .int x1] [] s Q := by
  unfold f_Mo_whose_b2 at h
  refine xi_iload_n D_Mo_whose_2 rfl ?_
  refine xi_aload_n D_Mo_whose_3 rfl ?_
  obtain ⟨g1, h⟩ := okx_ck h
  refine xi_getI D_Mo_whose_4 F_Mo_176 (zl_fo (g1).1 rfl) ⟨rfl, by decide⟩ ?_
  refine xi_icmp_ge D_Mo_whose_7 (fun c2 => ?_) (fun c2 => ?_)
  · have h := okx_T c2 h
    exact xk_wk (w_Mo_whose_b35 (by omega)  h) ⟨Or.inl rfl, Or.inr rfl, trivial⟩
  · have h := okx_F c2 h
    refine xi_aload_n D_Mo_whose_10 rfl ?_
    refine xi_getR D_Mo_whose_11 F_Mo_13 (zl_fo (g1).1 rfl) ⟨rfl, by decide⟩ (zl_gr (g1).2 rfl rfl) ?_
    refine xi_bipush (v := 7) D_Mo_whose_14 rfl ?_
    refine xi_iload_n D_Mo_whose_16 rfl ?_
    refine xi_iadd D_Mo_whose_17 ?_
    obtain ⟨g3, h⟩ := okx_ck h
    refine xj_lald D_Mo_whose_18 (zl_fx (g1).1 rfl) (zl_ib (n := 14) rfl (g3)) ?_
    refine xi_aload_n D_Mo_whose_19 rfl ?_
    refine xi_getL D_Mo_whose_20 F_Mo_132 (zl_fo (g1).1 rfl) ⟨rfl, by decide⟩ ?_
    refine xi_lcmp D_Mo_whose_23 ?_
    refine xi_if_ne D_Mo_whose_24 (fun c4 => ?_) (fun c4 => ?_)
    · have h := okx_F c4 h
      refine xi_iinc (v := _ + 1) (ls' := [_, _]) D_Mo_whose_29 rfl rfl rfl (by decide) ?_
      refine xi_goto D_Mo_whose_32 ?_
      exact hR2 _ _ h
    · have h := okx_T c4 h
      refine xi_iload_n D_Mo_whose_27 rfl ?_
      exact xi_ireturn D_Mo_whose_28 rfl (rfl) (okx_I h)
noncomputable def f_Mo_whose_h2 : Nat → Int32 → Sg → Option (Int32 × Sg)
  | 0, _, _ => none
  | n + 1, x1, s => f_Mo_whose_b2 (f_Mo_whose_h2 n) x1 s
theorem w_Mo_whose_h2 {d : Nat} {Q : Option (Option Value) → Sg → Prop} (hd : 1 ≤ d) : ∀ (n : Nat) (x1 : Int32) (s : Sg), okx (zq_I Q) (f_Mo_whose_h2 n x1 s) → Xw d M_Mo_whose 0 0 2 [.ref 46, .int x1] [] s Q := by
  intro n
  induction n with
  | zero => intro x1 s h; exact okx_no h
  | succ n ih => intro x1 s h; exact w_Mo_whose_b2 hd  ih  h
noncomputable def f_Mo_whose  (s : Sg) : Option (Int32 × Sg) :=
  f_Mo_whose_h2  zl_fl 0 s
theorem w_Mo_whose {s : Sg} {d : Nat} {Q : Option (Option Value) → Sg → Prop} (hd : 1 ≤ d) (h : okx (zq_I Q) (f_Mo_whose  s)) : Cw d M_Mo_whose [.ref 46] s Q := by
  refine Cw.of (by decide +kernel) (Nat.le_of_ble_eq_true rfl) ?_
  show Xw d M_Mo_whose 0 0 0 [.ref 46, .retAddr 0] [] s _
  unfold f_Mo_whose at h
  refine xj_iconst (v := 0) D_Mo_whose_0 rfl ?_
  refine xi_istore_n (ls' := [_, _]) D_Mo_whose_1 rfl (by decide) ?_
  exact w_Mo_whose_h2 (by omega)  _ _ _ h
