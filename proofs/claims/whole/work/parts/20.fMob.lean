/-! by a program of ours (wip/whole/gen/func.py, mkall.py) out of the listing: Mo_takes Mo_wouldOf Mo_stays Mo_areAtRest Mo_areThem Mo_lays Mo_laysAll Mo_asItIs Mo_isPerson Mo_within Mo_bargain Mo_goodOf Mo_bestPains Mo_best Mo_chance Mo_cost Mo_owningsOf Mo_count Mo_digit Mo_turnsOut Mo_reach -/
noncomputable def f_Mo_takes (x1 : Int32) (x2 : Int32) (x3 : Int32) (s : Sg) : Option (Int32 × Sg) :=
  some (((x1 &&& (((3 : Int32) <<< ((2 * x2) &&& 31)) ^^^ (-1))) ||| (x3 <<< ((2 * x2) &&& 31))), s)
theorem w_Mo_takes {x1 : Int32} {x2 : Int32} {x3 : Int32} {s : Sg} {d : Nat} {Q : Option (Option Value) → Sg → Prop} (hd : 1 ≤ d) (h : okx (zq_I Q) (f_Mo_takes x1 x2 x3 s)) : Cw d M_Mo_takes [.ref 46, .int x1, .int x2, .int x3] s Q := by
  refine Cw.of (by decide +kernel) (Nat.le_of_ble_eq_true rfl) ?_
  show Xw d M_Mo_takes 0 0 0 [.ref 46, .int x1, .int x2, .int x3] [] s _
  unfold f_Mo_takes at h
  refine xi_iload_n D_Mo_takes_0 rfl ?_
  refine xj_iconst (v := 3) D_Mo_takes_1 rfl ?_
  refine xj_iconst (v := 2) D_Mo_takes_2 rfl ?_
  refine xi_iload_n D_Mo_takes_3 rfl ?_
  refine xi_imul D_Mo_takes_4 ?_
  refine xi_ishl D_Mo_takes_5 ?_
  refine xj_iconst (v := (-1)) D_Mo_takes_6 rfl ?_
  refine xi_ixor D_Mo_takes_7 ?_
  refine xi_iand D_Mo_takes_8 ?_
  refine xi_iload_n D_Mo_takes_9 rfl ?_
  refine xj_iconst (v := 2) D_Mo_takes_10 rfl ?_
  refine xi_iload_n D_Mo_takes_11 rfl ?_
  refine xi_imul D_Mo_takes_12 ?_
  refine xi_ishl D_Mo_takes_13 ?_
  refine xi_ior D_Mo_takes_14 ?_
  exact xi_ireturn D_Mo_takes_15 rfl (rfl) (okx_I h)
noncomputable def f_Mo_wouldOf_b75 (R19 : Int32 → Int32 → Int32 → Int64 → Int32 → Sg → Option (Int32 × Sg)) (x1 : Int32) (x2 : Int32) (x3 : Int32) (x6 : Int32) (y0 : Int64) (s : Sg) : Option (Int32 × Sg) :=
  R19 x1 x2 x3 y0 (x6 + 1) s
theorem w_Mo_wouldOf_b75 {x1 : Int32} {x2 : Int32} {x3 : Int32} {x6 : Int32} {y0 : Int64} {s : Sg} {d : Nat} {Q : Option (Option Value) → Sg → Prop} (hd : 8 ≤ d) {R19 : Int32 → Int32 → Int32 → Int64 → Int32 → Sg → Option (Int32 × Sg)} (hR19 : ∀ (x1 : Int32) (x2 : Int32) (x3 : Int32) (x4 : Int64) (x6 : Int32) (s : Sg), okx (zq_I Q) (R19 x1 x2 x3 x4 x6 s) → Xw d M_Mo_wouldOf 0 0 19 [.ref 46, .int x1, .int x2, .int x3, .long x4, .retAddr 0, .int x6, .retAddr 0, .retAddr 0] [] s Q) (h : okx (zq_I Q) (f_Mo_wouldOf_b75 R19 x1 x2 x3 x6 y0 s)) : Xw d M_Mo_wouldOf 0 0 75 [.ref 46, .int x1, .int x2, .int x3, .retAddr 0, .retAddr 0, .int x6, .retAddr 0, .retAddr 0] [.long y0] s Q := by
  unfold f_Mo_wouldOf_b75 at h
  refine xi_lstore (ls' := [_, _, _, _, _, _, _, _, _]) D_Mo_wouldOf_75 rfl (by decide) ?_
  refine xi_iinc (v := _ + 1) (ls' := [_, _, _, _, _, _, _, _, _]) D_Mo_wouldOf_77 rfl rfl rfl (by decide) ?_
  refine xi_goto D_Mo_wouldOf_80 ?_
  exact hR19 _ _ _ _ _ _ h
noncomputable def f_Mo_wouldOf_b59 (R19 : Int32 → Int32 → Int32 → Int64 → Int32 → Sg → Option (Int32 × Sg)) (x1 : Int32) (x2 : Int32) (x4 : Int64) (x6 : Int32) (x7 : Int64) (y0 : Int32) (s : Sg) : Option (Int32 × Sg) :=
  if (lg_cmp x7 x4) ≤ 0 then
    f_Mo_wouldOf_b75 R19 x1 x2 y0 x6 x4 s
  else
    f_Mo_wouldOf_b75 R19 x1 x2 y0 x6 x7 s
theorem w_Mo_wouldOf_b59 {x1 : Int32} {x2 : Int32} {x4 : Int64} {x6 : Int32} {x7 : Int64} {y0 : Int32} {s : Sg} {d : Nat} {Q : Option (Option Value) → Sg → Prop} (hd : 8 ≤ d) {R19 : Int32 → Int32 → Int32 → Int64 → Int32 → Sg → Option (Int32 × Sg)} (hR19 : ∀ (x1 : Int32) (x2 : Int32) (x3 : Int32) (x4 : Int64) (x6 : Int32) (s : Sg), okx (zq_I Q) (R19 x1 x2 x3 x4 x6 s) → Xw d M_Mo_wouldOf 0 0 19 [.ref 46, .int x1, .int x2, .int x3, .long x4, .retAddr 0, .int x6, .retAddr 0, .retAddr 0] [] s Q) (h : okx (zq_I Q) (f_Mo_wouldOf_b59 R19 x1 x2 x4 x6 x7 y0 s)) : Xw d M_Mo_wouldOf 0 0 59 [.ref 46, .int x1, .int x2, .retAddr 0, .long x4, .retAddr 0, .int x6, .long x7, .retAddr 0] [.int y0] s Q := by
  unfold f_Mo_wouldOf_b59 at h
  refine xi_istore_n (ls' := [_, _, _, _, _, _, _, _, _]) D_Mo_wouldOf_59 rfl (by decide) ?_
  refine xi_lload D_Mo_wouldOf_60 rfl ?_
  refine xi_lload D_Mo_wouldOf_62 rfl ?_
  refine xi_lcmp D_Mo_wouldOf_64 ?_
  refine xi_if_le D_Mo_wouldOf_65 (fun c16 => ?_) (fun c16 => ?_)
  · have h := okx_T c16 h
    refine xi_lload D_Mo_wouldOf_73 rfl ?_
    exact xk_wk (w_Mo_wouldOf_b75 (by omega) hR19 h) ⟨Or.inl rfl, Or.inl rfl, Or.inl rfl, Or.inl rfl, Or.inr rfl, Or.inl rfl, Or.inl rfl, Or.inr rfl, Or.inl rfl, trivial⟩
  · have h := okx_F c16 h
    refine xi_lload D_Mo_wouldOf_68 rfl ?_
    refine xi_goto D_Mo_wouldOf_70 ?_
    exact xk_wk (w_Mo_wouldOf_b75 (by omega) hR19 h) ⟨Or.inl rfl, Or.inl rfl, Or.inl rfl, Or.inl rfl, Or.inr rfl, Or.inl rfl, Or.inl rfl, Or.inr rfl, Or.inl rfl, trivial⟩
noncomputable def f_Mo_wouldOf_b19 (R19 : Int32 → Int32 → Int32 → Int64 → Int32 → Sg → Option (Int32 × Sg)) (x1 : Int32) (x2 : Int32) (x3 : Int32) (x4 : Int64) (x6 : Int32) (s : Sg) : Option (Int32 × Sg) :=
  f_ck (zl_B s) <|
  f_ck (vp_in x1 8) <|
  if (mI s 49 (Int32.toNatClampNeg x1)) < x6 then
    some (x3, s)
  else
    f_bd (f_Mo_takes x2 x1 x6 s) fun r10 s11 =>
    f_ck (zl_B s11) <|
    f_bd (f_Mo_hasOf x1 r10 s11) fun r13 s14 =>
    if (lg_cmp r13 x4) ≤ 0 then
      f_Mo_wouldOf_b59 R19 x1 x2 x4 x6 r13 x3 s14
    else
      f_Mo_wouldOf_b59 R19 x1 x2 x4 x6 r13 x6 s14
theorem w_Mo_wouldOf_b19 {x1 : Int32} {x2 : Int32} {x3 : Int32} {x4 : Int64} {x6 : Int32} {s : Sg} {d : Nat} {Q : Option (Option Value) → Sg → Prop} (hd : 8 ≤ d) {R19 : Int32 → Int32 → Int32 → Int64 → Int32 → Sg → Option (Int32 × Sg)} (hR19 : ∀ (x1 : Int32) (x2 : Int32) (x3 : Int32) (x4 : Int64) (x6 : Int32) (s : Sg), okx (zq_I Q) (R19 x1 x2 x3 x4 x6 s) → Xw d M_Mo_wouldOf 0 0 19 [.ref 46, .int x1, .int x2, .int x3, .long x4, .retAddr 0, .int x6, .retAddr 0, .retAddr 0] [] s Q) (h : okx (zq_I Q) (f_Mo_wouldOf_b19 R19 x1 x2 x3 x4 x6 s)) : Xw d M_Mo_wouldOf 0 0 19 [.ref 46, .int x1, .int x2, .int x3, .long x4, .retAddr 0, .int x6, .retAddr 0, .retAddr 0] [] s Q := by
  unfold f_Mo_wouldOf_b19 at h
  refine xi_iload D_Mo_wouldOf_19 rfl ?_
  refine xi_aload_n D_Mo_wouldOf_21 rfl ?_
  obtain ⟨g7, h⟩ := okx_ck h
  refine xi_getR D_Mo_wouldOf_22 F_Mo_17 (zl_fo (g7).1 rfl) ⟨rfl, by decide⟩ (zl_gr (g7).2 rfl rfl) ?_
  refine xi_iload_n D_Mo_wouldOf_25 rfl ?_
  obtain ⟨g8, h⟩ := okx_ck h
  refine xj_iald D_Mo_wouldOf_26 (zl_fx (g7).1 rfl) (zl_ib (n := 8) rfl (g8)) ?_
  refine xi_icmp_gt D_Mo_wouldOf_27 (fun c9 => ?_) (fun c9 => ?_)
  · have h := okx_T c9 h
    refine xi_iload_n D_Mo_wouldOf_83 rfl ?_
    exact xi_ireturn D_Mo_wouldOf_84 rfl (rfl) (okx_I h)
  · have h := okx_F c9 h
    refine xi_aload_n D_Mo_wouldOf_30 rfl ?_
    refine xi_iload_n D_Mo_wouldOf_31 rfl ?_
    refine xi_aload_n D_Mo_wouldOf_32 rfl ?_
    refine xi_iload_n D_Mo_wouldOf_33 rfl ?_
    refine xi_iload_n D_Mo_wouldOf_34 rfl ?_
    refine xi_iload D_Mo_wouldOf_35 rfl ?_
    refine xj_V3 D_Mo_wouldOf_37 L_Mo_364 C_Mo_takes Z_Mo_takes (zl_fo (g7).1 rfl) (Nat.le_of_ble_eq_true rfl) (Nat.le_of_eq (Nat.sub_add_cancel (by omega))) (w_Mo_takes (by omega) (okx_mono (okx_bd h) ?_))
    intro r10 s11 h
    show Xw _ _ _ _ 40 _ [_, _, _] _ _
    obtain ⟨g12, h⟩ := okx_ck h
    refine xj_V2 D_Mo_wouldOf_40 L_Mo_367 C_Mo_hasOf Z_Mo_hasOf (zl_fo (g12).1 rfl) (Nat.le_of_ble_eq_true rfl) (Nat.le_of_eq (Nat.sub_add_cancel (by omega))) (w_Mo_hasOf (by omega) (okx_mono (okx_bd h) ?_))
    intro r13 s14 h
    show Xw _ _ _ _ 43 _ [_] _ _
    refine xi_lstore (ls' := [_, _, _, _, _, _, _, _, _]) D_Mo_wouldOf_43 rfl (by decide) ?_
    refine xi_lload D_Mo_wouldOf_45 rfl ?_
    refine xi_lload D_Mo_wouldOf_47 rfl ?_
    refine xi_lcmp D_Mo_wouldOf_49 ?_
    refine xi_if_le D_Mo_wouldOf_50 (fun c15 => ?_) (fun c15 => ?_)
    · have h := okx_T c15 h
      refine xi_iload_n D_Mo_wouldOf_58 rfl ?_
      exact xk_wk (w_Mo_wouldOf_b59 (by omega) hR19 h) ⟨Or.inl rfl, Or.inl rfl, Or.inl rfl, Or.inr rfl, Or.inl rfl, Or.inl rfl, Or.inl rfl, Or.inl rfl, Or.inl rfl, trivial⟩
    · have h := okx_F c15 h
      refine xi_iload D_Mo_wouldOf_53 rfl ?_
      refine xi_goto D_Mo_wouldOf_55 ?_
      exact xk_wk (w_Mo_wouldOf_b59 (by omega) hR19 h) ⟨Or.inl rfl, Or.inl rfl, Or.inl rfl, Or.inr rfl, Or.inl rfl, Or.inl rfl, Or.inl rfl, Or.inl rfl, Or.inl rfl, trivial⟩
noncomputable def f_Mo_wouldOf_h19 : Nat → Int32 → Int32 → Int32 → Int64 → Int32 → Sg → Option (Int32 × Sg)
  | 0, _, _, _, _, _, _ => none
  | n + 1, x1, x2, x3, x4, x6, s => f_Mo_wouldOf_b19 (f_Mo_wouldOf_h19 n) x1 x2 x3 x4 x6 s
theorem w_Mo_wouldOf_h19 {d : Nat} {Q : Option (Option Value) → Sg → Prop} (hd : 8 ≤ d) : ∀ (n : Nat) (x1 : Int32) (x2 : Int32) (x3 : Int32) (x4 : Int64) (x6 : Int32) (s : Sg), okx (zq_I Q) (f_Mo_wouldOf_h19 n x1 x2 x3 x4 x6 s) → Xw d M_Mo_wouldOf 0 0 19 [.ref 46, .int x1, .int x2, .int x3, .long x4, .retAddr 0, .int x6, .retAddr 0, .retAddr 0] [] s Q := by
  intro n
  induction n with
  | zero => intro x1 x2 x3 x4 x6 s h; exact okx_no h
  | succ n ih => intro x1 x2 x3 x4 x6 s h; exact w_Mo_wouldOf_b19 hd  ih  h
noncomputable def f_Mo_wouldOf (x1 : Int32) (x2 : Int32) (s : Sg) : Option (Int32 × Sg) :=
  f_ck (zl_B s) <|
  f_bd (f_Mo_takes x2 x1 0 s) fun r2 s3 =>
  f_ck (zl_B s3) <|
  f_bd (f_Mo_hasOf x1 r2 s3) fun r5 s6 =>
  f_Mo_wouldOf_h19  zl_fl x1 x2 0 r5 1 s6
theorem w_Mo_wouldOf {x1 : Int32} {x2 : Int32} {s : Sg} {d : Nat} {Q : Option (Option Value) → Sg → Prop} (hd : 8 ≤ d) (h : okx (zq_I Q) (f_Mo_wouldOf x1 x2 s)) : Cw d M_Mo_wouldOf [.ref 46, .int x1, .int x2] s Q := by
  refine Cw.of (by decide +kernel) (Nat.le_of_ble_eq_true rfl) ?_
  show Xw d M_Mo_wouldOf 0 0 0 [.ref 46, .int x1, .int x2, .retAddr 0, .retAddr 0, .retAddr 0, .retAddr 0, .retAddr 0, .retAddr 0] [] s _
  unfold f_Mo_wouldOf at h
  refine xj_iconst (v := 0) D_Mo_wouldOf_0 rfl ?_
  refine xi_istore_n (ls' := [_, _, _, _, _, _, _, _, _]) D_Mo_wouldOf_1 rfl (by decide) ?_
  refine xi_aload_n D_Mo_wouldOf_2 rfl ?_
  refine xi_iload_n D_Mo_wouldOf_3 rfl ?_
  refine xi_aload_n D_Mo_wouldOf_4 rfl ?_
  refine xi_iload_n D_Mo_wouldOf_5 rfl ?_
  refine xi_iload_n D_Mo_wouldOf_6 rfl ?_
  refine xj_iconst (v := 0) D_Mo_wouldOf_7 rfl ?_
  obtain ⟨g1, h⟩ := okx_ck h
  refine xj_V3 D_Mo_wouldOf_8 L_Mo_364 C_Mo_takes Z_Mo_takes (zl_fo (g1).1 rfl) (Nat.le_of_ble_eq_true rfl) (Nat.le_of_eq (Nat.sub_add_cancel (by omega))) (w_Mo_takes (by omega) (okx_mono (okx_bd h) ?_))
  intro r2 s3 h
  show Xw _ _ _ _ 11 _ [_, _, _] _ _
  obtain ⟨g4, h⟩ := okx_ck h
  refine xj_V2 D_Mo_wouldOf_11 L_Mo_367 C_Mo_hasOf Z_Mo_hasOf (zl_fo (g4).1 rfl) (Nat.le_of_ble_eq_true rfl) (Nat.le_of_eq (Nat.sub_add_cancel (by omega))) (w_Mo_hasOf (by omega) (okx_mono (okx_bd h) ?_))
  intro r5 s6 h
  show Xw _ _ _ _ 14 _ [_] _ _
  refine xi_lstore (ls' := [_, _, _, _, _, _, _, _, _]) D_Mo_wouldOf_14 rfl (by decide) ?_
  refine xj_iconst (v := 1) D_Mo_wouldOf_16 rfl ?_
  refine xi_istore (ls' := [_, _, _, _, _, _, _, _, _]) D_Mo_wouldOf_17 rfl (by decide) ?_
  exact w_Mo_wouldOf_h19 (by omega)  _ _ _ _ _ _ _ h
noncomputable def f_Mo_stays (x1 : Int32) (x2 : Int32) (s : Sg) : Option (Int32 × Sg) :=
  f_ck (zl_B s) <|
  f_bd (f_Mo_wouldOf x1 x2 s) fun r2 s3 =>
  f_ck (zl_B s3) <|
  f_bd (f_Mo_takes x2 x1 r2 s3) fun r5 s6 =>
  f_ck (zl_B s6) <|
  f_bd (f_Mo_hasOf x1 r5 s6) fun r8 s9 =>
  f_ck (zl_B s9) <|
  f_bd (f_Mo_hasOf x1 x2 s9) fun r11 s12 =>
  if (lg_cmp r8 r11) = 0 then
    some (1, s12)
  else
    some (0, s12)
theorem w_Mo_stays {x1 : Int32} {x2 : Int32} {s : Sg} {d : Nat} {Q : Option (Option Value) → Sg → Prop} (hd : 9 ≤ d) (h : okx (zq_I Q) (f_Mo_stays x1 x2 s)) : Cw d M_Mo_stays [.ref 46, .int x1, .int x2] s Q := by
  refine Cw.of (by decide +kernel) (Nat.le_of_ble_eq_true rfl) ?_
  show Xw d M_Mo_stays 0 0 0 [.ref 46, .int x1, .int x2] [] s _
  unfold f_Mo_stays at h
  refine xi_aload_n D_Mo_stays_0 rfl ?_
  refine xi_iload_n D_Mo_stays_1 rfl ?_
  refine xi_aload_n D_Mo_stays_2 rfl ?_
  refine xi_iload_n D_Mo_stays_3 rfl ?_
  refine xi_iload_n D_Mo_stays_4 rfl ?_
  refine xi_aload_n D_Mo_stays_5 rfl ?_
  refine xi_iload_n D_Mo_stays_6 rfl ?_
  refine xi_iload_n D_Mo_stays_7 rfl ?_
  obtain ⟨g1, h⟩ := okx_ck h
  refine xj_V2 D_Mo_stays_8 L_Mo_371 C_Mo_wouldOf Z_Mo_wouldOf (zl_fo (g1).1 rfl) (Nat.le_of_ble_eq_true rfl) (Nat.le_of_eq (Nat.sub_add_cancel (by omega))) (w_Mo_wouldOf (by omega) (okx_mono (okx_bd h) ?_))
  intro r2 s3 h
  show Xw _ _ _ _ 11 _ [_, _, _, _, _, _] _ _
  obtain ⟨g4, h⟩ := okx_ck h
  refine xj_V3 D_Mo_stays_11 L_Mo_364 C_Mo_takes Z_Mo_takes (zl_fo (g4).1 rfl) (Nat.le_of_ble_eq_true rfl) (Nat.le_of_eq (Nat.sub_add_cancel (by omega))) (w_Mo_takes (by omega) (okx_mono (okx_bd h) ?_))
  intro r5 s6 h
  show Xw _ _ _ _ 14 _ [_, _, _] _ _
  obtain ⟨g7, h⟩ := okx_ck h
  refine xj_V2 D_Mo_stays_14 L_Mo_367 C_Mo_hasOf Z_Mo_hasOf (zl_fo (g7).1 rfl) (Nat.le_of_ble_eq_true rfl) (Nat.le_of_eq (Nat.sub_add_cancel (by omega))) (w_Mo_hasOf (by omega) (okx_mono (okx_bd h) ?_))
  intro r8 s9 h
  show Xw _ _ _ _ 17 _ [_] _ _
  refine xi_aload_n D_Mo_stays_17 rfl ?_
  refine xi_iload_n D_Mo_stays_18 rfl ?_
  refine xi_iload_n D_Mo_stays_19 rfl ?_
  obtain ⟨g10, h⟩ := okx_ck h
  refine xj_V2 D_Mo_stays_20 L_Mo_367 C_Mo_hasOf Z_Mo_hasOf (zl_fo (g10).1 rfl) (Nat.le_of_ble_eq_true rfl) (Nat.le_of_eq (Nat.sub_add_cancel (by omega))) (w_Mo_hasOf (by omega) (okx_mono (okx_bd h) ?_))
  intro r11 s12 h
  show Xw _ _ _ _ 23 _ [_, _] _ _
  refine xi_lcmp D_Mo_stays_23 ?_
  refine xi_if_ne D_Mo_stays_24 (fun c13 => ?_) (fun c13 => ?_)
  · have h := okx_F c13 h
    refine xj_iconst (v := 0) D_Mo_stays_31 rfl ?_
    exact xi_ireturn D_Mo_stays_32 rfl (rfl) (okx_I h)
  · have h := okx_T c13 h
    refine xj_iconst (v := 1) D_Mo_stays_27 rfl ?_
    refine xi_goto D_Mo_stays_28 ?_
    exact xi_ireturn D_Mo_stays_32 rfl (rfl) (okx_I h)
noncomputable def f_Mo_areAtRest_b2 (R2 : Int32 → Int32 → Sg → Option (Int32 × Sg)) (x1 : Int32) (x2 : Int32) (s : Sg) : Option (Int32 × Sg) :=
  f_ck (zl_B s) <|
  if (mI s 46 10) ≤ x2 then
    some (1, s)
  else
    f_bd (f_Mo_stays x2 x1 s) fun r3 s4 =>
    if r3 = 0 then
      some (0, s4)
    else
      R2 x1 (x2 + 1) s4
theorem w_Mo_areAtRest_b2 {x1 : Int32} {x2 : Int32} {s : Sg} {d : Nat} {Q : Option (Option Value) → Sg → Prop} (hd : 10 ≤ d) {R2 : Int32 → Int32 → Sg → Option (Int32 × Sg)} (hR2 : ∀ (x1 : Int32) (x2 : Int32) (s : Sg), okx (zq_I Q) (R2 x1 x2 s) → Xw d M_Mo_areAtRest 0 0 2 [.ref 46, .int x1, .int x2] [] s Q) (h : okx (zq_I Q) (f_Mo_areAtRest_b2 R2 x1 x2 s)) : Xw d M_Mo_areAtRest 0 0 2 [.ref 46, .int x1, .int x2] [] s Q := by
  unfold f_Mo_areAtRest_b2 at h
  refine xi_iload_n D_Mo_areAtRest_2 rfl ?_
  refine xi_aload_n D_Mo_areAtRest_3 rfl ?_
  obtain ⟨g1, h⟩ := okx_ck h
  refine xi_getI D_Mo_areAtRest_4 F_Mo_234 (zl_fo (g1).1 rfl) ⟨rfl, by decide⟩ ?_
  refine xi_icmp_ge D_Mo_areAtRest_7 (fun c2 => ?_) (fun c2 => ?_)
  · have h := okx_T c2 h
    refine xj_iconst (v := 1) D_Mo_areAtRest_27 rfl ?_
    exact xi_ireturn D_Mo_areAtRest_28 rfl (rfl) (okx_I h)
  · have h := okx_F c2 h
    refine xi_aload_n D_Mo_areAtRest_10 rfl ?_
    refine xi_iload_n D_Mo_areAtRest_11 rfl ?_
    refine xi_iload_n D_Mo_areAtRest_12 rfl ?_
    refine xj_V2 D_Mo_areAtRest_13 L_Mo_374 C_Mo_stays Z_Mo_stays (zl_fo (g1).1 rfl) (Nat.le_of_ble_eq_true rfl) (Nat.le_of_eq (Nat.sub_add_cancel (by omega))) (w_Mo_stays (by omega) (okx_mono (okx_bd h) ?_))
    intro r3 s4 h
    show Xw _ _ _ _ 16 _ [_] _ _
    refine xi_if_ne D_Mo_areAtRest_16 (fun c5 => ?_) (fun c5 => ?_)
    · have h := okx_F c5 h
      refine xi_iinc (v := _ + 1) (ls' := [_, _, _]) D_Mo_areAtRest_21 rfl rfl rfl (by decide) ?_
      refine xi_goto D_Mo_areAtRest_24 ?_
      exact hR2 _ _ _ h
    · have h := okx_T c5 h
      refine xj_iconst (v := 0) D_Mo_areAtRest_19 rfl ?_
      exact xi_ireturn D_Mo_areAtRest_20 rfl (rfl) (okx_I h)
noncomputable def f_Mo_areAtRest_h2 : Nat → Int32 → Int32 → Sg → Option (Int32 × Sg)
  | 0, _, _, _ => none
  | n + 1, x1, x2, s => f_Mo_areAtRest_b2 (f_Mo_areAtRest_h2 n) x1 x2 s
theorem w_Mo_areAtRest_h2 {d : Nat} {Q : Option (Option Value) → Sg → Prop} (hd : 10 ≤ d) : ∀ (n : Nat) (x1 : Int32) (x2 : Int32) (s : Sg), okx (zq_I Q) (f_Mo_areAtRest_h2 n x1 x2 s) → Xw d M_Mo_areAtRest 0 0 2 [.ref 46, .int x1, .int x2] [] s Q := by
  intro n
  induction n with
  | zero => intro x1 x2 s h; exact okx_no h
  | succ n ih => intro x1 x2 s h; exact w_Mo_areAtRest_b2 hd  ih  h
noncomputable def f_Mo_areAtRest (x1 : Int32) (s : Sg) : Option (Int32 × Sg) :=
  f_Mo_areAtRest_h2  zl_fl x1 0 s
theorem w_Mo_areAtRest {x1 : Int32} {s : Sg} {d : Nat} {Q : Option (Option Value) → Sg → Prop} (hd : 10 ≤ d) (h : okx (zq_I Q) (f_Mo_areAtRest x1 s)) : Cw d M_Mo_areAtRest [.ref 46, .int x1] s Q := by
  refine Cw.of (by decide +kernel) (Nat.le_of_ble_eq_true rfl) ?_
  show Xw d M_Mo_areAtRest 0 0 0 [.ref 46, .int x1, .retAddr 0] [] s _
  unfold f_Mo_areAtRest at h
  refine xj_iconst (v := 0) D_Mo_areAtRest_0 rfl ?_
  refine xi_istore_n (ls' := [_, _, _]) D_Mo_areAtRest_1 rfl (by decide) ?_
  exact w_Mo_areAtRest_h2 (by omega)  _ _ _ _ h
noncomputable def f_Mo_areThem (x1 : Int32) (s : Sg) : Option (Int32 × Sg) :=
  if x1 < 0 then
    some (0, s)
  else
    f_ck (zl_B s) <|
    if ((1 : Int32) <<< ((mI s 46 10) &&& 31)) ≤ x1 then
      some (0, s)
    else
      some (1, s)
theorem w_Mo_areThem {x1 : Int32} {s : Sg} {d : Nat} {Q : Option (Option Value) → Sg → Prop} (hd : 1 ≤ d) (h : okx (zq_I Q) (f_Mo_areThem x1 s)) : Cw d M_Mo_areThem [.ref 46, .int x1] s Q := by
  refine Cw.of (by decide +kernel) (Nat.le_of_ble_eq_true rfl) ?_
  show Xw d M_Mo_areThem 0 0 0 [.ref 46, .int x1] [] s _
  unfold f_Mo_areThem at h
  refine xi_iload_n D_Mo_areThem_0 rfl ?_
  refine xi_if_lt D_Mo_areThem_1 (fun c1 => ?_) (fun c1 => ?_)
  · have h := okx_T c1 h
    refine xj_iconst (v := 0) D_Mo_areThem_18 rfl ?_
    exact xi_ireturn D_Mo_areThem_19 rfl (rfl) (okx_I h)
  · have h := okx_F c1 h
    refine xi_iload_n D_Mo_areThem_4 rfl ?_
    refine xj_iconst (v := 1) D_Mo_areThem_5 rfl ?_
    refine xi_aload_n D_Mo_areThem_6 rfl ?_
    obtain ⟨g2, h⟩ := okx_ck h
    refine xi_getI D_Mo_areThem_7 F_Mo_234 (zl_fo (g2).1 rfl) ⟨rfl, by decide⟩ ?_
    refine xi_ishl D_Mo_areThem_10 ?_
    refine xi_icmp_ge D_Mo_areThem_11 (fun c3 => ?_) (fun c3 => ?_)
    · have h := okx_T c3 h
      refine xj_iconst (v := 0) D_Mo_areThem_18 rfl ?_
      exact xi_ireturn D_Mo_areThem_19 rfl (rfl) (okx_I h)
    · have h := okx_F c3 h
      refine xj_iconst (v := 1) D_Mo_areThem_14 rfl ?_
      refine xi_goto D_Mo_areThem_15 ?_
      exact xi_ireturn D_Mo_areThem_19 rfl (rfl) (okx_I h)
noncomputable def f_Mo_lays_b77 (y1 : Int32) (y2 : Int32) (s : Sg) : Option (Unit × Sg) :=
  f_ck (zl_B s) <|
  f_ck (vp_in y1 12) <|
  let s17 : Sg := uI s 75 (Int32.toNatClampNeg y1) y2
  some ((), s17)
theorem w_Mo_lays_b77 {y1 : Int32} {y2 : Int32} {s : Sg} {d : Nat} {Q : Option (Option Value) → Sg → Prop} (hd : 1 ≤ d) (h : okx (zq_V Q) (f_Mo_lays_b77 y1 y2 s)) : Xw d M_Mo_lays 0 0 77 [.retAddr 0, .retAddr 0, .retAddr 0, .retAddr 0, .retAddr 0] [.int y2, .int y1, .ref 75] s Q := by
  unfold f_Mo_lays_b77 at h
  obtain ⟨g15, h⟩ := okx_ck h
  obtain ⟨g16, h⟩ := okx_ck h
  refine xj_iast D_Mo_lays_77 (zl_fx (g15).1 rfl) (zl_ib (n := 12) rfl (g16)) ?_
  exact xi_return D_Mo_lays_78 rfl (okx_V h)
noncomputable def f_Mo_lays_b47 (x1 : Int32) (x2 : Int32) (x4 : Int32) (y1 : Int32) (y2 : Int32) (s : Sg) : Option (Unit × Sg) :=
  f_ck (zl_B s) <|
  f_ck (vp_in y1 12) <|
  let s11 : Sg := uI s 74 (Int32.toNatClampNeg y1) y2
  f_ck (vp_in x2 3) <|
  if (mI s11 73 (Int32.toNatClampNeg x2)) = 0 then
    f_Mo_lays_b77  ((x1 + 3) + x2) x4 s11
  else
    f_ck (vp_in x2 3) <|
    f_Mo_lays_b77  ((x1 + 3) + x2) (mI s11 72 (Int32.toNatClampNeg x2)) s11
theorem w_Mo_lays_b47 {x1 : Int32} {x2 : Int32} {x4 : Int32} {y1 : Int32} {y2 : Int32} {s : Sg} {d : Nat} {Q : Option (Option Value) → Sg → Prop} (hd : 1 ≤ d) (h : okx (zq_V Q) (f_Mo_lays_b47 x1 x2 x4 y1 y2 s)) : Xw d M_Mo_lays 0 0 47 [.ref 46, .int x1, .int x2, .retAddr 0, .int x4] [.int y2, .int y1, .ref 74] s Q := by
  unfold f_Mo_lays_b47 at h
  obtain ⟨g9, h⟩ := okx_ck h
  obtain ⟨g10, h⟩ := okx_ck h
  refine xj_iast D_Mo_lays_47 (zl_fx (g9).1 rfl) (zl_ib (n := 12) rfl (g10)) ?_
  refine xi_aload_n D_Mo_lays_48 rfl ?_
  refine xi_getR D_Mo_lays_49 F_Mo_96 (zl_fo (g9).1 rfl) ⟨rfl, by decide⟩ (zl_gr (g9).2 rfl rfl) ?_
  refine xi_iload_n D_Mo_lays_52 rfl ?_
  refine xj_iconst (v := 3) D_Mo_lays_53 rfl ?_
  refine xi_iadd D_Mo_lays_54 ?_
  refine xi_iload_n D_Mo_lays_55 rfl ?_
  refine xi_iadd D_Mo_lays_56 ?_
  refine xi_aload_n D_Mo_lays_57 rfl ?_
  refine xi_getR D_Mo_lays_58 F_Mo_90 (zl_fo (g9).1 rfl) ⟨rfl, by decide⟩ (zl_gr (g9).2 rfl rfl) ?_
  refine xi_iload_n D_Mo_lays_61 rfl ?_
  obtain ⟨g12, h⟩ := okx_ck h
  refine xj_zald D_Mo_lays_62 (zl_fx (g9).1 rfl) (zl_ib (n := 3) rfl (g12)) ?_
  refine xi_if_eq D_Mo_lays_63 (fun c13 => ?_) (fun c13 => ?_)
  · have h := okx_T c13 h
    refine xi_iload D_Mo_lays_75 rfl ?_
    exact xk_wk (w_Mo_lays_b77 (by omega)  h) ⟨Or.inr rfl, Or.inr rfl, Or.inr rfl, Or.inl rfl, Or.inr rfl, trivial⟩
  · have h := okx_F c13 h
    refine xi_aload_n D_Mo_lays_66 rfl ?_
    refine xi_getR D_Mo_lays_67 F_Mo_87 (zl_fo (g9).1 rfl) ⟨rfl, by decide⟩ (zl_gr (g9).2 rfl rfl) ?_
    refine xi_iload_n D_Mo_lays_70 rfl ?_
    obtain ⟨g14, h⟩ := okx_ck h
    refine xj_iald D_Mo_lays_71 (zl_fx (g9).1 rfl) (zl_ib (n := 3) rfl (g14)) ?_
    refine xi_goto D_Mo_lays_72 ?_
    exact xk_wk (w_Mo_lays_b77 (by omega)  h) ⟨Or.inr rfl, Or.inr rfl, Or.inr rfl, Or.inl rfl, Or.inr rfl, trivial⟩
noncomputable def f_Mo_lays (x1 : Int32) (x2 : Int32) (x3 : Int32) (x4 : Int32) (s : Sg) : Option (Unit × Sg) :=
  f_ck (zl_B s) <|
  f_ck (vp_in (x1 + x2) 12) <|
  let s3 : Sg := uI s 74 (Int32.toNatClampNeg (x1 + x2)) x3
  f_ck (vp_in (x1 + x2) 12) <|
  let s5 : Sg := uI s3 75 (Int32.toNatClampNeg (x1 + x2)) x4
  f_ck (vp_in x2 3) <|
  if (mI s5 73 (Int32.toNatClampNeg x2)) = 0 then
    f_Mo_lays_b47  x1 x2 x4 ((x1 + 3) + x2) x3 s5
  else
    f_ck (vp_in x2 3) <|
    f_Mo_lays_b47  x1 x2 x4 ((x1 + 3) + x2) (mI s5 71 (Int32.toNatClampNeg x2)) s5
theorem w_Mo_lays {x1 : Int32} {x2 : Int32} {x3 : Int32} {x4 : Int32} {s : Sg} {d : Nat} {Q : Option (Option Value) → Sg → Prop} (hd : 1 ≤ d) (h : okx (zq_V Q) (f_Mo_lays x1 x2 x3 x4 s)) : Cw d M_Mo_lays [.ref 46, .int x1, .int x2, .int x3, .int x4] s Q := by
  refine Cw.of (by decide +kernel) (Nat.le_of_ble_eq_true rfl) ?_
  show Xw d M_Mo_lays 0 0 0 [.ref 46, .int x1, .int x2, .int x3, .int x4] [] s _
  unfold f_Mo_lays at h
  refine xi_aload_n D_Mo_lays_0 rfl ?_
  obtain ⟨g1, h⟩ := okx_ck h
  refine xi_getR D_Mo_lays_1 F_Mo_93 (zl_fo (g1).1 rfl) ⟨rfl, by decide⟩ (zl_gr (g1).2 rfl rfl) ?_
  refine xi_iload_n D_Mo_lays_4 rfl ?_
  refine xi_iload_n D_Mo_lays_5 rfl ?_
  refine xi_iadd D_Mo_lays_6 ?_
  refine xi_iload_n D_Mo_lays_7 rfl ?_
  obtain ⟨g2, h⟩ := okx_ck h
  refine xj_iast D_Mo_lays_8 (zl_fx (g1).1 rfl) (zl_ib (n := 12) rfl (g2)) ?_
  refine xi_aload_n D_Mo_lays_9 rfl ?_
  refine xi_getR D_Mo_lays_10 F_Mo_96 (zl_fo (g1).1 rfl) ⟨rfl, by decide⟩ (zl_gr (g1).2 rfl rfl) ?_
  refine xi_iload_n D_Mo_lays_13 rfl ?_
  refine xi_iload_n D_Mo_lays_14 rfl ?_
  refine xi_iadd D_Mo_lays_15 ?_
  refine xi_iload D_Mo_lays_16 rfl ?_
  obtain ⟨g4, h⟩ := okx_ck h
  refine xj_iast D_Mo_lays_18 (zl_fx (g1).1 rfl) (zl_ib (n := 12) rfl (g4)) ?_
  refine xi_aload_n D_Mo_lays_19 rfl ?_
  refine xi_getR D_Mo_lays_20 F_Mo_93 (zl_fo (g1).1 rfl) ⟨rfl, by decide⟩ (zl_gr (g1).2 rfl rfl) ?_
  refine xi_iload_n D_Mo_lays_23 rfl ?_
  refine xj_iconst (v := 3) D_Mo_lays_24 rfl ?_
  refine xi_iadd D_Mo_lays_25 ?_
  refine xi_iload_n D_Mo_lays_26 rfl ?_
  refine xi_iadd D_Mo_lays_27 ?_
  refine xi_aload_n D_Mo_lays_28 rfl ?_
  refine xi_getR D_Mo_lays_29 F_Mo_90 (zl_fo (g1).1 rfl) ⟨rfl, by decide⟩ (zl_gr (g1).2 rfl rfl) ?_
  refine xi_iload_n D_Mo_lays_32 rfl ?_
  obtain ⟨g6, h⟩ := okx_ck h
  refine xj_zald D_Mo_lays_33 (zl_fx (g1).1 rfl) (zl_ib (n := 3) rfl (g6)) ?_
  refine xi_if_eq D_Mo_lays_34 (fun c7 => ?_) (fun c7 => ?_)
  · have h := okx_T c7 h
    refine xi_iload_n D_Mo_lays_46 rfl ?_
    exact xk_wk (w_Mo_lays_b47 (by omega)  h) ⟨Or.inl rfl, Or.inl rfl, Or.inl rfl, Or.inr rfl, Or.inl rfl, trivial⟩
  · have h := okx_F c7 h
    refine xi_aload_n D_Mo_lays_37 rfl ?_
    refine xi_getR D_Mo_lays_38 F_Mo_84 (zl_fo (g1).1 rfl) ⟨rfl, by decide⟩ (zl_gr (g1).2 rfl rfl) ?_
    refine xi_iload_n D_Mo_lays_41 rfl ?_
    obtain ⟨g8, h⟩ := okx_ck h
    refine xj_iald D_Mo_lays_42 (zl_fx (g1).1 rfl) (zl_ib (n := 3) rfl (g8)) ?_
    refine xi_goto D_Mo_lays_43 ?_
    exact xk_wk (w_Mo_lays_b47 (by omega)  h) ⟨Or.inl rfl, Or.inl rfl, Or.inl rfl, Or.inr rfl, Or.inl rfl, trivial⟩
noncomputable def f_Mo_laysAll_b2 (R2 : Int32 → Int32 → Sg → Option (Unit × Sg)) (x1 : Int32) (x2 : Int32) (s : Sg) : Option (Unit × Sg) :=
  if 3 ≤ x2 then
    some ((), s)
  else
    f_ck (zl_B s) <|
    f_ck (vp_in x2 3) <|
    f_ck (vp_in x2 3) <|
    f_bd (f_Mo_lays x1 x2 (mI s 69 (Int32.toNatClampNeg x2)) (mI s 70 (Int32.toNatClampNeg x2)) s) fun r5 s6 =>
    R2 x1 (x2 + 1) s6
theorem w_Mo_laysAll_b2 {x1 : Int32} {x2 : Int32} {s : Sg} {d : Nat} {Q : Option (Option Value) → Sg → Prop} (hd : 2 ≤ d) {R2 : Int32 → Int32 → Sg → Option (Unit × Sg)} (hR2 : ∀ (x1 : Int32) (x2 : Int32) (s : Sg), okx (zq_V Q) (R2 x1 x2 s) → Xw d M_Mo_laysAll 0 0 2 [.ref 46, .int x1, .int x2] [] s Q) (h : okx (zq_V Q) (f_Mo_laysAll_b2 R2 x1 x2 s)) : Xw d M_Mo_laysAll 0 0 2 [.ref 46, .int x1, .int x2] [] s Q := by
  unfold f_Mo_laysAll_b2 at h
  refine xi_iload_n D_Mo_laysAll_2 rfl ?_
  refine xj_iconst (v := 3) D_Mo_laysAll_3 rfl ?_
  refine xi_icmp_ge D_Mo_laysAll_4 (fun c1 => ?_) (fun c1 => ?_)
  · have h := okx_T c1 h
    exact xi_return D_Mo_laysAll_31 rfl (okx_V h)
  · have h := okx_F c1 h
    refine xi_aload_n D_Mo_laysAll_7 rfl ?_
    refine xi_iload_n D_Mo_laysAll_8 rfl ?_
    refine xi_iload_n D_Mo_laysAll_9 rfl ?_
    refine xi_aload_n D_Mo_laysAll_10 rfl ?_
    obtain ⟨g2, h⟩ := okx_ck h
    refine xi_getR D_Mo_laysAll_11 F_Mo_78 (zl_fo (g2).1 rfl) ⟨rfl, by decide⟩ (zl_gr (g2).2 rfl rfl) ?_
    refine xi_iload_n D_Mo_laysAll_14 rfl ?_
    obtain ⟨g3, h⟩ := okx_ck h
    refine xj_iald D_Mo_laysAll_15 (zl_fx (g2).1 rfl) (zl_ib (n := 3) rfl (g3)) ?_
    refine xi_aload_n D_Mo_laysAll_16 rfl ?_
    refine xi_getR D_Mo_laysAll_17 F_Mo_81 (zl_fo (g2).1 rfl) ⟨rfl, by decide⟩ (zl_gr (g2).2 rfl rfl) ?_
    refine xi_iload_n D_Mo_laysAll_20 rfl ?_
    obtain ⟨g4, h⟩ := okx_ck h
    refine xj_iald D_Mo_laysAll_21 (zl_fx (g2).1 rfl) (zl_ib (n := 3) rfl (g4)) ?_
    refine xj_V4 D_Mo_laysAll_22 L_Mo_312 C_Mo_lays Z_Mo_lays (zl_fo (g2).1 rfl) (Nat.le_of_ble_eq_true rfl) (Nat.le_of_eq (Nat.sub_add_cancel (by omega))) (w_Mo_lays (by omega) (okx_mono (okx_bd h) ?_))
    intro r5 s6 h
    show Xw _ _ _ _ 25 _ [] _ _
    refine xi_iinc (v := _ + 1) (ls' := [_, _, _]) D_Mo_laysAll_25 rfl rfl rfl (by decide) ?_
    refine xi_goto D_Mo_laysAll_28 ?_
    exact hR2 _ _ _ h
noncomputable def f_Mo_laysAll_h2 : Nat → Int32 → Int32 → Sg → Option (Unit × Sg)
  | 0, _, _, _ => none
  | n + 1, x1, x2, s => f_Mo_laysAll_b2 (f_Mo_laysAll_h2 n) x1 x2 s
theorem w_Mo_laysAll_h2 {d : Nat} {Q : Option (Option Value) → Sg → Prop} (hd : 2 ≤ d) : ∀ (n : Nat) (x1 : Int32) (x2 : Int32) (s : Sg), okx (zq_V Q) (f_Mo_laysAll_h2 n x1 x2 s) → Xw d M_Mo_laysAll 0 0 2 [.ref 46, .int x1, .int x2] [] s Q := by
  intro n
  induction n with
  | zero => intro x1 x2 s h; exact okx_no h
  | succ n ih => intro x1 x2 s h; exact w_Mo_laysAll_b2 hd  ih  h
noncomputable def f_Mo_laysAll (x1 : Int32) (s : Sg) : Option (Unit × Sg) :=
  f_Mo_laysAll_h2  zl_fl x1 0 s
theorem w_Mo_laysAll {x1 : Int32} {s : Sg} {d : Nat} {Q : Option (Option Value) → Sg → Prop} (hd : 2 ≤ d) (h : okx (zq_V Q) (f_Mo_laysAll x1 s)) : Cw d M_Mo_laysAll [.ref 46, .int x1] s Q := by
  refine Cw.of (by decide +kernel) (Nat.le_of_ble_eq_true rfl) ?_
  show Xw d M_Mo_laysAll 0 0 0 [.ref 46, .int x1, .retAddr 0] [] s _
  unfold f_Mo_laysAll at h
  refine xj_iconst (v := 0) D_Mo_laysAll_0 rfl ?_
  refine xi_istore_n (ls' := [_, _, _]) D_Mo_laysAll_1 rfl (by decide) ?_
  exact w_Mo_laysAll_h2 (by omega)  _ _ _ _ h
noncomputable def f_Mo_asItIs  (s : Sg) : Option (Unit × Sg) :=
  f_ck (zl_B s) <|
  let s2 : Sg := uI s 46 39 10
  let s3 : Sg := uI s2 46 50 0
  f_bd (f_Mo_laysAll 0 s3) fun r4 s5 =>
  some ((), s5)
theorem w_Mo_asItIs {s : Sg} {d : Nat} {Q : Option (Option Value) → Sg → Prop} (hd : 3 ≤ d) (h : okx (zq_V Q) (f_Mo_asItIs  s)) : Cw d M_Mo_asItIs [.ref 46] s Q := by
  refine Cw.of (by decide +kernel) (Nat.le_of_ble_eq_true rfl) ?_
  show Xw d M_Mo_asItIs 0 0 0 [.ref 46] [] s _
  unfold f_Mo_asItIs at h
  refine xi_aload_n D_Mo_asItIs_0 rfl ?_
  refine xi_bipush (v := 10) D_Mo_asItIs_1 rfl ?_
  obtain ⟨g1, h⟩ := okx_ck h
  refine xi_putI D_Mo_asItIs_3 F_Mo_272 (zl_fo (g1).1 rfl) ⟨rfl, by decide, rfl⟩ (⟨rfl, rfl⟩) ?_
  refine xi_aload_n D_Mo_asItIs_6 rfl ?_
  refine xj_iconst (v := 0) D_Mo_asItIs_7 rfl ?_
  refine xi_putI D_Mo_asItIs_8 F_Mo_319 (zl_fo (g1).1 rfl) ⟨rfl, by decide, rfl⟩ (⟨rfl, rfl⟩) ?_
  refine xi_aload_n D_Mo_asItIs_11 rfl ?_
  refine xj_iconst (v := 0) D_Mo_asItIs_12 rfl ?_
  refine xj_V1 D_Mo_asItIs_13 L_Mo_322 C_Mo_laysAll Z_Mo_laysAll (zl_fo (g1).1 rfl) (Nat.le_of_ble_eq_true rfl) (Nat.le_of_eq (Nat.sub_add_cancel (by omega))) (w_Mo_laysAll (by omega) (okx_mono (okx_bd h) ?_))
  intro r4 s5 h
  show Xw _ _ _ _ 16 _ [] _ _
  exact xi_return D_Mo_asItIs_16 rfl (okx_V h)
noncomputable def f_Mo_isPerson (x1 : Int32) (s : Sg) : Option (Int32 × Sg) :=
  if x1 < 0 then
    some (0, s)
  else
    f_ck (zl_B s) <|
    if (mI s 46 10) ≤ x1 then
      some (0, s)
    else
      some (1, s)
theorem w_Mo_isPerson {x1 : Int32} {s : Sg} {d : Nat} {Q : Option (Option Value) → Sg → Prop} (hd : 1 ≤ d) (h : okx (zq_I Q) (f_Mo_isPerson x1 s)) : Cw d M_Mo_isPerson [.ref 46, .int x1] s Q := by
  refine Cw.of (by decide +kernel) (Nat.le_of_ble_eq_true rfl) ?_
  show Xw d M_Mo_isPerson 0 0 0 [.ref 46, .int x1] [] s _
  unfold f_Mo_isPerson at h
  refine xi_iload_n D_Mo_isPerson_0 rfl ?_
  refine xi_if_lt D_Mo_isPerson_1 (fun c1 => ?_) (fun c1 => ?_)
  · have h := okx_T c1 h
    refine xj_iconst (v := 0) D_Mo_isPerson_16 rfl ?_
    exact xi_ireturn D_Mo_isPerson_17 rfl (rfl) (okx_I h)
  · have h := okx_F c1 h
    refine xi_iload_n D_Mo_isPerson_4 rfl ?_
    refine xi_aload_n D_Mo_isPerson_5 rfl ?_
    obtain ⟨g2, h⟩ := okx_ck h
    refine xi_getI D_Mo_isPerson_6 F_Mo_234 (zl_fo (g2).1 rfl) ⟨rfl, by decide⟩ ?_
    refine xi_icmp_ge D_Mo_isPerson_9 (fun c3 => ?_) (fun c3 => ?_)
    · have h := okx_T c3 h
      refine xj_iconst (v := 0) D_Mo_isPerson_16 rfl ?_
      exact xi_ireturn D_Mo_isPerson_17 rfl (rfl) (okx_I h)
    · have h := okx_F c3 h
      refine xj_iconst (v := 1) D_Mo_isPerson_12 rfl ?_
      refine xi_goto D_Mo_isPerson_13 ?_
      exact xi_ireturn D_Mo_isPerson_17 rfl (rfl) (okx_I h)
noncomputable def f_Mo_within (x0 : Int32) (x1 : Int32) (x2 : Int32) (s : Sg) : Option (Int32 × Sg) :=
  if x0 < x1 then
    some (0, s)
  else
    if x2 < x0 then
      some (0, s)
    else
      some (1, s)
theorem w_Mo_within {x0 : Int32} {x1 : Int32} {x2 : Int32} {s : Sg} {d : Nat} {Q : Option (Option Value) → Sg → Prop} (hd : 1 ≤ d) (h : okx (zq_I Q) (f_Mo_within x0 x1 x2 s)) : Cw d M_Mo_within [.int x0, .int x1, .int x2] s Q := by
  refine Cw.of (by decide +kernel) (Nat.le_of_ble_eq_true rfl) ?_
  show Xw d M_Mo_within 0 0 0 [.int x0, .int x1, .int x2] [] s _
  unfold f_Mo_within at h
  refine xi_iload_n D_Mo_within_0 rfl ?_
  refine xi_iload_n D_Mo_within_1 rfl ?_
  refine xi_icmp_lt D_Mo_within_2 (fun c1 => ?_) (fun c1 => ?_)
  · have h := okx_T c1 h
    refine xj_iconst (v := 0) D_Mo_within_14 rfl ?_
    exact xi_ireturn D_Mo_within_15 rfl (rfl) (okx_I h)
  · have h := okx_F c1 h
    refine xi_iload_n D_Mo_within_5 rfl ?_
    refine xi_iload_n D_Mo_within_6 rfl ?_
    refine xi_icmp_gt D_Mo_within_7 (fun c2 => ?_) (fun c2 => ?_)
    · have h := okx_T c2 h
      refine xj_iconst (v := 0) D_Mo_within_14 rfl ?_
      exact xi_ireturn D_Mo_within_15 rfl (rfl) (okx_I h)
    · have h := okx_F c2 h
      refine xj_iconst (v := 1) D_Mo_within_10 rfl ?_
      refine xi_goto D_Mo_within_11 ?_
      exact xi_ireturn D_Mo_within_15 rfl (rfl) (okx_I h)
noncomputable def f_Mo_bargain (x1 : Int32) (x2 : Int32) (s : Sg) : Option (Int32 × Sg) :=
  f_ck (zl_B s) <|
  let s2 : Sg := uI s 46 0 0
  f_bd (f_Mo_within x1 0 2 s2) fun r3 s4 =>
  if r3 = 0 then
    some (0, s4)
  else
    f_ck (zl_B s4) <|
    f_bd (f_Mo_isPerson x2 s4) fun r7 s8 =>
    if r7 = 0 then
      some (0, s8)
    else
      f_ck (zl_B s8) <|
      let s11 : Sg := uI s8 46 46 x1
      let s12 : Sg := uI s11 46 47 x2
      some (1, s12)
theorem w_Mo_bargain {x1 : Int32} {x2 : Int32} {s : Sg} {d : Nat} {Q : Option (Option Value) → Sg → Prop} (hd : 2 ≤ d) (h : okx (zq_I Q) (f_Mo_bargain x1 x2 s)) : Cw d M_Mo_bargain [.ref 46, .int x1, .int x2] s Q := by
  refine Cw.of (by decide +kernel) (Nat.le_of_ble_eq_true rfl) ?_
  show Xw d M_Mo_bargain 0 0 0 [.ref 46, .int x1, .int x2] [] s _
  unfold f_Mo_bargain at h
  refine xi_aload_n D_Mo_bargain_0 rfl ?_
  refine xj_iconst (v := 0) D_Mo_bargain_1 rfl ?_
  obtain ⟨g1, h⟩ := okx_ck h
  refine xi_putI D_Mo_bargain_2 F_Mo_114 (zl_fo (g1).1 rfl) ⟨rfl, by decide, rfl⟩ (⟨rfl, rfl⟩) ?_
  refine xi_iload_n D_Mo_bargain_5 rfl ?_
  refine xj_iconst (v := 0) D_Mo_bargain_6 rfl ?_
  refine xj_iconst (v := 2) D_Mo_bargain_7 rfl ?_
  refine xj_S3 D_Mo_bargain_8 L_Mo_268 C_Mo_within Z_Mo_within (Nat.le_of_ble_eq_true rfl) (Nat.le_of_eq (Nat.sub_add_cancel (by omega))) (w_Mo_within (by omega) (okx_mono (okx_bd h) ?_))
  intro r3 s4 h
  show Xw _ _ _ _ 11 _ [_] _ _
  refine xi_if_eq D_Mo_bargain_11 (fun c5 => ?_) (fun c5 => ?_)
  · have h := okx_T c5 h
    refine xj_iconst (v := 0) D_Mo_bargain_22 rfl ?_
    exact xi_ireturn D_Mo_bargain_23 rfl (rfl) (okx_I h)
  · have h := okx_F c5 h
    refine xi_aload_n D_Mo_bargain_14 rfl ?_
    refine xi_iload_n D_Mo_bargain_15 rfl ?_
    obtain ⟨g6, h⟩ := okx_ck h
    refine xj_V1 D_Mo_bargain_16 L_Mo_265 C_Mo_isPerson Z_Mo_isPerson (zl_fo (g6).1 rfl) (Nat.le_of_ble_eq_true rfl) (Nat.le_of_eq (Nat.sub_add_cancel (by omega))) (w_Mo_isPerson (by omega) (okx_mono (okx_bd h) ?_))
    intro r7 s8 h
    show Xw _ _ _ _ 19 _ [_] _ _
    refine xi_if_ne D_Mo_bargain_19 (fun c9 => ?_) (fun c9 => ?_)
    · have h := okx_F c9 h
      refine xi_aload_n D_Mo_bargain_24 rfl ?_
      refine xi_iload_n D_Mo_bargain_25 rfl ?_
      obtain ⟨g10, h⟩ := okx_ck h
      refine xi_putI D_Mo_bargain_26 F_Mo_247 (zl_fo (g10).1 rfl) ⟨rfl, by decide, rfl⟩ (⟨rfl, rfl⟩) ?_
      refine xi_aload_n D_Mo_bargain_29 rfl ?_
      refine xi_iload_n D_Mo_bargain_30 rfl ?_
      refine xi_putI D_Mo_bargain_31 F_Mo_250 (zl_fo (g10).1 rfl) ⟨rfl, by decide, rfl⟩ (⟨rfl, rfl⟩) ?_
      refine xj_iconst (v := 1) D_Mo_bargain_34 rfl ?_
      exact xi_ireturn D_Mo_bargain_35 rfl (rfl) (okx_I h)
    · have h := okx_T c9 h
      refine xj_iconst (v := 0) D_Mo_bargain_22 rfl ?_
      exact xi_ireturn D_Mo_bargain_23 rfl (rfl) (okx_I h)
noncomputable def f_Mo_goodOf_b24 (R24 : Int32 → Int32 → Int32 → Sg → Option (Int32 × Sg)) (x1 : Int32) (x2 : Int32) (x3 : Int32) (s : Sg) : Option (Int32 × Sg) :=
  f_ck (zl_B s) <|
  if (mI s 46 10) ≤ x3 then
    some (x2, s)
  else
    f_bd (f_Mo_stepOf x1 x3 s) fun r6 s7 =>
    f_ck (zl_B s7) <|
    f_ck (vp_in ((4 * x3) + r6) 32) <|
    let v10 : Int32 := (x2 - (mI s7 50 (Int32.toNatClampNeg ((4 * x3) + r6))))
    R24 x1 v10 (x3 + 1) s7
theorem w_Mo_goodOf_b24 {x1 : Int32} {x2 : Int32} {x3 : Int32} {s : Sg} {d : Nat} {Q : Option (Option Value) → Sg → Prop} (hd : 3 ≤ d) {R24 : Int32 → Int32 → Int32 → Sg → Option (Int32 × Sg)} (hR24 : ∀ (x1 : Int32) (x2 : Int32) (x3 : Int32) (s : Sg), okx (zq_I Q) (R24 x1 x2 x3 s) → Xw d M_Mo_goodOf 0 0 24 [.ref 46, .int x1, .int x2, .int x3] [] s Q) (h : okx (zq_I Q) (f_Mo_goodOf_b24 R24 x1 x2 x3 s)) : Xw d M_Mo_goodOf 0 0 24 [.ref 46, .int x1, .int x2, .int x3] [] s Q := by
  unfold f_Mo_goodOf_b24 at h
  refine xi_iload_n D_Mo_goodOf_24 rfl ?_
  refine xi_aload_n D_Mo_goodOf_25 rfl ?_
  obtain ⟨g4, h⟩ := okx_ck h
  refine xi_getI D_Mo_goodOf_26 F_Mo_234 (zl_fo (g4).1 rfl) ⟨rfl, by decide⟩ ?_
  refine xi_icmp_ge D_Mo_goodOf_29 (fun c5 => ?_) (fun c5 => ?_)
  · have h := okx_T c5 h
    refine xi_iload_n D_Mo_goodOf_56 rfl ?_
    exact xi_ireturn D_Mo_goodOf_57 rfl (rfl) (okx_I h)
  · have h := okx_F c5 h
    refine xi_iload_n D_Mo_goodOf_32 rfl ?_
    refine xi_aload_n D_Mo_goodOf_33 rfl ?_
    refine xi_getR D_Mo_goodOf_34 F_Mo_20 (zl_fo (g4).1 rfl) ⟨rfl, by decide⟩ (zl_gr (g4).2 rfl rfl) ?_
    refine xj_iconst (v := 4) D_Mo_goodOf_37 rfl ?_
    refine xi_iload_n D_Mo_goodOf_38 rfl ?_
    refine xi_imul D_Mo_goodOf_39 ?_
    refine xi_aload_n D_Mo_goodOf_40 rfl ?_
    refine xi_iload_n D_Mo_goodOf_41 rfl ?_
    refine xi_iload_n D_Mo_goodOf_42 rfl ?_
    refine xj_V2 D_Mo_goodOf_43 L_Mo_237 C_Mo_stepOf Z_Mo_stepOf (zl_fo (g4).1 rfl) (Nat.le_of_ble_eq_true rfl) (Nat.le_of_eq (Nat.sub_add_cancel (by omega))) (w_Mo_stepOf (by omega) (okx_mono (okx_bd h) ?_))
    intro r6 s7 h
    show Xw _ _ _ _ 46 _ [_, _, _, _] _ _
    refine xi_iadd D_Mo_goodOf_46 ?_
    obtain ⟨g8, h⟩ := okx_ck h
    obtain ⟨g9, h⟩ := okx_ck h
    refine xj_iald D_Mo_goodOf_47 (zl_fx (g8).1 rfl) (zl_ib (n := 32) rfl (g9)) ?_
    refine xi_isub D_Mo_goodOf_48 ?_
    refine xi_istore_n (ls' := [_, _, _, _]) D_Mo_goodOf_49 rfl (by decide) ?_
    refine xi_iinc (v := _ + 1) (ls' := [_, _, _, _]) D_Mo_goodOf_50 rfl rfl rfl (by decide) ?_
    refine xi_goto D_Mo_goodOf_53 ?_
    exact hR24 _ _ _ _ h
noncomputable def f_Mo_goodOf_h24 : Nat → Int32 → Int32 → Int32 → Sg → Option (Int32 × Sg)
  | 0, _, _, _, _ => none
  | n + 1, x1, x2, x3, s => f_Mo_goodOf_b24 (f_Mo_goodOf_h24 n) x1 x2 x3 s
theorem w_Mo_goodOf_h24 {d : Nat} {Q : Option (Option Value) → Sg → Prop} (hd : 3 ≤ d) : ∀ (n : Nat) (x1 : Int32) (x2 : Int32) (x3 : Int32) (s : Sg), okx (zq_I Q) (f_Mo_goodOf_h24 n x1 x2 x3 s) → Xw d M_Mo_goodOf 0 0 24 [.ref 46, .int x1, .int x2, .int x3] [] s Q := by
  intro n
  induction n with
  | zero => intro x1 x2 x3 s h; exact okx_no h
  | succ n ih => intro x1 x2 x3 s h; exact w_Mo_goodOf_b24 hd  ih  h
noncomputable def f_Mo_goodOf (x1 : Int32) (s : Sg) : Option (Int32 × Sg) :=
  f_ck (zl_B s) <|
  f_bd (f_Mo_worthOf (((1 : Int32) <<< ((mI s 46 10) &&& 31)) - 1) (((1 : Int32) <<< ((mI s 46 11) &&& 31)) - 1) x1 s) fun r2 s3 =>
  f_Mo_goodOf_h24  zl_fl x1 r2 0 s3
theorem w_Mo_goodOf {x1 : Int32} {s : Sg} {d : Nat} {Q : Option (Option Value) → Sg → Prop} (hd : 3 ≤ d) (h : okx (zq_I Q) (f_Mo_goodOf x1 s)) : Cw d M_Mo_goodOf [.ref 46, .int x1] s Q := by
  refine Cw.of (by decide +kernel) (Nat.le_of_ble_eq_true rfl) ?_
  show Xw d M_Mo_goodOf 0 0 0 [.ref 46, .int x1, .retAddr 0, .retAddr 0] [] s _
  unfold f_Mo_goodOf at h
  refine xi_aload_n D_Mo_goodOf_0 rfl ?_
  refine xj_iconst (v := 1) D_Mo_goodOf_1 rfl ?_
  refine xi_aload_n D_Mo_goodOf_2 rfl ?_
  obtain ⟨g1, h⟩ := okx_ck h
  refine xi_getI D_Mo_goodOf_3 F_Mo_234 (zl_fo (g1).1 rfl) ⟨rfl, by decide⟩ ?_
  refine xi_ishl D_Mo_goodOf_6 ?_
  refine xj_iconst (v := 1) D_Mo_goodOf_7 rfl ?_
  refine xi_isub D_Mo_goodOf_8 ?_
  refine xj_iconst (v := 1) D_Mo_goodOf_9 rfl ?_
  refine xi_aload_n D_Mo_goodOf_10 rfl ?_
  refine xi_getI D_Mo_goodOf_11 F_Mo_259 (zl_fo (g1).1 rfl) ⟨rfl, by decide⟩ ?_
  refine xi_ishl D_Mo_goodOf_14 ?_
  refine xj_iconst (v := 1) D_Mo_goodOf_15 rfl ?_
  refine xi_isub D_Mo_goodOf_16 ?_
  refine xi_iload_n D_Mo_goodOf_17 rfl ?_
  refine xj_V3 D_Mo_goodOf_18 L_Mo_299 C_Mo_worthOf Z_Mo_worthOf (zl_fo (g1).1 rfl) (Nat.le_of_ble_eq_true rfl) (Nat.le_of_eq (Nat.sub_add_cancel (by omega))) (w_Mo_worthOf (by omega) (okx_mono (okx_bd h) ?_))
  intro r2 s3 h
  show Xw _ _ _ _ 21 _ [_] _ _
  refine xi_istore_n (ls' := [_, _, _, _]) D_Mo_goodOf_21 rfl (by decide) ?_
  refine xj_iconst (v := 0) D_Mo_goodOf_22 rfl ?_
  refine xi_istore_n (ls' := [_, _, _, _]) D_Mo_goodOf_23 rfl (by decide) ?_
  exact w_Mo_goodOf_h24 (by omega)  _ _ _ _ _ h
noncomputable def f_Mo_bestPains_b39 (R4 : Int32 → Int32 → Sg → Option (Int32 × Sg)) (x1 : Int32) (x2 : Int32) (s : Sg) : Option (Int32 × Sg) :=
  R4 x1 (x2 + 1) s
theorem w_Mo_bestPains_b39 {x1 : Int32} {x2 : Int32} {s : Sg} {d : Nat} {Q : Option (Option Value) → Sg → Prop} (hd : 4 ≤ d) {R4 : Int32 → Int32 → Sg → Option (Int32 × Sg)} (hR4 : ∀ (x1 : Int32) (x2 : Int32) (s : Sg), okx (zq_I Q) (R4 x1 x2 s) → Xw d M_Mo_bestPains 0 0 4 [.ref 46, .int x1, .int x2] [] s Q) (h : okx (zq_I Q) (f_Mo_bestPains_b39 R4 x1 x2 s)) : Xw d M_Mo_bestPains 0 0 39 [.ref 46, .int x1, .int x2] [] s Q := by
  unfold f_Mo_bestPains_b39 at h
  refine xi_iinc (v := _ + 1) (ls' := [_, _, _]) D_Mo_bestPains_39 rfl rfl rfl (by decide) ?_
  refine xi_goto D_Mo_bestPains_42 ?_
  exact hR4 _ _ _ h
noncomputable def f_Mo_bestPains_b4 (R4 : Int32 → Int32 → Sg → Option (Int32 × Sg)) (x1 : Int32) (x2 : Int32) (s : Sg) : Option (Int32 × Sg) :=
  f_ck (zl_B s) <|
  if ((1 : Int32) <<< ((2 * (mI s 46 10)) &&& 31)) ≤ x2 then
    some (x1, s)
  else
    f_bd (f_Mo_isPains x2 s) fun r3 s4 =>
    if r3 = 0 then
      f_Mo_bestPains_b39 R4 x1 x2 s4
    else
      f_ck (zl_B s4) <|
      f_bd (f_Mo_goodOf x2 s4) fun r7 s8 =>
      f_ck (zl_B s8) <|
      f_bd (f_Mo_goodOf x1 s8) fun r10 s11 =>
      if r7 ≤ r10 then
        f_Mo_bestPains_b39 R4 x1 x2 s11
      else
        f_Mo_bestPains_b39 R4 x2 x2 s11
theorem w_Mo_bestPains_b4 {x1 : Int32} {x2 : Int32} {s : Sg} {d : Nat} {Q : Option (Option Value) → Sg → Prop} (hd : 4 ≤ d) {R4 : Int32 → Int32 → Sg → Option (Int32 × Sg)} (hR4 : ∀ (x1 : Int32) (x2 : Int32) (s : Sg), okx (zq_I Q) (R4 x1 x2 s) → Xw d M_Mo_bestPains 0 0 4 [.ref 46, .int x1, .int x2] [] s Q) (h : okx (zq_I Q) (f_Mo_bestPains_b4 R4 x1 x2 s)) : Xw d M_Mo_bestPains 0 0 4 [.ref 46, .int x1, .int x2] [] s Q := by
  unfold f_Mo_bestPains_b4 at h
  refine xi_iload_n D_Mo_bestPains_4 rfl ?_
  refine xj_iconst (v := 1) D_Mo_bestPains_5 rfl ?_
  refine xj_iconst (v := 2) D_Mo_bestPains_6 rfl ?_
  refine xi_aload_n D_Mo_bestPains_7 rfl ?_
  obtain ⟨g1, h⟩ := okx_ck h
  refine xi_getI D_Mo_bestPains_8 F_Mo_234 (zl_fo (g1).1 rfl) ⟨rfl, by decide⟩ ?_
  refine xi_imul D_Mo_bestPains_11 ?_
  refine xi_ishl D_Mo_bestPains_12 ?_
  refine xi_icmp_ge D_Mo_bestPains_13 (fun c2 => ?_) (fun c2 => ?_)
  · have h := okx_T c2 h
    refine xi_iload_n D_Mo_bestPains_45 rfl ?_
    exact xi_ireturn D_Mo_bestPains_46 rfl (rfl) (okx_I h)
  · have h := okx_F c2 h
    refine xi_aload_n D_Mo_bestPains_16 rfl ?_
    refine xi_iload_n D_Mo_bestPains_17 rfl ?_
    refine xj_V1 D_Mo_bestPains_18 L_Mo_296 C_Mo_isPains Z_Mo_isPains (zl_fo (g1).1 rfl) (Nat.le_of_ble_eq_true rfl) (Nat.le_of_eq (Nat.sub_add_cancel (by omega))) (w_Mo_isPains (by omega) (okx_mono (okx_bd h) ?_))
    intro r3 s4 h
    show Xw _ _ _ _ 21 _ [_] _ _
    refine xi_if_eq D_Mo_bestPains_21 (fun c5 => ?_) (fun c5 => ?_)
    · have h := okx_T c5 h
      exact w_Mo_bestPains_b39 (by omega) hR4 h
    · have h := okx_F c5 h
      refine xi_aload_n D_Mo_bestPains_24 rfl ?_
      refine xi_iload_n D_Mo_bestPains_25 rfl ?_
      obtain ⟨g6, h⟩ := okx_ck h
      refine xj_V1 D_Mo_bestPains_26 L_Mo_387 C_Mo_goodOf Z_Mo_goodOf (zl_fo (g6).1 rfl) (Nat.le_of_ble_eq_true rfl) (Nat.le_of_eq (Nat.sub_add_cancel (by omega))) (w_Mo_goodOf (by omega) (okx_mono (okx_bd h) ?_))
      intro r7 s8 h
      show Xw _ _ _ _ 29 _ [_] _ _
      refine xi_aload_n D_Mo_bestPains_29 rfl ?_
      refine xi_iload_n D_Mo_bestPains_30 rfl ?_
      obtain ⟨g9, h⟩ := okx_ck h
      refine xj_V1 D_Mo_bestPains_31 L_Mo_387 C_Mo_goodOf Z_Mo_goodOf (zl_fo (g9).1 rfl) (Nat.le_of_ble_eq_true rfl) (Nat.le_of_eq (Nat.sub_add_cancel (by omega))) (w_Mo_goodOf (by omega) (okx_mono (okx_bd h) ?_))
      intro r10 s11 h
      show Xw _ _ _ _ 34 _ [_, _] _ _
      refine xi_icmp_le D_Mo_bestPains_34 (fun c12 => ?_) (fun c12 => ?_)
      · have h := okx_T c12 h
        exact w_Mo_bestPains_b39 (by omega) hR4 h
      · have h := okx_F c12 h
        refine xi_iload_n D_Mo_bestPains_37 rfl ?_
        refine xi_istore_n (ls' := [_, _, _]) D_Mo_bestPains_38 rfl (by decide) ?_
        exact w_Mo_bestPains_b39 (by omega) hR4 h
noncomputable def f_Mo_bestPains_h4 : Nat → Int32 → Int32 → Sg → Option (Int32 × Sg)
  | 0, _, _, _ => none
  | n + 1, x1, x2, s => f_Mo_bestPains_b4 (f_Mo_bestPains_h4 n) x1 x2 s
theorem w_Mo_bestPains_h4 {d : Nat} {Q : Option (Option Value) → Sg → Prop} (hd : 4 ≤ d) : ∀ (n : Nat) (x1 : Int32) (x2 : Int32) (s : Sg), okx (zq_I Q) (f_Mo_bestPains_h4 n x1 x2 s) → Xw d M_Mo_bestPains 0 0 4 [.ref 46, .int x1, .int x2] [] s Q := by
  intro n
  induction n with
  | zero => intro x1 x2 s h; exact okx_no h
  | succ n ih => intro x1 x2 s h; exact w_Mo_bestPains_b4 hd  ih  h
noncomputable def f_Mo_bestPains  (s : Sg) : Option (Int32 × Sg) :=
  f_Mo_bestPains_h4  zl_fl 0 1 s
theorem w_Mo_bestPains {s : Sg} {d : Nat} {Q : Option (Option Value) → Sg → Prop} (hd : 4 ≤ d) (h : okx (zq_I Q) (f_Mo_bestPains  s)) : Cw d M_Mo_bestPains [.ref 46] s Q := by
  refine Cw.of (by decide +kernel) (Nat.le_of_ble_eq_true rfl) ?_
  show Xw d M_Mo_bestPains 0 0 0 [.ref 46, .retAddr 0, .retAddr 0] [] s _
  unfold f_Mo_bestPains at h
  refine xj_iconst (v := 0) D_Mo_bestPains_0 rfl ?_
  refine xi_istore_n (ls' := [_, _, _]) D_Mo_bestPains_1 rfl (by decide) ?_
  refine xj_iconst (v := 1) D_Mo_bestPains_2 rfl ?_
  refine xi_istore_n (ls' := [_, _, _]) D_Mo_bestPains_3 rfl (by decide) ?_
  exact w_Mo_bestPains_h4 (by omega)  _ _ _ _ h
noncomputable def f_Mo_best_b22 (x1 : Int32) (y1 : Int32) (s : Sg) : Option (Int32 × Sg) :=
  f_ck (zl_B s) <|
  let s7 : Sg := uI s 46 0 y1
  let s8 : Sg := uI s7 46 39 10
  if (mI s8 46 0) = 1 then
    some (0, s8)
  else
    if x1 = 0 then
      f_bd (f_Mo_bestPains  s8) fun r11 s12 =>
      some (r11, s12)
    else
      f_bd (f_Mo_bestPains  s8) fun r13 s14 =>
      f_ck (zl_B s14) <|
      f_bd (f_Mo_goodOf r13 s14) fun r16 s17 =>
      some (r16, s17)
theorem w_Mo_best_b22 {x1 : Int32} {y1 : Int32} {s : Sg} {d : Nat} {Q : Option (Option Value) → Sg → Prop} (hd : 5 ≤ d) (h : okx (zq_I Q) (f_Mo_best_b22 x1 y1 s)) : Xw d M_Mo_best 0 0 22 [.ref 46, .int x1] [.int y1, .ref 46] s Q := by
  unfold f_Mo_best_b22 at h
  obtain ⟨g6, h⟩ := okx_ck h
  refine xi_putI D_Mo_best_22 F_Mo_114 (zl_fo (g6).1 rfl) ⟨rfl, by decide, rfl⟩ (⟨rfl, rfl⟩) ?_
  refine xi_aload_n D_Mo_best_25 rfl ?_
  refine xi_bipush (v := 10) D_Mo_best_26 rfl ?_
  refine xi_putI D_Mo_best_28 F_Mo_272 (zl_fo (g6).1 rfl) ⟨rfl, by decide, rfl⟩ (⟨rfl, rfl⟩) ?_
  refine xi_aload_n D_Mo_best_31 rfl ?_
  refine xi_getI D_Mo_best_32 F_Mo_114 (zl_fo (g6).1 rfl) ⟨rfl, by decide⟩ ?_
  refine xj_iconst (v := 1) D_Mo_best_35 rfl ?_
  refine xi_icmp_ne D_Mo_best_36 (fun c9 => ?_) (fun c9 => ?_)
  · have h := okx_F c9 h
    refine xi_iload_n D_Mo_best_43 rfl ?_
    refine xi_if_ne D_Mo_best_44 (fun c10 => ?_) (fun c10 => ?_)
    · have h := okx_F c10 h
      refine xi_aload_n D_Mo_best_54 rfl ?_
      refine xi_aload_n D_Mo_best_55 rfl ?_
      refine xj_V0 D_Mo_best_56 L_Mo_390 C_Mo_bestPains Z_Mo_bestPains (zl_fo (g6).1 rfl) (Nat.le_of_ble_eq_true rfl) (Nat.le_of_eq (Nat.sub_add_cancel (by omega))) (w_Mo_bestPains (by omega) (okx_mono (okx_bd h) ?_))
      intro r13 s14 h
      show Xw _ _ _ _ 59 _ [_, _] _ _
      obtain ⟨g15, h⟩ := okx_ck h
      refine xj_V1 D_Mo_best_59 L_Mo_387 C_Mo_goodOf Z_Mo_goodOf (zl_fo (g15).1 rfl) (Nat.le_of_ble_eq_true rfl) (Nat.le_of_eq (Nat.sub_add_cancel (by omega))) (w_Mo_goodOf (by omega) (okx_mono (okx_bd h) ?_))
      intro r16 s17 h
      show Xw _ _ _ _ 62 _ [_] _ _
      exact xi_ireturn D_Mo_best_62 rfl (rfl) (okx_I h)
    · have h := okx_T c10 h
      refine xi_aload_n D_Mo_best_47 rfl ?_
      refine xj_V0 D_Mo_best_48 L_Mo_390 C_Mo_bestPains Z_Mo_bestPains (zl_fo (g6).1 rfl) (Nat.le_of_ble_eq_true rfl) (Nat.le_of_eq (Nat.sub_add_cancel (by omega))) (w_Mo_bestPains (by omega) (okx_mono (okx_bd h) ?_))
      intro r11 s12 h
      show Xw _ _ _ _ 51 _ [_] _ _
      refine xi_goto D_Mo_best_51 ?_
      exact xi_ireturn D_Mo_best_62 rfl (rfl) (okx_I h)
  · have h := okx_T c9 h
    refine xj_iconst (v := 0) D_Mo_best_39 rfl ?_
    refine xi_goto D_Mo_best_40 ?_
    exact xi_ireturn D_Mo_best_62 rfl (rfl) (okx_I h)
noncomputable def f_Mo_best_b21 (x1 : Int32) (s : Sg) : Option (Int32 × Sg) :=
  f_Mo_best_b22  x1 1 s
theorem w_Mo_best_b21 {x1 : Int32} {s : Sg} {d : Nat} {Q : Option (Option Value) → Sg → Prop} (hd : 5 ≤ d) (h : okx (zq_I Q) (f_Mo_best_b21 x1 s)) : Xw d M_Mo_best 0 0 21 [.ref 46, .int x1] [.ref 46] s Q := by
  unfold f_Mo_best_b21 at h
  refine xj_iconst (v := 1) D_Mo_best_21 rfl ?_
  exact w_Mo_best_b22 (by omega)  h
noncomputable def f_Mo_best (x1 : Int32) (s : Sg) : Option (Int32 × Sg) :=
  f_ck (zl_B s) <|
  if (mI s 46 10) ≤ 0 then
    f_Mo_best_b21  x1 s
  else
    f_bd (f_Mo_within x1 0 1 s) fun r3 s4 =>
    if r3 = 0 then
      f_Mo_best_b21  x1 s4
    else
      f_Mo_best_b22  x1 0 s4
theorem w_Mo_best {x1 : Int32} {s : Sg} {d : Nat} {Q : Option (Option Value) → Sg → Prop} (hd : 5 ≤ d) (h : okx (zq_I Q) (f_Mo_best x1 s)) : Cw d M_Mo_best [.ref 46, .int x1] s Q := by
  refine Cw.of (by decide +kernel) (Nat.le_of_ble_eq_true rfl) ?_
  show Xw d M_Mo_best 0 0 0 [.ref 46, .int x1] [] s _
  unfold f_Mo_best at h
  refine xi_aload_n D_Mo_best_0 rfl ?_
  refine xi_aload_n D_Mo_best_1 rfl ?_
  obtain ⟨g1, h⟩ := okx_ck h
  refine xi_getI D_Mo_best_2 F_Mo_234 (zl_fo (g1).1 rfl) ⟨rfl, by decide⟩ ?_
  refine xi_if_le D_Mo_best_5 (fun c2 => ?_) (fun c2 => ?_)
  · have h := okx_T c2 h
    exact w_Mo_best_b21 (by omega)  h
  · have h := okx_F c2 h
    refine xi_iload_n D_Mo_best_8 rfl ?_
    refine xj_iconst (v := 0) D_Mo_best_9 rfl ?_
    refine xj_iconst (v := 1) D_Mo_best_10 rfl ?_
    refine xj_S3 D_Mo_best_11 L_Mo_268 C_Mo_within Z_Mo_within (Nat.le_of_ble_eq_true rfl) (Nat.le_of_eq (Nat.sub_add_cancel (by omega))) (w_Mo_within (by omega) (okx_mono (okx_bd h) ?_))
    intro r3 s4 h
    show Xw _ _ _ _ 14 _ [_, _] _ _
    refine xi_if_eq D_Mo_best_14 (fun c5 => ?_) (fun c5 => ?_)
    · have h := okx_T c5 h
      exact w_Mo_best_b21 (by omega)  h
    · have h := okx_F c5 h
      refine xj_iconst (v := 0) D_Mo_best_17 rfl ?_
      refine xi_goto D_Mo_best_18 ?_
      exact w_Mo_best_b22 (by omega)  h
noncomputable def f_Mo_chance (x1 : Int32) (s : Sg) : Option (Int32 × Sg) :=
  f_ck (zl_B s) <|
  let s2 : Sg := uI s 46 0 0
  f_bd (f_Mo_within x1 0 10 s2) fun r3 s4 =>
  if r3 = 0 then
    some (0, s4)
  else
    f_ck (zl_B s4) <|
    let s7 : Sg := uI s4 46 45 x1
    some (1, s7)
theorem w_Mo_chance {x1 : Int32} {s : Sg} {d : Nat} {Q : Option (Option Value) → Sg → Prop} (hd : 2 ≤ d) (h : okx (zq_I Q) (f_Mo_chance x1 s)) : Cw d M_Mo_chance [.ref 46, .int x1] s Q := by
  refine Cw.of (by decide +kernel) (Nat.le_of_ble_eq_true rfl) ?_
  show Xw d M_Mo_chance 0 0 0 [.ref 46, .int x1] [] s _
  unfold f_Mo_chance at h
  refine xi_aload_n D_Mo_chance_0 rfl ?_
  refine xj_iconst (v := 0) D_Mo_chance_1 rfl ?_
  obtain ⟨g1, h⟩ := okx_ck h
  refine xi_putI D_Mo_chance_2 F_Mo_114 (zl_fo (g1).1 rfl) ⟨rfl, by decide, rfl⟩ (⟨rfl, rfl⟩) ?_
  refine xi_iload_n D_Mo_chance_5 rfl ?_
  refine xj_iconst (v := 0) D_Mo_chance_6 rfl ?_
  refine xi_bipush (v := 10) D_Mo_chance_7 rfl ?_
  refine xj_S3 D_Mo_chance_9 L_Mo_268 C_Mo_within Z_Mo_within (Nat.le_of_ble_eq_true rfl) (Nat.le_of_eq (Nat.sub_add_cancel (by omega))) (w_Mo_within (by omega) (okx_mono (okx_bd h) ?_))
  intro r3 s4 h
  show Xw _ _ _ _ 12 _ [_] _ _
  refine xi_if_ne D_Mo_chance_12 (fun c5 => ?_) (fun c5 => ?_)
  · have h := okx_F c5 h
    refine xi_aload_n D_Mo_chance_17 rfl ?_
    refine xi_iload_n D_Mo_chance_18 rfl ?_
    obtain ⟨g6, h⟩ := okx_ck h
    refine xi_putI D_Mo_chance_19 F_Mo_253 (zl_fo (g6).1 rfl) ⟨rfl, by decide, rfl⟩ (⟨rfl, rfl⟩) ?_
    refine xj_iconst (v := 1) D_Mo_chance_22 rfl ?_
    exact xi_ireturn D_Mo_chance_23 rfl (rfl) (okx_I h)
  · have h := okx_T c5 h
    refine xj_iconst (v := 0) D_Mo_chance_15 rfl ?_
    exact xi_ireturn D_Mo_chance_16 rfl (rfl) (okx_I h)
noncomputable def f_Mo_cost (x1 : Int32) (x2 : Int32) (s : Sg) : Option (Int32 × Sg) :=
  f_ck (zl_B s) <|
  let s2 : Sg := uI s 46 0 0
  f_bd (f_Mo_isPerson x1 s2) fun r3 s4 =>
  if r3 = 0 then
    some ((-1), s4)
  else
    f_ck (zl_B s4) <|
    f_ck (vp_in x1 8) <|
    f_bd (f_Mo_within x2 0 (mI s4 49 (Int32.toNatClampNeg x1)) s4) fun r8 s9 =>
    if r8 = 0 then
      some ((-1), s9)
    else
      f_ck (zl_B s9) <|
      f_ck (vp_in ((4 * x1) + x2) 32) <|
      some ((mI s9 50 (Int32.toNatClampNeg ((4 * x1) + x2))), s9)
theorem w_Mo_cost {x1 : Int32} {x2 : Int32} {s : Sg} {d : Nat} {Q : Option (Option Value) → Sg → Prop} (hd : 2 ≤ d) (h : okx (zq_I Q) (f_Mo_cost x1 x2 s)) : Cw d M_Mo_cost [.ref 46, .int x1, .int x2] s Q := by
  refine Cw.of (by decide +kernel) (Nat.le_of_ble_eq_true rfl) ?_
  show Xw d M_Mo_cost 0 0 0 [.ref 46, .int x1, .int x2] [] s _
  unfold f_Mo_cost at h
  refine xi_aload_n D_Mo_cost_0 rfl ?_
  refine xj_iconst (v := 0) D_Mo_cost_1 rfl ?_
  obtain ⟨g1, h⟩ := okx_ck h
  refine xi_putI D_Mo_cost_2 F_Mo_114 (zl_fo (g1).1 rfl) ⟨rfl, by decide, rfl⟩ (⟨rfl, rfl⟩) ?_
  refine xi_aload_n D_Mo_cost_5 rfl ?_
  refine xi_iload_n D_Mo_cost_6 rfl ?_
  refine xj_V1 D_Mo_cost_7 L_Mo_265 C_Mo_isPerson Z_Mo_isPerson (zl_fo (g1).1 rfl) (Nat.le_of_ble_eq_true rfl) (Nat.le_of_eq (Nat.sub_add_cancel (by omega))) (w_Mo_isPerson (by omega) (okx_mono (okx_bd h) ?_))
  intro r3 s4 h
  show Xw _ _ _ _ 10 _ [_] _ _
  refine xi_if_eq D_Mo_cost_10 (fun c5 => ?_) (fun c5 => ?_)
  · have h := okx_T c5 h
    refine xj_iconst (v := (-1)) D_Mo_cost_40 rfl ?_
    exact xi_ireturn D_Mo_cost_41 rfl (rfl) (okx_I h)
  · have h := okx_F c5 h
    refine xi_iload_n D_Mo_cost_13 rfl ?_
    refine xj_iconst (v := 0) D_Mo_cost_14 rfl ?_
    refine xi_aload_n D_Mo_cost_15 rfl ?_
    obtain ⟨g6, h⟩ := okx_ck h
    refine xi_getR D_Mo_cost_16 F_Mo_17 (zl_fo (g6).1 rfl) ⟨rfl, by decide⟩ (zl_gr (g6).2 rfl rfl) ?_
    refine xi_iload_n D_Mo_cost_19 rfl ?_
    obtain ⟨g7, h⟩ := okx_ck h
    refine xj_iald D_Mo_cost_20 (zl_fx (g6).1 rfl) (zl_ib (n := 8) rfl (g7)) ?_
    refine xj_S3 D_Mo_cost_21 L_Mo_268 C_Mo_within Z_Mo_within (Nat.le_of_ble_eq_true rfl) (Nat.le_of_eq (Nat.sub_add_cancel (by omega))) (w_Mo_within (by omega) (okx_mono (okx_bd h) ?_))
    intro r8 s9 h
    show Xw _ _ _ _ 24 _ [_] _ _
    refine xi_if_eq D_Mo_cost_24 (fun c10 => ?_) (fun c10 => ?_)
    · have h := okx_T c10 h
      refine xj_iconst (v := (-1)) D_Mo_cost_40 rfl ?_
      exact xi_ireturn D_Mo_cost_41 rfl (rfl) (okx_I h)
    · have h := okx_F c10 h
      refine xi_aload_n D_Mo_cost_27 rfl ?_
      obtain ⟨g11, h⟩ := okx_ck h
      refine xi_getR D_Mo_cost_28 F_Mo_20 (zl_fo (g11).1 rfl) ⟨rfl, by decide⟩ (zl_gr (g11).2 rfl rfl) ?_
      refine xj_iconst (v := 4) D_Mo_cost_31 rfl ?_
      refine xi_iload_n D_Mo_cost_32 rfl ?_
      refine xi_imul D_Mo_cost_33 ?_
      refine xi_iload_n D_Mo_cost_34 rfl ?_
      refine xi_iadd D_Mo_cost_35 ?_
      obtain ⟨g12, h⟩ := okx_ck h
      refine xj_iald D_Mo_cost_36 (zl_fx (g11).1 rfl) (zl_ib (n := 32) rfl (g12)) ?_
      refine xi_goto D_Mo_cost_37 ?_
      exact xi_ireturn D_Mo_cost_41 rfl (rfl) (okx_I h)
noncomputable def f_Mo_owningsOf_b27 (x1 : Int32) (s : Sg) : Option (Int32 × Sg) :=
  f_ck (zl_B s) <|
  if (mI s 46 10) = 0 then
    some (0, s)
  else
    some (x1, s)
theorem w_Mo_owningsOf_b27 {x1 : Int32} {s : Sg} {d : Nat} {Q : Option (Option Value) → Sg → Prop} (hd : 1 ≤ d) (h : okx (zq_I Q) (f_Mo_owningsOf_b27 x1 s)) : Xw d M_Mo_owningsOf 0 0 27 [.ref 46, .int x1, .retAddr 0] [] s Q := by
  unfold f_Mo_owningsOf_b27 at h
  refine xi_aload_n D_Mo_owningsOf_27 rfl ?_
  obtain ⟨g3, h⟩ := okx_ck h
  refine xi_getI D_Mo_owningsOf_28 F_Mo_234 (zl_fo (g3).1 rfl) ⟨rfl, by decide⟩ ?_
  refine xi_if_ne D_Mo_owningsOf_31 (fun c4 => ?_) (fun c4 => ?_)
  · have h := okx_F c4 h
    refine xi_iload_n D_Mo_owningsOf_38 rfl ?_
    exact xi_ireturn D_Mo_owningsOf_39 rfl (rfl) (okx_I h)
  · have h := okx_T c4 h
    refine xj_iconst (v := 0) D_Mo_owningsOf_34 rfl ?_
    refine xi_goto D_Mo_owningsOf_35 ?_
    exact xi_ireturn D_Mo_owningsOf_39 rfl (rfl) (okx_I h)
noncomputable def f_Mo_owningsOf_b4 (R4 : Int32 → Int32 → Sg → Option (Int32 × Sg)) (x1 : Int32) (x2 : Int32) (s : Sg) : Option (Int32 × Sg) :=
  f_ck (zl_B s) <|
  if (mI s 46 11) ≤ x2 then
    f_Mo_owningsOf_b27  x1 s
  else
    R4 (x1 * ((mI s 46 10) + 2)) (x2 + 1) s
theorem w_Mo_owningsOf_b4 {x1 : Int32} {x2 : Int32} {s : Sg} {d : Nat} {Q : Option (Option Value) → Sg → Prop} (hd : 1 ≤ d) {R4 : Int32 → Int32 → Sg → Option (Int32 × Sg)} (hR4 : ∀ (x1 : Int32) (x2 : Int32) (s : Sg), okx (zq_I Q) (R4 x1 x2 s) → Xw d M_Mo_owningsOf 0 0 4 [.ref 46, .int x1, .int x2] [] s Q) (h : okx (zq_I Q) (f_Mo_owningsOf_b4 R4 x1 x2 s)) : Xw d M_Mo_owningsOf 0 0 4 [.ref 46, .int x1, .int x2] [] s Q := by
  unfold f_Mo_owningsOf_b4 at h
  refine xi_iload_n D_Mo_owningsOf_4 rfl ?_
  refine xi_aload_n D_Mo_owningsOf_5 rfl ?_
  obtain ⟨g1, h⟩ := okx_ck h
  refine xi_getI D_Mo_owningsOf_6 F_Mo_259 (zl_fo (g1).1 rfl) ⟨rfl, by decide⟩ ?_
  refine xi_icmp_ge D_Mo_owningsOf_9 (fun c2 => ?_) (fun c2 => ?_)
  · have h := okx_T c2 h
    exact xk_wk (w_Mo_owningsOf_b27 (by omega)  h) ⟨Or.inl rfl, Or.inl rfl, Or.inr rfl, trivial⟩
  · have h := okx_F c2 h
    refine xi_iload_n D_Mo_owningsOf_12 rfl ?_
    refine xi_aload_n D_Mo_owningsOf_13 rfl ?_
    refine xi_getI D_Mo_owningsOf_14 F_Mo_234 (zl_fo (g1).1 rfl) ⟨rfl, by decide⟩ ?_
    refine xj_iconst (v := 2) D_Mo_owningsOf_17 rfl ?_
    refine xi_iadd D_Mo_owningsOf_18 ?_
    refine xi_imul D_Mo_owningsOf_19 ?_
    refine xi_istore_n (ls' := [_, _, _]) D_Mo_owningsOf_20 rfl (by decide) ?_
    refine xi_iinc (v := _ + 1) (ls' := [_, _, _]) D_Mo_owningsOf_21 rfl rfl rfl (by decide) ?_
    refine xi_goto D_Mo_owningsOf_24 ?_
    exact hR4 _ _ _ h
noncomputable def f_Mo_owningsOf_h4 : Nat → Int32 → Int32 → Sg → Option (Int32 × Sg)
  | 0, _, _, _ => none
  | n + 1, x1, x2, s => f_Mo_owningsOf_b4 (f_Mo_owningsOf_h4 n) x1 x2 s
theorem w_Mo_owningsOf_h4 {d : Nat} {Q : Option (Option Value) → Sg → Prop} (hd : 1 ≤ d) : ∀ (n : Nat) (x1 : Int32) (x2 : Int32) (s : Sg), okx (zq_I Q) (f_Mo_owningsOf_h4 n x1 x2 s) → Xw d M_Mo_owningsOf 0 0 4 [.ref 46, .int x1, .int x2] [] s Q := by
  intro n
  induction n with
  | zero => intro x1 x2 s h; exact okx_no h
  | succ n ih => intro x1 x2 s h; exact w_Mo_owningsOf_b4 hd  ih  h
noncomputable def f_Mo_owningsOf  (s : Sg) : Option (Int32 × Sg) :=
  f_Mo_owningsOf_h4  zl_fl 1 0 s
theorem w_Mo_owningsOf {s : Sg} {d : Nat} {Q : Option (Option Value) → Sg → Prop} (hd : 1 ≤ d) (h : okx (zq_I Q) (f_Mo_owningsOf  s)) : Cw d M_Mo_owningsOf [.ref 46] s Q := by
  refine Cw.of (by decide +kernel) (Nat.le_of_ble_eq_true rfl) ?_
  show Xw d M_Mo_owningsOf 0 0 0 [.ref 46, .retAddr 0, .retAddr 0] [] s _
  unfold f_Mo_owningsOf at h
  refine xj_iconst (v := 1) D_Mo_owningsOf_0 rfl ?_
  refine xi_istore_n (ls' := [_, _, _]) D_Mo_owningsOf_1 rfl (by decide) ?_
  refine xj_iconst (v := 0) D_Mo_owningsOf_2 rfl ?_
  refine xi_istore_n (ls' := [_, _, _]) D_Mo_owningsOf_3 rfl (by decide) ?_
  exact w_Mo_owningsOf_h4 (by omega)  _ _ _ _ h
noncomputable def f_Mo_count_b58 (R20 : Int32 → Int32 → Int32 → Sg → Option (Int32 × Sg)) (x1 : Int32) (x3 : Int32) (y0 : Int32) (y1 : Int32) (s : Sg) : Option (Int32 × Sg) :=
  R20 x1 (y0 + y1) (x3 + 1) s
theorem w_Mo_count_b58 {x1 : Int32} {x3 : Int32} {y0 : Int32} {y1 : Int32} {s : Sg} {d : Nat} {Q : Option (Option Value) → Sg → Prop} (hd : 3 ≤ d) {R20 : Int32 → Int32 → Int32 → Sg → Option (Int32 × Sg)} (hR20 : ∀ (x1 : Int32) (x2 : Int32) (x3 : Int32) (s : Sg), okx (zq_I Q) (R20 x1 x2 x3 s) → Xw d M_Mo_count 0 0 20 [.ref 46, .int x1, .int x2, .int x3] [] s Q) (h : okx (zq_I Q) (f_Mo_count_b58 R20 x1 x3 y0 y1 s)) : Xw d M_Mo_count 0 0 58 [.ref 46, .int x1, .retAddr 0, .int x3] [.int y1, .int y0] s Q := by
  unfold f_Mo_count_b58 at h
  refine xi_iadd D_Mo_count_58 ?_
  refine xi_istore_n (ls' := [_, _, _, _]) D_Mo_count_59 rfl (by decide) ?_
  refine xi_iinc (v := _ + 1) (ls' := [_, _, _, _]) D_Mo_count_60 rfl rfl rfl (by decide) ?_
  refine xi_goto D_Mo_count_63 ?_
  exact hR20 _ _ _ _ h
noncomputable def f_Mo_count_b66 (x1 : Int32) (x2 : Int32) (s : Sg) : Option (Int32 × Sg) :=
  if x1 = 0 then
    f_ck (zl_B s) <|
    some ((mI s 46 10), s)
  else
    if x1 = 1 then
      f_ck (zl_B s) <|
      some ((mI s 46 11), s)
    else
      if x1 = 2 then
        f_ck (zl_B s) <|
        some ((mI s 46 12), s)
      else
        if x1 = 3 then
          f_ck (zl_B s) <|
          f_bd (f_Mo_owningsOf  s) fun r21 s22 =>
          some (r21, s22)
        else
          if x1 = 4 then
            some (x2, s)
          else
            f_ck (zl_B s) <|
            some ((mI s 46 1), s)
theorem w_Mo_count_b66 {x1 : Int32} {x2 : Int32} {s : Sg} {d : Nat} {Q : Option (Option Value) → Sg → Prop} (hd : 3 ≤ d) (h : okx (zq_I Q) (f_Mo_count_b66 x1 x2 s)) : Xw d M_Mo_count 0 0 66 [.ref 46, .int x1, .int x2, .retAddr 0] [] s Q := by
  unfold f_Mo_count_b66 at h
  refine xi_iload_n D_Mo_count_66 rfl ?_
  refine xi_if_ne D_Mo_count_67 (fun c13 => ?_) (fun c13 => ?_)
  · have h := okx_F c13 h
    refine xi_iload_n D_Mo_count_77 rfl ?_
    refine xj_iconst (v := 1) D_Mo_count_78 rfl ?_
    refine xi_icmp_ne D_Mo_count_79 (fun c15 => ?_) (fun c15 => ?_)
    · have h := okx_F c15 h
      refine xi_iload_n D_Mo_count_89 rfl ?_
      refine xj_iconst (v := 2) D_Mo_count_90 rfl ?_
      refine xi_icmp_ne D_Mo_count_91 (fun c17 => ?_) (fun c17 => ?_)
      · have h := okx_F c17 h
        refine xi_iload_n D_Mo_count_101 rfl ?_
        refine xj_iconst (v := 3) D_Mo_count_102 rfl ?_
        refine xi_icmp_ne D_Mo_count_103 (fun c19 => ?_) (fun c19 => ?_)
        · have h := okx_F c19 h
          refine xi_iload_n D_Mo_count_113 rfl ?_
          refine xj_iconst (v := 4) D_Mo_count_114 rfl ?_
          refine xi_icmp_ne D_Mo_count_115 (fun c23 => ?_) (fun c23 => ?_)
          · have h := okx_F c23 h
            refine xi_aload_n D_Mo_count_122 rfl ?_
            obtain ⟨g24, h⟩ := okx_ck h
            refine xi_getI D_Mo_count_123 F_Mo_120 (zl_fo (g24).1 rfl) ⟨rfl, by decide⟩ ?_
            exact xi_ireturn D_Mo_count_126 rfl (rfl) (okx_I h)
          · have h := okx_T c23 h
            refine xi_iload_n D_Mo_count_118 rfl ?_
            refine xi_goto D_Mo_count_119 ?_
            exact xi_ireturn D_Mo_count_126 rfl (rfl) (okx_I h)
        · have h := okx_T c19 h
          refine xi_aload_n D_Mo_count_106 rfl ?_
          obtain ⟨g20, h⟩ := okx_ck h
          refine xj_V0 D_Mo_count_107 L_Mo_406 C_Mo_owningsOf Z_Mo_owningsOf (zl_fo (g20).1 rfl) (Nat.le_of_ble_eq_true rfl) (Nat.le_of_eq (Nat.sub_add_cancel (by omega))) (w_Mo_owningsOf (by omega) (okx_mono (okx_bd h) ?_))
          intro r21 s22 h
          show Xw _ _ _ _ 110 _ [_] _ _
          refine xi_goto D_Mo_count_110 ?_
          exact xi_ireturn D_Mo_count_126 rfl (rfl) (okx_I h)
      · have h := okx_T c17 h
        refine xi_aload_n D_Mo_count_94 rfl ?_
        obtain ⟨g18, h⟩ := okx_ck h
        refine xi_getI D_Mo_count_95 F_Mo_241 (zl_fo (g18).1 rfl) ⟨rfl, by decide⟩ ?_
        refine xi_goto D_Mo_count_98 ?_
        exact xi_ireturn D_Mo_count_126 rfl (rfl) (okx_I h)
    · have h := okx_T c15 h
      refine xi_aload_n D_Mo_count_82 rfl ?_
      obtain ⟨g16, h⟩ := okx_ck h
      refine xi_getI D_Mo_count_83 F_Mo_259 (zl_fo (g16).1 rfl) ⟨rfl, by decide⟩ ?_
      refine xi_goto D_Mo_count_86 ?_
      exact xi_ireturn D_Mo_count_126 rfl (rfl) (okx_I h)
  · have h := okx_T c13 h
    refine xi_aload_n D_Mo_count_70 rfl ?_
    obtain ⟨g14, h⟩ := okx_ck h
    refine xi_getI D_Mo_count_71 F_Mo_234 (zl_fo (g14).1 rfl) ⟨rfl, by decide⟩ ?_
    refine xi_goto D_Mo_count_74 ?_
    exact xi_ireturn D_Mo_count_126 rfl (rfl) (okx_I h)
noncomputable def f_Mo_count_b20 (R20 : Int32 → Int32 → Int32 → Sg → Option (Int32 × Sg)) (x1 : Int32) (x2 : Int32) (x3 : Int32) (s : Sg) : Option (Int32 × Sg) :=
  f_ck (zl_B s) <|
  if ((1 : Int32) <<< ((2 * (mI s 46 10)) &&& 31)) ≤ x3 then
    f_Mo_count_b66  x1 x2 s
  else
    if (mI s 46 10) ≤ 0 then
      f_Mo_count_b66  x1 x2 s
    else
      if x1 = 4 then
        f_bd (f_Mo_isPains x3 s) fun r10 s11 =>
        if r10 = 0 then
          f_Mo_count_b58 R20 x1 x3 x2 0 s11
        else
          f_Mo_count_b58 R20 x1 x3 x2 1 s11
      else
        f_Mo_count_b66  x1 x2 s
theorem w_Mo_count_b20 {x1 : Int32} {x2 : Int32} {x3 : Int32} {s : Sg} {d : Nat} {Q : Option (Option Value) → Sg → Prop} (hd : 3 ≤ d) {R20 : Int32 → Int32 → Int32 → Sg → Option (Int32 × Sg)} (hR20 : ∀ (x1 : Int32) (x2 : Int32) (x3 : Int32) (s : Sg), okx (zq_I Q) (R20 x1 x2 x3 s) → Xw d M_Mo_count 0 0 20 [.ref 46, .int x1, .int x2, .int x3] [] s Q) (h : okx (zq_I Q) (f_Mo_count_b20 R20 x1 x2 x3 s)) : Xw d M_Mo_count 0 0 20 [.ref 46, .int x1, .int x2, .int x3] [] s Q := by
  unfold f_Mo_count_b20 at h
  refine xi_iload_n D_Mo_count_20 rfl ?_
  refine xj_iconst (v := 1) D_Mo_count_21 rfl ?_
  refine xj_iconst (v := 2) D_Mo_count_22 rfl ?_
  refine xi_aload_n D_Mo_count_23 rfl ?_
  obtain ⟨g6, h⟩ := okx_ck h
  refine xi_getI D_Mo_count_24 F_Mo_234 (zl_fo (g6).1 rfl) ⟨rfl, by decide⟩ ?_
  refine xi_imul D_Mo_count_27 ?_
  refine xi_ishl D_Mo_count_28 ?_
  refine xi_icmp_ge D_Mo_count_29 (fun c7 => ?_) (fun c7 => ?_)
  · have h := okx_T c7 h
    exact xk_wk (w_Mo_count_b66 (by omega)  h) ⟨Or.inl rfl, Or.inl rfl, Or.inl rfl, Or.inr rfl, trivial⟩
  · have h := okx_F c7 h
    refine xi_aload_n D_Mo_count_32 rfl ?_
    refine xi_getI D_Mo_count_33 F_Mo_234 (zl_fo (g6).1 rfl) ⟨rfl, by decide⟩ ?_
    refine xi_if_le D_Mo_count_36 (fun c8 => ?_) (fun c8 => ?_)
    · have h := okx_T c8 h
      exact xk_wk (w_Mo_count_b66 (by omega)  h) ⟨Or.inl rfl, Or.inl rfl, Or.inl rfl, Or.inr rfl, trivial⟩
    · have h := okx_F c8 h
      refine xi_iload_n D_Mo_count_39 rfl ?_
      refine xj_iconst (v := 4) D_Mo_count_40 rfl ?_
      refine xi_icmp_ne D_Mo_count_41 (fun c9 => ?_) (fun c9 => ?_)
      · have h := okx_F c9 h
        exact xk_wk (w_Mo_count_b66 (by omega)  h) ⟨Or.inl rfl, Or.inl rfl, Or.inl rfl, Or.inr rfl, trivial⟩
      · have h := okx_T c9 h
        refine xi_iload_n D_Mo_count_44 rfl ?_
        refine xi_aload_n D_Mo_count_45 rfl ?_
        refine xi_iload_n D_Mo_count_46 rfl ?_
        refine xj_V1 D_Mo_count_47 L_Mo_296 C_Mo_isPains Z_Mo_isPains (zl_fo (g6).1 rfl) (Nat.le_of_ble_eq_true rfl) (Nat.le_of_eq (Nat.sub_add_cancel (by omega))) (w_Mo_isPains (by omega) (okx_mono (okx_bd h) ?_))
        intro r10 s11 h
        show Xw _ _ _ _ 50 _ [_, _] _ _
        refine xi_if_eq D_Mo_count_50 (fun c12 => ?_) (fun c12 => ?_)
        · have h := okx_T c12 h
          refine xj_iconst (v := 0) D_Mo_count_57 rfl ?_
          exact xk_wk (w_Mo_count_b58 (by omega) hR20 h) ⟨Or.inl rfl, Or.inl rfl, Or.inr rfl, Or.inl rfl, trivial⟩
        · have h := okx_F c12 h
          refine xj_iconst (v := 1) D_Mo_count_53 rfl ?_
          refine xi_goto D_Mo_count_54 ?_
          exact xk_wk (w_Mo_count_b58 (by omega) hR20 h) ⟨Or.inl rfl, Or.inl rfl, Or.inr rfl, Or.inl rfl, trivial⟩
noncomputable def f_Mo_count_h20 : Nat → Int32 → Int32 → Int32 → Sg → Option (Int32 × Sg)
  | 0, _, _, _, _ => none
  | n + 1, x1, x2, x3, s => f_Mo_count_b20 (f_Mo_count_h20 n) x1 x2 x3 s
theorem w_Mo_count_h20 {d : Nat} {Q : Option (Option Value) → Sg → Prop} (hd : 3 ≤ d) : ∀ (n : Nat) (x1 : Int32) (x2 : Int32) (x3 : Int32) (s : Sg), okx (zq_I Q) (f_Mo_count_h20 n x1 x2 x3 s) → Xw d M_Mo_count 0 0 20 [.ref 46, .int x1, .int x2, .int x3] [] s Q := by
  intro n
  induction n with
  | zero => intro x1 x2 x3 s h; exact okx_no h
  | succ n ih => intro x1 x2 x3 s h; exact w_Mo_count_b20 hd  ih  h
noncomputable def f_Mo_count (x1 : Int32) (s : Sg) : Option (Int32 × Sg) :=
  f_ck (zl_B s) <|
  let s2 : Sg := uI s 46 0 0
  f_bd (f_Mo_within x1 0 5 s2) fun r3 s4 =>
  if r3 = 0 then
    some ((-1), s4)
  else
    f_Mo_count_h20  zl_fl x1 0 0 s4
theorem w_Mo_count {x1 : Int32} {s : Sg} {d : Nat} {Q : Option (Option Value) → Sg → Prop} (hd : 3 ≤ d) (h : okx (zq_I Q) (f_Mo_count x1 s)) : Cw d M_Mo_count [.ref 46, .int x1] s Q := by
  refine Cw.of (by decide +kernel) (Nat.le_of_ble_eq_true rfl) ?_
  show Xw d M_Mo_count 0 0 0 [.ref 46, .int x1, .retAddr 0, .retAddr 0] [] s _
  unfold f_Mo_count at h
  refine xi_aload_n D_Mo_count_0 rfl ?_
  refine xj_iconst (v := 0) D_Mo_count_1 rfl ?_
  obtain ⟨g1, h⟩ := okx_ck h
  refine xi_putI D_Mo_count_2 F_Mo_114 (zl_fo (g1).1 rfl) ⟨rfl, by decide, rfl⟩ (⟨rfl, rfl⟩) ?_
  refine xi_iload_n D_Mo_count_5 rfl ?_
  refine xj_iconst (v := 0) D_Mo_count_6 rfl ?_
  refine xj_iconst (v := 5) D_Mo_count_7 rfl ?_
  refine xj_S3 D_Mo_count_8 L_Mo_268 C_Mo_within Z_Mo_within (Nat.le_of_ble_eq_true rfl) (Nat.le_of_eq (Nat.sub_add_cancel (by omega))) (w_Mo_within (by omega) (okx_mono (okx_bd h) ?_))
  intro r3 s4 h
  show Xw _ _ _ _ 11 _ [_] _ _
  refine xi_if_ne D_Mo_count_11 (fun c5 => ?_) (fun c5 => ?_)
  · have h := okx_F c5 h
    refine xj_iconst (v := 0) D_Mo_count_16 rfl ?_
    refine xi_istore_n (ls' := [_, _, _, _]) D_Mo_count_17 rfl (by decide) ?_
    refine xj_iconst (v := 0) D_Mo_count_18 rfl ?_
    refine xi_istore_n (ls' := [_, _, _, _]) D_Mo_count_19 rfl (by decide) ?_
    exact w_Mo_count_h20 (by omega)  _ _ _ _ _ h
  · have h := okx_T c5 h
    refine xj_iconst (v := (-1)) D_Mo_count_14 rfl ?_
    exact xi_ireturn D_Mo_count_15 rfl (rfl) (okx_I h)
noncomputable def f_Mo_digit_b26 (x3 : Int32) (s : Sg) : Option (Int32 × Sg) :=
  f_ck (zl_B s) <|
  f_ck (¬ ((mI s 46 10) + 2) = 0) <|
  some ((x3 - x3 / ((mI s 46 10) + 2) * ((mI s 46 10) + 2)), s)
theorem w_Mo_digit_b26 {x3 : Int32} {s : Sg} {d : Nat} {Q : Option (Option Value) → Sg → Prop} (hd : 1 ≤ d) (h : okx (zq_I Q) (f_Mo_digit_b26 x3 s)) : Xw d M_Mo_digit 0 0 26 [.ref 46, .retAddr 0, .retAddr 0, .int x3, .retAddr 0] [] s Q := by
  unfold f_Mo_digit_b26 at h
  refine xi_iload_n D_Mo_digit_26 rfl ?_
  refine xi_aload_n D_Mo_digit_27 rfl ?_
  obtain ⟨g4, h⟩ := okx_ck h
  refine xi_getI D_Mo_digit_28 F_Mo_234 (zl_fo (g4).1 rfl) ⟨rfl, by decide⟩ ?_
  refine xj_iconst (v := 2) D_Mo_digit_31 rfl ?_
  refine xi_iadd D_Mo_digit_32 ?_
  obtain ⟨g5, h⟩ := okx_ck h
  refine xi_irem D_Mo_digit_33 g5 ?_
  exact xi_ireturn D_Mo_digit_34 rfl (rfl) (okx_I h)
noncomputable def f_Mo_digit_b5 (R5 : Int32 → Int32 → Int32 → Sg → Option (Int32 × Sg)) (x2 : Int32) (x3 : Int32) (x4 : Int32) (s : Sg) : Option (Int32 × Sg) :=
  if x2 ≤ x4 then
    f_Mo_digit_b26  x3 s
  else
    f_ck (zl_B s) <|
    f_ck (¬ ((mI s 46 10) + 2) = 0) <|
    R5 x2 (x3 / ((mI s 46 10) + 2)) (x4 + 1) s
theorem w_Mo_digit_b5 {x2 : Int32} {x3 : Int32} {x4 : Int32} {s : Sg} {d : Nat} {Q : Option (Option Value) → Sg → Prop} (hd : 1 ≤ d) {R5 : Int32 → Int32 → Int32 → Sg → Option (Int32 × Sg)} (hR5 : ∀ (x2 : Int32) (x3 : Int32) (x4 : Int32) (s : Sg), okx (zq_I Q) (R5 x2 x3 x4 s) → Xw d M_Mo_digit 0 0 5 [.ref 46, .retAddr 0, .int x2, .int x3, .int x4] [] s Q) (h : okx (zq_I Q) (f_Mo_digit_b5 R5 x2 x3 x4 s)) : Xw d M_Mo_digit 0 0 5 [.ref 46, .retAddr 0, .int x2, .int x3, .int x4] [] s Q := by
  unfold f_Mo_digit_b5 at h
  refine xi_iload D_Mo_digit_5 rfl ?_
  refine xi_iload_n D_Mo_digit_7 rfl ?_
  refine xi_icmp_ge D_Mo_digit_8 (fun c1 => ?_) (fun c1 => ?_)
  · have h := okx_T c1 h
    exact xk_wk (w_Mo_digit_b26 (by omega)  h) ⟨Or.inl rfl, Or.inl rfl, Or.inr rfl, Or.inl rfl, Or.inr rfl, trivial⟩
  · have h := okx_F c1 h
    refine xi_iload_n D_Mo_digit_11 rfl ?_
    refine xi_aload_n D_Mo_digit_12 rfl ?_
    obtain ⟨g2, h⟩ := okx_ck h
    refine xi_getI D_Mo_digit_13 F_Mo_234 (zl_fo (g2).1 rfl) ⟨rfl, by decide⟩ ?_
    refine xj_iconst (v := 2) D_Mo_digit_16 rfl ?_
    refine xi_iadd D_Mo_digit_17 ?_
    obtain ⟨g3, h⟩ := okx_ck h
    refine xi_idiv D_Mo_digit_18 g3 ?_
    refine xi_istore_n (ls' := [_, _, _, _, _]) D_Mo_digit_19 rfl (by decide) ?_
    refine xi_iinc (v := _ + 1) (ls' := [_, _, _, _, _]) D_Mo_digit_20 rfl rfl rfl (by decide) ?_
    refine xi_goto D_Mo_digit_23 ?_
    exact hR5 _ _ _ _ h
noncomputable def f_Mo_digit_h5 : Nat → Int32 → Int32 → Int32 → Sg → Option (Int32 × Sg)
  | 0, _, _, _, _ => none
  | n + 1, x2, x3, x4, s => f_Mo_digit_b5 (f_Mo_digit_h5 n) x2 x3 x4 s
theorem w_Mo_digit_h5 {d : Nat} {Q : Option (Option Value) → Sg → Prop} (hd : 1 ≤ d) : ∀ (n : Nat) (x2 : Int32) (x3 : Int32) (x4 : Int32) (s : Sg), okx (zq_I Q) (f_Mo_digit_h5 n x2 x3 x4 s) → Xw d M_Mo_digit 0 0 5 [.ref 46, .retAddr 0, .int x2, .int x3, .int x4] [] s Q := by
  intro n
  induction n with
  | zero => intro x2 x3 x4 s h; exact okx_no h
  | succ n ih => intro x2 x3 x4 s h; exact w_Mo_digit_b5 hd  ih  h
noncomputable def f_Mo_digit (x1 : Int32) (x2 : Int32) (s : Sg) : Option (Int32 × Sg) :=
  f_Mo_digit_h5  zl_fl x2 x1 0 s
theorem w_Mo_digit {x1 : Int32} {x2 : Int32} {s : Sg} {d : Nat} {Q : Option (Option Value) → Sg → Prop} (hd : 1 ≤ d) (h : okx (zq_I Q) (f_Mo_digit x1 x2 s)) : Cw d M_Mo_digit [.ref 46, .int x1, .int x2] s Q := by
  refine Cw.of (by decide +kernel) (Nat.le_of_ble_eq_true rfl) ?_
  show Xw d M_Mo_digit 0 0 0 [.ref 46, .int x1, .int x2, .retAddr 0, .retAddr 0] [] s _
  unfold f_Mo_digit at h
  refine xi_iload_n D_Mo_digit_0 rfl ?_
  refine xi_istore_n (ls' := [_, _, _, _, _]) D_Mo_digit_1 rfl (by decide) ?_
  refine xj_iconst (v := 0) D_Mo_digit_2 rfl ?_
  refine xi_istore (ls' := [_, _, _, _, _]) D_Mo_digit_3 rfl (by decide) ?_
  exact xk_wk (w_Mo_digit_h5 (by omega)  _ _ _ _ _ h) ⟨Or.inl rfl, Or.inr rfl, Or.inl rfl, Or.inl rfl, Or.inl rfl, trivial⟩
noncomputable def f_Mo_turnsOut_b80 (R19 : Int32 → Int32 → Sg → Option (Int32 × Sg)) (R34 : Int32 → Int32 → Int32 → Int32 → Sg → Option (Int32 × Sg)) (x1 : Int32) (x3 : Int32) (x4 : Int32) (x5 : Int32) (s : Sg) : Option (Int32 × Sg) :=
  R34 x1 x3 x4 (x5 + 1) s
theorem w_Mo_turnsOut_b80 {x1 : Int32} {x3 : Int32} {x4 : Int32} {x5 : Int32} {s : Sg} {d : Nat} {Q : Option (Option Value) → Sg → Prop} (hd : 10 ≤ d) {R19 : Int32 → Int32 → Sg → Option (Int32 × Sg)} {R34 : Int32 → Int32 → Int32 → Int32 → Sg → Option (Int32 × Sg)} (hR19 : ∀ (x1 : Int32) (x3 : Int32) (s : Sg), okx (zq_I Q) (R19 x1 x3 s) → Xw d M_Mo_turnsOut 0 0 19 [.ref 46, .int x1, .retAddr 0, .int x3, .retAddr 0, .retAddr 0] [] s Q) (hR34 : ∀ (x1 : Int32) (x3 : Int32) (x4 : Int32) (x5 : Int32) (s : Sg), okx (zq_I Q) (R34 x1 x3 x4 x5 s) → Xw d M_Mo_turnsOut 0 0 34 [.ref 46, .int x1, .retAddr 0, .int x3, .int x4, .int x5] [] s Q) (h : okx (zq_I Q) (f_Mo_turnsOut_b80 R19 R34 x1 x3 x4 x5 s)) : Xw d M_Mo_turnsOut 0 0 80 [.ref 46, .int x1, .retAddr 0, .int x3, .int x4, .int x5] [] s Q := by
  unfold f_Mo_turnsOut_b80 at h
  refine xi_iinc (v := _ + 1) (ls' := [_, _, _, _, _, _]) D_Mo_turnsOut_80 rfl rfl rfl (by decide) ?_
  refine xi_goto D_Mo_turnsOut_83 ?_
  exact hR34 _ _ _ _ _ h
noncomputable def f_Mo_turnsOut_b86 (R19 : Int32 → Int32 → Sg → Option (Int32 × Sg)) (x1 : Int32) (x3 : Int32) (x4 : Int32) (s : Sg) : Option (Int32 × Sg) :=
  if x4 = 0 then
    some (x3, s)
  else
    f_ck (zl_B s) <|
    let s20 : Sg := uI s 46 54 ((mI s 46 54) + 1)
    R19 x1 x3 s20
theorem w_Mo_turnsOut_b86 {x1 : Int32} {x3 : Int32} {x4 : Int32} {s : Sg} {d : Nat} {Q : Option (Option Value) → Sg → Prop} (hd : 10 ≤ d) {R19 : Int32 → Int32 → Sg → Option (Int32 × Sg)} (hR19 : ∀ (x1 : Int32) (x3 : Int32) (s : Sg), okx (zq_I Q) (R19 x1 x3 s) → Xw d M_Mo_turnsOut 0 0 19 [.ref 46, .int x1, .retAddr 0, .int x3, .retAddr 0, .retAddr 0] [] s Q) (h : okx (zq_I Q) (f_Mo_turnsOut_b86 R19 x1 x3 x4 s)) : Xw d M_Mo_turnsOut 0 0 86 [.ref 46, .int x1, .retAddr 0, .int x3, .int x4, .retAddr 0] [] s Q := by
  unfold f_Mo_turnsOut_b86 at h
  refine xi_iload D_Mo_turnsOut_86 rfl ?_
  refine xi_if_ne D_Mo_turnsOut_88 (fun c18 => ?_) (fun c18 => ?_)
  · have h := okx_F c18 h
    refine xi_aload_n D_Mo_turnsOut_93 rfl ?_
    refine xi_dupr D_Mo_turnsOut_94 ?_
    obtain ⟨g19, h⟩ := okx_ck h
    refine xi_getI D_Mo_turnsOut_95 F_Mo_381 (zl_fo (g19).1 rfl) ⟨rfl, by decide⟩ ?_
    refine xj_iconst (v := 1) D_Mo_turnsOut_98 rfl ?_
    refine xi_iadd D_Mo_turnsOut_99 ?_
    refine xi_putI D_Mo_turnsOut_100 F_Mo_381 (zl_fo (g19).1 rfl) ⟨rfl, by decide, rfl⟩ (⟨rfl, rfl⟩) ?_
    refine xi_goto D_Mo_turnsOut_103 ?_
    exact xk_wk (hR19 _ _ _ h) ⟨Or.inl rfl, Or.inl rfl, Or.inl rfl, Or.inl rfl, Or.inr rfl, Or.inl rfl, trivial⟩
  · have h := okx_T c18 h
    refine xi_iload_n D_Mo_turnsOut_91 rfl ?_
    exact xi_ireturn D_Mo_turnsOut_92 rfl (rfl) (okx_I h)
noncomputable def f_Mo_turnsOut_b34 (R19 : Int32 → Int32 → Sg → Option (Int32 × Sg)) (R34 : Int32 → Int32 → Int32 → Int32 → Sg → Option (Int32 × Sg)) (x1 : Int32) (x3 : Int32) (x4 : Int32) (x5 : Int32) (s : Sg) : Option (Int32 × Sg) :=
  f_ck (zl_B s) <|
  if (mI s 46 10) ≤ x5 then
    f_Mo_turnsOut_b86 R19 x1 x3 x4 s
  else
    if x5 = x1 then
      f_Mo_turnsOut_b80 R19 R34 x1 x3 x4 x5 s
    else
      f_bd (f_Mo_stays x5 x3 s) fun r9 s10 =>
      if r9 = 0 then
        f_ck (zl_B s10) <|
        f_bd (f_Mo_wouldOf x5 x3 s10) fun r13 s14 =>
        f_ck (zl_B s14) <|
        f_bd (f_Mo_takes x3 x5 r13 s14) fun r16 s17 =>
        f_Mo_turnsOut_b80 R19 R34 x1 r16 1 x5 s17
      else
        f_Mo_turnsOut_b80 R19 R34 x1 x3 x4 x5 s10
theorem w_Mo_turnsOut_b34 {x1 : Int32} {x3 : Int32} {x4 : Int32} {x5 : Int32} {s : Sg} {d : Nat} {Q : Option (Option Value) → Sg → Prop} (hd : 10 ≤ d) {R19 : Int32 → Int32 → Sg → Option (Int32 × Sg)} {R34 : Int32 → Int32 → Int32 → Int32 → Sg → Option (Int32 × Sg)} (hR19 : ∀ (x1 : Int32) (x3 : Int32) (s : Sg), okx (zq_I Q) (R19 x1 x3 s) → Xw d M_Mo_turnsOut 0 0 19 [.ref 46, .int x1, .retAddr 0, .int x3, .retAddr 0, .retAddr 0] [] s Q) (hR34 : ∀ (x1 : Int32) (x3 : Int32) (x4 : Int32) (x5 : Int32) (s : Sg), okx (zq_I Q) (R34 x1 x3 x4 x5 s) → Xw d M_Mo_turnsOut 0 0 34 [.ref 46, .int x1, .retAddr 0, .int x3, .int x4, .int x5] [] s Q) (h : okx (zq_I Q) (f_Mo_turnsOut_b34 R19 R34 x1 x3 x4 x5 s)) : Xw d M_Mo_turnsOut 0 0 34 [.ref 46, .int x1, .retAddr 0, .int x3, .int x4, .int x5] [] s Q := by
  unfold f_Mo_turnsOut_b34 at h
  refine xi_iload D_Mo_turnsOut_34 rfl ?_
  refine xi_aload_n D_Mo_turnsOut_36 rfl ?_
  obtain ⟨g6, h⟩ := okx_ck h
  refine xi_getI D_Mo_turnsOut_37 F_Mo_234 (zl_fo (g6).1 rfl) ⟨rfl, by decide⟩ ?_
  refine xi_icmp_ge D_Mo_turnsOut_40 (fun c7 => ?_) (fun c7 => ?_)
  · have h := okx_T c7 h
    exact xk_wk (w_Mo_turnsOut_b86 (by omega) hR19 h) ⟨Or.inl rfl, Or.inl rfl, Or.inl rfl, Or.inl rfl, Or.inl rfl, Or.inr rfl, trivial⟩
  · have h := okx_F c7 h
    refine xi_iload D_Mo_turnsOut_43 rfl ?_
    refine xi_iload_n D_Mo_turnsOut_45 rfl ?_
    refine xi_icmp_eq D_Mo_turnsOut_46 (fun c8 => ?_) (fun c8 => ?_)
    · have h := okx_T c8 h
      exact w_Mo_turnsOut_b80 (by omega) hR19 hR34 h
    · have h := okx_F c8 h
      refine xi_aload_n D_Mo_turnsOut_49 rfl ?_
      refine xi_iload D_Mo_turnsOut_50 rfl ?_
      refine xi_iload_n D_Mo_turnsOut_52 rfl ?_
      refine xj_V2 D_Mo_turnsOut_53 L_Mo_374 C_Mo_stays Z_Mo_stays (zl_fo (g6).1 rfl) (Nat.le_of_ble_eq_true rfl) (Nat.le_of_eq (Nat.sub_add_cancel (by omega))) (w_Mo_stays (by omega) (okx_mono (okx_bd h) ?_))
      intro r9 s10 h
      show Xw _ _ _ _ 56 _ [_] _ _
      refine xi_if_eq D_Mo_turnsOut_56 (fun c11 => ?_) (fun c11 => ?_)
      · have h := okx_T c11 h
        refine xi_aload_n D_Mo_turnsOut_62 rfl ?_
        refine xi_iload_n D_Mo_turnsOut_63 rfl ?_
        refine xi_iload D_Mo_turnsOut_64 rfl ?_
        refine xi_aload_n D_Mo_turnsOut_66 rfl ?_
        refine xi_iload D_Mo_turnsOut_67 rfl ?_
        refine xi_iload_n D_Mo_turnsOut_69 rfl ?_
        obtain ⟨g12, h⟩ := okx_ck h
        refine xj_V2 D_Mo_turnsOut_70 L_Mo_371 C_Mo_wouldOf Z_Mo_wouldOf (zl_fo (g12).1 rfl) (Nat.le_of_ble_eq_true rfl) (Nat.le_of_eq (Nat.sub_add_cancel (by omega))) (w_Mo_wouldOf (by omega) (okx_mono (okx_bd h) ?_))
        intro r13 s14 h
        show Xw _ _ _ _ 73 _ [_, _, _, _] _ _
        obtain ⟨g15, h⟩ := okx_ck h
        refine xj_V3 D_Mo_turnsOut_73 L_Mo_364 C_Mo_takes Z_Mo_takes (zl_fo (g15).1 rfl) (Nat.le_of_ble_eq_true rfl) (Nat.le_of_eq (Nat.sub_add_cancel (by omega))) (w_Mo_takes (by omega) (okx_mono (okx_bd h) ?_))
        intro r16 s17 h
        show Xw _ _ _ _ 76 _ [_] _ _
        refine xi_istore_n (ls' := [_, _, _, _, _, _]) D_Mo_turnsOut_76 rfl (by decide) ?_
        refine xj_iconst (v := 1) D_Mo_turnsOut_77 rfl ?_
        refine xi_istore (ls' := [_, _, _, _, _, _]) D_Mo_turnsOut_78 rfl (by decide) ?_
        exact w_Mo_turnsOut_b80 (by omega) hR19 hR34 h
      · have h := okx_F c11 h
        refine xi_goto D_Mo_turnsOut_59 ?_
        exact w_Mo_turnsOut_b80 (by omega) hR19 hR34 h
noncomputable def f_Mo_turnsOut_h34 (R19 : Int32 → Int32 → Sg → Option (Int32 × Sg)) : Nat → Int32 → Int32 → Int32 → Int32 → Sg → Option (Int32 × Sg)
  | 0, _, _, _, _, _ => none
  | n + 1, x1, x3, x4, x5, s => f_Mo_turnsOut_b34 R19 (f_Mo_turnsOut_h34 R19 n) x1 x3 x4 x5 s
theorem w_Mo_turnsOut_h34 {d : Nat} {Q : Option (Option Value) → Sg → Prop} (hd : 10 ≤ d) {R19 : Int32 → Int32 → Sg → Option (Int32 × Sg)} (hR19 : ∀ (x1 : Int32) (x3 : Int32) (s : Sg), okx (zq_I Q) (R19 x1 x3 s) → Xw d M_Mo_turnsOut 0 0 19 [.ref 46, .int x1, .retAddr 0, .int x3, .retAddr 0, .retAddr 0] [] s Q) : ∀ (n : Nat) (x1 : Int32) (x3 : Int32) (x4 : Int32) (x5 : Int32) (s : Sg), okx (zq_I Q) (f_Mo_turnsOut_h34 R19 n x1 x3 x4 x5 s) → Xw d M_Mo_turnsOut 0 0 34 [.ref 46, .int x1, .retAddr 0, .int x3, .int x4, .int x5] [] s Q := by
  intro n
  induction n with
  | zero => intro x1 x3 x4 x5 s h; exact okx_no h
  | succ n ih => intro x1 x3 x4 x5 s h; exact w_Mo_turnsOut_b34 hd hR19 ih  h
noncomputable def f_Mo_turnsOut_b19 (R19 : Int32 → Int32 → Sg → Option (Int32 × Sg)) (x1 : Int32) (x3 : Int32) (s : Sg) : Option (Int32 × Sg) :=
  f_ck (zl_B s) <|
  if 30 < (mI s 46 54) then
    some ((-1), s)
  else
    f_Mo_turnsOut_h34 R19 zl_fl x1 x3 0 0 s
theorem w_Mo_turnsOut_b19 {x1 : Int32} {x3 : Int32} {s : Sg} {d : Nat} {Q : Option (Option Value) → Sg → Prop} (hd : 10 ≤ d) {R19 : Int32 → Int32 → Sg → Option (Int32 × Sg)} (hR19 : ∀ (x1 : Int32) (x3 : Int32) (s : Sg), okx (zq_I Q) (R19 x1 x3 s) → Xw d M_Mo_turnsOut 0 0 19 [.ref 46, .int x1, .retAddr 0, .int x3, .retAddr 0, .retAddr 0] [] s Q) (h : okx (zq_I Q) (f_Mo_turnsOut_b19 R19 x1 x3 s)) : Xw d M_Mo_turnsOut 0 0 19 [.ref 46, .int x1, .retAddr 0, .int x3, .retAddr 0, .retAddr 0] [] s Q := by
  unfold f_Mo_turnsOut_b19 at h
  refine xi_aload_n D_Mo_turnsOut_19 rfl ?_
  obtain ⟨g4, h⟩ := okx_ck h
  refine xi_getI D_Mo_turnsOut_20 F_Mo_381 (zl_fo (g4).1 rfl) ⟨rfl, by decide⟩ ?_
  refine xi_bipush (v := 30) D_Mo_turnsOut_23 rfl ?_
  refine xi_icmp_gt D_Mo_turnsOut_25 (fun c5 => ?_) (fun c5 => ?_)
  · have h := okx_T c5 h
    refine xj_iconst (v := (-1)) D_Mo_turnsOut_106 rfl ?_
    exact xi_ireturn D_Mo_turnsOut_107 rfl (rfl) (okx_I h)
  · have h := okx_F c5 h
    refine xj_iconst (v := 0) D_Mo_turnsOut_28 rfl ?_
    refine xi_istore (ls' := [_, _, _, _, _, _]) D_Mo_turnsOut_29 rfl (by decide) ?_
    refine xj_iconst (v := 0) D_Mo_turnsOut_31 rfl ?_
    refine xi_istore (ls' := [_, _, _, _, _, _]) D_Mo_turnsOut_32 rfl (by decide) ?_
    exact w_Mo_turnsOut_h34 (by omega) hR19 _ _ _ _ _ _ h
noncomputable def f_Mo_turnsOut_h19 : Nat → Int32 → Int32 → Sg → Option (Int32 × Sg)
  | 0, _, _, _ => none
  | n + 1, x1, x3, s => f_Mo_turnsOut_b19 (f_Mo_turnsOut_h19 n) x1 x3 s
theorem w_Mo_turnsOut_h19 {d : Nat} {Q : Option (Option Value) → Sg → Prop} (hd : 10 ≤ d) : ∀ (n : Nat) (x1 : Int32) (x3 : Int32) (s : Sg), okx (zq_I Q) (f_Mo_turnsOut_h19 n x1 x3 s) → Xw d M_Mo_turnsOut 0 0 19 [.ref 46, .int x1, .retAddr 0, .int x3, .retAddr 0, .retAddr 0] [] s Q := by
  intro n
  induction n with
  | zero => intro x1 x3 s h; exact okx_no h
  | succ n ih => intro x1 x3 s h; exact w_Mo_turnsOut_b19 hd  ih  h
noncomputable def f_Mo_turnsOut_b13 (x1 : Int32) (y0 : Int32) (s : Sg) : Option (Int32 × Sg) :=
  f_ck (zl_B s) <|
  let s3 : Sg := uI s 46 54 1
  f_Mo_turnsOut_h19  zl_fl x1 y0 s3
theorem w_Mo_turnsOut_b13 {x1 : Int32} {y0 : Int32} {s : Sg} {d : Nat} {Q : Option (Option Value) → Sg → Prop} (hd : 10 ≤ d) (h : okx (zq_I Q) (f_Mo_turnsOut_b13 x1 y0 s)) : Xw d M_Mo_turnsOut 0 0 13 [.ref 46, .int x1, .retAddr 0, .retAddr 0, .retAddr 0, .retAddr 0] [.int y0] s Q := by
  unfold f_Mo_turnsOut_b13 at h
  refine xi_istore_n (ls' := [_, _, _, _, _, _]) D_Mo_turnsOut_13 rfl (by decide) ?_
  refine xi_aload_n D_Mo_turnsOut_14 rfl ?_
  refine xj_iconst (v := 1) D_Mo_turnsOut_15 rfl ?_
  obtain ⟨g2, h⟩ := okx_ck h
  refine xi_putI D_Mo_turnsOut_16 F_Mo_381 (zl_fo (g2).1 rfl) ⟨rfl, by decide, rfl⟩ (⟨rfl, rfl⟩) ?_
  exact w_Mo_turnsOut_h19 (by omega)  _ _ _ _ h
noncomputable def f_Mo_turnsOut (x1 : Int32) (x2 : Int32) (s : Sg) : Option (Int32 × Sg) :=
  if 0 ≤ x1 then
    f_Mo_turnsOut_b13  x1 (x2 <<< ((2 * x1) &&& 31)) s
  else
    f_Mo_turnsOut_b13  x1 0 s
theorem w_Mo_turnsOut {x1 : Int32} {x2 : Int32} {s : Sg} {d : Nat} {Q : Option (Option Value) → Sg → Prop} (hd : 10 ≤ d) (h : okx (zq_I Q) (f_Mo_turnsOut x1 x2 s)) : Cw d M_Mo_turnsOut [.ref 46, .int x1, .int x2] s Q := by
  refine Cw.of (by decide +kernel) (Nat.le_of_ble_eq_true rfl) ?_
  show Xw d M_Mo_turnsOut 0 0 0 [.ref 46, .int x1, .int x2, .retAddr 0, .retAddr 0, .retAddr 0] [] s _
  unfold f_Mo_turnsOut at h
  refine xi_iload_n D_Mo_turnsOut_0 rfl ?_
  refine xi_if_ge D_Mo_turnsOut_1 (fun c1 => ?_) (fun c1 => ?_)
  · have h := okx_T c1 h
    refine xi_iload_n D_Mo_turnsOut_8 rfl ?_
    refine xj_iconst (v := 2) D_Mo_turnsOut_9 rfl ?_
    refine xi_iload_n D_Mo_turnsOut_10 rfl ?_
    refine xi_imul D_Mo_turnsOut_11 ?_
    refine xi_ishl D_Mo_turnsOut_12 ?_
    exact xk_wk (w_Mo_turnsOut_b13 (by omega)  h) ⟨Or.inl rfl, Or.inl rfl, Or.inr rfl, Or.inl rfl, Or.inl rfl, Or.inl rfl, trivial⟩
  · have h := okx_F c1 h
    refine xj_iconst (v := 0) D_Mo_turnsOut_4 rfl ?_
    refine xi_goto D_Mo_turnsOut_5 ?_
    exact xk_wk (w_Mo_turnsOut_b13 (by omega)  h) ⟨Or.inl rfl, Or.inl rfl, Or.inr rfl, Or.inl rfl, Or.inl rfl, Or.inl rfl, trivial⟩
noncomputable def f_Mo_reach_b37 (y1 : Int32) (s : Sg) : Option (Unit × Sg) :=
  f_ck (zl_B s) <|
  let s12 : Sg := uI s 46 56 y1
  some ((), s12)
theorem w_Mo_reach_b37 {y1 : Int32} {s : Sg} {d : Nat} {Q : Option (Option Value) → Sg → Prop} (hd : 11 ≤ d) (h : okx (zq_V Q) (f_Mo_reach_b37 y1 s)) : Xw d M_Mo_reach 0 0 37 [.retAddr 0, .retAddr 0] [.int y1, .ref 46] s Q := by
  unfold f_Mo_reach_b37 at h
  obtain ⟨g11, h⟩ := okx_ck h
  refine xi_putI D_Mo_reach_37 F_Mo_397 (zl_fo (g11).1 rfl) ⟨rfl, by decide, rfl⟩ (⟨rfl, rfl⟩) ?_
  exact xi_return D_Mo_reach_40 rfl (okx_V h)
noncomputable def f_Mo_reach_b17 (x1 : Int32) (y1 : Int32) (s : Sg) : Option (Unit × Sg) :=
  f_ck (zl_B s) <|
  f_ck (narrow FieldType.boolean (.int y1) = .int y1 ∧ fits FieldType.boolean (.int y1) = true) <|
  let s7 : Sg := uI s 46 55 y1
  if (mI s7 46 55) = 0 then
    f_Mo_reach_b37  0 s7
  else
    f_bd (f_Mo_goodOf x1 s7) fun r9 s10 =>
    f_Mo_reach_b37  r9 s10
theorem w_Mo_reach_b17 {x1 : Int32} {y1 : Int32} {s : Sg} {d : Nat} {Q : Option (Option Value) → Sg → Prop} (hd : 11 ≤ d) (h : okx (zq_V Q) (f_Mo_reach_b17 x1 y1 s)) : Xw d M_Mo_reach 0 0 17 [.ref 46, .int x1] [.int y1, .ref 46] s Q := by
  unfold f_Mo_reach_b17 at h
  obtain ⟨g5, h⟩ := okx_ck h
  obtain ⟨g6, h⟩ := okx_ck h
  refine xi_putI D_Mo_reach_17 F_Mo_393 (zl_fo (g5).1 rfl) ⟨rfl, by decide, rfl⟩ (g6) ?_
  refine xi_aload_n D_Mo_reach_20 rfl ?_
  refine xi_aload_n D_Mo_reach_21 rfl ?_
  refine xi_getI D_Mo_reach_22 F_Mo_393 (zl_fo (g5).1 rfl) ⟨rfl, by decide⟩ ?_
  refine xi_if_eq D_Mo_reach_25 (fun c8 => ?_) (fun c8 => ?_)
  · have h := okx_T c8 h
    refine xj_iconst (v := 0) D_Mo_reach_36 rfl ?_
    exact xk_wk (w_Mo_reach_b37 (by omega)  h) ⟨Or.inr rfl, Or.inr rfl, trivial⟩
  · have h := okx_F c8 h
    refine xi_aload_n D_Mo_reach_28 rfl ?_
    refine xi_iload_n D_Mo_reach_29 rfl ?_
    refine xj_V1 D_Mo_reach_30 L_Mo_387 C_Mo_goodOf Z_Mo_goodOf (zl_fo (g5).1 rfl) (Nat.le_of_ble_eq_true rfl) (Nat.le_of_eq (Nat.sub_add_cancel (by omega))) (w_Mo_goodOf (by omega) (okx_mono (okx_bd h) ?_))
    intro r9 s10 h
    show Xw _ _ _ _ 33 _ [_, _] _ _
    refine xi_goto D_Mo_reach_33 ?_
    exact xk_wk (w_Mo_reach_b37 (by omega)  h) ⟨Or.inr rfl, Or.inr rfl, trivial⟩
noncomputable def f_Mo_reach  (s : Sg) : Option (Unit × Sg) :=
  f_ck (zl_B s) <|
  f_bd (f_Mo_turnsOut (-1) 0 s) fun r2 s3 =>
  if r2 < 0 then
    f_Mo_reach_b17  r2 0 s3
  else
    f_Mo_reach_b17  r2 1 s3
theorem w_Mo_reach {s : Sg} {d : Nat} {Q : Option (Option Value) → Sg → Prop} (hd : 11 ≤ d) (h : okx (zq_V Q) (f_Mo_reach  s)) : Cw d M_Mo_reach [.ref 46] s Q := by
  refine Cw.of (by decide +kernel) (Nat.le_of_ble_eq_true rfl) ?_
  show Xw d M_Mo_reach 0 0 0 [.ref 46, .retAddr 0] [] s _
  unfold f_Mo_reach at h
  refine xi_aload_n D_Mo_reach_0 rfl ?_
  refine xj_iconst (v := (-1)) D_Mo_reach_1 rfl ?_
  refine xj_iconst (v := 0) D_Mo_reach_2 rfl ?_
  obtain ⟨g1, h⟩ := okx_ck h
  refine xj_V2 D_Mo_reach_3 L_Mo_384 C_Mo_turnsOut Z_Mo_turnsOut (zl_fo (g1).1 rfl) (Nat.le_of_ble_eq_true rfl) (Nat.le_of_eq (Nat.sub_add_cancel (by omega))) (w_Mo_turnsOut (by omega) (okx_mono (okx_bd h) ?_))
  intro r2 s3 h
  show Xw _ _ _ _ 6 _ [_] _ _
  refine xi_istore_n (ls' := [_, _]) D_Mo_reach_6 rfl (by decide) ?_
  refine xi_aload_n D_Mo_reach_7 rfl ?_
  refine xi_iload_n D_Mo_reach_8 rfl ?_
  refine xi_if_lt D_Mo_reach_9 (fun c4 => ?_) (fun c4 => ?_)
  · have h := okx_T c4 h
    refine xj_iconst (v := 0) D_Mo_reach_16 rfl ?_
    exact w_Mo_reach_b17 (by omega)  h
  · have h := okx_F c4 h
    refine xj_iconst (v := 1) D_Mo_reach_12 rfl ?_
    refine xi_goto D_Mo_reach_13 ?_
    exact w_Mo_reach_b17 (by omega)  h
