/-! by a program of ours (wip/whole/gen/func.py, mkall.py) out of the listing: Wk_works Wk_worth Wk_would Wk_writing Wk_written -/
noncomputable def f_Wk_works  (s : Sg) : Option (Int32 × Sg) :=
  f_ck (zl_B s) <|
  f_bd (f_Rd_read  s) fun r2 s3 =>
  if r2 = 0 then
    f_ck (zl_B s3) <|
    f_bd (f_To_copyFrom 7 31 s3) fun r6 s7 =>
    f_ck (zl_B s7) <|
    f_bd (f_Wk_forgetAll  s7) fun r9 s10 =>
    some (r2, s10)
  else
    some (r2, s3)
theorem w_Wk_works {s : Sg} {d : Nat} {Q : Option (Option Value) → Sg → Prop} (hd : 63 ≤ d) (h : okx (zq_I Q) (f_Wk_works  s)) : Cw d M_Wk_works [.ref 4] s Q := by
  refine Cw.of (by decide +kernel) (Nat.le_of_ble_eq_true rfl) ?_
  show Xw d M_Wk_works 0 0 0 [.ref 4, .retAddr 0] [] s _
  unfold f_Wk_works at h
  refine xi_aload_n D_Wk_works_0 rfl ?_
  obtain ⟨g1, h⟩ := okx_ck h
  refine xi_getR D_Wk_works_1 F_Wk_41 (zl_fo (g1).1 rfl) ⟨rfl, by decide⟩ (zl_gr (g1).2 rfl rfl) ?_
  refine xi_aload_n D_Wk_works_4 rfl ?_
  refine xi_getR D_Wk_works_5 F_Wk_31 (zl_fo (g1).1 rfl) ⟨rfl, by decide⟩ (zl_gr (g1).2 rfl rfl) ?_
  refine xj_V1 D_Wk_works_8 L_Wk_60 C_Rd_read Z_Rd_read (zl_fo (g1).1 rfl) (Nat.le_of_ble_eq_true rfl) (Nat.le_of_eq (Nat.sub_add_cancel (by omega))) (w_Rd_read (by omega) (okx_mono (okx_bd h) ?_))
  intro r2 s3 h
  show Xw _ _ _ _ 11 _ [_] _ _
  refine xi_istore_n (ls' := [_, _]) D_Wk_works_11 rfl (by decide) ?_
  refine xi_iload_n D_Wk_works_12 rfl ?_
  refine xi_if_ne D_Wk_works_13 (fun c4 => ?_) (fun c4 => ?_)
  · have h := okx_F c4 h
    refine xi_iload_n D_Wk_works_31 rfl ?_
    exact xi_ireturn D_Wk_works_32 rfl (rfl) (okx_I h)
  · have h := okx_T c4 h
    refine xi_aload_n D_Wk_works_16 rfl ?_
    obtain ⟨g5, h⟩ := okx_ck h
    refine xi_getR D_Wk_works_17 F_Wk_27 (zl_fo (g5).1 rfl) ⟨rfl, by decide⟩ (zl_gr (g5).2 rfl rfl) ?_
    refine xi_aload_n D_Wk_works_20 rfl ?_
    refine xi_getR D_Wk_works_21 F_Wk_31 (zl_fo (g5).1 rfl) ⟨rfl, by decide⟩ (zl_gr (g5).2 rfl rfl) ?_
    refine xj_V1 D_Wk_works_24 L_Wk_64 C_To_copyFrom Z_To_copyFrom (zl_fo (g5).1 rfl) (Nat.le_of_ble_eq_true rfl) (Nat.le_of_eq (Nat.sub_add_cancel (by omega))) (w_To_copyFrom (by omega) (okx_mono (okx_bd h) ?_))
    intro r6 s7 h
    show Xw _ _ _ _ 27 _ [] _ _
    refine xi_aload_n D_Wk_works_27 rfl ?_
    obtain ⟨g8, h⟩ := okx_ck h
    refine xj_V0 D_Wk_works_28 L_Wk_68 C_Wk_forgetAll Z_Wk_forgetAll (zl_fo (g8).1 rfl) (Nat.le_of_ble_eq_true rfl) (Nat.le_of_eq (Nat.sub_add_cancel (by omega))) (w_Wk_forgetAll (by omega) (okx_mono (okx_bd h) ?_))
    intro r9 s10 h
    show Xw _ _ _ _ 31 _ [] _ _
    refine xi_iload_n D_Wk_works_31 rfl ?_
    exact xi_ireturn D_Wk_works_32 rfl (rfl) (okx_I h)
noncomputable def f_Wk_worth (x1 : Int32) (x2 : Int32) (x3 : Int32) (s : Sg) : Option ((Option Int32) × Sg) :=
  f_ck (zl_B s) <|
  f_bd (f_Wk_isSet x1 (mI s 7 0) s) fun r2 s3 =>
  if r2 = 0 then
    some (none, s3)
  else
    f_ck (zl_B s3) <|
    f_bd (f_Wk_isSet x2 (mI s3 7 1) s3) fun r6 s7 =>
    if r6 = 0 then
      some (none, s7)
    else
      f_ck (zl_B s7) <|
      f_bd (f_Wk_isPains x3 s7) fun r10 s11 =>
      if r10 = 0 then
        some (none, s11)
      else
        f_ck (zl_B s11) <|
        f_bd (f_Wo_valueOf x1 x2 x3 s11) fun r14 s15 =>
        some ((some r14), s15)
theorem w_Wk_worth {x1 : Int32} {x2 : Int32} {x3 : Int32} {s : Sg} {d : Nat} {Q : Option (Option Value) → Sg → Prop} (hd : 9 ≤ d) (h : okx (zq_TI Q) (f_Wk_worth x1 x2 x3 s)) : Cw d M_Wk_worth [.ref 4, .int x1, .int x2, .int x3] s Q := by
  refine Cw.of (by decide +kernel) (Nat.le_of_ble_eq_true rfl) ?_
  show Xw d M_Wk_worth 1 6 0 [.ref 4, .int x1, .int x2, .int x3] [] s _
  unfold f_Wk_worth at h
  refine xi_iload_n D_Wk_worth_0 rfl ?_
  refine xi_aload_n D_Wk_worth_1 rfl ?_
  obtain ⟨g1, h⟩ := okx_ck h
  refine xi_getR D_Wk_worth_2 F_Wk_27 (zl_fo (g1).1 rfl) ⟨rfl, by decide⟩ (zl_gr (g1).2 rfl rfl) ?_
  refine xi_getI D_Wk_worth_5 F_Wk_78 (zl_fo (g1).1 rfl) ⟨rfl, by decide⟩ ?_
  refine xj_S2 D_Wk_worth_8 L_Wk_81 C_Wk_isSet Z_Wk_isSet (Nat.le_of_ble_eq_true rfl) (Nat.le_of_eq (Nat.sub_add_cancel (by omega))) (w_Wk_isSet (by omega) (okx_mono (okx_bd h) ?_))
  intro r2 s3 h
  show Xw _ _ _ _ 11 _ [_] _ _
  refine xi_if_eq D_Wk_worth_11 (fun c4 => ?_) (fun c4 => ?_)
  · have h := okx_T c4 h
    exact xi_throw ⟨rfl, rfl, D_Wk_worth_36.1, D_Wk_worth_39.1, D_Wk_worth_40.1, D_Wk_worth_43.1⟩ (by omega) (by decide) (okx_NTI h)
  · have h := okx_F c4 h
    refine xi_iload_n D_Wk_worth_14 rfl ?_
    refine xi_aload_n D_Wk_worth_15 rfl ?_
    obtain ⟨g5, h⟩ := okx_ck h
    refine xi_getR D_Wk_worth_16 F_Wk_27 (zl_fo (g5).1 rfl) ⟨rfl, by decide⟩ (zl_gr (g5).2 rfl rfl) ?_
    refine xi_getI D_Wk_worth_19 F_Wk_84 (zl_fo (g5).1 rfl) ⟨rfl, by decide⟩ ?_
    refine xj_S2 D_Wk_worth_22 L_Wk_81 C_Wk_isSet Z_Wk_isSet (Nat.le_of_ble_eq_true rfl) (Nat.le_of_eq (Nat.sub_add_cancel (by omega))) (w_Wk_isSet (by omega) (okx_mono (okx_bd h) ?_))
    intro r6 s7 h
    show Xw _ _ _ _ 25 _ [_] _ _
    refine xi_if_eq D_Wk_worth_25 (fun c8 => ?_) (fun c8 => ?_)
    · have h := okx_T c8 h
      exact xi_throw ⟨rfl, rfl, D_Wk_worth_36.1, D_Wk_worth_39.1, D_Wk_worth_40.1, D_Wk_worth_43.1⟩ (by omega) (by decide) (okx_NTI h)
    · have h := okx_F c8 h
      refine xi_aload_n D_Wk_worth_28 rfl ?_
      refine xi_iload_n D_Wk_worth_29 rfl ?_
      obtain ⟨g9, h⟩ := okx_ck h
      refine xj_V1 D_Wk_worth_30 L_Wk_87 C_Wk_isPains Z_Wk_isPains (zl_fo (g9).1 rfl) (Nat.le_of_ble_eq_true rfl) (Nat.le_of_eq (Nat.sub_add_cancel (by omega))) (w_Wk_isPains (by omega) (okx_mono (okx_bd h) ?_))
      intro r10 s11 h
      show Xw _ _ _ _ 33 _ [_] _ _
      refine xi_if_ne D_Wk_worth_33 (fun c12 => ?_) (fun c12 => ?_)
      · have h := okx_F c12 h
        refine xi_aload_n D_Wk_worth_44 rfl ?_
        obtain ⟨g13, h⟩ := okx_ck h
        refine xi_getR D_Wk_worth_45 F_Wk_20 (zl_fo (g13).1 rfl) ⟨rfl, by decide⟩ (zl_gr (g13).2 rfl rfl) ?_
        refine xi_iload_n D_Wk_worth_48 rfl ?_
        refine xi_iload_n D_Wk_worth_49 rfl ?_
        refine xi_iload_n D_Wk_worth_50 rfl ?_
        refine xj_V3 D_Wk_worth_51 L_Wk_94 C_Wo_valueOf Z_Wo_valueOf (zl_fo (g13).1 rfl) (Nat.le_of_ble_eq_true rfl) (Nat.le_of_eq (Nat.sub_add_cancel (by omega))) (w_Wo_valueOf (by omega) (okx_mono (okx_bd h) ?_))
        intro r14 s15 h
        show Xw _ _ _ _ 54 _ [_] _ _
        exact xi_ireturn D_Wk_worth_54 rfl (rfl) (okx_TI h)
      · have h := okx_T c12 h
        exact xi_throw ⟨rfl, rfl, D_Wk_worth_36.1, D_Wk_worth_39.1, D_Wk_worth_40.1, D_Wk_worth_43.1⟩ (by omega) (by decide) (okx_NTI h)
noncomputable def f_Wk_would (x1 : Int32) (x2 : Int32) (s : Sg) : Option (Int32 × Sg) :=
  f_ck (zl_B s) <|
  f_bd (f_Wk_isPerson x1 s) fun r2 s3 =>
  if r2 = 0 then
    some ((-1), s3)
  else
    f_ck (zl_B s3) <|
    f_bd (f_Wk_isPains x2 s3) fun r6 s7 =>
    if r6 = 0 then
      some ((-1), s7)
    else
      f_ck (zl_B s7) <|
      f_bd (f_Tu_lookAsIs  s7) fun r10 s11 =>
      f_ck (zl_B s11) <|
      f_bd (f_Tu_chosen x1 x2 0 s11) fun r13 s14 =>
      f_bd (f_Wk_stepIn r13 x1 s14) fun r15 s16 =>
      some (r15, s16)
theorem w_Wk_would {x1 : Int32} {x2 : Int32} {s : Sg} {d : Nat} {Q : Option (Option Value) → Sg → Prop} (hd : 6 ≤ d) (h : okx (zq_I Q) (f_Wk_would x1 x2 s)) : Cw d M_Wk_would [.ref 4, .int x1, .int x2] s Q := by
  refine Cw.of (by decide +kernel) (Nat.le_of_ble_eq_true rfl) ?_
  show Xw d M_Wk_would 0 0 0 [.ref 4, .int x1, .int x2] [] s _
  unfold f_Wk_would at h
  refine xi_aload_n D_Wk_would_0 rfl ?_
  refine xi_iload_n D_Wk_would_1 rfl ?_
  obtain ⟨g1, h⟩ := okx_ck h
  refine xj_V1 D_Wk_would_2 L_Wk_131 C_Wk_isPerson Z_Wk_isPerson (zl_fo (g1).1 rfl) (Nat.le_of_ble_eq_true rfl) (Nat.le_of_eq (Nat.sub_add_cancel (by omega))) (w_Wk_isPerson (by omega) (okx_mono (okx_bd h) ?_))
  intro r2 s3 h
  show Xw _ _ _ _ 5 _ [_] _ _
  refine xi_if_eq D_Wk_would_5 (fun c4 => ?_) (fun c4 => ?_)
  · have h := okx_T c4 h
    refine xj_iconst (v := (-1)) D_Wk_would_16 rfl ?_
    exact xi_ireturn D_Wk_would_17 rfl (rfl) (okx_I h)
  · have h := okx_F c4 h
    refine xi_aload_n D_Wk_would_8 rfl ?_
    refine xi_iload_n D_Wk_would_9 rfl ?_
    obtain ⟨g5, h⟩ := okx_ck h
    refine xj_V1 D_Wk_would_10 L_Wk_87 C_Wk_isPains Z_Wk_isPains (zl_fo (g5).1 rfl) (Nat.le_of_ble_eq_true rfl) (Nat.le_of_eq (Nat.sub_add_cancel (by omega))) (w_Wk_isPains (by omega) (okx_mono (okx_bd h) ?_))
    intro r6 s7 h
    show Xw _ _ _ _ 13 _ [_] _ _
    refine xi_if_ne D_Wk_would_13 (fun c8 => ?_) (fun c8 => ?_)
    · have h := okx_F c8 h
      refine xi_aload_n D_Wk_would_18 rfl ?_
      obtain ⟨g9, h⟩ := okx_ck h
      refine xi_getR D_Wk_would_19 F_Wk_12 (zl_fo (g9).1 rfl) ⟨rfl, by decide⟩ (zl_gr (g9).2 rfl rfl) ?_
      refine xj_V0 D_Wk_would_22 L_Wk_140 C_Tu_lookAsIs Z_Tu_lookAsIs (zl_fo (g9).1 rfl) (Nat.le_of_ble_eq_true rfl) (Nat.le_of_eq (Nat.sub_add_cancel (by omega))) (w_Tu_lookAsIs (by omega) (okx_mono (okx_bd h) ?_))
      intro r10 s11 h
      show Xw _ _ _ _ 25 _ [] _ _
      refine xi_aload_n D_Wk_would_25 rfl ?_
      obtain ⟨g12, h⟩ := okx_ck h
      refine xi_getR D_Wk_would_26 F_Wk_12 (zl_fo (g12).1 rfl) ⟨rfl, by decide⟩ (zl_gr (g12).2 rfl rfl) ?_
      refine xi_iload_n D_Wk_would_29 rfl ?_
      refine xi_iload_n D_Wk_would_30 rfl ?_
      refine xj_iconst (v := 0) D_Wk_would_31 rfl ?_
      refine xj_V3 D_Wk_would_32 L_Wk_161 C_Tu_chosen Z_Tu_chosen (zl_fo (g12).1 rfl) (Nat.le_of_ble_eq_true rfl) (Nat.le_of_eq (Nat.sub_add_cancel (by omega))) (w_Tu_chosen (by omega) (okx_mono (okx_bd h) ?_))
      intro r13 s14 h
      show Xw _ _ _ _ 35 _ [_] _ _
      refine xi_iload_n D_Wk_would_35 rfl ?_
      refine xj_S2 D_Wk_would_36 L_Wk_165 C_Wk_stepIn Z_Wk_stepIn (Nat.le_of_ble_eq_true rfl) (Nat.le_of_eq (Nat.sub_add_cancel (by omega))) (w_Wk_stepIn (by omega) (okx_mono (okx_bd h) ?_))
      intro r15 s16 h
      show Xw _ _ _ _ 39 _ [_] _ _
      exact xi_ireturn D_Wk_would_39 rfl (rfl) (okx_I h)
    · have h := okx_T c8 h
      refine xj_iconst (v := (-1)) D_Wk_would_16 rfl ?_
      exact xi_ireturn D_Wk_would_17 rfl (rfl) (okx_I h)
noncomputable def f_Wk_writing_b104 (R39 : Int32 → Int32 → Int32 → Int32 → Int32 → Int32 → Sg → Option ((Option Int32) × Sg)) (x1 : Int32) (x2 : Int32) (x3 : Int32) (x4 : Int32) (x5 : Int32) (x6 : Int32) (s : Sg) : Option ((Option Int32) × Sg) :=
  R39 x1 x2 x3 x4 x5 (x6 + 1) s
theorem w_Wk_writing_b104 {x1 : Int32} {x2 : Int32} {x3 : Int32} {x4 : Int32} {x5 : Int32} {x6 : Int32} {s : Sg} {d : Nat} {Q : Option (Option Value) → Sg → Prop} (hd : 9 ≤ d) {R39 : Int32 → Int32 → Int32 → Int32 → Int32 → Int32 → Sg → Option ((Option Int32) × Sg)} (hR39 : ∀ (x1 : Int32) (x2 : Int32) (x3 : Int32) (x4 : Int32) (x5 : Int32) (x6 : Int32) (s : Sg), okx (zq_TI Q) (R39 x1 x2 x3 x4 x5 x6 s) → Xw d M_Wk_writing 1 6 39 [.ref 4, .int x1, .int x2, .int x3, .int x4, .int x5, .int x6, .retAddr 0] [] s Q) (h : okx (zq_TI Q) (f_Wk_writing_b104 R39 x1 x2 x3 x4 x5 x6 s)) : Xw d M_Wk_writing 1 6 104 [.ref 4, .int x1, .int x2, .int x3, .int x4, .int x5, .int x6, .retAddr 0] [] s Q := by
  unfold f_Wk_writing_b104 at h
  refine xi_iinc (v := _ + 1) (ls' := [_, _, _, _, _, _, _, _]) D_Wk_writing_104 rfl rfl rfl (by decide) ?_
  refine xi_goto D_Wk_writing_107 ?_
  exact hR39 _ _ _ _ _ _ _ h
noncomputable def f_Wk_writing_b110 (x2 : Int32) (x3 : Int32) (x4 : Int32) (x5 : Int32) (s : Sg) : Option ((Option Int32) × Sg) :=
  if x4 = (-1) then
    some (none, s)
  else
    if x3 = (-1073741824) then
      some (none, s)
    else
      if x2 = 0 then
        some ((some x4), s)
      else
        some ((some (x5 - x3)), s)
theorem w_Wk_writing_b110 {x2 : Int32} {x3 : Int32} {x4 : Int32} {x5 : Int32} {s : Sg} {d : Nat} {Q : Option (Option Value) → Sg → Prop} (hd : 9 ≤ d) (h : okx (zq_TI Q) (f_Wk_writing_b110 x2 x3 x4 x5 s)) : Xw d M_Wk_writing 1 6 110 [.retAddr 0, .retAddr 0, .int x2, .int x3, .int x4, .int x5, .retAddr 0, .retAddr 0] [] s Q := by
  unfold f_Wk_writing_b110 at h
  refine xi_iload D_Wk_writing_110 rfl ?_
  refine xj_iconst (v := (-1)) D_Wk_writing_112 rfl ?_
  refine xi_icmp_eq D_Wk_writing_113 (fun c24 => ?_) (fun c24 => ?_)
  · have h := okx_T c24 h
    exact xi_throw ⟨rfl, rfl, D_Wk_writing_122.1, D_Wk_writing_125.1, D_Wk_writing_126.1, D_Wk_writing_129.1⟩ (by omega) (by decide) (okx_NTI h)
  · have h := okx_F c24 h
    refine xi_iload_n D_Wk_writing_116 rfl ?_
    refine xi_ldc D_Wk_writing_117 K_Wk_195 ?_
    refine xi_icmp_ne D_Wk_writing_119 (fun c25 => ?_) (fun c25 => ?_)
    · have h := okx_F c25 h
      refine xi_iload_n D_Wk_writing_130 rfl ?_
      refine xi_if_ne D_Wk_writing_131 (fun c26 => ?_) (fun c26 => ?_)
      · have h := okx_F c26 h
        refine xi_iload D_Wk_writing_139 rfl ?_
        refine xi_iload_n D_Wk_writing_141 rfl ?_
        refine xi_isub D_Wk_writing_142 ?_
        exact xi_ireturn D_Wk_writing_143 rfl (rfl) (okx_TI h)
      · have h := okx_T c26 h
        refine xi_iload D_Wk_writing_134 rfl ?_
        refine xi_goto D_Wk_writing_136 ?_
        exact xi_ireturn D_Wk_writing_143 rfl (rfl) (okx_TI h)
    · have h := okx_T c25 h
      exact xi_throw ⟨rfl, rfl, D_Wk_writing_122.1, D_Wk_writing_125.1, D_Wk_writing_126.1, D_Wk_writing_129.1⟩ (by omega) (by decide) (okx_NTI h)
noncomputable def f_Wk_writing_b39 (R39 : Int32 → Int32 → Int32 → Int32 → Int32 → Int32 → Sg → Option ((Option Int32) × Sg)) (x1 : Int32) (x2 : Int32) (x3 : Int32) (x4 : Int32) (x5 : Int32) (x6 : Int32) (s : Sg) : Option ((Option Int32) × Sg) :=
  f_ck (zl_B s) <|
  f_ck (vp_in x1 4) <|
  if (mI s 8 (Int32.toNatClampNeg x1)) < x6 then
    f_Wk_writing_b110  x2 x3 x4 x5 s
  else
    f_bd (f_Tu_byTurns (x6 <<< ((2 * x1) &&& 31)) x1 s) fun r14 s15 =>
    if r14 = (-1) then
      f_Wk_writing_b104 R39 x1 x2 x3 x4 x5 x6 s15
    else
      f_ck (zl_B s15) <|
      f_bd (f_Wo_goodOf r14 s15) fun r18 s19 =>
      if r18 ≤ x5 then
        f_Wk_writing_b104 R39 x1 x2 x3 x4 x5 x6 s19
      else
        f_ck (zl_B s19) <|
        f_bd (f_Wo_goodOf r14 s19) fun r22 s23 =>
        f_Wk_writing_b104 R39 x1 x2 x3 x6 r22 x6 s23
theorem w_Wk_writing_b39 {x1 : Int32} {x2 : Int32} {x3 : Int32} {x4 : Int32} {x5 : Int32} {x6 : Int32} {s : Sg} {d : Nat} {Q : Option (Option Value) → Sg → Prop} (hd : 9 ≤ d) {R39 : Int32 → Int32 → Int32 → Int32 → Int32 → Int32 → Sg → Option ((Option Int32) × Sg)} (hR39 : ∀ (x1 : Int32) (x2 : Int32) (x3 : Int32) (x4 : Int32) (x5 : Int32) (x6 : Int32) (s : Sg), okx (zq_TI Q) (R39 x1 x2 x3 x4 x5 x6 s) → Xw d M_Wk_writing 1 6 39 [.ref 4, .int x1, .int x2, .int x3, .int x4, .int x5, .int x6, .retAddr 0] [] s Q) (h : okx (zq_TI Q) (f_Wk_writing_b39 R39 x1 x2 x3 x4 x5 x6 s)) : Xw d M_Wk_writing 1 6 39 [.ref 4, .int x1, .int x2, .int x3, .int x4, .int x5, .int x6, .retAddr 0] [] s Q := by
  unfold f_Wk_writing_b39 at h
  refine xi_iload D_Wk_writing_39 rfl ?_
  refine xi_aload_n D_Wk_writing_41 rfl ?_
  obtain ⟨g11, h⟩ := okx_ck h
  refine xi_getR D_Wk_writing_42 F_Wk_27 (zl_fo (g11).1 rfl) ⟨rfl, by decide⟩ (zl_gr (g11).2 rfl rfl) ?_
  refine xi_getR D_Wk_writing_45 F_Wk_219 (zl_fo (g11).1 rfl) ⟨rfl, by decide⟩ (zl_gr (g11).2 rfl rfl) ?_
  refine xi_iload_n D_Wk_writing_48 rfl ?_
  obtain ⟨g12, h⟩ := okx_ck h
  refine xj_iald D_Wk_writing_49 (zl_fx (g11).1 rfl) (zl_ib (n := 4) rfl (g12)) ?_
  refine xi_icmp_gt D_Wk_writing_50 (fun c13 => ?_) (fun c13 => ?_)
  · have h := okx_T c13 h
    exact xk_wk (w_Wk_writing_b110 (by omega)  h) ⟨Or.inr rfl, Or.inr rfl, Or.inl rfl, Or.inl rfl, Or.inl rfl, Or.inl rfl, Or.inr rfl, Or.inl rfl, trivial⟩
  · have h := okx_F c13 h
    refine xi_aload_n D_Wk_writing_53 rfl ?_
    refine xi_getR D_Wk_writing_54 F_Wk_12 (zl_fo (g11).1 rfl) ⟨rfl, by decide⟩ (zl_gr (g11).2 rfl rfl) ?_
    refine xi_iload D_Wk_writing_57 rfl ?_
    refine xj_iconst (v := 2) D_Wk_writing_59 rfl ?_
    refine xi_iload_n D_Wk_writing_60 rfl ?_
    refine xi_imul D_Wk_writing_61 ?_
    refine xi_ishl D_Wk_writing_62 ?_
    refine xi_iload_n D_Wk_writing_63 rfl ?_
    refine xj_V2 D_Wk_writing_64 L_Wk_175 C_Tu_byTurns Z_Tu_byTurns (zl_fo (g11).1 rfl) (Nat.le_of_ble_eq_true rfl) (Nat.le_of_eq (Nat.sub_add_cancel (by omega))) (w_Tu_byTurns (by omega) (okx_mono (okx_bd h) ?_))
    intro r14 s15 h
    show Xw _ _ _ _ 67 _ [_] _ _
    refine xi_istore (ls' := [_, _, _, _, _, _, _, _]) D_Wk_writing_67 rfl (by decide) ?_
    refine xi_iload D_Wk_writing_69 rfl ?_
    refine xj_iconst (v := (-1)) D_Wk_writing_71 rfl ?_
    refine xi_icmp_eq D_Wk_writing_72 (fun c16 => ?_) (fun c16 => ?_)
    · have h := okx_T c16 h
      exact xk_wk (w_Wk_writing_b104 (by omega) hR39 h) ⟨Or.inl rfl, Or.inl rfl, Or.inl rfl, Or.inl rfl, Or.inl rfl, Or.inl rfl, Or.inl rfl, Or.inr rfl, trivial⟩
    · have h := okx_F c16 h
      refine xi_aload_n D_Wk_writing_75 rfl ?_
      obtain ⟨g17, h⟩ := okx_ck h
      refine xi_getR D_Wk_writing_76 F_Wk_20 (zl_fo (g17).1 rfl) ⟨rfl, by decide⟩ (zl_gr (g17).2 rfl rfl) ?_
      refine xi_iload D_Wk_writing_79 rfl ?_
      refine xj_V1 D_Wk_writing_81 L_Wk_181 C_Wo_goodOf Z_Wo_goodOf (zl_fo (g17).1 rfl) (Nat.le_of_ble_eq_true rfl) (Nat.le_of_eq (Nat.sub_add_cancel (by omega))) (w_Wo_goodOf (by omega) (okx_mono (okx_bd h) ?_))
      intro r18 s19 h
      show Xw _ _ _ _ 84 _ [_] _ _
      refine xi_iload D_Wk_writing_84 rfl ?_
      refine xi_icmp_le D_Wk_writing_86 (fun c20 => ?_) (fun c20 => ?_)
      · have h := okx_T c20 h
        exact xk_wk (w_Wk_writing_b104 (by omega) hR39 h) ⟨Or.inl rfl, Or.inl rfl, Or.inl rfl, Or.inl rfl, Or.inl rfl, Or.inl rfl, Or.inl rfl, Or.inr rfl, trivial⟩
      · have h := okx_F c20 h
        refine xi_iload D_Wk_writing_89 rfl ?_
        refine xi_istore (ls' := [_, _, _, _, _, _, _, _]) D_Wk_writing_91 rfl (by decide) ?_
        refine xi_aload_n D_Wk_writing_93 rfl ?_
        obtain ⟨g21, h⟩ := okx_ck h
        refine xi_getR D_Wk_writing_94 F_Wk_20 (zl_fo (g21).1 rfl) ⟨rfl, by decide⟩ (zl_gr (g21).2 rfl rfl) ?_
        refine xi_iload D_Wk_writing_97 rfl ?_
        refine xj_V1 D_Wk_writing_99 L_Wk_181 C_Wo_goodOf Z_Wo_goodOf (zl_fo (g21).1 rfl) (Nat.le_of_ble_eq_true rfl) (Nat.le_of_eq (Nat.sub_add_cancel (by omega))) (w_Wo_goodOf (by omega) (okx_mono (okx_bd h) ?_))
        intro r22 s23 h
        show Xw _ _ _ _ 102 _ [_] _ _
        refine xi_istore (ls' := [_, _, _, _, _, _, _, _]) D_Wk_writing_102 rfl (by decide) ?_
        exact xk_wk (w_Wk_writing_b104 (by omega) hR39 h) ⟨Or.inl rfl, Or.inl rfl, Or.inl rfl, Or.inl rfl, Or.inl rfl, Or.inl rfl, Or.inl rfl, Or.inr rfl, trivial⟩
noncomputable def f_Wk_writing_h39 : Nat → Int32 → Int32 → Int32 → Int32 → Int32 → Int32 → Sg → Option ((Option Int32) × Sg)
  | 0, _, _, _, _, _, _, _ => none
  | n + 1, x1, x2, x3, x4, x5, x6, s => f_Wk_writing_b39 (f_Wk_writing_h39 n) x1 x2 x3 x4 x5 x6 s
theorem w_Wk_writing_h39 {d : Nat} {Q : Option (Option Value) → Sg → Prop} (hd : 9 ≤ d) : ∀ (n : Nat) (x1 : Int32) (x2 : Int32) (x3 : Int32) (x4 : Int32) (x5 : Int32) (x6 : Int32) (s : Sg), okx (zq_TI Q) (f_Wk_writing_h39 n x1 x2 x3 x4 x5 x6 s) → Xw d M_Wk_writing 1 6 39 [.ref 4, .int x1, .int x2, .int x3, .int x4, .int x5, .int x6, .retAddr 0] [] s Q := by
  intro n
  induction n with
  | zero => intro x1 x2 x3 x4 x5 x6 s h; exact okx_no h
  | succ n ih => intro x1 x2 x3 x4 x5 x6 s h; exact w_Wk_writing_b39 hd  ih  h
noncomputable def f_Wk_writing (x1 : Int32) (x2 : Int32) (s : Sg) : Option ((Option Int32) × Sg) :=
  f_ck (zl_B s) <|
  f_bd (f_Wk_isPerson x1 s) fun r2 s3 =>
  if r2 = 0 then
    some (none, s3)
  else
    f_bd (f_Wk_isWithin x2 1 s3) fun r5 s6 =>
    if r5 = 0 then
      some (none, s6)
    else
      f_ck (zl_B s6) <|
      f_bd (f_Wk_reachedAsIs  s6) fun r9 s10 =>
      f_Wk_writing_h39  zl_fl x1 x2 r9 (-1) (-1073741824) 0 s10
theorem w_Wk_writing {x1 : Int32} {x2 : Int32} {s : Sg} {d : Nat} {Q : Option (Option Value) → Sg → Prop} (hd : 9 ≤ d) (h : okx (zq_TI Q) (f_Wk_writing x1 x2 s)) : Cw d M_Wk_writing [.ref 4, .int x1, .int x2] s Q := by
  refine Cw.of (by decide +kernel) (Nat.le_of_ble_eq_true rfl) ?_
  show Xw d M_Wk_writing 1 6 0 [.ref 4, .int x1, .int x2, .retAddr 0, .retAddr 0, .retAddr 0, .retAddr 0, .retAddr 0] [] s _
  unfold f_Wk_writing at h
  refine xi_aload_n D_Wk_writing_0 rfl ?_
  refine xi_iload_n D_Wk_writing_1 rfl ?_
  obtain ⟨g1, h⟩ := okx_ck h
  refine xj_V1 D_Wk_writing_2 L_Wk_131 C_Wk_isPerson Z_Wk_isPerson (zl_fo (g1).1 rfl) (Nat.le_of_ble_eq_true rfl) (Nat.le_of_eq (Nat.sub_add_cancel (by omega))) (w_Wk_isPerson (by omega) (okx_mono (okx_bd h) ?_))
  intro r2 s3 h
  show Xw _ _ _ _ 5 _ [_] _ _
  refine xi_if_eq D_Wk_writing_5 (fun c4 => ?_) (fun c4 => ?_)
  · have h := okx_T c4 h
    exact xi_throw ⟨rfl, rfl, D_Wk_writing_16.1, D_Wk_writing_19.1, D_Wk_writing_20.1, D_Wk_writing_23.1⟩ (by omega) (by decide) (okx_NTI h)
  · have h := okx_F c4 h
    refine xi_iload_n D_Wk_writing_8 rfl ?_
    refine xj_iconst (v := 1) D_Wk_writing_9 rfl ?_
    refine xj_S2 D_Wk_writing_10 L_Wk_111 C_Wk_isWithin Z_Wk_isWithin (Nat.le_of_ble_eq_true rfl) (Nat.le_of_eq (Nat.sub_add_cancel (by omega))) (w_Wk_isWithin (by omega) (okx_mono (okx_bd h) ?_))
    intro r5 s6 h
    show Xw _ _ _ _ 13 _ [_] _ _
    refine xi_if_ne D_Wk_writing_13 (fun c7 => ?_) (fun c7 => ?_)
    · have h := okx_F c7 h
      refine xi_aload_n D_Wk_writing_24 rfl ?_
      obtain ⟨g8, h⟩ := okx_ck h
      refine xj_V0 D_Wk_writing_25 L_Wk_202 C_Wk_reachedAsIs Z_Wk_reachedAsIs (zl_fo (g8).1 rfl) (Nat.le_of_ble_eq_true rfl) (Nat.le_of_eq (Nat.sub_add_cancel (by omega))) (w_Wk_reachedAsIs (by omega) (okx_mono (okx_bd h) ?_))
      intro r9 s10 h
      show Xw _ _ _ _ 28 _ [_] _ _
      refine xi_istore_n (ls' := [_, _, _, _, _, _, _, _]) D_Wk_writing_28 rfl (by decide) ?_
      refine xj_iconst (v := (-1)) D_Wk_writing_29 rfl ?_
      refine xi_istore (ls' := [_, _, _, _, _, _, _, _]) D_Wk_writing_30 rfl (by decide) ?_
      refine xi_ldc D_Wk_writing_32 K_Wk_195 ?_
      refine xi_istore (ls' := [_, _, _, _, _, _, _, _]) D_Wk_writing_34 rfl (by decide) ?_
      refine xj_iconst (v := 0) D_Wk_writing_36 rfl ?_
      refine xi_istore (ls' := [_, _, _, _, _, _, _, _]) D_Wk_writing_37 rfl (by decide) ?_
      exact w_Wk_writing_h39 (by omega)  _ _ _ _ _ _ _ _ h
    · have h := okx_T c7 h
      exact xi_throw ⟨rfl, rfl, D_Wk_writing_16.1, D_Wk_writing_19.1, D_Wk_writing_20.1, D_Wk_writing_23.1⟩ (by omega) (by decide) (okx_NTI h)
noncomputable def f_Wk_written (x1 : Int32) (x2 : Int32) (s : Sg) : Option ((Option Int32) × Sg) :=
  f_ck (zl_B s) <|
  f_bd (f_Wk_isStep x1 x2 s) fun r2 s3 =>
  if r2 = 0 then
    some (none, s3)
  else
    f_ck (zl_B s3) <|
    f_bd (f_Tu_lookAsIs  s3) fun r6 s7 =>
    f_ck (zl_B s7) <|
    f_bd (f_Tu_byTurns (x2 <<< ((2 * x1) &&& 31)) x1 s7) fun r9 s10 =>
    if r9 = (-1) then
      some (none, s10)
    else
      f_ck (zl_B s10) <|
      f_bd (f_Wo_goodOf r9 s10) fun r13 s14 =>
      some ((some r13), s14)
theorem w_Wk_written {x1 : Int32} {x2 : Int32} {s : Sg} {d : Nat} {Q : Option (Option Value) → Sg → Prop} (hd : 9 ≤ d) (h : okx (zq_TI Q) (f_Wk_written x1 x2 s)) : Cw d M_Wk_written [.ref 4, .int x1, .int x2] s Q := by
  refine Cw.of (by decide +kernel) (Nat.le_of_ble_eq_true rfl) ?_
  show Xw d M_Wk_written 1 6 0 [.ref 4, .int x1, .int x2, .retAddr 0] [] s _
  unfold f_Wk_written at h
  refine xi_aload_n D_Wk_written_0 rfl ?_
  refine xi_iload_n D_Wk_written_1 rfl ?_
  refine xi_iload_n D_Wk_written_2 rfl ?_
  obtain ⟨g1, h⟩ := okx_ck h
  refine xj_V2 D_Wk_written_3 L_Wk_71 C_Wk_isStep Z_Wk_isStep (zl_fo (g1).1 rfl) (Nat.le_of_ble_eq_true rfl) (Nat.le_of_eq (Nat.sub_add_cancel (by omega))) (w_Wk_isStep (by omega) (okx_mono (okx_bd h) ?_))
  intro r2 s3 h
  show Xw _ _ _ _ 6 _ [_] _ _
  refine xi_if_ne D_Wk_written_6 (fun c4 => ?_) (fun c4 => ?_)
  · have h := okx_F c4 h
    refine xi_aload_n D_Wk_written_17 rfl ?_
    obtain ⟨g5, h⟩ := okx_ck h
    refine xi_getR D_Wk_written_18 F_Wk_12 (zl_fo (g5).1 rfl) ⟨rfl, by decide⟩ (zl_gr (g5).2 rfl rfl) ?_
    refine xj_V0 D_Wk_written_21 L_Wk_140 C_Tu_lookAsIs Z_Tu_lookAsIs (zl_fo (g5).1 rfl) (Nat.le_of_ble_eq_true rfl) (Nat.le_of_eq (Nat.sub_add_cancel (by omega))) (w_Tu_lookAsIs (by omega) (okx_mono (okx_bd h) ?_))
    intro r6 s7 h
    show Xw _ _ _ _ 24 _ [] _ _
    refine xi_aload_n D_Wk_written_24 rfl ?_
    obtain ⟨g8, h⟩ := okx_ck h
    refine xi_getR D_Wk_written_25 F_Wk_12 (zl_fo (g8).1 rfl) ⟨rfl, by decide⟩ (zl_gr (g8).2 rfl rfl) ?_
    refine xi_iload_n D_Wk_written_28 rfl ?_
    refine xj_iconst (v := 2) D_Wk_written_29 rfl ?_
    refine xi_iload_n D_Wk_written_30 rfl ?_
    refine xi_imul D_Wk_written_31 ?_
    refine xi_ishl D_Wk_written_32 ?_
    refine xi_iload_n D_Wk_written_33 rfl ?_
    refine xj_V2 D_Wk_written_34 L_Wk_175 C_Tu_byTurns Z_Tu_byTurns (zl_fo (g8).1 rfl) (Nat.le_of_ble_eq_true rfl) (Nat.le_of_eq (Nat.sub_add_cancel (by omega))) (w_Tu_byTurns (by omega) (okx_mono (okx_bd h) ?_))
    intro r9 s10 h
    show Xw _ _ _ _ 37 _ [_] _ _
    refine xi_istore_n (ls' := [_, _, _, _]) D_Wk_written_37 rfl (by decide) ?_
    refine xi_iload_n D_Wk_written_38 rfl ?_
    refine xj_iconst (v := (-1)) D_Wk_written_39 rfl ?_
    refine xi_icmp_ne D_Wk_written_40 (fun c11 => ?_) (fun c11 => ?_)
    · have h := okx_F c11 h
      refine xi_aload_n D_Wk_written_51 rfl ?_
      obtain ⟨g12, h⟩ := okx_ck h
      refine xi_getR D_Wk_written_52 F_Wk_20 (zl_fo (g12).1 rfl) ⟨rfl, by decide⟩ (zl_gr (g12).2 rfl rfl) ?_
      refine xi_iload_n D_Wk_written_55 rfl ?_
      refine xj_V1 D_Wk_written_56 L_Wk_181 C_Wo_goodOf Z_Wo_goodOf (zl_fo (g12).1 rfl) (Nat.le_of_ble_eq_true rfl) (Nat.le_of_eq (Nat.sub_add_cancel (by omega))) (w_Wo_goodOf (by omega) (okx_mono (okx_bd h) ?_))
      intro r13 s14 h
      show Xw _ _ _ _ 59 _ [_] _ _
      exact xi_ireturn D_Wk_written_59 rfl (rfl) (okx_TI h)
    · have h := okx_T c11 h
      exact xi_throw ⟨rfl, rfl, D_Wk_written_43.1, D_Wk_written_46.1, D_Wk_written_47.1, D_Wk_written_50.1⟩ (by omega) (by decide) (okx_NTI h)
  · have h := okx_T c4 h
    exact xi_throw ⟨rfl, rfl, D_Wk_written_9.1, D_Wk_written_12.1, D_Wk_written_13.1, D_Wk_written_16.1⟩ (by omega) (by decide) (okx_NTI h)
