/-! by a program of ours (wip/whole/gen/func.py, mkall.py) out of the listing: Tu_goesOver Wk_stepIn Wo_cutSum Wo_joined Wo_lineValue Wo_fill Tu_held Tu_chosen Tu_byTurns Tu_isSettled Tu_lookAtAsked Tu_lookAsIs Tu_lookAtDeal Tu_lookAtPledge Tu_lookAtRight -/
noncomputable def f_Tu_goesOver (x1 : Int32) (s : Sg) : Option (Int32 × Sg) :=
  f_ck (zl_B s) <|
  f_bd (f_Tu_shareOf 21 (mI s 5 6) x1 s) fun r2 s3 =>
  f_ck (zl_B s3) <|
  if (mI s3 5 4) = 2 then
    if 0 ≤ (lg_cmp r2 ((240 : Int64) * (Int32.toInt64 (mI s3 5 7)))) then
      some (0, s3)
    else
      some (1, s3)
  else
    f_bd (f_Tu_shareOf 26 (mI s3 5 6) x1 s3) fun r7 s8 =>
    f_ck (zl_B s8) <|
    f_bd (f_Tu_paidTo (mI s8 5 6) s8) fun r10 s11 =>
    if (lg_cmp (r7 + r10) r2) ≤ 0 then
      some (0, s11)
    else
      some (1, s11)
theorem w_Tu_goesOver {x1 : Int32} {s : Sg} {d : Nat} {Q : Option (Option Value) → Sg → Prop} (hd : 3 ≤ d) (h : okx (zq_I Q) (f_Tu_goesOver x1 s)) : Cw d M_Tu_goesOver [.ref 5, .int x1] s Q := by
  refine Cw.of (by decide +kernel) (Nat.le_of_ble_eq_true rfl) ?_
  show Xw d M_Tu_goesOver 0 0 0 [.ref 5, .int x1, .retAddr 0, .retAddr 0] [] s _
  unfold f_Tu_goesOver at h
  refine xi_aload_n D_Tu_goesOver_0 rfl ?_
  refine xi_aload_n D_Tu_goesOver_1 rfl ?_
  obtain ⟨g1, h⟩ := okx_ck h
  refine xi_getR D_Tu_goesOver_2 F_Tu_26 (zl_fo (g1).1 rfl) ⟨rfl, by decide⟩ (zl_gr (g1).2 rfl rfl) ?_
  refine xi_aload_n D_Tu_goesOver_5 rfl ?_
  refine xi_getI D_Tu_goesOver_6 F_Tu_61 (zl_fo (g1).1 rfl) ⟨rfl, by decide⟩ ?_
  refine xi_iload_n D_Tu_goesOver_9 rfl ?_
  refine xj_V3 D_Tu_goesOver_10 L_Tu_95 C_Tu_shareOf Z_Tu_shareOf (zl_fo (g1).1 rfl) (Nat.le_of_ble_eq_true rfl) (Nat.le_of_eq (Nat.sub_add_cancel (by omega))) (w_Tu_shareOf (by omega) (okx_mono (okx_bd h) ?_))
  intro r2 s3 h
  show Xw _ _ _ _ 13 _ [_] _ _
  refine xi_lstore_n (ls' := [_, _, _, _]) D_Tu_goesOver_13 rfl (by decide) ?_
  refine xi_aload_n D_Tu_goesOver_14 rfl ?_
  obtain ⟨g4, h⟩ := okx_ck h
  refine xi_getI D_Tu_goesOver_15 F_Tu_40 (zl_fo (g4).1 rfl) ⟨rfl, by decide⟩ ?_
  refine xj_iconst (v := 2) D_Tu_goesOver_18 rfl ?_
  refine xi_icmp_ne D_Tu_goesOver_19 (fun c5 => ?_) (fun c5 => ?_)
  · have h := okx_F c5 h
    refine xi_aload_n D_Tu_goesOver_42 rfl ?_
    refine xi_aload_n D_Tu_goesOver_43 rfl ?_
    refine xi_getR D_Tu_goesOver_44 F_Tu_30 (zl_fo (g4).1 rfl) ⟨rfl, by decide⟩ (zl_gr (g4).2 rfl rfl) ?_
    refine xi_aload_n D_Tu_goesOver_47 rfl ?_
    refine xi_getI D_Tu_goesOver_48 F_Tu_61 (zl_fo (g4).1 rfl) ⟨rfl, by decide⟩ ?_
    refine xi_iload_n D_Tu_goesOver_51 rfl ?_
    refine xj_V3 D_Tu_goesOver_52 L_Tu_95 C_Tu_shareOf Z_Tu_shareOf (zl_fo (g4).1 rfl) (Nat.le_of_ble_eq_true rfl) (Nat.le_of_eq (Nat.sub_add_cancel (by omega))) (w_Tu_shareOf (by omega) (okx_mono (okx_bd h) ?_))
    intro r7 s8 h
    show Xw _ _ _ _ 55 _ [_] _ _
    refine xi_aload_n D_Tu_goesOver_55 rfl ?_
    refine xi_aload_n D_Tu_goesOver_56 rfl ?_
    obtain ⟨g9, h⟩ := okx_ck h
    refine xi_getI D_Tu_goesOver_57 F_Tu_61 (zl_fo (g9).1 rfl) ⟨rfl, by decide⟩ ?_
    refine xj_V1 D_Tu_goesOver_60 L_Tu_99 C_Tu_paidTo Z_Tu_paidTo (zl_fo (g9).1 rfl) (Nat.le_of_ble_eq_true rfl) (Nat.le_of_eq (Nat.sub_add_cancel (by omega))) (w_Tu_paidTo (by omega) (okx_mono (okx_bd h) ?_))
    intro r10 s11 h
    show Xw _ _ _ _ 63 _ [_, _] _ _
    refine xi_ladd D_Tu_goesOver_63 ?_
    refine xi_lload_n D_Tu_goesOver_64 rfl ?_
    refine xi_lcmp D_Tu_goesOver_65 ?_
    refine xi_if_le D_Tu_goesOver_66 (fun c12 => ?_) (fun c12 => ?_)
    · have h := okx_T c12 h
      refine xj_iconst (v := 0) D_Tu_goesOver_73 rfl ?_
      exact xi_ireturn D_Tu_goesOver_74 rfl (rfl) (okx_I h)
    · have h := okx_F c12 h
      refine xj_iconst (v := 1) D_Tu_goesOver_69 rfl ?_
      refine xi_goto D_Tu_goesOver_70 ?_
      exact xi_ireturn D_Tu_goesOver_74 rfl (rfl) (okx_I h)
  · have h := okx_T c5 h
    refine xi_lload_n D_Tu_goesOver_22 rfl ?_
    refine xi_ldc2 D_Tu_goesOver_23 K_Tu_103 ?_
    refine xi_aload_n D_Tu_goesOver_26 rfl ?_
    refine xi_getI D_Tu_goesOver_27 F_Tu_64 (zl_fo (g4).1 rfl) ⟨rfl, by decide⟩ ?_
    refine xi_i2l D_Tu_goesOver_30 ?_
    refine xi_lmul D_Tu_goesOver_31 ?_
    refine xi_lcmp D_Tu_goesOver_32 ?_
    refine xi_if_ge D_Tu_goesOver_33 (fun c6 => ?_) (fun c6 => ?_)
    · have h := okx_T c6 h
      refine xj_iconst (v := 0) D_Tu_goesOver_40 rfl ?_
      exact xi_ireturn D_Tu_goesOver_41 rfl (rfl) (okx_I h)
    · have h := okx_F c6 h
      refine xj_iconst (v := 1) D_Tu_goesOver_36 rfl ?_
      refine xi_goto D_Tu_goesOver_37 ?_
      exact xi_ireturn D_Tu_goesOver_41 rfl (rfl) (okx_I h)
noncomputable def f_Wk_stepIn (x0 : Int32) (x1 : Int32) (s : Sg) : Option (Int32 × Sg) :=
  some (((x0 >>> ((2 * x1) &&& 31)) &&& 3), s)
theorem w_Wk_stepIn {x0 : Int32} {x1 : Int32} {s : Sg} {d : Nat} {Q : Option (Option Value) → Sg → Prop} (hd : 1 ≤ d) (h : okx (zq_I Q) (f_Wk_stepIn x0 x1 s)) : Cw d M_Wk_stepIn [.int x0, .int x1] s Q := by
  refine Cw.of (by decide +kernel) (Nat.le_of_ble_eq_true rfl) ?_
  show Xw d M_Wk_stepIn 0 0 0 [.int x0, .int x1] [] s _
  unfold f_Wk_stepIn at h
  refine xi_iload_n D_Wk_stepIn_0 rfl ?_
  refine xj_iconst (v := 2) D_Wk_stepIn_1 rfl ?_
  refine xi_iload_n D_Wk_stepIn_2 rfl ?_
  refine xi_imul D_Wk_stepIn_3 ?_
  refine xi_ishr D_Wk_stepIn_4 ?_
  refine xj_iconst (v := 3) D_Wk_stepIn_5 rfl ?_
  refine xi_iand D_Wk_stepIn_6 ?_
  exact xi_ireturn D_Wk_stepIn_7 rfl (rfl) (okx_I h)
noncomputable def f_Wo_cutSum_b44 (R5 : Int32 → Int64 → Int32 → Sg → Option (Int32 × Sg)) (x1 : Int32) (x2 : Int64) (x4 : Int32) (s : Sg) : Option (Int32 × Sg) :=
  R5 x1 x2 (x4 + 1) s
theorem w_Wo_cutSum_b44 {x1 : Int32} {x2 : Int64} {x4 : Int32} {s : Sg} {d : Nat} {Q : Option (Option Value) → Sg → Prop} (hd : 2 ≤ d) {R5 : Int32 → Int64 → Int32 → Sg → Option (Int32 × Sg)} (hR5 : ∀ (x1 : Int32) (x2 : Int64) (x4 : Int32) (s : Sg), okx (zq_I Q) (R5 x1 x2 x4 s) → Xw d M_Wo_cutSum 0 0 5 [.ref 6, .int x1, .long x2, .retAddr 0, .int x4] [] s Q) (h : okx (zq_I Q) (f_Wo_cutSum_b44 R5 x1 x2 x4 s)) : Xw d M_Wo_cutSum 0 0 44 [.ref 6, .int x1, .long x2, .retAddr 0, .int x4] [] s Q := by
  unfold f_Wo_cutSum_b44 at h
  refine xi_iinc (v := _ + 1) (ls' := [_, _, _, _, _]) D_Wo_cutSum_44 rfl rfl rfl (by decide) ?_
  refine xi_goto D_Wo_cutSum_47 ?_
  exact hR5 _ _ _ _ h
noncomputable def f_Wo_cutSum_b50 (x2 : Int64) (s : Sg) : Option (Int32 × Sg) :=
  let v6 : Int64 := (if x2 < (99999 : Int64) then x2 else (99999 : Int64))
  some ((Int64.toInt32 (if v6 < ((-99999) : Int64) then ((-99999) : Int64) else v6)), s)
theorem w_Wo_cutSum_b50 {x2 : Int64} {s : Sg} {d : Nat} {Q : Option (Option Value) → Sg → Prop} (hd : 2 ≤ d) (h : okx (zq_I Q) (f_Wo_cutSum_b50 x2 s)) : Xw d M_Wo_cutSum 0 0 50 [.retAddr 0, .retAddr 0, .long x2, .retAddr 0, .retAddr 0] [] s Q := by
  unfold f_Wo_cutSum_b50 at h
  refine xi_ldc2 D_Wo_cutSum_50 K_Wo_83 ?_
  refine xi_ldc2 D_Wo_cutSum_53 K_Wo_85 ?_
  refine xi_lload_n D_Wo_cutSum_56 rfl ?_
  refine xi_minl D_Wo_cutSum_57 L_Wo_87 ⟨by omega, Nat.le_of_ble_eq_true rfl⟩ ?_
  refine xi_maxl D_Wo_cutSum_60 L_Wo_93 ⟨by omega, Nat.le_of_ble_eq_true rfl⟩ ?_
  refine xi_l2i D_Wo_cutSum_63 ?_
  exact xi_ireturn D_Wo_cutSum_64 rfl (rfl) (okx_I h)
noncomputable def f_Wo_cutSum_b5 (R5 : Int32 → Int64 → Int32 → Sg → Option (Int32 × Sg)) (x1 : Int32) (x2 : Int64) (x4 : Int32) (s : Sg) : Option (Int32 × Sg) :=
  f_ck (zl_B s) <|
  if (mI s 7 2) ≤ x4 then
    f_Wo_cutSum_b50  x2 s
  else
    f_ck (vp_in x4 8) <|
    if ((mI s 10 (Int32.toNatClampNeg x4)) &&& (x1 ^^^ (-1))) = 0 then
      f_ck (vp_in x4 8) <|
      f_Wo_cutSum_b44 R5 x1 (x2 + (mL s 19 (Int32.toNatClampNeg x4))) x4 s
    else
      f_Wo_cutSum_b44 R5 x1 x2 x4 s
theorem w_Wo_cutSum_b5 {x1 : Int32} {x2 : Int64} {x4 : Int32} {s : Sg} {d : Nat} {Q : Option (Option Value) → Sg → Prop} (hd : 2 ≤ d) {R5 : Int32 → Int64 → Int32 → Sg → Option (Int32 × Sg)} (hR5 : ∀ (x1 : Int32) (x2 : Int64) (x4 : Int32) (s : Sg), okx (zq_I Q) (R5 x1 x2 x4 s) → Xw d M_Wo_cutSum 0 0 5 [.ref 6, .int x1, .long x2, .retAddr 0, .int x4] [] s Q) (h : okx (zq_I Q) (f_Wo_cutSum_b5 R5 x1 x2 x4 s)) : Xw d M_Wo_cutSum 0 0 5 [.ref 6, .int x1, .long x2, .retAddr 0, .int x4] [] s Q := by
  unfold f_Wo_cutSum_b5 at h
  refine xi_iload D_Wo_cutSum_5 rfl ?_
  refine xi_aload_n D_Wo_cutSum_7 rfl ?_
  obtain ⟨g1, h⟩ := okx_ck h
  refine xi_getR D_Wo_cutSum_8 F_Wo_12 (zl_fo (g1).1 rfl) ⟨rfl, by decide⟩ (zl_gr (g1).2 rfl rfl) ?_
  refine xi_getI D_Wo_cutSum_11 F_Wo_68 (zl_fo (g1).1 rfl) ⟨rfl, by decide⟩ ?_
  refine xi_icmp_ge D_Wo_cutSum_14 (fun c2 => ?_) (fun c2 => ?_)
  · have h := okx_T c2 h
    exact xk_wk (w_Wo_cutSum_b50 (by omega)  h) ⟨Or.inr rfl, Or.inr rfl, Or.inl rfl, Or.inl rfl, Or.inr rfl, trivial⟩
  · have h := okx_F c2 h
    refine xi_aload_n D_Wo_cutSum_17 rfl ?_
    refine xi_getR D_Wo_cutSum_18 F_Wo_12 (zl_fo (g1).1 rfl) ⟨rfl, by decide⟩ (zl_gr (g1).2 rfl rfl) ?_
    refine xi_getR D_Wo_cutSum_21 F_Wo_80 (zl_fo (g1).1 rfl) ⟨rfl, by decide⟩ (zl_gr (g1).2 rfl rfl) ?_
    refine xi_iload D_Wo_cutSum_24 rfl ?_
    obtain ⟨g3, h⟩ := okx_ck h
    refine xj_iald D_Wo_cutSum_26 (zl_fx (g1).1 rfl) (zl_ib (n := 8) rfl (g3)) ?_
    refine xi_iload_n D_Wo_cutSum_27 rfl ?_
    refine xj_iconst (v := (-1)) D_Wo_cutSum_28 rfl ?_
    refine xi_ixor D_Wo_cutSum_29 ?_
    refine xi_iand D_Wo_cutSum_30 ?_
    refine xi_if_ne D_Wo_cutSum_31 (fun c4 => ?_) (fun c4 => ?_)
    · have h := okx_F c4 h
      exact w_Wo_cutSum_b44 (by omega) hR5 h
    · have h := okx_T c4 h
      refine xi_lload_n D_Wo_cutSum_34 rfl ?_
      refine xi_aload_n D_Wo_cutSum_35 rfl ?_
      refine xi_getR D_Wo_cutSum_36 F_Wo_26 (zl_fo (g1).1 rfl) ⟨rfl, by decide⟩ (zl_gr (g1).2 rfl rfl) ?_
      refine xi_iload D_Wo_cutSum_39 rfl ?_
      obtain ⟨g5, h⟩ := okx_ck h
      refine xj_lald D_Wo_cutSum_41 (zl_fx (g1).1 rfl) (zl_ib (n := 8) rfl (g5)) ?_
      refine xi_ladd D_Wo_cutSum_42 ?_
      refine xi_lstore_n (ls' := [_, _, _, _, _]) D_Wo_cutSum_43 rfl (by decide) ?_
      exact w_Wo_cutSum_b44 (by omega) hR5 h
noncomputable def f_Wo_cutSum_h5 : Nat → Int32 → Int64 → Int32 → Sg → Option (Int32 × Sg)
  | 0, _, _, _, _ => none
  | n + 1, x1, x2, x4, s => f_Wo_cutSum_b5 (f_Wo_cutSum_h5 n) x1 x2 x4 s
theorem w_Wo_cutSum_h5 {d : Nat} {Q : Option (Option Value) → Sg → Prop} (hd : 2 ≤ d) : ∀ (n : Nat) (x1 : Int32) (x2 : Int64) (x4 : Int32) (s : Sg), okx (zq_I Q) (f_Wo_cutSum_h5 n x1 x2 x4 s) → Xw d M_Wo_cutSum 0 0 5 [.ref 6, .int x1, .long x2, .retAddr 0, .int x4] [] s Q := by
  intro n
  induction n with
  | zero => intro x1 x2 x4 s h; exact okx_no h
  | succ n ih => intro x1 x2 x4 s h; exact w_Wo_cutSum_b5 hd  ih  h
noncomputable def f_Wo_cutSum (x1 : Int32) (s : Sg) : Option (Int32 × Sg) :=
  f_Wo_cutSum_h5  zl_fl x1 0 0 s
theorem w_Wo_cutSum {x1 : Int32} {s : Sg} {d : Nat} {Q : Option (Option Value) → Sg → Prop} (hd : 2 ≤ d) (h : okx (zq_I Q) (f_Wo_cutSum x1 s)) : Cw d M_Wo_cutSum [.ref 6, .int x1] s Q := by
  refine Cw.of (by decide +kernel) (Nat.le_of_ble_eq_true rfl) ?_
  show Xw d M_Wo_cutSum 0 0 0 [.ref 6, .int x1, .retAddr 0, .retAddr 0, .retAddr 0] [] s _
  unfold f_Wo_cutSum at h
  refine xj_lconst (v := 0) D_Wo_cutSum_0 rfl ?_
  refine xi_lstore_n (ls' := [_, _, _, _, _]) D_Wo_cutSum_1 rfl (by decide) ?_
  refine xj_iconst (v := 0) D_Wo_cutSum_2 rfl ?_
  refine xi_istore (ls' := [_, _, _, _, _]) D_Wo_cutSum_3 rfl (by decide) ?_
  exact w_Wo_cutSum_h5 (by omega)  _ _ _ _ _ h
noncomputable def f_Wo_joined_b116  (s : Sg) : Option (Int32 × Sg) :=
  some (1, s)
theorem w_Wo_joined_b116 {s : Sg} {d : Nat} {Q : Option (Option Value) → Sg → Prop} (hd : 1 ≤ d) (h : okx (zq_I Q) (f_Wo_joined_b116  s)) : Xw d M_Wo_joined 0 0 116 [.retAddr 0, .retAddr 0, .retAddr 0] [] s Q := by
  unfold f_Wo_joined_b116 at h
  refine xj_iconst (v := 1) D_Wo_joined_116 rfl ?_
  refine xi_goto D_Wo_joined_117 ?_
  exact xi_ireturn D_Wo_joined_121 rfl (rfl) (okx_I h)
noncomputable def f_Wo_joined (x0 : Int32) (x1 : Int32) (x2 : Int32) (s : Sg) : Option (Int32 × Sg) :=
  if x0 = 10 then
    if x1 = 0 then
      some (0, s)
    else
      if x2 = 0 then
        some (0, s)
      else
        some (1, s)
  else
  if x0 = 42 then
    some ((x1 * x2), s)
  else
  if x0 = 43 then
    some ((x1 + x2), s)
  else
  if x0 = 45 then
    some ((x1 - x2), s)
  else
  if x0 = 60 then
    if x2 ≤ x1 then
      some (0, s)
    else
      some (1, s)
  else
  if x0 = 61 then
    if x1 = x2 then
      some (1, s)
    else
      some (0, s)
  else
    if x1 = 0 then
      if x2 = 0 then
        some (0, s)
      else
        f_Wo_joined_b116   s
    else
      f_Wo_joined_b116   s
theorem w_Wo_joined {x0 : Int32} {x1 : Int32} {x2 : Int32} {s : Sg} {d : Nat} {Q : Option (Option Value) → Sg → Prop} (hd : 1 ≤ d) (h : okx (zq_I Q) (f_Wo_joined x0 x1 x2 s)) : Cw d M_Wo_joined [.int x0, .int x1, .int x2] s Q := by
  refine Cw.of (by decide +kernel) (Nat.le_of_ble_eq_true rfl) ?_
  show Xw d M_Wo_joined 0 0 0 [.int x0, .int x1, .int x2] [] s _
  unfold f_Wo_joined at h
  refine xi_iload_n D_Wo_joined_0 rfl ?_
  by_cases c1 : x0 = 10
  · have h := okx_T c1 h
    refine xi_lookup (tgt := 94) D_Wo_joined_1 (by decide) (by rw [c1]; decide) ?_
    refine xi_iload_n D_Wo_joined_94 rfl ?_
    refine xi_if_eq D_Wo_joined_95 (fun c2 => ?_) (fun c2 => ?_)
    · have h := okx_T c2 h
      refine xj_iconst (v := 0) D_Wo_joined_106 rfl ?_
      exact xi_ireturn D_Wo_joined_107 rfl (rfl) (okx_I h)
    · have h := okx_F c2 h
      refine xi_iload_n D_Wo_joined_98 rfl ?_
      refine xi_if_eq D_Wo_joined_99 (fun c3 => ?_) (fun c3 => ?_)
      · have h := okx_T c3 h
        refine xj_iconst (v := 0) D_Wo_joined_106 rfl ?_
        exact xi_ireturn D_Wo_joined_107 rfl (rfl) (okx_I h)
      · have h := okx_F c3 h
        refine xj_iconst (v := 1) D_Wo_joined_102 rfl ?_
        refine xi_goto D_Wo_joined_103 ?_
        exact xi_ireturn D_Wo_joined_107 rfl (rfl) (okx_I h)
  have h := okx_F c1 h
  by_cases c4 : x0 = 42
  · have h := okx_T c4 h
    refine xi_lookup (tgt := 68) D_Wo_joined_1 (by decide) (by rw [c4]; decide) ?_
    refine xi_iload_n D_Wo_joined_68 rfl ?_
    refine xi_iload_n D_Wo_joined_69 rfl ?_
    refine xi_imul D_Wo_joined_70 ?_
    exact xi_ireturn D_Wo_joined_71 rfl (rfl) (okx_I h)
  have h := okx_F c4 h
  by_cases c5 : x0 = 43
  · have h := okx_T c5 h
    refine xi_lookup (tgt := 60) D_Wo_joined_1 (by decide) (by rw [c5]; decide) ?_
    refine xi_iload_n D_Wo_joined_60 rfl ?_
    refine xi_iload_n D_Wo_joined_61 rfl ?_
    refine xi_iadd D_Wo_joined_62 ?_
    exact xi_ireturn D_Wo_joined_63 rfl (rfl) (okx_I h)
  have h := okx_F c5 h
  by_cases c6 : x0 = 45
  · have h := okx_T c6 h
    refine xi_lookup (tgt := 64) D_Wo_joined_1 (by decide) (by rw [c6]; decide) ?_
    refine xi_iload_n D_Wo_joined_64 rfl ?_
    refine xi_iload_n D_Wo_joined_65 rfl ?_
    refine xi_isub D_Wo_joined_66 ?_
    exact xi_ireturn D_Wo_joined_67 rfl (rfl) (okx_I h)
  have h := okx_F c6 h
  by_cases c7 : x0 = 60
  · have h := okx_T c7 h
    refine xi_lookup (tgt := 72) D_Wo_joined_1 (by decide) (by rw [c7]; decide) ?_
    refine xi_iload_n D_Wo_joined_72 rfl ?_
    refine xi_iload_n D_Wo_joined_73 rfl ?_
    refine xi_icmp_ge D_Wo_joined_74 (fun c8 => ?_) (fun c8 => ?_)
    · have h := okx_T c8 h
      refine xj_iconst (v := 0) D_Wo_joined_81 rfl ?_
      exact xi_ireturn D_Wo_joined_82 rfl (rfl) (okx_I h)
    · have h := okx_F c8 h
      refine xj_iconst (v := 1) D_Wo_joined_77 rfl ?_
      refine xi_goto D_Wo_joined_78 ?_
      exact xi_ireturn D_Wo_joined_82 rfl (rfl) (okx_I h)
  have h := okx_F c7 h
  by_cases c9 : x0 = 61
  · have h := okx_T c9 h
    refine xi_lookup (tgt := 83) D_Wo_joined_1 (by decide) (by rw [c9]; decide) ?_
    refine xi_iload_n D_Wo_joined_83 rfl ?_
    refine xi_iload_n D_Wo_joined_84 rfl ?_
    refine xi_icmp_ne D_Wo_joined_85 (fun c10 => ?_) (fun c10 => ?_)
    · have h := okx_F c10 h
      refine xj_iconst (v := 0) D_Wo_joined_92 rfl ?_
      exact xi_ireturn D_Wo_joined_93 rfl (rfl) (okx_I h)
    · have h := okx_T c10 h
      refine xj_iconst (v := 1) D_Wo_joined_88 rfl ?_
      refine xi_goto D_Wo_joined_89 ?_
      exact xi_ireturn D_Wo_joined_93 rfl (rfl) (okx_I h)
  have h := okx_F c9 h
  refine xi_lookup (tgt := 108) D_Wo_joined_1 (by decide) (by show (1 : Int) + Op.lookupswitch.offset [(10, 93), (42, 67), (43, 59), (45, 63), (60, 71), (61, 82)] 107 _ = _; rw [lv_osw c1 (by decide), lv_osw c4 (by decide), lv_osw c5 (by decide), lv_osw c6 (by decide), lv_osw c7 (by decide), lv_osw c9 (by decide)]; rfl) ?_
  refine xi_iload_n D_Wo_joined_108 rfl ?_
  refine xi_if_ne D_Wo_joined_109 (fun c11 => ?_) (fun c11 => ?_)
  · have h := okx_F c11 h
    exact xk_wk (w_Wo_joined_b116 (by omega)  h) ⟨Or.inr rfl, Or.inr rfl, Or.inr rfl, trivial⟩
  · have h := okx_T c11 h
    refine xi_iload_n D_Wo_joined_112 rfl ?_
    refine xi_if_eq D_Wo_joined_113 (fun c12 => ?_) (fun c12 => ?_)
    · have h := okx_T c12 h
      refine xj_iconst (v := 0) D_Wo_joined_120 rfl ?_
      exact xi_ireturn D_Wo_joined_121 rfl (rfl) (okx_I h)
    · have h := okx_F c12 h
      exact xk_wk (w_Wo_joined_b116 (by omega)  h) ⟨Or.inr rfl, Or.inr rfl, Or.inr rfl, trivial⟩
noncomputable def f_Wo_lineValue_b181 (R32 : Int32 → Int32 → Int32 → Int32 → Sg → Option (Int32 × Sg)) (x2 : Int32) (x3 : Int32) (x4 : Int32) (x5 : Int32) (s : Sg) : Option (Int32 × Sg) :=
  R32 x2 x3 x4 (x5 + 1) s
theorem w_Wo_lineValue_b181 {x2 : Int32} {x3 : Int32} {x4 : Int32} {x5 : Int32} {s : Sg} {d : Nat} {Q : Option (Option Value) → Sg → Prop} (hd : 2 ≤ d) {R32 : Int32 → Int32 → Int32 → Int32 → Sg → Option (Int32 × Sg)} (hR32 : ∀ (x2 : Int32) (x3 : Int32) (x4 : Int32) (x5 : Int32) (s : Sg), okx (zq_I Q) (R32 x2 x3 x4 x5 s) → Xw d M_Wo_lineValue 0 0 32 [.ref 6, .retAddr 0, .int x2, .int x3, .int x4, .int x5, .retAddr 0] [] s Q) (h : okx (zq_I Q) (f_Wo_lineValue_b181 R32 x2 x3 x4 x5 s)) : Xw d M_Wo_lineValue 0 0 181 [.ref 6, .retAddr 0, .int x2, .int x3, .int x4, .int x5, .retAddr 0] [] s Q := by
  unfold f_Wo_lineValue_b181 at h
  refine xi_iinc (v := _ + 1) (ls' := [_, _, _, _, _, _, _]) D_Wo_lineValue_181 rfl rfl rfl (by decide) ?_
  refine xi_goto D_Wo_lineValue_184 ?_
  exact hR32 _ _ _ _ _ h
noncomputable def f_Wo_lineValue_b96 (R32 : Int32 → Int32 → Int32 → Int32 → Sg → Option (Int32 × Sg)) (x2 : Int32) (x3 : Int32) (x4 : Int32) (x5 : Int32) (y1 : Int32) (y2 : Int32) (s : Sg) : Option (Int32 × Sg) :=
  f_ck (zl_B s) <|
  f_ck (vp_in y1 32) <|
  let s27 : Sg := uI s 20 (Int32.toNatClampNeg y1) y2
  f_Wo_lineValue_b181 R32 x2 (x3 + 1) x4 x5 s27
theorem w_Wo_lineValue_b96 {x2 : Int32} {x3 : Int32} {x4 : Int32} {x5 : Int32} {y1 : Int32} {y2 : Int32} {s : Sg} {d : Nat} {Q : Option (Option Value) → Sg → Prop} (hd : 2 ≤ d) {R32 : Int32 → Int32 → Int32 → Int32 → Sg → Option (Int32 × Sg)} (hR32 : ∀ (x2 : Int32) (x3 : Int32) (x4 : Int32) (x5 : Int32) (s : Sg), okx (zq_I Q) (R32 x2 x3 x4 x5 s) → Xw d M_Wo_lineValue 0 0 32 [.ref 6, .retAddr 0, .int x2, .int x3, .int x4, .int x5, .retAddr 0] [] s Q) (h : okx (zq_I Q) (f_Wo_lineValue_b96 R32 x2 x3 x4 x5 y1 y2 s)) : Xw d M_Wo_lineValue 0 0 96 [.ref 6, .retAddr 0, .int x2, .int x3, .int x4, .int x5, .retAddr 0] [.int y2, .int y1, .ref 20] s Q := by
  unfold f_Wo_lineValue_b96 at h
  obtain ⟨g25, h⟩ := okx_ck h
  obtain ⟨g26, h⟩ := okx_ck h
  refine xj_iast D_Wo_lineValue_96 (zl_fx (g25).1 rfl) (zl_ib (n := 32) rfl (g26)) ?_
  refine xi_iinc (v := _ + 1) (ls' := [_, _, _, _, _, _, _]) D_Wo_lineValue_97 rfl rfl rfl (by decide) ?_
  refine xi_goto D_Wo_lineValue_100 ?_
  exact w_Wo_lineValue_b181 (by omega) hR32 h
noncomputable def f_Wo_lineValue_b138 (R32 : Int32 → Int32 → Int32 → Int32 → Sg → Option (Int32 × Sg)) (x2 : Int32) (x3 : Int32) (x4 : Int32) (x5 : Int32) (y1 : Int32) (y2 : Int32) (s : Sg) : Option (Int32 × Sg) :=
  f_ck (zl_B s) <|
  f_ck (vp_in y1 32) <|
  let s30 : Sg := uI s 20 (Int32.toNatClampNeg y1) y2
  f_Wo_lineValue_b181 R32 x2 x3 x4 x5 s30
theorem w_Wo_lineValue_b138 {x2 : Int32} {x3 : Int32} {x4 : Int32} {x5 : Int32} {y1 : Int32} {y2 : Int32} {s : Sg} {d : Nat} {Q : Option (Option Value) → Sg → Prop} (hd : 2 ≤ d) {R32 : Int32 → Int32 → Int32 → Int32 → Sg → Option (Int32 × Sg)} (hR32 : ∀ (x2 : Int32) (x3 : Int32) (x4 : Int32) (x5 : Int32) (s : Sg), okx (zq_I Q) (R32 x2 x3 x4 x5 s) → Xw d M_Wo_lineValue 0 0 32 [.ref 6, .retAddr 0, .int x2, .int x3, .int x4, .int x5, .retAddr 0] [] s Q) (h : okx (zq_I Q) (f_Wo_lineValue_b138 R32 x2 x3 x4 x5 y1 y2 s)) : Xw d M_Wo_lineValue 0 0 138 [.ref 6, .retAddr 0, .int x2, .int x3, .int x4, .int x5, .retAddr 0] [.int y2, .int y1, .ref 20] s Q := by
  unfold f_Wo_lineValue_b138 at h
  obtain ⟨g28, h⟩ := okx_ck h
  obtain ⟨g29, h⟩ := okx_ck h
  refine xj_iast D_Wo_lineValue_138 (zl_fx (g28).1 rfl) (zl_ib (n := 32) rfl (g29)) ?_
  refine xi_goto D_Wo_lineValue_139 ?_
  exact w_Wo_lineValue_b181 (by omega) hR32 h
noncomputable def f_Wo_lineValue_b187  (s : Sg) : Option (Int32 × Sg) :=
  f_ck (zl_B s) <|
  some ((mI s 20 (Int32.toNatClampNeg (0 : Int32))), s)
theorem w_Wo_lineValue_b187 {s : Sg} {d : Nat} {Q : Option (Option Value) → Sg → Prop} (hd : 2 ≤ d) (h : okx (zq_I Q) (f_Wo_lineValue_b187  s)) : Xw d M_Wo_lineValue 0 0 187 [.ref 6, .retAddr 0, .retAddr 0, .retAddr 0, .retAddr 0, .retAddr 0, .retAddr 0] [] s Q := by
  unfold f_Wo_lineValue_b187 at h
  refine xi_aload_n D_Wo_lineValue_187 rfl ?_
  obtain ⟨g31, h⟩ := okx_ck h
  refine xi_getR D_Wo_lineValue_188 F_Wo_30 (zl_fo (g31).1 rfl) ⟨rfl, by decide⟩ (zl_gr (g31).2 rfl rfl) ?_
  refine xj_iconst (v := 0) D_Wo_lineValue_191 rfl ?_
  refine xj_iald D_Wo_lineValue_192 (zl_fx (g31).1 rfl) (zl_ib (n := 32) rfl (zl_vin rfl)) ?_
  exact xi_ireturn D_Wo_lineValue_193 rfl (rfl) (okx_I h)
noncomputable def f_Wo_lineValue_b32 (R32 : Int32 → Int32 → Int32 → Int32 → Sg → Option (Int32 × Sg)) (x2 : Int32) (x3 : Int32) (x4 : Int32) (x5 : Int32) (s : Sg) : Option (Int32 × Sg) :=
  if x4 ≤ x5 then
    f_Wo_lineValue_b187   s
  else
    f_ck (zl_B s) <|
    f_ck (vp_in x5 1000) <|
    if 20000 ≤ (mI s 12 (Int32.toNatClampNeg x5)) then
      if (mI s 12 (Int32.toNatClampNeg x5)) = 20009 then
        if x3 ≤ 0 then
          f_Wo_lineValue_b181 R32 x2 x3 x4 x5 s
        else
          f_ck (vp_in (x3 - 1) 32) <|
          if (mI s 20 (Int32.toNatClampNeg (x3 - 1))) = 0 then
            f_Wo_lineValue_b138 R32 x2 x3 x4 x5 (x3 - 1) 1 s
          else
            f_Wo_lineValue_b138 R32 x2 x3 x4 x5 (x3 - 1) 0 s
      else
        if x3 ≤ 1 then
          f_Wo_lineValue_b181 R32 x2 x3 x4 x5 s
        else
          f_ck (vp_in ((x3 + (-1)) - 1) 32) <|
          f_ck (vp_in (x3 + (-1)) 32) <|
          f_bd (f_Wo_joined ((mI s 12 (Int32.toNatClampNeg x5)) - 20000) (mI s 20 (Int32.toNatClampNeg ((x3 + (-1)) - 1))) (mI s 20 (Int32.toNatClampNeg (x3 + (-1)))) s) fun r16 s17 =>
          f_ck (zl_B s17) <|
          f_ck (vp_in ((x3 + (-1)) - 1) 32) <|
          let s20 : Sg := uI s17 20 (Int32.toNatClampNeg ((x3 + (-1)) - 1)) r16
          f_Wo_lineValue_b181 R32 x2 (x3 + (-1)) x4 x5 s20
    else
      if (32 : Int32) ≤ x3 then
        f_Wo_lineValue_b181 R32 x2 x3 x4 x5 s
      else
        if 10000 ≤ (mI s 12 (Int32.toNatClampNeg x5)) then
          f_bd (f_Wk_stepIn x2 ((mI s 12 (Int32.toNatClampNeg x5)) - 10000) s) fun r23 s24 =>
          f_Wo_lineValue_b96 R32 x2 x3 x4 x5 x3 r23 s24
        else
          f_Wo_lineValue_b96 R32 x2 x3 x4 x5 x3 (mI s 12 (Int32.toNatClampNeg x5)) s
theorem w_Wo_lineValue_b32 {x2 : Int32} {x3 : Int32} {x4 : Int32} {x5 : Int32} {s : Sg} {d : Nat} {Q : Option (Option Value) → Sg → Prop} (hd : 2 ≤ d) {R32 : Int32 → Int32 → Int32 → Int32 → Sg → Option (Int32 × Sg)} (hR32 : ∀ (x2 : Int32) (x3 : Int32) (x4 : Int32) (x5 : Int32) (s : Sg), okx (zq_I Q) (R32 x2 x3 x4 x5 s) → Xw d M_Wo_lineValue 0 0 32 [.ref 6, .retAddr 0, .int x2, .int x3, .int x4, .int x5, .retAddr 0] [] s Q) (h : okx (zq_I Q) (f_Wo_lineValue_b32 R32 x2 x3 x4 x5 s)) : Xw d M_Wo_lineValue 0 0 32 [.ref 6, .retAddr 0, .int x2, .int x3, .int x4, .int x5, .retAddr 0] [] s Q := by
  unfold f_Wo_lineValue_b32 at h
  refine xi_iload D_Wo_lineValue_32 rfl ?_
  refine xi_iload D_Wo_lineValue_34 rfl ?_
  refine xi_icmp_ge D_Wo_lineValue_36 (fun c5 => ?_) (fun c5 => ?_)
  · have h := okx_T c5 h
    exact xk_wk (w_Wo_lineValue_b187 (by omega)  h) ⟨Or.inl rfl, Or.inl rfl, Or.inr rfl, Or.inr rfl, Or.inr rfl, Or.inr rfl, Or.inl rfl, trivial⟩
  · have h := okx_F c5 h
    refine xi_aload_n D_Wo_lineValue_39 rfl ?_
    obtain ⟨g6, h⟩ := okx_ck h
    refine xi_getR D_Wo_lineValue_40 F_Wo_12 (zl_fo (g6).1 rfl) ⟨rfl, by decide⟩ (zl_gr (g6).2 rfl rfl) ?_
    refine xi_getR D_Wo_lineValue_43 F_Wo_101 (zl_fo (g6).1 rfl) ⟨rfl, by decide⟩ (zl_gr (g6).2 rfl rfl) ?_
    refine xi_iload D_Wo_lineValue_46 rfl ?_
    obtain ⟨g7, h⟩ := okx_ck h
    refine xj_iald D_Wo_lineValue_48 (zl_fx (g6).1 rfl) (zl_ib (n := 1000) rfl (g7)) ?_
    refine xi_istore (ls' := [_, _, _, _, _, _, _]) D_Wo_lineValue_49 rfl (by decide) ?_
    refine xi_iload D_Wo_lineValue_51 rfl ?_
    refine xi_sipush (v := 20000) D_Wo_lineValue_53 rfl ?_
    refine xi_icmp_ge D_Wo_lineValue_56 (fun c8 => ?_) (fun c8 => ?_)
    · have h := okx_T c8 h
      refine xi_iload D_Wo_lineValue_103 rfl ?_
      refine xi_sipush (v := 20009) D_Wo_lineValue_105 rfl ?_
      refine xi_icmp_ne D_Wo_lineValue_108 (fun c9 => ?_) (fun c9 => ?_)
      · have h := okx_F c9 h
        refine xi_iload_n D_Wo_lineValue_142 rfl ?_
        refine xj_iconst (v := 1) D_Wo_lineValue_143 rfl ?_
        refine xi_icmp_le D_Wo_lineValue_144 (fun c13 => ?_) (fun c13 => ?_)
        · have h := okx_T c13 h
          exact xk_wk (w_Wo_lineValue_b181 (by omega) hR32 h) ⟨Or.inl rfl, Or.inl rfl, Or.inl rfl, Or.inl rfl, Or.inl rfl, Or.inl rfl, Or.inr rfl, trivial⟩
        · have h := okx_F c13 h
          refine xi_iinc (v := _ + (-1)) (ls' := [_, _, _, _, _, _, _]) D_Wo_lineValue_147 rfl rfl rfl (by decide) ?_
          refine xi_aload_n D_Wo_lineValue_150 rfl ?_
          refine xi_getR D_Wo_lineValue_151 F_Wo_30 (zl_fo (g6).1 rfl) ⟨rfl, by decide⟩ (zl_gr (g6).2 rfl rfl) ?_
          refine xi_iload_n D_Wo_lineValue_154 rfl ?_
          refine xj_iconst (v := 1) D_Wo_lineValue_155 rfl ?_
          refine xi_isub D_Wo_lineValue_156 ?_
          refine xi_iload D_Wo_lineValue_157 rfl ?_
          refine xi_sipush (v := 20000) D_Wo_lineValue_159 rfl ?_
          refine xi_isub D_Wo_lineValue_162 ?_
          refine xi_aload_n D_Wo_lineValue_163 rfl ?_
          refine xi_getR D_Wo_lineValue_164 F_Wo_30 (zl_fo (g6).1 rfl) ⟨rfl, by decide⟩ (zl_gr (g6).2 rfl rfl) ?_
          refine xi_iload_n D_Wo_lineValue_167 rfl ?_
          refine xj_iconst (v := 1) D_Wo_lineValue_168 rfl ?_
          refine xi_isub D_Wo_lineValue_169 ?_
          obtain ⟨g14, h⟩ := okx_ck h
          refine xj_iald D_Wo_lineValue_170 (zl_fx (g6).1 rfl) (zl_ib (n := 32) rfl (g14)) ?_
          refine xi_aload_n D_Wo_lineValue_171 rfl ?_
          refine xi_getR D_Wo_lineValue_172 F_Wo_30 (zl_fo (g6).1 rfl) ⟨rfl, by decide⟩ (zl_gr (g6).2 rfl rfl) ?_
          refine xi_iload_n D_Wo_lineValue_175 rfl ?_
          obtain ⟨g15, h⟩ := okx_ck h
          refine xj_iald D_Wo_lineValue_176 (zl_fx (g6).1 rfl) (zl_ib (n := 32) rfl (g15)) ?_
          refine xj_S3 D_Wo_lineValue_177 L_Wo_106 C_Wo_joined Z_Wo_joined (Nat.le_of_ble_eq_true rfl) (Nat.le_of_eq (Nat.sub_add_cancel (by omega))) (w_Wo_joined (by omega) (okx_mono (okx_bd h) ?_))
          intro r16 s17 h
          show Xw _ _ _ _ 180 _ [_, _, _] _ _
          obtain ⟨g18, h⟩ := okx_ck h
          obtain ⟨g19, h⟩ := okx_ck h
          refine xj_iast D_Wo_lineValue_180 (zl_fx (g18).1 rfl) (zl_ib (n := 32) rfl (g19)) ?_
          exact xk_wk (w_Wo_lineValue_b181 (by omega) hR32 h) ⟨Or.inl rfl, Or.inl rfl, Or.inl rfl, Or.inl rfl, Or.inl rfl, Or.inl rfl, Or.inr rfl, trivial⟩
      · have h := okx_T c9 h
        refine xi_iload_n D_Wo_lineValue_111 rfl ?_
        refine xi_if_le D_Wo_lineValue_112 (fun c10 => ?_) (fun c10 => ?_)
        · have h := okx_T c10 h
          exact xk_wk (w_Wo_lineValue_b181 (by omega) hR32 h) ⟨Or.inl rfl, Or.inl rfl, Or.inl rfl, Or.inl rfl, Or.inl rfl, Or.inl rfl, Or.inr rfl, trivial⟩
        · have h := okx_F c10 h
          refine xi_aload_n D_Wo_lineValue_115 rfl ?_
          refine xi_getR D_Wo_lineValue_116 F_Wo_30 (zl_fo (g6).1 rfl) ⟨rfl, by decide⟩ (zl_gr (g6).2 rfl rfl) ?_
          refine xi_iload_n D_Wo_lineValue_119 rfl ?_
          refine xj_iconst (v := 1) D_Wo_lineValue_120 rfl ?_
          refine xi_isub D_Wo_lineValue_121 ?_
          refine xi_aload_n D_Wo_lineValue_122 rfl ?_
          refine xi_getR D_Wo_lineValue_123 F_Wo_30 (zl_fo (g6).1 rfl) ⟨rfl, by decide⟩ (zl_gr (g6).2 rfl rfl) ?_
          refine xi_iload_n D_Wo_lineValue_126 rfl ?_
          refine xj_iconst (v := 1) D_Wo_lineValue_127 rfl ?_
          refine xi_isub D_Wo_lineValue_128 ?_
          obtain ⟨g11, h⟩ := okx_ck h
          refine xj_iald D_Wo_lineValue_129 (zl_fx (g6).1 rfl) (zl_ib (n := 32) rfl (g11)) ?_
          refine xi_if_ne D_Wo_lineValue_130 (fun c12 => ?_) (fun c12 => ?_)
          · have h := okx_F c12 h
            refine xj_iconst (v := 0) D_Wo_lineValue_137 rfl ?_
            exact xk_wk (w_Wo_lineValue_b138 (by omega) hR32 h) ⟨Or.inl rfl, Or.inl rfl, Or.inl rfl, Or.inl rfl, Or.inl rfl, Or.inl rfl, Or.inr rfl, trivial⟩
          · have h := okx_T c12 h
            refine xj_iconst (v := 1) D_Wo_lineValue_133 rfl ?_
            refine xi_goto D_Wo_lineValue_134 ?_
            exact xk_wk (w_Wo_lineValue_b138 (by omega) hR32 h) ⟨Or.inl rfl, Or.inl rfl, Or.inl rfl, Or.inl rfl, Or.inl rfl, Or.inl rfl, Or.inr rfl, trivial⟩
    · have h := okx_F c8 h
      refine xi_iload_n D_Wo_lineValue_59 rfl ?_
      refine xi_aload_n D_Wo_lineValue_60 rfl ?_
      refine xi_getR D_Wo_lineValue_61 F_Wo_30 (zl_fo (g6).1 rfl) ⟨rfl, by decide⟩ (zl_gr (g6).2 rfl rfl) ?_
      refine xi_arlen (v := 32) D_Wo_lineValue_64 (zl_fx (g6).1 rfl : zl_ok _ _ 10) rfl ?_
      refine xi_icmp_ge D_Wo_lineValue_65 (fun c21 => ?_) (fun c21 => ?_)
      · have h := okx_T c21 h
        exact xk_wk (w_Wo_lineValue_b181 (by omega) hR32 h) ⟨Or.inl rfl, Or.inl rfl, Or.inl rfl, Or.inl rfl, Or.inl rfl, Or.inl rfl, Or.inr rfl, trivial⟩
      · have h := okx_F c21 h
        refine xi_aload_n D_Wo_lineValue_68 rfl ?_
        refine xi_getR D_Wo_lineValue_69 F_Wo_30 (zl_fo (g6).1 rfl) ⟨rfl, by decide⟩ (zl_gr (g6).2 rfl rfl) ?_
        refine xi_iload_n D_Wo_lineValue_72 rfl ?_
        refine xi_iload D_Wo_lineValue_73 rfl ?_
        refine xi_sipush (v := 10000) D_Wo_lineValue_75 rfl ?_
        refine xi_icmp_ge D_Wo_lineValue_78 (fun c22 => ?_) (fun c22 => ?_)
        · have h := okx_T c22 h
          refine xi_iload_n D_Wo_lineValue_86 rfl ?_
          refine xi_iload D_Wo_lineValue_87 rfl ?_
          refine xi_sipush (v := 10000) D_Wo_lineValue_89 rfl ?_
          refine xi_isub D_Wo_lineValue_92 ?_
          refine xj_SN2 D_Wo_lineValue_93 L_Wo_64 C_Wk_stepIn Z_Wk_stepIn (Nat.le_of_ble_eq_true rfl) (Nat.le_of_eq (Nat.sub_add_cancel (by omega))) (w_Wk_stepIn (by omega) (okx_mono (okx_bd h) ?_))
          intro r23 s24 h
          refine ⟨Option.some_ne_none _, ?_⟩
          show Xw _ _ _ _ 96 _ [_, _, _] _ _
          exact xk_wk (w_Wo_lineValue_b96 (by omega) hR32 h) ⟨Or.inl rfl, Or.inl rfl, Or.inl rfl, Or.inl rfl, Or.inl rfl, Or.inl rfl, Or.inr rfl, trivial⟩
        · have h := okx_F c22 h
          refine xi_iload D_Wo_lineValue_81 rfl ?_
          refine xi_goto D_Wo_lineValue_83 ?_
          exact xk_wk (w_Wo_lineValue_b96 (by omega) hR32 h) ⟨Or.inl rfl, Or.inl rfl, Or.inl rfl, Or.inl rfl, Or.inl rfl, Or.inl rfl, Or.inr rfl, trivial⟩
noncomputable def f_Wo_lineValue_h32 : Nat → Int32 → Int32 → Int32 → Int32 → Sg → Option (Int32 × Sg)
  | 0, _, _, _, _, _ => none
  | n + 1, x2, x3, x4, x5, s => f_Wo_lineValue_b32 (f_Wo_lineValue_h32 n) x2 x3 x4 x5 s
theorem w_Wo_lineValue_h32 {d : Nat} {Q : Option (Option Value) → Sg → Prop} (hd : 2 ≤ d) : ∀ (n : Nat) (x2 : Int32) (x3 : Int32) (x4 : Int32) (x5 : Int32) (s : Sg), okx (zq_I Q) (f_Wo_lineValue_h32 n x2 x3 x4 x5 s) → Xw d M_Wo_lineValue 0 0 32 [.ref 6, .retAddr 0, .int x2, .int x3, .int x4, .int x5, .retAddr 0] [] s Q := by
  intro n
  induction n with
  | zero => intro x2 x3 x4 x5 s h; exact okx_no h
  | succ n ih => intro x2 x3 x4 x5 s h; exact w_Wo_lineValue_b32 hd  ih  h
noncomputable def f_Wo_lineValue (x1 : Int32) (x2 : Int32) (s : Sg) : Option (Int32 × Sg) :=
  f_ck (zl_B s) <|
  f_ck (vp_in (x1 + 1) 9) <|
  let v3 : Int32 := (if (1000 : Int32) < (mI s 11 (Int32.toNatClampNeg (x1 + 1))) then (1000 : Int32) else (mI s 11 (Int32.toNatClampNeg (x1 + 1))))
  f_ck (vp_in x1 9) <|
  f_Wo_lineValue_h32  zl_fl x2 0 v3 (mI s 11 (Int32.toNatClampNeg x1)) s
theorem w_Wo_lineValue {x1 : Int32} {x2 : Int32} {s : Sg} {d : Nat} {Q : Option (Option Value) → Sg → Prop} (hd : 2 ≤ d) (h : okx (zq_I Q) (f_Wo_lineValue x1 x2 s)) : Cw d M_Wo_lineValue [.ref 6, .int x1, .int x2] s Q := by
  refine Cw.of (by decide +kernel) (Nat.le_of_ble_eq_true rfl) ?_
  show Xw d M_Wo_lineValue 0 0 0 [.ref 6, .int x1, .int x2, .retAddr 0, .retAddr 0, .retAddr 0, .retAddr 0] [] s _
  unfold f_Wo_lineValue at h
  refine xj_iconst (v := 0) D_Wo_lineValue_0 rfl ?_
  refine xi_istore_n (ls' := [_, _, _, _, _, _, _]) D_Wo_lineValue_1 rfl (by decide) ?_
  refine xi_aload_n D_Wo_lineValue_2 rfl ?_
  obtain ⟨g1, h⟩ := okx_ck h
  refine xi_getR D_Wo_lineValue_3 F_Wo_12 (zl_fo (g1).1 rfl) ⟨rfl, by decide⟩ (zl_gr (g1).2 rfl rfl) ?_
  refine xi_getR D_Wo_lineValue_6 F_Wo_96 (zl_fo (g1).1 rfl) ⟨rfl, by decide⟩ (zl_gr (g1).2 rfl rfl) ?_
  refine xi_iload_n D_Wo_lineValue_9 rfl ?_
  refine xj_iconst (v := 1) D_Wo_lineValue_10 rfl ?_
  refine xi_iadd D_Wo_lineValue_11 ?_
  obtain ⟨g2, h⟩ := okx_ck h
  refine xj_iald D_Wo_lineValue_12 (zl_fx (g1).1 rfl) (zl_ib (n := 9) rfl (g2)) ?_
  refine xi_sipush (v := 1000) D_Wo_lineValue_13 rfl ?_
  refine xi_mini D_Wo_lineValue_16 L_Wo_99 ⟨by omega, Nat.le_of_ble_eq_true rfl⟩ ?_
  refine xi_istore (ls' := [_, _, _, _, _, _, _]) D_Wo_lineValue_19 rfl (by decide) ?_
  refine xi_aload_n D_Wo_lineValue_21 rfl ?_
  refine xi_getR D_Wo_lineValue_22 F_Wo_12 (zl_fo (g1).1 rfl) ⟨rfl, by decide⟩ (zl_gr (g1).2 rfl rfl) ?_
  refine xi_getR D_Wo_lineValue_25 F_Wo_96 (zl_fo (g1).1 rfl) ⟨rfl, by decide⟩ (zl_gr (g1).2 rfl rfl) ?_
  refine xi_iload_n D_Wo_lineValue_28 rfl ?_
  obtain ⟨g4, h⟩ := okx_ck h
  refine xj_iald D_Wo_lineValue_29 (zl_fx (g1).1 rfl) (zl_ib (n := 9) rfl (g4)) ?_
  refine xi_istore (ls' := [_, _, _, _, _, _, _]) D_Wo_lineValue_30 rfl (by decide) ?_
  exact xk_wk (w_Wo_lineValue_h32 (by omega)  _ _ _ _ _ _ h) ⟨Or.inl rfl, Or.inr rfl, Or.inl rfl, Or.inl rfl, Or.inl rfl, Or.inl rfl, Or.inl rfl, trivial⟩
noncomputable def f_Wo_fill_b73 (R26 : Int32 → Int32 → Sg → Option (Unit × Sg)) (x1 : Int32) (x2 : Int32) (y1 : Int32) (y2 : Int64) (s : Sg) : Option (Unit × Sg) :=
  f_ck (zl_B s) <|
  f_ck (vp_in y1 8) <|
  let s14 : Sg := uL s 19 (Int32.toNatClampNeg y1) y2
  R26 x1 (x2 + 1) s14
theorem w_Wo_fill_b73 {x1 : Int32} {x2 : Int32} {y1 : Int32} {y2 : Int64} {s : Sg} {d : Nat} {Q : Option (Option Value) → Sg → Prop} (hd : 3 ≤ d) {R26 : Int32 → Int32 → Sg → Option (Unit × Sg)} (hR26 : ∀ (x1 : Int32) (x2 : Int32) (s : Sg), okx (zq_V Q) (R26 x1 x2 s) → Xw d M_Wo_fill 0 0 26 [.ref 6, .int x1, .int x2, .retAddr 0, .retAddr 0] [] s Q) (h : okx (zq_V Q) (f_Wo_fill_b73 R26 x1 x2 y1 y2 s)) : Xw d M_Wo_fill 0 0 73 [.ref 6, .int x1, .int x2, .retAddr 0, .retAddr 0] [.long y2, .int y1, .ref 19] s Q := by
  unfold f_Wo_fill_b73 at h
  obtain ⟨g12, h⟩ := okx_ck h
  obtain ⟨g13, h⟩ := okx_ck h
  refine xj_last D_Wo_fill_73 (zl_fx (g12).1 rfl) (zl_ib (n := 8) rfl (g13)) ?_
  refine xi_iinc (v := _ + 1) (ls' := [_, _, _, _, _]) D_Wo_fill_74 rfl rfl rfl (by decide) ?_
  refine xi_goto D_Wo_fill_77 ?_
  exact hR26 _ _ _ h
noncomputable def f_Wo_fill_b141 (R82 : Int32 → Int32 → Sg → Option (Unit × Sg)) (x1 : Int32) (x2 : Int32) (s : Sg) : Option (Unit × Sg) :=
  R82 x1 (x2 + 1) s
theorem w_Wo_fill_b141 {x1 : Int32} {x2 : Int32} {s : Sg} {d : Nat} {Q : Option (Option Value) → Sg → Prop} (hd : 3 ≤ d) {R82 : Int32 → Int32 → Sg → Option (Unit × Sg)} (hR82 : ∀ (x1 : Int32) (x2 : Int32) (s : Sg), okx (zq_V Q) (R82 x1 x2 s) → Xw d M_Wo_fill 0 0 82 [.ref 6, .int x1, .int x2, .retAddr 0, .retAddr 0] [] s Q) (h : okx (zq_V Q) (f_Wo_fill_b141 R82 x1 x2 s)) : Xw d M_Wo_fill 0 0 141 [.ref 6, .int x1, .int x2, .retAddr 0, .retAddr 0] [] s Q := by
  unfold f_Wo_fill_b141 at h
  refine xi_iinc (v := _ + 1) (ls' := [_, _, _, _, _]) D_Wo_fill_141 rfl rfl rfl (by decide) ?_
  refine xi_goto D_Wo_fill_144 ?_
  exact hR82 _ _ _ h
noncomputable def f_Wo_fill_b97 (R82 : Int32 → Int32 → Sg → Option (Unit × Sg)) (R97 : Int32 → Int32 → Int32 → Sg → Option (Unit × Sg)) (x1 : Int32) (x2 : Int32) (x3 : Int32) (s : Sg) : Option (Unit × Sg) :=
  f_ck (zl_B s) <|
  if ((1 : Int32) <<< ((mI s 7 0) &&& 31)) ≤ x3 then
    f_Wo_fill_b141 R82 x1 x2 s
  else
    f_bd (f_Wo_cutSum ((x2 <<< ((4 : Int32) &&& 31)) ||| x3) s) fun r19 s20 =>
    let v21 : Int32 := ((x1 <<< ((7 : Int32) &&& 31)) ||| ((x2 <<< ((4 : Int32) &&& 31)) ||| x3))
    f_ck (zl_B s20) <|
    f_ck (vp_in v21 32768) <|
    let s24 : Sg := uI s20 17 (Int32.toNatClampNeg v21) r19
    R97 x1 x2 (x3 + 1) s24
theorem w_Wo_fill_b97 {x1 : Int32} {x2 : Int32} {x3 : Int32} {s : Sg} {d : Nat} {Q : Option (Option Value) → Sg → Prop} (hd : 3 ≤ d) {R82 : Int32 → Int32 → Sg → Option (Unit × Sg)} {R97 : Int32 → Int32 → Int32 → Sg → Option (Unit × Sg)} (hR82 : ∀ (x1 : Int32) (x2 : Int32) (s : Sg), okx (zq_V Q) (R82 x1 x2 s) → Xw d M_Wo_fill 0 0 82 [.ref 6, .int x1, .int x2, .retAddr 0, .retAddr 0] [] s Q) (hR97 : ∀ (x1 : Int32) (x2 : Int32) (x3 : Int32) (s : Sg), okx (zq_V Q) (R97 x1 x2 x3 s) → Xw d M_Wo_fill 0 0 97 [.ref 6, .int x1, .int x2, .int x3, .retAddr 0] [] s Q) (h : okx (zq_V Q) (f_Wo_fill_b97 R82 R97 x1 x2 x3 s)) : Xw d M_Wo_fill 0 0 97 [.ref 6, .int x1, .int x2, .int x3, .retAddr 0] [] s Q := by
  unfold f_Wo_fill_b97 at h
  refine xi_iload_n D_Wo_fill_97 rfl ?_
  refine xj_iconst (v := 1) D_Wo_fill_98 rfl ?_
  refine xi_aload_n D_Wo_fill_99 rfl ?_
  obtain ⟨g17, h⟩ := okx_ck h
  refine xi_getR D_Wo_fill_100 F_Wo_12 (zl_fo (g17).1 rfl) ⟨rfl, by decide⟩ (zl_gr (g17).2 rfl rfl) ?_
  refine xi_getI D_Wo_fill_103 F_Wo_58 (zl_fo (g17).1 rfl) ⟨rfl, by decide⟩ ?_
  refine xi_ishl D_Wo_fill_106 ?_
  refine xi_icmp_ge D_Wo_fill_107 (fun c18 => ?_) (fun c18 => ?_)
  · have h := okx_T c18 h
    exact xk_wk (w_Wo_fill_b141 (by omega) hR82 h) ⟨Or.inl rfl, Or.inl rfl, Or.inl rfl, Or.inr rfl, Or.inl rfl, trivial⟩
  · have h := okx_F c18 h
    refine xi_iload_n D_Wo_fill_110 rfl ?_
    refine xj_iconst (v := 4) D_Wo_fill_111 rfl ?_
    refine xi_ishl D_Wo_fill_112 ?_
    refine xi_iload_n D_Wo_fill_113 rfl ?_
    refine xi_ior D_Wo_fill_114 ?_
    refine xi_istore (ls' := [_, _, _, _, _]) D_Wo_fill_115 rfl (by decide) ?_
    refine xi_aload_n D_Wo_fill_117 rfl ?_
    refine xi_getR D_Wo_fill_118 F_Wo_19 (zl_fo (g17).1 rfl) ⟨rfl, by decide⟩ (zl_gr (g17).2 rfl rfl) ?_
    refine xi_iload_n D_Wo_fill_121 rfl ?_
    refine xi_bipush (v := 7) D_Wo_fill_122 rfl ?_
    refine xi_ishl D_Wo_fill_124 ?_
    refine xi_iload D_Wo_fill_125 rfl ?_
    refine xi_ior D_Wo_fill_127 ?_
    refine xi_aload_n D_Wo_fill_128 rfl ?_
    refine xi_iload D_Wo_fill_129 rfl ?_
    refine xj_V1 D_Wo_fill_131 L_Wo_76 C_Wo_cutSum Z_Wo_cutSum (zl_fo (g17).1 rfl) (Nat.le_of_ble_eq_true rfl) (Nat.le_of_eq (Nat.sub_add_cancel (by omega))) (w_Wo_cutSum (by omega) (okx_mono (okx_bd h) ?_))
    intro r19 s20 h
    show Xw _ _ _ _ 134 _ [_, _, _] _ _
    obtain ⟨g22, h⟩ := okx_ck h
    obtain ⟨g23, h⟩ := okx_ck h
    refine xj_iast D_Wo_fill_134 (zl_fx (g22).1 rfl) (zl_ib (n := 32768) rfl (g23)) ?_
    refine xi_iinc (v := _ + 1) (ls' := [_, _, _, _, _]) D_Wo_fill_135 rfl rfl rfl (by decide) ?_
    refine xi_goto D_Wo_fill_138 ?_
    exact xk_wk (hR97 _ _ _ _ h) ⟨Or.inl rfl, Or.inl rfl, Or.inl rfl, Or.inl rfl, Or.inr rfl, trivial⟩
noncomputable def f_Wo_fill_h97 (R82 : Int32 → Int32 → Sg → Option (Unit × Sg)) : Nat → Int32 → Int32 → Int32 → Sg → Option (Unit × Sg)
  | 0, _, _, _, _ => none
  | n + 1, x1, x2, x3, s => f_Wo_fill_b97 R82 (f_Wo_fill_h97 R82 n) x1 x2 x3 s
theorem w_Wo_fill_h97 {d : Nat} {Q : Option (Option Value) → Sg → Prop} (hd : 3 ≤ d) {R82 : Int32 → Int32 → Sg → Option (Unit × Sg)} (hR82 : ∀ (x1 : Int32) (x2 : Int32) (s : Sg), okx (zq_V Q) (R82 x1 x2 s) → Xw d M_Wo_fill 0 0 82 [.ref 6, .int x1, .int x2, .retAddr 0, .retAddr 0] [] s Q) : ∀ (n : Nat) (x1 : Int32) (x2 : Int32) (x3 : Int32) (s : Sg), okx (zq_V Q) (f_Wo_fill_h97 R82 n x1 x2 x3 s) → Xw d M_Wo_fill 0 0 97 [.ref 6, .int x1, .int x2, .int x3, .retAddr 0] [] s Q := by
  intro n
  induction n with
  | zero => intro x1 x2 x3 s h; exact okx_no h
  | succ n ih => intro x1 x2 x3 s h; exact w_Wo_fill_b97 hd hR82 ih  h
noncomputable def f_Wo_fill_b82 (R82 : Int32 → Int32 → Sg → Option (Unit × Sg)) (x1 : Int32) (x2 : Int32) (s : Sg) : Option (Unit × Sg) :=
  f_ck (zl_B s) <|
  if ((1 : Int32) <<< ((mI s 7 1) &&& 31)) ≤ x2 then
    some ((), s)
  else
    f_Wo_fill_h97 R82 zl_fl x1 x2 0 s
theorem w_Wo_fill_b82 {x1 : Int32} {x2 : Int32} {s : Sg} {d : Nat} {Q : Option (Option Value) → Sg → Prop} (hd : 3 ≤ d) {R82 : Int32 → Int32 → Sg → Option (Unit × Sg)} (hR82 : ∀ (x1 : Int32) (x2 : Int32) (s : Sg), okx (zq_V Q) (R82 x1 x2 s) → Xw d M_Wo_fill 0 0 82 [.ref 6, .int x1, .int x2, .retAddr 0, .retAddr 0] [] s Q) (h : okx (zq_V Q) (f_Wo_fill_b82 R82 x1 x2 s)) : Xw d M_Wo_fill 0 0 82 [.ref 6, .int x1, .int x2, .retAddr 0, .retAddr 0] [] s Q := by
  unfold f_Wo_fill_b82 at h
  refine xi_iload_n D_Wo_fill_82 rfl ?_
  refine xj_iconst (v := 1) D_Wo_fill_83 rfl ?_
  refine xi_aload_n D_Wo_fill_84 rfl ?_
  obtain ⟨g15, h⟩ := okx_ck h
  refine xi_getR D_Wo_fill_85 F_Wo_12 (zl_fo (g15).1 rfl) ⟨rfl, by decide⟩ (zl_gr (g15).2 rfl rfl) ?_
  refine xi_getI D_Wo_fill_88 F_Wo_51 (zl_fo (g15).1 rfl) ⟨rfl, by decide⟩ ?_
  refine xi_ishl D_Wo_fill_91 ?_
  refine xi_icmp_ge D_Wo_fill_92 (fun c16 => ?_) (fun c16 => ?_)
  · have h := okx_T c16 h
    exact xi_return D_Wo_fill_147 rfl (okx_V h)
  · have h := okx_F c16 h
    refine xj_iconst (v := 0) D_Wo_fill_95 rfl ?_
    refine xi_istore_n (ls' := [_, _, _, _, _]) D_Wo_fill_96 rfl (by decide) ?_
    exact w_Wo_fill_h97 (by omega) hR82 _ _ _ _ _ h
noncomputable def f_Wo_fill_h82 : Nat → Int32 → Int32 → Sg → Option (Unit × Sg)
  | 0, _, _, _ => none
  | n + 1, x1, x2, s => f_Wo_fill_b82 (f_Wo_fill_h82 n) x1 x2 s
theorem w_Wo_fill_h82 {d : Nat} {Q : Option (Option Value) → Sg → Prop} (hd : 3 ≤ d) : ∀ (n : Nat) (x1 : Int32) (x2 : Int32) (s : Sg), okx (zq_V Q) (f_Wo_fill_h82 n x1 x2 s) → Xw d M_Wo_fill 0 0 82 [.ref 6, .int x1, .int x2, .retAddr 0, .retAddr 0] [] s Q := by
  intro n
  induction n with
  | zero => intro x1 x2 s h; exact okx_no h
  | succ n ih => intro x1 x2 s h; exact w_Wo_fill_b82 hd  ih  h
noncomputable def f_Wo_fill_b80 (x1 : Int32) (s : Sg) : Option (Unit × Sg) :=
  f_Wo_fill_h82  zl_fl x1 0 s
theorem w_Wo_fill_b80 {x1 : Int32} {s : Sg} {d : Nat} {Q : Option (Option Value) → Sg → Prop} (hd : 3 ≤ d) (h : okx (zq_V Q) (f_Wo_fill_b80 x1 s)) : Xw d M_Wo_fill 0 0 80 [.ref 6, .int x1, .retAddr 0, .retAddr 0, .retAddr 0] [] s Q := by
  unfold f_Wo_fill_b80 at h
  refine xj_iconst (v := 0) D_Wo_fill_80 rfl ?_
  refine xi_istore_n (ls' := [_, _, _, _, _]) D_Wo_fill_81 rfl (by decide) ?_
  exact w_Wo_fill_h82 (by omega)  _ _ _ _ h
noncomputable def f_Wo_fill_b26 (R26 : Int32 → Int32 → Sg → Option (Unit × Sg)) (x1 : Int32) (x2 : Int32) (s : Sg) : Option (Unit × Sg) :=
  f_ck (zl_B s) <|
  if (mI s 7 2) ≤ x2 then
    f_Wo_fill_b80  x1 s
  else
    f_bd (f_Wo_lineValue x2 x1 s) fun r8 s9 =>
    f_ck (zl_B s9) <|
    if x2 = (mI s9 6 6) then
      f_Wo_fill_b73 R26 x1 x2 x2 (((Int32.toInt64 r8) * (Int32.toInt64 (mI s9 6 7))) / 10) s9
    else
      f_Wo_fill_b73 R26 x1 x2 x2 (Int32.toInt64 r8) s9
theorem w_Wo_fill_b26 {x1 : Int32} {x2 : Int32} {s : Sg} {d : Nat} {Q : Option (Option Value) → Sg → Prop} (hd : 3 ≤ d) {R26 : Int32 → Int32 → Sg → Option (Unit × Sg)} (hR26 : ∀ (x1 : Int32) (x2 : Int32) (s : Sg), okx (zq_V Q) (R26 x1 x2 s) → Xw d M_Wo_fill 0 0 26 [.ref 6, .int x1, .int x2, .retAddr 0, .retAddr 0] [] s Q) (h : okx (zq_V Q) (f_Wo_fill_b26 R26 x1 x2 s)) : Xw d M_Wo_fill 0 0 26 [.ref 6, .int x1, .int x2, .retAddr 0, .retAddr 0] [] s Q := by
  unfold f_Wo_fill_b26 at h
  refine xi_iload_n D_Wo_fill_26 rfl ?_
  refine xi_aload_n D_Wo_fill_27 rfl ?_
  obtain ⟨g6, h⟩ := okx_ck h
  refine xi_getR D_Wo_fill_28 F_Wo_12 (zl_fo (g6).1 rfl) ⟨rfl, by decide⟩ (zl_gr (g6).2 rfl rfl) ?_
  refine xi_getI D_Wo_fill_31 F_Wo_68 (zl_fo (g6).1 rfl) ⟨rfl, by decide⟩ ?_
  refine xi_icmp_ge D_Wo_fill_34 (fun c7 => ?_) (fun c7 => ?_)
  · have h := okx_T c7 h
    exact xk_wk (w_Wo_fill_b80 (by omega)  h) ⟨Or.inl rfl, Or.inl rfl, Or.inr rfl, Or.inl rfl, Or.inl rfl, trivial⟩
  · have h := okx_F c7 h
    refine xi_aload_n D_Wo_fill_37 rfl ?_
    refine xi_iload_n D_Wo_fill_38 rfl ?_
    refine xi_iload_n D_Wo_fill_39 rfl ?_
    refine xj_V2 D_Wo_fill_40 L_Wo_71 C_Wo_lineValue Z_Wo_lineValue (zl_fo (g6).1 rfl) (Nat.le_of_ble_eq_true rfl) (Nat.le_of_eq (Nat.sub_add_cancel (by omega))) (w_Wo_lineValue (by omega) (okx_mono (okx_bd h) ?_))
    intro r8 s9 h
    show Xw _ _ _ _ 43 _ [_] _ _
    refine xi_i2l D_Wo_fill_43 ?_
    refine xi_lstore_n (ls' := [_, _, _, _, _]) D_Wo_fill_44 rfl (by decide) ?_
    refine xi_aload_n D_Wo_fill_45 rfl ?_
    obtain ⟨g10, h⟩ := okx_ck h
    refine xi_getR D_Wo_fill_46 F_Wo_26 (zl_fo (g10).1 rfl) ⟨rfl, by decide⟩ (zl_gr (g10).2 rfl rfl) ?_
    refine xi_iload_n D_Wo_fill_49 rfl ?_
    refine xi_iload_n D_Wo_fill_50 rfl ?_
    refine xi_aload_n D_Wo_fill_51 rfl ?_
    refine xi_getI D_Wo_fill_52 F_Wo_37 (zl_fo (g10).1 rfl) ⟨rfl, by decide⟩ ?_
    refine xi_icmp_ne D_Wo_fill_55 (fun c11 => ?_) (fun c11 => ?_)
    · have h := okx_F c11 h
      refine xi_lload_n D_Wo_fill_72 rfl ?_
      exact xk_wk (w_Wo_fill_b73 (by omega) hR26 h) ⟨Or.inl rfl, Or.inl rfl, Or.inl rfl, Or.inr rfl, Or.inl rfl, trivial⟩
    · have h := okx_T c11 h
      refine xi_lload_n D_Wo_fill_58 rfl ?_
      refine xi_aload_n D_Wo_fill_59 rfl ?_
      refine xi_getI D_Wo_fill_60 F_Wo_40 (zl_fo (g10).1 rfl) ⟨rfl, by decide⟩ ?_
      refine xi_i2l D_Wo_fill_63 ?_
      refine xi_lmul D_Wo_fill_64 ?_
      refine xi_ldc2 D_Wo_fill_65 K_Wo_74 ?_
      refine xi_ldiv D_Wo_fill_68 (by decide) ?_
      refine xi_goto D_Wo_fill_69 ?_
      exact xk_wk (w_Wo_fill_b73 (by omega) hR26 h) ⟨Or.inl rfl, Or.inl rfl, Or.inl rfl, Or.inr rfl, Or.inl rfl, trivial⟩
noncomputable def f_Wo_fill_h26 : Nat → Int32 → Int32 → Sg → Option (Unit × Sg)
  | 0, _, _, _ => none
  | n + 1, x1, x2, s => f_Wo_fill_b26 (f_Wo_fill_h26 n) x1 x2 s
theorem w_Wo_fill_h26 {d : Nat} {Q : Option (Option Value) → Sg → Prop} (hd : 3 ≤ d) : ∀ (n : Nat) (x1 : Int32) (x2 : Int32) (s : Sg), okx (zq_V Q) (f_Wo_fill_h26 n x1 x2 s) → Xw d M_Wo_fill 0 0 26 [.ref 6, .int x1, .int x2, .retAddr 0, .retAddr 0] [] s Q := by
  intro n
  induction n with
  | zero => intro x1 x2 s h; exact okx_no h
  | succ n ih => intro x1 x2 s h; exact w_Wo_fill_b26 hd  ih  h
noncomputable def f_Wo_fill (x1 : Int32) (s : Sg) : Option (Unit × Sg) :=
  f_ck (zl_B s) <|
  f_ck (vp_in x1 256) <|
  if (mI s 18 (Int32.toNatClampNeg x1)) = (mI s 6 5) then
    some ((), s)
  else
    f_ck (vp_in x1 256) <|
    let s5 : Sg := uI s 18 (Int32.toNatClampNeg x1) (mI s 6 5)
    f_Wo_fill_h26  zl_fl x1 0 s5
theorem w_Wo_fill {x1 : Int32} {s : Sg} {d : Nat} {Q : Option (Option Value) → Sg → Prop} (hd : 3 ≤ d) (h : okx (zq_V Q) (f_Wo_fill x1 s)) : Cw d M_Wo_fill [.ref 6, .int x1] s Q := by
  refine Cw.of (by decide +kernel) (Nat.le_of_ble_eq_true rfl) ?_
  show Xw d M_Wo_fill 0 0 0 [.ref 6, .int x1, .retAddr 0, .retAddr 0, .retAddr 0] [] s _
  unfold f_Wo_fill at h
  refine xi_aload_n D_Wo_fill_0 rfl ?_
  obtain ⟨g1, h⟩ := okx_ck h
  refine xi_getR D_Wo_fill_1 F_Wo_23 (zl_fo (g1).1 rfl) ⟨rfl, by decide⟩ (zl_gr (g1).2 rfl rfl) ?_
  refine xi_iload_n D_Wo_fill_4 rfl ?_
  obtain ⟨g2, h⟩ := okx_ck h
  refine xj_iald D_Wo_fill_5 (zl_fx (g1).1 rfl) (zl_ib (n := 256) rfl (g2)) ?_
  refine xi_aload_n D_Wo_fill_6 rfl ?_
  refine xi_getI D_Wo_fill_7 F_Wo_33 (zl_fo (g1).1 rfl) ⟨rfl, by decide⟩ ?_
  refine xi_icmp_ne D_Wo_fill_10 (fun c3 => ?_) (fun c3 => ?_)
  · have h := okx_F c3 h
    refine xi_aload_n D_Wo_fill_14 rfl ?_
    refine xi_getR D_Wo_fill_15 F_Wo_23 (zl_fo (g1).1 rfl) ⟨rfl, by decide⟩ (zl_gr (g1).2 rfl rfl) ?_
    refine xi_iload_n D_Wo_fill_18 rfl ?_
    refine xi_aload_n D_Wo_fill_19 rfl ?_
    refine xi_getI D_Wo_fill_20 F_Wo_33 (zl_fo (g1).1 rfl) ⟨rfl, by decide⟩ ?_
    obtain ⟨g4, h⟩ := okx_ck h
    refine xj_iast D_Wo_fill_23 (zl_fx (g1).1 rfl) (zl_ib (n := 256) rfl (g4)) ?_
    refine xj_iconst (v := 0) D_Wo_fill_24 rfl ?_
    refine xi_istore_n (ls' := [_, _, _, _, _]) D_Wo_fill_25 rfl (by decide) ?_
    exact w_Wo_fill_h26 (by omega)  _ _ _ _ h
  · have h := okx_T c3 h
    exact xi_return D_Wo_fill_13 rfl (okx_V h)
noncomputable def f_Tu_held_b86 (x1 : Int32) (x2 : Int32) (x4 : Int64) (s : Sg) : Option (Int64 × Sg) :=
  f_ck (zl_B s) <|
  f_bd (f_Wk_stepIn x2 x1 s) fun r25 s26 =>
  f_ck (zl_B s26) <|
  f_ck (vp_in ((x1 * 4) + r25) 16) <|
  some ((x4 - ((240 : Int64) * (Int32.toInt64 (mI s26 9 (Int32.toNatClampNeg ((x1 * 4) + r25)))))), s26)
theorem w_Tu_held_b86 {x1 : Int32} {x2 : Int32} {x4 : Int64} {s : Sg} {d : Nat} {Q : Option (Option Value) → Sg → Prop} (hd : 4 ≤ d) (h : okx (zq_L Q) (f_Tu_held_b86 x1 x2 x4 s)) : Xw d M_Tu_held 0 0 86 [.ref 5, .int x1, .int x2, .retAddr 0, .long x4, .retAddr 0] [] s Q := by
  unfold f_Tu_held_b86 at h
  refine xi_lload D_Tu_held_86 rfl ?_
  refine xi_ldc2 D_Tu_held_88 K_Tu_103 ?_
  refine xi_aload_n D_Tu_held_91 rfl ?_
  obtain ⟨g24, h⟩ := okx_ck h
  refine xi_getR D_Tu_held_92 F_Tu_22 (zl_fo (g24).1 rfl) ⟨rfl, by decide⟩ (zl_gr (g24).2 rfl rfl) ?_
  refine xi_getR D_Tu_held_95 F_Tu_105 (zl_fo (g24).1 rfl) ⟨rfl, by decide⟩ (zl_gr (g24).2 rfl rfl) ?_
  refine xi_iload_n D_Tu_held_98 rfl ?_
  refine xj_iconst (v := 4) D_Tu_held_99 rfl ?_
  refine xi_imul D_Tu_held_100 ?_
  refine xi_iload_n D_Tu_held_101 rfl ?_
  refine xi_iload_n D_Tu_held_102 rfl ?_
  refine xj_SN2 D_Tu_held_103 L_Tu_108 C_Wk_stepIn Z_Wk_stepIn (Nat.le_of_ble_eq_true rfl) (Nat.le_of_eq (Nat.sub_add_cancel (by omega))) (w_Wk_stepIn (by omega) (okx_mono (okx_bd h) ?_))
  intro r25 s26 h
  refine ⟨Option.some_ne_none _, ?_⟩
  show Xw _ _ _ _ 106 _ [_, _, _, _, _] _ _
  refine xi_iadd D_Tu_held_106 ?_
  obtain ⟨g27, h⟩ := okx_ck h
  obtain ⟨g28, h⟩ := okx_ck h
  refine xj_iald D_Tu_held_107 (zl_fx (g27).1 rfl) (zl_ib (n := 16) rfl (g28)) ?_
  refine xi_i2l D_Tu_held_108 ?_
  refine xi_lmul D_Tu_held_109 ?_
  refine xi_lsub D_Tu_held_110 ?_
  exact xi_lreturn D_Tu_held_111 rfl (okx_L h)
noncomputable def f_Tu_held_b76 (x1 : Int32) (x2 : Int32) (x4 : Int64) (s : Sg) : Option (Int64 × Sg) :=
  f_ck (zl_B s) <|
  f_bd (f_Tu_paidTo x1 s) fun r22 s23 =>
  f_Tu_held_b86  x1 x2 (x4 + r22) s23
theorem w_Tu_held_b76 {x1 : Int32} {x2 : Int32} {x4 : Int64} {s : Sg} {d : Nat} {Q : Option (Option Value) → Sg → Prop} (hd : 4 ≤ d) (h : okx (zq_L Q) (f_Tu_held_b76 x1 x2 x4 s)) : Xw d M_Tu_held 0 0 76 [.ref 5, .int x1, .int x2, .retAddr 0, .long x4, .retAddr 0] [] s Q := by
  unfold f_Tu_held_b76 at h
  refine xi_lload D_Tu_held_76 rfl ?_
  refine xi_aload_n D_Tu_held_78 rfl ?_
  refine xi_iload_n D_Tu_held_79 rfl ?_
  obtain ⟨g21, h⟩ := okx_ck h
  refine xj_V1 D_Tu_held_80 L_Tu_99 C_Tu_paidTo Z_Tu_paidTo (zl_fo (g21).1 rfl) (Nat.le_of_ble_eq_true rfl) (Nat.le_of_eq (Nat.sub_add_cancel (by omega))) (w_Tu_paidTo (by omega) (okx_mono (okx_bd h) ?_))
  intro r22 s23 h
  show Xw _ _ _ _ 83 _ [_, _] _ _
  refine xi_ladd D_Tu_held_83 ?_
  refine xi_lstore (ls' := [_, _, _, _, _, _]) D_Tu_held_84 rfl (by decide) ?_
  exact w_Tu_held_b86 (by omega)  h
noncomputable def f_Tu_held_b64 (x1 : Int32) (x2 : Int32) (x3 : Int32) (x4 : Int64) (s : Sg) : Option (Int64 × Sg) :=
  f_ck (zl_B s) <|
  if (mI s 5 4) = 2 then
    if x3 = 0 then
      f_Tu_held_b76  x1 x2 x4 s
    else
      f_Tu_held_b86  x1 x2 x4 s
  else
    f_Tu_held_b86  x1 x2 x4 s
theorem w_Tu_held_b64 {x1 : Int32} {x2 : Int32} {x3 : Int32} {x4 : Int64} {s : Sg} {d : Nat} {Q : Option (Option Value) → Sg → Prop} (hd : 4 ≤ d) (h : okx (zq_L Q) (f_Tu_held_b64 x1 x2 x3 x4 s)) : Xw d M_Tu_held 0 0 64 [.ref 5, .int x1, .int x2, .int x3, .long x4, .retAddr 0] [] s Q := by
  unfold f_Tu_held_b64 at h
  refine xi_aload_n D_Tu_held_64 rfl ?_
  obtain ⟨g18, h⟩ := okx_ck h
  refine xi_getI D_Tu_held_65 F_Tu_40 (zl_fo (g18).1 rfl) ⟨rfl, by decide⟩ ?_
  refine xj_iconst (v := 2) D_Tu_held_68 rfl ?_
  refine xi_icmp_ne D_Tu_held_69 (fun c19 => ?_) (fun c19 => ?_)
  · have h := okx_F c19 h
    exact xk_wk (w_Tu_held_b86 (by omega)  h) ⟨Or.inl rfl, Or.inl rfl, Or.inl rfl, Or.inr rfl, Or.inl rfl, Or.inl rfl, trivial⟩
  · have h := okx_T c19 h
    refine xi_iload_n D_Tu_held_72 rfl ?_
    refine xi_if_ne D_Tu_held_73 (fun c20 => ?_) (fun c20 => ?_)
    · have h := okx_F c20 h
      exact xk_wk (w_Tu_held_b86 (by omega)  h) ⟨Or.inl rfl, Or.inl rfl, Or.inl rfl, Or.inr rfl, Or.inl rfl, Or.inl rfl, trivial⟩
    · have h := okx_T c20 h
      exact xk_wk (w_Tu_held_b76 (by omega)  h) ⟨Or.inl rfl, Or.inl rfl, Or.inl rfl, Or.inr rfl, Or.inl rfl, Or.inl rfl, trivial⟩
noncomputable def f_Tu_held_b45 (x1 : Int32) (x2 : Int32) (x3 : Int32) (b1 : Nat) (s : Sg) : Option (Int64 × Sg) :=
  f_ck (zl_B s) <|
  f_bd (f_Tu_shareOf b1 x1 x2 s) fun r13 s14 =>
  f_ck (zl_B s14) <|
  if (mI s14 5 4) = 1 then
    if x3 = 0 then
      f_Tu_held_b64  x1 x2 x3 r13 s14
    else
      f_Tu_held_b76  x1 x2 r13 s14
  else
    f_Tu_held_b64  x1 x2 x3 r13 s14
theorem w_Tu_held_b45 {x1 : Int32} {x2 : Int32} {x3 : Int32} {b1 : Nat} {s : Sg} {d : Nat} {Q : Option (Option Value) → Sg → Prop} (hd : 4 ≤ d) (h : okx (zq_L Q) (f_Tu_held_b45 x1 x2 x3 b1 s)) : Xw d M_Tu_held 0 0 45 [.ref 5, .int x1, .int x2, .int x3, .retAddr 0, .retAddr 0] [.ref b1, .ref 5] s Q := by
  unfold f_Tu_held_b45 at h
  refine xi_iload_n D_Tu_held_45 rfl ?_
  refine xi_iload_n D_Tu_held_46 rfl ?_
  obtain ⟨g12, h⟩ := okx_ck h
  refine xj_V3 D_Tu_held_47 L_Tu_95 C_Tu_shareOf Z_Tu_shareOf (zl_fo (g12).1 rfl) (Nat.le_of_ble_eq_true rfl) (Nat.le_of_eq (Nat.sub_add_cancel (by omega))) (w_Tu_shareOf (by omega) (okx_mono (okx_bd h) ?_))
  intro r13 s14 h
  show Xw _ _ _ _ 50 _ [_] _ _
  refine xi_lstore (ls' := [_, _, _, _, _, _]) D_Tu_held_50 rfl (by decide) ?_
  refine xi_aload_n D_Tu_held_52 rfl ?_
  obtain ⟨g15, h⟩ := okx_ck h
  refine xi_getI D_Tu_held_53 F_Tu_40 (zl_fo (g15).1 rfl) ⟨rfl, by decide⟩ ?_
  refine xj_iconst (v := 1) D_Tu_held_56 rfl ?_
  refine xi_icmp_ne D_Tu_held_57 (fun c16 => ?_) (fun c16 => ?_)
  · have h := okx_F c16 h
    exact w_Tu_held_b64 (by omega)  h
  · have h := okx_T c16 h
    refine xi_iload_n D_Tu_held_60 rfl ?_
    refine xi_if_ne D_Tu_held_61 (fun c17 => ?_) (fun c17 => ?_)
    · have h := okx_F c17 h
      exact xk_wk (w_Tu_held_b76 (by omega)  h) ⟨Or.inl rfl, Or.inl rfl, Or.inl rfl, Or.inr rfl, Or.inl rfl, Or.inl rfl, trivial⟩
    · have h := okx_T c17 h
      exact w_Tu_held_b64 (by omega)  h
noncomputable def f_Tu_held_b28 (x1 : Int32) (x2 : Int32) (y0 : Int32) (s : Sg) : Option (Int64 × Sg) :=
  if y0 = 0 then
    f_ck (zl_B s) <|
    f_Tu_held_b45  x1 x2 y0 21 s
  else
    f_ck (zl_B s) <|
    f_Tu_held_b45  x1 x2 y0 26 s
theorem w_Tu_held_b28 {x1 : Int32} {x2 : Int32} {y0 : Int32} {s : Sg} {d : Nat} {Q : Option (Option Value) → Sg → Prop} (hd : 4 ≤ d) (h : okx (zq_L Q) (f_Tu_held_b28 x1 x2 y0 s)) : Xw d M_Tu_held 0 0 28 [.ref 5, .int x1, .int x2, .retAddr 0, .retAddr 0, .retAddr 0] [.int y0] s Q := by
  unfold f_Tu_held_b28 at h
  refine xi_istore_n (ls' := [_, _, _, _, _, _]) D_Tu_held_28 rfl (by decide) ?_
  refine xi_aload_n D_Tu_held_29 rfl ?_
  refine xi_iload_n D_Tu_held_30 rfl ?_
  refine xi_if_eq D_Tu_held_31 (fun c9 => ?_) (fun c9 => ?_)
  · have h := okx_T c9 h
    refine xi_aload_n D_Tu_held_41 rfl ?_
    obtain ⟨g10, h⟩ := okx_ck h
    refine xi_getR D_Tu_held_42 F_Tu_26 (zl_fo (g10).1 rfl) ⟨rfl, by decide⟩ (zl_gr (g10).2 rfl rfl) ?_
    exact w_Tu_held_b45 (by omega)  h
  · have h := okx_F c9 h
    refine xi_aload_n D_Tu_held_34 rfl ?_
    obtain ⟨g11, h⟩ := okx_ck h
    refine xi_getR D_Tu_held_35 F_Tu_30 (zl_fo (g11).1 rfl) ⟨rfl, by decide⟩ (zl_gr (g11).2 rfl rfl) ?_
    refine xi_goto D_Tu_held_38 ?_
    exact w_Tu_held_b45 (by omega)  h
noncomputable def f_Tu_held_b27 (x1 : Int32) (x2 : Int32) (s : Sg) : Option (Int64 × Sg) :=
  f_Tu_held_b28  x1 x2 0 s
theorem w_Tu_held_b27 {x1 : Int32} {x2 : Int32} {s : Sg} {d : Nat} {Q : Option (Option Value) → Sg → Prop} (hd : 4 ≤ d) (h : okx (zq_L Q) (f_Tu_held_b27 x1 x2 s)) : Xw d M_Tu_held 0 0 27 [.ref 5, .int x1, .int x2, .retAddr 0, .retAddr 0, .retAddr 0] [] s Q := by
  unfold f_Tu_held_b27 at h
  refine xj_iconst (v := 0) D_Tu_held_27 rfl ?_
  exact w_Tu_held_b28 (by omega)  h
noncomputable def f_Tu_held (x1 : Int32) (x2 : Int32) (s : Sg) : Option (Int64 × Sg) :=
  f_ck (zl_B s) <|
  f_bd (f_Wo_fill x2 s) fun r2 s3 =>
  f_ck (zl_B s3) <|
  if (mI s3 5 4) = 0 then
    f_Tu_held_b27  x1 x2 s3
  else
    f_bd (f_Tu_goesOver x2 s3) fun r6 s7 =>
    if r6 = 0 then
      f_Tu_held_b27  x1 x2 s7
    else
      f_Tu_held_b28  x1 x2 1 s7
theorem w_Tu_held {x1 : Int32} {x2 : Int32} {s : Sg} {d : Nat} {Q : Option (Option Value) → Sg → Prop} (hd : 4 ≤ d) (h : okx (zq_L Q) (f_Tu_held x1 x2 s)) : Cw d M_Tu_held [.ref 5, .int x1, .int x2] s Q := by
  refine Cw.of (by decide +kernel) (Nat.le_of_ble_eq_true rfl) ?_
  show Xw d M_Tu_held 0 0 0 [.ref 5, .int x1, .int x2, .retAddr 0, .retAddr 0, .retAddr 0] [] s _
  unfold f_Tu_held at h
  refine xi_aload_n D_Tu_held_0 rfl ?_
  obtain ⟨g1, h⟩ := okx_ck h
  refine xi_getR D_Tu_held_1 F_Tu_12 (zl_fo (g1).1 rfl) ⟨rfl, by decide⟩ (zl_gr (g1).2 rfl rfl) ?_
  refine xi_iload_n D_Tu_held_4 rfl ?_
  refine xj_V1 D_Tu_held_5 L_Tu_87 C_Wo_fill Z_Wo_fill (zl_fo (g1).1 rfl) (Nat.le_of_ble_eq_true rfl) (Nat.le_of_eq (Nat.sub_add_cancel (by omega))) (w_Wo_fill (by omega) (okx_mono (okx_bd h) ?_))
  intro r2 s3 h
  show Xw _ _ _ _ 8 _ [] _ _
  refine xi_aload_n D_Tu_held_8 rfl ?_
  obtain ⟨g4, h⟩ := okx_ck h
  refine xi_getI D_Tu_held_9 F_Tu_40 (zl_fo (g4).1 rfl) ⟨rfl, by decide⟩ ?_
  refine xi_if_eq D_Tu_held_12 (fun c5 => ?_) (fun c5 => ?_)
  · have h := okx_T c5 h
    exact w_Tu_held_b27 (by omega)  h
  · have h := okx_F c5 h
    refine xi_aload_n D_Tu_held_15 rfl ?_
    refine xi_iload_n D_Tu_held_16 rfl ?_
    refine xj_V1 D_Tu_held_17 L_Tu_91 C_Tu_goesOver Z_Tu_goesOver (zl_fo (g4).1 rfl) (Nat.le_of_ble_eq_true rfl) (Nat.le_of_eq (Nat.sub_add_cancel (by omega))) (w_Tu_goesOver (by omega) (okx_mono (okx_bd h) ?_))
    intro r6 s7 h
    show Xw _ _ _ _ 20 _ [_] _ _
    refine xi_if_eq D_Tu_held_20 (fun c8 => ?_) (fun c8 => ?_)
    · have h := okx_T c8 h
      exact w_Tu_held_b27 (by omega)  h
    · have h := okx_F c8 h
      refine xj_iconst (v := 1) D_Tu_held_23 rfl ?_
      refine xi_goto D_Tu_held_24 ?_
      exact w_Tu_held_b28 (by omega)  h
noncomputable def f_Tu_chosen_b118 (R44 : Int32 → Int32 → Int32 → Int32 → Int32 → Int64 → Int32 → Int32 → Sg → Option (Int32 × Sg)) (x1 : Int32) (x2 : Int32) (x3 : Int32) (x4 : Int32) (x5 : Int32) (x6 : Int64) (x8 : Int32) (x9 : Int32) (s : Sg) : Option (Int32 × Sg) :=
  R44 x1 x2 x3 x4 x5 x6 x8 (x9 + 1) s
theorem w_Tu_chosen_b118 {x1 : Int32} {x2 : Int32} {x3 : Int32} {x4 : Int32} {x5 : Int32} {x6 : Int64} {x8 : Int32} {x9 : Int32} {s : Sg} {d : Nat} {Q : Option (Option Value) → Sg → Prop} (hd : 5 ≤ d) {R44 : Int32 → Int32 → Int32 → Int32 → Int32 → Int64 → Int32 → Int32 → Sg → Option (Int32 × Sg)} (hR44 : ∀ (x1 : Int32) (x2 : Int32) (x3 : Int32) (x4 : Int32) (x5 : Int32) (x6 : Int64) (x8 : Int32) (x9 : Int32) (s : Sg), okx (zq_I Q) (R44 x1 x2 x3 x4 x5 x6 x8 x9 s) → Xw d M_Tu_chosen 0 0 44 [.ref 5, .int x1, .int x2, .int x3, .int x4, .int x5, .long x6, .retAddr 0, .int x8, .int x9, .retAddr 0, .retAddr 0, .retAddr 0] [] s Q) (h : okx (zq_I Q) (f_Tu_chosen_b118 R44 x1 x2 x3 x4 x5 x6 x8 x9 s)) : Xw d M_Tu_chosen 0 0 118 [.ref 5, .int x1, .int x2, .int x3, .int x4, .int x5, .long x6, .retAddr 0, .int x8, .int x9, .retAddr 0, .retAddr 0, .retAddr 0] [] s Q := by
  unfold f_Tu_chosen_b118 at h
  refine xi_iinc (v := _ + 1) (ls' := [_, _, _, _, _, _, _, _, _, _, _, _, _]) D_Tu_chosen_118 rfl rfl rfl (by decide) ?_
  refine xi_goto D_Tu_chosen_121 ?_
  exact hR44 _ _ _ _ _ _ _ _ _ h
noncomputable def f_Tu_chosen_b97 (R44 : Int32 → Int32 → Int32 → Int32 → Int32 → Int64 → Int32 → Int32 → Sg → Option (Int32 × Sg)) (x1 : Int32) (x2 : Int32) (x3 : Int32) (x4 : Int32) (x5 : Int32) (x6 : Int64) (x8 : Int32) (x9 : Int32) (x10 : Int32) (x11 : Int64) (s : Sg) : Option (Int32 × Sg) :=
  if x3 = 0 then
    f_Tu_chosen_b118 R44 x1 x2 x3 x4 x5 x6 x8 x9 s
  else
    if x10 = x2 then
      if (lg_cmp x11 x6) = 0 then
        f_Tu_chosen_b118 R44 x1 x2 x3 x4 x5 x6 1 x9 s
      else
        f_Tu_chosen_b118 R44 x1 x2 x3 x4 x5 x6 x8 x9 s
    else
      f_Tu_chosen_b118 R44 x1 x2 x3 x4 x5 x6 x8 x9 s
theorem w_Tu_chosen_b97 {x1 : Int32} {x2 : Int32} {x3 : Int32} {x4 : Int32} {x5 : Int32} {x6 : Int64} {x8 : Int32} {x9 : Int32} {x10 : Int32} {x11 : Int64} {s : Sg} {d : Nat} {Q : Option (Option Value) → Sg → Prop} (hd : 5 ≤ d) {R44 : Int32 → Int32 → Int32 → Int32 → Int32 → Int64 → Int32 → Int32 → Sg → Option (Int32 × Sg)} (hR44 : ∀ (x1 : Int32) (x2 : Int32) (x3 : Int32) (x4 : Int32) (x5 : Int32) (x6 : Int64) (x8 : Int32) (x9 : Int32) (s : Sg), okx (zq_I Q) (R44 x1 x2 x3 x4 x5 x6 x8 x9 s) → Xw d M_Tu_chosen 0 0 44 [.ref 5, .int x1, .int x2, .int x3, .int x4, .int x5, .long x6, .retAddr 0, .int x8, .int x9, .retAddr 0, .retAddr 0, .retAddr 0] [] s Q) (h : okx (zq_I Q) (f_Tu_chosen_b97 R44 x1 x2 x3 x4 x5 x6 x8 x9 x10 x11 s)) : Xw d M_Tu_chosen 0 0 97 [.ref 5, .int x1, .int x2, .int x3, .int x4, .int x5, .long x6, .retAddr 0, .int x8, .int x9, .int x10, .long x11, .retAddr 0] [] s Q := by
  unfold f_Tu_chosen_b97 at h
  refine xi_iload_n D_Tu_chosen_97 rfl ?_
  refine xi_if_eq D_Tu_chosen_98 (fun c13 => ?_) (fun c13 => ?_)
  · have h := okx_T c13 h
    exact xk_wk (w_Tu_chosen_b118 (by omega) hR44 h) ⟨Or.inl rfl, Or.inl rfl, Or.inl rfl, Or.inl rfl, Or.inl rfl, Or.inl rfl, Or.inl rfl, Or.inl rfl, Or.inl rfl, Or.inl rfl, Or.inr rfl, Or.inr rfl, Or.inl rfl, trivial⟩
  · have h := okx_F c13 h
    refine xi_iload D_Tu_chosen_101 rfl ?_
    refine xi_iload_n D_Tu_chosen_103 rfl ?_
    refine xi_icmp_ne D_Tu_chosen_104 (fun c14 => ?_) (fun c14 => ?_)
    · have h := okx_F c14 h
      exact xk_wk (w_Tu_chosen_b118 (by omega) hR44 h) ⟨Or.inl rfl, Or.inl rfl, Or.inl rfl, Or.inl rfl, Or.inl rfl, Or.inl rfl, Or.inl rfl, Or.inl rfl, Or.inl rfl, Or.inl rfl, Or.inr rfl, Or.inr rfl, Or.inl rfl, trivial⟩
    · have h := okx_T c14 h
      refine xi_lload D_Tu_chosen_107 rfl ?_
      refine xi_lload D_Tu_chosen_109 rfl ?_
      refine xi_lcmp D_Tu_chosen_111 ?_
      refine xi_if_ne D_Tu_chosen_112 (fun c15 => ?_) (fun c15 => ?_)
      · have h := okx_F c15 h
        exact xk_wk (w_Tu_chosen_b118 (by omega) hR44 h) ⟨Or.inl rfl, Or.inl rfl, Or.inl rfl, Or.inl rfl, Or.inl rfl, Or.inl rfl, Or.inl rfl, Or.inl rfl, Or.inl rfl, Or.inl rfl, Or.inr rfl, Or.inr rfl, Or.inl rfl, trivial⟩
      · have h := okx_T c15 h
        refine xj_iconst (v := 1) D_Tu_chosen_115 rfl ?_
        refine xi_istore (ls' := [_, _, _, _, _, _, _, _, _, _, _, _, _]) D_Tu_chosen_116 rfl (by decide) ?_
        exact xk_wk (w_Tu_chosen_b118 (by omega) hR44 h) ⟨Or.inl rfl, Or.inl rfl, Or.inl rfl, Or.inl rfl, Or.inl rfl, Or.inl rfl, Or.inl rfl, Or.inl rfl, Or.inl rfl, Or.inl rfl, Or.inr rfl, Or.inr rfl, Or.inl rfl, trivial⟩
noncomputable def f_Tu_chosen_b124 (x2 : Int32) (x5 : Int32) (x8 : Int32) (s : Sg) : Option (Int32 × Sg) :=
  if x8 = 0 then
    some (x5, s)
  else
    some (x2, s)
theorem w_Tu_chosen_b124 {x2 : Int32} {x5 : Int32} {x8 : Int32} {s : Sg} {d : Nat} {Q : Option (Option Value) → Sg → Prop} (hd : 5 ≤ d) (h : okx (zq_I Q) (f_Tu_chosen_b124 x2 x5 x8 s)) : Xw d M_Tu_chosen 0 0 124 [.retAddr 0, .retAddr 0, .int x2, .retAddr 0, .retAddr 0, .int x5, .retAddr 0, .retAddr 0, .int x8, .retAddr 0, .retAddr 0, .retAddr 0, .retAddr 0] [] s Q := by
  unfold f_Tu_chosen_b124 at h
  refine xi_iload D_Tu_chosen_124 rfl ?_
  refine xi_if_eq D_Tu_chosen_126 (fun c16 => ?_) (fun c16 => ?_)
  · have h := okx_T c16 h
    refine xi_iload D_Tu_chosen_133 rfl ?_
    exact xi_ireturn D_Tu_chosen_135 rfl (rfl) (okx_I h)
  · have h := okx_F c16 h
    refine xi_iload_n D_Tu_chosen_129 rfl ?_
    refine xi_goto D_Tu_chosen_130 ?_
    exact xi_ireturn D_Tu_chosen_135 rfl (rfl) (okx_I h)
noncomputable def f_Tu_chosen_b44 (R44 : Int32 → Int32 → Int32 → Int32 → Int32 → Int64 → Int32 → Int32 → Sg → Option (Int32 × Sg)) (x1 : Int32) (x2 : Int32) (x3 : Int32) (x4 : Int32) (x5 : Int32) (x6 : Int64) (x8 : Int32) (x9 : Int32) (s : Sg) : Option (Int32 × Sg) :=
  f_ck (zl_B s) <|
  f_ck (vp_in x1 4) <|
  if (mI s 8 (Int32.toNatClampNeg x1)) < x9 then
    f_Tu_chosen_b124  x2 x5 x8 s
  else
    f_bd (f_Tu_held x1 (x4 ||| (x9 <<< ((2 * x1) &&& 31))) s) fun r10 s11 =>
    if (lg_cmp r10 x6) ≤ 0 then
      f_Tu_chosen_b97 R44 x1 x2 x3 x4 x5 x6 x8 x9 (x4 ||| (x9 <<< ((2 * x1) &&& 31))) r10 s11
    else
      f_Tu_chosen_b97 R44 x1 x2 x3 x4 (x4 ||| (x9 <<< ((2 * x1) &&& 31))) r10 0 x9 (x4 ||| (x9 <<< ((2 * x1) &&& 31))) r10 s11
theorem w_Tu_chosen_b44 {x1 : Int32} {x2 : Int32} {x3 : Int32} {x4 : Int32} {x5 : Int32} {x6 : Int64} {x8 : Int32} {x9 : Int32} {s : Sg} {d : Nat} {Q : Option (Option Value) → Sg → Prop} (hd : 5 ≤ d) {R44 : Int32 → Int32 → Int32 → Int32 → Int32 → Int64 → Int32 → Int32 → Sg → Option (Int32 × Sg)} (hR44 : ∀ (x1 : Int32) (x2 : Int32) (x3 : Int32) (x4 : Int32) (x5 : Int32) (x6 : Int64) (x8 : Int32) (x9 : Int32) (s : Sg), okx (zq_I Q) (R44 x1 x2 x3 x4 x5 x6 x8 x9 s) → Xw d M_Tu_chosen 0 0 44 [.ref 5, .int x1, .int x2, .int x3, .int x4, .int x5, .long x6, .retAddr 0, .int x8, .int x9, .retAddr 0, .retAddr 0, .retAddr 0] [] s Q) (h : okx (zq_I Q) (f_Tu_chosen_b44 R44 x1 x2 x3 x4 x5 x6 x8 x9 s)) : Xw d M_Tu_chosen 0 0 44 [.ref 5, .int x1, .int x2, .int x3, .int x4, .int x5, .long x6, .retAddr 0, .int x8, .int x9, .retAddr 0, .retAddr 0, .retAddr 0] [] s Q := by
  unfold f_Tu_chosen_b44 at h
  refine xi_iload D_Tu_chosen_44 rfl ?_
  refine xi_aload_n D_Tu_chosen_46 rfl ?_
  obtain ⟨g7, h⟩ := okx_ck h
  refine xi_getR D_Tu_chosen_47 F_Tu_22 (zl_fo (g7).1 rfl) ⟨rfl, by decide⟩ (zl_gr (g7).2 rfl rfl) ?_
  refine xi_getR D_Tu_chosen_50 F_Tu_83 (zl_fo (g7).1 rfl) ⟨rfl, by decide⟩ (zl_gr (g7).2 rfl rfl) ?_
  refine xi_iload_n D_Tu_chosen_53 rfl ?_
  obtain ⟨g8, h⟩ := okx_ck h
  refine xj_iald D_Tu_chosen_54 (zl_fx (g7).1 rfl) (zl_ib (n := 4) rfl (g8)) ?_
  refine xi_icmp_gt D_Tu_chosen_55 (fun c9 => ?_) (fun c9 => ?_)
  · have h := okx_T c9 h
    exact xk_wk (w_Tu_chosen_b124 (by omega)  h) ⟨Or.inr rfl, Or.inr rfl, Or.inl rfl, Or.inr rfl, Or.inr rfl, Or.inl rfl, Or.inr rfl, Or.inl rfl, Or.inl rfl, Or.inr rfl, Or.inl rfl, Or.inl rfl, Or.inl rfl, trivial⟩
  · have h := okx_F c9 h
    refine xi_iload D_Tu_chosen_58 rfl ?_
    refine xi_iload D_Tu_chosen_60 rfl ?_
    refine xj_iconst (v := 2) D_Tu_chosen_62 rfl ?_
    refine xi_iload_n D_Tu_chosen_63 rfl ?_
    refine xi_imul D_Tu_chosen_64 ?_
    refine xi_ishl D_Tu_chosen_65 ?_
    refine xi_ior D_Tu_chosen_66 ?_
    refine xi_istore (ls' := [_, _, _, _, _, _, _, _, _, _, _, _, _]) D_Tu_chosen_67 rfl (by decide) ?_
    refine xi_aload_n D_Tu_chosen_69 rfl ?_
    refine xi_iload_n D_Tu_chosen_70 rfl ?_
    refine xi_iload D_Tu_chosen_71 rfl ?_
    refine xj_V2 D_Tu_chosen_73 L_Tu_79 C_Tu_held Z_Tu_held (zl_fo (g7).1 rfl) (Nat.le_of_ble_eq_true rfl) (Nat.le_of_eq (Nat.sub_add_cancel (by omega))) (w_Tu_held (by omega) (okx_mono (okx_bd h) ?_))
    intro r10 s11 h
    show Xw _ _ _ _ 76 _ [_] _ _
    refine xi_lstore (ls' := [_, _, _, _, _, _, _, _, _, _, _, _, _]) D_Tu_chosen_76 rfl (by decide) ?_
    refine xi_lload D_Tu_chosen_78 rfl ?_
    refine xi_lload D_Tu_chosen_80 rfl ?_
    refine xi_lcmp D_Tu_chosen_82 ?_
    refine xi_if_le D_Tu_chosen_83 (fun c12 => ?_) (fun c12 => ?_)
    · have h := okx_T c12 h
      exact w_Tu_chosen_b97 (by omega) hR44 h
    · have h := okx_F c12 h
      refine xi_iload D_Tu_chosen_86 rfl ?_
      refine xi_istore (ls' := [_, _, _, _, _, _, _, _, _, _, _, _, _]) D_Tu_chosen_88 rfl (by decide) ?_
      refine xi_lload D_Tu_chosen_90 rfl ?_
      refine xi_lstore (ls' := [_, _, _, _, _, _, _, _, _, _, _, _, _]) D_Tu_chosen_92 rfl (by decide) ?_
      refine xj_iconst (v := 0) D_Tu_chosen_94 rfl ?_
      refine xi_istore (ls' := [_, _, _, _, _, _, _, _, _, _, _, _, _]) D_Tu_chosen_95 rfl (by decide) ?_
      exact w_Tu_chosen_b97 (by omega) hR44 h
noncomputable def f_Tu_chosen_h44 : Nat → Int32 → Int32 → Int32 → Int32 → Int32 → Int64 → Int32 → Int32 → Sg → Option (Int32 × Sg)
  | 0, _, _, _, _, _, _, _, _, _ => none
  | n + 1, x1, x2, x3, x4, x5, x6, x8, x9, s => f_Tu_chosen_b44 (f_Tu_chosen_h44 n) x1 x2 x3 x4 x5 x6 x8 x9 s
theorem w_Tu_chosen_h44 {d : Nat} {Q : Option (Option Value) → Sg → Prop} (hd : 5 ≤ d) : ∀ (n : Nat) (x1 : Int32) (x2 : Int32) (x3 : Int32) (x4 : Int32) (x5 : Int32) (x6 : Int64) (x8 : Int32) (x9 : Int32) (s : Sg), okx (zq_I Q) (f_Tu_chosen_h44 n x1 x2 x3 x4 x5 x6 x8 x9 s) → Xw d M_Tu_chosen 0 0 44 [.ref 5, .int x1, .int x2, .int x3, .int x4, .int x5, .long x6, .retAddr 0, .int x8, .int x9, .retAddr 0, .retAddr 0, .retAddr 0] [] s Q := by
  intro n
  induction n with
  | zero => intro x1 x2 x3 x4 x5 x6 x8 x9 s h; exact okx_no h
  | succ n ih => intro x1 x2 x3 x4 x5 x6 x8 x9 s h; exact w_Tu_chosen_b44 hd  ih  h
noncomputable def f_Tu_chosen_b39 (x1 : Int32) (x2 : Int32) (x3 : Int32) (x4 : Int32) (x5 : Int32) (x6 : Int64) (y0 : Int32) (s : Sg) : Option (Int32 × Sg) :=
  f_Tu_chosen_h44  zl_fl x1 x2 x3 x4 x5 x6 y0 1 s
theorem w_Tu_chosen_b39 {x1 : Int32} {x2 : Int32} {x3 : Int32} {x4 : Int32} {x5 : Int32} {x6 : Int64} {y0 : Int32} {s : Sg} {d : Nat} {Q : Option (Option Value) → Sg → Prop} (hd : 5 ≤ d) (h : okx (zq_I Q) (f_Tu_chosen_b39 x1 x2 x3 x4 x5 x6 y0 s)) : Xw d M_Tu_chosen 0 0 39 [.ref 5, .int x1, .int x2, .int x3, .int x4, .int x5, .long x6, .retAddr 0, .retAddr 0, .retAddr 0, .retAddr 0, .retAddr 0, .retAddr 0] [.int y0] s Q := by
  unfold f_Tu_chosen_b39 at h
  refine xi_istore (ls' := [_, _, _, _, _, _, _, _, _, _, _, _, _]) D_Tu_chosen_39 rfl (by decide) ?_
  refine xj_iconst (v := 1) D_Tu_chosen_41 rfl ?_
  refine xi_istore (ls' := [_, _, _, _, _, _, _, _, _, _, _, _, _]) D_Tu_chosen_42 rfl (by decide) ?_
  exact w_Tu_chosen_h44 (by omega)  _ _ _ _ _ _ _ _ _ _ h
noncomputable def f_Tu_chosen_b38 (x1 : Int32) (x2 : Int32) (x3 : Int32) (x4 : Int32) (x5 : Int32) (x6 : Int64) (s : Sg) : Option (Int32 × Sg) :=
  f_Tu_chosen_b39  x1 x2 x3 x4 x5 x6 0 s
theorem w_Tu_chosen_b38 {x1 : Int32} {x2 : Int32} {x3 : Int32} {x4 : Int32} {x5 : Int32} {x6 : Int64} {s : Sg} {d : Nat} {Q : Option (Option Value) → Sg → Prop} (hd : 5 ≤ d) (h : okx (zq_I Q) (f_Tu_chosen_b38 x1 x2 x3 x4 x5 x6 s)) : Xw d M_Tu_chosen 0 0 38 [.ref 5, .int x1, .int x2, .int x3, .int x4, .int x5, .long x6, .retAddr 0, .retAddr 0, .retAddr 0, .retAddr 0, .retAddr 0, .retAddr 0] [] s Q := by
  unfold f_Tu_chosen_b38 at h
  refine xj_iconst (v := 0) D_Tu_chosen_38 rfl ?_
  exact w_Tu_chosen_b39 (by omega)  h
noncomputable def f_Tu_chosen (x1 : Int32) (x2 : Int32) (x3 : Int32) (s : Sg) : Option (Int32 × Sg) :=
  let v1 : Int32 := (x2 &&& (((3 : Int32) <<< ((2 * x1) &&& 31)) ^^^ (-1)))
  f_ck (zl_B s) <|
  f_bd (f_Tu_held x1 v1 s) fun r3 s4 =>
  if x3 = 0 then
    f_Tu_chosen_b38  x1 x2 x3 v1 v1 r3 s4
  else
    if x2 = v1 then
      f_Tu_chosen_b39  x1 x2 x3 v1 v1 r3 1 s4
    else
      f_Tu_chosen_b38  x1 x2 x3 v1 v1 r3 s4
theorem w_Tu_chosen {x1 : Int32} {x2 : Int32} {x3 : Int32} {s : Sg} {d : Nat} {Q : Option (Option Value) → Sg → Prop} (hd : 5 ≤ d) (h : okx (zq_I Q) (f_Tu_chosen x1 x2 x3 s)) : Cw d M_Tu_chosen [.ref 5, .int x1, .int x2, .int x3] s Q := by
  refine Cw.of (by decide +kernel) (Nat.le_of_ble_eq_true rfl) ?_
  show Xw d M_Tu_chosen 0 0 0 [.ref 5, .int x1, .int x2, .int x3, .retAddr 0, .retAddr 0, .retAddr 0, .retAddr 0, .retAddr 0, .retAddr 0, .retAddr 0, .retAddr 0, .retAddr 0] [] s _
  unfold f_Tu_chosen at h
  refine xi_iload_n D_Tu_chosen_0 rfl ?_
  refine xj_iconst (v := 3) D_Tu_chosen_1 rfl ?_
  refine xj_iconst (v := 2) D_Tu_chosen_2 rfl ?_
  refine xi_iload_n D_Tu_chosen_3 rfl ?_
  refine xi_imul D_Tu_chosen_4 ?_
  refine xi_ishl D_Tu_chosen_5 ?_
  refine xj_iconst (v := (-1)) D_Tu_chosen_6 rfl ?_
  refine xi_ixor D_Tu_chosen_7 ?_
  refine xi_iand D_Tu_chosen_8 ?_
  refine xi_istore (ls' := [_, _, _, _, _, _, _, _, _, _, _, _, _]) D_Tu_chosen_9 rfl (by decide) ?_
  refine xi_iload D_Tu_chosen_11 rfl ?_
  refine xi_istore (ls' := [_, _, _, _, _, _, _, _, _, _, _, _, _]) D_Tu_chosen_13 rfl (by decide) ?_
  refine xi_aload_n D_Tu_chosen_15 rfl ?_
  refine xi_iload_n D_Tu_chosen_16 rfl ?_
  refine xi_iload D_Tu_chosen_17 rfl ?_
  obtain ⟨g2, h⟩ := okx_ck h
  refine xj_V2 D_Tu_chosen_19 L_Tu_79 C_Tu_held Z_Tu_held (zl_fo (g2).1 rfl) (Nat.le_of_ble_eq_true rfl) (Nat.le_of_eq (Nat.sub_add_cancel (by omega))) (w_Tu_held (by omega) (okx_mono (okx_bd h) ?_))
  intro r3 s4 h
  show Xw _ _ _ _ 22 _ [_] _ _
  refine xi_lstore (ls' := [_, _, _, _, _, _, _, _, _, _, _, _, _]) D_Tu_chosen_22 rfl (by decide) ?_
  refine xi_iload_n D_Tu_chosen_24 rfl ?_
  refine xi_if_eq D_Tu_chosen_25 (fun c5 => ?_) (fun c5 => ?_)
  · have h := okx_T c5 h
    exact w_Tu_chosen_b38 (by omega)  h
  · have h := okx_F c5 h
    refine xi_iload_n D_Tu_chosen_28 rfl ?_
    refine xi_iload D_Tu_chosen_29 rfl ?_
    refine xi_icmp_ne D_Tu_chosen_31 (fun c6 => ?_) (fun c6 => ?_)
    · have h := okx_F c6 h
      exact w_Tu_chosen_b38 (by omega)  h
    · have h := okx_T c6 h
      refine xj_iconst (v := 1) D_Tu_chosen_34 rfl ?_
      refine xi_goto D_Tu_chosen_35 ?_
      exact w_Tu_chosen_b39 (by omega)  h
noncomputable def f_Tu_byTurns_b45 (R5 : Int32 → Int32 → Int32 → Sg → Option (Int32 × Sg)) (R18 : Int32 → Int32 → Int32 → Int32 → Int32 → Sg → Option (Int32 × Sg)) (x2 : Int32) (x3 : Int32) (x4 : Int32) (x5 : Int32) (x6 : Int32) (s : Sg) : Option (Int32 × Sg) :=
  R18 x2 x3 x4 x5 (x6 + 1) s
theorem w_Tu_byTurns_b45 {x2 : Int32} {x3 : Int32} {x4 : Int32} {x5 : Int32} {x6 : Int32} {s : Sg} {d : Nat} {Q : Option (Option Value) → Sg → Prop} (hd : 6 ≤ d) {R5 : Int32 → Int32 → Int32 → Sg → Option (Int32 × Sg)} {R18 : Int32 → Int32 → Int32 → Int32 → Int32 → Sg → Option (Int32 × Sg)} (hR5 : ∀ (x2 : Int32) (x3 : Int32) (x4 : Int32) (s : Sg), okx (zq_I Q) (R5 x2 x3 x4 s) → Xw d M_Tu_byTurns 0 0 5 [.ref 5, .retAddr 0, .int x2, .int x3, .int x4, .retAddr 0, .retAddr 0] [] s Q) (hR18 : ∀ (x2 : Int32) (x3 : Int32) (x4 : Int32) (x5 : Int32) (x6 : Int32) (s : Sg), okx (zq_I Q) (R18 x2 x3 x4 x5 x6 s) → Xw d M_Tu_byTurns 0 0 18 [.ref 5, .retAddr 0, .int x2, .int x3, .int x4, .int x5, .int x6] [] s Q) (h : okx (zq_I Q) (f_Tu_byTurns_b45 R5 R18 x2 x3 x4 x5 x6 s)) : Xw d M_Tu_byTurns 0 0 45 [.ref 5, .retAddr 0, .int x2, .int x3, .int x4, .int x5, .int x6] [] s Q := by
  unfold f_Tu_byTurns_b45 at h
  refine xi_iinc (v := _ + 1) (ls' := [_, _, _, _, _, _, _]) D_Tu_byTurns_45 rfl rfl rfl (by decide) ?_
  refine xi_goto D_Tu_byTurns_48 ?_
  exact hR18 _ _ _ _ _ _ h
noncomputable def f_Tu_byTurns_b57 (x3 : Int32) (x4 : Int32) (s : Sg) : Option (Int32 × Sg) :=
  f_ck (zl_B s) <|
  let s9 : Sg := uI s 5 8 x4
  some (x3, s9)
theorem w_Tu_byTurns_b57 {x3 : Int32} {x4 : Int32} {s : Sg} {d : Nat} {Q : Option (Option Value) → Sg → Prop} (hd : 6 ≤ d) (h : okx (zq_I Q) (f_Tu_byTurns_b57 x3 x4 s)) : Xw d M_Tu_byTurns 0 0 57 [.ref 5, .retAddr 0, .retAddr 0, .int x3, .int x4, .retAddr 0, .retAddr 0] [] s Q := by
  unfold f_Tu_byTurns_b57 at h
  refine xi_aload_n D_Tu_byTurns_57 rfl ?_
  refine xi_iload D_Tu_byTurns_58 rfl ?_
  obtain ⟨g8, h⟩ := okx_ck h
  refine xi_putI D_Tu_byTurns_60 F_Tu_76 (zl_fo (g8).1 rfl) ⟨rfl, by decide, rfl⟩ (⟨rfl, rfl⟩) ?_
  refine xi_iload_n D_Tu_byTurns_63 rfl ?_
  exact xi_ireturn D_Tu_byTurns_64 rfl (rfl) (okx_I h)
noncomputable def f_Tu_byTurns_b51 (R5 : Int32 → Int32 → Int32 → Sg → Option (Int32 × Sg)) (x2 : Int32) (x3 : Int32) (x4 : Int32) (x5 : Int32) (s : Sg) : Option (Int32 × Sg) :=
  if x3 = x5 then
    f_Tu_byTurns_b57  x3 x4 s
  else
    R5 x2 x3 (x4 + 1) s
theorem w_Tu_byTurns_b51 {x2 : Int32} {x3 : Int32} {x4 : Int32} {x5 : Int32} {s : Sg} {d : Nat} {Q : Option (Option Value) → Sg → Prop} (hd : 6 ≤ d) {R5 : Int32 → Int32 → Int32 → Sg → Option (Int32 × Sg)} (hR5 : ∀ (x2 : Int32) (x3 : Int32) (x4 : Int32) (s : Sg), okx (zq_I Q) (R5 x2 x3 x4 s) → Xw d M_Tu_byTurns 0 0 5 [.ref 5, .retAddr 0, .int x2, .int x3, .int x4, .retAddr 0, .retAddr 0] [] s Q) (h : okx (zq_I Q) (f_Tu_byTurns_b51 R5 x2 x3 x4 x5 s)) : Xw d M_Tu_byTurns 0 0 51 [.ref 5, .retAddr 0, .int x2, .int x3, .int x4, .int x5, .retAddr 0] [] s Q := by
  unfold f_Tu_byTurns_b51 at h
  refine xi_iload_n D_Tu_byTurns_51 rfl ?_
  refine xi_iload D_Tu_byTurns_52 rfl ?_
  refine xi_icmp_ne D_Tu_byTurns_54 (fun c7 => ?_) (fun c7 => ?_)
  · have h := okx_F c7 h
    refine xi_iinc (v := _ + 1) (ls' := [_, _, _, _, _, _, _]) D_Tu_byTurns_65 rfl rfl rfl (by decide) ?_
    refine xi_goto D_Tu_byTurns_68 ?_
    exact xk_wk (hR5 _ _ _ _ h) ⟨Or.inl rfl, Or.inl rfl, Or.inl rfl, Or.inl rfl, Or.inl rfl, Or.inr rfl, Or.inl rfl, trivial⟩
  · have h := okx_T c7 h
    exact xk_wk (w_Tu_byTurns_b57 (by omega)  h) ⟨Or.inl rfl, Or.inl rfl, Or.inr rfl, Or.inl rfl, Or.inl rfl, Or.inr rfl, Or.inl rfl, trivial⟩
noncomputable def f_Tu_byTurns_b18 (R5 : Int32 → Int32 → Int32 → Sg → Option (Int32 × Sg)) (R18 : Int32 → Int32 → Int32 → Int32 → Int32 → Sg → Option (Int32 × Sg)) (x2 : Int32) (x3 : Int32) (x4 : Int32) (x5 : Int32) (x6 : Int32) (s : Sg) : Option (Int32 × Sg) :=
  f_ck (zl_B s) <|
  if (mI s 7 0) ≤ x6 then
    f_Tu_byTurns_b51 R5 x2 x3 x4 x5 s
  else
    if x6 = x2 then
      f_Tu_byTurns_b45 R5 R18 x2 x3 x4 x5 x6 s
    else
      f_bd (f_Tu_chosen x6 x3 1 s) fun r5 s6 =>
      f_Tu_byTurns_b45 R5 R18 x2 r5 x4 x5 x6 s6
theorem w_Tu_byTurns_b18 {x2 : Int32} {x3 : Int32} {x4 : Int32} {x5 : Int32} {x6 : Int32} {s : Sg} {d : Nat} {Q : Option (Option Value) → Sg → Prop} (hd : 6 ≤ d) {R5 : Int32 → Int32 → Int32 → Sg → Option (Int32 × Sg)} {R18 : Int32 → Int32 → Int32 → Int32 → Int32 → Sg → Option (Int32 × Sg)} (hR5 : ∀ (x2 : Int32) (x3 : Int32) (x4 : Int32) (s : Sg), okx (zq_I Q) (R5 x2 x3 x4 s) → Xw d M_Tu_byTurns 0 0 5 [.ref 5, .retAddr 0, .int x2, .int x3, .int x4, .retAddr 0, .retAddr 0] [] s Q) (hR18 : ∀ (x2 : Int32) (x3 : Int32) (x4 : Int32) (x5 : Int32) (x6 : Int32) (s : Sg), okx (zq_I Q) (R18 x2 x3 x4 x5 x6 s) → Xw d M_Tu_byTurns 0 0 18 [.ref 5, .retAddr 0, .int x2, .int x3, .int x4, .int x5, .int x6] [] s Q) (h : okx (zq_I Q) (f_Tu_byTurns_b18 R5 R18 x2 x3 x4 x5 x6 s)) : Xw d M_Tu_byTurns 0 0 18 [.ref 5, .retAddr 0, .int x2, .int x3, .int x4, .int x5, .int x6] [] s Q := by
  unfold f_Tu_byTurns_b18 at h
  refine xi_iload D_Tu_byTurns_18 rfl ?_
  refine xi_aload_n D_Tu_byTurns_20 rfl ?_
  obtain ⟨g2, h⟩ := okx_ck h
  refine xi_getR D_Tu_byTurns_21 F_Tu_22 (zl_fo (g2).1 rfl) ⟨rfl, by decide⟩ (zl_gr (g2).2 rfl rfl) ?_
  refine xi_getI D_Tu_byTurns_24 F_Tu_67 (zl_fo (g2).1 rfl) ⟨rfl, by decide⟩ ?_
  refine xi_icmp_ge D_Tu_byTurns_27 (fun c3 => ?_) (fun c3 => ?_)
  · have h := okx_T c3 h
    exact xk_wk (w_Tu_byTurns_b51 (by omega) hR5 h) ⟨Or.inl rfl, Or.inl rfl, Or.inl rfl, Or.inl rfl, Or.inl rfl, Or.inl rfl, Or.inr rfl, trivial⟩
  · have h := okx_F c3 h
    refine xi_iload D_Tu_byTurns_30 rfl ?_
    refine xi_iload_n D_Tu_byTurns_32 rfl ?_
    refine xi_icmp_eq D_Tu_byTurns_33 (fun c4 => ?_) (fun c4 => ?_)
    · have h := okx_T c4 h
      exact w_Tu_byTurns_b45 (by omega) hR5 hR18 h
    · have h := okx_F c4 h
      refine xi_aload_n D_Tu_byTurns_36 rfl ?_
      refine xi_iload D_Tu_byTurns_37 rfl ?_
      refine xi_iload_n D_Tu_byTurns_39 rfl ?_
      refine xj_iconst (v := 1) D_Tu_byTurns_40 rfl ?_
      refine xj_V3 D_Tu_byTurns_41 L_Tu_72 C_Tu_chosen Z_Tu_chosen (zl_fo (g2).1 rfl) (Nat.le_of_ble_eq_true rfl) (Nat.le_of_eq (Nat.sub_add_cancel (by omega))) (w_Tu_chosen (by omega) (okx_mono (okx_bd h) ?_))
      intro r5 s6 h
      show Xw _ _ _ _ 44 _ [_] _ _
      refine xi_istore_n (ls' := [_, _, _, _, _, _, _]) D_Tu_byTurns_44 rfl (by decide) ?_
      exact w_Tu_byTurns_b45 (by omega) hR5 hR18 h
noncomputable def f_Tu_byTurns_h18 (R5 : Int32 → Int32 → Int32 → Sg → Option (Int32 × Sg)) : Nat → Int32 → Int32 → Int32 → Int32 → Int32 → Sg → Option (Int32 × Sg)
  | 0, _, _, _, _, _, _ => none
  | n + 1, x2, x3, x4, x5, x6, s => f_Tu_byTurns_b18 R5 (f_Tu_byTurns_h18 R5 n) x2 x3 x4 x5 x6 s
theorem w_Tu_byTurns_h18 {d : Nat} {Q : Option (Option Value) → Sg → Prop} (hd : 6 ≤ d) {R5 : Int32 → Int32 → Int32 → Sg → Option (Int32 × Sg)} (hR5 : ∀ (x2 : Int32) (x3 : Int32) (x4 : Int32) (s : Sg), okx (zq_I Q) (R5 x2 x3 x4 s) → Xw d M_Tu_byTurns 0 0 5 [.ref 5, .retAddr 0, .int x2, .int x3, .int x4, .retAddr 0, .retAddr 0] [] s Q) : ∀ (n : Nat) (x2 : Int32) (x3 : Int32) (x4 : Int32) (x5 : Int32) (x6 : Int32) (s : Sg), okx (zq_I Q) (f_Tu_byTurns_h18 R5 n x2 x3 x4 x5 x6 s) → Xw d M_Tu_byTurns 0 0 18 [.ref 5, .retAddr 0, .int x2, .int x3, .int x4, .int x5, .int x6] [] s Q := by
  intro n
  induction n with
  | zero => intro x2 x3 x4 x5 x6 s h; exact okx_no h
  | succ n ih => intro x2 x3 x4 x5 x6 s h; exact w_Tu_byTurns_b18 hd hR5 ih  h
noncomputable def f_Tu_byTurns_b5 (R5 : Int32 → Int32 → Int32 → Sg → Option (Int32 × Sg)) (x2 : Int32) (x3 : Int32) (x4 : Int32) (s : Sg) : Option (Int32 × Sg) :=
  if 30 < x4 then
    some ((-1), s)
  else
    f_Tu_byTurns_h18 R5 zl_fl x2 x3 x4 x3 0 s
theorem w_Tu_byTurns_b5 {x2 : Int32} {x3 : Int32} {x4 : Int32} {s : Sg} {d : Nat} {Q : Option (Option Value) → Sg → Prop} (hd : 6 ≤ d) {R5 : Int32 → Int32 → Int32 → Sg → Option (Int32 × Sg)} (hR5 : ∀ (x2 : Int32) (x3 : Int32) (x4 : Int32) (s : Sg), okx (zq_I Q) (R5 x2 x3 x4 s) → Xw d M_Tu_byTurns 0 0 5 [.ref 5, .retAddr 0, .int x2, .int x3, .int x4, .retAddr 0, .retAddr 0] [] s Q) (h : okx (zq_I Q) (f_Tu_byTurns_b5 R5 x2 x3 x4 s)) : Xw d M_Tu_byTurns 0 0 5 [.ref 5, .retAddr 0, .int x2, .int x3, .int x4, .retAddr 0, .retAddr 0] [] s Q := by
  unfold f_Tu_byTurns_b5 at h
  refine xi_iload D_Tu_byTurns_5 rfl ?_
  refine xi_bipush (v := 30) D_Tu_byTurns_7 rfl ?_
  refine xi_icmp_gt D_Tu_byTurns_9 (fun c1 => ?_) (fun c1 => ?_)
  · have h := okx_T c1 h
    refine xj_iconst (v := (-1)) D_Tu_byTurns_71 rfl ?_
    exact xi_ireturn D_Tu_byTurns_72 rfl (rfl) (okx_I h)
  · have h := okx_F c1 h
    refine xi_iload_n D_Tu_byTurns_12 rfl ?_
    refine xi_istore (ls' := [_, _, _, _, _, _, _]) D_Tu_byTurns_13 rfl (by decide) ?_
    refine xj_iconst (v := 0) D_Tu_byTurns_15 rfl ?_
    refine xi_istore (ls' := [_, _, _, _, _, _, _]) D_Tu_byTurns_16 rfl (by decide) ?_
    exact w_Tu_byTurns_h18 (by omega) hR5 _ _ _ _ _ _ _ h
noncomputable def f_Tu_byTurns_h5 : Nat → Int32 → Int32 → Int32 → Sg → Option (Int32 × Sg)
  | 0, _, _, _, _ => none
  | n + 1, x2, x3, x4, s => f_Tu_byTurns_b5 (f_Tu_byTurns_h5 n) x2 x3 x4 s
theorem w_Tu_byTurns_h5 {d : Nat} {Q : Option (Option Value) → Sg → Prop} (hd : 6 ≤ d) : ∀ (n : Nat) (x2 : Int32) (x3 : Int32) (x4 : Int32) (s : Sg), okx (zq_I Q) (f_Tu_byTurns_h5 n x2 x3 x4 s) → Xw d M_Tu_byTurns 0 0 5 [.ref 5, .retAddr 0, .int x2, .int x3, .int x4, .retAddr 0, .retAddr 0] [] s Q := by
  intro n
  induction n with
  | zero => intro x2 x3 x4 s h; exact okx_no h
  | succ n ih => intro x2 x3 x4 s h; exact w_Tu_byTurns_b5 hd  ih  h
noncomputable def f_Tu_byTurns (x1 : Int32) (x2 : Int32) (s : Sg) : Option (Int32 × Sg) :=
  f_Tu_byTurns_h5  zl_fl x2 x1 1 s
theorem w_Tu_byTurns {x1 : Int32} {x2 : Int32} {s : Sg} {d : Nat} {Q : Option (Option Value) → Sg → Prop} (hd : 6 ≤ d) (h : okx (zq_I Q) (f_Tu_byTurns x1 x2 s)) : Cw d M_Tu_byTurns [.ref 5, .int x1, .int x2] s Q := by
  refine Cw.of (by decide +kernel) (Nat.le_of_ble_eq_true rfl) ?_
  show Xw d M_Tu_byTurns 0 0 0 [.ref 5, .int x1, .int x2, .retAddr 0, .retAddr 0, .retAddr 0, .retAddr 0] [] s _
  unfold f_Tu_byTurns at h
  refine xi_iload_n D_Tu_byTurns_0 rfl ?_
  refine xi_istore_n (ls' := [_, _, _, _, _, _, _]) D_Tu_byTurns_1 rfl (by decide) ?_
  refine xj_iconst (v := 1) D_Tu_byTurns_2 rfl ?_
  refine xi_istore (ls' := [_, _, _, _, _, _, _]) D_Tu_byTurns_3 rfl (by decide) ?_
  exact xk_wk (w_Tu_byTurns_h5 (by omega)  _ _ _ _ _ h) ⟨Or.inl rfl, Or.inr rfl, Or.inl rfl, Or.inl rfl, Or.inl rfl, Or.inl rfl, Or.inl rfl, trivial⟩
noncomputable def f_Tu_isSettled_b2 (R2 : Int32 → Int32 → Sg → Option (Int32 × Sg)) (x1 : Int32) (x2 : Int32) (s : Sg) : Option (Int32 × Sg) :=
  f_ck (zl_B s) <|
  if (mI s 7 0) ≤ x2 then
    some (1, s)
  else
    f_bd (f_Tu_chosen x2 x1 1 s) fun r3 s4 =>
    if r3 = x1 then
      R2 x1 (x2 + 1) s4
    else
      some (0, s4)
theorem w_Tu_isSettled_b2 {x1 : Int32} {x2 : Int32} {s : Sg} {d : Nat} {Q : Option (Option Value) → Sg → Prop} (hd : 6 ≤ d) {R2 : Int32 → Int32 → Sg → Option (Int32 × Sg)} (hR2 : ∀ (x1 : Int32) (x2 : Int32) (s : Sg), okx (zq_I Q) (R2 x1 x2 s) → Xw d M_Tu_isSettled 0 0 2 [.ref 5, .int x1, .int x2] [] s Q) (h : okx (zq_I Q) (f_Tu_isSettled_b2 R2 x1 x2 s)) : Xw d M_Tu_isSettled 0 0 2 [.ref 5, .int x1, .int x2] [] s Q := by
  unfold f_Tu_isSettled_b2 at h
  refine xi_iload_n D_Tu_isSettled_2 rfl ?_
  refine xi_aload_n D_Tu_isSettled_3 rfl ?_
  obtain ⟨g1, h⟩ := okx_ck h
  refine xi_getR D_Tu_isSettled_4 F_Tu_22 (zl_fo (g1).1 rfl) ⟨rfl, by decide⟩ (zl_gr (g1).2 rfl rfl) ?_
  refine xi_getI D_Tu_isSettled_7 F_Tu_67 (zl_fo (g1).1 rfl) ⟨rfl, by decide⟩ ?_
  refine xi_icmp_ge D_Tu_isSettled_10 (fun c2 => ?_) (fun c2 => ?_)
  · have h := okx_T c2 h
    refine xj_iconst (v := 1) D_Tu_isSettled_32 rfl ?_
    exact xi_ireturn D_Tu_isSettled_33 rfl (rfl) (okx_I h)
  · have h := okx_F c2 h
    refine xi_aload_n D_Tu_isSettled_13 rfl ?_
    refine xi_iload_n D_Tu_isSettled_14 rfl ?_
    refine xi_iload_n D_Tu_isSettled_15 rfl ?_
    refine xj_iconst (v := 1) D_Tu_isSettled_16 rfl ?_
    refine xj_V3 D_Tu_isSettled_17 L_Tu_72 C_Tu_chosen Z_Tu_chosen (zl_fo (g1).1 rfl) (Nat.le_of_ble_eq_true rfl) (Nat.le_of_eq (Nat.sub_add_cancel (by omega))) (w_Tu_chosen (by omega) (okx_mono (okx_bd h) ?_))
    intro r3 s4 h
    show Xw _ _ _ _ 20 _ [_] _ _
    refine xi_iload_n D_Tu_isSettled_20 rfl ?_
    refine xi_icmp_eq D_Tu_isSettled_21 (fun c5 => ?_) (fun c5 => ?_)
    · have h := okx_T c5 h
      refine xi_iinc (v := _ + 1) (ls' := [_, _, _]) D_Tu_isSettled_26 rfl rfl rfl (by decide) ?_
      refine xi_goto D_Tu_isSettled_29 ?_
      exact hR2 _ _ _ h
    · have h := okx_F c5 h
      refine xj_iconst (v := 0) D_Tu_isSettled_24 rfl ?_
      exact xi_ireturn D_Tu_isSettled_25 rfl (rfl) (okx_I h)
noncomputable def f_Tu_isSettled_h2 : Nat → Int32 → Int32 → Sg → Option (Int32 × Sg)
  | 0, _, _, _ => none
  | n + 1, x1, x2, s => f_Tu_isSettled_b2 (f_Tu_isSettled_h2 n) x1 x2 s
theorem w_Tu_isSettled_h2 {d : Nat} {Q : Option (Option Value) → Sg → Prop} (hd : 6 ≤ d) : ∀ (n : Nat) (x1 : Int32) (x2 : Int32) (s : Sg), okx (zq_I Q) (f_Tu_isSettled_h2 n x1 x2 s) → Xw d M_Tu_isSettled 0 0 2 [.ref 5, .int x1, .int x2] [] s Q := by
  intro n
  induction n with
  | zero => intro x1 x2 s h; exact okx_no h
  | succ n ih => intro x1 x2 s h; exact w_Tu_isSettled_b2 hd  ih  h
noncomputable def f_Tu_isSettled (x1 : Int32) (s : Sg) : Option (Int32 × Sg) :=
  f_Tu_isSettled_h2  zl_fl x1 0 s
theorem w_Tu_isSettled {x1 : Int32} {s : Sg} {d : Nat} {Q : Option (Option Value) → Sg → Prop} (hd : 6 ≤ d) (h : okx (zq_I Q) (f_Tu_isSettled x1 s)) : Cw d M_Tu_isSettled [.ref 5, .int x1] s Q := by
  refine Cw.of (by decide +kernel) (Nat.le_of_ble_eq_true rfl) ?_
  show Xw d M_Tu_isSettled 0 0 0 [.ref 5, .int x1, .retAddr 0] [] s _
  unfold f_Tu_isSettled at h
  refine xj_iconst (v := 0) D_Tu_isSettled_0 rfl ?_
  refine xi_istore_n (ls' := [_, _, _]) D_Tu_isSettled_1 rfl (by decide) ?_
  exact w_Tu_isSettled_h2 (by omega)  _ _ _ _ h
noncomputable def f_Tu_lookAtAsked  (s : Sg) : Option (Unit × Sg) :=
  f_ck (zl_B s) <|
  let s2 : Sg := uI s 5 4 0
  f_bd (f_Ow_settle 21 s2) fun r3 s4 =>
  some ((), s4)
theorem w_Tu_lookAtAsked {s : Sg} {d : Nat} {Q : Option (Option Value) → Sg → Prop} (hd : 4 ≤ d) (h : okx (zq_V Q) (f_Tu_lookAtAsked  s)) : Cw d M_Tu_lookAtAsked [.ref 5] s Q := by
  refine Cw.of (by decide +kernel) (Nat.le_of_ble_eq_true rfl) ?_
  show Xw d M_Tu_lookAtAsked 0 0 0 [.ref 5] [] s _
  unfold f_Tu_lookAtAsked at h
  refine xi_aload_n D_Tu_lookAtAsked_0 rfl ?_
  refine xj_iconst (v := 0) D_Tu_lookAtAsked_1 rfl ?_
  obtain ⟨g1, h⟩ := okx_ck h
  refine xi_putI D_Tu_lookAtAsked_2 F_Tu_40 (zl_fo (g1).1 rfl) ⟨rfl, by decide, rfl⟩ (⟨rfl, rfl⟩) ?_
  refine xi_aload_n D_Tu_lookAtAsked_5 rfl ?_
  refine xi_getR D_Tu_lookAtAsked_6 F_Tu_26 (zl_fo (g1).1 rfl) ⟨rfl, by decide⟩ (zl_gr (g1).2 rfl rfl) ?_
  refine xi_aload_n D_Tu_lookAtAsked_9 rfl ?_
  refine xi_getR D_Tu_lookAtAsked_10 F_Tu_22 (zl_fo (g1).1 rfl) ⟨rfl, by decide⟩ (zl_gr (g1).2 rfl rfl) ?_
  refine xj_V1 D_Tu_lookAtAsked_13 L_Tu_44 C_Ow_settle Z_Ow_settle (zl_fo (g1).1 rfl) (Nat.le_of_ble_eq_true rfl) (Nat.le_of_eq (Nat.sub_add_cancel (by omega))) (w_Ow_settle (by omega) (okx_mono (okx_bd h) ?_))
  intro r3 s4 h
  show Xw _ _ _ _ 16 _ [] _ _
  exact xi_return D_Tu_lookAtAsked_16 rfl (okx_V h)
noncomputable def f_Tu_lookAsIs  (s : Sg) : Option (Unit × Sg) :=
  f_ck (zl_B s) <|
  f_bd (f_Ow_copyFrom 21 s) fun r2 s3 =>
  f_ck (zl_B s3) <|
  f_bd (f_Tu_lookAtAsked  s3) fun r5 s6 =>
  some ((), s6)
theorem w_Tu_lookAsIs {s : Sg} {d : Nat} {Q : Option (Option Value) → Sg → Prop} (hd : 5 ≤ d) (h : okx (zq_V Q) (f_Tu_lookAsIs  s)) : Cw d M_Tu_lookAsIs [.ref 5] s Q := by
  refine Cw.of (by decide +kernel) (Nat.le_of_ble_eq_true rfl) ?_
  show Xw d M_Tu_lookAsIs 0 0 0 [.ref 5] [] s _
  unfold f_Tu_lookAsIs at h
  refine xi_aload_n D_Tu_lookAsIs_0 rfl ?_
  obtain ⟨g1, h⟩ := okx_ck h
  refine xi_getR D_Tu_lookAsIs_1 F_Tu_26 (zl_fo (g1).1 rfl) ⟨rfl, by decide⟩ (zl_gr (g1).2 rfl rfl) ?_
  refine xi_aload_n D_Tu_lookAsIs_4 rfl ?_
  refine xi_getR D_Tu_lookAsIs_5 F_Tu_22 (zl_fo (g1).1 rfl) ⟨rfl, by decide⟩ (zl_gr (g1).2 rfl rfl) ?_
  refine xj_V1 D_Tu_lookAsIs_8 L_Tu_33 C_Ow_copyFrom Z_Ow_copyFrom (zl_fo (g1).1 rfl) (Nat.le_of_ble_eq_true rfl) (Nat.le_of_eq (Nat.sub_add_cancel (by omega))) (w_Ow_copyFrom (by omega) (okx_mono (okx_bd h) ?_))
  intro r2 s3 h
  show Xw _ _ _ _ 11 _ [] _ _
  refine xi_aload_n D_Tu_lookAsIs_11 rfl ?_
  obtain ⟨g4, h⟩ := okx_ck h
  refine xj_V0 D_Tu_lookAsIs_12 L_Tu_37 C_Tu_lookAtAsked Z_Tu_lookAtAsked (zl_fo (g4).1 rfl) (Nat.le_of_ble_eq_true rfl) (Nat.le_of_eq (Nat.sub_add_cancel (by omega))) (w_Tu_lookAtAsked (by omega) (okx_mono (okx_bd h) ?_))
  intro r5 s6 h
  show Xw _ _ _ _ 15 _ [] _ _
  exact xi_return D_Tu_lookAsIs_15 rfl (okx_V h)
noncomputable def f_Tu_lookAtDeal (x1 : Int32) (x2 : Int32) (x3 : Int32) (x4 : Int32) (s : Sg) : Option (Unit × Sg) :=
  f_ck (zl_B s) <|
  f_bd (f_Tu_lookAsIs  s) fun r2 s3 =>
  f_ck (zl_B s3) <|
  f_bd (f_Ow_copyFrom 26 s3) fun r5 s6 =>
  f_ck (zl_B s6) <|
  f_bd (f_Ow_give 26 x1 x2 1 s6) fun r8 s9 =>
  f_ck (zl_B s9) <|
  f_bd (f_Ow_settle 26 s9) fun r11 s12 =>
  f_ck (zl_B s12) <|
  let s14 : Sg := uI s12 5 5 x1
  let s15 : Sg := uI s14 5 6 x3
  let s16 : Sg := uI s15 5 7 x4
  some ((), s16)
theorem w_Tu_lookAtDeal {x1 : Int32} {x2 : Int32} {x3 : Int32} {x4 : Int32} {s : Sg} {d : Nat} {Q : Option (Option Value) → Sg → Prop} (hd : 6 ≤ d) (h : okx (zq_V Q) (f_Tu_lookAtDeal x1 x2 x3 x4 s)) : Cw d M_Tu_lookAtDeal [.ref 5, .int x1, .int x2, .int x3, .int x4] s Q := by
  refine Cw.of (by decide +kernel) (Nat.le_of_ble_eq_true rfl) ?_
  show Xw d M_Tu_lookAtDeal 0 0 0 [.ref 5, .int x1, .int x2, .int x3, .int x4] [] s _
  unfold f_Tu_lookAtDeal at h
  refine xi_aload_n D_Tu_lookAtDeal_0 rfl ?_
  obtain ⟨g1, h⟩ := okx_ck h
  refine xj_V0 D_Tu_lookAtDeal_1 L_Tu_51 C_Tu_lookAsIs Z_Tu_lookAsIs (zl_fo (g1).1 rfl) (Nat.le_of_ble_eq_true rfl) (Nat.le_of_eq (Nat.sub_add_cancel (by omega))) (w_Tu_lookAsIs (by omega) (okx_mono (okx_bd h) ?_))
  intro r2 s3 h
  show Xw _ _ _ _ 4 _ [] _ _
  refine xi_aload_n D_Tu_lookAtDeal_4 rfl ?_
  obtain ⟨g4, h⟩ := okx_ck h
  refine xi_getR D_Tu_lookAtDeal_5 F_Tu_30 (zl_fo (g4).1 rfl) ⟨rfl, by decide⟩ (zl_gr (g4).2 rfl rfl) ?_
  refine xi_aload_n D_Tu_lookAtDeal_8 rfl ?_
  refine xi_getR D_Tu_lookAtDeal_9 F_Tu_22 (zl_fo (g4).1 rfl) ⟨rfl, by decide⟩ (zl_gr (g4).2 rfl rfl) ?_
  refine xj_V1 D_Tu_lookAtDeal_12 L_Tu_33 C_Ow_copyFrom Z_Ow_copyFrom (zl_fo (g4).1 rfl) (Nat.le_of_ble_eq_true rfl) (Nat.le_of_eq (Nat.sub_add_cancel (by omega))) (w_Ow_copyFrom (by omega) (okx_mono (okx_bd h) ?_))
  intro r5 s6 h
  show Xw _ _ _ _ 15 _ [] _ _
  refine xi_aload_n D_Tu_lookAtDeal_15 rfl ?_
  obtain ⟨g7, h⟩ := okx_ck h
  refine xi_getR D_Tu_lookAtDeal_16 F_Tu_30 (zl_fo (g7).1 rfl) ⟨rfl, by decide⟩ (zl_gr (g7).2 rfl rfl) ?_
  refine xi_iload_n D_Tu_lookAtDeal_19 rfl ?_
  refine xi_iload_n D_Tu_lookAtDeal_20 rfl ?_
  refine xj_iconst (v := 1) D_Tu_lookAtDeal_21 rfl ?_
  refine xj_V3 D_Tu_lookAtDeal_22 L_Tu_54 C_Ow_give Z_Ow_give (zl_fo (g7).1 rfl) (Nat.le_of_ble_eq_true rfl) (Nat.le_of_eq (Nat.sub_add_cancel (by omega))) (w_Ow_give (by omega) (okx_mono (okx_bd h) ?_))
  intro r8 s9 h
  show Xw _ _ _ _ 25 _ [] _ _
  refine xi_aload_n D_Tu_lookAtDeal_25 rfl ?_
  obtain ⟨g10, h⟩ := okx_ck h
  refine xi_getR D_Tu_lookAtDeal_26 F_Tu_30 (zl_fo (g10).1 rfl) ⟨rfl, by decide⟩ (zl_gr (g10).2 rfl rfl) ?_
  refine xi_aload_n D_Tu_lookAtDeal_29 rfl ?_
  refine xi_getR D_Tu_lookAtDeal_30 F_Tu_22 (zl_fo (g10).1 rfl) ⟨rfl, by decide⟩ (zl_gr (g10).2 rfl rfl) ?_
  refine xj_V1 D_Tu_lookAtDeal_33 L_Tu_44 C_Ow_settle Z_Ow_settle (zl_fo (g10).1 rfl) (Nat.le_of_ble_eq_true rfl) (Nat.le_of_eq (Nat.sub_add_cancel (by omega))) (w_Ow_settle (by omega) (okx_mono (okx_bd h) ?_))
  intro r11 s12 h
  show Xw _ _ _ _ 36 _ [] _ _
  refine xi_aload_n D_Tu_lookAtDeal_36 rfl ?_
  refine xi_iload_n D_Tu_lookAtDeal_37 rfl ?_
  obtain ⟨g13, h⟩ := okx_ck h
  refine xi_putI D_Tu_lookAtDeal_38 F_Tu_58 (zl_fo (g13).1 rfl) ⟨rfl, by decide, rfl⟩ (⟨rfl, rfl⟩) ?_
  refine xi_aload_n D_Tu_lookAtDeal_41 rfl ?_
  refine xi_iload_n D_Tu_lookAtDeal_42 rfl ?_
  refine xi_putI D_Tu_lookAtDeal_43 F_Tu_61 (zl_fo (g13).1 rfl) ⟨rfl, by decide, rfl⟩ (⟨rfl, rfl⟩) ?_
  refine xi_aload_n D_Tu_lookAtDeal_46 rfl ?_
  refine xi_iload D_Tu_lookAtDeal_47 rfl ?_
  refine xi_putI D_Tu_lookAtDeal_49 F_Tu_64 (zl_fo (g13).1 rfl) ⟨rfl, by decide, rfl⟩ (⟨rfl, rfl⟩) ?_
  exact xi_return D_Tu_lookAtDeal_52 rfl (okx_V h)
noncomputable def f_Tu_lookAtPledge (x1 : Int32) (x2 : Int32) (x3 : Int32) (s : Sg) : Option (Unit × Sg) :=
  f_ck (zl_B s) <|
  f_bd (f_Tu_lookAtDeal x1 0 x2 x3 s) fun r2 s3 =>
  f_ck (zl_B s3) <|
  let s5 : Sg := uI s3 5 4 2
  some ((), s5)
theorem w_Tu_lookAtPledge {x1 : Int32} {x2 : Int32} {x3 : Int32} {s : Sg} {d : Nat} {Q : Option (Option Value) → Sg → Prop} (hd : 7 ≤ d) (h : okx (zq_V Q) (f_Tu_lookAtPledge x1 x2 x3 s)) : Cw d M_Tu_lookAtPledge [.ref 5, .int x1, .int x2, .int x3] s Q := by
  refine Cw.of (by decide +kernel) (Nat.le_of_ble_eq_true rfl) ?_
  show Xw d M_Tu_lookAtPledge 0 0 0 [.ref 5, .int x1, .int x2, .int x3] [] s _
  unfold f_Tu_lookAtPledge at h
  refine xi_aload_n D_Tu_lookAtPledge_0 rfl ?_
  refine xi_iload_n D_Tu_lookAtPledge_1 rfl ?_
  refine xj_iconst (v := 0) D_Tu_lookAtPledge_2 rfl ?_
  refine xi_iload_n D_Tu_lookAtPledge_3 rfl ?_
  refine xi_iload_n D_Tu_lookAtPledge_4 rfl ?_
  obtain ⟨g1, h⟩ := okx_ck h
  refine xj_V4 D_Tu_lookAtPledge_5 L_Tu_47 C_Tu_lookAtDeal Z_Tu_lookAtDeal (zl_fo (g1).1 rfl) (Nat.le_of_ble_eq_true rfl) (Nat.le_of_eq (Nat.sub_add_cancel (by omega))) (w_Tu_lookAtDeal (by omega) (okx_mono (okx_bd h) ?_))
  intro r2 s3 h
  show Xw _ _ _ _ 8 _ [] _ _
  refine xi_aload_n D_Tu_lookAtPledge_8 rfl ?_
  refine xj_iconst (v := 2) D_Tu_lookAtPledge_9 rfl ?_
  obtain ⟨g4, h⟩ := okx_ck h
  refine xi_putI D_Tu_lookAtPledge_10 F_Tu_40 (zl_fo (g4).1 rfl) ⟨rfl, by decide, rfl⟩ (⟨rfl, rfl⟩) ?_
  exact xi_return D_Tu_lookAtPledge_13 rfl (okx_V h)
noncomputable def f_Tu_lookAtRight (x1 : Int32) (x2 : Int32) (x3 : Int32) (s : Sg) : Option (Unit × Sg) :=
  f_ck (zl_B s) <|
  f_bd (f_Tu_lookAtDeal x1 ((1 : Int32) <<< (x2 &&& 31)) x2 x3 s) fun r2 s3 =>
  f_ck (zl_B s3) <|
  let s5 : Sg := uI s3 5 4 1
  some ((), s5)
theorem w_Tu_lookAtRight {x1 : Int32} {x2 : Int32} {x3 : Int32} {s : Sg} {d : Nat} {Q : Option (Option Value) → Sg → Prop} (hd : 7 ≤ d) (h : okx (zq_V Q) (f_Tu_lookAtRight x1 x2 x3 s)) : Cw d M_Tu_lookAtRight [.ref 5, .int x1, .int x2, .int x3] s Q := by
  refine Cw.of (by decide +kernel) (Nat.le_of_ble_eq_true rfl) ?_
  show Xw d M_Tu_lookAtRight 0 0 0 [.ref 5, .int x1, .int x2, .int x3] [] s _
  unfold f_Tu_lookAtRight at h
  refine xi_aload_n D_Tu_lookAtRight_0 rfl ?_
  refine xi_iload_n D_Tu_lookAtRight_1 rfl ?_
  refine xj_iconst (v := 1) D_Tu_lookAtRight_2 rfl ?_
  refine xi_iload_n D_Tu_lookAtRight_3 rfl ?_
  refine xi_ishl D_Tu_lookAtRight_4 ?_
  refine xi_iload_n D_Tu_lookAtRight_5 rfl ?_
  refine xi_iload_n D_Tu_lookAtRight_6 rfl ?_
  obtain ⟨g1, h⟩ := okx_ck h
  refine xj_V4 D_Tu_lookAtRight_7 L_Tu_47 C_Tu_lookAtDeal Z_Tu_lookAtDeal (zl_fo (g1).1 rfl) (Nat.le_of_ble_eq_true rfl) (Nat.le_of_eq (Nat.sub_add_cancel (by omega))) (w_Tu_lookAtDeal (by omega) (okx_mono (okx_bd h) ?_))
  intro r2 s3 h
  show Xw _ _ _ _ 10 _ [] _ _
  refine xi_aload_n D_Tu_lookAtRight_10 rfl ?_
  refine xj_iconst (v := 1) D_Tu_lookAtRight_11 rfl ?_
  obtain ⟨g4, h⟩ := okx_ck h
  refine xi_putI D_Tu_lookAtRight_12 F_Tu_40 (zl_fo (g4).1 rfl) ⟨rfl, by decide, rfl⟩ (⟨rfl, rfl⟩) ?_
  exact xi_return D_Tu_lookAtRight_15 rfl (okx_V h)
