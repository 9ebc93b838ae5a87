/-! by a program of ours (wip/whole/gen/func.py, mkall.py) out of the listing: Rd_readPerson Rd_readThing Rd_read Rd_readPart Sl_canEncode Sl_indexOfChar Sl_indexOf St_coder St_isLatin1 St_length -/
noncomputable def f_Rd_readPerson_b93  (s : Sg) : Option (Int32 × Sg) :=
  f_ck (zl_B s) <|
  f_bd (f_Rd_wrong 4 s) fun r37 s38 =>
  f_ck (narrow FieldType.boolean (.int r37) = .int r37) <|
  some (r37, s38)
theorem w_Rd_readPerson_b93 {s : Sg} {d : Nat} {Q : Option (Option Value) → Sg → Prop} (hd : 6 ≤ d) (h : okx (zq_I Q) (f_Rd_readPerson_b93  s)) : Xw d M_Rd_readPerson 0 0 93 [.ref 42, .retAddr 0] [] s Q := by
  unfold f_Rd_readPerson_b93 at h
  refine xi_aload_n D_Rd_readPerson_93 rfl ?_
  refine xj_iconst (v := 4) D_Rd_readPerson_94 rfl ?_
  obtain ⟨g36, h⟩ := okx_ck h
  refine xj_V1 D_Rd_readPerson_95 L_Rd_59 C_Rd_wrong Z_Rd_wrong (zl_fo (g36).1 rfl) (Nat.le_of_ble_eq_true rfl) (Nat.le_of_eq (Nat.sub_add_cancel (by omega))) (w_Rd_wrong (by omega) (okx_mono (okx_bd h) ?_))
  intro r37 s38 h
  show Xw _ _ _ _ 98 _ [_] _ _
  obtain ⟨g39, h⟩ := okx_ck h
  exact xi_ireturn D_Rd_readPerson_98 rfl (g39) (okx_I h)
noncomputable def f_Rd_readPerson_b145  (s : Sg) : Option (Int32 × Sg) :=
  f_ck (zl_B s) <|
  f_bd (f_Rd_wrong 1 s) fun r52 s53 =>
  f_ck (narrow FieldType.boolean (.int r52) = .int r52) <|
  some (r52, s53)
theorem w_Rd_readPerson_b145 {s : Sg} {d : Nat} {Q : Option (Option Value) → Sg → Prop} (hd : 6 ≤ d) (h : okx (zq_I Q) (f_Rd_readPerson_b145  s)) : Xw d M_Rd_readPerson 0 0 145 [.ref 42, .retAddr 0] [] s Q := by
  unfold f_Rd_readPerson_b145 at h
  refine xi_aload_n D_Rd_readPerson_145 rfl ?_
  refine xj_iconst (v := 1) D_Rd_readPerson_146 rfl ?_
  obtain ⟨g51, h⟩ := okx_ck h
  refine xj_V1 D_Rd_readPerson_147 L_Rd_59 C_Rd_wrong Z_Rd_wrong (zl_fo (g51).1 rfl) (Nat.le_of_ble_eq_true rfl) (Nat.le_of_eq (Nat.sub_add_cancel (by omega))) (w_Rd_wrong (by omega) (okx_mono (okx_bd h) ?_))
  intro r52 s53 h
  show Xw _ _ _ _ 150 _ [_] _ _
  obtain ⟨g54, h⟩ := okx_ck h
  exact xi_ireturn D_Rd_readPerson_150 rfl (g54) (okx_I h)
noncomputable def f_Rd_readPerson_b132 (x1 : Int32) (s : Sg) : Option (Int32 × Sg) :=
  if x1 = 0 then
    f_Rd_readPerson_b145   s
  else
    f_ck (zl_B s) <|
    if (mI s 42 4) = 59 then
      f_ck (mR s 42 10 = some 31) <|
      f_ck (mR s 42 10 = some 31) <|
      f_ck (vp_in (mI s 31 0) 4) <|
      let s46 : Sg := uI s 32 (Int32.toNatClampNeg (mI s 31 0)) x1
      f_ck (mR s46 42 10 = some 31) <|
      let s48 : Sg := uI s46 31 0 ((mI s46 31 0) + 1)
      f_bd (f_Rd_take  s48) fun r49 s50 =>
      some (1, s50)
    else
      f_Rd_readPerson_b145   s
theorem w_Rd_readPerson_b132 {x1 : Int32} {s : Sg} {d : Nat} {Q : Option (Option Value) → Sg → Prop} (hd : 6 ≤ d) (h : okx (zq_I Q) (f_Rd_readPerson_b132 x1 s)) : Xw d M_Rd_readPerson 0 0 132 [.ref 42, .int x1] [] s Q := by
  unfold f_Rd_readPerson_b132 at h
  refine xi_iload_n D_Rd_readPerson_132 rfl ?_
  refine xi_if_eq D_Rd_readPerson_133 (fun c40 => ?_) (fun c40 => ?_)
  · have h := okx_T c40 h
    exact xk_wk (w_Rd_readPerson_b145 (by omega)  h) ⟨Or.inl rfl, Or.inr rfl, trivial⟩
  · have h := okx_F c40 h
    refine xi_aload_n D_Rd_readPerson_136 rfl ?_
    obtain ⟨g41, h⟩ := okx_ck h
    refine xi_getI D_Rd_readPerson_137 F_Rd_46 (zl_fo (g41).1 rfl) ⟨rfl, by decide⟩ ?_
    refine xi_bipush (v := 59) D_Rd_readPerson_140 rfl ?_
    refine xi_icmp_eq D_Rd_readPerson_142 (fun c42 => ?_) (fun c42 => ?_)
    · have h := okx_T c42 h
      refine xi_aload_n D_Rd_readPerson_151 rfl ?_
      obtain ⟨g43, h⟩ := okx_ck h
      refine xi_getR D_Rd_readPerson_152 F_Rd_25 (zl_fo (g41).1 rfl) ⟨rfl, by decide⟩ (g43) ?_
      refine xi_getR D_Rd_readPerson_155 F_Rd_83 (zl_fo (g41).1 rfl) ⟨rfl, by decide⟩ (zl_gr (g41).2 rfl rfl) ?_
      refine xi_aload_n D_Rd_readPerson_158 rfl ?_
      obtain ⟨g44, h⟩ := okx_ck h
      refine xi_getR D_Rd_readPerson_159 F_Rd_25 (zl_fo (g41).1 rfl) ⟨rfl, by decide⟩ (g44) ?_
      refine xi_getI D_Rd_readPerson_162 F_Rd_66 (zl_fo (g41).1 rfl) ⟨rfl, by decide⟩ ?_
      refine xi_iload_n D_Rd_readPerson_165 rfl ?_
      obtain ⟨g45, h⟩ := okx_ck h
      refine xj_iast D_Rd_readPerson_166 (zl_fx (g41).1 rfl) (zl_ib (n := 4) rfl (g45)) ?_
      refine xi_aload_n D_Rd_readPerson_167 rfl ?_
      obtain ⟨g47, h⟩ := okx_ck h
      refine xi_getR D_Rd_readPerson_168 F_Rd_25 (zl_fo (g41).1 rfl) ⟨rfl, by decide⟩ (g47) ?_
      refine xi_dupr D_Rd_readPerson_171 ?_
      refine xi_getI D_Rd_readPerson_172 F_Rd_66 (zl_fo (g41).1 rfl) ⟨rfl, by decide⟩ ?_
      refine xj_iconst (v := 1) D_Rd_readPerson_175 rfl ?_
      refine xi_iadd D_Rd_readPerson_176 ?_
      refine xi_putI D_Rd_readPerson_177 F_Rd_66 (zl_fo (g41).1 rfl) ⟨rfl, by decide, rfl⟩ (⟨rfl, rfl⟩) ?_
      refine xi_aload_n D_Rd_readPerson_180 rfl ?_
      refine xj_V0 D_Rd_readPerson_181 L_Rd_43 C_Rd_take Z_Rd_take (zl_fo (g41).1 rfl) (Nat.le_of_ble_eq_true rfl) (Nat.le_of_eq (Nat.sub_add_cancel (by omega))) (w_Rd_take (by omega) (okx_mono (okx_bd h) ?_))
      intro r49 s50 h
      show Xw _ _ _ _ 184 _ [] _ _
      refine xj_iconst (v := 1) D_Rd_readPerson_184 rfl ?_
      exact xi_ireturn D_Rd_readPerson_185 rfl (rfl) (okx_I h)
    · have h := okx_F c42 h
      exact xk_wk (w_Rd_readPerson_b145 (by omega)  h) ⟨Or.inl rfl, Or.inr rfl, trivial⟩
noncomputable def f_Rd_readPerson_b70 (R70 : Int32 → Sg → Option (Int32 × Sg)) (x1 : Int32) (s : Sg) : Option (Int32 × Sg) :=
  if 3 ≤ x1 then
    f_Rd_readPerson_b132  x1 s
  else
    f_ck (zl_B s) <|
    if (mI s 42 4) = 3 then
      if (mI s 42 6) ≤ 999 then
        f_ck (mR s 42 10 = some 31) <|
        f_ck (mR s 42 10 = some 31) <|
        f_ck (vp_in (((mI s 31 0) * 4) + (x1 + 1)) 16) <|
        let s33 : Sg := uI s 33 (Int32.toNatClampNeg (((mI s 31 0) * 4) + (x1 + 1))) (mI s 42 6)
        f_bd (f_Rd_take  s33) fun r34 s35 =>
        R70 (x1 + 1) s35
      else
        f_Rd_readPerson_b93   s
    else
      f_Rd_readPerson_b132  x1 s
theorem w_Rd_readPerson_b70 {x1 : Int32} {s : Sg} {d : Nat} {Q : Option (Option Value) → Sg → Prop} (hd : 6 ≤ d) {R70 : Int32 → Sg → Option (Int32 × Sg)} (hR70 : ∀ (x1 : Int32) (s : Sg), okx (zq_I Q) (R70 x1 s) → Xw d M_Rd_readPerson 0 0 70 [.ref 42, .int x1] [] s Q) (h : okx (zq_I Q) (f_Rd_readPerson_b70 R70 x1 s)) : Xw d M_Rd_readPerson 0 0 70 [.ref 42, .int x1] [] s Q := by
  unfold f_Rd_readPerson_b70 at h
  refine xi_iload_n D_Rd_readPerson_70 rfl ?_
  refine xj_iconst (v := 3) D_Rd_readPerson_71 rfl ?_
  refine xi_icmp_ge D_Rd_readPerson_72 (fun c26 => ?_) (fun c26 => ?_)
  · have h := okx_T c26 h
    exact w_Rd_readPerson_b132 (by omega)  h
  · have h := okx_F c26 h
    refine xi_aload_n D_Rd_readPerson_75 rfl ?_
    obtain ⟨g27, h⟩ := okx_ck h
    refine xi_getI D_Rd_readPerson_76 F_Rd_46 (zl_fo (g27).1 rfl) ⟨rfl, by decide⟩ ?_
    refine xj_iconst (v := 3) D_Rd_readPerson_79 rfl ?_
    refine xi_icmp_ne D_Rd_readPerson_80 (fun c28 => ?_) (fun c28 => ?_)
    · have h := okx_F c28 h
      exact w_Rd_readPerson_b132 (by omega)  h
    · have h := okx_T c28 h
      refine xi_aload_n D_Rd_readPerson_83 rfl ?_
      refine xi_getI D_Rd_readPerson_84 F_Rd_76 (zl_fo (g27).1 rfl) ⟨rfl, by decide⟩ ?_
      refine xi_sipush (v := 999) D_Rd_readPerson_87 rfl ?_
      refine xi_icmp_le D_Rd_readPerson_90 (fun c29 => ?_) (fun c29 => ?_)
      · have h := okx_T c29 h
        refine xi_iinc (v := _ + 1) (ls' := [_, _]) D_Rd_readPerson_99 rfl rfl rfl (by decide) ?_
        refine xi_aload_n D_Rd_readPerson_102 rfl ?_
        obtain ⟨g30, h⟩ := okx_ck h
        refine xi_getR D_Rd_readPerson_103 F_Rd_25 (zl_fo (g27).1 rfl) ⟨rfl, by decide⟩ (g30) ?_
        refine xi_getR D_Rd_readPerson_106 F_Rd_79 (zl_fo (g27).1 rfl) ⟨rfl, by decide⟩ (zl_gr (g27).2 rfl rfl) ?_
        refine xi_aload_n D_Rd_readPerson_109 rfl ?_
        obtain ⟨g31, h⟩ := okx_ck h
        refine xi_getR D_Rd_readPerson_110 F_Rd_25 (zl_fo (g27).1 rfl) ⟨rfl, by decide⟩ (g31) ?_
        refine xi_getI D_Rd_readPerson_113 F_Rd_66 (zl_fo (g27).1 rfl) ⟨rfl, by decide⟩ ?_
        refine xj_iconst (v := 4) D_Rd_readPerson_116 rfl ?_
        refine xi_imul D_Rd_readPerson_117 ?_
        refine xi_iload_n D_Rd_readPerson_118 rfl ?_
        refine xi_iadd D_Rd_readPerson_119 ?_
        refine xi_aload_n D_Rd_readPerson_120 rfl ?_
        refine xi_getI D_Rd_readPerson_121 F_Rd_76 (zl_fo (g27).1 rfl) ⟨rfl, by decide⟩ ?_
        obtain ⟨g32, h⟩ := okx_ck h
        refine xj_iast D_Rd_readPerson_124 (zl_fx (g27).1 rfl) (zl_ib (n := 16) rfl (g32)) ?_
        refine xi_aload_n D_Rd_readPerson_125 rfl ?_
        refine xj_V0 D_Rd_readPerson_126 L_Rd_43 C_Rd_take Z_Rd_take (zl_fo (g27).1 rfl) (Nat.le_of_ble_eq_true rfl) (Nat.le_of_eq (Nat.sub_add_cancel (by omega))) (w_Rd_take (by omega) (okx_mono (okx_bd h) ?_))
        intro r34 s35 h
        show Xw _ _ _ _ 129 _ [] _ _
        refine xi_goto D_Rd_readPerson_129 ?_
        exact hR70 _ _ h
      · have h := okx_F c29 h
        exact xk_wk (w_Rd_readPerson_b93 (by omega)  h) ⟨Or.inl rfl, Or.inr rfl, trivial⟩
noncomputable def f_Rd_readPerson_h70 : Nat → Int32 → Sg → Option (Int32 × Sg)
  | 0, _, _ => none
  | n + 1, x1, s => f_Rd_readPerson_b70 (f_Rd_readPerson_h70 n) x1 s
theorem w_Rd_readPerson_h70 {d : Nat} {Q : Option (Option Value) → Sg → Prop} (hd : 6 ≤ d) : ∀ (n : Nat) (x1 : Int32) (s : Sg), okx (zq_I Q) (f_Rd_readPerson_h70 n x1 s) → Xw d M_Rd_readPerson 0 0 70 [.ref 42, .int x1] [] s Q := by
  intro n
  induction n with
  | zero => intro x1 s h; exact okx_no h
  | succ n ih => intro x1 s h; exact w_Rd_readPerson_b70 hd  ih  h
noncomputable def f_Rd_readPerson  (s : Sg) : Option (Int32 × Sg) :=
  f_ck (zl_B s) <|
  f_ck (mR s 42 10 = some 31) <|
  if (mI s 31 0) < 4 then
    f_bd (f_Rd_take  s) fun r4 s5 =>
    f_ck (zl_B s5) <|
    f_bd (f_Rd_isNewName  s5) fun r7 s8 =>
    if r7 = 0 then
      some (0, s8)
    else
      f_ck (zl_B s8) <|
      f_ck (mR s8 42 10 = some 31) <|
      f_ck (vp_in (mI s8 31 0) 7) <|
      let s13 : Sg := uL s8 44 (Int32.toNatClampNeg (mI s8 31 0)) (mL s8 42 7)
      f_bd (f_Rd_take  s13) fun r14 s15 =>
      f_ck (zl_B s15) <|
      if (mI s15 42 4) = 5 then
        f_bd (f_Rd_take  s15) fun r18 s19 =>
        f_Rd_readPerson_h70  zl_fl 0 s19
      else
        f_bd (f_Rd_wrong 1 s15) fun r20 s21 =>
        f_ck (narrow FieldType.boolean (.int r20) = .int r20) <|
        some (r20, s21)
  else
    f_bd (f_Rd_wrong 5 s) fun r23 s24 =>
    f_ck (narrow FieldType.boolean (.int r23) = .int r23) <|
    some (r23, s24)
theorem w_Rd_readPerson {s : Sg} {d : Nat} {Q : Option (Option Value) → Sg → Prop} (hd : 6 ≤ d) (h : okx (zq_I Q) (f_Rd_readPerson  s)) : Cw d M_Rd_readPerson [.ref 42] s Q := by
  refine Cw.of (by decide +kernel) (Nat.le_of_ble_eq_true rfl) ?_
  show Xw d M_Rd_readPerson 0 0 0 [.ref 42, .retAddr 0] [] s _
  unfold f_Rd_readPerson at h
  refine xi_aload_n D_Rd_readPerson_0 rfl ?_
  obtain ⟨g1, h⟩ := okx_ck h
  obtain ⟨g2, h⟩ := okx_ck h
  refine xi_getR D_Rd_readPerson_1 F_Rd_25 (zl_fo (g1).1 rfl) ⟨rfl, by decide⟩ (g2) ?_
  refine xi_getI D_Rd_readPerson_4 F_Rd_66 (zl_fo (g1).1 rfl) ⟨rfl, by decide⟩ ?_
  refine xj_iconst (v := 4) D_Rd_readPerson_7 rfl ?_
  refine xi_icmp_lt D_Rd_readPerson_8 (fun c3 => ?_) (fun c3 => ?_)
  · have h := okx_T c3 h
    refine xi_aload_n D_Rd_readPerson_17 rfl ?_
    refine xj_V0 D_Rd_readPerson_18 L_Rd_43 C_Rd_take Z_Rd_take (zl_fo (g1).1 rfl) (Nat.le_of_ble_eq_true rfl) (Nat.le_of_eq (Nat.sub_add_cancel (by omega))) (w_Rd_take (by omega) (okx_mono (okx_bd h) ?_))
    intro r4 s5 h
    show Xw _ _ _ _ 21 _ [] _ _
    refine xi_aload_n D_Rd_readPerson_21 rfl ?_
    obtain ⟨g6, h⟩ := okx_ck h
    refine xj_V0 D_Rd_readPerson_22 L_Rd_69 C_Rd_isNewName Z_Rd_isNewName (zl_fo (g6).1 rfl) (Nat.le_of_ble_eq_true rfl) (Nat.le_of_eq (Nat.sub_add_cancel (by omega))) (w_Rd_isNewName (by omega) (okx_mono (okx_bd h) ?_))
    intro r7 s8 h
    show Xw _ _ _ _ 25 _ [_] _ _
    refine xi_if_ne D_Rd_readPerson_25 (fun c9 => ?_) (fun c9 => ?_)
    · have h := okx_F c9 h
      refine xi_aload_n D_Rd_readPerson_30 rfl ?_
      obtain ⟨g10, h⟩ := okx_ck h
      refine xi_getR D_Rd_readPerson_31 F_Rd_15 (zl_fo (g10).1 rfl) ⟨rfl, by decide⟩ (zl_gr (g10).2 rfl rfl) ?_
      refine xi_aload_n D_Rd_readPerson_34 rfl ?_
      obtain ⟨g11, h⟩ := okx_ck h
      refine xi_getR D_Rd_readPerson_35 F_Rd_25 (zl_fo (g10).1 rfl) ⟨rfl, by decide⟩ (g11) ?_
      refine xi_getI D_Rd_readPerson_38 F_Rd_66 (zl_fo (g10).1 rfl) ⟨rfl, by decide⟩ ?_
      refine xi_aload_n D_Rd_readPerson_41 rfl ?_
      refine xi_getL D_Rd_readPerson_42 F_Rd_72 (zl_fo (g10).1 rfl) ⟨rfl, by decide⟩ ?_
      obtain ⟨g12, h⟩ := okx_ck h
      refine xj_last D_Rd_readPerson_45 (zl_fx (g10).1 rfl) (zl_ib (n := 7) rfl (g12)) ?_
      refine xi_aload_n D_Rd_readPerson_46 rfl ?_
      refine xj_V0 D_Rd_readPerson_47 L_Rd_43 C_Rd_take Z_Rd_take (zl_fo (g10).1 rfl) (Nat.le_of_ble_eq_true rfl) (Nat.le_of_eq (Nat.sub_add_cancel (by omega))) (w_Rd_take (by omega) (okx_mono (okx_bd h) ?_))
      intro r14 s15 h
      show Xw _ _ _ _ 50 _ [] _ _
      refine xi_aload_n D_Rd_readPerson_50 rfl ?_
      obtain ⟨g16, h⟩ := okx_ck h
      refine xi_getI D_Rd_readPerson_51 F_Rd_46 (zl_fo (g16).1 rfl) ⟨rfl, by decide⟩ ?_
      refine xj_iconst (v := 5) D_Rd_readPerson_54 rfl ?_
      refine xi_icmp_eq D_Rd_readPerson_55 (fun c17 => ?_) (fun c17 => ?_)
      · have h := okx_T c17 h
        refine xi_aload_n D_Rd_readPerson_64 rfl ?_
        refine xj_V0 D_Rd_readPerson_65 L_Rd_43 C_Rd_take Z_Rd_take (zl_fo (g16).1 rfl) (Nat.le_of_ble_eq_true rfl) (Nat.le_of_eq (Nat.sub_add_cancel (by omega))) (w_Rd_take (by omega) (okx_mono (okx_bd h) ?_))
        intro r18 s19 h
        show Xw _ _ _ _ 68 _ [] _ _
        refine xj_iconst (v := 0) D_Rd_readPerson_68 rfl ?_
        refine xi_istore_n (ls' := [_, _]) D_Rd_readPerson_69 rfl (by decide) ?_
        exact w_Rd_readPerson_h70 (by omega)  _ _ _ h
      · have h := okx_F c17 h
        refine xi_aload_n D_Rd_readPerson_58 rfl ?_
        refine xj_iconst (v := 1) D_Rd_readPerson_59 rfl ?_
        refine xj_V1 D_Rd_readPerson_60 L_Rd_59 C_Rd_wrong Z_Rd_wrong (zl_fo (g16).1 rfl) (Nat.le_of_ble_eq_true rfl) (Nat.le_of_eq (Nat.sub_add_cancel (by omega))) (w_Rd_wrong (by omega) (okx_mono (okx_bd h) ?_))
        intro r20 s21 h
        show Xw _ _ _ _ 63 _ [_] _ _
        obtain ⟨g22, h⟩ := okx_ck h
        exact xi_ireturn D_Rd_readPerson_63 rfl (g22) (okx_I h)
    · have h := okx_T c9 h
      refine xj_iconst (v := 0) D_Rd_readPerson_28 rfl ?_
      exact xi_ireturn D_Rd_readPerson_29 rfl (rfl) (okx_I h)
  · have h := okx_F c3 h
    refine xi_aload_n D_Rd_readPerson_11 rfl ?_
    refine xj_iconst (v := 5) D_Rd_readPerson_12 rfl ?_
    refine xj_V1 D_Rd_readPerson_13 L_Rd_59 C_Rd_wrong Z_Rd_wrong (zl_fo (g1).1 rfl) (Nat.le_of_ble_eq_true rfl) (Nat.le_of_eq (Nat.sub_add_cancel (by omega))) (w_Rd_wrong (by omega) (okx_mono (okx_bd h) ?_))
    intro r23 s24 h
    show Xw _ _ _ _ 16 _ [_] _ _
    obtain ⟨g25, h⟩ := okx_ck h
    exact xi_ireturn D_Rd_readPerson_16 rfl (g25) (okx_I h)
noncomputable def f_Rd_readThing  (s : Sg) : Option (Int32 × Sg) :=
  f_ck (zl_B s) <|
  f_ck (mR s 42 10 = some 31) <|
  if (mI s 31 1) < 3 then
    f_bd (f_Rd_take  s) fun r4 s5 =>
    f_ck (zl_B s5) <|
    f_bd (f_Rd_isNewName  s5) fun r7 s8 =>
    if r7 = 0 then
      some (0, s8)
    else
      f_ck (zl_B s8) <|
      f_ck (mR s8 42 10 = some 31) <|
      f_ck (vp_in (4 + (mI s8 31 1)) 7) <|
      let s13 : Sg := uL s8 44 (Int32.toNatClampNeg (4 + (mI s8 31 1))) (mL s8 42 7)
      f_bd (f_Rd_take  s13) fun r14 s15 =>
      f_ck (zl_B s15) <|
      if (mI s15 42 4) = 59 then
        f_ck (mR s15 42 10 = some 31) <|
        let s19 : Sg := uI s15 31 1 ((mI s15 31 1) + 1)
        f_bd (f_Rd_take  s19) fun r20 s21 =>
        some (1, s21)
      else
        f_bd (f_Rd_wrong 1 s15) fun r22 s23 =>
        f_ck (narrow FieldType.boolean (.int r22) = .int r22) <|
        some (r22, s23)
  else
    f_bd (f_Rd_wrong 5 s) fun r25 s26 =>
    f_ck (narrow FieldType.boolean (.int r25) = .int r25) <|
    some (r25, s26)
theorem w_Rd_readThing {s : Sg} {d : Nat} {Q : Option (Option Value) → Sg → Prop} (hd : 6 ≤ d) (h : okx (zq_I Q) (f_Rd_readThing  s)) : Cw d M_Rd_readThing [.ref 42] s Q := by
  refine Cw.of (by decide +kernel) (Nat.le_of_ble_eq_true rfl) ?_
  show Xw d M_Rd_readThing 0 0 0 [.ref 42] [] s _
  unfold f_Rd_readThing at h
  refine xi_aload_n D_Rd_readThing_0 rfl ?_
  obtain ⟨g1, h⟩ := okx_ck h
  obtain ⟨g2, h⟩ := okx_ck h
  refine xi_getR D_Rd_readThing_1 F_Rd_25 (zl_fo (g1).1 rfl) ⟨rfl, by decide⟩ (g2) ?_
  refine xi_getI D_Rd_readThing_4 F_Rd_86 (zl_fo (g1).1 rfl) ⟨rfl, by decide⟩ ?_
  refine xj_iconst (v := 3) D_Rd_readThing_7 rfl ?_
  refine xi_icmp_lt D_Rd_readThing_8 (fun c3 => ?_) (fun c3 => ?_)
  · have h := okx_T c3 h
    refine xi_aload_n D_Rd_readThing_17 rfl ?_
    refine xj_V0 D_Rd_readThing_18 L_Rd_43 C_Rd_take Z_Rd_take (zl_fo (g1).1 rfl) (Nat.le_of_ble_eq_true rfl) (Nat.le_of_eq (Nat.sub_add_cancel (by omega))) (w_Rd_take (by omega) (okx_mono (okx_bd h) ?_))
    intro r4 s5 h
    show Xw _ _ _ _ 21 _ [] _ _
    refine xi_aload_n D_Rd_readThing_21 rfl ?_
    obtain ⟨g6, h⟩ := okx_ck h
    refine xj_V0 D_Rd_readThing_22 L_Rd_69 C_Rd_isNewName Z_Rd_isNewName (zl_fo (g6).1 rfl) (Nat.le_of_ble_eq_true rfl) (Nat.le_of_eq (Nat.sub_add_cancel (by omega))) (w_Rd_isNewName (by omega) (okx_mono (okx_bd h) ?_))
    intro r7 s8 h
    show Xw _ _ _ _ 25 _ [_] _ _
    refine xi_if_ne D_Rd_readThing_25 (fun c9 => ?_) (fun c9 => ?_)
    · have h := okx_F c9 h
      refine xi_aload_n D_Rd_readThing_30 rfl ?_
      obtain ⟨g10, h⟩ := okx_ck h
      refine xi_getR D_Rd_readThing_31 F_Rd_15 (zl_fo (g10).1 rfl) ⟨rfl, by decide⟩ (zl_gr (g10).2 rfl rfl) ?_
      refine xj_iconst (v := 4) D_Rd_readThing_34 rfl ?_
      refine xi_aload_n D_Rd_readThing_35 rfl ?_
      obtain ⟨g11, h⟩ := okx_ck h
      refine xi_getR D_Rd_readThing_36 F_Rd_25 (zl_fo (g10).1 rfl) ⟨rfl, by decide⟩ (g11) ?_
      refine xi_getI D_Rd_readThing_39 F_Rd_86 (zl_fo (g10).1 rfl) ⟨rfl, by decide⟩ ?_
      refine xi_iadd D_Rd_readThing_42 ?_
      refine xi_aload_n D_Rd_readThing_43 rfl ?_
      refine xi_getL D_Rd_readThing_44 F_Rd_72 (zl_fo (g10).1 rfl) ⟨rfl, by decide⟩ ?_
      obtain ⟨g12, h⟩ := okx_ck h
      refine xj_last D_Rd_readThing_47 (zl_fx (g10).1 rfl) (zl_ib (n := 7) rfl (g12)) ?_
      refine xi_aload_n D_Rd_readThing_48 rfl ?_
      refine xj_V0 D_Rd_readThing_49 L_Rd_43 C_Rd_take Z_Rd_take (zl_fo (g10).1 rfl) (Nat.le_of_ble_eq_true rfl) (Nat.le_of_eq (Nat.sub_add_cancel (by omega))) (w_Rd_take (by omega) (okx_mono (okx_bd h) ?_))
      intro r14 s15 h
      show Xw _ _ _ _ 52 _ [] _ _
      refine xi_aload_n D_Rd_readThing_52 rfl ?_
      obtain ⟨g16, h⟩ := okx_ck h
      refine xi_getI D_Rd_readThing_53 F_Rd_46 (zl_fo (g16).1 rfl) ⟨rfl, by decide⟩ ?_
      refine xi_bipush (v := 59) D_Rd_readThing_56 rfl ?_
      refine xi_icmp_eq D_Rd_readThing_58 (fun c17 => ?_) (fun c17 => ?_)
      · have h := okx_T c17 h
        refine xi_aload_n D_Rd_readThing_67 rfl ?_
        obtain ⟨g18, h⟩ := okx_ck h
        refine xi_getR D_Rd_readThing_68 F_Rd_25 (zl_fo (g16).1 rfl) ⟨rfl, by decide⟩ (g18) ?_
        refine xi_dupr D_Rd_readThing_71 ?_
        refine xi_getI D_Rd_readThing_72 F_Rd_86 (zl_fo (g16).1 rfl) ⟨rfl, by decide⟩ ?_
        refine xj_iconst (v := 1) D_Rd_readThing_75 rfl ?_
        refine xi_iadd D_Rd_readThing_76 ?_
        refine xi_putI D_Rd_readThing_77 F_Rd_86 (zl_fo (g16).1 rfl) ⟨rfl, by decide, rfl⟩ (⟨rfl, rfl⟩) ?_
        refine xi_aload_n D_Rd_readThing_80 rfl ?_
        refine xj_V0 D_Rd_readThing_81 L_Rd_43 C_Rd_take Z_Rd_take (zl_fo (g16).1 rfl) (Nat.le_of_ble_eq_true rfl) (Nat.le_of_eq (Nat.sub_add_cancel (by omega))) (w_Rd_take (by omega) (okx_mono (okx_bd h) ?_))
        intro r20 s21 h
        show Xw _ _ _ _ 84 _ [] _ _
        refine xj_iconst (v := 1) D_Rd_readThing_84 rfl ?_
        exact xi_ireturn D_Rd_readThing_85 rfl (rfl) (okx_I h)
      · have h := okx_F c17 h
        refine xi_aload_n D_Rd_readThing_61 rfl ?_
        refine xj_iconst (v := 1) D_Rd_readThing_62 rfl ?_
        refine xj_V1 D_Rd_readThing_63 L_Rd_59 C_Rd_wrong Z_Rd_wrong (zl_fo (g16).1 rfl) (Nat.le_of_ble_eq_true rfl) (Nat.le_of_eq (Nat.sub_add_cancel (by omega))) (w_Rd_wrong (by omega) (okx_mono (okx_bd h) ?_))
        intro r22 s23 h
        show Xw _ _ _ _ 66 _ [_] _ _
        obtain ⟨g24, h⟩ := okx_ck h
        exact xi_ireturn D_Rd_readThing_66 rfl (g24) (okx_I h)
    · have h := okx_T c9 h
      refine xj_iconst (v := 0) D_Rd_readThing_28 rfl ?_
      exact xi_ireturn D_Rd_readThing_29 rfl (rfl) (okx_I h)
  · have h := okx_F c3 h
    refine xi_aload_n D_Rd_readThing_11 rfl ?_
    refine xj_iconst (v := 5) D_Rd_readThing_12 rfl ?_
    refine xj_V1 D_Rd_readThing_13 L_Rd_59 C_Rd_wrong Z_Rd_wrong (zl_fo (g1).1 rfl) (Nat.le_of_ble_eq_true rfl) (Nat.le_of_eq (Nat.sub_add_cancel (by omega))) (w_Rd_wrong (by omega) (okx_mono (okx_bd h) ?_))
    intro r25 s26 h
    show Xw _ _ _ _ 16 _ [_] _ _
    obtain ⟨g27, h⟩ := okx_ck h
    exact xi_ireturn D_Rd_readThing_16 rfl (g27) (okx_I h)
noncomputable def f_Rd_read_b109 (R35 : Int32 → Int32 → Sg → Option (Int32 × Sg)) (x2 : Int32) (x3 : Int32) (s : Sg) : Option (Int32 × Sg) :=
  R35 x2 (x3 + 1) s
theorem w_Rd_read_b109 {x2 : Int32} {x3 : Int32} {s : Sg} {d : Nat} {Q : Option (Option Value) → Sg → Prop} (hd : 62 ≤ d) {R35 : Int32 → Int32 → Sg → Option (Int32 × Sg)} (hR35 : ∀ (x2 : Int32) (x3 : Int32) (s : Sg), okx (zq_I Q) (R35 x2 x3 s) → Xw d M_Rd_read 0 0 35 [.ref 42, .retAddr 0, .int x2, .int x3] [] s Q) (h : okx (zq_I Q) (f_Rd_read_b109 R35 x2 x3 s)) : Xw d M_Rd_read 0 0 109 [.ref 42, .retAddr 0, .int x2, .int x3] [] s Q := by
  unfold f_Rd_read_b109 at h
  refine xi_iinc (v := _ + 1) (ls' := [_, _, _, _]) D_Rd_read_109 rfl rfl rfl (by decide) ?_
  refine xi_goto D_Rd_read_112 ?_
  exact hR35 _ _ _ h
noncomputable def f_Rd_read_b115  (s : Sg) : Option (Int32 × Sg) :=
  f_ck (zl_B s) <|
  let s29 : Sg := uI s 42 2 0
  some ((mI s29 42 8), s29)
theorem w_Rd_read_b115 {s : Sg} {d : Nat} {Q : Option (Option Value) → Sg → Prop} (hd : 62 ≤ d) (h : okx (zq_I Q) (f_Rd_read_b115  s)) : Xw d M_Rd_read 0 0 115 [.ref 42, .retAddr 0, .retAddr 0, .retAddr 0] [] s Q := by
  unfold f_Rd_read_b115 at h
  refine xi_aload_n D_Rd_read_115 rfl ?_
  refine xj_iconst (v := 0) D_Rd_read_116 rfl ?_
  obtain ⟨g28, h⟩ := okx_ck h
  refine xi_putI D_Rd_read_117 F_Rd_21 (zl_fo (g28).1 rfl) ⟨rfl, by decide, rfl⟩ (⟨rfl, rfl⟩) ?_
  refine xi_aload_n D_Rd_read_120 rfl ?_
  refine xi_getI D_Rd_read_121 F_Rd_40 (zl_fo (g28).1 rfl) ⟨rfl, by decide⟩ ?_
  exact xi_ireturn D_Rd_read_124 rfl (rfl) (okx_I h)
noncomputable def f_Rd_read_b35 (R35 : Int32 → Int32 → Sg → Option (Int32 × Sg)) (x2 : Int32) (x3 : Int32) (s : Sg) : Option (Int32 × Sg) :=
  if 1000 < x3 then
    f_Rd_read_b115   s
  else
    if x2 = 0 then
      f_Rd_read_b115   s
    else
      f_ck (zl_B s) <|
      if (mI s 42 4) = 0 then
        f_Rd_read_b115   s
      else
        if (mI s 42 4) = 4 then
          f_bd (f_Rd_readPerson  s) fun r18 s19 =>
          f_Rd_read_b109 R35 r18 x3 s19
        else
          if (mI s 42 4) = 6 then
            f_bd (f_Rd_readThing  s) fun r21 s22 =>
            f_Rd_read_b109 R35 r21 x3 s22
          else
            if (mI s 42 4) = 7 then
              f_bd (f_Rd_readLine  s) fun r24 s25 =>
              f_Rd_read_b109 R35 r24 x3 s25
            else
              f_bd (f_Rd_wrong 1 s) fun r26 s27 =>
              f_Rd_read_b109 R35 r26 x3 s27
theorem w_Rd_read_b35 {x2 : Int32} {x3 : Int32} {s : Sg} {d : Nat} {Q : Option (Option Value) → Sg → Prop} (hd : 62 ≤ d) {R35 : Int32 → Int32 → Sg → Option (Int32 × Sg)} (hR35 : ∀ (x2 : Int32) (x3 : Int32) (s : Sg), okx (zq_I Q) (R35 x2 x3 s) → Xw d M_Rd_read 0 0 35 [.ref 42, .retAddr 0, .int x2, .int x3] [] s Q) (h : okx (zq_I Q) (f_Rd_read_b35 R35 x2 x3 s)) : Xw d M_Rd_read 0 0 35 [.ref 42, .retAddr 0, .int x2, .int x3] [] s Q := by
  unfold f_Rd_read_b35 at h
  refine xi_iload_n D_Rd_read_35 rfl ?_
  refine xi_sipush (v := 1000) D_Rd_read_36 rfl ?_
  refine xi_icmp_gt D_Rd_read_39 (fun c13 => ?_) (fun c13 => ?_)
  · have h := okx_T c13 h
    exact xk_wk (w_Rd_read_b115 (by omega)  h) ⟨Or.inl rfl, Or.inl rfl, Or.inr rfl, Or.inr rfl, trivial⟩
  · have h := okx_F c13 h
    refine xi_iload_n D_Rd_read_42 rfl ?_
    refine xi_if_eq D_Rd_read_43 (fun c14 => ?_) (fun c14 => ?_)
    · have h := okx_T c14 h
      exact xk_wk (w_Rd_read_b115 (by omega)  h) ⟨Or.inl rfl, Or.inl rfl, Or.inr rfl, Or.inr rfl, trivial⟩
    · have h := okx_F c14 h
      refine xi_aload_n D_Rd_read_46 rfl ?_
      obtain ⟨g15, h⟩ := okx_ck h
      refine xi_getI D_Rd_read_47 F_Rd_46 (zl_fo (g15).1 rfl) ⟨rfl, by decide⟩ ?_
      refine xi_if_eq D_Rd_read_50 (fun c16 => ?_) (fun c16 => ?_)
      · have h := okx_T c16 h
        exact xk_wk (w_Rd_read_b115 (by omega)  h) ⟨Or.inl rfl, Or.inl rfl, Or.inr rfl, Or.inr rfl, trivial⟩
      · have h := okx_F c16 h
        refine xi_aload_n D_Rd_read_53 rfl ?_
        refine xi_getI D_Rd_read_54 F_Rd_46 (zl_fo (g15).1 rfl) ⟨rfl, by decide⟩ ?_
        refine xj_iconst (v := 4) D_Rd_read_57 rfl ?_
        refine xi_icmp_ne D_Rd_read_58 (fun c17 => ?_) (fun c17 => ?_)
        · have h := okx_F c17 h
          refine xi_aload_n D_Rd_read_69 rfl ?_
          refine xi_getI D_Rd_read_70 F_Rd_46 (zl_fo (g15).1 rfl) ⟨rfl, by decide⟩ ?_
          refine xi_bipush (v := 6) D_Rd_read_73 rfl ?_
          refine xi_icmp_ne D_Rd_read_75 (fun c20 => ?_) (fun c20 => ?_)
          · have h := okx_F c20 h
            refine xi_aload_n D_Rd_read_86 rfl ?_
            refine xi_getI D_Rd_read_87 F_Rd_46 (zl_fo (g15).1 rfl) ⟨rfl, by decide⟩ ?_
            refine xi_bipush (v := 7) D_Rd_read_90 rfl ?_
            refine xi_icmp_ne D_Rd_read_92 (fun c23 => ?_) (fun c23 => ?_)
            · have h := okx_F c23 h
              refine xi_aload_n D_Rd_read_103 rfl ?_
              refine xj_iconst (v := 1) D_Rd_read_104 rfl ?_
              refine xj_V1 D_Rd_read_105 L_Rd_59 C_Rd_wrong Z_Rd_wrong (zl_fo (g15).1 rfl) (Nat.le_of_ble_eq_true rfl) (Nat.le_of_eq (Nat.sub_add_cancel (by omega))) (w_Rd_wrong (by omega) (okx_mono (okx_bd h) ?_))
              intro r26 s27 h
              show Xw _ _ _ _ 108 _ [_] _ _
              refine xi_istore_n (ls' := [_, _, _, _]) D_Rd_read_108 rfl (by decide) ?_
              exact w_Rd_read_b109 (by omega) hR35 h
            · have h := okx_T c23 h
              refine xi_aload_n D_Rd_read_95 rfl ?_
              refine xj_V0 D_Rd_read_96 L_Rd_56 C_Rd_readLine Z_Rd_readLine (zl_fo (g15).1 rfl) (Nat.le_of_ble_eq_true rfl) (Nat.le_of_eq (Nat.sub_add_cancel (by omega))) (w_Rd_readLine (by omega) (okx_mono (okx_bd h) ?_))
              intro r24 s25 h
              show Xw _ _ _ _ 99 _ [_] _ _
              refine xi_istore_n (ls' := [_, _, _, _]) D_Rd_read_99 rfl (by decide) ?_
              refine xi_goto D_Rd_read_100 ?_
              exact w_Rd_read_b109 (by omega) hR35 h
          · have h := okx_T c20 h
            refine xi_aload_n D_Rd_read_78 rfl ?_
            refine xj_V0 D_Rd_read_79 L_Rd_53 C_Rd_readThing Z_Rd_readThing (zl_fo (g15).1 rfl) (Nat.le_of_ble_eq_true rfl) (Nat.le_of_eq (Nat.sub_add_cancel (by omega))) (w_Rd_readThing (by omega) (okx_mono (okx_bd h) ?_))
            intro r21 s22 h
            show Xw _ _ _ _ 82 _ [_] _ _
            refine xi_istore_n (ls' := [_, _, _, _]) D_Rd_read_82 rfl (by decide) ?_
            refine xi_goto D_Rd_read_83 ?_
            exact w_Rd_read_b109 (by omega) hR35 h
        · have h := okx_T c17 h
          refine xi_aload_n D_Rd_read_61 rfl ?_
          refine xj_V0 D_Rd_read_62 L_Rd_49 C_Rd_readPerson Z_Rd_readPerson (zl_fo (g15).1 rfl) (Nat.le_of_ble_eq_true rfl) (Nat.le_of_eq (Nat.sub_add_cancel (by omega))) (w_Rd_readPerson (by omega) (okx_mono (okx_bd h) ?_))
          intro r18 s19 h
          show Xw _ _ _ _ 65 _ [_] _ _
          refine xi_istore_n (ls' := [_, _, _, _]) D_Rd_read_65 rfl (by decide) ?_
          refine xi_goto D_Rd_read_66 ?_
          exact w_Rd_read_b109 (by omega) hR35 h
noncomputable def f_Rd_read_h35 : Nat → Int32 → Int32 → Sg → Option (Int32 × Sg)
  | 0, _, _, _ => none
  | n + 1, x2, x3, s => f_Rd_read_b35 (f_Rd_read_h35 n) x2 x3 s
theorem w_Rd_read_h35 {d : Nat} {Q : Option (Option Value) → Sg → Prop} (hd : 62 ≤ d) : ∀ (n : Nat) (x2 : Int32) (x3 : Int32) (s : Sg), okx (zq_I Q) (f_Rd_read_h35 n x2 x3 s) → Xw d M_Rd_read 0 0 35 [.ref 42, .retAddr 0, .int x2, .int x3] [] s Q := by
  intro n
  induction n with
  | zero => intro x2 x3 s h; exact okx_no h
  | succ n ih => intro x2 x3 s h; exact w_Rd_read_b35 hd  ih  h
noncomputable def f_Rd_read  (s : Sg) : Option (Int32 × Sg) :=
  f_ck (zl_B s) <|
  let s2 : Sg := uR s 42 10 (some 31)
  f_ck (zl_B s2) <|
  f_ck (mR s2 42 10 = some 31) <|
  f_bd (f_To_clear 31 s2) fun r5 s6 =>
  f_ck (zl_B s6) <|
  let s8 : Sg := uI s6 42 3 0
  let s9 : Sg := uI s8 42 9 0
  let s10 : Sg := uI s9 42 8 0
  f_bd (f_Rd_take  s10) fun r11 s12 =>
  f_Rd_read_h35  zl_fl 1 0 s12
theorem w_Rd_read {s : Sg} {d : Nat} {Q : Option (Option Value) → Sg → Prop} (hd : 62 ≤ d) (h : okx (zq_I Q) (f_Rd_read  s)) : Cw d M_Rd_read [.ref 42, .ref 31] s Q := by
  refine Cw.of (by decide +kernel) (Nat.le_of_ble_eq_true rfl) ?_
  show Xw d M_Rd_read 0 0 0 [.ref 42, .ref 31, .retAddr 0, .retAddr 0] [] s _
  unfold f_Rd_read at h
  refine xi_aload_n D_Rd_read_0 rfl ?_
  refine xi_aload_n D_Rd_read_1 rfl ?_
  obtain ⟨g1, h⟩ := okx_ck h
  refine xi_putR D_Rd_read_2 F_Rd_25 (zl_fo (g1).1 rfl) ⟨rfl, by decide, rfl⟩ rfl ?_
  refine xi_aload_n D_Rd_read_5 rfl ?_
  obtain ⟨g3, h⟩ := okx_ck h
  obtain ⟨g4, h⟩ := okx_ck h
  refine xi_getR D_Rd_read_6 F_Rd_25 (zl_fo (g3).1 rfl) ⟨rfl, by decide⟩ (g4) ?_
  refine xj_V0 D_Rd_read_9 L_Rd_29 C_To_clear Z_To_clear (zl_fo (g3).1 rfl) (Nat.le_of_ble_eq_true rfl) (Nat.le_of_eq (Nat.sub_add_cancel (by omega))) (w_To_clear (by omega) (okx_mono (okx_bd h) ?_))
  intro r5 s6 h
  show Xw _ _ _ _ 12 _ [] _ _
  refine xi_aload_n D_Rd_read_12 rfl ?_
  refine xj_iconst (v := 0) D_Rd_read_13 rfl ?_
  obtain ⟨g7, h⟩ := okx_ck h
  refine xi_putI D_Rd_read_14 F_Rd_34 (zl_fo (g7).1 rfl) ⟨rfl, by decide, rfl⟩ (⟨rfl, rfl⟩) ?_
  refine xi_aload_n D_Rd_read_17 rfl ?_
  refine xj_iconst (v := 0) D_Rd_read_18 rfl ?_
  refine xi_putI D_Rd_read_19 F_Rd_37 (zl_fo (g7).1 rfl) ⟨rfl, by decide, rfl⟩ (⟨rfl, rfl⟩) ?_
  refine xi_aload_n D_Rd_read_22 rfl ?_
  refine xj_iconst (v := 0) D_Rd_read_23 rfl ?_
  refine xi_putI D_Rd_read_24 F_Rd_40 (zl_fo (g7).1 rfl) ⟨rfl, by decide, rfl⟩ (⟨rfl, rfl⟩) ?_
  refine xi_aload_n D_Rd_read_27 rfl ?_
  refine xj_V0 D_Rd_read_28 L_Rd_43 C_Rd_take Z_Rd_take (zl_fo (g7).1 rfl) (Nat.le_of_ble_eq_true rfl) (Nat.le_of_eq (Nat.sub_add_cancel (by omega))) (w_Rd_take (by omega) (okx_mono (okx_bd h) ?_))
  intro r11 s12 h
  show Xw _ _ _ _ 31 _ [] _ _
  refine xj_iconst (v := 1) D_Rd_read_31 rfl ?_
  refine xi_istore_n (ls' := [_, _, _, _]) D_Rd_read_32 rfl (by decide) ?_
  refine xj_iconst (v := 0) D_Rd_read_33 rfl ?_
  refine xi_istore_n (ls' := [_, _, _, _]) D_Rd_read_34 rfl (by decide) ?_
  exact xk_wk (w_Rd_read_h35 (by omega)  _ _ _ _ h) ⟨Or.inl rfl, Or.inr rfl, Or.inl rfl, Or.inl rfl, trivial⟩
noncomputable def f_Rd_readPart_b35 (R_Rd_readJoined : Int32 → Int32 → Sg → Option (Int32 × Sg)) (R_Rd_readPart : Int32 → Sg → Option (Int32 × Sg))  (s : Sg) : Option (Int32 × Sg) :=
  f_ck (zl_B s) <|
  f_bd (f_Rd_wrong 2 s) fun r10 s11 =>
  f_ck (narrow FieldType.boolean (.int r10) = .int r10) <|
  some (r10, s11)
theorem w_Rd_readPart_b35 {s : Sg} {d : Nat} {Q : Option (Option Value) → Sg → Prop} (hd : 60 ≤ d) {R_Rd_readJoined : Int32 → Int32 → Sg → Option (Int32 × Sg)} {R_Rd_readPart : Int32 → Sg → Option (Int32 × Sg)} (hR_Rd_readJoined : ∀ {x1 x2 : Int32} {s : Sg} {Q : Option (Option Value) → Sg → Prop}, 0 = 0 → okx (zq_I Q) (R_Rd_readJoined x1 x2 s) → Cw (d - 1) M_Rd_readJoined [.ref 42, .int x1, .int x2] s Q) (hR_Rd_readPart : ∀ {x1 : Int32} {s : Sg} {Q : Option (Option Value) → Sg → Prop}, 0 = 0 → okx (zq_I Q) (R_Rd_readPart x1 s) → Cw (d - 1) M_Rd_readPart [.ref 42, .int x1] s Q) (h : okx (zq_I Q) (f_Rd_readPart_b35 R_Rd_readJoined R_Rd_readPart  s)) : Xw d M_Rd_readPart 0 0 35 [.ref 42, .retAddr 0, .retAddr 0, .retAddr 0] [] s Q := by
  unfold f_Rd_readPart_b35 at h
  refine xi_aload_n D_Rd_readPart_35 rfl ?_
  refine xj_iconst (v := 2) D_Rd_readPart_36 rfl ?_
  obtain ⟨g9, h⟩ := okx_ck h
  refine xj_V1 D_Rd_readPart_37 L_Rd_59 C_Rd_wrong Z_Rd_wrong (zl_fo (g9).1 rfl) (Nat.le_of_ble_eq_true rfl) (Nat.le_of_eq (Nat.sub_add_cancel (by omega))) (w_Rd_wrong (by omega) (okx_mono (okx_bd h) ?_))
  intro r10 s11 h
  show Xw _ _ _ _ 40 _ [_] _ _
  obtain ⟨g12, h⟩ := okx_ck h
  exact xi_ireturn D_Rd_readPart_40 rfl (g12) (okx_I h)
noncomputable def f_Rd_readPart_b125 (R_Rd_readJoined : Int32 → Int32 → Sg → Option (Int32 × Sg)) (R_Rd_readPart : Int32 → Sg → Option (Int32 × Sg)) (y1 : Int32) (s : Sg) : Option (Int32 × Sg) :=
  f_ck (zl_B s) <|
  f_bd (f_Rd_put y1 s) fun r53 s54 =>
  f_ck (zl_B s54) <|
  f_bd (f_Rd_take  s54) fun r56 s57 =>
  some (1, s57)
theorem w_Rd_readPart_b125 {y1 : Int32} {s : Sg} {d : Nat} {Q : Option (Option Value) → Sg → Prop} (hd : 60 ≤ d) {R_Rd_readJoined : Int32 → Int32 → Sg → Option (Int32 × Sg)} {R_Rd_readPart : Int32 → Sg → Option (Int32 × Sg)} (hR_Rd_readJoined : ∀ {x1 x2 : Int32} {s : Sg} {Q : Option (Option Value) → Sg → Prop}, 0 = 0 → okx (zq_I Q) (R_Rd_readJoined x1 x2 s) → Cw (d - 1) M_Rd_readJoined [.ref 42, .int x1, .int x2] s Q) (hR_Rd_readPart : ∀ {x1 : Int32} {s : Sg} {Q : Option (Option Value) → Sg → Prop}, 0 = 0 → okx (zq_I Q) (R_Rd_readPart x1 s) → Cw (d - 1) M_Rd_readPart [.ref 42, .int x1] s Q) (h : okx (zq_I Q) (f_Rd_readPart_b125 R_Rd_readJoined R_Rd_readPart y1 s)) : Xw d M_Rd_readPart 0 0 125 [.ref 42, .retAddr 0, .retAddr 0, .retAddr 0] [.int y1, .ref 42] s Q := by
  unfold f_Rd_readPart_b125 at h
  obtain ⟨g52, h⟩ := okx_ck h
  refine xj_V1 D_Rd_readPart_125 L_Rd_113 C_Rd_put Z_Rd_put (zl_fo (g52).1 rfl) (Nat.le_of_ble_eq_true rfl) (Nat.le_of_eq (Nat.sub_add_cancel (by omega))) (w_Rd_put (by omega) (okx_mono (okx_bd h) ?_))
  intro r53 s54 h
  show Xw _ _ _ _ 128 _ [] _ _
  refine xi_aload_n D_Rd_readPart_128 rfl ?_
  obtain ⟨g55, h⟩ := okx_ck h
  refine xj_V0 D_Rd_readPart_129 L_Rd_43 C_Rd_take Z_Rd_take (zl_fo (g55).1 rfl) (Nat.le_of_ble_eq_true rfl) (Nat.le_of_eq (Nat.sub_add_cancel (by omega))) (w_Rd_take (by omega) (okx_mono (okx_bd h) ?_))
  intro r56 s57 h
  show Xw _ _ _ _ 132 _ [] _ _
  refine xj_iconst (v := 1) D_Rd_readPart_132 rfl ?_
  exact xi_ireturn D_Rd_readPart_133 rfl (rfl) (okx_I h)
noncomputable def f_Rd_readPart_b107 (R_Rd_readJoined : Int32 → Int32 → Sg → Option (Int32 × Sg)) (R_Rd_readPart : Int32 → Sg → Option (Int32 × Sg)) (x2 : Int32) (x3 : Int32) (s : Sg) : Option (Int32 × Sg) :=
  if x3 = 3 then
    f_ck (zl_B s) <|
    f_Rd_readPart_b125 R_Rd_readJoined R_Rd_readPart (mI s 42 6) s
  else
    f_Rd_readPart_b125 R_Rd_readJoined R_Rd_readPart (10000 + x2) s
theorem w_Rd_readPart_b107 {x2 : Int32} {x3 : Int32} {s : Sg} {d : Nat} {Q : Option (Option Value) → Sg → Prop} (hd : 60 ≤ d) {R_Rd_readJoined : Int32 → Int32 → Sg → Option (Int32 × Sg)} {R_Rd_readPart : Int32 → Sg → Option (Int32 × Sg)} (hR_Rd_readJoined : ∀ {x1 x2 : Int32} {s : Sg} {Q : Option (Option Value) → Sg → Prop}, 0 = 0 → okx (zq_I Q) (R_Rd_readJoined x1 x2 s) → Cw (d - 1) M_Rd_readJoined [.ref 42, .int x1, .int x2] s Q) (hR_Rd_readPart : ∀ {x1 : Int32} {s : Sg} {Q : Option (Option Value) → Sg → Prop}, 0 = 0 → okx (zq_I Q) (R_Rd_readPart x1 s) → Cw (d - 1) M_Rd_readPart [.ref 42, .int x1] s Q) (h : okx (zq_I Q) (f_Rd_readPart_b107 R_Rd_readJoined R_Rd_readPart x2 x3 s)) : Xw d M_Rd_readPart 0 0 107 [.ref 42, .retAddr 0, .int x2, .int x3] [] s Q := by
  unfold f_Rd_readPart_b107 at h
  refine xi_aload_n D_Rd_readPart_107 rfl ?_
  refine xi_iload_n D_Rd_readPart_108 rfl ?_
  refine xj_iconst (v := 3) D_Rd_readPart_109 rfl ?_
  refine xi_icmp_ne D_Rd_readPart_110 (fun c50 => ?_) (fun c50 => ?_)
  · have h := okx_F c50 h
    refine xi_sipush (v := 10000) D_Rd_readPart_120 rfl ?_
    refine xi_iload_n D_Rd_readPart_123 rfl ?_
    refine xi_iadd D_Rd_readPart_124 ?_
    exact xk_wk (w_Rd_readPart_b125 (by omega) hR_Rd_readJoined hR_Rd_readPart h) ⟨Or.inl rfl, Or.inl rfl, Or.inr rfl, Or.inr rfl, trivial⟩
  · have h := okx_T c50 h
    refine xi_aload_n D_Rd_readPart_113 rfl ?_
    obtain ⟨g51, h⟩ := okx_ck h
    refine xi_getI D_Rd_readPart_114 F_Rd_76 (zl_fo (g51).1 rfl) ⟨rfl, by decide⟩ ?_
    refine xi_goto D_Rd_readPart_117 ?_
    exact xk_wk (w_Rd_readPart_b125 (by omega) hR_Rd_readJoined hR_Rd_readPart h) ⟨Or.inl rfl, Or.inl rfl, Or.inr rfl, Or.inr rfl, trivial⟩
noncomputable def f_Rd_readPart_b81 (R_Rd_readJoined : Int32 → Int32 → Sg → Option (Int32 × Sg)) (R_Rd_readPart : Int32 → Sg → Option (Int32 × Sg)) (x1 : Int32) (x2 : Int32) (s : Sg) : Option (Int32 × Sg) :=
  if x1 < 5 then
    f_ck (zl_B s) <|
    if (mI s 42 4) = 2 then
      f_Rd_readPart_b107 R_Rd_readJoined R_Rd_readPart x2 (mI s 42 4) s
    else
      if (mI s 42 4) = 3 then
        f_Rd_readPart_b107 R_Rd_readJoined R_Rd_readPart x2 (mI s 42 4) s
      else
        f_bd (f_Rd_take  s) fun r25 s26 =>
        if (mI s 42 4) = 9 then
          f_ck (zl_B s26) <|
          f_bd (R_Rd_readPart (x1 + 1) s26) fun r29 s30 =>
          if r29 = 0 then
            some (0, s30)
          else
            f_ck (zl_B s30) <|
            f_bd (f_Rd_put 20009 s30) fun r33 s34 =>
            some (1, s34)
        else
          f_ck (zl_B s26) <|
          f_bd (R_Rd_readJoined 0 (x1 + 1) s26) fun r36 s37 =>
          if r36 = 0 then
            some (0, s37)
          else
            f_ck (zl_B s37) <|
            if (mI s37 42 4) = 41 then
              f_bd (f_Rd_take  s37) fun r41 s42 =>
              some (1, s42)
            else
              f_bd (f_Rd_wrong 1 s37) fun r43 s44 =>
              f_ck (narrow FieldType.boolean (.int r43) = .int r43) <|
              some (r43, s44)
  else
    f_ck (zl_B s) <|
    f_bd (f_Rd_wrong 5 s) fun r47 s48 =>
    f_ck (narrow FieldType.boolean (.int r47) = .int r47) <|
    some (r47, s48)
theorem w_Rd_readPart_b81 {x1 : Int32} {x2 : Int32} {s : Sg} {d : Nat} {Q : Option (Option Value) → Sg → Prop} (hd : 60 ≤ d) {R_Rd_readJoined : Int32 → Int32 → Sg → Option (Int32 × Sg)} {R_Rd_readPart : Int32 → Sg → Option (Int32 × Sg)} (hR_Rd_readJoined : ∀ {x1 x2 : Int32} {s : Sg} {Q : Option (Option Value) → Sg → Prop}, 0 = 0 → okx (zq_I Q) (R_Rd_readJoined x1 x2 s) → Cw (d - 1) M_Rd_readJoined [.ref 42, .int x1, .int x2] s Q) (hR_Rd_readPart : ∀ {x1 : Int32} {s : Sg} {Q : Option (Option Value) → Sg → Prop}, 0 = 0 → okx (zq_I Q) (R_Rd_readPart x1 s) → Cw (d - 1) M_Rd_readPart [.ref 42, .int x1] s Q) (h : okx (zq_I Q) (f_Rd_readPart_b81 R_Rd_readJoined R_Rd_readPart x1 x2 s)) : Xw d M_Rd_readPart 0 0 81 [.ref 42, .int x1, .int x2, .retAddr 0] [] s Q := by
  unfold f_Rd_readPart_b81 at h
  refine xi_iload_n D_Rd_readPart_81 rfl ?_
  refine xj_iconst (v := 5) D_Rd_readPart_82 rfl ?_
  refine xi_icmp_lt D_Rd_readPart_83 (fun c21 => ?_) (fun c21 => ?_)
  · have h := okx_T c21 h
    refine xi_aload_n D_Rd_readPart_92 rfl ?_
    obtain ⟨g22, h⟩ := okx_ck h
    refine xi_getI D_Rd_readPart_93 F_Rd_46 (zl_fo (g22).1 rfl) ⟨rfl, by decide⟩ ?_
    refine xi_istore_n (ls' := [_, _, _, _]) D_Rd_readPart_96 rfl (by decide) ?_
    refine xi_iload_n D_Rd_readPart_97 rfl ?_
    refine xj_iconst (v := 2) D_Rd_readPart_98 rfl ?_
    refine xi_icmp_eq D_Rd_readPart_99 (fun c23 => ?_) (fun c23 => ?_)
    · have h := okx_T c23 h
      exact xk_wk (w_Rd_readPart_b107 (by omega) hR_Rd_readJoined hR_Rd_readPart h) ⟨Or.inl rfl, Or.inr rfl, Or.inl rfl, Or.inl rfl, trivial⟩
    · have h := okx_F c23 h
      refine xi_iload_n D_Rd_readPart_102 rfl ?_
      refine xj_iconst (v := 3) D_Rd_readPart_103 rfl ?_
      refine xi_icmp_ne D_Rd_readPart_104 (fun c24 => ?_) (fun c24 => ?_)
      · have h := okx_F c24 h
        refine xi_aload_n D_Rd_readPart_134 rfl ?_
        refine xj_V0 D_Rd_readPart_135 L_Rd_43 C_Rd_take Z_Rd_take (zl_fo (g22).1 rfl) (Nat.le_of_ble_eq_true rfl) (Nat.le_of_eq (Nat.sub_add_cancel (by omega))) (w_Rd_take (by omega) (okx_mono (okx_bd h) ?_))
        intro r25 s26 h
        show Xw _ _ _ _ 138 _ [] _ _
        refine xi_iload_n D_Rd_readPart_138 rfl ?_
        refine xi_bipush (v := 9) D_Rd_readPart_139 rfl ?_
        refine xi_icmp_ne D_Rd_readPart_141 (fun c27 => ?_) (fun c27 => ?_)
        · have h := okx_F c27 h
          refine xi_aload_n D_Rd_readPart_165 rfl ?_
          refine xj_iconst (v := 0) D_Rd_readPart_166 rfl ?_
          refine xi_iload_n D_Rd_readPart_167 rfl ?_
          refine xj_iconst (v := 1) D_Rd_readPart_168 rfl ?_
          refine xi_iadd D_Rd_readPart_169 ?_
          obtain ⟨g35, h⟩ := okx_ck h
          refine xj_V2 D_Rd_readPart_170 L_Rd_92 C_Rd_readJoined Z_Rd_readJoined (zl_fo (g35).1 rfl) (Nat.le_of_ble_eq_true rfl) (Nat.le_of_eq (Nat.sub_add_cancel (by omega))) (hR_Rd_readJoined (by omega) (okx_mono (okx_bd h) ?_))
          intro r36 s37 h
          show Xw _ _ _ _ 173 _ [_] _ _
          refine xi_if_ne D_Rd_readPart_173 (fun c38 => ?_) (fun c38 => ?_)
          · have h := okx_F c38 h
            refine xi_aload_n D_Rd_readPart_178 rfl ?_
            obtain ⟨g39, h⟩ := okx_ck h
            refine xi_getI D_Rd_readPart_179 F_Rd_46 (zl_fo (g39).1 rfl) ⟨rfl, by decide⟩ ?_
            refine xi_bipush (v := 41) D_Rd_readPart_182 rfl ?_
            refine xi_icmp_eq D_Rd_readPart_184 (fun c40 => ?_) (fun c40 => ?_)
            · have h := okx_T c40 h
              refine xi_aload_n D_Rd_readPart_193 rfl ?_
              refine xj_V0 D_Rd_readPart_194 L_Rd_43 C_Rd_take Z_Rd_take (zl_fo (g39).1 rfl) (Nat.le_of_ble_eq_true rfl) (Nat.le_of_eq (Nat.sub_add_cancel (by omega))) (w_Rd_take (by omega) (okx_mono (okx_bd h) ?_))
              intro r41 s42 h
              show Xw _ _ _ _ 197 _ [] _ _
              refine xj_iconst (v := 1) D_Rd_readPart_197 rfl ?_
              exact xi_ireturn D_Rd_readPart_198 rfl (rfl) (okx_I h)
            · have h := okx_F c40 h
              refine xi_aload_n D_Rd_readPart_187 rfl ?_
              refine xj_iconst (v := 1) D_Rd_readPart_188 rfl ?_
              refine xj_V1 D_Rd_readPart_189 L_Rd_59 C_Rd_wrong Z_Rd_wrong (zl_fo (g39).1 rfl) (Nat.le_of_ble_eq_true rfl) (Nat.le_of_eq (Nat.sub_add_cancel (by omega))) (w_Rd_wrong (by omega) (okx_mono (okx_bd h) ?_))
              intro r43 s44 h
              show Xw _ _ _ _ 192 _ [_] _ _
              obtain ⟨g45, h⟩ := okx_ck h
              exact xi_ireturn D_Rd_readPart_192 rfl (g45) (okx_I h)
          · have h := okx_T c38 h
            refine xj_iconst (v := 0) D_Rd_readPart_176 rfl ?_
            exact xi_ireturn D_Rd_readPart_177 rfl (rfl) (okx_I h)
        · have h := okx_T c27 h
          refine xi_aload_n D_Rd_readPart_144 rfl ?_
          refine xi_iload_n D_Rd_readPart_145 rfl ?_
          refine xj_iconst (v := 1) D_Rd_readPart_146 rfl ?_
          refine xi_iadd D_Rd_readPart_147 ?_
          obtain ⟨g28, h⟩ := okx_ck h
          refine xj_V1 D_Rd_readPart_148 L_Rd_106 C_Rd_readPart Z_Rd_readPart (zl_fo (g28).1 rfl) (Nat.le_of_ble_eq_true rfl) (Nat.le_of_eq (Nat.sub_add_cancel (by omega))) (hR_Rd_readPart (by omega) (okx_mono (okx_bd h) ?_))
          intro r29 s30 h
          show Xw _ _ _ _ 151 _ [_] _ _
          refine xi_if_ne D_Rd_readPart_151 (fun c31 => ?_) (fun c31 => ?_)
          · have h := okx_F c31 h
            refine xi_aload_n D_Rd_readPart_156 rfl ?_
            refine xi_sipush (v := 20009) D_Rd_readPart_157 rfl ?_
            obtain ⟨g32, h⟩ := okx_ck h
            refine xj_V1 D_Rd_readPart_160 L_Rd_113 C_Rd_put Z_Rd_put (zl_fo (g32).1 rfl) (Nat.le_of_ble_eq_true rfl) (Nat.le_of_eq (Nat.sub_add_cancel (by omega))) (w_Rd_put (by omega) (okx_mono (okx_bd h) ?_))
            intro r33 s34 h
            show Xw _ _ _ _ 163 _ [] _ _
            refine xj_iconst (v := 1) D_Rd_readPart_163 rfl ?_
            exact xi_ireturn D_Rd_readPart_164 rfl (rfl) (okx_I h)
          · have h := okx_T c31 h
            refine xj_iconst (v := 0) D_Rd_readPart_154 rfl ?_
            exact xi_ireturn D_Rd_readPart_155 rfl (rfl) (okx_I h)
      · have h := okx_T c24 h
        exact xk_wk (w_Rd_readPart_b107 (by omega) hR_Rd_readJoined hR_Rd_readPart h) ⟨Or.inl rfl, Or.inr rfl, Or.inl rfl, Or.inl rfl, trivial⟩
  · have h := okx_F c21 h
    refine xi_aload_n D_Rd_readPart_86 rfl ?_
    refine xj_iconst (v := 5) D_Rd_readPart_87 rfl ?_
    obtain ⟨g46, h⟩ := okx_ck h
    refine xj_V1 D_Rd_readPart_88 L_Rd_59 C_Rd_wrong Z_Rd_wrong (zl_fo (g46).1 rfl) (Nat.le_of_ble_eq_true rfl) (Nat.le_of_eq (Nat.sub_add_cancel (by omega))) (w_Rd_wrong (by omega) (okx_mono (okx_bd h) ?_))
    intro r47 s48 h
    show Xw _ _ _ _ 91 _ [_] _ _
    obtain ⟨g49, h⟩ := okx_ck h
    exact xi_ireturn D_Rd_readPart_91 rfl (g49) (okx_I h)
noncomputable def f_Rd_readPart_b41 (R_Rd_readJoined : Int32 → Int32 → Sg → Option (Int32 × Sg)) (R_Rd_readPart : Int32 → Sg → Option (Int32 × Sg)) (x1 : Int32) (x2 : Int32) (s : Sg) : Option (Int32 × Sg) :=
  f_ck (zl_B s) <|
  if (mI s 42 4) = 2 then
    f_Rd_readPart_b81 R_Rd_readJoined R_Rd_readPart x1 x2 s
  else
    if (mI s 42 4) = 3 then
      f_Rd_readPart_b81 R_Rd_readJoined R_Rd_readPart x1 x2 s
    else
      if (mI s 42 4) = 9 then
        f_Rd_readPart_b81 R_Rd_readJoined R_Rd_readPart x1 x2 s
      else
        if (mI s 42 4) = 40 then
          f_Rd_readPart_b81 R_Rd_readJoined R_Rd_readPart x1 x2 s
        else
          f_bd (f_Rd_wrong 1 s) fun r18 s19 =>
          f_ck (narrow FieldType.boolean (.int r18) = .int r18) <|
          some (r18, s19)
theorem w_Rd_readPart_b41 {x1 : Int32} {x2 : Int32} {s : Sg} {d : Nat} {Q : Option (Option Value) → Sg → Prop} (hd : 60 ≤ d) {R_Rd_readJoined : Int32 → Int32 → Sg → Option (Int32 × Sg)} {R_Rd_readPart : Int32 → Sg → Option (Int32 × Sg)} (hR_Rd_readJoined : ∀ {x1 x2 : Int32} {s : Sg} {Q : Option (Option Value) → Sg → Prop}, 0 = 0 → okx (zq_I Q) (R_Rd_readJoined x1 x2 s) → Cw (d - 1) M_Rd_readJoined [.ref 42, .int x1, .int x2] s Q) (hR_Rd_readPart : ∀ {x1 : Int32} {s : Sg} {Q : Option (Option Value) → Sg → Prop}, 0 = 0 → okx (zq_I Q) (R_Rd_readPart x1 s) → Cw (d - 1) M_Rd_readPart [.ref 42, .int x1] s Q) (h : okx (zq_I Q) (f_Rd_readPart_b41 R_Rd_readJoined R_Rd_readPart x1 x2 s)) : Xw d M_Rd_readPart 0 0 41 [.ref 42, .int x1, .int x2, .retAddr 0] [] s Q := by
  unfold f_Rd_readPart_b41 at h
  refine xi_aload_n D_Rd_readPart_41 rfl ?_
  obtain ⟨g13, h⟩ := okx_ck h
  refine xi_getI D_Rd_readPart_42 F_Rd_46 (zl_fo (g13).1 rfl) ⟨rfl, by decide⟩ ?_
  refine xj_iconst (v := 2) D_Rd_readPart_45 rfl ?_
  refine xi_icmp_eq D_Rd_readPart_46 (fun c14 => ?_) (fun c14 => ?_)
  · have h := okx_T c14 h
    exact w_Rd_readPart_b81 (by omega) hR_Rd_readJoined hR_Rd_readPart h
  · have h := okx_F c14 h
    refine xi_aload_n D_Rd_readPart_49 rfl ?_
    refine xi_getI D_Rd_readPart_50 F_Rd_46 (zl_fo (g13).1 rfl) ⟨rfl, by decide⟩ ?_
    refine xj_iconst (v := 3) D_Rd_readPart_53 rfl ?_
    refine xi_icmp_eq D_Rd_readPart_54 (fun c15 => ?_) (fun c15 => ?_)
    · have h := okx_T c15 h
      exact w_Rd_readPart_b81 (by omega) hR_Rd_readJoined hR_Rd_readPart h
    · have h := okx_F c15 h
      refine xi_aload_n D_Rd_readPart_57 rfl ?_
      refine xi_getI D_Rd_readPart_58 F_Rd_46 (zl_fo (g13).1 rfl) ⟨rfl, by decide⟩ ?_
      refine xi_bipush (v := 9) D_Rd_readPart_61 rfl ?_
      refine xi_icmp_eq D_Rd_readPart_63 (fun c16 => ?_) (fun c16 => ?_)
      · have h := okx_T c16 h
        exact w_Rd_readPart_b81 (by omega) hR_Rd_readJoined hR_Rd_readPart h
      · have h := okx_F c16 h
        refine xi_aload_n D_Rd_readPart_66 rfl ?_
        refine xi_getI D_Rd_readPart_67 F_Rd_46 (zl_fo (g13).1 rfl) ⟨rfl, by decide⟩ ?_
        refine xi_bipush (v := 40) D_Rd_readPart_70 rfl ?_
        refine xi_icmp_eq D_Rd_readPart_72 (fun c17 => ?_) (fun c17 => ?_)
        · have h := okx_T c17 h
          exact w_Rd_readPart_b81 (by omega) hR_Rd_readJoined hR_Rd_readPart h
        · have h := okx_F c17 h
          refine xi_aload_n D_Rd_readPart_75 rfl ?_
          refine xj_iconst (v := 1) D_Rd_readPart_76 rfl ?_
          refine xj_V1 D_Rd_readPart_77 L_Rd_59 C_Rd_wrong Z_Rd_wrong (zl_fo (g13).1 rfl) (Nat.le_of_ble_eq_true rfl) (Nat.le_of_eq (Nat.sub_add_cancel (by omega))) (w_Rd_wrong (by omega) (okx_mono (okx_bd h) ?_))
          intro r18 s19 h
          show Xw _ _ _ _ 80 _ [_] _ _
          obtain ⟨g20, h⟩ := okx_ck h
          exact xi_ireturn D_Rd_readPart_80 rfl (g20) (okx_I h)
noncomputable def f_Rd_readPart_b16 (R_Rd_readJoined : Int32 → Int32 → Sg → Option (Int32 × Sg)) (R_Rd_readPart : Int32 → Sg → Option (Int32 × Sg)) (x1 : Int32) (y0 : Int32) (s : Sg) : Option (Int32 × Sg) :=
  f_ck (zl_B s) <|
  if (mI s 42 4) = 2 then
    if y0 = (-1) then
      f_Rd_readPart_b35 R_Rd_readJoined R_Rd_readPart  s
    else
      if y0 < 4 then
        f_Rd_readPart_b41 R_Rd_readJoined R_Rd_readPart x1 y0 s
      else
        f_Rd_readPart_b35 R_Rd_readJoined R_Rd_readPart  s
  else
    f_Rd_readPart_b41 R_Rd_readJoined R_Rd_readPart x1 y0 s
theorem w_Rd_readPart_b16 {x1 : Int32} {y0 : Int32} {s : Sg} {d : Nat} {Q : Option (Option Value) → Sg → Prop} (hd : 60 ≤ d) {R_Rd_readJoined : Int32 → Int32 → Sg → Option (Int32 × Sg)} {R_Rd_readPart : Int32 → Sg → Option (Int32 × Sg)} (hR_Rd_readJoined : ∀ {x1 x2 : Int32} {s : Sg} {Q : Option (Option Value) → Sg → Prop}, 0 = 0 → okx (zq_I Q) (R_Rd_readJoined x1 x2 s) → Cw (d - 1) M_Rd_readJoined [.ref 42, .int x1, .int x2] s Q) (hR_Rd_readPart : ∀ {x1 : Int32} {s : Sg} {Q : Option (Option Value) → Sg → Prop}, 0 = 0 → okx (zq_I Q) (R_Rd_readPart x1 s) → Cw (d - 1) M_Rd_readPart [.ref 42, .int x1] s Q) (h : okx (zq_I Q) (f_Rd_readPart_b16 R_Rd_readJoined R_Rd_readPart x1 y0 s)) : Xw d M_Rd_readPart 0 0 16 [.ref 42, .int x1, .retAddr 0, .retAddr 0] [.int y0] s Q := by
  unfold f_Rd_readPart_b16 at h
  refine xi_istore_n (ls' := [_, _, _, _]) D_Rd_readPart_16 rfl (by decide) ?_
  refine xi_aload_n D_Rd_readPart_17 rfl ?_
  obtain ⟨g5, h⟩ := okx_ck h
  refine xi_getI D_Rd_readPart_18 F_Rd_46 (zl_fo (g5).1 rfl) ⟨rfl, by decide⟩ ?_
  refine xj_iconst (v := 2) D_Rd_readPart_21 rfl ?_
  refine xi_icmp_ne D_Rd_readPart_22 (fun c6 => ?_) (fun c6 => ?_)
  · have h := okx_F c6 h
    exact w_Rd_readPart_b41 (by omega) hR_Rd_readJoined hR_Rd_readPart h
  · have h := okx_T c6 h
    refine xi_iload_n D_Rd_readPart_25 rfl ?_
    refine xj_iconst (v := (-1)) D_Rd_readPart_26 rfl ?_
    refine xi_icmp_eq D_Rd_readPart_27 (fun c7 => ?_) (fun c7 => ?_)
    · have h := okx_T c7 h
      exact xk_wk (w_Rd_readPart_b35 (by omega) hR_Rd_readJoined hR_Rd_readPart h) ⟨Or.inl rfl, Or.inr rfl, Or.inr rfl, Or.inl rfl, trivial⟩
    · have h := okx_F c7 h
      refine xi_iload_n D_Rd_readPart_30 rfl ?_
      refine xj_iconst (v := 4) D_Rd_readPart_31 rfl ?_
      refine xi_icmp_lt D_Rd_readPart_32 (fun c8 => ?_) (fun c8 => ?_)
      · have h := okx_T c8 h
        exact w_Rd_readPart_b41 (by omega) hR_Rd_readJoined hR_Rd_readPart h
      · have h := okx_F c8 h
        exact xk_wk (w_Rd_readPart_b35 (by omega) hR_Rd_readJoined hR_Rd_readPart h) ⟨Or.inl rfl, Or.inr rfl, Or.inr rfl, Or.inl rfl, trivial⟩
noncomputable def f_Rd_readPart (R_Rd_readJoined : Int32 → Int32 → Sg → Option (Int32 × Sg)) (R_Rd_readPart : Int32 → Sg → Option (Int32 × Sg)) (x1 : Int32) (s : Sg) : Option (Int32 × Sg) :=
  f_ck (zl_B s) <|
  if (mI s 42 4) = 2 then
    f_bd (f_Rd_whoseName  s) fun r3 s4 =>
    f_Rd_readPart_b16 R_Rd_readJoined R_Rd_readPart x1 r3 s4
  else
    f_Rd_readPart_b16 R_Rd_readJoined R_Rd_readPart x1 (-1) s
theorem w_Rd_readPart {x1 : Int32} {s : Sg} {d : Nat} {Q : Option (Option Value) → Sg → Prop} (hd : 60 ≤ d) {R_Rd_readJoined : Int32 → Int32 → Sg → Option (Int32 × Sg)} {R_Rd_readPart : Int32 → Sg → Option (Int32 × Sg)} (hR_Rd_readJoined : ∀ {x1 x2 : Int32} {s : Sg} {Q : Option (Option Value) → Sg → Prop}, 0 = 0 → okx (zq_I Q) (R_Rd_readJoined x1 x2 s) → Cw (d - 1) M_Rd_readJoined [.ref 42, .int x1, .int x2] s Q) (hR_Rd_readPart : ∀ {x1 : Int32} {s : Sg} {Q : Option (Option Value) → Sg → Prop}, 0 = 0 → okx (zq_I Q) (R_Rd_readPart x1 s) → Cw (d - 1) M_Rd_readPart [.ref 42, .int x1] s Q) (h : okx (zq_I Q) (f_Rd_readPart R_Rd_readJoined R_Rd_readPart x1 s)) : Cw d M_Rd_readPart [.ref 42, .int x1] s Q := by
  refine Cw.of (by decide +kernel) (Nat.le_of_ble_eq_true rfl) ?_
  show Xw d M_Rd_readPart 0 0 0 [.ref 42, .int x1, .retAddr 0, .retAddr 0] [] s _
  unfold f_Rd_readPart at h
  refine xi_aload_n D_Rd_readPart_0 rfl ?_
  obtain ⟨g1, h⟩ := okx_ck h
  refine xi_getI D_Rd_readPart_1 F_Rd_46 (zl_fo (g1).1 rfl) ⟨rfl, by decide⟩ ?_
  refine xj_iconst (v := 2) D_Rd_readPart_4 rfl ?_
  refine xi_icmp_ne D_Rd_readPart_5 (fun c2 => ?_) (fun c2 => ?_)
  · have h := okx_F c2 h
    refine xj_iconst (v := (-1)) D_Rd_readPart_15 rfl ?_
    exact w_Rd_readPart_b16 (by omega) hR_Rd_readJoined hR_Rd_readPart h
  · have h := okx_T c2 h
    refine xi_aload_n D_Rd_readPart_8 rfl ?_
    refine xj_V0 D_Rd_readPart_9 L_Rd_96 C_Rd_whoseName Z_Rd_whoseName (zl_fo (g1).1 rfl) (Nat.le_of_ble_eq_true rfl) (Nat.le_of_eq (Nat.sub_add_cancel (by omega))) (w_Rd_whoseName (by omega) (okx_mono (okx_bd h) ?_))
    intro r3 s4 h
    show Xw _ _ _ _ 12 _ [_] _ _
    refine xi_goto D_Rd_readPart_12 ?_
    exact w_Rd_readPart_b16 (by omega) hR_Rd_readJoined hR_Rd_readPart h
noncomputable def f_Sl_canEncode (x0 : Int32) (s : Sg) : Option (Int32 × Sg) :=
  if x0 < 0 then
    some (0, s)
  else
    if 255 < x0 then
      some (0, s)
    else
      some (1, s)
theorem w_Sl_canEncode {x0 : Int32} {s : Sg} {d : Nat} {Q : Option (Option Value) → Sg → Prop} (hd : 1 ≤ d) (h : okx (zq_I Q) (f_Sl_canEncode x0 s)) : Cw d M_Sl_canEncode [.int x0] s Q := by
  refine Cw.of (by decide +kernel) (Nat.le_of_ble_eq_true rfl) ?_
  show Xw d M_Sl_canEncode 0 0 0 [.int x0] [] s _
  unfold f_Sl_canEncode at h
  refine xi_iload_n D_Sl_canEncode_0 rfl ?_
  refine xi_if_lt D_Sl_canEncode_1 (fun c1 => ?_) (fun c1 => ?_)
  · have h := okx_T c1 h
    refine xj_iconst (v := 0) D_Sl_canEncode_15 rfl ?_
    exact xi_ireturn D_Sl_canEncode_16 rfl (rfl) (okx_I h)
  · have h := okx_F c1 h
    refine xi_iload_n D_Sl_canEncode_4 rfl ?_
    refine xi_sipush (v := 255) D_Sl_canEncode_5 rfl ?_
    refine xi_icmp_gt D_Sl_canEncode_8 (fun c2 => ?_) (fun c2 => ?_)
    · have h := okx_T c2 h
      refine xj_iconst (v := 0) D_Sl_canEncode_15 rfl ?_
      exact xi_ireturn D_Sl_canEncode_16 rfl (rfl) (okx_I h)
    · have h := okx_F c2 h
      refine xj_iconst (v := 1) D_Sl_canEncode_11 rfl ?_
      refine xi_goto D_Sl_canEncode_12 ?_
      exact xi_ireturn D_Sl_canEncode_16 rfl (rfl) (okx_I h)
noncomputable def f_Sl_indexOfChar_b7 (R7 : Int32 → Int32 → Int32 → Sg → Option (Int32 × Sg)) (x3 : Int32) (x4 : Int32) (x5 : Int32) (s : Sg) : Option (Int32 × Sg) :=
  if x3 ≤ x5 then
    some ((-1), s)
  else
    f_ck (vp_in x5 8) <|
    if (mI s 3 (Int32.toNatClampNeg x5)) = x4 then
      some (x5, s)
    else
      R7 x3 x4 (x5 + 1) s
theorem w_Sl_indexOfChar_b7 {x3 : Int32} {x4 : Int32} {x5 : Int32} {s : Sg} {d : Nat} {Q : Option (Option Value) → Sg → Prop} (hd : 1 ≤ d) {R7 : Int32 → Int32 → Int32 → Sg → Option (Int32 × Sg)} (hR7 : ∀ (x3 : Int32) (x4 : Int32) (x5 : Int32) (s : Sg), okx (zq_I Q) (R7 x3 x4 x5 s) → Xw d M_Sl_indexOfChar 0 0 7 [.ref 3, .retAddr 0, .retAddr 0, .int x3, .int x4, .int x5] [] s Q) (h : okx (zq_I Q) (f_Sl_indexOfChar_b7 R7 x3 x4 x5 s)) : Xw d M_Sl_indexOfChar 0 0 7 [.ref 3, .retAddr 0, .retAddr 0, .int x3, .int x4, .int x5] [] s Q := by
  unfold f_Sl_indexOfChar_b7 at h
  refine xi_iload D_Sl_indexOfChar_7 rfl ?_
  refine xi_iload_n D_Sl_indexOfChar_9 rfl ?_
  refine xi_icmp_ge D_Sl_indexOfChar_10 (fun c1 => ?_) (fun c1 => ?_)
  · have h := okx_T c1 h
    refine xj_iconst (v := (-1)) D_Sl_indexOfChar_31 rfl ?_
    exact xi_ireturn D_Sl_indexOfChar_32 rfl (rfl) (okx_I h)
  · have h := okx_F c1 h
    refine xi_aload_n D_Sl_indexOfChar_13 rfl ?_
    refine xi_iload D_Sl_indexOfChar_14 rfl ?_
    obtain ⟨g2, h⟩ := okx_ck h
    refine xi_byld D_Sl_indexOfChar_16 g2 ?_
    refine xi_iload D_Sl_indexOfChar_17 rfl ?_
    refine xi_icmp_ne D_Sl_indexOfChar_19 (fun c3 => ?_) (fun c3 => ?_)
    · have h := okx_F c3 h
      refine xi_iinc (v := _ + 1) (ls' := [_, _, _, _, _, _]) D_Sl_indexOfChar_25 rfl rfl rfl (by decide) ?_
      refine xi_goto D_Sl_indexOfChar_28 ?_
      exact hR7 _ _ _ _ h
    · have h := okx_T c3 h
      refine xi_iload D_Sl_indexOfChar_22 rfl ?_
      exact xi_ireturn D_Sl_indexOfChar_24 rfl (rfl) (okx_I h)
noncomputable def f_Sl_indexOfChar_h7 : Nat → Int32 → Int32 → Int32 → Sg → Option (Int32 × Sg)
  | 0, _, _, _, _ => none
  | n + 1, x3, x4, x5, s => f_Sl_indexOfChar_b7 (f_Sl_indexOfChar_h7 n) x3 x4 x5 s
theorem w_Sl_indexOfChar_h7 {d : Nat} {Q : Option (Option Value) → Sg → Prop} (hd : 1 ≤ d) : ∀ (n : Nat) (x3 : Int32) (x4 : Int32) (x5 : Int32) (s : Sg), okx (zq_I Q) (f_Sl_indexOfChar_h7 n x3 x4 x5 s) → Xw d M_Sl_indexOfChar 0 0 7 [.ref 3, .retAddr 0, .retAddr 0, .int x3, .int x4, .int x5] [] s Q := by
  intro n
  induction n with
  | zero => intro x3 x4 x5 s h; exact okx_no h
  | succ n ih => intro x3 x4 x5 s h; exact w_Sl_indexOfChar_b7 hd  ih  h
noncomputable def f_Sl_indexOfChar (x1 : Int32) (x2 : Int32) (x3 : Int32) (s : Sg) : Option (Int32 × Sg) :=
  f_Sl_indexOfChar_h7  zl_fl x3 ((Int32.toInt8 x1).toInt32) x2 s
theorem w_Sl_indexOfChar {x1 : Int32} {x2 : Int32} {x3 : Int32} {s : Sg} {d : Nat} {Q : Option (Option Value) → Sg → Prop} (hd : 1 ≤ d) (h : okx (zq_I Q) (f_Sl_indexOfChar x1 x2 x3 s)) : Cw d M_Sl_indexOfChar [.ref 3, .int x1, .int x2, .int x3] s Q := by
  refine Cw.of (by decide +kernel) (Nat.le_of_ble_eq_true rfl) ?_
  show Xw d M_Sl_indexOfChar 0 0 0 [.ref 3, .int x1, .int x2, .int x3, .retAddr 0, .retAddr 0] [] s _
  unfold f_Sl_indexOfChar at h
  refine xi_iload_n D_Sl_indexOfChar_0 rfl ?_
  refine xi_i2b D_Sl_indexOfChar_1 ?_
  refine xi_istore (ls' := [_, _, _, _, _, _]) D_Sl_indexOfChar_2 rfl (by decide) ?_
  refine xi_iload_n D_Sl_indexOfChar_4 rfl ?_
  refine xi_istore (ls' := [_, _, _, _, _, _]) D_Sl_indexOfChar_5 rfl (by decide) ?_
  exact xk_wk (w_Sl_indexOfChar_h7 (by omega)  _ _ _ _ _ h) ⟨Or.inl rfl, Or.inr rfl, Or.inr rfl, Or.inl rfl, Or.inl rfl, Or.inl rfl, trivial⟩
noncomputable def f_Sl_indexOf (x1 : Int32) (x2 : Int32) (x3 : Int32) (s : Sg) : Option (Int32 × Sg) :=
  f_bd (f_Sl_canEncode x1 s) fun r1 s2 =>
  if r1 = 0 then
    some ((-1), s2)
  else
    if (if x2 < (0 : Int32) then (0 : Int32) else x2) < (if (8 : Int32) < x3 then (8 : Int32) else x3) then
      f_bd (f_Sl_indexOfChar x1 (if x2 < (0 : Int32) then (0 : Int32) else x2) (if (8 : Int32) < x3 then (8 : Int32) else x3) s2) fun r5 s6 =>
      some (r5, s6)
    else
      some ((-1), s2)
theorem w_Sl_indexOf {x1 : Int32} {x2 : Int32} {x3 : Int32} {s : Sg} {d : Nat} {Q : Option (Option Value) → Sg → Prop} (hd : 2 ≤ d) (h : okx (zq_I Q) (f_Sl_indexOf x1 x2 x3 s)) : Cw d M_Sl_indexOf [.ref 3, .int x1, .int x2, .int x3] s Q := by
  refine Cw.of (by decide +kernel) (Nat.le_of_ble_eq_true rfl) ?_
  show Xw d M_Sl_indexOf 0 0 0 [.ref 3, .int x1, .int x2, .int x3] [] s _
  unfold f_Sl_indexOf at h
  refine xi_iload_n D_Sl_indexOf_0 rfl ?_
  refine xj_S1 D_Sl_indexOf_1 L_Sl_88 C_Sl_canEncode Z_Sl_canEncode (Nat.le_of_ble_eq_true rfl) (Nat.le_of_eq (Nat.sub_add_cancel (by omega))) (w_Sl_canEncode (by omega) (okx_mono (okx_bd h) ?_))
  intro r1 s2 h
  show Xw _ _ _ _ 4 _ [_] _ _
  refine xi_if_ne D_Sl_indexOf_4 (fun c3 => ?_) (fun c3 => ?_)
  · have h := okx_F c3 h
    refine xi_iload_n D_Sl_indexOf_9 rfl ?_
    refine xj_iconst (v := 0) D_Sl_indexOf_10 rfl ?_
    refine xi_maxi D_Sl_indexOf_11 L_Sl_92 ⟨by omega, Nat.le_of_ble_eq_true rfl⟩ ?_
    refine xi_istore_n (ls' := [_, _, _, _]) D_Sl_indexOf_14 rfl (by decide) ?_
    refine xi_iload_n D_Sl_indexOf_15 rfl ?_
    refine xi_aload_n D_Sl_indexOf_16 rfl ?_
    refine xi_bylen D_Sl_indexOf_17 ?_
    refine xi_mini D_Sl_indexOf_18 L_Sl_38 ⟨by omega, Nat.le_of_ble_eq_true rfl⟩ ?_
    refine xi_istore_n (ls' := [_, _, _, _]) D_Sl_indexOf_21 rfl (by decide) ?_
    refine xi_iload_n D_Sl_indexOf_22 rfl ?_
    refine xi_iload_n D_Sl_indexOf_23 rfl ?_
    refine xi_icmp_lt D_Sl_indexOf_24 (fun c4 => ?_) (fun c4 => ?_)
    · have h := okx_T c4 h
      refine xi_aload_n D_Sl_indexOf_29 rfl ?_
      refine xi_iload_n D_Sl_indexOf_30 rfl ?_
      refine xi_iload_n D_Sl_indexOf_31 rfl ?_
      refine xi_iload_n D_Sl_indexOf_32 rfl ?_
      refine xj_S4 D_Sl_indexOf_33 L_Sl_95 C_Sl_indexOfChar Z_Sl_indexOfChar (Nat.le_of_ble_eq_true rfl) (Nat.le_of_eq (Nat.sub_add_cancel (by omega))) (w_Sl_indexOfChar (by omega) (okx_mono (okx_bd h) ?_))
      intro r5 s6 h
      show Xw _ _ _ _ 36 _ [_] _ _
      exact xi_ireturn D_Sl_indexOf_36 rfl (rfl) (okx_I h)
    · have h := okx_F c4 h
      refine xj_iconst (v := (-1)) D_Sl_indexOf_27 rfl ?_
      exact xi_ireturn D_Sl_indexOf_28 rfl (rfl) (okx_I h)
  · have h := okx_T c3 h
    refine xj_iconst (v := (-1)) D_Sl_indexOf_7 rfl ?_
    exact xi_ireturn D_Sl_indexOf_8 rfl (rfl) (okx_I h)
noncomputable def f_St_coder  (s : Sg) : Option (Int32 × Sg) :=
  some (0, s)
theorem w_St_coder {s : Sg} {d : Nat} {Q : Option (Option Value) → Sg → Prop} (hd : 1 ≤ d) (h : okx (zq_I Q) (f_St_coder  s)) : Cw d M_St_coder [.ref 2] s Q := by
  refine Cw.of (by decide +kernel) (Nat.le_of_ble_eq_true rfl) ?_
  show Xw d M_St_coder 0 0 0 [.ref 2] [] s _
  unfold f_St_coder at h
  refine xi_compact D_St_coder_0 F_St_38 ?_
  refine xi_if_eq D_St_coder_3 (fun h9 => absurd h9 (by decide)) (fun _ => ?_)
  refine xi_aload_n D_St_coder_6 rfl ?_
  refine xi_strcod D_St_coder_7 F_St_15 ?_
  refine xi_goto D_St_coder_10 ?_
  exact xi_ireturn D_St_coder_14 rfl (rfl) (okx_I h)
noncomputable def f_St_isLatin1  (s : Sg) : Option (Int32 × Sg) :=
  some (1, s)
theorem w_St_isLatin1 {s : Sg} {d : Nat} {Q : Option (Option Value) → Sg → Prop} (hd : 1 ≤ d) (h : okx (zq_I Q) (f_St_isLatin1  s)) : Cw d M_St_isLatin1 [.ref 2] s Q := by
  refine Cw.of (by decide +kernel) (Nat.le_of_ble_eq_true rfl) ?_
  show Xw d M_St_isLatin1 0 0 0 [.ref 2] [] s _
  unfold f_St_isLatin1 at h
  refine xi_compact D_St_isLatin1_0 F_St_38 ?_
  refine xi_if_eq D_St_isLatin1_3 (fun h9 => absurd h9 (by decide)) (fun _ => ?_)
  refine xi_aload_n D_St_isLatin1_6 rfl ?_
  refine xi_strcod D_St_isLatin1_7 F_St_15 ?_
  refine xi_if_ne D_St_isLatin1_10 (fun h9 => absurd (by decide) h9) (fun _ => ?_)
  refine xj_iconst (v := 1) D_St_isLatin1_13 rfl ?_
  refine xi_goto D_St_isLatin1_14 ?_
  exact xi_ireturn D_St_isLatin1_18 rfl (rfl) (okx_I h)
noncomputable def f_St_length  (s : Sg) : Option (Int32 × Sg) :=
  f_bd (f_St_coder  s) fun r1 s2 =>
  some (((8 : Int32) >>> (r1 &&& 31)), s2)
theorem w_St_length {s : Sg} {d : Nat} {Q : Option (Option Value) → Sg → Prop} (hd : 2 ≤ d) (h : okx (zq_I Q) (f_St_length  s)) : Cw d M_St_length [.ref 2] s Q := by
  refine Cw.of (by decide +kernel) (Nat.le_of_ble_eq_true rfl) ?_
  show Xw d M_St_length 0 0 0 [.ref 2] [] s _
  unfold f_St_length at h
  refine xi_aload_n D_St_length_0 rfl ?_
  refine xi_strval D_St_length_1 F_St_9 ?_
  refine xi_bylen D_St_length_4 ?_
  refine xi_aload_n D_St_length_5 rfl ?_
  refine xj_VS0 D_St_length_6 L_St_335 W_St_coder N_St_coder (by decide) rfl Z_St_coder (Nat.le_of_ble_eq_true rfl) (Nat.le_of_eq (Nat.sub_add_cancel (by omega))) (w_St_coder (by omega) (okx_mono (okx_bd h) ?_))
  intro r1 s2 h
  show Xw _ _ _ _ 9 _ [_, _] _ _
  refine xi_ishr D_St_length_9 ?_
  exact xi_ireturn D_St_length_10 rfl (rfl) (okx_I h)
