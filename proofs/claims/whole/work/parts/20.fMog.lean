/-! by a program of ours (wip/whole/gen/func.py, mkall.py) out of the listing: Mo_readsThing Mo_readsAll Mo_rest Mo_rests Mo_rightPains Mo_right Mo_rightPrice Mo_share Mo_sums Mo_tests -/
noncomputable def f_Mo_readsThing  (s : Sg) : Option (Int32 × Sg) :=
  f_ck (zl_B s) <|
  if (mI s 46 23) = 3 then
    f_bd (f_Mo_fails 5 s) fun r3 s4 =>
    f_ck (narrow FieldType.boolean (.int r3) = .int r3) <|
    some (r3, s4)
  else
    f_bd (f_Mo_nextToken  s) fun r6 s7 =>
    f_ck (zl_B s7) <|
    f_bd (f_Mo_isName  s7) fun r9 s10 =>
    if r9 = 0 then
      f_ck (zl_B s10) <|
      f_bd (f_Mo_fails 1 s10) fun r13 s14 =>
      f_ck (narrow FieldType.boolean (.int r13) = .int r13) <|
      some (r13, s14)
    else
      f_ck (zl_B s10) <|
      f_bd (f_Mo_whose  s10) fun r17 s18 =>
      if r17 < 0 then
        f_ck (zl_B s18) <|
        f_ck (vp_in (11 + (mI s18 46 23)) 14) <|
        let s22 : Sg := uL s18 48 (Int32.toNatClampNeg (11 + (mI s18 46 23))) (mL s18 46 7)
        let s23 : Sg := uI s22 46 23 ((mI s22 46 23) + 1)
        f_bd (f_Mo_nextToken  s23) fun r24 s25 =>
        f_ck (zl_B s25) <|
        f_bd (f_Mo_ends  s25) fun r27 s28 =>
        f_ck (narrow FieldType.boolean (.int r27) = .int r27) <|
        some (r27, s28)
      else
        f_ck (zl_B s18) <|
        f_bd (f_Mo_fails 3 s18) fun r31 s32 =>
        f_ck (narrow FieldType.boolean (.int r31) = .int r31) <|
        some (r31, s32)
theorem w_Mo_readsThing {s : Sg} {d : Nat} {Q : Option (Option Value) → Sg → Prop} (hd : 4 ≤ d) (h : okx (zq_I Q) (f_Mo_readsThing  s)) : Cw d M_Mo_readsThing [.ref 46] s Q := by
  refine Cw.of (by decide +kernel) (Nat.le_of_ble_eq_true rfl) ?_
  show Xw d M_Mo_readsThing 0 0 0 [.ref 46] [] s _
  unfold f_Mo_readsThing at h
  refine xi_aload_n D_Mo_readsThing_0 rfl ?_
  obtain ⟨g1, h⟩ := okx_ck h
  refine xi_getI D_Mo_readsThing_1 F_Mo_179 (zl_fo (g1).1 rfl) ⟨rfl, by decide⟩ ?_
  refine xj_iconst (v := 3) D_Mo_readsThing_4 rfl ?_
  refine xi_icmp_ne D_Mo_readsThing_5 (fun c2 => ?_) (fun c2 => ?_)
  · have h := okx_F c2 h
    refine xi_aload_n D_Mo_readsThing_14 rfl ?_
    refine xj_V0 D_Mo_readsThing_15 L_Mo_204 C_Mo_nextToken Z_Mo_nextToken (zl_fo (g1).1 rfl) (Nat.le_of_ble_eq_true rfl) (Nat.le_of_eq (Nat.sub_add_cancel (by omega))) (w_Mo_nextToken (by omega) (okx_mono (okx_bd h) ?_))
    intro r6 s7 h
    show Xw _ _ _ _ 18 _ [] _ _
    refine xi_aload_n D_Mo_readsThing_18 rfl ?_
    obtain ⟨g8, h⟩ := okx_ck h
    refine xj_V0 D_Mo_readsThing_19 L_Mo_182 C_Mo_isName Z_Mo_isName (zl_fo (g8).1 rfl) (Nat.le_of_ble_eq_true rfl) (Nat.le_of_eq (Nat.sub_add_cancel (by omega))) (w_Mo_isName (by omega) (okx_mono (okx_bd h) ?_))
    intro r9 s10 h
    show Xw _ _ _ _ 22 _ [_] _ _
    refine xi_if_ne D_Mo_readsThing_22 (fun c11 => ?_) (fun c11 => ?_)
    · have h := okx_F c11 h
      refine xi_aload_n D_Mo_readsThing_31 rfl ?_
      obtain ⟨g16, h⟩ := okx_ck h
      refine xj_V0 D_Mo_readsThing_32 L_Mo_185 C_Mo_whose Z_Mo_whose (zl_fo (g16).1 rfl) (Nat.le_of_ble_eq_true rfl) (Nat.le_of_eq (Nat.sub_add_cancel (by omega))) (w_Mo_whose (by omega) (okx_mono (okx_bd h) ?_))
      intro r17 s18 h
      show Xw _ _ _ _ 35 _ [_] _ _
      refine xi_if_lt D_Mo_readsThing_35 (fun c19 => ?_) (fun c19 => ?_)
      · have h := okx_T c19 h
        refine xi_aload_n D_Mo_readsThing_44 rfl ?_
        obtain ⟨g20, h⟩ := okx_ck h
        refine xi_getR D_Mo_readsThing_45 F_Mo_13 (zl_fo (g20).1 rfl) ⟨rfl, by decide⟩ (zl_gr (g20).2 rfl rfl) ?_
        refine xi_bipush (v := 11) D_Mo_readsThing_48 rfl ?_
        refine xi_aload_n D_Mo_readsThing_50 rfl ?_
        refine xi_getI D_Mo_readsThing_51 F_Mo_179 (zl_fo (g20).1 rfl) ⟨rfl, by decide⟩ ?_
        refine xi_iadd D_Mo_readsThing_54 ?_
        refine xi_aload_n D_Mo_readsThing_55 rfl ?_
        refine xi_getL D_Mo_readsThing_56 F_Mo_132 (zl_fo (g20).1 rfl) ⟨rfl, by decide⟩ ?_
        obtain ⟨g21, h⟩ := okx_ck h
        refine xj_last D_Mo_readsThing_59 (zl_fx (g20).1 rfl) (zl_ib (n := 14) rfl (g21)) ?_
        refine xi_aload_n D_Mo_readsThing_60 rfl ?_
        refine xi_dupr D_Mo_readsThing_61 ?_
        refine xi_getI D_Mo_readsThing_62 F_Mo_179 (zl_fo (g20).1 rfl) ⟨rfl, by decide⟩ ?_
        refine xj_iconst (v := 1) D_Mo_readsThing_65 rfl ?_
        refine xi_iadd D_Mo_readsThing_66 ?_
        refine xi_putI D_Mo_readsThing_67 F_Mo_179 (zl_fo (g20).1 rfl) ⟨rfl, by decide, rfl⟩ (⟨rfl, rfl⟩) ?_
        refine xi_aload_n D_Mo_readsThing_70 rfl ?_
        refine xj_V0 D_Mo_readsThing_71 L_Mo_204 C_Mo_nextToken Z_Mo_nextToken (zl_fo (g20).1 rfl) (Nat.le_of_ble_eq_true rfl) (Nat.le_of_eq (Nat.sub_add_cancel (by omega))) (w_Mo_nextToken (by omega) (okx_mono (okx_bd h) ?_))
        intro r24 s25 h
        show Xw _ _ _ _ 74 _ [] _ _
        refine xi_aload_n D_Mo_readsThing_74 rfl ?_
        obtain ⟨g26, h⟩ := okx_ck h
        refine xj_V0 D_Mo_readsThing_75 L_Mo_207 C_Mo_ends Z_Mo_ends (zl_fo (g26).1 rfl) (Nat.le_of_ble_eq_true rfl) (Nat.le_of_eq (Nat.sub_add_cancel (by omega))) (w_Mo_ends (by omega) (okx_mono (okx_bd h) ?_))
        intro r27 s28 h
        show Xw _ _ _ _ 78 _ [_] _ _
        obtain ⟨g29, h⟩ := okx_ck h
        exact xi_ireturn D_Mo_readsThing_78 rfl (g29) (okx_I h)
      · have h := okx_F c19 h
        refine xi_aload_n D_Mo_readsThing_38 rfl ?_
        refine xj_iconst (v := 3) D_Mo_readsThing_39 rfl ?_
        obtain ⟨g30, h⟩ := okx_ck h
        refine xj_V1 D_Mo_readsThing_40 L_Mo_197 C_Mo_fails Z_Mo_fails (zl_fo (g30).1 rfl) (Nat.le_of_ble_eq_true rfl) (Nat.le_of_eq (Nat.sub_add_cancel (by omega))) (w_Mo_fails (by omega) (okx_mono (okx_bd h) ?_))
        intro r31 s32 h
        show Xw _ _ _ _ 43 _ [_] _ _
        obtain ⟨g33, h⟩ := okx_ck h
        exact xi_ireturn D_Mo_readsThing_43 rfl (g33) (okx_I h)
    · have h := okx_T c11 h
      refine xi_aload_n D_Mo_readsThing_25 rfl ?_
      refine xj_iconst (v := 1) D_Mo_readsThing_26 rfl ?_
      obtain ⟨g12, h⟩ := okx_ck h
      refine xj_V1 D_Mo_readsThing_27 L_Mo_197 C_Mo_fails Z_Mo_fails (zl_fo (g12).1 rfl) (Nat.le_of_ble_eq_true rfl) (Nat.le_of_eq (Nat.sub_add_cancel (by omega))) (w_Mo_fails (by omega) (okx_mono (okx_bd h) ?_))
      intro r13 s14 h
      show Xw _ _ _ _ 30 _ [_] _ _
      obtain ⟨g15, h⟩ := okx_ck h
      exact xi_ireturn D_Mo_readsThing_30 rfl (g15) (okx_I h)
  · have h := okx_T c2 h
    refine xi_aload_n D_Mo_readsThing_8 rfl ?_
    refine xj_iconst (v := 5) D_Mo_readsThing_9 rfl ?_
    refine xj_V1 D_Mo_readsThing_10 L_Mo_197 C_Mo_fails Z_Mo_fails (zl_fo (g1).1 rfl) (Nat.le_of_ble_eq_true rfl) (Nat.le_of_eq (Nat.sub_add_cancel (by omega))) (w_Mo_fails (by omega) (okx_mono (okx_bd h) ?_))
    intro r3 s4 h
    show Xw _ _ _ _ 13 _ [_] _ _
    obtain ⟨g5, h⟩ := okx_ck h
    exact xi_ireturn D_Mo_readsThing_13 rfl (g5) (okx_I h)
noncomputable def f_Mo_readsAll_b85  (s : Sg) : Option (Int32 × Sg) :=
  f_ck (zl_B s) <|
  f_bd (f_Mo_fails 1 s) fun r25 s26 =>
  f_ck (narrow FieldType.boolean (.int r25) = .int r25) <|
  some (r25, s26)
theorem w_Mo_readsAll_b85 {s : Sg} {d : Nat} {Q : Option (Option Value) → Sg → Prop} (hd : 5 ≤ d) (h : okx (zq_I Q) (f_Mo_readsAll_b85  s)) : Xw d M_Mo_readsAll 0 0 85 [.ref 46, .retAddr 0, .retAddr 0] [] s Q := by
  unfold f_Mo_readsAll_b85 at h
  refine xi_aload_n D_Mo_readsAll_85 rfl ?_
  refine xj_iconst (v := 1) D_Mo_readsAll_86 rfl ?_
  obtain ⟨g24, h⟩ := okx_ck h
  refine xj_V1 D_Mo_readsAll_87 L_Mo_197 C_Mo_fails Z_Mo_fails (zl_fo (g24).1 rfl) (Nat.le_of_ble_eq_true rfl) (Nat.le_of_eq (Nat.sub_add_cancel (by omega))) (w_Mo_fails (by omega) (okx_mono (okx_bd h) ?_))
  intro r25 s26 h
  show Xw _ _ _ _ 90 _ [_] _ _
  obtain ⟨g27, h⟩ := okx_ck h
  exact xi_ireturn D_Mo_readsAll_90 rfl (g27) (okx_I h)
noncomputable def f_Mo_readsAll_b128 (R44 : Sg → Option (Int32 × Sg))  (s : Sg) : Option (Int32 × Sg) :=
  R44  s
theorem w_Mo_readsAll_b128 {s : Sg} {d : Nat} {Q : Option (Option Value) → Sg → Prop} (hd : 5 ≤ d) {R44 : Sg → Option (Int32 × Sg)} (hR44 : ∀ (s : Sg), okx (zq_I Q) (R44  s) → Xw d M_Mo_readsAll 0 0 44 [.ref 46, .retAddr 0, .retAddr 0] [] s Q) (h : okx (zq_I Q) (f_Mo_readsAll_b128 R44  s)) : Xw d M_Mo_readsAll 0 0 128 [.ref 46, .retAddr 0, .retAddr 0] [] s Q := by
  unfold f_Mo_readsAll_b128 at h
  refine xi_goto D_Mo_readsAll_128 ?_
  exact hR44 _ h
noncomputable def f_Mo_readsAll_b91 (R44 : Sg → Option (Int32 × Sg)) (x1 : Int32) (x2 : Int32) (s : Sg) : Option (Int32 × Sg) :=
  if x1 = 0 then
    if x2 = 0 then
      f_ck (zl_B s) <|
      f_bd (f_Mo_readsLine  s) fun r31 s32 =>
      if r31 = 0 then
        some (0, s32)
      else
        f_Mo_readsAll_b128 R44  s32
    else
      f_ck (zl_B s) <|
      f_bd (f_Mo_readsThing  s) fun r35 s36 =>
      if r35 = 0 then
        some (0, s36)
      else
        f_Mo_readsAll_b128 R44  s36
  else
    f_ck (zl_B s) <|
    f_bd (f_Mo_readsPerson  s) fun r39 s40 =>
    if r39 = 0 then
      some (0, s40)
    else
      f_Mo_readsAll_b128 R44  s40
theorem w_Mo_readsAll_b91 {x1 : Int32} {x2 : Int32} {s : Sg} {d : Nat} {Q : Option (Option Value) → Sg → Prop} (hd : 5 ≤ d) {R44 : Sg → Option (Int32 × Sg)} (hR44 : ∀ (s : Sg), okx (zq_I Q) (R44  s) → Xw d M_Mo_readsAll 0 0 44 [.ref 46, .retAddr 0, .retAddr 0] [] s Q) (h : okx (zq_I Q) (f_Mo_readsAll_b91 R44 x1 x2 s)) : Xw d M_Mo_readsAll 0 0 91 [.ref 46, .int x1, .int x2] [] s Q := by
  unfold f_Mo_readsAll_b91 at h
  refine xi_iload_n D_Mo_readsAll_91 rfl ?_
  refine xi_if_eq D_Mo_readsAll_92 (fun c28 => ?_) (fun c28 => ?_)
  · have h := okx_T c28 h
    refine xi_iload_n D_Mo_readsAll_105 rfl ?_
    refine xi_if_eq D_Mo_readsAll_106 (fun c29 => ?_) (fun c29 => ?_)
    · have h := okx_T c29 h
      refine xi_aload_n D_Mo_readsAll_119 rfl ?_
      obtain ⟨g30, h⟩ := okx_ck h
      refine xj_V0 D_Mo_readsAll_120 L_Mo_222 C_Mo_readsLine Z_Mo_readsLine (zl_fo (g30).1 rfl) (Nat.le_of_ble_eq_true rfl) (Nat.le_of_eq (Nat.sub_add_cancel (by omega))) (w_Mo_readsLine (by omega) (okx_mono (okx_bd h) ?_))
      intro r31 s32 h
      show Xw _ _ _ _ 123 _ [_] _ _
      refine xi_if_ne D_Mo_readsAll_123 (fun c33 => ?_) (fun c33 => ?_)
      · have h := okx_F c33 h
        exact xk_wk (w_Mo_readsAll_b128 (by omega) hR44 h) ⟨Or.inl rfl, Or.inr rfl, Or.inr rfl, trivial⟩
      · have h := okx_T c33 h
        refine xj_iconst (v := 0) D_Mo_readsAll_126 rfl ?_
        exact xi_ireturn D_Mo_readsAll_127 rfl (rfl) (okx_I h)
    · have h := okx_F c29 h
      refine xi_aload_n D_Mo_readsAll_109 rfl ?_
      obtain ⟨g34, h⟩ := okx_ck h
      refine xj_V0 D_Mo_readsAll_110 L_Mo_219 C_Mo_readsThing Z_Mo_readsThing (zl_fo (g34).1 rfl) (Nat.le_of_ble_eq_true rfl) (Nat.le_of_eq (Nat.sub_add_cancel (by omega))) (w_Mo_readsThing (by omega) (okx_mono (okx_bd h) ?_))
      intro r35 s36 h
      show Xw _ _ _ _ 113 _ [_] _ _
      refine xi_if_eq D_Mo_readsAll_113 (fun c37 => ?_) (fun c37 => ?_)
      · have h := okx_T c37 h
        refine xj_iconst (v := 0) D_Mo_readsAll_126 rfl ?_
        exact xi_ireturn D_Mo_readsAll_127 rfl (rfl) (okx_I h)
      · have h := okx_F c37 h
        refine xi_goto D_Mo_readsAll_116 ?_
        exact xk_wk (w_Mo_readsAll_b128 (by omega) hR44 h) ⟨Or.inl rfl, Or.inr rfl, Or.inr rfl, trivial⟩
  · have h := okx_F c28 h
    refine xi_aload_n D_Mo_readsAll_95 rfl ?_
    obtain ⟨g38, h⟩ := okx_ck h
    refine xj_V0 D_Mo_readsAll_96 L_Mo_216 C_Mo_readsPerson Z_Mo_readsPerson (zl_fo (g38).1 rfl) (Nat.le_of_ble_eq_true rfl) (Nat.le_of_eq (Nat.sub_add_cancel (by omega))) (w_Mo_readsPerson (by omega) (okx_mono (okx_bd h) ?_))
    intro r39 s40 h
    show Xw _ _ _ _ 99 _ [_] _ _
    refine xi_if_eq D_Mo_readsAll_99 (fun c41 => ?_) (fun c41 => ?_)
    · have h := okx_T c41 h
      refine xj_iconst (v := 0) D_Mo_readsAll_126 rfl ?_
      exact xi_ireturn D_Mo_readsAll_127 rfl (rfl) (okx_I h)
    · have h := okx_F c41 h
      refine xi_goto D_Mo_readsAll_102 ?_
      exact xk_wk (w_Mo_readsAll_b128 (by omega) hR44 h) ⟨Or.inl rfl, Or.inr rfl, Or.inr rfl, trivial⟩
noncomputable def f_Mo_readsAll_b44 (R44 : Sg → Option (Int32 × Sg))  (s : Sg) : Option (Int32 × Sg) :=
  f_ck (zl_B s) <|
  if (mI s 46 6) = 0 then
    some (1, s)
  else
    f_bd (f_Mo_isWord 232608281 s) fun r13 s14 =>
    f_ck (zl_B s14) <|
    f_bd (f_Mo_isWord 10793230 s14) fun r16 s17 =>
    if r13 = 0 then
      if r16 = 0 then
        f_ck (zl_B s17) <|
        f_bd (f_Mo_isWord 6936589 s17) fun r21 s22 =>
        if r21 = 0 then
          f_Mo_readsAll_b85   s22
        else
          f_Mo_readsAll_b91 R44 r13 r16 s22
      else
        f_Mo_readsAll_b91 R44 r13 r16 s17
    else
      f_Mo_readsAll_b91 R44 r13 r16 s17
theorem w_Mo_readsAll_b44 {s : Sg} {d : Nat} {Q : Option (Option Value) → Sg → Prop} (hd : 5 ≤ d) {R44 : Sg → Option (Int32 × Sg)} (hR44 : ∀ (s : Sg), okx (zq_I Q) (R44  s) → Xw d M_Mo_readsAll 0 0 44 [.ref 46, .retAddr 0, .retAddr 0] [] s Q) (h : okx (zq_I Q) (f_Mo_readsAll_b44 R44  s)) : Xw d M_Mo_readsAll 0 0 44 [.ref 46, .retAddr 0, .retAddr 0] [] s Q := by
  unfold f_Mo_readsAll_b44 at h
  refine xi_aload_n D_Mo_readsAll_44 rfl ?_
  obtain ⟨g11, h⟩ := okx_ck h
  refine xi_getI D_Mo_readsAll_45 F_Mo_139 (zl_fo (g11).1 rfl) ⟨rfl, by decide⟩ ?_
  refine xi_if_eq D_Mo_readsAll_48 (fun c12 => ?_) (fun c12 => ?_)
  · have h := okx_T c12 h
    refine xj_iconst (v := 1) D_Mo_readsAll_131 rfl ?_
    exact xi_ireturn D_Mo_readsAll_132 rfl (rfl) (okx_I h)
  · have h := okx_F c12 h
    refine xi_aload_n D_Mo_readsAll_51 rfl ?_
    refine xi_ldc2 D_Mo_readsAll_52 K_Mo_156 ?_
    refine xj_V1 D_Mo_readsAll_55 L_Mo_189 C_Mo_isWord Z_Mo_isWord (zl_fo (g11).1 rfl) (Nat.le_of_ble_eq_true rfl) (Nat.le_of_eq (Nat.sub_add_cancel (by omega))) (w_Mo_isWord (by omega) (okx_mono (okx_bd h) ?_))
    intro r13 s14 h
    show Xw _ _ _ _ 58 _ [_] _ _
    refine xi_istore_n (ls' := [_, _, _]) D_Mo_readsAll_58 rfl (by decide) ?_
    refine xi_aload_n D_Mo_readsAll_59 rfl ?_
    refine xi_ldc2 D_Mo_readsAll_60 K_Mo_160 ?_
    obtain ⟨g15, h⟩ := okx_ck h
    refine xj_V1 D_Mo_readsAll_63 L_Mo_189 C_Mo_isWord Z_Mo_isWord (zl_fo (g15).1 rfl) (Nat.le_of_ble_eq_true rfl) (Nat.le_of_eq (Nat.sub_add_cancel (by omega))) (w_Mo_isWord (by omega) (okx_mono (okx_bd h) ?_))
    intro r16 s17 h
    show Xw _ _ _ _ 66 _ [_] _ _
    refine xi_istore_n (ls' := [_, _, _]) D_Mo_readsAll_66 rfl (by decide) ?_
    refine xi_iload_n D_Mo_readsAll_67 rfl ?_
    refine xi_if_ne D_Mo_readsAll_68 (fun c18 => ?_) (fun c18 => ?_)
    · have h := okx_F c18 h
      exact w_Mo_readsAll_b91 (by omega) hR44 h
    · have h := okx_T c18 h
      refine xi_iload_n D_Mo_readsAll_71 rfl ?_
      refine xi_if_ne D_Mo_readsAll_72 (fun c19 => ?_) (fun c19 => ?_)
      · have h := okx_F c19 h
        exact w_Mo_readsAll_b91 (by omega) hR44 h
      · have h := okx_T c19 h
        refine xi_aload_n D_Mo_readsAll_75 rfl ?_
        refine xi_ldc2 D_Mo_readsAll_76 K_Mo_162 ?_
        obtain ⟨g20, h⟩ := okx_ck h
        refine xj_V1 D_Mo_readsAll_79 L_Mo_189 C_Mo_isWord Z_Mo_isWord (zl_fo (g20).1 rfl) (Nat.le_of_ble_eq_true rfl) (Nat.le_of_eq (Nat.sub_add_cancel (by omega))) (w_Mo_isWord (by omega) (okx_mono (okx_bd h) ?_))
        intro r21 s22 h
        show Xw _ _ _ _ 82 _ [_] _ _
        refine xi_if_ne D_Mo_readsAll_82 (fun c23 => ?_) (fun c23 => ?_)
        · have h := okx_F c23 h
          exact w_Mo_readsAll_b91 (by omega) hR44 h
        · have h := okx_T c23 h
          exact xk_wk (w_Mo_readsAll_b85 (by omega)  h) ⟨Or.inl rfl, Or.inr rfl, Or.inr rfl, trivial⟩
noncomputable def f_Mo_readsAll_h44 : Nat → Sg → Option (Int32 × Sg)
  | 0, _ => none
  | n + 1, s => f_Mo_readsAll_b44 (f_Mo_readsAll_h44 n)  s
theorem w_Mo_readsAll_h44 {d : Nat} {Q : Option (Option Value) → Sg → Prop} (hd : 5 ≤ d) : ∀ (n : Nat) (s : Sg), okx (zq_I Q) (f_Mo_readsAll_h44 n  s) → Xw d M_Mo_readsAll 0 0 44 [.ref 46, .retAddr 0, .retAddr 0] [] s Q := by
  intro n
  induction n with
  | zero => intro  s h; exact okx_no h
  | succ n ih => intro  s h; exact w_Mo_readsAll_b44 hd  ih  h
noncomputable def f_Mo_readsAll  (s : Sg) : Option (Int32 × Sg) :=
  f_ck (zl_B s) <|
  let s2 : Sg := uI s 46 22 0
  let s3 : Sg := uI s2 46 23 0
  let s4 : Sg := uI s3 46 24 0
  let s5 : Sg := uI s4 46 21 1000
  let s6 : Sg := uI s5 46 3 (mI s5 46 1)
  let s7 : Sg := uI s6 46 1 0
  let s8 : Sg := uI s7 46 4 0
  f_bd (f_Mo_nextToken  s8) fun r9 s10 =>
  f_Mo_readsAll_h44  zl_fl  s10
theorem w_Mo_readsAll {s : Sg} {d : Nat} {Q : Option (Option Value) → Sg → Prop} (hd : 5 ≤ d) (h : okx (zq_I Q) (f_Mo_readsAll  s)) : Cw d M_Mo_readsAll [.ref 46] s Q := by
  refine Cw.of (by decide +kernel) (Nat.le_of_ble_eq_true rfl) ?_
  show Xw d M_Mo_readsAll 0 0 0 [.ref 46, .retAddr 0, .retAddr 0] [] s _
  unfold f_Mo_readsAll at h
  refine xi_aload_n D_Mo_readsAll_0 rfl ?_
  refine xj_iconst (v := 0) D_Mo_readsAll_1 rfl ?_
  obtain ⟨g1, h⟩ := okx_ck h
  refine xi_putI D_Mo_readsAll_2 F_Mo_176 (zl_fo (g1).1 rfl) ⟨rfl, by decide, rfl⟩ (⟨rfl, rfl⟩) ?_
  refine xi_aload_n D_Mo_readsAll_5 rfl ?_
  refine xj_iconst (v := 0) D_Mo_readsAll_6 rfl ?_
  refine xi_putI D_Mo_readsAll_7 F_Mo_179 (zl_fo (g1).1 rfl) ⟨rfl, by decide, rfl⟩ (⟨rfl, rfl⟩) ?_
  refine xi_aload_n D_Mo_readsAll_10 rfl ?_
  refine xj_iconst (v := 0) D_Mo_readsAll_11 rfl ?_
  refine xi_putI D_Mo_readsAll_12 F_Mo_210 (zl_fo (g1).1 rfl) ⟨rfl, by decide, rfl⟩ (⟨rfl, rfl⟩) ?_
  refine xi_aload_n D_Mo_readsAll_15 rfl ?_
  refine xi_sipush (v := 1000) D_Mo_readsAll_16 rfl ?_
  refine xi_putI D_Mo_readsAll_19 F_Mo_153 (zl_fo (g1).1 rfl) ⟨rfl, by decide, rfl⟩ (⟨rfl, rfl⟩) ?_
  refine xi_aload_n D_Mo_readsAll_22 rfl ?_
  refine xi_aload_n D_Mo_readsAll_23 rfl ?_
  refine xi_getI D_Mo_readsAll_24 F_Mo_120 (zl_fo (g1).1 rfl) ⟨rfl, by decide⟩ ?_
  refine xi_putI D_Mo_readsAll_27 F_Mo_123 (zl_fo (g1).1 rfl) ⟨rfl, by decide, rfl⟩ (⟨rfl, rfl⟩) ?_
  refine xi_aload_n D_Mo_readsAll_30 rfl ?_
  refine xj_iconst (v := 0) D_Mo_readsAll_31 rfl ?_
  refine xi_putI D_Mo_readsAll_32 F_Mo_120 (zl_fo (g1).1 rfl) ⟨rfl, by decide, rfl⟩ (⟨rfl, rfl⟩) ?_
  refine xi_aload_n D_Mo_readsAll_35 rfl ?_
  refine xj_iconst (v := 0) D_Mo_readsAll_36 rfl ?_
  refine xi_putI D_Mo_readsAll_37 F_Mo_126 (zl_fo (g1).1 rfl) ⟨rfl, by decide, rfl⟩ (⟨rfl, rfl⟩) ?_
  refine xi_aload_n D_Mo_readsAll_40 rfl ?_
  refine xj_V0 D_Mo_readsAll_41 L_Mo_204 C_Mo_nextToken Z_Mo_nextToken (zl_fo (g1).1 rfl) (Nat.le_of_ble_eq_true rfl) (Nat.le_of_eq (Nat.sub_add_cancel (by omega))) (w_Mo_nextToken (by omega) (okx_mono (okx_bd h) ?_))
  intro r9 s10 h
  show Xw _ _ _ _ 44 _ [] _ _
  exact w_Mo_readsAll_h44 (by omega)  _ _ h
noncomputable def f_Mo_rest_b41 (x1 : Int32) (x2 : Int32) (y1 : Int32) (s : Sg) : Option (Int32 × Sg) :=
  f_ck (zl_B s) <|
  let s14 : Sg := uI s 46 0 y1
  if (mI s14 46 0) = 1 then
    some (0, s14)
  else
    if x1 = 0 then
      some (x2, s14)
    else
      if x1 = 1 then
        some ((mI s14 46 54), s14)
      else
        f_bd (f_Mo_goodOf x2 s14) fun r18 s19 =>
        some (r18, s19)
theorem w_Mo_rest_b41 {x1 : Int32} {x2 : Int32} {y1 : Int32} {s : Sg} {d : Nat} {Q : Option (Option Value) → Sg → Prop} (hd : 11 ≤ d) (h : okx (zq_I Q) (f_Mo_rest_b41 x1 x2 y1 s)) : Xw d M_Mo_rest 0 0 41 [.ref 46, .int x1, .int x2] [.int y1, .ref 46] s Q := by
  unfold f_Mo_rest_b41 at h
  obtain ⟨g13, h⟩ := okx_ck h
  refine xi_putI D_Mo_rest_41 F_Mo_114 (zl_fo (g13).1 rfl) ⟨rfl, by decide, rfl⟩ (⟨rfl, rfl⟩) ?_
  refine xi_aload_n D_Mo_rest_44 rfl ?_
  refine xi_getI D_Mo_rest_45 F_Mo_114 (zl_fo (g13).1 rfl) ⟨rfl, by decide⟩ ?_
  refine xj_iconst (v := 1) D_Mo_rest_48 rfl ?_
  refine xi_icmp_ne D_Mo_rest_49 (fun c15 => ?_) (fun c15 => ?_)
  · have h := okx_F c15 h
    refine xi_iload_n D_Mo_rest_56 rfl ?_
    refine xi_if_ne D_Mo_rest_57 (fun c16 => ?_) (fun c16 => ?_)
    · have h := okx_F c16 h
      refine xi_iload_n D_Mo_rest_64 rfl ?_
      refine xj_iconst (v := 1) D_Mo_rest_65 rfl ?_
      refine xi_icmp_ne D_Mo_rest_66 (fun c17 => ?_) (fun c17 => ?_)
      · have h := okx_F c17 h
        refine xi_aload_n D_Mo_rest_76 rfl ?_
        refine xi_iload_n D_Mo_rest_77 rfl ?_
        refine xj_V1 D_Mo_rest_78 L_Mo_387 C_Mo_goodOf Z_Mo_goodOf (zl_fo (g13).1 rfl) (Nat.le_of_ble_eq_true rfl) (Nat.le_of_eq (Nat.sub_add_cancel (by omega))) (w_Mo_goodOf (by omega) (okx_mono (okx_bd h) ?_))
        intro r18 s19 h
        show Xw _ _ _ _ 81 _ [_] _ _
        exact xi_ireturn D_Mo_rest_81 rfl (rfl) (okx_I h)
      · have h := okx_T c17 h
        refine xi_aload_n D_Mo_rest_69 rfl ?_
        refine xi_getI D_Mo_rest_70 F_Mo_381 (zl_fo (g13).1 rfl) ⟨rfl, by decide⟩ ?_
        refine xi_goto D_Mo_rest_73 ?_
        exact xi_ireturn D_Mo_rest_81 rfl (rfl) (okx_I h)
    · have h := okx_T c16 h
      refine xi_iload_n D_Mo_rest_60 rfl ?_
      refine xi_goto D_Mo_rest_61 ?_
      exact xi_ireturn D_Mo_rest_81 rfl (rfl) (okx_I h)
  · have h := okx_T c15 h
    refine xj_iconst (v := 0) D_Mo_rest_52 rfl ?_
    refine xi_goto D_Mo_rest_53 ?_
    exact xi_ireturn D_Mo_rest_81 rfl (rfl) (okx_I h)
noncomputable def f_Mo_rest_b30 (x1 : Int32) (y0 : Int32) (s : Sg) : Option (Int32 × Sg) :=
  if 0 ≤ y0 then
    f_Mo_rest_b41  x1 y0 0 s
  else
    f_Mo_rest_b41  x1 y0 1 s
theorem w_Mo_rest_b30 {x1 : Int32} {y0 : Int32} {s : Sg} {d : Nat} {Q : Option (Option Value) → Sg → Prop} (hd : 11 ≤ d) (h : okx (zq_I Q) (f_Mo_rest_b30 x1 y0 s)) : Xw d M_Mo_rest 0 0 30 [.ref 46, .int x1, .retAddr 0] [.int y0] s Q := by
  unfold f_Mo_rest_b30 at h
  refine xi_istore_n (ls' := [_, _, _]) D_Mo_rest_30 rfl (by decide) ?_
  refine xi_aload_n D_Mo_rest_31 rfl ?_
  refine xi_iload_n D_Mo_rest_32 rfl ?_
  refine xi_if_ge D_Mo_rest_33 (fun c12 => ?_) (fun c12 => ?_)
  · have h := okx_T c12 h
    refine xj_iconst (v := 0) D_Mo_rest_40 rfl ?_
    exact w_Mo_rest_b41 (by omega)  h
  · have h := okx_F c12 h
    refine xj_iconst (v := 1) D_Mo_rest_36 rfl ?_
    refine xi_goto D_Mo_rest_37 ?_
    exact w_Mo_rest_b41 (by omega)  h
noncomputable def f_Mo_rest_b20 (x1 : Int32) (s : Sg) : Option (Int32 × Sg) :=
  f_Mo_rest_b30  x1 (-1) s
theorem w_Mo_rest_b20 {x1 : Int32} {s : Sg} {d : Nat} {Q : Option (Option Value) → Sg → Prop} (hd : 11 ≤ d) (h : okx (zq_I Q) (f_Mo_rest_b20 x1 s)) : Xw d M_Mo_rest 0 0 20 [.ref 46, .int x1, .retAddr 0] [] s Q := by
  unfold f_Mo_rest_b20 at h
  refine xj_iconst (v := (-1)) D_Mo_rest_20 rfl ?_
  refine xi_goto D_Mo_rest_21 ?_
  exact w_Mo_rest_b30 (by omega)  h
noncomputable def f_Mo_rest (x1 : Int32) (s : Sg) : Option (Int32 × Sg) :=
  f_ck (zl_B s) <|
  f_bd (f_Mo_asItIs  s) fun r2 s3 =>
  f_ck (zl_B s3) <|
  if (mI s3 46 10) = 0 then
    f_Mo_rest_b20  x1 s3
  else
    f_bd (f_Mo_within x1 0 2 s3) fun r6 s7 =>
    if r6 = 0 then
      f_Mo_rest_b20  x1 s7
    else
      f_ck (zl_B s7) <|
      f_bd (f_Mo_turnsOut (-1) 0 s7) fun r10 s11 =>
      f_Mo_rest_b30  x1 r10 s11
theorem w_Mo_rest {x1 : Int32} {s : Sg} {d : Nat} {Q : Option (Option Value) → Sg → Prop} (hd : 11 ≤ d) (h : okx (zq_I Q) (f_Mo_rest x1 s)) : Cw d M_Mo_rest [.ref 46, .int x1] s Q := by
  refine Cw.of (by decide +kernel) (Nat.le_of_ble_eq_true rfl) ?_
  show Xw d M_Mo_rest 0 0 0 [.ref 46, .int x1, .retAddr 0] [] s _
  unfold f_Mo_rest at h
  refine xi_aload_n D_Mo_rest_0 rfl ?_
  obtain ⟨g1, h⟩ := okx_ck h
  refine xj_V0 D_Mo_rest_1 L_Mo_325 C_Mo_asItIs Z_Mo_asItIs (zl_fo (g1).1 rfl) (Nat.le_of_ble_eq_true rfl) (Nat.le_of_eq (Nat.sub_add_cancel (by omega))) (w_Mo_asItIs (by omega) (okx_mono (okx_bd h) ?_))
  intro r2 s3 h
  show Xw _ _ _ _ 4 _ [] _ _
  refine xi_aload_n D_Mo_rest_4 rfl ?_
  obtain ⟨g4, h⟩ := okx_ck h
  refine xi_getI D_Mo_rest_5 F_Mo_234 (zl_fo (g4).1 rfl) ⟨rfl, by decide⟩ ?_
  refine xi_if_eq D_Mo_rest_8 (fun c5 => ?_) (fun c5 => ?_)
  · have h := okx_T c5 h
    exact w_Mo_rest_b20 (by omega)  h
  · have h := okx_F c5 h
    refine xi_iload_n D_Mo_rest_11 rfl ?_
    refine xj_iconst (v := 0) D_Mo_rest_12 rfl ?_
    refine xj_iconst (v := 2) D_Mo_rest_13 rfl ?_
    refine xj_S3 D_Mo_rest_14 L_Mo_268 C_Mo_within Z_Mo_within (Nat.le_of_ble_eq_true rfl) (Nat.le_of_eq (Nat.sub_add_cancel (by omega))) (w_Mo_within (by omega) (okx_mono (okx_bd h) ?_))
    intro r6 s7 h
    show Xw _ _ _ _ 17 _ [_] _ _
    refine xi_if_ne D_Mo_rest_17 (fun c8 => ?_) (fun c8 => ?_)
    · have h := okx_F c8 h
      refine xi_aload_n D_Mo_rest_24 rfl ?_
      refine xj_iconst (v := (-1)) D_Mo_rest_25 rfl ?_
      refine xj_iconst (v := 0) D_Mo_rest_26 rfl ?_
      obtain ⟨g9, h⟩ := okx_ck h
      refine xj_V2 D_Mo_rest_27 L_Mo_384 C_Mo_turnsOut Z_Mo_turnsOut (zl_fo (g9).1 rfl) (Nat.le_of_ble_eq_true rfl) (Nat.le_of_eq (Nat.sub_add_cancel (by omega))) (w_Mo_turnsOut (by omega) (okx_mono (okx_bd h) ?_))
      intro r10 s11 h
      show Xw _ _ _ _ 30 _ [_] _ _
      exact w_Mo_rest_b30 (by omega)  h
    · have h := okx_T c8 h
      exact w_Mo_rest_b20 (by omega)  h
noncomputable def f_Mo_rests_b127 (R37 : Int32 → Int32 → Int32 → Int32 → Int32 → Sg → Option (Int32 × Sg)) (x1 : Int32) (x2 : Int32) (x3 : Int32) (x4 : Int32) (x5 : Int32) (s : Sg) : Option (Int32 × Sg) :=
  R37 x1 x2 x3 x4 (x5 + 1) s
theorem w_Mo_rests_b127 {x1 : Int32} {x2 : Int32} {x3 : Int32} {x4 : Int32} {x5 : Int32} {s : Sg} {d : Nat} {Q : Option (Option Value) → Sg → Prop} (hd : 11 ≤ d) {R37 : Int32 → Int32 → Int32 → Int32 → Int32 → Sg → Option (Int32 × Sg)} (hR37 : ∀ (x1 : Int32) (x2 : Int32) (x3 : Int32) (x4 : Int32) (x5 : Int32) (s : Sg), okx (zq_I Q) (R37 x1 x2 x3 x4 x5 s) → Xw d M_Mo_rests 0 0 37 [.ref 46, .int x1, .int x2, .int x3, .int x4, .int x5] [] s Q) (h : okx (zq_I Q) (f_Mo_rests_b127 R37 x1 x2 x3 x4 x5 s)) : Xw d M_Mo_rests 0 0 127 [.ref 46, .int x1, .int x2, .int x3, .int x4, .int x5] [] s Q := by
  unfold f_Mo_rests_b127 at h
  refine xi_iinc (v := _ + 1) (ls' := [_, _, _, _, _, _]) D_Mo_rests_127 rfl rfl rfl (by decide) ?_
  refine xi_goto D_Mo_rests_130 ?_
  exact hR37 _ _ _ _ _ _ h
noncomputable def f_Mo_rests_b122 (R37 : Int32 → Int32 → Int32 → Int32 → Int32 → Sg → Option (Int32 × Sg)) (x1 : Int32) (x2 : Int32) (x3 : Int32) (x5 : Int32) (y0 : Int32) (s : Sg) : Option (Int32 × Sg) :=
  f_Mo_rests_b127 R37 x1 (x2 + 1) x3 y0 x5 s
theorem w_Mo_rests_b122 {x1 : Int32} {x2 : Int32} {x3 : Int32} {x5 : Int32} {y0 : Int32} {s : Sg} {d : Nat} {Q : Option (Option Value) → Sg → Prop} (hd : 11 ≤ d) {R37 : Int32 → Int32 → Int32 → Int32 → Int32 → Sg → Option (Int32 × Sg)} (hR37 : ∀ (x1 : Int32) (x2 : Int32) (x3 : Int32) (x4 : Int32) (x5 : Int32) (s : Sg), okx (zq_I Q) (R37 x1 x2 x3 x4 x5 s) → Xw d M_Mo_rests 0 0 37 [.ref 46, .int x1, .int x2, .int x3, .int x4, .int x5] [] s Q) (h : okx (zq_I Q) (f_Mo_rests_b122 R37 x1 x2 x3 x5 y0 s)) : Xw d M_Mo_rests 0 0 122 [.ref 46, .int x1, .int x2, .int x3, .retAddr 0, .int x5] [.int y0] s Q := by
  unfold f_Mo_rests_b122 at h
  refine xi_istore (ls' := [_, _, _, _, _, _]) D_Mo_rests_122 rfl (by decide) ?_
  refine xi_iinc (v := _ + 1) (ls' := [_, _, _, _, _, _]) D_Mo_rests_124 rfl rfl rfl (by decide) ?_
  exact w_Mo_rests_b127 (by omega) hR37 h
noncomputable def f_Mo_rests_b115 (R37 : Int32 → Int32 → Int32 → Int32 → Int32 → Sg → Option (Int32 × Sg)) (x1 : Int32) (x2 : Int32) (x3 : Int32) (x5 : Int32) (s : Sg) : Option (Int32 × Sg) :=
  f_Mo_rests_b122 R37 x1 x2 x3 x5 x5 s
theorem w_Mo_rests_b115 {x1 : Int32} {x2 : Int32} {x3 : Int32} {x5 : Int32} {s : Sg} {d : Nat} {Q : Option (Option Value) → Sg → Prop} (hd : 11 ≤ d) {R37 : Int32 → Int32 → Int32 → Int32 → Int32 → Sg → Option (Int32 × Sg)} (hR37 : ∀ (x1 : Int32) (x2 : Int32) (x3 : Int32) (x4 : Int32) (x5 : Int32) (s : Sg), okx (zq_I Q) (R37 x1 x2 x3 x4 x5 s) → Xw d M_Mo_rests 0 0 37 [.ref 46, .int x1, .int x2, .int x3, .int x4, .int x5] [] s Q) (h : okx (zq_I Q) (f_Mo_rests_b115 R37 x1 x2 x3 x5 s)) : Xw d M_Mo_rests 0 0 115 [.ref 46, .int x1, .int x2, .int x3, .retAddr 0, .int x5] [] s Q := by
  unfold f_Mo_rests_b115 at h
  refine xi_iload D_Mo_rests_115 rfl ?_
  refine xi_goto D_Mo_rests_117 ?_
  exact w_Mo_rests_b122 (by omega) hR37 h
noncomputable def f_Mo_rests_b95 (R37 : Int32 → Int32 → Int32 → Int32 → Int32 → Sg → Option (Int32 × Sg)) (x1 : Int32) (x2 : Int32) (x4 : Int32) (x5 : Int32) (y0 : Int32) (s : Sg) : Option (Int32 × Sg) :=
  if x2 = 0 then
    f_Mo_rests_b115 R37 x1 x2 y0 x5 s
  else
    f_ck (zl_B s) <|
    f_bd (f_Mo_goodOf x5 s) fun r29 s30 =>
    f_ck (zl_B s30) <|
    f_bd (f_Mo_goodOf x4 s30) fun r32 s33 =>
    if r29 ≤ r32 then
      f_Mo_rests_b122 R37 x1 x2 y0 x5 x4 s33
    else
      f_Mo_rests_b115 R37 x1 x2 y0 x5 s33
theorem w_Mo_rests_b95 {x1 : Int32} {x2 : Int32} {x4 : Int32} {x5 : Int32} {y0 : Int32} {s : Sg} {d : Nat} {Q : Option (Option Value) → Sg → Prop} (hd : 11 ≤ d) {R37 : Int32 → Int32 → Int32 → Int32 → Int32 → Sg → Option (Int32 × Sg)} (hR37 : ∀ (x1 : Int32) (x2 : Int32) (x3 : Int32) (x4 : Int32) (x5 : Int32) (s : Sg), okx (zq_I Q) (R37 x1 x2 x3 x4 x5 s) → Xw d M_Mo_rests 0 0 37 [.ref 46, .int x1, .int x2, .int x3, .int x4, .int x5] [] s Q) (h : okx (zq_I Q) (f_Mo_rests_b95 R37 x1 x2 x4 x5 y0 s)) : Xw d M_Mo_rests 0 0 95 [.ref 46, .int x1, .int x2, .retAddr 0, .int x4, .int x5] [.int y0] s Q := by
  unfold f_Mo_rests_b95 at h
  refine xi_istore_n (ls' := [_, _, _, _, _, _]) D_Mo_rests_95 rfl (by decide) ?_
  refine xi_iload_n D_Mo_rests_96 rfl ?_
  refine xi_if_eq D_Mo_rests_97 (fun c27 => ?_) (fun c27 => ?_)
  · have h := okx_T c27 h
    exact xk_wk (w_Mo_rests_b115 (by omega) hR37 h) ⟨Or.inl rfl, Or.inl rfl, Or.inl rfl, Or.inl rfl, Or.inr rfl, Or.inl rfl, trivial⟩
  · have h := okx_F c27 h
    refine xi_aload_n D_Mo_rests_100 rfl ?_
    refine xi_iload D_Mo_rests_101 rfl ?_
    obtain ⟨g28, h⟩ := okx_ck h
    refine xj_V1 D_Mo_rests_103 L_Mo_387 C_Mo_goodOf Z_Mo_goodOf (zl_fo (g28).1 rfl) (Nat.le_of_ble_eq_true rfl) (Nat.le_of_eq (Nat.sub_add_cancel (by omega))) (w_Mo_goodOf (by omega) (okx_mono (okx_bd h) ?_))
    intro r29 s30 h
    show Xw _ _ _ _ 106 _ [_] _ _
    refine xi_aload_n D_Mo_rests_106 rfl ?_
    refine xi_iload D_Mo_rests_107 rfl ?_
    obtain ⟨g31, h⟩ := okx_ck h
    refine xj_V1 D_Mo_rests_109 L_Mo_387 C_Mo_goodOf Z_Mo_goodOf (zl_fo (g31).1 rfl) (Nat.le_of_ble_eq_true rfl) (Nat.le_of_eq (Nat.sub_add_cancel (by omega))) (w_Mo_goodOf (by omega) (okx_mono (okx_bd h) ?_))
    intro r32 s33 h
    show Xw _ _ _ _ 112 _ [_, _] _ _
    refine xi_icmp_le D_Mo_rests_112 (fun c34 => ?_) (fun c34 => ?_)
    · have h := okx_T c34 h
      refine xi_iload D_Mo_rests_120 rfl ?_
      exact xk_wk (w_Mo_rests_b122 (by omega) hR37 h) ⟨Or.inl rfl, Or.inl rfl, Or.inl rfl, Or.inl rfl, Or.inr rfl, Or.inl rfl, trivial⟩
    · have h := okx_F c34 h
      exact xk_wk (w_Mo_rests_b115 (by omega) hR37 h) ⟨Or.inl rfl, Or.inl rfl, Or.inl rfl, Or.inl rfl, Or.inr rfl, Or.inl rfl, trivial⟩
noncomputable def f_Mo_rests_b89 (R37 : Int32 → Int32 → Int32 → Int32 → Int32 → Sg → Option (Int32 × Sg)) (x1 : Int32) (x2 : Int32) (x4 : Int32) (x5 : Int32) (s : Sg) : Option (Int32 × Sg) :=
  f_Mo_rests_b95 R37 x1 x2 x4 x5 x5 s
theorem w_Mo_rests_b89 {x1 : Int32} {x2 : Int32} {x4 : Int32} {x5 : Int32} {s : Sg} {d : Nat} {Q : Option (Option Value) → Sg → Prop} (hd : 11 ≤ d) {R37 : Int32 → Int32 → Int32 → Int32 → Int32 → Sg → Option (Int32 × Sg)} (hR37 : ∀ (x1 : Int32) (x2 : Int32) (x3 : Int32) (x4 : Int32) (x5 : Int32) (s : Sg), okx (zq_I Q) (R37 x1 x2 x3 x4 x5 s) → Xw d M_Mo_rests 0 0 37 [.ref 46, .int x1, .int x2, .int x3, .int x4, .int x5] [] s Q) (h : okx (zq_I Q) (f_Mo_rests_b89 R37 x1 x2 x4 x5 s)) : Xw d M_Mo_rests 0 0 89 [.ref 46, .int x1, .int x2, .retAddr 0, .int x4, .int x5] [] s Q := by
  unfold f_Mo_rests_b89 at h
  refine xi_iload D_Mo_rests_89 rfl ?_
  refine xi_goto D_Mo_rests_91 ?_
  exact w_Mo_rests_b95 (by omega) hR37 h
noncomputable def f_Mo_rests_b133 (x1 : Int32) (x2 : Int32) (x3 : Int32) (x4 : Int32) (s : Sg) : Option (Int32 × Sg) :=
  if x1 = 0 then
    some (x2, s)
  else
    if x1 = 1 then
      some (x3, s)
    else
      some (x4, s)
theorem w_Mo_rests_b133 {x1 : Int32} {x2 : Int32} {x3 : Int32} {x4 : Int32} {s : Sg} {d : Nat} {Q : Option (Option Value) → Sg → Prop} (hd : 11 ≤ d) (h : okx (zq_I Q) (f_Mo_rests_b133 x1 x2 x3 x4 s)) : Xw d M_Mo_rests 0 0 133 [.retAddr 0, .int x1, .int x2, .int x3, .int x4, .retAddr 0] [] s Q := by
  unfold f_Mo_rests_b133 at h
  refine xi_iload_n D_Mo_rests_133 rfl ?_
  refine xi_if_ne D_Mo_rests_134 (fun c35 => ?_) (fun c35 => ?_)
  · have h := okx_F c35 h
    refine xi_iload_n D_Mo_rests_141 rfl ?_
    refine xj_iconst (v := 1) D_Mo_rests_142 rfl ?_
    refine xi_icmp_ne D_Mo_rests_143 (fun c36 => ?_) (fun c36 => ?_)
    · have h := okx_F c36 h
      refine xi_iload D_Mo_rests_150 rfl ?_
      exact xi_ireturn D_Mo_rests_152 rfl (rfl) (okx_I h)
    · have h := okx_T c36 h
      refine xi_iload_n D_Mo_rests_146 rfl ?_
      refine xi_goto D_Mo_rests_147 ?_
      exact xi_ireturn D_Mo_rests_152 rfl (rfl) (okx_I h)
  · have h := okx_T c35 h
    refine xi_iload_n D_Mo_rests_137 rfl ?_
    refine xi_goto D_Mo_rests_138 ?_
    exact xi_ireturn D_Mo_rests_152 rfl (rfl) (okx_I h)
noncomputable def f_Mo_rests_b37 (R37 : Int32 → Int32 → Int32 → Int32 → Int32 → Sg → Option (Int32 × Sg)) (x1 : Int32) (x2 : Int32) (x3 : Int32) (x4 : Int32) (x5 : Int32) (s : Sg) : Option (Int32 × Sg) :=
  f_ck (zl_B s) <|
  if ((1 : Int32) <<< ((2 * (mI s 46 10)) &&& 31)) ≤ x5 then
    f_Mo_rests_b133  x1 x2 x3 x4 s
  else
    f_bd (f_Mo_isPains x5 s) fun r12 s13 =>
    if r12 = 0 then
      f_Mo_rests_b127 R37 x1 x2 x3 x4 x5 s13
    else
      f_ck (zl_B s13) <|
      f_bd (f_Mo_areAtRest x5 s13) fun r16 s17 =>
      if r16 = 0 then
        f_Mo_rests_b127 R37 x1 x2 x3 x4 x5 s17
      else
        if x2 = 0 then
          f_Mo_rests_b89 R37 x1 x2 x4 x5 s17
        else
          f_ck (zl_B s17) <|
          f_bd (f_Mo_goodOf x5 s17) fun r21 s22 =>
          f_ck (zl_B s22) <|
          f_bd (f_Mo_goodOf x3 s22) fun r24 s25 =>
          if r24 ≤ r21 then
            f_Mo_rests_b95 R37 x1 x2 x4 x5 x3 s25
          else
            f_Mo_rests_b89 R37 x1 x2 x4 x5 s25
theorem w_Mo_rests_b37 {x1 : Int32} {x2 : Int32} {x3 : Int32} {x4 : Int32} {x5 : Int32} {s : Sg} {d : Nat} {Q : Option (Option Value) → Sg → Prop} (hd : 11 ≤ d) {R37 : Int32 → Int32 → Int32 → Int32 → Int32 → Sg → Option (Int32 × Sg)} (hR37 : ∀ (x1 : Int32) (x2 : Int32) (x3 : Int32) (x4 : Int32) (x5 : Int32) (s : Sg), okx (zq_I Q) (R37 x1 x2 x3 x4 x5 s) → Xw d M_Mo_rests 0 0 37 [.ref 46, .int x1, .int x2, .int x3, .int x4, .int x5] [] s Q) (h : okx (zq_I Q) (f_Mo_rests_b37 R37 x1 x2 x3 x4 x5 s)) : Xw d M_Mo_rests 0 0 37 [.ref 46, .int x1, .int x2, .int x3, .int x4, .int x5] [] s Q := by
  unfold f_Mo_rests_b37 at h
  refine xi_iload D_Mo_rests_37 rfl ?_
  refine xj_iconst (v := 1) D_Mo_rests_39 rfl ?_
  refine xj_iconst (v := 2) D_Mo_rests_40 rfl ?_
  refine xi_aload_n D_Mo_rests_41 rfl ?_
  obtain ⟨g10, h⟩ := okx_ck h
  refine xi_getI D_Mo_rests_42 F_Mo_234 (zl_fo (g10).1 rfl) ⟨rfl, by decide⟩ ?_
  refine xi_imul D_Mo_rests_45 ?_
  refine xi_ishl D_Mo_rests_46 ?_
  refine xi_icmp_ge D_Mo_rests_47 (fun c11 => ?_) (fun c11 => ?_)
  · have h := okx_T c11 h
    exact xk_wk (w_Mo_rests_b133 (by omega)  h) ⟨Or.inr rfl, Or.inl rfl, Or.inl rfl, Or.inl rfl, Or.inl rfl, Or.inr rfl, trivial⟩
  · have h := okx_F c11 h
    refine xi_aload_n D_Mo_rests_50 rfl ?_
    refine xi_iload D_Mo_rests_51 rfl ?_
    refine xj_V1 D_Mo_rests_53 L_Mo_296 C_Mo_isPains Z_Mo_isPains (zl_fo (g10).1 rfl) (Nat.le_of_ble_eq_true rfl) (Nat.le_of_eq (Nat.sub_add_cancel (by omega))) (w_Mo_isPains (by omega) (okx_mono (okx_bd h) ?_))
    intro r12 s13 h
    show Xw _ _ _ _ 56 _ [_] _ _
    refine xi_if_eq D_Mo_rests_56 (fun c14 => ?_) (fun c14 => ?_)
    · have h := okx_T c14 h
      exact w_Mo_rests_b127 (by omega) hR37 h
    · have h := okx_F c14 h
      refine xi_aload_n D_Mo_rests_59 rfl ?_
      refine xi_iload D_Mo_rests_60 rfl ?_
      obtain ⟨g15, h⟩ := okx_ck h
      refine xj_V1 D_Mo_rests_62 L_Mo_378 C_Mo_areAtRest Z_Mo_areAtRest (zl_fo (g15).1 rfl) (Nat.le_of_ble_eq_true rfl) (Nat.le_of_eq (Nat.sub_add_cancel (by omega))) (w_Mo_areAtRest (by omega) (okx_mono (okx_bd h) ?_))
      intro r16 s17 h
      show Xw _ _ _ _ 65 _ [_] _ _
      refine xi_if_ne D_Mo_rests_65 (fun c18 => ?_) (fun c18 => ?_)
      · have h := okx_F c18 h
        refine xi_iload_n D_Mo_rests_71 rfl ?_
        refine xi_if_eq D_Mo_rests_72 (fun c19 => ?_) (fun c19 => ?_)
        · have h := okx_T c19 h
          exact xk_wk (w_Mo_rests_b89 (by omega) hR37 h) ⟨Or.inl rfl, Or.inl rfl, Or.inl rfl, Or.inr rfl, Or.inl rfl, Or.inl rfl, trivial⟩
        · have h := okx_F c19 h
          refine xi_aload_n D_Mo_rests_75 rfl ?_
          refine xi_iload D_Mo_rests_76 rfl ?_
          obtain ⟨g20, h⟩ := okx_ck h
          refine xj_V1 D_Mo_rests_78 L_Mo_387 C_Mo_goodOf Z_Mo_goodOf (zl_fo (g20).1 rfl) (Nat.le_of_ble_eq_true rfl) (Nat.le_of_eq (Nat.sub_add_cancel (by omega))) (w_Mo_goodOf (by omega) (okx_mono (okx_bd h) ?_))
          intro r21 s22 h
          show Xw _ _ _ _ 81 _ [_] _ _
          refine xi_aload_n D_Mo_rests_81 rfl ?_
          refine xi_iload_n D_Mo_rests_82 rfl ?_
          obtain ⟨g23, h⟩ := okx_ck h
          refine xj_V1 D_Mo_rests_83 L_Mo_387 C_Mo_goodOf Z_Mo_goodOf (zl_fo (g23).1 rfl) (Nat.le_of_ble_eq_true rfl) (Nat.le_of_eq (Nat.sub_add_cancel (by omega))) (w_Mo_goodOf (by omega) (okx_mono (okx_bd h) ?_))
          intro r24 s25 h
          show Xw _ _ _ _ 86 _ [_, _] _ _
          refine xi_icmp_ge D_Mo_rests_86 (fun c26 => ?_) (fun c26 => ?_)
          · have h := okx_T c26 h
            refine xi_iload_n D_Mo_rests_94 rfl ?_
            exact xk_wk (w_Mo_rests_b95 (by omega) hR37 h) ⟨Or.inl rfl, Or.inl rfl, Or.inl rfl, Or.inr rfl, Or.inl rfl, Or.inl rfl, trivial⟩
          · have h := okx_F c26 h
            exact xk_wk (w_Mo_rests_b89 (by omega) hR37 h) ⟨Or.inl rfl, Or.inl rfl, Or.inl rfl, Or.inr rfl, Or.inl rfl, Or.inl rfl, trivial⟩
      · have h := okx_T c18 h
        refine xi_goto D_Mo_rests_68 ?_
        exact w_Mo_rests_b127 (by omega) hR37 h
noncomputable def f_Mo_rests_h37 : Nat → Int32 → Int32 → Int32 → Int32 → Int32 → Sg → Option (Int32 × Sg)
  | 0, _, _, _, _, _, _ => none
  | n + 1, x1, x2, x3, x4, x5, s => f_Mo_rests_b37 (f_Mo_rests_h37 n) x1 x2 x3 x4 x5 s
theorem w_Mo_rests_h37 {d : Nat} {Q : Option (Option Value) → Sg → Prop} (hd : 11 ≤ d) : ∀ (n : Nat) (x1 : Int32) (x2 : Int32) (x3 : Int32) (x4 : Int32) (x5 : Int32) (s : Sg), okx (zq_I Q) (f_Mo_rests_h37 n x1 x2 x3 x4 x5 s) → Xw d M_Mo_rests 0 0 37 [.ref 46, .int x1, .int x2, .int x3, .int x4, .int x5] [] s Q := by
  intro n
  induction n with
  | zero => intro x1 x2 x3 x4 x5 s h; exact okx_no h
  | succ n ih => intro x1 x2 x3 x4 x5 s h; exact w_Mo_rests_b37 hd  ih  h
noncomputable def f_Mo_rests (x1 : Int32) (s : Sg) : Option (Int32 × Sg) :=
  f_ck (zl_B s) <|
  let s2 : Sg := uI s 46 0 0
  if (mI s2 46 10) = 0 then
    some ((-1), s2)
  else
    f_bd (f_Mo_within x1 0 2 s2) fun r4 s5 =>
    if r4 = 0 then
      some ((-1), s5)
    else
      f_ck (zl_B s5) <|
      f_bd (f_Mo_asItIs  s5) fun r8 s9 =>
      f_Mo_rests_h37  zl_fl x1 0 (-1) (-1) 0 s9
theorem w_Mo_rests {x1 : Int32} {s : Sg} {d : Nat} {Q : Option (Option Value) → Sg → Prop} (hd : 11 ≤ d) (h : okx (zq_I Q) (f_Mo_rests x1 s)) : Cw d M_Mo_rests [.ref 46, .int x1] s Q := by
  refine Cw.of (by decide +kernel) (Nat.le_of_ble_eq_true rfl) ?_
  show Xw d M_Mo_rests 0 0 0 [.ref 46, .int x1, .retAddr 0, .retAddr 0, .retAddr 0, .retAddr 0] [] s _
  unfold f_Mo_rests at h
  refine xi_aload_n D_Mo_rests_0 rfl ?_
  refine xj_iconst (v := 0) D_Mo_rests_1 rfl ?_
  obtain ⟨g1, h⟩ := okx_ck h
  refine xi_putI D_Mo_rests_2 F_Mo_114 (zl_fo (g1).1 rfl) ⟨rfl, by decide, rfl⟩ (⟨rfl, rfl⟩) ?_
  refine xi_aload_n D_Mo_rests_5 rfl ?_
  refine xi_getI D_Mo_rests_6 F_Mo_234 (zl_fo (g1).1 rfl) ⟨rfl, by decide⟩ ?_
  refine xi_if_eq D_Mo_rests_9 (fun c3 => ?_) (fun c3 => ?_)
  · have h := okx_T c3 h
    refine xj_iconst (v := (-1)) D_Mo_rests_21 rfl ?_
    exact xi_ireturn D_Mo_rests_22 rfl (rfl) (okx_I h)
  · have h := okx_F c3 h
    refine xi_iload_n D_Mo_rests_12 rfl ?_
    refine xj_iconst (v := 0) D_Mo_rests_13 rfl ?_
    refine xj_iconst (v := 2) D_Mo_rests_14 rfl ?_
    refine xj_S3 D_Mo_rests_15 L_Mo_268 C_Mo_within Z_Mo_within (Nat.le_of_ble_eq_true rfl) (Nat.le_of_eq (Nat.sub_add_cancel (by omega))) (w_Mo_within (by omega) (okx_mono (okx_bd h) ?_))
    intro r4 s5 h
    show Xw _ _ _ _ 18 _ [_] _ _
    refine xi_if_ne D_Mo_rests_18 (fun c6 => ?_) (fun c6 => ?_)
    · have h := okx_F c6 h
      refine xi_aload_n D_Mo_rests_23 rfl ?_
      obtain ⟨g7, h⟩ := okx_ck h
      refine xj_V0 D_Mo_rests_24 L_Mo_325 C_Mo_asItIs Z_Mo_asItIs (zl_fo (g7).1 rfl) (Nat.le_of_ble_eq_true rfl) (Nat.le_of_eq (Nat.sub_add_cancel (by omega))) (w_Mo_asItIs (by omega) (okx_mono (okx_bd h) ?_))
      intro r8 s9 h
      show Xw _ _ _ _ 27 _ [] _ _
      refine xj_iconst (v := 0) D_Mo_rests_27 rfl ?_
      refine xi_istore_n (ls' := [_, _, _, _, _, _]) D_Mo_rests_28 rfl (by decide) ?_
      refine xj_iconst (v := (-1)) D_Mo_rests_29 rfl ?_
      refine xi_istore_n (ls' := [_, _, _, _, _, _]) D_Mo_rests_30 rfl (by decide) ?_
      refine xj_iconst (v := (-1)) D_Mo_rests_31 rfl ?_
      refine xi_istore (ls' := [_, _, _, _, _, _]) D_Mo_rests_32 rfl (by decide) ?_
      refine xj_iconst (v := 0) D_Mo_rests_34 rfl ?_
      refine xi_istore (ls' := [_, _, _, _, _, _]) D_Mo_rests_35 rfl (by decide) ?_
      exact w_Mo_rests_h37 (by omega)  _ _ _ _ _ _ _ h
    · have h := okx_T c6 h
      refine xj_iconst (v := (-1)) D_Mo_rests_21 rfl ?_
      exact xi_ireturn D_Mo_rests_22 rfl (rfl) (okx_I h)
noncomputable def f_Mo_rightPains (x1 : Int32) (x2 : Int32) (x3 : Int32) (s : Sg) : Option (Int32 × Sg) :=
  f_ck (zl_B s) <|
  f_bd (f_Mo_asItIs  s) fun r2 s3 =>
  f_ck (zl_B s3) <|
  f_bd (f_Mo_laysAll 6 s3) fun r5 s6 =>
  f_ck (zl_B s6) <|
  f_bd (f_Mo_lays 6 x1 ((1 : Int32) <<< (x2 &&& 31)) 1 s6) fun r8 s9 =>
  f_ck (zl_B s9) <|
  let s11 : Sg := uI s9 46 50 1
  let s12 : Sg := uI s11 46 51 x2
  let s13 : Sg := uI s12 46 52 x1
  let s14 : Sg := uL s13 46 53 ((240 : Int64) * (Int32.toInt64 x3))
  f_bd (f_Mo_turnsOut (-1) 0 s14) fun r15 s16 =>
  some (r15, s16)
theorem w_Mo_rightPains {x1 : Int32} {x2 : Int32} {x3 : Int32} {s : Sg} {d : Nat} {Q : Option (Option Value) → Sg → Prop} (hd : 11 ≤ d) (h : okx (zq_I Q) (f_Mo_rightPains x1 x2 x3 s)) : Cw d M_Mo_rightPains [.ref 46, .int x1, .int x2, .int x3] s Q := by
  refine Cw.of (by decide +kernel) (Nat.le_of_ble_eq_true rfl) ?_
  show Xw d M_Mo_rightPains 0 0 0 [.ref 46, .int x1, .int x2, .int x3] [] s _
  unfold f_Mo_rightPains at h
  refine xi_aload_n D_Mo_rightPains_0 rfl ?_
  obtain ⟨g1, h⟩ := okx_ck h
  refine xj_V0 D_Mo_rightPains_1 L_Mo_325 C_Mo_asItIs Z_Mo_asItIs (zl_fo (g1).1 rfl) (Nat.le_of_ble_eq_true rfl) (Nat.le_of_eq (Nat.sub_add_cancel (by omega))) (w_Mo_asItIs (by omega) (okx_mono (okx_bd h) ?_))
  intro r2 s3 h
  show Xw _ _ _ _ 4 _ [] _ _
  refine xi_aload_n D_Mo_rightPains_4 rfl ?_
  refine xi_bipush (v := 6) D_Mo_rightPains_5 rfl ?_
  obtain ⟨g4, h⟩ := okx_ck h
  refine xj_V1 D_Mo_rightPains_7 L_Mo_322 C_Mo_laysAll Z_Mo_laysAll (zl_fo (g4).1 rfl) (Nat.le_of_ble_eq_true rfl) (Nat.le_of_eq (Nat.sub_add_cancel (by omega))) (w_Mo_laysAll (by omega) (okx_mono (okx_bd h) ?_))
  intro r5 s6 h
  show Xw _ _ _ _ 10 _ [] _ _
  refine xi_aload_n D_Mo_rightPains_10 rfl ?_
  refine xi_bipush (v := 6) D_Mo_rightPains_11 rfl ?_
  refine xi_iload_n D_Mo_rightPains_13 rfl ?_
  refine xj_iconst (v := 1) D_Mo_rightPains_14 rfl ?_
  refine xi_iload_n D_Mo_rightPains_15 rfl ?_
  refine xi_ishl D_Mo_rightPains_16 ?_
  refine xj_iconst (v := 1) D_Mo_rightPains_17 rfl ?_
  obtain ⟨g7, h⟩ := okx_ck h
  refine xj_V4 D_Mo_rightPains_18 L_Mo_312 C_Mo_lays Z_Mo_lays (zl_fo (g7).1 rfl) (Nat.le_of_ble_eq_true rfl) (Nat.le_of_eq (Nat.sub_add_cancel (by omega))) (w_Mo_lays (by omega) (okx_mono (okx_bd h) ?_))
  intro r8 s9 h
  show Xw _ _ _ _ 21 _ [] _ _
  refine xi_aload_n D_Mo_rightPains_21 rfl ?_
  refine xj_iconst (v := 1) D_Mo_rightPains_22 rfl ?_
  obtain ⟨g10, h⟩ := okx_ck h
  refine xi_putI D_Mo_rightPains_23 F_Mo_319 (zl_fo (g10).1 rfl) ⟨rfl, by decide, rfl⟩ (⟨rfl, rfl⟩) ?_
  refine xi_aload_n D_Mo_rightPains_26 rfl ?_
  refine xi_iload_n D_Mo_rightPains_27 rfl ?_
  refine xi_putI D_Mo_rightPains_28 F_Mo_352 (zl_fo (g10).1 rfl) ⟨rfl, by decide, rfl⟩ (⟨rfl, rfl⟩) ?_
  refine xi_aload_n D_Mo_rightPains_31 rfl ?_
  refine xi_iload_n D_Mo_rightPains_32 rfl ?_
  refine xi_putI D_Mo_rightPains_33 F_Mo_349 (zl_fo (g10).1 rfl) ⟨rfl, by decide, rfl⟩ (⟨rfl, rfl⟩) ?_
  refine xi_aload_n D_Mo_rightPains_36 rfl ?_
  refine xi_ldc2 D_Mo_rightPains_37 K_Mo_343 ?_
  refine xi_iload_n D_Mo_rightPains_40 rfl ?_
  refine xi_i2l D_Mo_rightPains_41 ?_
  refine xi_lmul D_Mo_rightPains_42 ?_
  refine xi_putL D_Mo_rightPains_43 F_Mo_355 (zl_fo (g10).1 rfl) ⟨rfl, by decide, rfl⟩ rfl ?_
  refine xi_aload_n D_Mo_rightPains_46 rfl ?_
  refine xj_iconst (v := (-1)) D_Mo_rightPains_47 rfl ?_
  refine xj_iconst (v := 0) D_Mo_rightPains_48 rfl ?_
  refine xj_V2 D_Mo_rightPains_49 L_Mo_384 C_Mo_turnsOut Z_Mo_turnsOut (zl_fo (g10).1 rfl) (Nat.le_of_ble_eq_true rfl) (Nat.le_of_eq (Nat.sub_add_cancel (by omega))) (w_Mo_turnsOut (by omega) (okx_mono (okx_bd h) ?_))
  intro r15 s16 h
  show Xw _ _ _ _ 52 _ [_] _ _
  exact xi_ireturn D_Mo_rightPains_52 rfl (rfl) (okx_I h)
noncomputable def f_Mo_right_b76 (x4 : Int32) (x5 : Int32) (y1 : Int32) (s : Sg) : Option (Int32 × Sg) :=
  f_ck (zl_B s) <|
  let s22 : Sg := uI s 46 0 y1
  if (mI s22 46 0) = 1 then
    some (0, s22)
  else
    if x4 = 0 then
      some (x5, s22)
    else
      if x4 = 1 then
        f_bd (f_Mo_goodOf x5 s22) fun r26 s27 =>
        some (r26, s27)
      else
        f_bd (f_Mo_isBought x5 s22) fun r28 s29 =>
        if r28 = 0 then
          some (0, s29)
        else
          some (1, s29)
theorem w_Mo_right_b76 {x4 : Int32} {x5 : Int32} {y1 : Int32} {s : Sg} {d : Nat} {Q : Option (Option Value) → Sg → Prop} (hd : 12 ≤ d) (h : okx (zq_I Q) (f_Mo_right_b76 x4 x5 y1 s)) : Xw d M_Mo_right 0 0 76 [.ref 46, .retAddr 0, .retAddr 0, .retAddr 0, .int x4, .int x5] [.int y1, .ref 46] s Q := by
  unfold f_Mo_right_b76 at h
  obtain ⟨g21, h⟩ := okx_ck h
  refine xi_putI D_Mo_right_76 F_Mo_114 (zl_fo (g21).1 rfl) ⟨rfl, by decide, rfl⟩ (⟨rfl, rfl⟩) ?_
  refine xi_aload_n D_Mo_right_79 rfl ?_
  refine xi_getI D_Mo_right_80 F_Mo_114 (zl_fo (g21).1 rfl) ⟨rfl, by decide⟩ ?_
  refine xj_iconst (v := 1) D_Mo_right_83 rfl ?_
  refine xi_icmp_ne D_Mo_right_84 (fun c23 => ?_) (fun c23 => ?_)
  · have h := okx_F c23 h
    refine xi_iload D_Mo_right_91 rfl ?_
    refine xi_if_ne D_Mo_right_93 (fun c24 => ?_) (fun c24 => ?_)
    · have h := okx_F c24 h
      refine xi_iload D_Mo_right_101 rfl ?_
      refine xj_iconst (v := 1) D_Mo_right_103 rfl ?_
      refine xi_icmp_ne D_Mo_right_104 (fun c25 => ?_) (fun c25 => ?_)
      · have h := okx_F c25 h
        refine xi_aload_n D_Mo_right_116 rfl ?_
        refine xi_iload D_Mo_right_117 rfl ?_
        refine xj_V1 D_Mo_right_119 L_Mo_358 C_Mo_isBought Z_Mo_isBought (zl_fo (g21).1 rfl) (Nat.le_of_ble_eq_true rfl) (Nat.le_of_eq (Nat.sub_add_cancel (by omega))) (w_Mo_isBought (by omega) (okx_mono (okx_bd h) ?_))
        intro r28 s29 h
        show Xw _ _ _ _ 122 _ [_] _ _
        refine xi_if_eq D_Mo_right_122 (fun c30 => ?_) (fun c30 => ?_)
        · have h := okx_T c30 h
          refine xj_iconst (v := 0) D_Mo_right_129 rfl ?_
          exact xi_ireturn D_Mo_right_130 rfl (rfl) (okx_I h)
        · have h := okx_F c30 h
          refine xj_iconst (v := 1) D_Mo_right_125 rfl ?_
          refine xi_goto D_Mo_right_126 ?_
          exact xi_ireturn D_Mo_right_130 rfl (rfl) (okx_I h)
      · have h := okx_T c25 h
        refine xi_aload_n D_Mo_right_107 rfl ?_
        refine xi_iload D_Mo_right_108 rfl ?_
        refine xj_V1 D_Mo_right_110 L_Mo_387 C_Mo_goodOf Z_Mo_goodOf (zl_fo (g21).1 rfl) (Nat.le_of_ble_eq_true rfl) (Nat.le_of_eq (Nat.sub_add_cancel (by omega))) (w_Mo_goodOf (by omega) (okx_mono (okx_bd h) ?_))
        intro r26 s27 h
        show Xw _ _ _ _ 113 _ [_] _ _
        refine xi_goto D_Mo_right_113 ?_
        exact xi_ireturn D_Mo_right_130 rfl (rfl) (okx_I h)
    · have h := okx_T c24 h
      refine xi_iload D_Mo_right_96 rfl ?_
      refine xi_goto D_Mo_right_98 ?_
      exact xi_ireturn D_Mo_right_130 rfl (rfl) (okx_I h)
  · have h := okx_T c23 h
    refine xj_iconst (v := 0) D_Mo_right_87 rfl ?_
    refine xi_goto D_Mo_right_88 ?_
    exact xi_ireturn D_Mo_right_130 rfl (rfl) (okx_I h)
noncomputable def f_Mo_right_b43 (x1 : Int32) (x2 : Int32) (x3 : Int32) (x4 : Int32) (y1 : Int32) (s : Sg) : Option (Int32 × Sg) :=
  f_ck (zl_B s) <|
  let s16 : Sg := uI s 46 0 y1
  if (mI s16 46 0) = 1 then
    some (0, s16)
  else
    f_bd (f_Mo_rightPains x1 x2 x3 s16) fun r18 s19 =>
    if 0 ≤ r18 then
      f_Mo_right_b76  x4 r18 0 s19
    else
      f_Mo_right_b76  x4 r18 1 s19
theorem w_Mo_right_b43 {x1 : Int32} {x2 : Int32} {x3 : Int32} {x4 : Int32} {y1 : Int32} {s : Sg} {d : Nat} {Q : Option (Option Value) → Sg → Prop} (hd : 12 ≤ d) (h : okx (zq_I Q) (f_Mo_right_b43 x1 x2 x3 x4 y1 s)) : Xw d M_Mo_right 0 0 43 [.ref 46, .int x1, .int x2, .int x3, .int x4, .retAddr 0] [.int y1, .ref 46] s Q := by
  unfold f_Mo_right_b43 at h
  obtain ⟨g15, h⟩ := okx_ck h
  refine xi_putI D_Mo_right_43 F_Mo_114 (zl_fo (g15).1 rfl) ⟨rfl, by decide, rfl⟩ (⟨rfl, rfl⟩) ?_
  refine xi_aload_n D_Mo_right_46 rfl ?_
  refine xi_getI D_Mo_right_47 F_Mo_114 (zl_fo (g15).1 rfl) ⟨rfl, by decide⟩ ?_
  refine xj_iconst (v := 1) D_Mo_right_50 rfl ?_
  refine xi_icmp_ne D_Mo_right_51 (fun c17 => ?_) (fun c17 => ?_)
  · have h := okx_F c17 h
    refine xi_aload_n D_Mo_right_56 rfl ?_
    refine xi_iload_n D_Mo_right_57 rfl ?_
    refine xi_iload_n D_Mo_right_58 rfl ?_
    refine xi_iload_n D_Mo_right_59 rfl ?_
    refine xj_V3 D_Mo_right_60 L_Mo_423 C_Mo_rightPains Z_Mo_rightPains (zl_fo (g15).1 rfl) (Nat.le_of_ble_eq_true rfl) (Nat.le_of_eq (Nat.sub_add_cancel (by omega))) (w_Mo_rightPains (by omega) (okx_mono (okx_bd h) ?_))
    intro r18 s19 h
    show Xw _ _ _ _ 63 _ [_] _ _
    refine xi_istore (ls' := [_, _, _, _, _, _]) D_Mo_right_63 rfl (by decide) ?_
    refine xi_aload_n D_Mo_right_65 rfl ?_
    refine xi_iload D_Mo_right_66 rfl ?_
    refine xi_if_ge D_Mo_right_68 (fun c20 => ?_) (fun c20 => ?_)
    · have h := okx_T c20 h
      refine xj_iconst (v := 0) D_Mo_right_75 rfl ?_
      exact xk_wk (w_Mo_right_b76 (by omega)  h) ⟨Or.inl rfl, Or.inr rfl, Or.inr rfl, Or.inr rfl, Or.inl rfl, Or.inl rfl, trivial⟩
    · have h := okx_F c20 h
      refine xj_iconst (v := 1) D_Mo_right_71 rfl ?_
      refine xi_goto D_Mo_right_72 ?_
      exact xk_wk (w_Mo_right_b76 (by omega)  h) ⟨Or.inl rfl, Or.inr rfl, Or.inr rfl, Or.inr rfl, Or.inl rfl, Or.inl rfl, trivial⟩
  · have h := okx_T c17 h
    refine xj_iconst (v := 0) D_Mo_right_54 rfl ?_
    exact xi_ireturn D_Mo_right_55 rfl (rfl) (okx_I h)
noncomputable def f_Mo_right_b42 (x1 : Int32) (x2 : Int32) (x3 : Int32) (x4 : Int32) (s : Sg) : Option (Int32 × Sg) :=
  f_Mo_right_b43  x1 x2 x3 x4 1 s
theorem w_Mo_right_b42 {x1 : Int32} {x2 : Int32} {x3 : Int32} {x4 : Int32} {s : Sg} {d : Nat} {Q : Option (Option Value) → Sg → Prop} (hd : 12 ≤ d) (h : okx (zq_I Q) (f_Mo_right_b42 x1 x2 x3 x4 s)) : Xw d M_Mo_right 0 0 42 [.ref 46, .int x1, .int x2, .int x3, .int x4, .retAddr 0] [.ref 46] s Q := by
  unfold f_Mo_right_b42 at h
  refine xj_iconst (v := 1) D_Mo_right_42 rfl ?_
  exact w_Mo_right_b43 (by omega)  h
noncomputable def f_Mo_right (x1 : Int32) (x2 : Int32) (x3 : Int32) (x4 : Int32) (s : Sg) : Option (Int32 × Sg) :=
  f_ck (zl_B s) <|
  f_bd (f_Mo_isThing x1 s) fun r2 s3 =>
  if r2 = 0 then
    f_Mo_right_b42  x1 x2 x3 x4 s3
  else
    f_ck (zl_B s3) <|
    f_bd (f_Mo_isPerson x2 s3) fun r6 s7 =>
    if r6 = 0 then
      f_Mo_right_b42  x1 x2 x3 x4 s7
    else
      f_bd (f_Mo_within x3 0 9999 s7) fun r9 s10 =>
      if r9 = 0 then
        f_Mo_right_b42  x1 x2 x3 x4 s10
      else
        f_bd (f_Mo_within x4 0 2 s10) fun r12 s13 =>
        if r12 = 0 then
          f_Mo_right_b42  x1 x2 x3 x4 s13
        else
          f_Mo_right_b43  x1 x2 x3 x4 0 s13
theorem w_Mo_right {x1 : Int32} {x2 : Int32} {x3 : Int32} {x4 : Int32} {s : Sg} {d : Nat} {Q : Option (Option Value) → Sg → Prop} (hd : 12 ≤ d) (h : okx (zq_I Q) (f_Mo_right x1 x2 x3 x4 s)) : Cw d M_Mo_right [.ref 46, .int x1, .int x2, .int x3, .int x4] s Q := by
  refine Cw.of (by decide +kernel) (Nat.le_of_ble_eq_true rfl) ?_
  show Xw d M_Mo_right 0 0 0 [.ref 46, .int x1, .int x2, .int x3, .int x4, .retAddr 0] [] s _
  unfold f_Mo_right at h
  refine xi_aload_n D_Mo_right_0 rfl ?_
  refine xi_aload_n D_Mo_right_1 rfl ?_
  refine xi_iload_n D_Mo_right_2 rfl ?_
  obtain ⟨g1, h⟩ := okx_ck h
  refine xj_V1 D_Mo_right_3 L_Mo_303 C_Mo_isThing Z_Mo_isThing (zl_fo (g1).1 rfl) (Nat.le_of_ble_eq_true rfl) (Nat.le_of_eq (Nat.sub_add_cancel (by omega))) (w_Mo_isThing (by omega) (okx_mono (okx_bd h) ?_))
  intro r2 s3 h
  show Xw _ _ _ _ 6 _ [_, _] _ _
  refine xi_if_eq D_Mo_right_6 (fun c4 => ?_) (fun c4 => ?_)
  · have h := okx_T c4 h
    exact w_Mo_right_b42 (by omega)  h
  · have h := okx_F c4 h
    refine xi_aload_n D_Mo_right_9 rfl ?_
    refine xi_iload_n D_Mo_right_10 rfl ?_
    obtain ⟨g5, h⟩ := okx_ck h
    refine xj_V1 D_Mo_right_11 L_Mo_265 C_Mo_isPerson Z_Mo_isPerson (zl_fo (g5).1 rfl) (Nat.le_of_ble_eq_true rfl) (Nat.le_of_eq (Nat.sub_add_cancel (by omega))) (w_Mo_isPerson (by omega) (okx_mono (okx_bd h) ?_))
    intro r6 s7 h
    show Xw _ _ _ _ 14 _ [_, _] _ _
    refine xi_if_eq D_Mo_right_14 (fun c8 => ?_) (fun c8 => ?_)
    · have h := okx_T c8 h
      exact w_Mo_right_b42 (by omega)  h
    · have h := okx_F c8 h
      refine xi_iload_n D_Mo_right_17 rfl ?_
      refine xj_iconst (v := 0) D_Mo_right_18 rfl ?_
      refine xi_sipush (v := 9999) D_Mo_right_19 rfl ?_
      refine xj_S3 D_Mo_right_22 L_Mo_268 C_Mo_within Z_Mo_within (Nat.le_of_ble_eq_true rfl) (Nat.le_of_eq (Nat.sub_add_cancel (by omega))) (w_Mo_within (by omega) (okx_mono (okx_bd h) ?_))
      intro r9 s10 h
      show Xw _ _ _ _ 25 _ [_, _] _ _
      refine xi_if_eq D_Mo_right_25 (fun c11 => ?_) (fun c11 => ?_)
      · have h := okx_T c11 h
        exact w_Mo_right_b42 (by omega)  h
      · have h := okx_F c11 h
        refine xi_iload D_Mo_right_28 rfl ?_
        refine xj_iconst (v := 0) D_Mo_right_30 rfl ?_
        refine xj_iconst (v := 2) D_Mo_right_31 rfl ?_
        refine xj_S3 D_Mo_right_32 L_Mo_268 C_Mo_within Z_Mo_within (Nat.le_of_ble_eq_true rfl) (Nat.le_of_eq (Nat.sub_add_cancel (by omega))) (w_Mo_within (by omega) (okx_mono (okx_bd h) ?_))
        intro r12 s13 h
        show Xw _ _ _ _ 35 _ [_, _] _ _
        refine xi_if_eq D_Mo_right_35 (fun c14 => ?_) (fun c14 => ?_)
        · have h := okx_T c14 h
          exact w_Mo_right_b42 (by omega)  h
        · have h := okx_F c14 h
          refine xj_iconst (v := 0) D_Mo_right_38 rfl ?_
          refine xi_goto D_Mo_right_39 ?_
          exact w_Mo_right_b43 (by omega)  h
noncomputable def f_Mo_rightPrice_b116 (R64 : Int32 → Int32 → Int32 → Int32 → Int32 → Int32 → Int32 → Sg → Option (Int32 × Sg)) (x1 : Int32) (x2 : Int32) (x3 : Int32) (x4 : Int32) (x5 : Int32) (x6 : Int32) (x7 : Int32) (s : Sg) : Option (Int32 × Sg) :=
  R64 x1 x2 x3 x4 x5 x6 (x7 + 1) s
theorem w_Mo_rightPrice_b116 {x1 : Int32} {x2 : Int32} {x3 : Int32} {x4 : Int32} {x5 : Int32} {x6 : Int32} {x7 : Int32} {s : Sg} {d : Nat} {Q : Option (Option Value) → Sg → Prop} (hd : 12 ≤ d) {R64 : Int32 → Int32 → Int32 → Int32 → Int32 → Int32 → Int32 → Sg → Option (Int32 × Sg)} (hR64 : ∀ (x1 : Int32) (x2 : Int32) (x3 : Int32) (x4 : Int32) (x5 : Int32) (x6 : Int32) (x7 : Int32) (s : Sg), okx (zq_I Q) (R64 x1 x2 x3 x4 x5 x6 x7 s) → Xw d M_Mo_rightPrice 0 0 64 [.ref 46, .int x1, .int x2, .int x3, .int x4, .int x5, .int x6, .int x7, .retAddr 0] [] s Q) (h : okx (zq_I Q) (f_Mo_rightPrice_b116 R64 x1 x2 x3 x4 x5 x6 x7 s)) : Xw d M_Mo_rightPrice 0 0 116 [.ref 46, .int x1, .int x2, .int x3, .int x4, .int x5, .int x6, .int x7, .retAddr 0] [] s Q := by
  unfold f_Mo_rightPrice_b116 at h
  refine xi_iinc (v := _ + 1) (ls' := [_, _, _, _, _, _, _, _, _]) D_Mo_rightPrice_116 rfl rfl rfl (by decide) ?_
  refine xi_goto D_Mo_rightPrice_119 ?_
  exact hR64 _ _ _ _ _ _ _ _ h
noncomputable def f_Mo_rightPrice_b104 (R64 : Int32 → Int32 → Int32 → Int32 → Int32 → Int32 → Int32 → Sg → Option (Int32 × Sg)) (x1 : Int32) (x2 : Int32) (x3 : Int32) (x4 : Int32) (x7 : Int32) (x8 : Int32) (s : Sg) : Option (Int32 × Sg) :=
  f_ck (zl_B s) <|
  f_bd (f_Mo_goodOf x8 s) fun r29 s30 =>
  f_Mo_rightPrice_b116 R64 x1 x2 x3 x4 x7 r29 x7 s30
theorem w_Mo_rightPrice_b104 {x1 : Int32} {x2 : Int32} {x3 : Int32} {x4 : Int32} {x7 : Int32} {x8 : Int32} {s : Sg} {d : Nat} {Q : Option (Option Value) → Sg → Prop} (hd : 12 ≤ d) {R64 : Int32 → Int32 → Int32 → Int32 → Int32 → Int32 → Int32 → Sg → Option (Int32 × Sg)} (hR64 : ∀ (x1 : Int32) (x2 : Int32) (x3 : Int32) (x4 : Int32) (x5 : Int32) (x6 : Int32) (x7 : Int32) (s : Sg), okx (zq_I Q) (R64 x1 x2 x3 x4 x5 x6 x7 s) → Xw d M_Mo_rightPrice 0 0 64 [.ref 46, .int x1, .int x2, .int x3, .int x4, .int x5, .int x6, .int x7, .retAddr 0] [] s Q) (h : okx (zq_I Q) (f_Mo_rightPrice_b104 R64 x1 x2 x3 x4 x7 x8 s)) : Xw d M_Mo_rightPrice 0 0 104 [.ref 46, .int x1, .int x2, .int x3, .int x4, .retAddr 0, .retAddr 0, .int x7, .int x8] [] s Q := by
  unfold f_Mo_rightPrice_b104 at h
  refine xi_iload D_Mo_rightPrice_104 rfl ?_
  refine xi_istore (ls' := [_, _, _, _, _, _, _, _, _]) D_Mo_rightPrice_106 rfl (by decide) ?_
  refine xi_aload_n D_Mo_rightPrice_108 rfl ?_
  refine xi_iload D_Mo_rightPrice_109 rfl ?_
  obtain ⟨g28, h⟩ := okx_ck h
  refine xj_V1 D_Mo_rightPrice_111 L_Mo_387 C_Mo_goodOf Z_Mo_goodOf (zl_fo (g28).1 rfl) (Nat.le_of_ble_eq_true rfl) (Nat.le_of_eq (Nat.sub_add_cancel (by omega))) (w_Mo_goodOf (by omega) (okx_mono (okx_bd h) ?_))
  intro r29 s30 h
  show Xw _ _ _ _ 114 _ [_] _ _
  refine xi_istore (ls' := [_, _, _, _, _, _, _, _, _]) D_Mo_rightPrice_114 rfl (by decide) ?_
  exact xk_wk (w_Mo_rightPrice_b116 (by omega) hR64 h) ⟨Or.inl rfl, Or.inl rfl, Or.inl rfl, Or.inl rfl, Or.inl rfl, Or.inl rfl, Or.inl rfl, Or.inl rfl, Or.inr rfl, trivial⟩
noncomputable def f_Mo_rightPrice_b133 (x4 : Int32) (x5 : Int32) (x6 : Int32) (y1 : Int32) (s : Sg) : Option (Int32 × Sg) :=
  f_ck (zl_B s) <|
  let s33 : Sg := uI s 46 0 y1
  if (mI s33 46 0) = 1 then
    some (0, s33)
  else
    if x4 = 0 then
      some (x5, s33)
    else
      some (x6, s33)
theorem w_Mo_rightPrice_b133 {x4 : Int32} {x5 : Int32} {x6 : Int32} {y1 : Int32} {s : Sg} {d : Nat} {Q : Option (Option Value) → Sg → Prop} (hd : 12 ≤ d) (h : okx (zq_I Q) (f_Mo_rightPrice_b133 x4 x5 x6 y1 s)) : Xw d M_Mo_rightPrice 0 0 133 [.ref 46, .retAddr 0, .retAddr 0, .retAddr 0, .int x4, .int x5, .int x6, .retAddr 0, .retAddr 0] [.int y1, .ref 46] s Q := by
  unfold f_Mo_rightPrice_b133 at h
  obtain ⟨g32, h⟩ := okx_ck h
  refine xi_putI D_Mo_rightPrice_133 F_Mo_114 (zl_fo (g32).1 rfl) ⟨rfl, by decide, rfl⟩ (⟨rfl, rfl⟩) ?_
  refine xi_aload_n D_Mo_rightPrice_136 rfl ?_
  refine xi_getI D_Mo_rightPrice_137 F_Mo_114 (zl_fo (g32).1 rfl) ⟨rfl, by decide⟩ ?_
  refine xj_iconst (v := 1) D_Mo_rightPrice_140 rfl ?_
  refine xi_icmp_ne D_Mo_rightPrice_141 (fun c34 => ?_) (fun c34 => ?_)
  · have h := okx_F c34 h
    refine xi_iload D_Mo_rightPrice_148 rfl ?_
    refine xi_if_ne D_Mo_rightPrice_150 (fun c35 => ?_) (fun c35 => ?_)
    · have h := okx_F c35 h
      refine xi_iload D_Mo_rightPrice_158 rfl ?_
      exact xi_ireturn D_Mo_rightPrice_160 rfl (rfl) (okx_I h)
    · have h := okx_T c35 h
      refine xi_iload D_Mo_rightPrice_153 rfl ?_
      refine xi_goto D_Mo_rightPrice_155 ?_
      exact xi_ireturn D_Mo_rightPrice_160 rfl (rfl) (okx_I h)
  · have h := okx_T c34 h
    refine xj_iconst (v := 0) D_Mo_rightPrice_144 rfl ?_
    refine xi_goto D_Mo_rightPrice_145 ?_
    exact xi_ireturn D_Mo_rightPrice_160 rfl (rfl) (okx_I h)
noncomputable def f_Mo_rightPrice_b122 (x4 : Int32) (x5 : Int32) (x6 : Int32) (s : Sg) : Option (Int32 × Sg) :=
  if 0 ≤ x5 then
    f_Mo_rightPrice_b133  x4 x5 x6 0 s
  else
    f_Mo_rightPrice_b133  x4 x5 x6 1 s
theorem w_Mo_rightPrice_b122 {x4 : Int32} {x5 : Int32} {x6 : Int32} {s : Sg} {d : Nat} {Q : Option (Option Value) → Sg → Prop} (hd : 12 ≤ d) (h : okx (zq_I Q) (f_Mo_rightPrice_b122 x4 x5 x6 s)) : Xw d M_Mo_rightPrice 0 0 122 [.ref 46, .retAddr 0, .retAddr 0, .retAddr 0, .int x4, .int x5, .int x6, .retAddr 0, .retAddr 0] [] s Q := by
  unfold f_Mo_rightPrice_b122 at h
  refine xi_aload_n D_Mo_rightPrice_122 rfl ?_
  refine xi_iload D_Mo_rightPrice_123 rfl ?_
  refine xi_if_ge D_Mo_rightPrice_125 (fun c31 => ?_) (fun c31 => ?_)
  · have h := okx_T c31 h
    refine xj_iconst (v := 0) D_Mo_rightPrice_132 rfl ?_
    exact w_Mo_rightPrice_b133 (by omega)  h
  · have h := okx_F c31 h
    refine xj_iconst (v := 1) D_Mo_rightPrice_128 rfl ?_
    refine xi_goto D_Mo_rightPrice_129 ?_
    exact w_Mo_rightPrice_b133 (by omega)  h
noncomputable def f_Mo_rightPrice_b64 (R64 : Int32 → Int32 → Int32 → Int32 → Int32 → Int32 → Int32 → Sg → Option (Int32 × Sg)) (x1 : Int32) (x2 : Int32) (x3 : Int32) (x4 : Int32) (x5 : Int32) (x6 : Int32) (x7 : Int32) (s : Sg) : Option (Int32 × Sg) :=
  if x3 < x7 then
    f_Mo_rightPrice_b122  x4 x5 x6 s
  else
    f_ck (zl_B s) <|
    f_bd (f_Mo_rightPains x1 x2 x7 s) fun r20 s21 =>
    if r20 < 0 then
      f_Mo_rightPrice_b116 R64 x1 x2 x3 x4 x5 x6 x7 s21
    else
      if x5 < 0 then
        f_Mo_rightPrice_b104 R64 x1 x2 x3 x4 x7 r20 s21
      else
        f_ck (zl_B s21) <|
        f_bd (f_Mo_goodOf r20 s21) fun r25 s26 =>
        if x6 < r25 then
          f_Mo_rightPrice_b104 R64 x1 x2 x3 x4 x7 r20 s26
        else
          f_Mo_rightPrice_b116 R64 x1 x2 x3 x4 x5 x6 x7 s26
theorem w_Mo_rightPrice_b64 {x1 : Int32} {x2 : Int32} {x3 : Int32} {x4 : Int32} {x5 : Int32} {x6 : Int32} {x7 : Int32} {s : Sg} {d : Nat} {Q : Option (Option Value) → Sg → Prop} (hd : 12 ≤ d) {R64 : Int32 → Int32 → Int32 → Int32 → Int32 → Int32 → Int32 → Sg → Option (Int32 × Sg)} (hR64 : ∀ (x1 : Int32) (x2 : Int32) (x3 : Int32) (x4 : Int32) (x5 : Int32) (x6 : Int32) (x7 : Int32) (s : Sg), okx (zq_I Q) (R64 x1 x2 x3 x4 x5 x6 x7 s) → Xw d M_Mo_rightPrice 0 0 64 [.ref 46, .int x1, .int x2, .int x3, .int x4, .int x5, .int x6, .int x7, .retAddr 0] [] s Q) (h : okx (zq_I Q) (f_Mo_rightPrice_b64 R64 x1 x2 x3 x4 x5 x6 x7 s)) : Xw d M_Mo_rightPrice 0 0 64 [.ref 46, .int x1, .int x2, .int x3, .int x4, .int x5, .int x6, .int x7, .retAddr 0] [] s Q := by
  unfold f_Mo_rightPrice_b64 at h
  refine xi_iload D_Mo_rightPrice_64 rfl ?_
  refine xi_iload_n D_Mo_rightPrice_66 rfl ?_
  refine xi_icmp_gt D_Mo_rightPrice_67 (fun c18 => ?_) (fun c18 => ?_)
  · have h := okx_T c18 h
    exact xk_wk (w_Mo_rightPrice_b122 (by omega)  h) ⟨Or.inl rfl, Or.inr rfl, Or.inr rfl, Or.inr rfl, Or.inl rfl, Or.inl rfl, Or.inl rfl, Or.inr rfl, Or.inl rfl, trivial⟩
  · have h := okx_F c18 h
    refine xi_aload_n D_Mo_rightPrice_70 rfl ?_
    refine xi_iload_n D_Mo_rightPrice_71 rfl ?_
    refine xi_iload_n D_Mo_rightPrice_72 rfl ?_
    refine xi_iload D_Mo_rightPrice_73 rfl ?_
    obtain ⟨g19, h⟩ := okx_ck h
    refine xj_V3 D_Mo_rightPrice_75 L_Mo_423 C_Mo_rightPains Z_Mo_rightPains (zl_fo (g19).1 rfl) (Nat.le_of_ble_eq_true rfl) (Nat.le_of_eq (Nat.sub_add_cancel (by omega))) (w_Mo_rightPains (by omega) (okx_mono (okx_bd h) ?_))
    intro r20 s21 h
    show Xw _ _ _ _ 78 _ [_] _ _
    refine xi_istore (ls' := [_, _, _, _, _, _, _, _, _]) D_Mo_rightPrice_78 rfl (by decide) ?_
    refine xi_iload D_Mo_rightPrice_80 rfl ?_
    refine xi_if_lt D_Mo_rightPrice_82 (fun c22 => ?_) (fun c22 => ?_)
    · have h := okx_T c22 h
      exact xk_wk (w_Mo_rightPrice_b116 (by omega) hR64 h) ⟨Or.inl rfl, Or.inl rfl, Or.inl rfl, Or.inl rfl, Or.inl rfl, Or.inl rfl, Or.inl rfl, Or.inl rfl, Or.inr rfl, trivial⟩
    · have h := okx_F c22 h
      refine xi_iload D_Mo_rightPrice_85 rfl ?_
      refine xi_if_lt D_Mo_rightPrice_87 (fun c23 => ?_) (fun c23 => ?_)
      · have h := okx_T c23 h
        exact xk_wk (w_Mo_rightPrice_b104 (by omega) hR64 h) ⟨Or.inl rfl, Or.inl rfl, Or.inl rfl, Or.inl rfl, Or.inl rfl, Or.inr rfl, Or.inr rfl, Or.inl rfl, Or.inl rfl, trivial⟩
      · have h := okx_F c23 h
        refine xi_aload_n D_Mo_rightPrice_90 rfl ?_
        refine xi_iload D_Mo_rightPrice_91 rfl ?_
        obtain ⟨g24, h⟩ := okx_ck h
        refine xj_V1 D_Mo_rightPrice_93 L_Mo_387 C_Mo_goodOf Z_Mo_goodOf (zl_fo (g24).1 rfl) (Nat.le_of_ble_eq_true rfl) (Nat.le_of_eq (Nat.sub_add_cancel (by omega))) (w_Mo_goodOf (by omega) (okx_mono (okx_bd h) ?_))
        intro r25 s26 h
        show Xw _ _ _ _ 96 _ [_] _ _
        refine xi_iload D_Mo_rightPrice_96 rfl ?_
        refine xi_icmp_gt D_Mo_rightPrice_98 (fun c27 => ?_) (fun c27 => ?_)
        · have h := okx_T c27 h
          exact xk_wk (w_Mo_rightPrice_b104 (by omega) hR64 h) ⟨Or.inl rfl, Or.inl rfl, Or.inl rfl, Or.inl rfl, Or.inl rfl, Or.inr rfl, Or.inr rfl, Or.inl rfl, Or.inl rfl, trivial⟩
        · have h := okx_F c27 h
          refine xi_goto D_Mo_rightPrice_101 ?_
          exact xk_wk (w_Mo_rightPrice_b116 (by omega) hR64 h) ⟨Or.inl rfl, Or.inl rfl, Or.inl rfl, Or.inl rfl, Or.inl rfl, Or.inl rfl, Or.inl rfl, Or.inl rfl, Or.inr rfl, trivial⟩
noncomputable def f_Mo_rightPrice_h64 : Nat → Int32 → Int32 → Int32 → Int32 → Int32 → Int32 → Int32 → Sg → Option (Int32 × Sg)
  | 0, _, _, _, _, _, _, _, _ => none
  | n + 1, x1, x2, x3, x4, x5, x6, x7, s => f_Mo_rightPrice_b64 (f_Mo_rightPrice_h64 n) x1 x2 x3 x4 x5 x6 x7 s
theorem w_Mo_rightPrice_h64 {d : Nat} {Q : Option (Option Value) → Sg → Prop} (hd : 12 ≤ d) : ∀ (n : Nat) (x1 : Int32) (x2 : Int32) (x3 : Int32) (x4 : Int32) (x5 : Int32) (x6 : Int32) (x7 : Int32) (s : Sg), okx (zq_I Q) (f_Mo_rightPrice_h64 n x1 x2 x3 x4 x5 x6 x7 s) → Xw d M_Mo_rightPrice 0 0 64 [.ref 46, .int x1, .int x2, .int x3, .int x4, .int x5, .int x6, .int x7, .retAddr 0] [] s Q := by
  intro n
  induction n with
  | zero => intro x1 x2 x3 x4 x5 x6 x7 s h; exact okx_no h
  | succ n ih => intro x1 x2 x3 x4 x5 x6 x7 s h; exact w_Mo_rightPrice_b64 hd  ih  h
noncomputable def f_Mo_rightPrice_b42 (x1 : Int32) (x2 : Int32) (x3 : Int32) (x4 : Int32) (y1 : Int32) (s : Sg) : Option (Int32 × Sg) :=
  f_ck (zl_B s) <|
  let s16 : Sg := uI s 46 0 y1
  if (mI s16 46 0) = 1 then
    some (0, s16)
  else
    f_Mo_rightPrice_h64  zl_fl x1 x2 x3 x4 (-1) 0 0 s16
theorem w_Mo_rightPrice_b42 {x1 : Int32} {x2 : Int32} {x3 : Int32} {x4 : Int32} {y1 : Int32} {s : Sg} {d : Nat} {Q : Option (Option Value) → Sg → Prop} (hd : 12 ≤ d) (h : okx (zq_I Q) (f_Mo_rightPrice_b42 x1 x2 x3 x4 y1 s)) : Xw d M_Mo_rightPrice 0 0 42 [.ref 46, .int x1, .int x2, .int x3, .int x4, .retAddr 0, .retAddr 0, .retAddr 0, .retAddr 0] [.int y1, .ref 46] s Q := by
  unfold f_Mo_rightPrice_b42 at h
  obtain ⟨g15, h⟩ := okx_ck h
  refine xi_putI D_Mo_rightPrice_42 F_Mo_114 (zl_fo (g15).1 rfl) ⟨rfl, by decide, rfl⟩ (⟨rfl, rfl⟩) ?_
  refine xi_aload_n D_Mo_rightPrice_45 rfl ?_
  refine xi_getI D_Mo_rightPrice_46 F_Mo_114 (zl_fo (g15).1 rfl) ⟨rfl, by decide⟩ ?_
  refine xj_iconst (v := 1) D_Mo_rightPrice_49 rfl ?_
  refine xi_icmp_ne D_Mo_rightPrice_50 (fun c17 => ?_) (fun c17 => ?_)
  · have h := okx_F c17 h
    refine xj_iconst (v := (-1)) D_Mo_rightPrice_55 rfl ?_
    refine xi_istore (ls' := [_, _, _, _, _, _, _, _, _]) D_Mo_rightPrice_56 rfl (by decide) ?_
    refine xj_iconst (v := 0) D_Mo_rightPrice_58 rfl ?_
    refine xi_istore (ls' := [_, _, _, _, _, _, _, _, _]) D_Mo_rightPrice_59 rfl (by decide) ?_
    refine xj_iconst (v := 0) D_Mo_rightPrice_61 rfl ?_
    refine xi_istore (ls' := [_, _, _, _, _, _, _, _, _]) D_Mo_rightPrice_62 rfl (by decide) ?_
    exact w_Mo_rightPrice_h64 (by omega)  _ _ _ _ _ _ _ _ _ h
  · have h := okx_T c17 h
    refine xj_iconst (v := 0) D_Mo_rightPrice_53 rfl ?_
    exact xi_ireturn D_Mo_rightPrice_54 rfl (rfl) (okx_I h)
noncomputable def f_Mo_rightPrice_b41 (x1 : Int32) (x2 : Int32) (x3 : Int32) (x4 : Int32) (s : Sg) : Option (Int32 × Sg) :=
  f_Mo_rightPrice_b42  x1 x2 x3 x4 1 s
theorem w_Mo_rightPrice_b41 {x1 : Int32} {x2 : Int32} {x3 : Int32} {x4 : Int32} {s : Sg} {d : Nat} {Q : Option (Option Value) → Sg → Prop} (hd : 12 ≤ d) (h : okx (zq_I Q) (f_Mo_rightPrice_b41 x1 x2 x3 x4 s)) : Xw d M_Mo_rightPrice 0 0 41 [.ref 46, .int x1, .int x2, .int x3, .int x4, .retAddr 0, .retAddr 0, .retAddr 0, .retAddr 0] [.ref 46] s Q := by
  unfold f_Mo_rightPrice_b41 at h
  refine xj_iconst (v := 1) D_Mo_rightPrice_41 rfl ?_
  exact w_Mo_rightPrice_b42 (by omega)  h
noncomputable def f_Mo_rightPrice (x1 : Int32) (x2 : Int32) (x3 : Int32) (x4 : Int32) (s : Sg) : Option (Int32 × Sg) :=
  f_ck (zl_B s) <|
  f_bd (f_Mo_isThing x1 s) fun r2 s3 =>
  if r2 = 0 then
    f_Mo_rightPrice_b41  x1 x2 x3 x4 s3
  else
    f_ck (zl_B s3) <|
    f_bd (f_Mo_isPerson x2 s3) fun r6 s7 =>
    if r6 = 0 then
      f_Mo_rightPrice_b41  x1 x2 x3 x4 s7
    else
      f_bd (f_Mo_within x3 0 60 s7) fun r9 s10 =>
      if r9 = 0 then
        f_Mo_rightPrice_b41  x1 x2 x3 x4 s10
      else
        f_bd (f_Mo_within x4 0 1 s10) fun r12 s13 =>
        if r12 = 0 then
          f_Mo_rightPrice_b41  x1 x2 x3 x4 s13
        else
          f_Mo_rightPrice_b42  x1 x2 x3 x4 0 s13
theorem w_Mo_rightPrice {x1 : Int32} {x2 : Int32} {x3 : Int32} {x4 : Int32} {s : Sg} {d : Nat} {Q : Option (Option Value) → Sg → Prop} (hd : 12 ≤ d) (h : okx (zq_I Q) (f_Mo_rightPrice x1 x2 x3 x4 s)) : Cw d M_Mo_rightPrice [.ref 46, .int x1, .int x2, .int x3, .int x4] s Q := by
  refine Cw.of (by decide +kernel) (Nat.le_of_ble_eq_true rfl) ?_
  show Xw d M_Mo_rightPrice 0 0 0 [.ref 46, .int x1, .int x2, .int x3, .int x4, .retAddr 0, .retAddr 0, .retAddr 0, .retAddr 0] [] s _
  unfold f_Mo_rightPrice at h
  refine xi_aload_n D_Mo_rightPrice_0 rfl ?_
  refine xi_aload_n D_Mo_rightPrice_1 rfl ?_
  refine xi_iload_n D_Mo_rightPrice_2 rfl ?_
  obtain ⟨g1, h⟩ := okx_ck h
  refine xj_V1 D_Mo_rightPrice_3 L_Mo_303 C_Mo_isThing Z_Mo_isThing (zl_fo (g1).1 rfl) (Nat.le_of_ble_eq_true rfl) (Nat.le_of_eq (Nat.sub_add_cancel (by omega))) (w_Mo_isThing (by omega) (okx_mono (okx_bd h) ?_))
  intro r2 s3 h
  show Xw _ _ _ _ 6 _ [_, _] _ _
  refine xi_if_eq D_Mo_rightPrice_6 (fun c4 => ?_) (fun c4 => ?_)
  · have h := okx_T c4 h
    exact w_Mo_rightPrice_b41 (by omega)  h
  · have h := okx_F c4 h
    refine xi_aload_n D_Mo_rightPrice_9 rfl ?_
    refine xi_iload_n D_Mo_rightPrice_10 rfl ?_
    obtain ⟨g5, h⟩ := okx_ck h
    refine xj_V1 D_Mo_rightPrice_11 L_Mo_265 C_Mo_isPerson Z_Mo_isPerson (zl_fo (g5).1 rfl) (Nat.le_of_ble_eq_true rfl) (Nat.le_of_eq (Nat.sub_add_cancel (by omega))) (w_Mo_isPerson (by omega) (okx_mono (okx_bd h) ?_))
    intro r6 s7 h
    show Xw _ _ _ _ 14 _ [_, _] _ _
    refine xi_if_eq D_Mo_rightPrice_14 (fun c8 => ?_) (fun c8 => ?_)
    · have h := okx_T c8 h
      exact w_Mo_rightPrice_b41 (by omega)  h
    · have h := okx_F c8 h
      refine xi_iload_n D_Mo_rightPrice_17 rfl ?_
      refine xj_iconst (v := 0) D_Mo_rightPrice_18 rfl ?_
      refine xi_bipush (v := 60) D_Mo_rightPrice_19 rfl ?_
      refine xj_S3 D_Mo_rightPrice_21 L_Mo_268 C_Mo_within Z_Mo_within (Nat.le_of_ble_eq_true rfl) (Nat.le_of_eq (Nat.sub_add_cancel (by omega))) (w_Mo_within (by omega) (okx_mono (okx_bd h) ?_))
      intro r9 s10 h
      show Xw _ _ _ _ 24 _ [_, _] _ _
      refine xi_if_eq D_Mo_rightPrice_24 (fun c11 => ?_) (fun c11 => ?_)
      · have h := okx_T c11 h
        exact w_Mo_rightPrice_b41 (by omega)  h
      · have h := okx_F c11 h
        refine xi_iload D_Mo_rightPrice_27 rfl ?_
        refine xj_iconst (v := 0) D_Mo_rightPrice_29 rfl ?_
        refine xj_iconst (v := 1) D_Mo_rightPrice_30 rfl ?_
        refine xj_S3 D_Mo_rightPrice_31 L_Mo_268 C_Mo_within Z_Mo_within (Nat.le_of_ble_eq_true rfl) (Nat.le_of_eq (Nat.sub_add_cancel (by omega))) (w_Mo_within (by omega) (okx_mono (okx_bd h) ?_))
        intro r12 s13 h
        show Xw _ _ _ _ 34 _ [_, _] _ _
        refine xi_if_eq D_Mo_rightPrice_34 (fun c14 => ?_) (fun c14 => ?_)
        · have h := okx_T c14 h
          exact w_Mo_rightPrice_b41 (by omega)  h
        · have h := okx_F c14 h
          refine xj_iconst (v := 0) D_Mo_rightPrice_37 rfl ?_
          refine xi_goto D_Mo_rightPrice_38 ?_
          exact w_Mo_rightPrice_b42 (by omega)  h
noncomputable def f_Mo_share_b31 (x1 : Int32) (x2 : Int32) (x3 : Int32) (y1 : Int32) (s : Sg) : Option (Int64 × Sg) :=
  f_ck (zl_B s) <|
  let s13 : Sg := uI s 46 0 y1
  f_bd (f_Mo_asItIs  s13) fun r14 s15 =>
  f_ck (zl_B s15) <|
  if (mI s15 46 0) = 1 then
    some (0, s15)
  else
    f_bd (f_Mo_shareIn 0 x1 x2 s15) fun r18 s19 =>
    f_bd (f_Mo_lowest r18 240 x3 s19) fun r20 s21 =>
    some (r20, s21)
theorem w_Mo_share_b31 {x1 : Int32} {x2 : Int32} {x3 : Int32} {y1 : Int32} {s : Sg} {d : Nat} {Q : Option (Option Value) → Sg → Prop} (hd : 6 ≤ d) (h : okx (zq_L Q) (f_Mo_share_b31 x1 x2 x3 y1 s)) : Xw d M_Mo_share 0 0 31 [.ref 46, .int x1, .int x2, .int x3] [.int y1, .ref 46] s Q := by
  unfold f_Mo_share_b31 at h
  obtain ⟨g12, h⟩ := okx_ck h
  refine xi_putI D_Mo_share_31 F_Mo_114 (zl_fo (g12).1 rfl) ⟨rfl, by decide, rfl⟩ (⟨rfl, rfl⟩) ?_
  refine xi_aload_n D_Mo_share_34 rfl ?_
  refine xj_V0 D_Mo_share_35 L_Mo_325 C_Mo_asItIs Z_Mo_asItIs (zl_fo (g12).1 rfl) (Nat.le_of_ble_eq_true rfl) (Nat.le_of_eq (Nat.sub_add_cancel (by omega))) (w_Mo_asItIs (by omega) (okx_mono (okx_bd h) ?_))
  intro r14 s15 h
  show Xw _ _ _ _ 38 _ [] _ _
  refine xi_aload_n D_Mo_share_38 rfl ?_
  obtain ⟨g16, h⟩ := okx_ck h
  refine xi_getI D_Mo_share_39 F_Mo_114 (zl_fo (g16).1 rfl) ⟨rfl, by decide⟩ ?_
  refine xj_iconst (v := 1) D_Mo_share_42 rfl ?_
  refine xi_icmp_ne D_Mo_share_43 (fun c17 => ?_) (fun c17 => ?_)
  · have h := okx_F c17 h
    refine xi_aload_n D_Mo_share_50 rfl ?_
    refine xj_iconst (v := 0) D_Mo_share_51 rfl ?_
    refine xi_iload_n D_Mo_share_52 rfl ?_
    refine xi_iload_n D_Mo_share_53 rfl ?_
    refine xj_V3 D_Mo_share_54 L_Mo_340 C_Mo_shareIn Z_Mo_shareIn (zl_fo (g16).1 rfl) (Nat.le_of_ble_eq_true rfl) (Nat.le_of_eq (Nat.sub_add_cancel (by omega))) (w_Mo_shareIn (by omega) (okx_mono (okx_bd h) ?_))
    intro r18 s19 h
    show Xw _ _ _ _ 57 _ [_] _ _
    refine xi_ldc2 D_Mo_share_57 K_Mo_343 ?_
    refine xi_iload_n D_Mo_share_60 rfl ?_
    refine xj_S3 D_Mo_share_61 L_Mo_345 C_Mo_lowest Z_Mo_lowest (Nat.le_of_ble_eq_true rfl) (Nat.le_of_eq (Nat.sub_add_cancel (by omega))) (w_Mo_lowest (by omega) (okx_mono (okx_bd h) ?_))
    intro r20 s21 h
    show Xw _ _ _ _ 64 _ [_] _ _
    exact xi_lreturn D_Mo_share_64 rfl (okx_L h)
  · have h := okx_T c17 h
    refine xj_lconst (v := 0) D_Mo_share_46 rfl ?_
    refine xi_goto D_Mo_share_47 ?_
    exact xi_lreturn D_Mo_share_64 rfl (okx_L h)
noncomputable def f_Mo_share_b30 (x1 : Int32) (x2 : Int32) (x3 : Int32) (s : Sg) : Option (Int64 × Sg) :=
  f_Mo_share_b31  x1 x2 x3 1 s
theorem w_Mo_share_b30 {x1 : Int32} {x2 : Int32} {x3 : Int32} {s : Sg} {d : Nat} {Q : Option (Option Value) → Sg → Prop} (hd : 6 ≤ d) (h : okx (zq_L Q) (f_Mo_share_b30 x1 x2 x3 s)) : Xw d M_Mo_share 0 0 30 [.ref 46, .int x1, .int x2, .int x3] [.ref 46] s Q := by
  unfold f_Mo_share_b30 at h
  refine xj_iconst (v := 1) D_Mo_share_30 rfl ?_
  exact w_Mo_share_b31 (by omega)  h
noncomputable def f_Mo_share (x1 : Int32) (x2 : Int32) (x3 : Int32) (s : Sg) : Option (Int64 × Sg) :=
  f_ck (zl_B s) <|
  f_bd (f_Mo_isPerson x1 s) fun r2 s3 =>
  if r2 = 0 then
    f_Mo_share_b30  x1 x2 x3 s3
  else
    f_ck (zl_B s3) <|
    f_bd (f_Mo_isPains x2 s3) fun r6 s7 =>
    if r6 = 0 then
      f_Mo_share_b30  x1 x2 x3 s7
    else
      f_bd (f_Mo_within x3 0 1 s7) fun r9 s10 =>
      if r9 = 0 then
        f_Mo_share_b30  x1 x2 x3 s10
      else
        f_Mo_share_b31  x1 x2 x3 0 s10
theorem w_Mo_share {x1 : Int32} {x2 : Int32} {x3 : Int32} {s : Sg} {d : Nat} {Q : Option (Option Value) → Sg → Prop} (hd : 6 ≤ d) (h : okx (zq_L Q) (f_Mo_share x1 x2 x3 s)) : Cw d M_Mo_share [.ref 46, .int x1, .int x2, .int x3] s Q := by
  refine Cw.of (by decide +kernel) (Nat.le_of_ble_eq_true rfl) ?_
  show Xw d M_Mo_share 0 0 0 [.ref 46, .int x1, .int x2, .int x3] [] s _
  unfold f_Mo_share at h
  refine xi_aload_n D_Mo_share_0 rfl ?_
  refine xi_aload_n D_Mo_share_1 rfl ?_
  refine xi_iload_n D_Mo_share_2 rfl ?_
  obtain ⟨g1, h⟩ := okx_ck h
  refine xj_V1 D_Mo_share_3 L_Mo_265 C_Mo_isPerson Z_Mo_isPerson (zl_fo (g1).1 rfl) (Nat.le_of_ble_eq_true rfl) (Nat.le_of_eq (Nat.sub_add_cancel (by omega))) (w_Mo_isPerson (by omega) (okx_mono (okx_bd h) ?_))
  intro r2 s3 h
  show Xw _ _ _ _ 6 _ [_, _] _ _
  refine xi_if_eq D_Mo_share_6 (fun c4 => ?_) (fun c4 => ?_)
  · have h := okx_T c4 h
    exact w_Mo_share_b30 (by omega)  h
  · have h := okx_F c4 h
    refine xi_aload_n D_Mo_share_9 rfl ?_
    refine xi_iload_n D_Mo_share_10 rfl ?_
    obtain ⟨g5, h⟩ := okx_ck h
    refine xj_V1 D_Mo_share_11 L_Mo_296 C_Mo_isPains Z_Mo_isPains (zl_fo (g5).1 rfl) (Nat.le_of_ble_eq_true rfl) (Nat.le_of_eq (Nat.sub_add_cancel (by omega))) (w_Mo_isPains (by omega) (okx_mono (okx_bd h) ?_))
    intro r6 s7 h
    show Xw _ _ _ _ 14 _ [_, _] _ _
    refine xi_if_eq D_Mo_share_14 (fun c8 => ?_) (fun c8 => ?_)
    · have h := okx_T c8 h
      exact w_Mo_share_b30 (by omega)  h
    · have h := okx_F c8 h
      refine xi_iload_n D_Mo_share_17 rfl ?_
      refine xj_iconst (v := 0) D_Mo_share_18 rfl ?_
      refine xj_iconst (v := 1) D_Mo_share_19 rfl ?_
      refine xj_S3 D_Mo_share_20 L_Mo_268 C_Mo_within Z_Mo_within (Nat.le_of_ble_eq_true rfl) (Nat.le_of_eq (Nat.sub_add_cancel (by omega))) (w_Mo_within (by omega) (okx_mono (okx_bd h) ?_))
      intro r9 s10 h
      show Xw _ _ _ _ 23 _ [_, _] _ _
      refine xi_if_eq D_Mo_share_23 (fun c11 => ?_) (fun c11 => ?_)
      · have h := okx_T c11 h
        exact w_Mo_share_b30 (by omega)  h
      · have h := okx_F c11 h
        refine xj_iconst (v := 0) D_Mo_share_26 rfl ?_
        refine xi_goto D_Mo_share_27 ?_
        exact w_Mo_share_b31 (by omega)  h
noncomputable def f_Mo_sums_b45 (x1 : Int32) (y1 : Int32) (y2 : Int32) (s : Sg) : Option (Unit × Sg) :=
  f_ck (zl_B s) <|
  f_ck (vp_in y1 7) <|
  let s10 : Sg := uI s 62 (Int32.toNatClampNeg y1) y2
  f_ck (vp_in x1 7) <|
  let s12 : Sg := uI s10 65 (Int32.toNatClampNeg x1) 0
  some ((), s12)
theorem w_Mo_sums_b45 {x1 : Int32} {y1 : Int32} {y2 : Int32} {s : Sg} {d : Nat} {Q : Option (Option Value) → Sg → Prop} (hd : 1 ≤ d) (h : okx (zq_V Q) (f_Mo_sums_b45 x1 y1 y2 s)) : Xw d M_Mo_sums 0 0 45 [.ref 46, .int x1] [.int y2, .int y1, .ref 62] s Q := by
  unfold f_Mo_sums_b45 at h
  obtain ⟨g8, h⟩ := okx_ck h
  obtain ⟨g9, h⟩ := okx_ck h
  refine xj_iast D_Mo_sums_45 (zl_fx (g8).1 rfl) (zl_ib (n := 7) rfl (g9)) ?_
  refine xi_aload_n D_Mo_sums_46 rfl ?_
  refine xi_getR D_Mo_sums_47 F_Mo_66 (zl_fo (g8).1 rfl) ⟨rfl, by decide⟩ (zl_gr (g8).2 rfl rfl) ?_
  refine xi_iload_n D_Mo_sums_50 rfl ?_
  refine xj_iconst (v := 0) D_Mo_sums_51 rfl ?_
  obtain ⟨g11, h⟩ := okx_ck h
  refine xj_iast D_Mo_sums_52 (zl_fx (g8).1 rfl) (zl_ib (n := 7) rfl (g11)) ?_
  exact xi_return D_Mo_sums_53 rfl (okx_V h)
noncomputable def f_Mo_sums (x1 : Int32) (s : Sg) : Option (Unit × Sg) :=
  f_ck (zl_B s) <|
  f_ck (vp_in x1 7) <|
  if (mI s 63 (Int32.toNatClampNeg x1)) = 21 then
    f_ck (vp_in x1 7) <|
    f_ck (vp_in x1 7) <|
    f_Mo_sums_b45  x1 x1 ((mI s 62 (Int32.toNatClampNeg x1)) - (mI s 64 (Int32.toNatClampNeg x1))) s
  else
    f_ck (vp_in x1 7) <|
    f_ck (vp_in x1 7) <|
    f_Mo_sums_b45  x1 x1 ((mI s 62 (Int32.toNatClampNeg x1)) + (mI s 64 (Int32.toNatClampNeg x1))) s
theorem w_Mo_sums {x1 : Int32} {s : Sg} {d : Nat} {Q : Option (Option Value) → Sg → Prop} (hd : 1 ≤ d) (h : okx (zq_V Q) (f_Mo_sums x1 s)) : Cw d M_Mo_sums [.ref 46, .int x1] s Q := by
  refine Cw.of (by decide +kernel) (Nat.le_of_ble_eq_true rfl) ?_
  show Xw d M_Mo_sums 0 0 0 [.ref 46, .int x1] [] s _
  unfold f_Mo_sums at h
  refine xi_aload_n D_Mo_sums_0 rfl ?_
  obtain ⟨g1, h⟩ := okx_ck h
  refine xi_getR D_Mo_sums_1 F_Mo_57 (zl_fo (g1).1 rfl) ⟨rfl, by decide⟩ (zl_gr (g1).2 rfl rfl) ?_
  refine xi_iload_n D_Mo_sums_4 rfl ?_
  refine xi_aload_n D_Mo_sums_5 rfl ?_
  refine xi_getR D_Mo_sums_6 F_Mo_60 (zl_fo (g1).1 rfl) ⟨rfl, by decide⟩ (zl_gr (g1).2 rfl rfl) ?_
  refine xi_iload_n D_Mo_sums_9 rfl ?_
  obtain ⟨g2, h⟩ := okx_ck h
  refine xj_iald D_Mo_sums_10 (zl_fx (g1).1 rfl) (zl_ib (n := 7) rfl (g2)) ?_
  refine xi_bipush (v := 21) D_Mo_sums_11 rfl ?_
  refine xi_icmp_ne D_Mo_sums_13 (fun c3 => ?_) (fun c3 => ?_)
  · have h := okx_F c3 h
    refine xi_aload_n D_Mo_sums_32 rfl ?_
    refine xi_getR D_Mo_sums_33 F_Mo_57 (zl_fo (g1).1 rfl) ⟨rfl, by decide⟩ (zl_gr (g1).2 rfl rfl) ?_
    refine xi_iload_n D_Mo_sums_36 rfl ?_
    obtain ⟨g6, h⟩ := okx_ck h
    refine xj_iald D_Mo_sums_37 (zl_fx (g1).1 rfl) (zl_ib (n := 7) rfl (g6)) ?_
    refine xi_aload_n D_Mo_sums_38 rfl ?_
    refine xi_getR D_Mo_sums_39 F_Mo_63 (zl_fo (g1).1 rfl) ⟨rfl, by decide⟩ (zl_gr (g1).2 rfl rfl) ?_
    refine xi_iload_n D_Mo_sums_42 rfl ?_
    obtain ⟨g7, h⟩ := okx_ck h
    refine xj_iald D_Mo_sums_43 (zl_fx (g1).1 rfl) (zl_ib (n := 7) rfl (g7)) ?_
    refine xi_iadd D_Mo_sums_44 ?_
    exact w_Mo_sums_b45 (by omega)  h
  · have h := okx_T c3 h
    refine xi_aload_n D_Mo_sums_16 rfl ?_
    refine xi_getR D_Mo_sums_17 F_Mo_57 (zl_fo (g1).1 rfl) ⟨rfl, by decide⟩ (zl_gr (g1).2 rfl rfl) ?_
    refine xi_iload_n D_Mo_sums_20 rfl ?_
    obtain ⟨g4, h⟩ := okx_ck h
    refine xj_iald D_Mo_sums_21 (zl_fx (g1).1 rfl) (zl_ib (n := 7) rfl (g4)) ?_
    refine xi_aload_n D_Mo_sums_22 rfl ?_
    refine xi_getR D_Mo_sums_23 F_Mo_63 (zl_fo (g1).1 rfl) ⟨rfl, by decide⟩ (zl_gr (g1).2 rfl rfl) ?_
    refine xi_iload_n D_Mo_sums_26 rfl ?_
    obtain ⟨g5, h⟩ := okx_ck h
    refine xj_iald D_Mo_sums_27 (zl_fx (g1).1 rfl) (zl_ib (n := 7) rfl (g5)) ?_
    refine xi_isub D_Mo_sums_28 ?_
    refine xi_goto D_Mo_sums_29 ?_
    exact w_Mo_sums_b45 (by omega)  h
noncomputable def f_Mo_tests_b136 (x1 : Int32) (x2 : Int32) (s : Sg) : Option (Unit × Sg) :=
  f_ck (zl_B s) <|
  f_ck (vp_in x1 7) <|
  let s31 : Sg := uI s 58 (Int32.toNatClampNeg x1) x2
  f_ck (vp_in x1 7) <|
  let s33 : Sg := uI s31 61 (Int32.toNatClampNeg x1) 0
  f_ck (vp_in x1 7) <|
  let s35 : Sg := uI s33 62 (Int32.toNatClampNeg x1) 0
  f_ck (vp_in x1 7) <|
  let s37 : Sg := uI s35 63 (Int32.toNatClampNeg x1) 20
  some ((), s37)
theorem w_Mo_tests_b136 {x1 : Int32} {x2 : Int32} {s : Sg} {d : Nat} {Q : Option (Option Value) → Sg → Prop} (hd : 2 ≤ d) (h : okx (zq_V Q) (f_Mo_tests_b136 x1 x2 s)) : Xw d M_Mo_tests 0 0 136 [.ref 46, .int x1, .int x2] [] s Q := by
  unfold f_Mo_tests_b136 at h
  refine xi_aload_n D_Mo_tests_136 rfl ?_
  obtain ⟨g29, h⟩ := okx_ck h
  refine xi_getR D_Mo_tests_137 F_Mo_45 (zl_fo (g29).1 rfl) ⟨rfl, by decide⟩ (zl_gr (g29).2 rfl rfl) ?_
  refine xi_iload_n D_Mo_tests_140 rfl ?_
  refine xi_iload_n D_Mo_tests_141 rfl ?_
  obtain ⟨g30, h⟩ := okx_ck h
  refine xj_iast D_Mo_tests_142 (zl_fx (g29).1 rfl) (zl_ib (n := 7) rfl (g30)) ?_
  refine xi_aload_n D_Mo_tests_143 rfl ?_
  refine xi_getR D_Mo_tests_144 F_Mo_54 (zl_fo (g29).1 rfl) ⟨rfl, by decide⟩ (zl_gr (g29).2 rfl rfl) ?_
  refine xi_iload_n D_Mo_tests_147 rfl ?_
  refine xj_iconst (v := 0) D_Mo_tests_148 rfl ?_
  obtain ⟨g32, h⟩ := okx_ck h
  refine xj_iast D_Mo_tests_149 (zl_fx (g29).1 rfl) (zl_ib (n := 7) rfl (g32)) ?_
  refine xi_aload_n D_Mo_tests_150 rfl ?_
  refine xi_getR D_Mo_tests_151 F_Mo_57 (zl_fo (g29).1 rfl) ⟨rfl, by decide⟩ (zl_gr (g29).2 rfl rfl) ?_
  refine xi_iload_n D_Mo_tests_154 rfl ?_
  refine xj_iconst (v := 0) D_Mo_tests_155 rfl ?_
  obtain ⟨g34, h⟩ := okx_ck h
  refine xj_iast D_Mo_tests_156 (zl_fx (g29).1 rfl) (zl_ib (n := 7) rfl (g34)) ?_
  refine xi_aload_n D_Mo_tests_157 rfl ?_
  refine xi_getR D_Mo_tests_158 F_Mo_60 (zl_fo (g29).1 rfl) ⟨rfl, by decide⟩ (zl_gr (g29).2 rfl rfl) ?_
  refine xi_iload_n D_Mo_tests_161 rfl ?_
  refine xi_bipush (v := 20) D_Mo_tests_162 rfl ?_
  obtain ⟨g36, h⟩ := okx_ck h
  refine xj_iast D_Mo_tests_164 (zl_fx (g29).1 rfl) (zl_ib (n := 7) rfl (g36)) ?_
  exact xi_return D_Mo_tests_165 rfl (okx_V h)
noncomputable def f_Mo_tests_b135 (x1 : Int32) (y0 : Int32) (s : Sg) : Option (Unit × Sg) :=
  f_Mo_tests_b136  x1 y0 s
theorem w_Mo_tests_b135 {x1 : Int32} {y0 : Int32} {s : Sg} {d : Nat} {Q : Option (Option Value) → Sg → Prop} (hd : 2 ≤ d) (h : okx (zq_V Q) (f_Mo_tests_b135 x1 y0 s)) : Xw d M_Mo_tests 0 0 135 [.ref 46, .int x1, .retAddr 0] [.int y0] s Q := by
  unfold f_Mo_tests_b135 at h
  refine xi_istore_n (ls' := [_, _, _]) D_Mo_tests_135 rfl (by decide) ?_
  exact w_Mo_tests_b136 (by omega)  h
noncomputable def f_Mo_tests_b130 (x1 : Int32) (s : Sg) : Option (Unit × Sg) :=
  f_Mo_tests_b135  x1 1 s
theorem w_Mo_tests_b130 {x1 : Int32} {s : Sg} {d : Nat} {Q : Option (Option Value) → Sg → Prop} (hd : 2 ≤ d) (h : okx (zq_V Q) (f_Mo_tests_b130 x1 s)) : Xw d M_Mo_tests 0 0 130 [.ref 46, .int x1, .retAddr 0] [] s Q := by
  unfold f_Mo_tests_b130 at h
  refine xj_iconst (v := 1) D_Mo_tests_130 rfl ?_
  refine xi_goto D_Mo_tests_131 ?_
  exact w_Mo_tests_b135 (by omega)  h
noncomputable def f_Mo_tests_b106 (x1 : Int32) (x2 : Int32) (s : Sg) : Option (Unit × Sg) :=
  f_ck (zl_B s) <|
  f_ck (vp_in x1 7) <|
  if (mI s 59 (Int32.toNatClampNeg x1)) = 27 then
    f_ck (vp_in x1 7) <|
    if (mI s 58 (Int32.toNatClampNeg x1)) = 0 then
      if x2 = 0 then
        f_Mo_tests_b135  x1 0 s
      else
        f_Mo_tests_b130  x1 s
    else
      f_Mo_tests_b130  x1 s
  else
    f_Mo_tests_b136  x1 x2 s
theorem w_Mo_tests_b106 {x1 : Int32} {x2 : Int32} {s : Sg} {d : Nat} {Q : Option (Option Value) → Sg → Prop} (hd : 2 ≤ d) (h : okx (zq_V Q) (f_Mo_tests_b106 x1 x2 s)) : Xw d M_Mo_tests 0 0 106 [.ref 46, .int x1, .int x2] [] s Q := by
  unfold f_Mo_tests_b106 at h
  refine xi_aload_n D_Mo_tests_106 rfl ?_
  obtain ⟨g23, h⟩ := okx_ck h
  refine xi_getR D_Mo_tests_107 F_Mo_48 (zl_fo (g23).1 rfl) ⟨rfl, by decide⟩ (zl_gr (g23).2 rfl rfl) ?_
  refine xi_iload_n D_Mo_tests_110 rfl ?_
  obtain ⟨g24, h⟩ := okx_ck h
  refine xj_iald D_Mo_tests_111 (zl_fx (g23).1 rfl) (zl_ib (n := 7) rfl (g24)) ?_
  refine xi_bipush (v := 27) D_Mo_tests_112 rfl ?_
  refine xi_icmp_ne D_Mo_tests_114 (fun c25 => ?_) (fun c25 => ?_)
  · have h := okx_F c25 h
    exact w_Mo_tests_b136 (by omega)  h
  · have h := okx_T c25 h
    refine xi_aload_n D_Mo_tests_117 rfl ?_
    refine xi_getR D_Mo_tests_118 F_Mo_45 (zl_fo (g23).1 rfl) ⟨rfl, by decide⟩ (zl_gr (g23).2 rfl rfl) ?_
    refine xi_iload_n D_Mo_tests_121 rfl ?_
    obtain ⟨g26, h⟩ := okx_ck h
    refine xj_iald D_Mo_tests_122 (zl_fx (g23).1 rfl) (zl_ib (n := 7) rfl (g26)) ?_
    refine xi_if_ne D_Mo_tests_123 (fun c27 => ?_) (fun c27 => ?_)
    · have h := okx_F c27 h
      exact xk_wk (w_Mo_tests_b130 (by omega)  h) ⟨Or.inl rfl, Or.inl rfl, Or.inr rfl, trivial⟩
    · have h := okx_T c27 h
      refine xi_iload_n D_Mo_tests_126 rfl ?_
      refine xi_if_eq D_Mo_tests_127 (fun c28 => ?_) (fun c28 => ?_)
      · have h := okx_T c28 h
        refine xj_iconst (v := 0) D_Mo_tests_134 rfl ?_
        exact xk_wk (w_Mo_tests_b135 (by omega)  h) ⟨Or.inl rfl, Or.inl rfl, Or.inr rfl, trivial⟩
      · have h := okx_F c28 h
        exact xk_wk (w_Mo_tests_b130 (by omega)  h) ⟨Or.inl rfl, Or.inl rfl, Or.inr rfl, trivial⟩
noncomputable def f_Mo_tests_b105 (x1 : Int32) (y0 : Int32) (s : Sg) : Option (Unit × Sg) :=
  f_Mo_tests_b106  x1 y0 s
theorem w_Mo_tests_b105 {x1 : Int32} {y0 : Int32} {s : Sg} {d : Nat} {Q : Option (Option Value) → Sg → Prop} (hd : 2 ≤ d) (h : okx (zq_V Q) (f_Mo_tests_b105 x1 y0 s)) : Xw d M_Mo_tests 0 0 105 [.ref 46, .int x1, .retAddr 0] [.int y0] s Q := by
  unfold f_Mo_tests_b105 at h
  refine xi_istore_n (ls' := [_, _, _]) D_Mo_tests_105 rfl (by decide) ?_
  exact w_Mo_tests_b106 (by omega)  h
noncomputable def f_Mo_tests_b104 (x1 : Int32) (s : Sg) : Option (Unit × Sg) :=
  f_Mo_tests_b105  x1 0 s
theorem w_Mo_tests_b104 {x1 : Int32} {s : Sg} {d : Nat} {Q : Option (Option Value) → Sg → Prop} (hd : 2 ≤ d) (h : okx (zq_V Q) (f_Mo_tests_b104 x1 s)) : Xw d M_Mo_tests 0 0 104 [.ref 46, .int x1, .retAddr 0] [] s Q := by
  unfold f_Mo_tests_b104 at h
  refine xj_iconst (v := 0) D_Mo_tests_104 rfl ?_
  exact w_Mo_tests_b105 (by omega)  h
noncomputable def f_Mo_tests_b76 (x1 : Int32) (x2 : Int32) (s : Sg) : Option (Unit × Sg) :=
  f_ck (zl_B s) <|
  f_ck (vp_in x1 7) <|
  if (mI s 59 (Int32.toNatClampNeg x1)) = 26 then
    f_ck (vp_in x1 7) <|
    if (mI s 58 (Int32.toNatClampNeg x1)) = 0 then
      f_Mo_tests_b104  x1 s
    else
      if x2 = 0 then
        f_Mo_tests_b104  x1 s
      else
        f_Mo_tests_b105  x1 1 s
  else
    f_Mo_tests_b106  x1 x2 s
theorem w_Mo_tests_b76 {x1 : Int32} {x2 : Int32} {s : Sg} {d : Nat} {Q : Option (Option Value) → Sg → Prop} (hd : 2 ≤ d) (h : okx (zq_V Q) (f_Mo_tests_b76 x1 x2 s)) : Xw d M_Mo_tests 0 0 76 [.ref 46, .int x1, .int x2] [] s Q := by
  unfold f_Mo_tests_b76 at h
  refine xi_aload_n D_Mo_tests_76 rfl ?_
  obtain ⟨g17, h⟩ := okx_ck h
  refine xi_getR D_Mo_tests_77 F_Mo_48 (zl_fo (g17).1 rfl) ⟨rfl, by decide⟩ (zl_gr (g17).2 rfl rfl) ?_
  refine xi_iload_n D_Mo_tests_80 rfl ?_
  obtain ⟨g18, h⟩ := okx_ck h
  refine xj_iald D_Mo_tests_81 (zl_fx (g17).1 rfl) (zl_ib (n := 7) rfl (g18)) ?_
  refine xi_bipush (v := 26) D_Mo_tests_82 rfl ?_
  refine xi_icmp_ne D_Mo_tests_84 (fun c19 => ?_) (fun c19 => ?_)
  · have h := okx_F c19 h
    exact w_Mo_tests_b106 (by omega)  h
  · have h := okx_T c19 h
    refine xi_aload_n D_Mo_tests_87 rfl ?_
    refine xi_getR D_Mo_tests_88 F_Mo_45 (zl_fo (g17).1 rfl) ⟨rfl, by decide⟩ (zl_gr (g17).2 rfl rfl) ?_
    refine xi_iload_n D_Mo_tests_91 rfl ?_
    obtain ⟨g20, h⟩ := okx_ck h
    refine xj_iald D_Mo_tests_92 (zl_fx (g17).1 rfl) (zl_ib (n := 7) rfl (g20)) ?_
    refine xi_if_eq D_Mo_tests_93 (fun c21 => ?_) (fun c21 => ?_)
    · have h := okx_T c21 h
      exact xk_wk (w_Mo_tests_b104 (by omega)  h) ⟨Or.inl rfl, Or.inl rfl, Or.inr rfl, trivial⟩
    · have h := okx_F c21 h
      refine xi_iload_n D_Mo_tests_96 rfl ?_
      refine xi_if_eq D_Mo_tests_97 (fun c22 => ?_) (fun c22 => ?_)
      · have h := okx_T c22 h
        exact xk_wk (w_Mo_tests_b104 (by omega)  h) ⟨Or.inl rfl, Or.inl rfl, Or.inr rfl, trivial⟩
      · have h := okx_F c22 h
        refine xj_iconst (v := 1) D_Mo_tests_100 rfl ?_
        refine xi_goto D_Mo_tests_101 ?_
        exact xk_wk (w_Mo_tests_b105 (by omega)  h) ⟨Or.inl rfl, Or.inl rfl, Or.inr rfl, trivial⟩
noncomputable def f_Mo_tests_b75 (x1 : Int32) (y0 : Int32) (s : Sg) : Option (Unit × Sg) :=
  f_Mo_tests_b76  x1 y0 s
theorem w_Mo_tests_b75 {x1 : Int32} {y0 : Int32} {s : Sg} {d : Nat} {Q : Option (Option Value) → Sg → Prop} (hd : 2 ≤ d) (h : okx (zq_V Q) (f_Mo_tests_b75 x1 y0 s)) : Xw d M_Mo_tests 0 0 75 [.ref 46, .int x1, .retAddr 0] [.int y0] s Q := by
  unfold f_Mo_tests_b75 at h
  refine xi_istore_n (ls' := [_, _, _]) D_Mo_tests_75 rfl (by decide) ?_
  exact w_Mo_tests_b76 (by omega)  h
noncomputable def f_Mo_tests_b44 (x1 : Int32) (x2 : Int32) (s : Sg) : Option (Unit × Sg) :=
  f_ck (zl_B s) <|
  f_ck (vp_in x1 7) <|
  if (mI s 61 (Int32.toNatClampNeg x1)) = 25 then
    f_ck (vp_in x1 7) <|
    f_ck (vp_in x1 7) <|
    if (mI s 60 (Int32.toNatClampNeg x1)) = (mI s 62 (Int32.toNatClampNeg x1)) then
      f_Mo_tests_b75  x1 1 s
    else
      f_Mo_tests_b75  x1 0 s
  else
    f_Mo_tests_b76  x1 x2 s
theorem w_Mo_tests_b44 {x1 : Int32} {x2 : Int32} {s : Sg} {d : Nat} {Q : Option (Option Value) → Sg → Prop} (hd : 2 ≤ d) (h : okx (zq_V Q) (f_Mo_tests_b44 x1 x2 s)) : Xw d M_Mo_tests 0 0 44 [.ref 46, .int x1, .int x2] [] s Q := by
  unfold f_Mo_tests_b44 at h
  refine xi_aload_n D_Mo_tests_44 rfl ?_
  obtain ⟨g11, h⟩ := okx_ck h
  refine xi_getR D_Mo_tests_45 F_Mo_54 (zl_fo (g11).1 rfl) ⟨rfl, by decide⟩ (zl_gr (g11).2 rfl rfl) ?_
  refine xi_iload_n D_Mo_tests_48 rfl ?_
  obtain ⟨g12, h⟩ := okx_ck h
  refine xj_iald D_Mo_tests_49 (zl_fx (g11).1 rfl) (zl_ib (n := 7) rfl (g12)) ?_
  refine xi_bipush (v := 25) D_Mo_tests_50 rfl ?_
  refine xi_icmp_ne D_Mo_tests_52 (fun c13 => ?_) (fun c13 => ?_)
  · have h := okx_F c13 h
    exact w_Mo_tests_b76 (by omega)  h
  · have h := okx_T c13 h
    refine xi_aload_n D_Mo_tests_55 rfl ?_
    refine xi_getR D_Mo_tests_56 F_Mo_51 (zl_fo (g11).1 rfl) ⟨rfl, by decide⟩ (zl_gr (g11).2 rfl rfl) ?_
    refine xi_iload_n D_Mo_tests_59 rfl ?_
    obtain ⟨g14, h⟩ := okx_ck h
    refine xj_iald D_Mo_tests_60 (zl_fx (g11).1 rfl) (zl_ib (n := 7) rfl (g14)) ?_
    refine xi_aload_n D_Mo_tests_61 rfl ?_
    refine xi_getR D_Mo_tests_62 F_Mo_57 (zl_fo (g11).1 rfl) ⟨rfl, by decide⟩ (zl_gr (g11).2 rfl rfl) ?_
    refine xi_iload_n D_Mo_tests_65 rfl ?_
    obtain ⟨g15, h⟩ := okx_ck h
    refine xj_iald D_Mo_tests_66 (zl_fx (g11).1 rfl) (zl_ib (n := 7) rfl (g15)) ?_
    refine xi_icmp_ne D_Mo_tests_67 (fun c16 => ?_) (fun c16 => ?_)
    · have h := okx_F c16 h
      refine xj_iconst (v := 0) D_Mo_tests_74 rfl ?_
      exact xk_wk (w_Mo_tests_b75 (by omega)  h) ⟨Or.inl rfl, Or.inl rfl, Or.inr rfl, trivial⟩
    · have h := okx_T c16 h
      refine xj_iconst (v := 1) D_Mo_tests_70 rfl ?_
      refine xi_goto D_Mo_tests_71 ?_
      exact xk_wk (w_Mo_tests_b75 (by omega)  h) ⟨Or.inl rfl, Or.inl rfl, Or.inr rfl, trivial⟩
noncomputable def f_Mo_tests_b43 (x1 : Int32) (y0 : Int32) (s : Sg) : Option (Unit × Sg) :=
  f_Mo_tests_b44  x1 y0 s
theorem w_Mo_tests_b43 {x1 : Int32} {y0 : Int32} {s : Sg} {d : Nat} {Q : Option (Option Value) → Sg → Prop} (hd : 2 ≤ d) (h : okx (zq_V Q) (f_Mo_tests_b43 x1 y0 s)) : Xw d M_Mo_tests 0 0 43 [.ref 46, .int x1, .retAddr 0] [.int y0] s Q := by
  unfold f_Mo_tests_b43 at h
  refine xi_istore_n (ls' := [_, _, _]) D_Mo_tests_43 rfl (by decide) ?_
  exact w_Mo_tests_b44 (by omega)  h
noncomputable def f_Mo_tests (x1 : Int32) (s : Sg) : Option (Unit × Sg) :=
  f_ck (zl_B s) <|
  f_bd (f_Mo_sums x1 s) fun r2 s3 =>
  f_ck (zl_B s3) <|
  f_ck (vp_in x1 7) <|
  f_ck (vp_in x1 7) <|
  if (mI s3 61 (Int32.toNatClampNeg x1)) = 24 then
    f_ck (vp_in x1 7) <|
    f_ck (vp_in x1 7) <|
    if (mI s3 62 (Int32.toNatClampNeg x1)) ≤ (mI s3 60 (Int32.toNatClampNeg x1)) then
      f_Mo_tests_b43  x1 0 s3
    else
      f_Mo_tests_b43  x1 1 s3
  else
    f_Mo_tests_b44  x1 (mI s3 62 (Int32.toNatClampNeg x1)) s3
theorem w_Mo_tests {x1 : Int32} {s : Sg} {d : Nat} {Q : Option (Option Value) → Sg → Prop} (hd : 2 ≤ d) (h : okx (zq_V Q) (f_Mo_tests x1 s)) : Cw d M_Mo_tests [.ref 46, .int x1] s Q := by
  refine Cw.of (by decide +kernel) (Nat.le_of_ble_eq_true rfl) ?_
  show Xw d M_Mo_tests 0 0 0 [.ref 46, .int x1, .retAddr 0] [] s _
  unfold f_Mo_tests at h
  refine xi_aload_n D_Mo_tests_0 rfl ?_
  refine xi_iload_n D_Mo_tests_1 rfl ?_
  obtain ⟨g1, h⟩ := okx_ck h
  refine xj_V1 D_Mo_tests_2 L_Mo_225 C_Mo_sums Z_Mo_sums (zl_fo (g1).1 rfl) (Nat.le_of_ble_eq_true rfl) (Nat.le_of_eq (Nat.sub_add_cancel (by omega))) (w_Mo_sums (by omega) (okx_mono (okx_bd h) ?_))
  intro r2 s3 h
  show Xw _ _ _ _ 5 _ [] _ _
  refine xi_aload_n D_Mo_tests_5 rfl ?_
  obtain ⟨g4, h⟩ := okx_ck h
  refine xi_getR D_Mo_tests_6 F_Mo_57 (zl_fo (g4).1 rfl) ⟨rfl, by decide⟩ (zl_gr (g4).2 rfl rfl) ?_
  refine xi_iload_n D_Mo_tests_9 rfl ?_
  obtain ⟨g5, h⟩ := okx_ck h
  refine xj_iald D_Mo_tests_10 (zl_fx (g4).1 rfl) (zl_ib (n := 7) rfl (g5)) ?_
  refine xi_istore_n (ls' := [_, _, _]) D_Mo_tests_11 rfl (by decide) ?_
  refine xi_aload_n D_Mo_tests_12 rfl ?_
  refine xi_getR D_Mo_tests_13 F_Mo_54 (zl_fo (g4).1 rfl) ⟨rfl, by decide⟩ (zl_gr (g4).2 rfl rfl) ?_
  refine xi_iload_n D_Mo_tests_16 rfl ?_
  obtain ⟨g6, h⟩ := okx_ck h
  refine xj_iald D_Mo_tests_17 (zl_fx (g4).1 rfl) (zl_ib (n := 7) rfl (g6)) ?_
  refine xi_bipush (v := 24) D_Mo_tests_18 rfl ?_
  refine xi_icmp_ne D_Mo_tests_20 (fun c7 => ?_) (fun c7 => ?_)
  · have h := okx_F c7 h
    exact w_Mo_tests_b44 (by omega)  h
  · have h := okx_T c7 h
    refine xi_aload_n D_Mo_tests_23 rfl ?_
    refine xi_getR D_Mo_tests_24 F_Mo_51 (zl_fo (g4).1 rfl) ⟨rfl, by decide⟩ (zl_gr (g4).2 rfl rfl) ?_
    refine xi_iload_n D_Mo_tests_27 rfl ?_
    obtain ⟨g8, h⟩ := okx_ck h
    refine xj_iald D_Mo_tests_28 (zl_fx (g4).1 rfl) (zl_ib (n := 7) rfl (g8)) ?_
    refine xi_aload_n D_Mo_tests_29 rfl ?_
    refine xi_getR D_Mo_tests_30 F_Mo_57 (zl_fo (g4).1 rfl) ⟨rfl, by decide⟩ (zl_gr (g4).2 rfl rfl) ?_
    refine xi_iload_n D_Mo_tests_33 rfl ?_
    obtain ⟨g9, h⟩ := okx_ck h
    refine xj_iald D_Mo_tests_34 (zl_fx (g4).1 rfl) (zl_ib (n := 7) rfl (g9)) ?_
    refine xi_icmp_ge D_Mo_tests_35 (fun c10 => ?_) (fun c10 => ?_)
    · have h := okx_T c10 h
      refine xj_iconst (v := 0) D_Mo_tests_42 rfl ?_
      exact xk_wk (w_Mo_tests_b43 (by omega)  h) ⟨Or.inl rfl, Or.inl rfl, Or.inr rfl, trivial⟩
    · have h := okx_F c10 h
      refine xj_iconst (v := 1) D_Mo_tests_38 rfl ?_
      refine xi_goto D_Mo_tests_39 ?_
      exact xk_wk (w_Mo_tests_b43 (by omega)  h) ⟨Or.inl rfl, Or.inl rfl, Or.inr rfl, trivial⟩
