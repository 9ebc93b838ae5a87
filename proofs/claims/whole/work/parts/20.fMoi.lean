/-! by a program of ours (wip/whole/gen/func.py, mkall.py) out of the listing: Mo_written -/
noncomputable def f_Mo_written_b64 (x3 : Int32) (y1 : Int32) (s : Sg) : Option (Int32 × Sg) :=
  f_ck (zl_B s) <|
  let s20 : Sg := uI s 46 0 y1
  if (mI s20 46 0) = 1 then
    some (0, s20)
  else
    f_bd (f_Mo_goodOf x3 s20) fun r22 s23 =>
    some (r22, s23)
theorem w_Mo_written_b64 {x3 : Int32} {y1 : Int32} {s : Sg} {d : Nat} {Q : Option (Option Value) → Sg → Prop} (hd : 11 ≤ d) (h : okx (zq_I Q) (f_Mo_written_b64 x3 y1 s)) : Xw d M_Mo_written 0 0 64 [.ref 46, .retAddr 0, .retAddr 0, .int x3] [.int y1, .ref 46] s Q := by
  unfold f_Mo_written_b64 at h
  obtain ⟨g19, h⟩ := okx_ck h
  refine xi_putI D_Mo_written_64 F_Mo_114 (zl_fo (g19).1 rfl) ⟨rfl, by decide, rfl⟩ (⟨rfl, rfl⟩) ?_
  refine xi_aload_n D_Mo_written_67 rfl ?_
  refine xi_getI D_Mo_written_68 F_Mo_114 (zl_fo (g19).1 rfl) ⟨rfl, by decide⟩ ?_
  refine xj_iconst (v := 1) D_Mo_written_71 rfl ?_
  refine xi_icmp_ne D_Mo_written_72 (fun c21 => ?_) (fun c21 => ?_)
  · have h := okx_F c21 h
    refine xi_aload_n D_Mo_written_79 rfl ?_
    refine xi_iload_n D_Mo_written_80 rfl ?_
    refine xj_V1 D_Mo_written_81 L_Mo_387 C_Mo_goodOf Z_Mo_goodOf (zl_fo (g19).1 rfl) (Nat.le_of_ble_eq_true rfl) (Nat.le_of_eq (Nat.sub_add_cancel (by omega))) (w_Mo_goodOf (by omega) (okx_mono (okx_bd h) ?_))
    intro r22 s23 h
    show Xw _ _ _ _ 84 _ [_] _ _
    exact xi_ireturn D_Mo_written_84 rfl (rfl) (okx_I h)
  · have h := okx_T c21 h
    refine xj_iconst (v := 0) D_Mo_written_75 rfl ?_
    refine xi_goto D_Mo_written_76 ?_
    exact xi_ireturn D_Mo_written_84 rfl (rfl) (okx_I h)
noncomputable def f_Mo_written_b53 (y0 : Int32) (s : Sg) : Option (Int32 × Sg) :=
  if 0 ≤ y0 then
    f_Mo_written_b64  y0 0 s
  else
    f_Mo_written_b64  y0 1 s
theorem w_Mo_written_b53 {y0 : Int32} {s : Sg} {d : Nat} {Q : Option (Option Value) → Sg → Prop} (hd : 11 ≤ d) (h : okx (zq_I Q) (f_Mo_written_b53 y0 s)) : Xw d M_Mo_written 0 0 53 [.ref 46, .retAddr 0, .retAddr 0, .retAddr 0] [.int y0] s Q := by
  unfold f_Mo_written_b53 at h
  refine xi_istore_n (ls' := [_, _, _, _]) D_Mo_written_53 rfl (by decide) ?_
  refine xi_aload_n D_Mo_written_54 rfl ?_
  refine xi_iload_n D_Mo_written_55 rfl ?_
  refine xi_if_ge D_Mo_written_56 (fun c18 => ?_) (fun c18 => ?_)
  · have h := okx_T c18 h
    refine xj_iconst (v := 0) D_Mo_written_63 rfl ?_
    exact w_Mo_written_b64 (by omega)  h
  · have h := okx_F c18 h
    refine xj_iconst (v := 1) D_Mo_written_59 rfl ?_
    refine xi_goto D_Mo_written_60 ?_
    exact w_Mo_written_b64 (by omega)  h
noncomputable def f_Mo_written_b28 (x1 : Int32) (x2 : Int32) (y1 : Int32) (s : Sg) : Option (Int32 × Sg) :=
  f_ck (zl_B s) <|
  let s11 : Sg := uI s 46 0 y1
  f_bd (f_Mo_asItIs  s11) fun r12 s13 =>
  f_ck (zl_B s13) <|
  if (mI s13 46 0) = 1 then
    f_Mo_written_b53  (-1) s13
  else
    f_bd (f_Mo_turnsOut x1 x2 s13) fun r16 s17 =>
    f_Mo_written_b53  r16 s17
theorem w_Mo_written_b28 {x1 : Int32} {x2 : Int32} {y1 : Int32} {s : Sg} {d : Nat} {Q : Option (Option Value) → Sg → Prop} (hd : 11 ≤ d) (h : okx (zq_I Q) (f_Mo_written_b28 x1 x2 y1 s)) : Xw d M_Mo_written 0 0 28 [.ref 46, .int x1, .int x2, .retAddr 0] [.int y1, .ref 46] s Q := by
  unfold f_Mo_written_b28 at h
  obtain ⟨g10, h⟩ := okx_ck h
  refine xi_putI D_Mo_written_28 F_Mo_114 (zl_fo (g10).1 rfl) ⟨rfl, by decide, rfl⟩ (⟨rfl, rfl⟩) ?_
  refine xi_aload_n D_Mo_written_31 rfl ?_
  refine xj_V0 D_Mo_written_32 L_Mo_325 C_Mo_asItIs Z_Mo_asItIs (zl_fo (g10).1 rfl) (Nat.le_of_ble_eq_true rfl) (Nat.le_of_eq (Nat.sub_add_cancel (by omega))) (w_Mo_asItIs (by omega) (okx_mono (okx_bd h) ?_))
  intro r12 s13 h
  show Xw _ _ _ _ 35 _ [] _ _
  refine xi_aload_n D_Mo_written_35 rfl ?_
  obtain ⟨g14, h⟩ := okx_ck h
  refine xi_getI D_Mo_written_36 F_Mo_114 (zl_fo (g14).1 rfl) ⟨rfl, by decide⟩ ?_
  refine xj_iconst (v := 1) D_Mo_written_39 rfl ?_
  refine xi_icmp_ne D_Mo_written_40 (fun c15 => ?_) (fun c15 => ?_)
  · have h := okx_F c15 h
    refine xi_aload_n D_Mo_written_47 rfl ?_
    refine xi_iload_n D_Mo_written_48 rfl ?_
    refine xi_iload_n D_Mo_written_49 rfl ?_
    refine xj_V2 D_Mo_written_50 L_Mo_384 C_Mo_turnsOut Z_Mo_turnsOut (zl_fo (g14).1 rfl) (Nat.le_of_ble_eq_true rfl) (Nat.le_of_eq (Nat.sub_add_cancel (by omega))) (w_Mo_turnsOut (by omega) (okx_mono (okx_bd h) ?_))
    intro r16 s17 h
    show Xw _ _ _ _ 53 _ [_] _ _
    exact xk_wk (w_Mo_written_b53 (by omega)  h) ⟨Or.inl rfl, Or.inr rfl, Or.inr rfl, Or.inl rfl, trivial⟩
  · have h := okx_T c15 h
    refine xj_iconst (v := (-1)) D_Mo_written_43 rfl ?_
    refine xi_goto D_Mo_written_44 ?_
    exact xk_wk (w_Mo_written_b53 (by omega)  h) ⟨Or.inl rfl, Or.inr rfl, Or.inr rfl, Or.inl rfl, trivial⟩
noncomputable def f_Mo_written_b27 (x1 : Int32) (x2 : Int32) (s : Sg) : Option (Int32 × Sg) :=
  f_Mo_written_b28  x1 x2 1 s
theorem w_Mo_written_b27 {x1 : Int32} {x2 : Int32} {s : Sg} {d : Nat} {Q : Option (Option Value) → Sg → Prop} (hd : 11 ≤ d) (h : okx (zq_I Q) (f_Mo_written_b27 x1 x2 s)) : Xw d M_Mo_written 0 0 27 [.ref 46, .int x1, .int x2, .retAddr 0] [.ref 46] s Q := by
  unfold f_Mo_written_b27 at h
  refine xj_iconst (v := 1) D_Mo_written_27 rfl ?_
  exact w_Mo_written_b28 (by omega)  h
noncomputable def f_Mo_written (x1 : Int32) (x2 : Int32) (s : Sg) : Option (Int32 × Sg) :=
  f_ck (zl_B s) <|
  f_bd (f_Mo_isPerson x1 s) fun r2 s3 =>
  if r2 = 0 then
    f_Mo_written_b27  x1 x2 s3
  else
    f_ck (zl_B s3) <|
    f_ck (vp_in x1 8) <|
    f_bd (f_Mo_within x2 0 (mI s3 49 (Int32.toNatClampNeg x1)) s3) fun r7 s8 =>
    if r7 = 0 then
      f_Mo_written_b27  x1 x2 s8
    else
      f_Mo_written_b28  x1 x2 0 s8
theorem w_Mo_written {x1 : Int32} {x2 : Int32} {s : Sg} {d : Nat} {Q : Option (Option Value) → Sg → Prop} (hd : 11 ≤ d) (h : okx (zq_I Q) (f_Mo_written x1 x2 s)) : Cw d M_Mo_written [.ref 46, .int x1, .int x2] s Q := by
  refine Cw.of (by decide +kernel) (Nat.le_of_ble_eq_true rfl) ?_
  show Xw d M_Mo_written 0 0 0 [.ref 46, .int x1, .int x2, .retAddr 0] [] s _
  unfold f_Mo_written at h
  refine xi_aload_n D_Mo_written_0 rfl ?_
  refine xi_aload_n D_Mo_written_1 rfl ?_
  refine xi_iload_n D_Mo_written_2 rfl ?_
  obtain ⟨g1, h⟩ := okx_ck h
  refine xj_V1 D_Mo_written_3 L_Mo_265 C_Mo_isPerson Z_Mo_isPerson (zl_fo (g1).1 rfl) (Nat.le_of_ble_eq_true rfl) (Nat.le_of_eq (Nat.sub_add_cancel (by omega))) (w_Mo_isPerson (by omega) (okx_mono (okx_bd h) ?_))
  intro r2 s3 h
  show Xw _ _ _ _ 6 _ [_, _] _ _
  refine xi_if_eq D_Mo_written_6 (fun c4 => ?_) (fun c4 => ?_)
  · have h := okx_T c4 h
    exact w_Mo_written_b27 (by omega)  h
  · have h := okx_F c4 h
    refine xi_iload_n D_Mo_written_9 rfl ?_
    refine xj_iconst (v := 0) D_Mo_written_10 rfl ?_
    refine xi_aload_n D_Mo_written_11 rfl ?_
    obtain ⟨g5, h⟩ := okx_ck h
    refine xi_getR D_Mo_written_12 F_Mo_17 (zl_fo (g5).1 rfl) ⟨rfl, by decide⟩ (zl_gr (g5).2 rfl rfl) ?_
    refine xi_iload_n D_Mo_written_15 rfl ?_
    obtain ⟨g6, h⟩ := okx_ck h
    refine xj_iald D_Mo_written_16 (zl_fx (g5).1 rfl) (zl_ib (n := 8) rfl (g6)) ?_
    refine xj_S3 D_Mo_written_17 L_Mo_268 C_Mo_within Z_Mo_within (Nat.le_of_ble_eq_true rfl) (Nat.le_of_eq (Nat.sub_add_cancel (by omega))) (w_Mo_within (by omega) (okx_mono (okx_bd h) ?_))
    intro r7 s8 h
    show Xw _ _ _ _ 20 _ [_, _] _ _
    refine xi_if_eq D_Mo_written_20 (fun c9 => ?_) (fun c9 => ?_)
    · have h := okx_T c9 h
      exact w_Mo_written_b27 (by omega)  h
    · have h := okx_F c9 h
      refine xj_iconst (v := 0) D_Mo_written_23 rfl ?_
      refine xi_goto D_Mo_written_24 ?_
      exact w_Mo_written_b28 (by omega)  h
