/-! by a program of ours (wip/whole/gen/func.py, mkall.py) out of the listing: Wo_valueOf Wo_goodOf Wo_scale Wo_forget -/
noncomputable def f_Wo_valueOf (x1 : Int32) (x2 : Int32) (x3 : Int32) (s : Sg) : Option (Int32 × Sg) :=
  f_ck (zl_B s) <|
  f_bd (f_Wo_fill x3 s) fun r2 s3 =>
  f_ck (zl_B s3) <|
  let v5 : Int32 := (((x3 <<< ((7 : Int32) &&& 31)) ||| (x2 <<< ((4 : Int32) &&& 31))) ||| x1)
  f_ck (vp_in v5 32768) <|
  some ((mI s3 17 (Int32.toNatClampNeg v5)), s3)
theorem w_Wo_valueOf {x1 : Int32} {x2 : Int32} {x3 : Int32} {s : Sg} {d : Nat} {Q : Option (Option Value) → Sg → Prop} (hd : 4 ≤ d) (h : okx (zq_I Q) (f_Wo_valueOf x1 x2 x3 s)) : Cw d M_Wo_valueOf [.ref 6, .int x1, .int x2, .int x3] s Q := by
  refine Cw.of (by decide +kernel) (Nat.le_of_ble_eq_true rfl) ?_
  show Xw d M_Wo_valueOf 0 0 0 [.ref 6, .int x1, .int x2, .int x3] [] s _
  unfold f_Wo_valueOf at h
  refine xi_aload_n D_Wo_valueOf_0 rfl ?_
  refine xi_iload_n D_Wo_valueOf_1 rfl ?_
  obtain ⟨g1, h⟩ := okx_ck h
  refine xj_V1 D_Wo_valueOf_2 L_Wo_43 C_Wo_fill Z_Wo_fill (zl_fo (g1).1 rfl) (Nat.le_of_ble_eq_true rfl) (Nat.le_of_eq (Nat.sub_add_cancel (by omega))) (w_Wo_fill (by omega) (okx_mono (okx_bd h) ?_))
  intro r2 s3 h
  show Xw _ _ _ _ 5 _ [] _ _
  refine xi_aload_n D_Wo_valueOf_5 rfl ?_
  obtain ⟨g4, h⟩ := okx_ck h
  refine xi_getR D_Wo_valueOf_6 F_Wo_19 (zl_fo (g4).1 rfl) ⟨rfl, by decide⟩ (zl_gr (g4).2 rfl rfl) ?_
  refine xi_iload_n D_Wo_valueOf_9 rfl ?_
  refine xi_bipush (v := 7) D_Wo_valueOf_10 rfl ?_
  refine xi_ishl D_Wo_valueOf_12 ?_
  refine xi_iload_n D_Wo_valueOf_13 rfl ?_
  refine xj_iconst (v := 4) D_Wo_valueOf_14 rfl ?_
  refine xi_ishl D_Wo_valueOf_15 ?_
  refine xi_ior D_Wo_valueOf_16 ?_
  refine xi_iload_n D_Wo_valueOf_17 rfl ?_
  refine xi_ior D_Wo_valueOf_18 ?_
  obtain ⟨g6, h⟩ := okx_ck h
  refine xj_iald D_Wo_valueOf_19 (zl_fx (g4).1 rfl) (zl_ib (n := 32768) rfl (g6)) ?_
  exact xi_ireturn D_Wo_valueOf_20 rfl (rfl) (okx_I h)
noncomputable def f_Wo_goodOf_b26 (R26 : Int32 → Int32 → Int32 → Sg → Option (Int32 × Sg)) (x1 : Int32) (x2 : Int32) (x3 : Int32) (s : Sg) : Option (Int32 × Sg) :=
  f_ck (zl_B s) <|
  if (mI s 7 0) ≤ x3 then
    some (x2, s)
  else
    f_bd (f_Wk_stepIn x1 x3 s) fun r9 s10 =>
    f_ck (zl_B s10) <|
    f_ck (vp_in ((x3 * 4) + r9) 16) <|
    let v13 : Int32 := (x2 - (mI s10 9 (Int32.toNatClampNeg ((x3 * 4) + r9))))
    R26 x1 v13 (x3 + 1) s10
theorem w_Wo_goodOf_b26 {x1 : Int32} {x2 : Int32} {x3 : Int32} {s : Sg} {d : Nat} {Q : Option (Option Value) → Sg → Prop} (hd : 5 ≤ d) {R26 : Int32 → Int32 → Int32 → Sg → Option (Int32 × Sg)} (hR26 : ∀ (x1 : Int32) (x2 : Int32) (x3 : Int32) (s : Sg), okx (zq_I Q) (R26 x1 x2 x3 s) → Xw d M_Wo_goodOf 0 0 26 [.ref 6, .int x1, .int x2, .int x3] [] s Q) (h : okx (zq_I Q) (f_Wo_goodOf_b26 R26 x1 x2 x3 s)) : Xw d M_Wo_goodOf 0 0 26 [.ref 6, .int x1, .int x2, .int x3] [] s Q := by
  unfold f_Wo_goodOf_b26 at h
  refine xi_iload_n D_Wo_goodOf_26 rfl ?_
  refine xi_aload_n D_Wo_goodOf_27 rfl ?_
  obtain ⟨g7, h⟩ := okx_ck h
  refine xi_getR D_Wo_goodOf_28 F_Wo_12 (zl_fo (g7).1 rfl) ⟨rfl, by decide⟩ (zl_gr (g7).2 rfl rfl) ?_
  refine xi_getI D_Wo_goodOf_31 F_Wo_58 (zl_fo (g7).1 rfl) ⟨rfl, by decide⟩ ?_
  refine xi_icmp_ge D_Wo_goodOf_34 (fun c8 => ?_) (fun c8 => ?_)
  · have h := okx_T c8 h
    refine xi_iload_n D_Wo_goodOf_63 rfl ?_
    exact xi_ireturn D_Wo_goodOf_64 rfl (rfl) (okx_I h)
  · have h := okx_F c8 h
    refine xi_iload_n D_Wo_goodOf_37 rfl ?_
    refine xi_aload_n D_Wo_goodOf_38 rfl ?_
    refine xi_getR D_Wo_goodOf_39 F_Wo_12 (zl_fo (g7).1 rfl) ⟨rfl, by decide⟩ (zl_gr (g7).2 rfl rfl) ?_
    refine xi_getR D_Wo_goodOf_42 F_Wo_61 (zl_fo (g7).1 rfl) ⟨rfl, by decide⟩ (zl_gr (g7).2 rfl rfl) ?_
    refine xi_iload_n D_Wo_goodOf_45 rfl ?_
    refine xj_iconst (v := 4) D_Wo_goodOf_46 rfl ?_
    refine xi_imul D_Wo_goodOf_47 ?_
    refine xi_iload_n D_Wo_goodOf_48 rfl ?_
    refine xi_iload_n D_Wo_goodOf_49 rfl ?_
    refine xj_SN2 D_Wo_goodOf_50 L_Wo_64 C_Wk_stepIn Z_Wk_stepIn (Nat.le_of_ble_eq_true rfl) (Nat.le_of_eq (Nat.sub_add_cancel (by omega))) (w_Wk_stepIn (by omega) (okx_mono (okx_bd h) ?_))
    intro r9 s10 h
    refine ⟨Option.some_ne_none _, ?_⟩
    show Xw _ _ _ _ 53 _ [_, _, _, _] _ _
    refine xi_iadd D_Wo_goodOf_53 ?_
    obtain ⟨g11, h⟩ := okx_ck h
    obtain ⟨g12, h⟩ := okx_ck h
    refine xj_iald D_Wo_goodOf_54 (zl_fx (g11).1 rfl) (zl_ib (n := 16) rfl (g12)) ?_
    refine xi_isub D_Wo_goodOf_55 ?_
    refine xi_istore_n (ls' := [_, _, _, _]) D_Wo_goodOf_56 rfl (by decide) ?_
    refine xi_iinc (v := _ + 1) (ls' := [_, _, _, _]) D_Wo_goodOf_57 rfl rfl rfl (by decide) ?_
    refine xi_goto D_Wo_goodOf_60 ?_
    exact hR26 _ _ _ _ h
noncomputable def f_Wo_goodOf_h26 : Nat → Int32 → Int32 → Int32 → Sg → Option (Int32 × Sg)
  | 0, _, _, _, _ => none
  | n + 1, x1, x2, x3, s => f_Wo_goodOf_b26 (f_Wo_goodOf_h26 n) x1 x2 x3 s
theorem w_Wo_goodOf_h26 {d : Nat} {Q : Option (Option Value) → Sg → Prop} (hd : 5 ≤ d) : ∀ (n : Nat) (x1 : Int32) (x2 : Int32) (x3 : Int32) (s : Sg), okx (zq_I Q) (f_Wo_goodOf_h26 n x1 x2 x3 s) → Xw d M_Wo_goodOf 0 0 26 [.ref 6, .int x1, .int x2, .int x3] [] s Q := by
  intro n
  induction n with
  | zero => intro x1 x2 x3 s h; exact okx_no h
  | succ n ih => intro x1 x2 x3 s h; exact w_Wo_goodOf_b26 hd  ih  h
noncomputable def f_Wo_goodOf (x1 : Int32) (s : Sg) : Option (Int32 × Sg) :=
  f_ck (zl_B s) <|
  f_bd (f_To_all 7 s) fun r2 s3 =>
  f_ck (zl_B s3) <|
  f_bd (f_Wo_valueOf r2 (((1 : Int32) <<< ((mI s3 7 1) &&& 31)) - 1) x1 s3) fun r5 s6 =>
  f_Wo_goodOf_h26  zl_fl x1 r5 0 s6
theorem w_Wo_goodOf {x1 : Int32} {s : Sg} {d : Nat} {Q : Option (Option Value) → Sg → Prop} (hd : 5 ≤ d) (h : okx (zq_I Q) (f_Wo_goodOf x1 s)) : Cw d M_Wo_goodOf [.ref 6, .int x1] s Q := by
  refine Cw.of (by decide +kernel) (Nat.le_of_ble_eq_true rfl) ?_
  show Xw d M_Wo_goodOf 0 0 0 [.ref 6, .int x1, .retAddr 0, .retAddr 0] [] s _
  unfold f_Wo_goodOf at h
  refine xi_aload_n D_Wo_goodOf_0 rfl ?_
  refine xi_aload_n D_Wo_goodOf_1 rfl ?_
  obtain ⟨g1, h⟩ := okx_ck h
  refine xi_getR D_Wo_goodOf_2 F_Wo_12 (zl_fo (g1).1 rfl) ⟨rfl, by decide⟩ (zl_gr (g1).2 rfl rfl) ?_
  refine xj_V0 D_Wo_goodOf_5 L_Wo_47 C_To_all Z_To_all (zl_fo (g1).1 rfl) (Nat.le_of_ble_eq_true rfl) (Nat.le_of_eq (Nat.sub_add_cancel (by omega))) (w_To_all (by omega) (okx_mono (okx_bd h) ?_))
  intro r2 s3 h
  show Xw _ _ _ _ 8 _ [_, _] _ _
  refine xj_iconst (v := 1) D_Wo_goodOf_8 rfl ?_
  refine xi_aload_n D_Wo_goodOf_9 rfl ?_
  obtain ⟨g4, h⟩ := okx_ck h
  refine xi_getR D_Wo_goodOf_10 F_Wo_12 (zl_fo (g4).1 rfl) ⟨rfl, by decide⟩ (zl_gr (g4).2 rfl rfl) ?_
  refine xi_getI D_Wo_goodOf_13 F_Wo_51 (zl_fo (g4).1 rfl) ⟨rfl, by decide⟩ ?_
  refine xi_ishl D_Wo_goodOf_16 ?_
  refine xj_iconst (v := 1) D_Wo_goodOf_17 rfl ?_
  refine xi_isub D_Wo_goodOf_18 ?_
  refine xi_iload_n D_Wo_goodOf_19 rfl ?_
  refine xj_V3 D_Wo_goodOf_20 L_Wo_54 C_Wo_valueOf Z_Wo_valueOf (zl_fo (g4).1 rfl) (Nat.le_of_ble_eq_true rfl) (Nat.le_of_eq (Nat.sub_add_cancel (by omega))) (w_Wo_valueOf (by omega) (okx_mono (okx_bd h) ?_))
  intro r5 s6 h
  show Xw _ _ _ _ 23 _ [_] _ _
  refine xi_istore_n (ls' := [_, _, _, _]) D_Wo_goodOf_23 rfl (by decide) ?_
  refine xj_iconst (v := 0) D_Wo_goodOf_24 rfl ?_
  refine xi_istore_n (ls' := [_, _, _, _]) D_Wo_goodOf_25 rfl (by decide) ?_
  exact w_Wo_goodOf_h26 (by omega)  _ _ _ _ _ h
noncomputable def f_Wo_scale (x1 : Int32) (x2 : Int32) (s : Sg) : Option (Unit × Sg) :=
  f_ck (zl_B s) <|
  let s2 : Sg := uI s 6 6 x1
  let s3 : Sg := uI s2 6 7 x2
  let s4 : Sg := uI s3 6 5 ((mI s3 6 5) + 1)
  some ((), s4)
theorem w_Wo_scale {x1 : Int32} {x2 : Int32} {s : Sg} {d : Nat} {Q : Option (Option Value) → Sg → Prop} (hd : 1 ≤ d) (h : okx (zq_V Q) (f_Wo_scale x1 x2 s)) : Cw d M_Wo_scale [.ref 6, .int x1, .int x2] s Q := by
  refine Cw.of (by decide +kernel) (Nat.le_of_ble_eq_true rfl) ?_
  show Xw d M_Wo_scale 0 0 0 [.ref 6, .int x1, .int x2] [] s _
  unfold f_Wo_scale at h
  refine xi_aload_n D_Wo_scale_0 rfl ?_
  refine xi_iload_n D_Wo_scale_1 rfl ?_
  obtain ⟨g1, h⟩ := okx_ck h
  refine xi_putI D_Wo_scale_2 F_Wo_37 (zl_fo (g1).1 rfl) ⟨rfl, by decide, rfl⟩ (⟨rfl, rfl⟩) ?_
  refine xi_aload_n D_Wo_scale_5 rfl ?_
  refine xi_iload_n D_Wo_scale_6 rfl ?_
  refine xi_putI D_Wo_scale_7 F_Wo_40 (zl_fo (g1).1 rfl) ⟨rfl, by decide, rfl⟩ (⟨rfl, rfl⟩) ?_
  refine xi_aload_n D_Wo_scale_10 rfl ?_
  refine xi_dupr D_Wo_scale_11 ?_
  refine xi_getI D_Wo_scale_12 F_Wo_33 (zl_fo (g1).1 rfl) ⟨rfl, by decide⟩ ?_
  refine xj_iconst (v := 1) D_Wo_scale_15 rfl ?_
  refine xi_iadd D_Wo_scale_16 ?_
  refine xi_putI D_Wo_scale_17 F_Wo_33 (zl_fo (g1).1 rfl) ⟨rfl, by decide, rfl⟩ (⟨rfl, rfl⟩) ?_
  exact xi_return D_Wo_scale_20 rfl (okx_V h)
noncomputable def f_Wo_forget  (s : Sg) : Option (Unit × Sg) :=
  f_ck (zl_B s) <|
  let s2 : Sg := uI s 6 5 ((mI s 6 5) + 1)
  some ((), s2)
theorem w_Wo_forget {s : Sg} {d : Nat} {Q : Option (Option Value) → Sg → Prop} (hd : 1 ≤ d) (h : okx (zq_V Q) (f_Wo_forget  s)) : Cw d M_Wo_forget [.ref 6] s Q := by
  refine Cw.of (by decide +kernel) (Nat.le_of_ble_eq_true rfl) ?_
  show Xw d M_Wo_forget 0 0 0 [.ref 6] [] s _
  unfold f_Wo_forget at h
  refine xi_aload_n D_Wo_forget_0 rfl ?_
  refine xi_dupr D_Wo_forget_1 ?_
  obtain ⟨g1, h⟩ := okx_ck h
  refine xi_getI D_Wo_forget_2 F_Wo_33 (zl_fo (g1).1 rfl) ⟨rfl, by decide⟩ ?_
  refine xj_iconst (v := 1) D_Wo_forget_5 rfl ?_
  refine xi_iadd D_Wo_forget_6 ?_
  refine xi_putI D_Wo_forget_7 F_Wo_33 (zl_fo (g1).1 rfl) ⟨rfl, by decide, rfl⟩ (⟨rfl, rfl⟩) ?_
  exact xi_return D_Wo_forget_10 rfl (okx_V h)
