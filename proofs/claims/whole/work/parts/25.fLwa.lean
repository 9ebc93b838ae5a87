/-! by a program of ours (wip/whole/gen/func.py, mkall.py) out of the listing: La_best La_good La_leaving La_lender La_makes La_oneHand La_reached La_rest La_right La_rightPrice La_share La_worth La_writing La_written -/
noncomputable def f_La_best (x1 : Int32) (s : Sg) : Option (Int32 × Sg) :=
  f_ck (zl_B s) <|
  f_bd (f_Wk_best x1 s) fun r2 s3 =>
  f_mt r2 (
    some (1, s3)
  ) fun r4 =>
  f_ck (zl_B s3) <|
  let s6 : Sg := uL s3 80 (Int32.toNatClampNeg (0 : Int32)) (Int32.toInt64 r4)
  some (0, s6)
theorem w_La_best {x1 : Int32} {s : Sg} {d : Nat} {Q : Option (Option Value) → Sg → Prop} (hd : 10 ≤ d) (h : okx (zq_I Q) (f_La_best x1 s)) : Cw d M_La_best [.ref 4, .int x1, .ref 80] s Q := by
  refine Cw.of (by decide +kernel) (Nat.le_of_ble_eq_true rfl) ?_
  show Xw d M_La_best 1 6 0 [.ref 4, .int x1, .ref 80, .retAddr 0] [] s _
  unfold f_La_best at h
  refine xi_aload_n D_La_best_0 rfl ?_
  refine xj_iconst (v := 0) D_La_best_1 rfl ?_
  refine xi_aload_n D_La_best_2 rfl ?_
  refine xi_iload_n D_La_best_3 rfl ?_
  obtain ⟨g1, h⟩ := okx_ck h
  refine xi_VT (k := 5) [_] (i := 3) D_La_best_4 L_La_30 C_Wk_best.1 C_Wk_best.2.1 ⟨zl_fo (g1).1 rfl, rfl⟩ ⟨Nat.le_of_ble_eq_true rfl, C_Wk_best.2.2.1, (Nat.le_of_eq (Nat.sub_add_cancel (by omega))), by decide, by decide⟩ rfl (by decide) (by decide) J_La_13 D_La_best_12 (Or.inr ⟨_, rfl, rfl, rfl⟩) (by decide) (w_Wk_best (by omega) (okx_mono (okx_bd h) ?_))
  intro r2 s3 h
  rcases r2 with _ | r4
  · show Xw _ _ _ _ 13 [_, _, _, _] [] _ _
    refine xj_iconst (v := 1) D_La_best_13 rfl ?_
    exact xi_ireturn D_La_best_14 rfl (rfl) (okx_I h)
  show Xw _ _ _ _ 7 _ [_, _, _] _ _
  refine xi_i2l D_La_best_7 ?_
  obtain ⟨g5, h⟩ := okx_ck h
  refine xj_last D_La_best_8 (zl_fx (g5).1 rfl) (zl_ib (n := 1) rfl (zl_vin rfl)) ?_
  refine xi_goto D_La_best_9 ?_
  refine xj_iconst (v := 0) D_La_best_15 rfl ?_
  exact xi_ireturn D_La_best_16 rfl (rfl) (okx_I h)
noncomputable def f_La_good (x1 : Int32) (s : Sg) : Option (Int32 × Sg) :=
  f_ck (zl_B s) <|
  f_bd (f_Wk_good x1 s) fun r2 s3 =>
  f_mt r2 (
    some (1, s3)
  ) fun r4 =>
  f_ck (zl_B s3) <|
  let s6 : Sg := uL s3 80 (Int32.toNatClampNeg (0 : Int32)) (Int32.toInt64 r4)
  some (0, s6)
theorem w_La_good {x1 : Int32} {s : Sg} {d : Nat} {Q : Option (Option Value) → Sg → Prop} (hd : 10 ≤ d) (h : okx (zq_I Q) (f_La_good x1 s)) : Cw d M_La_good [.ref 4, .int x1, .ref 80] s Q := by
  refine Cw.of (by decide +kernel) (Nat.le_of_ble_eq_true rfl) ?_
  show Xw d M_La_good 1 6 0 [.ref 4, .int x1, .ref 80, .retAddr 0] [] s _
  unfold f_La_good at h
  refine xi_aload_n D_La_good_0 rfl ?_
  refine xj_iconst (v := 0) D_La_good_1 rfl ?_
  refine xi_aload_n D_La_good_2 rfl ?_
  refine xi_iload_n D_La_good_3 rfl ?_
  obtain ⟨g1, h⟩ := okx_ck h
  refine xi_VT (k := 5) [_] (i := 3) D_La_good_4 L_La_27 C_Wk_good.1 C_Wk_good.2.1 ⟨zl_fo (g1).1 rfl, rfl⟩ ⟨Nat.le_of_ble_eq_true rfl, C_Wk_good.2.2.1, (Nat.le_of_eq (Nat.sub_add_cancel (by omega))), by decide, by decide⟩ rfl (by decide) (by decide) J_La_13 D_La_good_12 (Or.inr ⟨_, rfl, rfl, rfl⟩) (by decide) (w_Wk_good (by omega) (okx_mono (okx_bd h) ?_))
  intro r2 s3 h
  rcases r2 with _ | r4
  · show Xw _ _ _ _ 13 [_, _, _, _] [] _ _
    refine xj_iconst (v := 1) D_La_good_13 rfl ?_
    exact xi_ireturn D_La_good_14 rfl (rfl) (okx_I h)
  show Xw _ _ _ _ 7 _ [_, _, _] _ _
  refine xi_i2l D_La_good_7 ?_
  obtain ⟨g5, h⟩ := okx_ck h
  refine xj_last D_La_good_8 (zl_fx (g5).1 rfl) (zl_ib (n := 1) rfl (zl_vin rfl)) ?_
  refine xi_goto D_La_good_9 ?_
  refine xj_iconst (v := 0) D_La_good_15 rfl ?_
  exact xi_ireturn D_La_good_16 rfl (rfl) (okx_I h)
noncomputable def f_La_leaving (x1 : Int32) (x2 : Int32) (s : Sg) : Option (Int32 × Sg) :=
  f_ck (zl_B s) <|
  f_bd (f_Wk_leaving x1 x2 s) fun r2 s3 =>
  f_mt r2 (
    some (1, s3)
  ) fun r4 =>
  f_ck (zl_B s3) <|
  let s6 : Sg := uL s3 80 (Int32.toNatClampNeg (0 : Int32)) (Int32.toInt64 r4)
  some (0, s6)
theorem w_La_leaving {x1 : Int32} {x2 : Int32} {s : Sg} {d : Nat} {Q : Option (Option Value) → Sg → Prop} (hd : 10 ≤ d) (h : okx (zq_I Q) (f_La_leaving x1 x2 s)) : Cw d M_La_leaving [.ref 4, .int x1, .int x2, .ref 80] s Q := by
  refine Cw.of (by decide +kernel) (Nat.le_of_ble_eq_true rfl) ?_
  show Xw d M_La_leaving 1 6 0 [.ref 4, .int x1, .int x2, .ref 80, .retAddr 0] [] s _
  unfold f_La_leaving at h
  refine xi_aload_n D_La_leaving_0 rfl ?_
  refine xj_iconst (v := 0) D_La_leaving_1 rfl ?_
  refine xi_aload_n D_La_leaving_2 rfl ?_
  refine xi_iload_n D_La_leaving_3 rfl ?_
  refine xi_iload_n D_La_leaving_4 rfl ?_
  obtain ⟨g1, h⟩ := okx_ck h
  refine xi_VT (k := 5) [_, _] (i := 4) D_La_leaving_5 L_La_55 C_Wk_leaving.1 C_Wk_leaving.2.1 ⟨zl_fo (g1).1 rfl, rfl⟩ ⟨Nat.le_of_ble_eq_true rfl, C_Wk_leaving.2.2.1, (Nat.le_of_eq (Nat.sub_add_cancel (by omega))), by decide, by decide⟩ rfl (by decide) (by decide) J_La_13 D_La_leaving_13 (Or.inl ⟨rfl, rfl⟩) (by decide) (w_Wk_leaving (by omega) (okx_mono (okx_bd h) ?_))
  intro r2 s3 h
  rcases r2 with _ | r4
  · show Xw _ _ _ _ 15 [_, _, _, _, _] [] _ _
    refine xj_iconst (v := 1) D_La_leaving_15 rfl ?_
    exact xi_ireturn D_La_leaving_16 rfl (rfl) (okx_I h)
  show Xw _ _ _ _ 8 _ [_, _, _] _ _
  refine xi_i2l D_La_leaving_8 ?_
  obtain ⟨g5, h⟩ := okx_ck h
  refine xj_last D_La_leaving_9 (zl_fx (g5).1 rfl) (zl_ib (n := 1) rfl (zl_vin rfl)) ?_
  refine xi_goto D_La_leaving_10 ?_
  refine xj_iconst (v := 0) D_La_leaving_17 rfl ?_
  exact xi_ireturn D_La_leaving_18 rfl (rfl) (okx_I h)
noncomputable def f_La_lender (x1 : Int32) (x2 : Int32) (x3 : Int32) (x4 : Int32) (s : Sg) : Option (Int32 × Sg) :=
  f_ck (zl_B s) <|
  f_bd (f_Wk_lender x1 x2 x3 x4 s) fun r2 s3 =>
  f_mt r2 (
    some (1, s3)
  ) fun r4 =>
  f_ck (zl_B s3) <|
  let s6 : Sg := uL s3 80 (Int32.toNatClampNeg (0 : Int32)) (Int32.toInt64 r4)
  some (0, s6)
theorem w_La_lender {x1 : Int32} {x2 : Int32} {x3 : Int32} {x4 : Int32} {s : Sg} {d : Nat} {Q : Option (Option Value) → Sg → Prop} (hd : 11 ≤ d) (h : okx (zq_I Q) (f_La_lender x1 x2 x3 x4 s)) : Cw d M_La_lender [.ref 4, .int x1, .int x2, .int x3, .int x4, .ref 80] s Q := by
  refine Cw.of (by decide +kernel) (Nat.le_of_ble_eq_true rfl) ?_
  show Xw d M_La_lender 1 6 0 [.ref 4, .int x1, .int x2, .int x3, .int x4, .ref 80, .retAddr 0] [] s _
  unfold f_La_lender at h
  refine xi_aload D_La_lender_0 rfl ?_
  refine xj_iconst (v := 0) D_La_lender_2 rfl ?_
  refine xi_aload_n D_La_lender_3 rfl ?_
  refine xi_iload_n D_La_lender_4 rfl ?_
  refine xi_iload_n D_La_lender_5 rfl ?_
  refine xi_iload_n D_La_lender_6 rfl ?_
  refine xi_iload D_La_lender_7 rfl ?_
  obtain ⟨g1, h⟩ := okx_ck h
  refine xi_VT (k := 5) [_, _, _, _] (i := 6) D_La_lender_9 L_La_52 C_Wk_lender.1 C_Wk_lender.2.1 ⟨zl_fo (g1).1 rfl, rfl⟩ ⟨Nat.le_of_ble_eq_true rfl, C_Wk_lender.2.2.1, (Nat.le_of_eq (Nat.sub_add_cancel (by omega))), by decide, by decide⟩ rfl (by decide) (by decide) J_La_13 D_La_lender_17 (Or.inl ⟨rfl, rfl⟩) (by decide) (w_Wk_lender (by omega) (okx_mono (okx_bd h) ?_))
  intro r2 s3 h
  rcases r2 with _ | r4
  · show Xw _ _ _ _ 19 [_, _, _, _, _, _, _] [] _ _
    refine xj_iconst (v := 1) D_La_lender_19 rfl ?_
    exact xi_ireturn D_La_lender_20 rfl (rfl) (okx_I h)
  show Xw _ _ _ _ 12 _ [_, _, _] _ _
  refine xi_i2l D_La_lender_12 ?_
  obtain ⟨g5, h⟩ := okx_ck h
  refine xj_last D_La_lender_13 (zl_fx (g5).1 rfl) (zl_ib (n := 1) rfl (zl_vin rfl)) ?_
  refine xi_goto D_La_lender_14 ?_
  refine xj_iconst (v := 0) D_La_lender_21 rfl ?_
  exact xi_ireturn D_La_lender_22 rfl (rfl) (okx_I h)
noncomputable def f_La_makes (x1 : Int32) (x2 : Int32) (s : Sg) : Option (Int32 × Sg) :=
  f_ck (zl_B s) <|
  f_bd (f_Wk_makes x1 x2 s) fun r2 s3 =>
  f_mt r2 (
    some (1, s3)
  ) fun r4 =>
  f_ck (zl_B s3) <|
  let s6 : Sg := uL s3 80 (Int32.toNatClampNeg (0 : Int32)) (Int32.toInt64 r4)
  some (0, s6)
theorem w_La_makes {x1 : Int32} {x2 : Int32} {s : Sg} {d : Nat} {Q : Option (Option Value) → Sg → Prop} (hd : 10 ≤ d) (h : okx (zq_I Q) (f_La_makes x1 x2 s)) : Cw d M_La_makes [.ref 4, .int x1, .int x2, .ref 80] s Q := by
  refine Cw.of (by decide +kernel) (Nat.le_of_ble_eq_true rfl) ?_
  show Xw d M_La_makes 1 6 0 [.ref 4, .int x1, .int x2, .ref 80, .retAddr 0] [] s _
  unfold f_La_makes at h
  refine xi_aload_n D_La_makes_0 rfl ?_
  refine xj_iconst (v := 0) D_La_makes_1 rfl ?_
  refine xi_aload_n D_La_makes_2 rfl ?_
  refine xi_iload_n D_La_makes_3 rfl ?_
  refine xi_iload_n D_La_makes_4 rfl ?_
  obtain ⟨g1, h⟩ := okx_ck h
  refine xi_VT (k := 5) [_, _] (i := 4) D_La_makes_5 L_La_15 C_Wk_makes.1 C_Wk_makes.2.1 ⟨zl_fo (g1).1 rfl, rfl⟩ ⟨Nat.le_of_ble_eq_true rfl, C_Wk_makes.2.2.1, (Nat.le_of_eq (Nat.sub_add_cancel (by omega))), by decide, by decide⟩ rfl (by decide) (by decide) J_La_13 D_La_makes_13 (Or.inl ⟨rfl, rfl⟩) (by decide) (w_Wk_makes (by omega) (okx_mono (okx_bd h) ?_))
  intro r2 s3 h
  rcases r2 with _ | r4
  · show Xw _ _ _ _ 15 [_, _, _, _, _] [] _ _
    refine xj_iconst (v := 1) D_La_makes_15 rfl ?_
    exact xi_ireturn D_La_makes_16 rfl (rfl) (okx_I h)
  show Xw _ _ _ _ 8 _ [_, _, _] _ _
  refine xi_i2l D_La_makes_8 ?_
  obtain ⟨g5, h⟩ := okx_ck h
  refine xj_last D_La_makes_9 (zl_fx (g5).1 rfl) (zl_ib (n := 1) rfl (zl_vin rfl)) ?_
  refine xi_goto D_La_makes_10 ?_
  refine xj_iconst (v := 0) D_La_makes_17 rfl ?_
  exact xi_ireturn D_La_makes_18 rfl (rfl) (okx_I h)
noncomputable def f_La_oneHand (x1 : Int32) (x2 : Int32) (s : Sg) : Option (Int32 × Sg) :=
  f_ck (zl_B s) <|
  f_bd (f_Wk_oneHand x1 x2 s) fun r2 s3 =>
  f_mt r2 (
    some (1, s3)
  ) fun r4 =>
  f_ck (zl_B s3) <|
  let s6 : Sg := uL s3 80 (Int32.toNatClampNeg (0 : Int32)) (Int32.toInt64 r4)
  some (0, s6)
theorem w_La_oneHand {x1 : Int32} {x2 : Int32} {s : Sg} {d : Nat} {Q : Option (Option Value) → Sg → Prop} (hd : 10 ≤ d) (h : okx (zq_I Q) (f_La_oneHand x1 x2 s)) : Cw d M_La_oneHand [.ref 4, .int x1, .int x2, .ref 80] s Q := by
  refine Cw.of (by decide +kernel) (Nat.le_of_ble_eq_true rfl) ?_
  show Xw d M_La_oneHand 1 6 0 [.ref 4, .int x1, .int x2, .ref 80, .retAddr 0] [] s _
  unfold f_La_oneHand at h
  refine xi_aload_n D_La_oneHand_0 rfl ?_
  refine xj_iconst (v := 0) D_La_oneHand_1 rfl ?_
  refine xi_aload_n D_La_oneHand_2 rfl ?_
  refine xi_iload_n D_La_oneHand_3 rfl ?_
  refine xi_iload_n D_La_oneHand_4 rfl ?_
  obtain ⟨g1, h⟩ := okx_ck h
  refine xi_VT (k := 5) [_, _] (i := 4) D_La_oneHand_5 L_La_36 C_Wk_oneHand.1 C_Wk_oneHand.2.1 ⟨zl_fo (g1).1 rfl, rfl⟩ ⟨Nat.le_of_ble_eq_true rfl, C_Wk_oneHand.2.2.1, (Nat.le_of_eq (Nat.sub_add_cancel (by omega))), by decide, by decide⟩ rfl (by decide) (by decide) J_La_13 D_La_oneHand_13 (Or.inl ⟨rfl, rfl⟩) (by decide) (w_Wk_oneHand (by omega) (okx_mono (okx_bd h) ?_))
  intro r2 s3 h
  rcases r2 with _ | r4
  · show Xw _ _ _ _ 15 [_, _, _, _, _] [] _ _
    refine xj_iconst (v := 1) D_La_oneHand_15 rfl ?_
    exact xi_ireturn D_La_oneHand_16 rfl (rfl) (okx_I h)
  show Xw _ _ _ _ 8 _ [_, _, _] _ _
  refine xi_i2l D_La_oneHand_8 ?_
  obtain ⟨g5, h⟩ := okx_ck h
  refine xj_last D_La_oneHand_9 (zl_fx (g5).1 rfl) (zl_ib (n := 1) rfl (zl_vin rfl)) ?_
  refine xi_goto D_La_oneHand_10 ?_
  refine xj_iconst (v := 0) D_La_oneHand_17 rfl ?_
  exact xi_ireturn D_La_oneHand_18 rfl (rfl) (okx_I h)
noncomputable def f_La_reached (x1 : Int32) (s : Sg) : Option (Int32 × Sg) :=
  f_ck (zl_B s) <|
  f_bd (f_Wk_reached x1 s) fun r2 s3 =>
  f_mt r2 (
    some (1, s3)
  ) fun r4 =>
  f_ck (zl_B s3) <|
  let s6 : Sg := uL s3 80 (Int32.toNatClampNeg (0 : Int32)) (Int32.toInt64 r4)
  some (0, s6)
theorem w_La_reached {x1 : Int32} {s : Sg} {d : Nat} {Q : Option (Option Value) → Sg → Prop} (hd : 10 ≤ d) (h : okx (zq_I Q) (f_La_reached x1 s)) : Cw d M_La_reached [.ref 4, .int x1, .ref 80] s Q := by
  refine Cw.of (by decide +kernel) (Nat.le_of_ble_eq_true rfl) ?_
  show Xw d M_La_reached 1 6 0 [.ref 4, .int x1, .ref 80, .retAddr 0] [] s _
  unfold f_La_reached at h
  refine xi_aload_n D_La_reached_0 rfl ?_
  refine xj_iconst (v := 0) D_La_reached_1 rfl ?_
  refine xi_aload_n D_La_reached_2 rfl ?_
  refine xi_iload_n D_La_reached_3 rfl ?_
  obtain ⟨g1, h⟩ := okx_ck h
  refine xi_VT (k := 5) [_] (i := 3) D_La_reached_4 L_La_33 C_Wk_reached.1 C_Wk_reached.2.1 ⟨zl_fo (g1).1 rfl, rfl⟩ ⟨Nat.le_of_ble_eq_true rfl, C_Wk_reached.2.2.1, (Nat.le_of_eq (Nat.sub_add_cancel (by omega))), by decide, by decide⟩ rfl (by decide) (by decide) J_La_13 D_La_reached_12 (Or.inr ⟨_, rfl, rfl, rfl⟩) (by decide) (w_Wk_reached (by omega) (okx_mono (okx_bd h) ?_))
  intro r2 s3 h
  rcases r2 with _ | r4
  · show Xw _ _ _ _ 13 [_, _, _, _] [] _ _
    refine xj_iconst (v := 1) D_La_reached_13 rfl ?_
    exact xi_ireturn D_La_reached_14 rfl (rfl) (okx_I h)
  show Xw _ _ _ _ 7 _ [_, _, _] _ _
  refine xi_i2l D_La_reached_7 ?_
  obtain ⟨g5, h⟩ := okx_ck h
  refine xj_last D_La_reached_8 (zl_fx (g5).1 rfl) (zl_ib (n := 1) rfl (zl_vin rfl)) ?_
  refine xi_goto D_La_reached_9 ?_
  refine xj_iconst (v := 0) D_La_reached_15 rfl ?_
  exact xi_ireturn D_La_reached_16 rfl (rfl) (okx_I h)
noncomputable def f_La_rest (x1 : Int32) (s : Sg) : Option (Int32 × Sg) :=
  f_ck (zl_B s) <|
  f_bd (f_Wk_rest x1 s) fun r2 s3 =>
  f_mt r2 (
    some (1, s3)
  ) fun r4 =>
  f_ck (zl_B s3) <|
  let s6 : Sg := uL s3 80 (Int32.toNatClampNeg (0 : Int32)) (Int32.toInt64 r4)
  some (0, s6)
theorem w_La_rest {x1 : Int32} {s : Sg} {d : Nat} {Q : Option (Option Value) → Sg → Prop} (hd : 10 ≤ d) (h : okx (zq_I Q) (f_La_rest x1 s)) : Cw d M_La_rest [.ref 4, .int x1, .ref 80] s Q := by
  refine Cw.of (by decide +kernel) (Nat.le_of_ble_eq_true rfl) ?_
  show Xw d M_La_rest 1 6 0 [.ref 4, .int x1, .ref 80, .retAddr 0] [] s _
  unfold f_La_rest at h
  refine xi_aload_n D_La_rest_0 rfl ?_
  refine xj_iconst (v := 0) D_La_rest_1 rfl ?_
  refine xi_aload_n D_La_rest_2 rfl ?_
  refine xi_iload_n D_La_rest_3 rfl ?_
  obtain ⟨g1, h⟩ := okx_ck h
  refine xi_VT (k := 5) [_] (i := 3) D_La_rest_4 L_La_23 C_Wk_rest.1 C_Wk_rest.2.1 ⟨zl_fo (g1).1 rfl, rfl⟩ ⟨Nat.le_of_ble_eq_true rfl, C_Wk_rest.2.2.1, (Nat.le_of_eq (Nat.sub_add_cancel (by omega))), by decide, by decide⟩ rfl (by decide) (by decide) J_La_13 D_La_rest_12 (Or.inr ⟨_, rfl, rfl, rfl⟩) (by decide) (w_Wk_rest (by omega) (okx_mono (okx_bd h) ?_))
  intro r2 s3 h
  rcases r2 with _ | r4
  · show Xw _ _ _ _ 13 [_, _, _, _] [] _ _
    refine xj_iconst (v := 1) D_La_rest_13 rfl ?_
    exact xi_ireturn D_La_rest_14 rfl (rfl) (okx_I h)
  show Xw _ _ _ _ 7 _ [_, _, _] _ _
  refine xi_i2l D_La_rest_7 ?_
  obtain ⟨g5, h⟩ := okx_ck h
  refine xj_last D_La_rest_8 (zl_fx (g5).1 rfl) (zl_ib (n := 1) rfl (zl_vin rfl)) ?_
  refine xi_goto D_La_rest_9 ?_
  refine xj_iconst (v := 0) D_La_rest_15 rfl ?_
  exact xi_ireturn D_La_rest_16 rfl (rfl) (okx_I h)
noncomputable def f_La_right (x1 : Int32) (x2 : Int32) (x3 : Int32) (x4 : Int32) (s : Sg) : Option (Int32 × Sg) :=
  f_ck (zl_B s) <|
  f_bd (f_Wk_right x1 x2 x3 x4 s) fun r2 s3 =>
  f_mt r2 (
    some (1, s3)
  ) fun r4 =>
  f_ck (zl_B s3) <|
  let s6 : Sg := uL s3 80 (Int32.toNatClampNeg (0 : Int32)) (Int32.toInt64 r4)
  some (0, s6)
theorem w_La_right {x1 : Int32} {x2 : Int32} {x3 : Int32} {x4 : Int32} {s : Sg} {d : Nat} {Q : Option (Option Value) → Sg → Prop} (hd : 11 ≤ d) (h : okx (zq_I Q) (f_La_right x1 x2 x3 x4 s)) : Cw d M_La_right [.ref 4, .int x1, .int x2, .int x3, .int x4, .ref 80] s Q := by
  refine Cw.of (by decide +kernel) (Nat.le_of_ble_eq_true rfl) ?_
  show Xw d M_La_right 1 6 0 [.ref 4, .int x1, .int x2, .int x3, .int x4, .ref 80, .retAddr 0] [] s _
  unfold f_La_right at h
  refine xi_aload D_La_right_0 rfl ?_
  refine xj_iconst (v := 0) D_La_right_2 rfl ?_
  refine xi_aload_n D_La_right_3 rfl ?_
  refine xi_iload_n D_La_right_4 rfl ?_
  refine xi_iload_n D_La_right_5 rfl ?_
  refine xi_iload_n D_La_right_6 rfl ?_
  refine xi_iload D_La_right_7 rfl ?_
  obtain ⟨g1, h⟩ := okx_ck h
  refine xi_VT (k := 5) [_, _, _, _] (i := 6) D_La_right_9 L_La_45 C_Wk_right.1 C_Wk_right.2.1 ⟨zl_fo (g1).1 rfl, rfl⟩ ⟨Nat.le_of_ble_eq_true rfl, C_Wk_right.2.2.1, (Nat.le_of_eq (Nat.sub_add_cancel (by omega))), by decide, by decide⟩ rfl (by decide) (by decide) J_La_13 D_La_right_17 (Or.inl ⟨rfl, rfl⟩) (by decide) (w_Wk_right (by omega) (okx_mono (okx_bd h) ?_))
  intro r2 s3 h
  rcases r2 with _ | r4
  · show Xw _ _ _ _ 19 [_, _, _, _, _, _, _] [] _ _
    refine xj_iconst (v := 1) D_La_right_19 rfl ?_
    exact xi_ireturn D_La_right_20 rfl (rfl) (okx_I h)
  show Xw _ _ _ _ 12 _ [_, _, _] _ _
  refine xi_i2l D_La_right_12 ?_
  obtain ⟨g5, h⟩ := okx_ck h
  refine xj_last D_La_right_13 (zl_fx (g5).1 rfl) (zl_ib (n := 1) rfl (zl_vin rfl)) ?_
  refine xi_goto D_La_right_14 ?_
  refine xj_iconst (v := 0) D_La_right_21 rfl ?_
  exact xi_ireturn D_La_right_22 rfl (rfl) (okx_I h)
noncomputable def f_La_rightPrice (x1 : Int32) (x2 : Int32) (x3 : Int32) (x4 : Int32) (s : Sg) : Option (Int32 × Sg) :=
  f_ck (zl_B s) <|
  f_bd (f_Wk_rightPrice x1 x2 x3 x4 s) fun r2 s3 =>
  f_mt r2 (
    some (1, s3)
  ) fun r4 =>
  f_ck (zl_B s3) <|
  let s6 : Sg := uL s3 80 (Int32.toNatClampNeg (0 : Int32)) (Int32.toInt64 r4)
  some (0, s6)
theorem w_La_rightPrice {x1 : Int32} {x2 : Int32} {x3 : Int32} {x4 : Int32} {s : Sg} {d : Nat} {Q : Option (Option Value) → Sg → Prop} (hd : 10 ≤ d) (h : okx (zq_I Q) (f_La_rightPrice x1 x2 x3 x4 s)) : Cw d M_La_rightPrice [.ref 4, .int x1, .int x2, .int x3, .int x4, .ref 80] s Q := by
  refine Cw.of (by decide +kernel) (Nat.le_of_ble_eq_true rfl) ?_
  show Xw d M_La_rightPrice 1 6 0 [.ref 4, .int x1, .int x2, .int x3, .int x4, .ref 80, .retAddr 0] [] s _
  unfold f_La_rightPrice at h
  refine xi_aload D_La_rightPrice_0 rfl ?_
  refine xj_iconst (v := 0) D_La_rightPrice_2 rfl ?_
  refine xi_aload_n D_La_rightPrice_3 rfl ?_
  refine xi_iload_n D_La_rightPrice_4 rfl ?_
  refine xi_iload_n D_La_rightPrice_5 rfl ?_
  refine xi_iload_n D_La_rightPrice_6 rfl ?_
  refine xi_iload D_La_rightPrice_7 rfl ?_
  obtain ⟨g1, h⟩ := okx_ck h
  refine xi_VT (k := 5) [_, _, _, _] (i := 6) D_La_rightPrice_9 L_La_49 C_Wk_rightPrice.1 C_Wk_rightPrice.2.1 ⟨zl_fo (g1).1 rfl, rfl⟩ ⟨Nat.le_of_ble_eq_true rfl, C_Wk_rightPrice.2.2.1, (Nat.le_of_eq (Nat.sub_add_cancel (by omega))), by decide, by decide⟩ rfl (by decide) (by decide) J_La_13 D_La_rightPrice_17 (Or.inl ⟨rfl, rfl⟩) (by decide) (w_Wk_rightPrice (by omega) (okx_mono (okx_bd h) ?_))
  intro r2 s3 h
  rcases r2 with _ | r4
  · show Xw _ _ _ _ 19 [_, _, _, _, _, _, _] [] _ _
    refine xj_iconst (v := 1) D_La_rightPrice_19 rfl ?_
    exact xi_ireturn D_La_rightPrice_20 rfl (rfl) (okx_I h)
  show Xw _ _ _ _ 12 _ [_, _, _] _ _
  refine xi_i2l D_La_rightPrice_12 ?_
  obtain ⟨g5, h⟩ := okx_ck h
  refine xj_last D_La_rightPrice_13 (zl_fx (g5).1 rfl) (zl_ib (n := 1) rfl (zl_vin rfl)) ?_
  refine xi_goto D_La_rightPrice_14 ?_
  refine xj_iconst (v := 0) D_La_rightPrice_21 rfl ?_
  exact xi_ireturn D_La_rightPrice_22 rfl (rfl) (okx_I h)
noncomputable def f_La_share (x1 : Int32) (x2 : Int32) (x3 : Int32) (s : Sg) : Option (Int32 × Sg) :=
  f_ck (zl_B s) <|
  f_bd (f_Wk_share x1 x2 x3 s) fun r2 s3 =>
  f_mt r2 (
    some (1, s3)
  ) fun r4 =>
  f_ck (zl_B s3) <|
  let s6 : Sg := uL s3 80 (Int32.toNatClampNeg (0 : Int32)) r4
  some (0, s6)
theorem w_La_share {x1 : Int32} {x2 : Int32} {x3 : Int32} {s : Sg} {d : Nat} {Q : Option (Option Value) → Sg → Prop} (hd : 10 ≤ d) (h : okx (zq_I Q) (f_La_share x1 x2 x3 s)) : Cw d M_La_share [.ref 4, .int x1, .int x2, .int x3, .ref 80] s Q := by
  refine Cw.of (by decide +kernel) (Nat.le_of_ble_eq_true rfl) ?_
  show Xw d M_La_share 1 6 0 [.ref 4, .int x1, .int x2, .int x3, .ref 80, .retAddr 0] [] s _
  unfold f_La_share at h
  refine xi_aload D_La_share_0 rfl ?_
  refine xj_iconst (v := 0) D_La_share_2 rfl ?_
  refine xi_aload_n D_La_share_3 rfl ?_
  refine xi_iload_n D_La_share_4 rfl ?_
  refine xi_iload_n D_La_share_5 rfl ?_
  refine xi_iload_n D_La_share_6 rfl ?_
  obtain ⟨g1, h⟩ := okx_ck h
  refine xi_VT (k := 5) [_, _, _] (i := 5) D_La_share_7 L_La_19 C_Wk_share.1 C_Wk_share.2.1 ⟨zl_fo (g1).1 rfl, rfl⟩ ⟨Nat.le_of_ble_eq_true rfl, C_Wk_share.2.2.1, (Nat.le_of_eq (Nat.sub_add_cancel (by omega))), by decide, by decide⟩ rfl (by decide) (by decide) J_La_13 D_La_share_14 (Or.inl ⟨rfl, rfl⟩) (by decide) (w_Wk_share (by omega) (okx_mono (okx_bd h) ?_))
  intro r2 s3 h
  rcases r2 with _ | r4
  · show Xw _ _ _ _ 16 [_, _, _, _, _, _] [] _ _
    refine xj_iconst (v := 1) D_La_share_16 rfl ?_
    exact xi_ireturn D_La_share_17 rfl (rfl) (okx_I h)
  show Xw _ _ _ _ 10 _ [_, _, _] _ _
  obtain ⟨g5, h⟩ := okx_ck h
  refine xj_last D_La_share_10 (zl_fx (g5).1 rfl) (zl_ib (n := 1) rfl (zl_vin rfl)) ?_
  refine xi_goto D_La_share_11 ?_
  refine xj_iconst (v := 0) D_La_share_18 rfl ?_
  exact xi_ireturn D_La_share_19 rfl (rfl) (okx_I h)
noncomputable def f_La_worth (x1 : Int32) (x2 : Int32) (x3 : Int32) (s : Sg) : Option (Int32 × Sg) :=
  f_ck (zl_B s) <|
  f_bd (f_Wk_worth x1 x2 x3 s) fun r2 s3 =>
  f_mt r2 (
    some (1, s3)
  ) fun r4 =>
  f_ck (zl_B s3) <|
  let s6 : Sg := uL s3 80 (Int32.toNatClampNeg (0 : Int32)) (Int32.toInt64 r4)
  some (0, s6)
theorem w_La_worth {x1 : Int32} {x2 : Int32} {x3 : Int32} {s : Sg} {d : Nat} {Q : Option (Option Value) → Sg → Prop} (hd : 10 ≤ d) (h : okx (zq_I Q) (f_La_worth x1 x2 x3 s)) : Cw d M_La_worth [.ref 4, .int x1, .int x2, .int x3, .ref 80] s Q := by
  refine Cw.of (by decide +kernel) (Nat.le_of_ble_eq_true rfl) ?_
  show Xw d M_La_worth 1 6 0 [.ref 4, .int x1, .int x2, .int x3, .ref 80, .retAddr 0] [] s _
  unfold f_La_worth at h
  refine xi_aload D_La_worth_0 rfl ?_
  refine xj_iconst (v := 0) D_La_worth_2 rfl ?_
  refine xi_aload_n D_La_worth_3 rfl ?_
  refine xi_iload_n D_La_worth_4 rfl ?_
  refine xi_iload_n D_La_worth_5 rfl ?_
  refine xi_iload_n D_La_worth_6 rfl ?_
  obtain ⟨g1, h⟩ := okx_ck h
  refine xi_VT (k := 5) [_, _, _] (i := 5) D_La_worth_7 L_La_7 C_Wk_worth.1 C_Wk_worth.2.1 ⟨zl_fo (g1).1 rfl, rfl⟩ ⟨Nat.le_of_ble_eq_true rfl, C_Wk_worth.2.2.1, (Nat.le_of_eq (Nat.sub_add_cancel (by omega))), by decide, by decide⟩ rfl (by decide) (by decide) J_La_13 D_La_worth_15 (Or.inl ⟨rfl, rfl⟩) (by decide) (w_Wk_worth (by omega) (okx_mono (okx_bd h) ?_))
  intro r2 s3 h
  rcases r2 with _ | r4
  · show Xw _ _ _ _ 17 [_, _, _, _, _, _] [] _ _
    refine xj_iconst (v := 1) D_La_worth_17 rfl ?_
    exact xi_ireturn D_La_worth_18 rfl (rfl) (okx_I h)
  show Xw _ _ _ _ 10 _ [_, _, _] _ _
  refine xi_i2l D_La_worth_10 ?_
  obtain ⟨g5, h⟩ := okx_ck h
  refine xj_last D_La_worth_11 (zl_fx (g5).1 rfl) (zl_ib (n := 1) rfl (zl_vin rfl)) ?_
  refine xi_goto D_La_worth_12 ?_
  refine xj_iconst (v := 0) D_La_worth_19 rfl ?_
  exact xi_ireturn D_La_worth_20 rfl (rfl) (okx_I h)
noncomputable def f_La_writing (x1 : Int32) (x2 : Int32) (s : Sg) : Option (Int32 × Sg) :=
  f_ck (zl_B s) <|
  f_bd (f_Wk_writing x1 x2 s) fun r2 s3 =>
  f_mt r2 (
    some (1, s3)
  ) fun r4 =>
  f_ck (zl_B s3) <|
  let s6 : Sg := uL s3 80 (Int32.toNatClampNeg (0 : Int32)) (Int32.toInt64 r4)
  some (0, s6)
theorem w_La_writing {x1 : Int32} {x2 : Int32} {s : Sg} {d : Nat} {Q : Option (Option Value) → Sg → Prop} (hd : 10 ≤ d) (h : okx (zq_I Q) (f_La_writing x1 x2 s)) : Cw d M_La_writing [.ref 4, .int x1, .int x2, .ref 80] s Q := by
  refine Cw.of (by decide +kernel) (Nat.le_of_ble_eq_true rfl) ?_
  show Xw d M_La_writing 1 6 0 [.ref 4, .int x1, .int x2, .ref 80, .retAddr 0] [] s _
  unfold f_La_writing at h
  refine xi_aload_n D_La_writing_0 rfl ?_
  refine xj_iconst (v := 0) D_La_writing_1 rfl ?_
  refine xi_aload_n D_La_writing_2 rfl ?_
  refine xi_iload_n D_La_writing_3 rfl ?_
  refine xi_iload_n D_La_writing_4 rfl ?_
  obtain ⟨g1, h⟩ := okx_ck h
  refine xi_VT (k := 5) [_, _] (i := 4) D_La_writing_5 L_La_42 C_Wk_writing.1 C_Wk_writing.2.1 ⟨zl_fo (g1).1 rfl, rfl⟩ ⟨Nat.le_of_ble_eq_true rfl, C_Wk_writing.2.2.1, (Nat.le_of_eq (Nat.sub_add_cancel (by omega))), by decide, by decide⟩ rfl (by decide) (by decide) J_La_13 D_La_writing_13 (Or.inl ⟨rfl, rfl⟩) (by decide) (w_Wk_writing (by omega) (okx_mono (okx_bd h) ?_))
  intro r2 s3 h
  rcases r2 with _ | r4
  · show Xw _ _ _ _ 15 [_, _, _, _, _] [] _ _
    refine xj_iconst (v := 1) D_La_writing_15 rfl ?_
    exact xi_ireturn D_La_writing_16 rfl (rfl) (okx_I h)
  show Xw _ _ _ _ 8 _ [_, _, _] _ _
  refine xi_i2l D_La_writing_8 ?_
  obtain ⟨g5, h⟩ := okx_ck h
  refine xj_last D_La_writing_9 (zl_fx (g5).1 rfl) (zl_ib (n := 1) rfl (zl_vin rfl)) ?_
  refine xi_goto D_La_writing_10 ?_
  refine xj_iconst (v := 0) D_La_writing_17 rfl ?_
  exact xi_ireturn D_La_writing_18 rfl (rfl) (okx_I h)
noncomputable def f_La_written (x1 : Int32) (x2 : Int32) (s : Sg) : Option (Int32 × Sg) :=
  f_ck (zl_B s) <|
  f_bd (f_Wk_written x1 x2 s) fun r2 s3 =>
  f_mt r2 (
    some (1, s3)
  ) fun r4 =>
  f_ck (zl_B s3) <|
  let s6 : Sg := uL s3 80 (Int32.toNatClampNeg (0 : Int32)) (Int32.toInt64 r4)
  some (0, s6)
theorem w_La_written {x1 : Int32} {x2 : Int32} {s : Sg} {d : Nat} {Q : Option (Option Value) → Sg → Prop} (hd : 10 ≤ d) (h : okx (zq_I Q) (f_La_written x1 x2 s)) : Cw d M_La_written [.ref 4, .int x1, .int x2, .ref 80] s Q := by
  refine Cw.of (by decide +kernel) (Nat.le_of_ble_eq_true rfl) ?_
  show Xw d M_La_written 1 6 0 [.ref 4, .int x1, .int x2, .ref 80, .retAddr 0] [] s _
  unfold f_La_written at h
  refine xi_aload_n D_La_written_0 rfl ?_
  refine xj_iconst (v := 0) D_La_written_1 rfl ?_
  refine xi_aload_n D_La_written_2 rfl ?_
  refine xi_iload_n D_La_written_3 rfl ?_
  refine xi_iload_n D_La_written_4 rfl ?_
  obtain ⟨g1, h⟩ := okx_ck h
  refine xi_VT (k := 5) [_, _] (i := 4) D_La_written_5 L_La_39 C_Wk_written.1 C_Wk_written.2.1 ⟨zl_fo (g1).1 rfl, rfl⟩ ⟨Nat.le_of_ble_eq_true rfl, C_Wk_written.2.2.1, (Nat.le_of_eq (Nat.sub_add_cancel (by omega))), by decide, by decide⟩ rfl (by decide) (by decide) J_La_13 D_La_written_13 (Or.inl ⟨rfl, rfl⟩) (by decide) (w_Wk_written (by omega) (okx_mono (okx_bd h) ?_))
  intro r2 s3 h
  rcases r2 with _ | r4
  · show Xw _ _ _ _ 15 [_, _, _, _, _] [] _ _
    refine xj_iconst (v := 1) D_La_written_15 rfl ?_
    exact xi_ireturn D_La_written_16 rfl (rfl) (okx_I h)
  show Xw _ _ _ _ 8 _ [_, _, _] _ _
  refine xi_i2l D_La_written_8 ?_
  obtain ⟨g5, h⟩ := okx_ck h
  refine xj_last D_La_written_9 (zl_fx (g5).1 rfl) (zl_ib (n := 1) rfl (zl_vin rfl)) ?_
  refine xi_goto D_La_written_10 ?_
  refine xj_iconst (v := 0) D_La_written_17 rfl ?_
  exact xi_ireturn D_La_written_18 rfl (rfl) (okx_I h)
