/-! by a program of ours (wip/whole/gen/func.py, mkall.py) out of the listing: Wk_later Wk_madeBy Wk_leaving Wk_lender Wk_lost Wk_makes Wk_mark Wk_oneHand Wk_own Wk_owner Wk_reached Wk_rest Wk_rests Wk_right Wk_rightPrice Wk_share -/
noncomputable def f_Wk_later (x1 : Int32) (x2 : Int32) (x3 : Int32) (s : Sg) : Option (Int32 × Sg) :=
  f_ck (zl_B s) <|
  f_bd (f_Wk_canOwn x1 x2 x3 s) fun r2 s3 =>
  if r2 = 0 then
    some (0, s3)
  else
    f_ck (zl_B s3) <|
    f_ck (vp_in x1 3) <|
    let s7 : Sg := uI s3 15 (Int32.toNatClampNeg x1) x2
    f_ck (vp_in x1 3) <|
    let s9 : Sg := uI s7 16 (Int32.toNatClampNeg x1) x3
    f_bd (f_Wk_forgetPlain  s9) fun r10 s11 =>
    some (1, s11)
theorem w_Wk_later {x1 : Int32} {x2 : Int32} {x3 : Int32} {s : Sg} {d : Nat} {Q : Option (Option Value) → Sg → Prop} (hd : 3 ≤ d) (h : okx (zq_I Q) (f_Wk_later x1 x2 x3 s)) : Cw d M_Wk_later [.ref 4, .int x1, .int x2, .int x3] s Q := by
  refine Cw.of (by decide +kernel) (Nat.le_of_ble_eq_true rfl) ?_
  show Xw d M_Wk_later 0 0 0 [.ref 4, .int x1, .int x2, .int x3] [] s _
  unfold f_Wk_later at h
  refine xi_aload_n D_Wk_later_0 rfl ?_
  refine xi_iload_n D_Wk_later_1 rfl ?_
  refine xi_iload_n D_Wk_later_2 rfl ?_
  refine xi_iload_n D_Wk_later_3 rfl ?_
  obtain ⟨g1, h⟩ := okx_ck h
  refine xj_V3 D_Wk_later_4 L_Wk_98 C_Wk_canOwn Z_Wk_canOwn (zl_fo (g1).1 rfl) (Nat.le_of_ble_eq_true rfl) (Nat.le_of_eq (Nat.sub_add_cancel (by omega))) (w_Wk_canOwn (by omega) (okx_mono (okx_bd h) ?_))
  intro r2 s3 h
  show Xw _ _ _ _ 7 _ [_] _ _
  refine xi_if_ne D_Wk_later_7 (fun c4 => ?_) (fun c4 => ?_)
  · have h := okx_F c4 h
    refine xi_aload_n D_Wk_later_12 rfl ?_
    obtain ⟨g5, h⟩ := okx_ck h
    refine xi_getR D_Wk_later_13 F_Wk_27 (zl_fo (g5).1 rfl) ⟨rfl, by decide⟩ (zl_gr (g5).2 rfl rfl) ?_
    refine xi_getR D_Wk_later_16 F_Wk_114 (zl_fo (g5).1 rfl) ⟨rfl, by decide⟩ (zl_gr (g5).2 rfl rfl) ?_
    refine xi_iload_n D_Wk_later_19 rfl ?_
    refine xi_iload_n D_Wk_later_20 rfl ?_
    obtain ⟨g6, h⟩ := okx_ck h
    refine xj_iast D_Wk_later_21 (zl_fx (g5).1 rfl) (zl_ib (n := 3) rfl (g6)) ?_
    refine xi_aload_n D_Wk_later_22 rfl ?_
    refine xi_getR D_Wk_later_23 F_Wk_27 (zl_fo (g5).1 rfl) ⟨rfl, by decide⟩ (zl_gr (g5).2 rfl rfl) ?_
    refine xi_getR D_Wk_later_26 F_Wk_117 (zl_fo (g5).1 rfl) ⟨rfl, by decide⟩ (zl_gr (g5).2 rfl rfl) ?_
    refine xi_iload_n D_Wk_later_29 rfl ?_
    refine xi_iload_n D_Wk_later_30 rfl ?_
    obtain ⟨g8, h⟩ := okx_ck h
    refine xj_iast D_Wk_later_31 (zl_fx (g5).1 rfl) (zl_ib (n := 3) rfl (g8)) ?_
    refine xi_aload_n D_Wk_later_32 rfl ?_
    refine xj_V0 D_Wk_later_33 L_Wk_49 C_Wk_forgetPlain Z_Wk_forgetPlain (zl_fo (g5).1 rfl) (Nat.le_of_ble_eq_true rfl) (Nat.le_of_eq (Nat.sub_add_cancel (by omega))) (w_Wk_forgetPlain (by omega) (okx_mono (okx_bd h) ?_))
    intro r10 s11 h
    show Xw _ _ _ _ 36 _ [] _ _
    refine xj_iconst (v := 1) D_Wk_later_36 rfl ?_
    exact xi_ireturn D_Wk_later_37 rfl (rfl) (okx_I h)
  · have h := okx_T c4 h
    refine xj_iconst (v := 0) D_Wk_later_10 rfl ?_
    exact xi_ireturn D_Wk_later_11 rfl (rfl) (okx_I h)
noncomputable def f_Wk_madeBy (x1 : Int32) (x2 : Int32) (s : Sg) : Option (Int32 × Sg) :=
  f_ck (zl_B s) <|
  f_bd (f_Wk_thingsOf x1 s) fun r2 s3 =>
  f_ck (zl_B s3) <|
  f_bd (f_Wo_valueOf x1 r2 x2 s3) fun r5 s6 =>
  some (r5, s6)
theorem w_Wk_madeBy {x1 : Int32} {x2 : Int32} {s : Sg} {d : Nat} {Q : Option (Option Value) → Sg → Prop} (hd : 5 ≤ d) (h : okx (zq_I Q) (f_Wk_madeBy x1 x2 s)) : Cw d M_Wk_madeBy [.ref 4, .int x1, .int x2] s Q := by
  refine Cw.of (by decide +kernel) (Nat.le_of_ble_eq_true rfl) ?_
  show Xw d M_Wk_madeBy 0 0 0 [.ref 4, .int x1, .int x2] [] s _
  unfold f_Wk_madeBy at h
  refine xi_aload_n D_Wk_madeBy_0 rfl ?_
  obtain ⟨g1, h⟩ := okx_ck h
  refine xi_getR D_Wk_madeBy_1 F_Wk_20 (zl_fo (g1).1 rfl) ⟨rfl, by decide⟩ (zl_gr (g1).2 rfl rfl) ?_
  refine xi_iload_n D_Wk_madeBy_4 rfl ?_
  refine xi_aload_n D_Wk_madeBy_5 rfl ?_
  refine xi_iload_n D_Wk_madeBy_6 rfl ?_
  refine xj_V1 D_Wk_madeBy_7 L_Wk_123 C_Wk_thingsOf Z_Wk_thingsOf (zl_fo (g1).1 rfl) (Nat.le_of_ble_eq_true rfl) (Nat.le_of_eq (Nat.sub_add_cancel (by omega))) (w_Wk_thingsOf (by omega) (okx_mono (okx_bd h) ?_))
  intro r2 s3 h
  show Xw _ _ _ _ 10 _ [_, _, _] _ _
  refine xi_iload_n D_Wk_madeBy_10 rfl ?_
  obtain ⟨g4, h⟩ := okx_ck h
  refine xj_V3 D_Wk_madeBy_11 L_Wk_94 C_Wo_valueOf Z_Wo_valueOf (zl_fo (g4).1 rfl) (Nat.le_of_ble_eq_true rfl) (Nat.le_of_eq (Nat.sub_add_cancel (by omega))) (w_Wo_valueOf (by omega) (okx_mono (okx_bd h) ?_))
  intro r5 s6 h
  show Xw _ _ _ _ 14 _ [_] _ _
  exact xi_ireturn D_Wk_madeBy_14 rfl (rfl) (okx_I h)
noncomputable def f_Wk_leaving (x1 : Int32) (x2 : Int32) (s : Sg) : Option ((Option Int32) × Sg) :=
  f_ck (zl_B s) <|
  f_bd (f_Wk_isPerson x1 s) fun r2 s3 =>
  if r2 = 0 then
    some (none, s3)
  else
    f_ck (zl_B s3) <|
    f_bd (f_Wk_isPains x2 s3) fun r6 s7 =>
    if r6 = 0 then
      some (none, s7)
    else
      f_ck (zl_B s7) <|
      f_bd (f_To_all 7 s7) fun r10 s11 =>
      f_ck (zl_B s11) <|
      f_bd (f_Wk_madeBy r10 x2 s11) fun r13 s14 =>
      f_ck (zl_B s14) <|
      f_bd (f_Wk_madeBy (r10 &&& (((1 : Int32) <<< (x1 &&& 31)) ^^^ (-1))) x2 s14) fun r16 s17 =>
      some ((some (r13 - r16)), s17)
theorem w_Wk_leaving {x1 : Int32} {x2 : Int32} {s : Sg} {d : Nat} {Q : Option (Option Value) → Sg → Prop} (hd : 9 ≤ d) (h : okx (zq_TI Q) (f_Wk_leaving x1 x2 s)) : Cw d M_Wk_leaving [.ref 4, .int x1, .int x2] s Q := by
  refine Cw.of (by decide +kernel) (Nat.le_of_ble_eq_true rfl) ?_
  show Xw d M_Wk_leaving 1 6 0 [.ref 4, .int x1, .int x2, .retAddr 0] [] s _
  unfold f_Wk_leaving at h
  refine xi_aload_n D_Wk_leaving_0 rfl ?_
  refine xi_iload_n D_Wk_leaving_1 rfl ?_
  obtain ⟨g1, h⟩ := okx_ck h
  refine xj_V1 D_Wk_leaving_2 L_Wk_131 C_Wk_isPerson Z_Wk_isPerson (zl_fo (g1).1 rfl) (Nat.le_of_ble_eq_true rfl) (Nat.le_of_eq (Nat.sub_add_cancel (by omega))) (w_Wk_isPerson (by omega) (okx_mono (okx_bd h) ?_))
  intro r2 s3 h
  show Xw _ _ _ _ 5 _ [_] _ _
  refine xi_if_eq D_Wk_leaving_5 (fun c4 => ?_) (fun c4 => ?_)
  · have h := okx_T c4 h
    exact xi_throw ⟨rfl, rfl, D_Wk_leaving_16.1, D_Wk_leaving_19.1, D_Wk_leaving_20.1, D_Wk_leaving_23.1⟩ (by omega) (by decide) (okx_NTI h)
  · have h := okx_F c4 h
    refine xi_aload_n D_Wk_leaving_8 rfl ?_
    refine xi_iload_n D_Wk_leaving_9 rfl ?_
    obtain ⟨g5, h⟩ := okx_ck h
    refine xj_V1 D_Wk_leaving_10 L_Wk_87 C_Wk_isPains Z_Wk_isPains (zl_fo (g5).1 rfl) (Nat.le_of_ble_eq_true rfl) (Nat.le_of_eq (Nat.sub_add_cancel (by omega))) (w_Wk_isPains (by omega) (okx_mono (okx_bd h) ?_))
    intro r6 s7 h
    show Xw _ _ _ _ 13 _ [_] _ _
    refine xi_if_ne D_Wk_leaving_13 (fun c8 => ?_) (fun c8 => ?_)
    · have h := okx_F c8 h
      refine xi_aload_n D_Wk_leaving_24 rfl ?_
      obtain ⟨g9, h⟩ := okx_ck h
      refine xi_getR D_Wk_leaving_25 F_Wk_27 (zl_fo (g9).1 rfl) ⟨rfl, by decide⟩ (zl_gr (g9).2 rfl rfl) ?_
      refine xj_V0 D_Wk_leaving_28 L_Wk_233 C_To_all Z_To_all (zl_fo (g9).1 rfl) (Nat.le_of_ble_eq_true rfl) (Nat.le_of_eq (Nat.sub_add_cancel (by omega))) (w_To_all (by omega) (okx_mono (okx_bd h) ?_))
      intro r10 s11 h
      show Xw _ _ _ _ 31 _ [_] _ _
      refine xi_istore_n (ls' := [_, _, _, _]) D_Wk_leaving_31 rfl (by decide) ?_
      refine xi_aload_n D_Wk_leaving_32 rfl ?_
      refine xi_iload_n D_Wk_leaving_33 rfl ?_
      refine xi_iload_n D_Wk_leaving_34 rfl ?_
      obtain ⟨g12, h⟩ := okx_ck h
      refine xj_V2 D_Wk_leaving_35 L_Wk_127 C_Wk_madeBy Z_Wk_madeBy (zl_fo (g12).1 rfl) (Nat.le_of_ble_eq_true rfl) (Nat.le_of_eq (Nat.sub_add_cancel (by omega))) (w_Wk_madeBy (by omega) (okx_mono (okx_bd h) ?_))
      intro r13 s14 h
      show Xw _ _ _ _ 38 _ [_] _ _
      refine xi_aload_n D_Wk_leaving_38 rfl ?_
      refine xi_iload_n D_Wk_leaving_39 rfl ?_
      refine xj_iconst (v := 1) D_Wk_leaving_40 rfl ?_
      refine xi_iload_n D_Wk_leaving_41 rfl ?_
      refine xi_ishl D_Wk_leaving_42 ?_
      refine xj_iconst (v := (-1)) D_Wk_leaving_43 rfl ?_
      refine xi_ixor D_Wk_leaving_44 ?_
      refine xi_iand D_Wk_leaving_45 ?_
      refine xi_iload_n D_Wk_leaving_46 rfl ?_
      obtain ⟨g15, h⟩ := okx_ck h
      refine xj_V2 D_Wk_leaving_47 L_Wk_127 C_Wk_madeBy Z_Wk_madeBy (zl_fo (g15).1 rfl) (Nat.le_of_ble_eq_true rfl) (Nat.le_of_eq (Nat.sub_add_cancel (by omega))) (w_Wk_madeBy (by omega) (okx_mono (okx_bd h) ?_))
      intro r16 s17 h
      show Xw _ _ _ _ 50 _ [_, _] _ _
      refine xi_isub D_Wk_leaving_50 ?_
      exact xi_ireturn D_Wk_leaving_51 rfl (rfl) (okx_TI h)
    · have h := okx_T c8 h
      exact xi_throw ⟨rfl, rfl, D_Wk_leaving_16.1, D_Wk_leaving_19.1, D_Wk_leaving_20.1, D_Wk_leaving_23.1⟩ (by omega) (by decide) (okx_NTI h)
noncomputable def f_Wk_lender (x1 : Int32) (x2 : Int32) (x3 : Int32) (x4 : Int32) (s : Sg) : Option ((Option Int32) × Sg) :=
  f_ck (zl_B s) <|
  f_bd (f_Wk_isPerson x1 s) fun r2 s3 =>
  if r2 = 0 then
    some (none, s3)
  else
    f_ck (zl_B s3) <|
    f_bd (f_Wk_isThing x2 s3) fun r6 s7 =>
    if r6 = 0 then
      some (none, s7)
    else
      f_bd (f_Wk_isWithin x3 9999 s7) fun r9 s10 =>
      if r9 = 0 then
        some (none, s10)
      else
        f_bd (f_Wk_isWithin x4 2 s10) fun r12 s13 =>
        if r12 = 0 then
          some (none, s13)
        else
          f_ck (zl_B s13) <|
          f_bd (f_Tu_lookAtPledge x2 x1 x3 s13) fun r16 s17 =>
          f_ck (zl_B s17) <|
          f_bd (f_Wk_answerOfDeal x4 0 s17) fun r19 s20 =>
          f_mt r19 (some (none, s20)) fun r21 =>
          some ((some r21), s20)
theorem w_Wk_lender {x1 : Int32} {x2 : Int32} {x3 : Int32} {x4 : Int32} {s : Sg} {d : Nat} {Q : Option (Option Value) → Sg → Prop} (hd : 10 ≤ d) (h : okx (zq_TI Q) (f_Wk_lender x1 x2 x3 x4 s)) : Cw d M_Wk_lender [.ref 4, .int x1, .int x2, .int x3, .int x4] s Q := by
  refine Cw.of (by decide +kernel) (Nat.le_of_ble_eq_true rfl) ?_
  show Xw d M_Wk_lender 1 6 0 [.ref 4, .int x1, .int x2, .int x3, .int x4] [] s _
  unfold f_Wk_lender at h
  refine xi_aload_n D_Wk_lender_0 rfl ?_
  refine xi_iload_n D_Wk_lender_1 rfl ?_
  obtain ⟨g1, h⟩ := okx_ck h
  refine xj_V1 D_Wk_lender_2 L_Wk_131 C_Wk_isPerson Z_Wk_isPerson (zl_fo (g1).1 rfl) (Nat.le_of_ble_eq_true rfl) (Nat.le_of_eq (Nat.sub_add_cancel (by omega))) (w_Wk_isPerson (by omega) (okx_mono (okx_bd h) ?_))
  intro r2 s3 h
  show Xw _ _ _ _ 5 _ [_] _ _
  refine xi_if_eq D_Wk_lender_5 (fun c4 => ?_) (fun c4 => ?_)
  · have h := okx_T c4 h
    exact xi_throw ⟨rfl, rfl, D_Wk_lender_35.1, D_Wk_lender_38.1, D_Wk_lender_39.1, D_Wk_lender_42.1⟩ (by omega) (by decide) (okx_NTI h)
  · have h := okx_F c4 h
    refine xi_aload_n D_Wk_lender_8 rfl ?_
    refine xi_iload_n D_Wk_lender_9 rfl ?_
    obtain ⟨g5, h⟩ := okx_ck h
    refine xj_V1 D_Wk_lender_10 L_Wk_108 C_Wk_isThing Z_Wk_isThing (zl_fo (g5).1 rfl) (Nat.le_of_ble_eq_true rfl) (Nat.le_of_eq (Nat.sub_add_cancel (by omega))) (w_Wk_isThing (by omega) (okx_mono (okx_bd h) ?_))
    intro r6 s7 h
    show Xw _ _ _ _ 13 _ [_] _ _
    refine xi_if_eq D_Wk_lender_13 (fun c8 => ?_) (fun c8 => ?_)
    · have h := okx_T c8 h
      exact xi_throw ⟨rfl, rfl, D_Wk_lender_35.1, D_Wk_lender_38.1, D_Wk_lender_39.1, D_Wk_lender_42.1⟩ (by omega) (by decide) (okx_NTI h)
    · have h := okx_F c8 h
      refine xi_iload_n D_Wk_lender_16 rfl ?_
      refine xi_sipush (v := 9999) D_Wk_lender_17 rfl ?_
      refine xj_S2 D_Wk_lender_20 L_Wk_111 C_Wk_isWithin Z_Wk_isWithin (Nat.le_of_ble_eq_true rfl) (Nat.le_of_eq (Nat.sub_add_cancel (by omega))) (w_Wk_isWithin (by omega) (okx_mono (okx_bd h) ?_))
      intro r9 s10 h
      show Xw _ _ _ _ 23 _ [_] _ _
      refine xi_if_eq D_Wk_lender_23 (fun c11 => ?_) (fun c11 => ?_)
      · have h := okx_T c11 h
        exact xi_throw ⟨rfl, rfl, D_Wk_lender_35.1, D_Wk_lender_38.1, D_Wk_lender_39.1, D_Wk_lender_42.1⟩ (by omega) (by decide) (okx_NTI h)
      · have h := okx_F c11 h
        refine xi_iload D_Wk_lender_26 rfl ?_
        refine xj_iconst (v := 2) D_Wk_lender_28 rfl ?_
        refine xj_S2 D_Wk_lender_29 L_Wk_111 C_Wk_isWithin Z_Wk_isWithin (Nat.le_of_ble_eq_true rfl) (Nat.le_of_eq (Nat.sub_add_cancel (by omega))) (w_Wk_isWithin (by omega) (okx_mono (okx_bd h) ?_))
        intro r12 s13 h
        show Xw _ _ _ _ 32 _ [_] _ _
        refine xi_if_ne D_Wk_lender_32 (fun c14 => ?_) (fun c14 => ?_)
        · have h := okx_F c14 h
          refine xi_aload_n D_Wk_lender_43 rfl ?_
          obtain ⟨g15, h⟩ := okx_ck h
          refine xi_getR D_Wk_lender_44 F_Wk_12 (zl_fo (g15).1 rfl) ⟨rfl, by decide⟩ (zl_gr (g15).2 rfl rfl) ?_
          refine xi_iload_n D_Wk_lender_47 rfl ?_
          refine xi_iload_n D_Wk_lender_48 rfl ?_
          refine xi_iload_n D_Wk_lender_49 rfl ?_
          refine xj_V3 D_Wk_lender_50 L_Wk_230 C_Tu_lookAtPledge Z_Tu_lookAtPledge (zl_fo (g15).1 rfl) (Nat.le_of_ble_eq_true rfl) (Nat.le_of_eq (Nat.sub_add_cancel (by omega))) (w_Tu_lookAtPledge (by omega) (okx_mono (okx_bd h) ?_))
          intro r16 s17 h
          show Xw _ _ _ _ 53 _ [] _ _
          refine xi_aload_n D_Wk_lender_53 rfl ?_
          refine xi_iload D_Wk_lender_54 rfl ?_
          refine xj_iconst (v := 0) D_Wk_lender_56 rfl ?_
          obtain ⟨g18, h⟩ := okx_ck h
          refine xi_V (k := 5) [_, _] D_Wk_lender_57 L_Wk_226 C_Wk_answerOfDeal.1 C_Wk_answerOfDeal.2.1 ⟨zl_fo (g18).1 rfl, rfl⟩ ⟨Nat.le_of_ble_eq_true rfl, C_Wk_answerOfDeal.2.2.1, (Nat.le_of_eq (Nat.sub_add_cancel (by omega))), by decide, by decide⟩ (w_Wk_answerOfDeal (by omega) (okx_mono (okx_bd h) ?_))
          intro r19 s20 h
          rcases r19 with _ | r21
          · exact ⟨rfl, okx_NTI h⟩
          show Xw _ _ _ _ 60 _ [_] _ _
          exact xi_ireturn D_Wk_lender_60 rfl (rfl) (okx_TI h)
        · have h := okx_T c14 h
          exact xi_throw ⟨rfl, rfl, D_Wk_lender_35.1, D_Wk_lender_38.1, D_Wk_lender_39.1, D_Wk_lender_42.1⟩ (by omega) (by decide) (okx_NTI h)
noncomputable def f_Wk_lost (x1 : Int32) (s : Sg) : Option (Int32 × Sg) :=
  f_ck (zl_B s) <|
  f_bd (f_Wk_isNobody  s) fun r2 s3 =>
  if r2 = 0 then
    f_ck (zl_B s3) <|
    f_bd (f_Wk_isPains x1 s3) fun r6 s7 =>
    if r6 = 0 then
      some ((-1), s7)
    else
      f_ck (zl_B s7) <|
      f_bd (f_Wk_bestPains  s7) fun r10 s11 =>
      f_ck (zl_B s11) <|
      f_bd (f_Wo_goodOf r10 s11) fun r13 s14 =>
      f_ck (zl_B s14) <|
      f_bd (f_Wo_goodOf x1 s14) fun r16 s17 =>
      some ((r13 - r16), s17)
  else
    some ((-1), s3)
theorem w_Wk_lost {x1 : Int32} {s : Sg} {d : Nat} {Q : Option (Option Value) → Sg → Prop} (hd : 7 ≤ d) (h : okx (zq_I Q) (f_Wk_lost x1 s)) : Cw d M_Wk_lost [.ref 4, .int x1] s Q := by
  refine Cw.of (by decide +kernel) (Nat.le_of_ble_eq_true rfl) ?_
  show Xw d M_Wk_lost 0 0 0 [.ref 4, .int x1] [] s _
  unfold f_Wk_lost at h
  refine xi_aload_n D_Wk_lost_0 rfl ?_
  obtain ⟨g1, h⟩ := okx_ck h
  refine xj_V0 D_Wk_lost_1 L_Wk_168 C_Wk_isNobody Z_Wk_isNobody (zl_fo (g1).1 rfl) (Nat.le_of_ble_eq_true rfl) (Nat.le_of_eq (Nat.sub_add_cancel (by omega))) (w_Wk_isNobody (by omega) (okx_mono (okx_bd h) ?_))
  intro r2 s3 h
  show Xw _ _ _ _ 4 _ [_] _ _
  refine xi_if_ne D_Wk_lost_4 (fun c4 => ?_) (fun c4 => ?_)
  · have h := okx_F c4 h
    refine xj_iconst (v := (-1)) D_Wk_lost_15 rfl ?_
    exact xi_ireturn D_Wk_lost_16 rfl (rfl) (okx_I h)
  · have h := okx_T c4 h
    refine xi_aload_n D_Wk_lost_7 rfl ?_
    refine xi_iload_n D_Wk_lost_8 rfl ?_
    obtain ⟨g5, h⟩ := okx_ck h
    refine xj_V1 D_Wk_lost_9 L_Wk_87 C_Wk_isPains Z_Wk_isPains (zl_fo (g5).1 rfl) (Nat.le_of_ble_eq_true rfl) (Nat.le_of_eq (Nat.sub_add_cancel (by omega))) (w_Wk_isPains (by omega) (okx_mono (okx_bd h) ?_))
    intro r6 s7 h
    show Xw _ _ _ _ 12 _ [_] _ _
    refine xi_if_ne D_Wk_lost_12 (fun c8 => ?_) (fun c8 => ?_)
    · have h := okx_F c8 h
      refine xi_aload_n D_Wk_lost_17 rfl ?_
      obtain ⟨g9, h⟩ := okx_ck h
      refine xi_getR D_Wk_lost_18 F_Wk_20 (zl_fo (g9).1 rfl) ⟨rfl, by decide⟩ (zl_gr (g9).2 rfl rfl) ?_
      refine xi_aload_n D_Wk_lost_21 rfl ?_
      refine xj_V0 D_Wk_lost_22 L_Wk_184 C_Wk_bestPains Z_Wk_bestPains (zl_fo (g9).1 rfl) (Nat.le_of_ble_eq_true rfl) (Nat.le_of_eq (Nat.sub_add_cancel (by omega))) (w_Wk_bestPains (by omega) (okx_mono (okx_bd h) ?_))
      intro r10 s11 h
      show Xw _ _ _ _ 25 _ [_, _] _ _
      obtain ⟨g12, h⟩ := okx_ck h
      refine xj_V1 D_Wk_lost_25 L_Wk_181 C_Wo_goodOf Z_Wo_goodOf (zl_fo (g12).1 rfl) (Nat.le_of_ble_eq_true rfl) (Nat.le_of_eq (Nat.sub_add_cancel (by omega))) (w_Wo_goodOf (by omega) (okx_mono (okx_bd h) ?_))
      intro r13 s14 h
      show Xw _ _ _ _ 28 _ [_] _ _
      refine xi_aload_n D_Wk_lost_28 rfl ?_
      obtain ⟨g15, h⟩ := okx_ck h
      refine xi_getR D_Wk_lost_29 F_Wk_20 (zl_fo (g15).1 rfl) ⟨rfl, by decide⟩ (zl_gr (g15).2 rfl rfl) ?_
      refine xi_iload_n D_Wk_lost_32 rfl ?_
      refine xj_V1 D_Wk_lost_33 L_Wk_181 C_Wo_goodOf Z_Wo_goodOf (zl_fo (g15).1 rfl) (Nat.le_of_ble_eq_true rfl) (Nat.le_of_eq (Nat.sub_add_cancel (by omega))) (w_Wo_goodOf (by omega) (okx_mono (okx_bd h) ?_))
      intro r16 s17 h
      show Xw _ _ _ _ 36 _ [_, _] _ _
      refine xi_isub D_Wk_lost_36 ?_
      exact xi_ireturn D_Wk_lost_37 rfl (rfl) (okx_I h)
    · have h := okx_T c8 h
      refine xj_iconst (v := (-1)) D_Wk_lost_15 rfl ?_
      exact xi_ireturn D_Wk_lost_16 rfl (rfl) (okx_I h)
noncomputable def f_Wk_makes (x1 : Int32) (x2 : Int32) (s : Sg) : Option ((Option Int32) × Sg) :=
  f_ck (zl_B s) <|
  f_bd (f_Wk_isSet x1 (mI s 7 0) s) fun r2 s3 =>
  if r2 = 0 then
    some (none, s3)
  else
    f_ck (zl_B s3) <|
    f_bd (f_Wk_isPains x2 s3) fun r6 s7 =>
    if r6 = 0 then
      some (none, s7)
    else
      f_ck (zl_B s7) <|
      f_bd (f_Wk_madeBy x1 x2 s7) fun r10 s11 =>
      some ((some r10), s11)
theorem w_Wk_makes {x1 : Int32} {x2 : Int32} {s : Sg} {d : Nat} {Q : Option (Option Value) → Sg → Prop} (hd : 9 ≤ d) (h : okx (zq_TI Q) (f_Wk_makes x1 x2 s)) : Cw d M_Wk_makes [.ref 4, .int x1, .int x2] s Q := by
  refine Cw.of (by decide +kernel) (Nat.le_of_ble_eq_true rfl) ?_
  show Xw d M_Wk_makes 1 6 0 [.ref 4, .int x1, .int x2] [] s _
  unfold f_Wk_makes at h
  refine xi_iload_n D_Wk_makes_0 rfl ?_
  refine xi_aload_n D_Wk_makes_1 rfl ?_
  obtain ⟨g1, h⟩ := okx_ck h
  refine xi_getR D_Wk_makes_2 F_Wk_27 (zl_fo (g1).1 rfl) ⟨rfl, by decide⟩ (zl_gr (g1).2 rfl rfl) ?_
  refine xi_getI D_Wk_makes_5 F_Wk_78 (zl_fo (g1).1 rfl) ⟨rfl, by decide⟩ ?_
  refine xj_S2 D_Wk_makes_8 L_Wk_81 C_Wk_isSet Z_Wk_isSet (Nat.le_of_ble_eq_true rfl) (Nat.le_of_eq (Nat.sub_add_cancel (by omega))) (w_Wk_isSet (by omega) (okx_mono (okx_bd h) ?_))
  intro r2 s3 h
  show Xw _ _ _ _ 11 _ [_] _ _
  refine xi_if_eq D_Wk_makes_11 (fun c4 => ?_) (fun c4 => ?_)
  · have h := okx_T c4 h
    exact xi_throw ⟨rfl, rfl, D_Wk_makes_22.1, D_Wk_makes_25.1, D_Wk_makes_26.1, D_Wk_makes_29.1⟩ (by omega) (by decide) (okx_NTI h)
  · have h := okx_F c4 h
    refine xi_aload_n D_Wk_makes_14 rfl ?_
    refine xi_iload_n D_Wk_makes_15 rfl ?_
    obtain ⟨g5, h⟩ := okx_ck h
    refine xj_V1 D_Wk_makes_16 L_Wk_87 C_Wk_isPains Z_Wk_isPains (zl_fo (g5).1 rfl) (Nat.le_of_ble_eq_true rfl) (Nat.le_of_eq (Nat.sub_add_cancel (by omega))) (w_Wk_isPains (by omega) (okx_mono (okx_bd h) ?_))
    intro r6 s7 h
    show Xw _ _ _ _ 19 _ [_] _ _
    refine xi_if_ne D_Wk_makes_19 (fun c8 => ?_) (fun c8 => ?_)
    · have h := okx_F c8 h
      refine xi_aload_n D_Wk_makes_30 rfl ?_
      refine xi_iload_n D_Wk_makes_31 rfl ?_
      refine xi_iload_n D_Wk_makes_32 rfl ?_
      obtain ⟨g9, h⟩ := okx_ck h
      refine xj_V2 D_Wk_makes_33 L_Wk_127 C_Wk_madeBy Z_Wk_madeBy (zl_fo (g9).1 rfl) (Nat.le_of_ble_eq_true rfl) (Nat.le_of_eq (Nat.sub_add_cancel (by omega))) (w_Wk_madeBy (by omega) (okx_mono (okx_bd h) ?_))
      intro r10 s11 h
      show Xw _ _ _ _ 36 _ [_] _ _
      exact xi_ireturn D_Wk_makes_36 rfl (rfl) (okx_TI h)
    · have h := okx_T c8 h
      exact xi_throw ⟨rfl, rfl, D_Wk_makes_22.1, D_Wk_makes_25.1, D_Wk_makes_26.1, D_Wk_makes_29.1⟩ (by omega) (by decide) (okx_NTI h)
noncomputable def f_Wk_mark_b60 (a3 : Nat) (s : Sg) : Option (Int32 × Sg) :=
  f_ck (zl_B s) <|
  f_ck (zl_at s a3 2) <|
  f_bd (f_To_copyFrom a3 7 s) fun r26 s27 =>
  some (1, s27)
theorem w_Wk_mark_b60 {a3 : Nat} {s : Sg} {d : Nat} {Q : Option (Option Value) → Sg → Prop} (hd : 3 ≤ d) (h : okx (zq_I Q) (f_Wk_mark_b60 a3 s)) : Xw d M_Wk_mark 0 0 60 [.ref 4, .retAddr 0, .retAddr 0, .ref a3] [] s Q := by
  unfold f_Wk_mark_b60 at h
  refine xi_aload_n D_Wk_mark_60 rfl ?_
  refine xi_aload_n D_Wk_mark_61 rfl ?_
  obtain ⟨g24, h⟩ := okx_ck h
  refine xi_getR D_Wk_mark_62 F_Wk_27 (zl_fo (g24).1 rfl) ⟨rfl, by decide⟩ (zl_gr (g24).2 rfl rfl) ?_
  obtain ⟨g25, h⟩ := okx_ck h
  refine xj_V1 D_Wk_mark_65 L_Wk_64 C_To_copyFrom Z_To_copyFrom (g25) (Nat.le_of_ble_eq_true rfl) (Nat.le_of_eq (Nat.sub_add_cancel (by omega))) (w_To_copyFrom (by omega) (okx_mono (okx_bd h) ?_))
  intro r26 s27 h
  show Xw _ _ _ _ 68 _ [] _ _
  refine xj_iconst (v := 1) D_Wk_mark_68 rfl ?_
  exact xi_ireturn D_Wk_mark_69 rfl (rfl) (okx_I h)
noncomputable def f_Wk_mark (x1 : Int32) (x2 : Int32) (s : Sg) : Option (Int32 × Sg) :=
  f_bd (f_Wk_isWithin x1 3 s) fun r1 s2 =>
  if r1 = 0 then
    some (0, s2)
  else
    f_ck (zl_B s2) <|
    f_ck (vp_in x1 4) <|
    f_mt (mR s2 41 (Int32.toNatClampNeg x1)) (
      if x2 = 0 then
        f_ck ((zn_SH (mN s2)).1 = 2) <|
        let n10 : Nat := mN s2
        let s11 : Sg := uN s2
        f_bd (f_To_init n10 s11) fun r12 s13 =>
        f_ck (zl_B s13) <|
        f_ck (vp_in x1 4) <|
        f_ck (zl_at s13 n10 2) <|
        let s17 : Sg := uR s13 41 (Int32.toNatClampNeg x1) (some n10)
        f_Wk_mark_b60  n10 s17
      else
        some (0, s2)
    ) fun a6 =>
    if x2 = 0 then
      f_Wk_mark_b60  a6 s2
    else
      f_bd (f_To_copyFrom 7 a6 s2) fun r19 s20 =>
      f_ck (zl_B s20) <|
      f_bd (f_Wk_forgetAll  s20) fun r22 s23 =>
      some (1, s23)
theorem w_Wk_mark {x1 : Int32} {x2 : Int32} {s : Sg} {d : Nat} {Q : Option (Option Value) → Sg → Prop} (hd : 3 ≤ d) (h : okx (zq_I Q) (f_Wk_mark x1 x2 s)) : Cw d M_Wk_mark [.ref 4, .int x1, .int x2] s Q := by
  refine Cw.of (by decide +kernel) (Nat.le_of_ble_eq_true rfl) ?_
  show Xw d M_Wk_mark 10 1064 0 [.ref 4, .int x1, .int x2, .retAddr 0] [] s _
  unfold f_Wk_mark at h
  refine xi_iload_n D_Wk_mark_0 rfl ?_
  refine xj_iconst (v := 3) D_Wk_mark_1 rfl ?_
  refine xj_S2 D_Wk_mark_2 L_Wk_111 C_Wk_isWithin Z_Wk_isWithin (Nat.le_of_ble_eq_true rfl) (Nat.le_of_eq (Nat.sub_add_cancel (by omega))) (w_Wk_isWithin (by omega) (okx_mono (okx_bd h) ?_))
  intro r1 s2 h
  show Xw _ _ _ _ 5 _ [_] _ _
  refine xi_if_ne D_Wk_mark_5 (fun c3 => ?_) (fun c3 => ?_)
  · have h := okx_F c3 h
    refine xi_aload_n D_Wk_mark_10 rfl ?_
    obtain ⟨g4, h⟩ := okx_ck h
    refine xi_getR D_Wk_mark_11 F_Wk_34 (zl_fo (g4).1 rfl) ⟨rfl, by decide⟩ (zl_gr (g4).2 rfl rfl) ?_
    refine xi_iload_n D_Wk_mark_14 rfl ?_
    obtain ⟨g5, h⟩ := okx_ck h
    rcases okx_mt h with ⟨e7, h⟩ | ⟨a6, e7, h⟩
    · refine xi_aaldN D_Wk_mark_15 (zl_fx (g4).1 rfl) (zl_ib (n := 4) rfl (g5)) e7 ?_
      refine xi_astore_nN (ls' := [_, _, _, _]) D_Wk_mark_16 rfl (by decide) ?_
      refine xi_iload_n D_Wk_mark_17 rfl ?_
      refine xi_if_eq D_Wk_mark_18 (fun c8 => ?_) (fun c8 => ?_)
      · have h := okx_T c8 h
        refine xi_aload_nN D_Wk_mark_41 rfl ?_
        refine xi_ifnonnullN D_Wk_mark_42 ?_
        obtain ⟨g9, h⟩ := okx_ck h
        refine xi_new (k := 2) D_Wk_mark_45 J_Wk_28 T_To.1 T_To.2 (by decide) g9 ⟨by decide, by decide⟩ ?_
        refine xi_dupr D_Wk_mark_48 ?_
        refine xi_I D_Wk_mark_49 L_Wk_30 C_To_init.1 C_To_init.2.1 ⟨Nat.le_of_ble_eq_true rfl, C_To_init.2.2, (Nat.le_of_eq (Nat.sub_add_cancel (by omega))), by decide, by decide⟩ (w_To_init (by omega) (okx_mono (okx_bd h) ?_))
        intro r12 s13 h
        show Xw _ _ _ _ 52 _ [_] _ _
        refine xi_astore_n (ls' := [_, _, _, _]) D_Wk_mark_52 rfl (by decide) ?_
        refine xi_aload_n D_Wk_mark_53 rfl ?_
        obtain ⟨g14, h⟩ := okx_ck h
        refine xi_getR D_Wk_mark_54 F_Wk_34 (zl_fo (g14).1 rfl) ⟨rfl, by decide⟩ (zl_gr (g14).2 rfl rfl) ?_
        refine xi_iload_n D_Wk_mark_57 rfl ?_
        refine xi_aload_n D_Wk_mark_58 rfl ?_
        obtain ⟨g15, h⟩ := okx_ck h
        obtain ⟨g16, h⟩ := okx_ck h
        refine xi_aast D_Wk_mark_59 (zl_fx (g14).1 rfl) g16 (zl_ib (n := 4) rfl (g15)) ?_
        exact xk_wk (w_Wk_mark_b60 (by omega)  h) ⟨Or.inl rfl, Or.inr rfl, Or.inr rfl, Or.inl rfl, trivial⟩
      · have h := okx_F c8 h
        refine xi_aload_nN D_Wk_mark_21 rfl ?_
        refine xi_ifnonnullN D_Wk_mark_22 ?_
        refine xj_iconst (v := 0) D_Wk_mark_25 rfl ?_
        exact xi_ireturn D_Wk_mark_26 rfl (rfl) (okx_I h)
    refine xi_aald D_Wk_mark_15 (zl_fx (g4).1 rfl) (zl_ib (n := 4) rfl (g5)) e7 ?_
    refine xi_astore_n (ls' := [_, _, _, _]) D_Wk_mark_16 rfl (by decide) ?_
    refine xi_iload_n D_Wk_mark_17 rfl ?_
    refine xi_if_eq D_Wk_mark_18 (fun c18 => ?_) (fun c18 => ?_)
    · have h := okx_T c18 h
      refine xi_aload_n D_Wk_mark_41 rfl ?_
      refine xi_ifnonnull D_Wk_mark_42 ?_
      exact xi_less (by decide) (by decide) (xk_wk (w_Wk_mark_b60 (by omega)  h) ⟨Or.inl rfl, Or.inr rfl, Or.inr rfl, Or.inl rfl, trivial⟩)
    · have h := okx_F c18 h
      refine xi_aload_n D_Wk_mark_21 rfl ?_
      refine xi_ifnonnull D_Wk_mark_22 ?_
      refine xi_aload_n D_Wk_mark_27 rfl ?_
      refine xi_getR D_Wk_mark_28 F_Wk_27 (zl_fo (g4).1 rfl) ⟨rfl, by decide⟩ (zl_gr (g4).2 rfl rfl) ?_
      refine xi_aload_n D_Wk_mark_31 rfl ?_
      refine xj_V1 D_Wk_mark_32 L_Wk_64 C_To_copyFrom Z_To_copyFrom (zl_fo (g4).1 rfl) (Nat.le_of_ble_eq_true rfl) (Nat.le_of_eq (Nat.sub_add_cancel (by omega))) (w_To_copyFrom (by omega) (okx_mono (okx_bd h) ?_))
      intro r19 s20 h
      show Xw _ _ _ _ 35 _ [] _ _
      refine xi_aload_n D_Wk_mark_35 rfl ?_
      obtain ⟨g21, h⟩ := okx_ck h
      refine xj_V0 D_Wk_mark_36 L_Wk_68 C_Wk_forgetAll Z_Wk_forgetAll (zl_fo (g21).1 rfl) (Nat.le_of_ble_eq_true rfl) (Nat.le_of_eq (Nat.sub_add_cancel (by omega))) (w_Wk_forgetAll (by omega) (okx_mono (okx_bd h) ?_))
      intro r22 s23 h
      show Xw _ _ _ _ 39 _ [] _ _
      refine xj_iconst (v := 1) D_Wk_mark_39 rfl ?_
      exact xi_ireturn D_Wk_mark_40 rfl (rfl) (okx_I h)
  · have h := okx_T c3 h
    refine xj_iconst (v := 0) D_Wk_mark_8 rfl ?_
    exact xi_ireturn D_Wk_mark_9 rfl (rfl) (okx_I h)
noncomputable def f_Wk_oneHand_b111 (R57 : Int32 → Int32 → Int32 → Int32 → Int32 → Int32 → Sg → Option ((Option Int32) × Sg)) (x1 : Int32) (x2 : Int32) (x3 : Int32) (x4 : Int32) (x5 : Int32) (x6 : Int32) (s : Sg) : Option ((Option Int32) × Sg) :=
  R57 x1 x2 x3 x4 x5 (x6 + 1) s
theorem w_Wk_oneHand_b111 {x1 : Int32} {x2 : Int32} {x3 : Int32} {x4 : Int32} {x5 : Int32} {x6 : Int32} {s : Sg} {d : Nat} {Q : Option (Option Value) → Sg → Prop} (hd : 9 ≤ d) {R57 : Int32 → Int32 → Int32 → Int32 → Int32 → Int32 → Sg → Option ((Option Int32) × Sg)} (hR57 : ∀ (x1 : Int32) (x2 : Int32) (x3 : Int32) (x4 : Int32) (x5 : Int32) (x6 : Int32) (s : Sg), okx (zq_TI Q) (R57 x1 x2 x3 x4 x5 x6 s) → Xw d M_Wk_oneHand 1 6 57 [.ref 4, .int x1, .int x2, .int x3, .int x4, .int x5, .int x6] [] s Q) (h : okx (zq_TI Q) (f_Wk_oneHand_b111 R57 x1 x2 x3 x4 x5 x6 s)) : Xw d M_Wk_oneHand 1 6 111 [.ref 4, .int x1, .int x2, .int x3, .int x4, .int x5, .int x6] [] s Q := by
  unfold f_Wk_oneHand_b111 at h
  refine xi_iinc (v := _ + 1) (ls' := [_, _, _, _, _, _, _]) D_Wk_oneHand_111 rfl rfl rfl (by decide) ?_
  refine xi_goto D_Wk_oneHand_114 ?_
  exact hR57 _ _ _ _ _ _ _ h
noncomputable def f_Wk_oneHand_b117 (x4 : Int32) (x5 : Int32) (s : Sg) : Option ((Option Int32) × Sg) :=
  if x4 = (-1073741824) then
    some (none, s)
  else
    if x5 = (-1073741824) then
      some (none, s)
    else
      some ((some (x4 - x5)), s)
theorem w_Wk_oneHand_b117 {x4 : Int32} {x5 : Int32} {s : Sg} {d : Nat} {Q : Option (Option Value) → Sg → Prop} (hd : 9 ≤ d) (h : okx (zq_TI Q) (f_Wk_oneHand_b117 x4 x5 s)) : Xw d M_Wk_oneHand 1 6 117 [.retAddr 0, .retAddr 0, .retAddr 0, .retAddr 0, .int x4, .int x5, .retAddr 0] [] s Q := by
  unfold f_Wk_oneHand_b117 at h
  refine xi_iload D_Wk_oneHand_117 rfl ?_
  refine xi_ldc D_Wk_oneHand_119 K_Wk_195 ?_
  refine xi_icmp_eq D_Wk_oneHand_121 (fun c31 => ?_) (fun c31 => ?_)
  · have h := okx_T c31 h
    exact xi_throw ⟨rfl, rfl, D_Wk_oneHand_131.1, D_Wk_oneHand_134.1, D_Wk_oneHand_135.1, D_Wk_oneHand_138.1⟩ (by omega) (by decide) (okx_NTI h)
  · have h := okx_F c31 h
    refine xi_iload D_Wk_oneHand_124 rfl ?_
    refine xi_ldc D_Wk_oneHand_126 K_Wk_195 ?_
    refine xi_icmp_ne D_Wk_oneHand_128 (fun c32 => ?_) (fun c32 => ?_)
    · have h := okx_F c32 h
      refine xi_iload D_Wk_oneHand_139 rfl ?_
      refine xi_iload D_Wk_oneHand_141 rfl ?_
      refine xi_isub D_Wk_oneHand_143 ?_
      exact xi_ireturn D_Wk_oneHand_144 rfl (rfl) (okx_TI h)
    · have h := okx_T c32 h
      exact xi_throw ⟨rfl, rfl, D_Wk_oneHand_131.1, D_Wk_oneHand_134.1, D_Wk_oneHand_135.1, D_Wk_oneHand_138.1⟩ (by omega) (by decide) (okx_NTI h)
noncomputable def f_Wk_oneHand_b57 (R57 : Int32 → Int32 → Int32 → Int32 → Int32 → Int32 → Sg → Option ((Option Int32) × Sg)) (x1 : Int32) (x2 : Int32) (x3 : Int32) (x4 : Int32) (x5 : Int32) (x6 : Int32) (s : Sg) : Option ((Option Int32) × Sg) :=
  if x3 ≤ x6 then
    f_Wk_oneHand_b117  x4 x5 s
  else
    f_ck (zl_B s) <|
    f_bd (f_Wk_digitIn x6 x1 s) fun r19 s20 =>
    f_ck (zl_B s20) <|
    f_bd (f_Wk_digitIn x6 x2 s20) fun r22 s23 =>
    if r19 = r22 then
      f_ck (zl_B s23) <|
      f_ck (vp_in x6 216) <|
      let v27 : Int32 := (if x4 < (mI s23 45 (Int32.toNatClampNeg x6)) then (mI s23 45 (Int32.toNatClampNeg x6)) else x4)
      f_Wk_oneHand_b111 R57 x1 x2 x3 v27 x5 x6 s23
    else
      f_ck (zl_B s23) <|
      f_ck (vp_in x6 216) <|
      let v30 : Int32 := (if x5 < (mI s23 45 (Int32.toNatClampNeg x6)) then (mI s23 45 (Int32.toNatClampNeg x6)) else x5)
      f_Wk_oneHand_b111 R57 x1 x2 x3 x4 v30 x6 s23
theorem w_Wk_oneHand_b57 {x1 : Int32} {x2 : Int32} {x3 : Int32} {x4 : Int32} {x5 : Int32} {x6 : Int32} {s : Sg} {d : Nat} {Q : Option (Option Value) → Sg → Prop} (hd : 9 ≤ d) {R57 : Int32 → Int32 → Int32 → Int32 → Int32 → Int32 → Sg → Option ((Option Int32) × Sg)} (hR57 : ∀ (x1 : Int32) (x2 : Int32) (x3 : Int32) (x4 : Int32) (x5 : Int32) (x6 : Int32) (s : Sg), okx (zq_TI Q) (R57 x1 x2 x3 x4 x5 x6 s) → Xw d M_Wk_oneHand 1 6 57 [.ref 4, .int x1, .int x2, .int x3, .int x4, .int x5, .int x6] [] s Q) (h : okx (zq_TI Q) (f_Wk_oneHand_b57 R57 x1 x2 x3 x4 x5 x6 s)) : Xw d M_Wk_oneHand 1 6 57 [.ref 4, .int x1, .int x2, .int x3, .int x4, .int x5, .int x6] [] s Q := by
  unfold f_Wk_oneHand_b57 at h
  refine xi_iload D_Wk_oneHand_57 rfl ?_
  refine xi_iload_n D_Wk_oneHand_59 rfl ?_
  refine xi_icmp_ge D_Wk_oneHand_60 (fun c17 => ?_) (fun c17 => ?_)
  · have h := okx_T c17 h
    exact xk_wk (w_Wk_oneHand_b117 (by omega)  h) ⟨Or.inr rfl, Or.inr rfl, Or.inr rfl, Or.inr rfl, Or.inl rfl, Or.inl rfl, Or.inr rfl, trivial⟩
  · have h := okx_F c17 h
    refine xi_aload_n D_Wk_oneHand_63 rfl ?_
    refine xi_iload D_Wk_oneHand_64 rfl ?_
    refine xi_iload_n D_Wk_oneHand_66 rfl ?_
    obtain ⟨g18, h⟩ := okx_ck h
    refine xj_V2 D_Wk_oneHand_67 L_Wk_211 C_Wk_digitIn Z_Wk_digitIn (zl_fo (g18).1 rfl) (Nat.le_of_ble_eq_true rfl) (Nat.le_of_eq (Nat.sub_add_cancel (by omega))) (w_Wk_digitIn (by omega) (okx_mono (okx_bd h) ?_))
    intro r19 s20 h
    show Xw _ _ _ _ 70 _ [_] _ _
    refine xi_aload_n D_Wk_oneHand_70 rfl ?_
    refine xi_iload D_Wk_oneHand_71 rfl ?_
    refine xi_iload_n D_Wk_oneHand_73 rfl ?_
    obtain ⟨g21, h⟩ := okx_ck h
    refine xj_V2 D_Wk_oneHand_74 L_Wk_211 C_Wk_digitIn Z_Wk_digitIn (zl_fo (g21).1 rfl) (Nat.le_of_ble_eq_true rfl) (Nat.le_of_eq (Nat.sub_add_cancel (by omega))) (w_Wk_digitIn (by omega) (okx_mono (okx_bd h) ?_))
    intro r22 s23 h
    show Xw _ _ _ _ 77 _ [_, _] _ _
    refine xi_icmp_ne D_Wk_oneHand_77 (fun c24 => ?_) (fun c24 => ?_)
    · have h := okx_F c24 h
      refine xi_iload D_Wk_oneHand_97 rfl ?_
      refine xi_aload_n D_Wk_oneHand_99 rfl ?_
      obtain ⟨g28, h⟩ := okx_ck h
      refine xi_getR D_Wk_oneHand_100 F_Wk_45 (zl_fo (g28).1 rfl) ⟨rfl, by decide⟩ (zl_gr (g28).2 rfl rfl) ?_
      refine xi_iload D_Wk_oneHand_103 rfl ?_
      obtain ⟨g29, h⟩ := okx_ck h
      refine xj_iald D_Wk_oneHand_105 (zl_fx (g28).1 rfl) (zl_ib (n := 216) rfl (g29)) ?_
      refine xi_maxi D_Wk_oneHand_106 L_Wk_214 ⟨by omega, Nat.le_of_ble_eq_true rfl⟩ ?_
      refine xi_istore (ls' := [_, _, _, _, _, _, _]) D_Wk_oneHand_109 rfl (by decide) ?_
      exact w_Wk_oneHand_b111 (by omega) hR57 h
    · have h := okx_T c24 h
      refine xi_iload D_Wk_oneHand_80 rfl ?_
      refine xi_aload_n D_Wk_oneHand_82 rfl ?_
      obtain ⟨g25, h⟩ := okx_ck h
      refine xi_getR D_Wk_oneHand_83 F_Wk_45 (zl_fo (g25).1 rfl) ⟨rfl, by decide⟩ (zl_gr (g25).2 rfl rfl) ?_
      refine xi_iload D_Wk_oneHand_86 rfl ?_
      obtain ⟨g26, h⟩ := okx_ck h
      refine xj_iald D_Wk_oneHand_88 (zl_fx (g25).1 rfl) (zl_ib (n := 216) rfl (g26)) ?_
      refine xi_maxi D_Wk_oneHand_89 L_Wk_214 ⟨by omega, Nat.le_of_ble_eq_true rfl⟩ ?_
      refine xi_istore (ls' := [_, _, _, _, _, _, _]) D_Wk_oneHand_92 rfl (by decide) ?_
      refine xi_goto D_Wk_oneHand_94 ?_
      exact w_Wk_oneHand_b111 (by omega) hR57 h
noncomputable def f_Wk_oneHand_h57 : Nat → Int32 → Int32 → Int32 → Int32 → Int32 → Int32 → Sg → Option ((Option Int32) × Sg)
  | 0, _, _, _, _, _, _, _ => none
  | n + 1, x1, x2, x3, x4, x5, x6, s => f_Wk_oneHand_b57 (f_Wk_oneHand_h57 n) x1 x2 x3 x4 x5 x6 s
theorem w_Wk_oneHand_h57 {d : Nat} {Q : Option (Option Value) → Sg → Prop} (hd : 9 ≤ d) : ∀ (n : Nat) (x1 : Int32) (x2 : Int32) (x3 : Int32) (x4 : Int32) (x5 : Int32) (x6 : Int32) (s : Sg), okx (zq_TI Q) (f_Wk_oneHand_h57 n x1 x2 x3 x4 x5 x6 s) → Xw d M_Wk_oneHand 1 6 57 [.ref 4, .int x1, .int x2, .int x3, .int x4, .int x5, .int x6] [] s Q := by
  intro n
  induction n with
  | zero => intro x1 x2 x3 x4 x5 x6 s h; exact okx_no h
  | succ n ih => intro x1 x2 x3 x4 x5 x6 s h; exact w_Wk_oneHand_b57 hd  ih  h
noncomputable def f_Wk_oneHand (x1 : Int32) (x2 : Int32) (s : Sg) : Option ((Option Int32) × Sg) :=
  f_ck (zl_B s) <|
  f_bd (f_Wk_plainCount  s) fun r2 s3 =>
  if r2 = 0 then
    some (none, s3)
  else
    f_ck (zl_B s3) <|
    f_bd (f_Wk_isThing x1 s3) fun r6 s7 =>
    if r6 = 0 then
      some (none, s7)
    else
      f_ck (zl_B s7) <|
      f_bd (f_Wk_isThing x2 s7) fun r10 s11 =>
      if r10 = 0 then
        some (none, s11)
      else
        if x1 = x2 then
          some (none, s11)
        else
          f_ck (zl_B s11) <|
          f_bd (f_Wk_fillPlain 0 (r2 - 1) s11) fun r15 s16 =>
          f_Wk_oneHand_h57  zl_fl x1 x2 r2 (-1073741824) (-1073741824) 0 s16
theorem w_Wk_oneHand {x1 : Int32} {x2 : Int32} {s : Sg} {d : Nat} {Q : Option (Option Value) → Sg → Prop} (hd : 9 ≤ d) (h : okx (zq_TI Q) (f_Wk_oneHand x1 x2 s)) : Cw d M_Wk_oneHand [.ref 4, .int x1, .int x2] s Q := by
  refine Cw.of (by decide +kernel) (Nat.le_of_ble_eq_true rfl) ?_
  show Xw d M_Wk_oneHand 1 6 0 [.ref 4, .int x1, .int x2, .retAddr 0, .retAddr 0, .retAddr 0, .retAddr 0] [] s _
  unfold f_Wk_oneHand at h
  refine xi_aload_n D_Wk_oneHand_0 rfl ?_
  obtain ⟨g1, h⟩ := okx_ck h
  refine xj_V0 D_Wk_oneHand_1 L_Wk_188 C_Wk_plainCount Z_Wk_plainCount (zl_fo (g1).1 rfl) (Nat.le_of_ble_eq_true rfl) (Nat.le_of_eq (Nat.sub_add_cancel (by omega))) (w_Wk_plainCount (by omega) (okx_mono (okx_bd h) ?_))
  intro r2 s3 h
  show Xw _ _ _ _ 4 _ [_] _ _
  refine xi_istore_n (ls' := [_, _, _, _, _, _, _]) D_Wk_oneHand_4 rfl (by decide) ?_
  refine xi_iload_n D_Wk_oneHand_5 rfl ?_
  refine xi_if_eq D_Wk_oneHand_6 (fun c4 => ?_) (fun c4 => ?_)
  · have h := okx_T c4 h
    exact xi_throw ⟨rfl, rfl, D_Wk_oneHand_30.1, D_Wk_oneHand_33.1, D_Wk_oneHand_34.1, D_Wk_oneHand_37.1⟩ (by omega) (by decide) (okx_NTI h)
  · have h := okx_F c4 h
    refine xi_aload_n D_Wk_oneHand_9 rfl ?_
    refine xi_iload_n D_Wk_oneHand_10 rfl ?_
    obtain ⟨g5, h⟩ := okx_ck h
    refine xj_V1 D_Wk_oneHand_11 L_Wk_108 C_Wk_isThing Z_Wk_isThing (zl_fo (g5).1 rfl) (Nat.le_of_ble_eq_true rfl) (Nat.le_of_eq (Nat.sub_add_cancel (by omega))) (w_Wk_isThing (by omega) (okx_mono (okx_bd h) ?_))
    intro r6 s7 h
    show Xw _ _ _ _ 14 _ [_] _ _
    refine xi_if_eq D_Wk_oneHand_14 (fun c8 => ?_) (fun c8 => ?_)
    · have h := okx_T c8 h
      exact xi_throw ⟨rfl, rfl, D_Wk_oneHand_30.1, D_Wk_oneHand_33.1, D_Wk_oneHand_34.1, D_Wk_oneHand_37.1⟩ (by omega) (by decide) (okx_NTI h)
    · have h := okx_F c8 h
      refine xi_aload_n D_Wk_oneHand_17 rfl ?_
      refine xi_iload_n D_Wk_oneHand_18 rfl ?_
      obtain ⟨g9, h⟩ := okx_ck h
      refine xj_V1 D_Wk_oneHand_19 L_Wk_108 C_Wk_isThing Z_Wk_isThing (zl_fo (g9).1 rfl) (Nat.le_of_ble_eq_true rfl) (Nat.le_of_eq (Nat.sub_add_cancel (by omega))) (w_Wk_isThing (by omega) (okx_mono (okx_bd h) ?_))
      intro r10 s11 h
      show Xw _ _ _ _ 22 _ [_] _ _
      refine xi_if_eq D_Wk_oneHand_22 (fun c12 => ?_) (fun c12 => ?_)
      · have h := okx_T c12 h
        exact xi_throw ⟨rfl, rfl, D_Wk_oneHand_30.1, D_Wk_oneHand_33.1, D_Wk_oneHand_34.1, D_Wk_oneHand_37.1⟩ (by omega) (by decide) (okx_NTI h)
      · have h := okx_F c12 h
        refine xi_iload_n D_Wk_oneHand_25 rfl ?_
        refine xi_iload_n D_Wk_oneHand_26 rfl ?_
        refine xi_icmp_ne D_Wk_oneHand_27 (fun c13 => ?_) (fun c13 => ?_)
        · have h := okx_F c13 h
          refine xi_aload_n D_Wk_oneHand_38 rfl ?_
          refine xj_iconst (v := 0) D_Wk_oneHand_39 rfl ?_
          refine xi_iload_n D_Wk_oneHand_40 rfl ?_
          refine xj_iconst (v := 1) D_Wk_oneHand_41 rfl ?_
          refine xi_isub D_Wk_oneHand_42 ?_
          obtain ⟨g14, h⟩ := okx_ck h
          refine xj_V2 D_Wk_oneHand_43 L_Wk_191 C_Wk_fillPlain Z_Wk_fillPlain (zl_fo (g14).1 rfl) (Nat.le_of_ble_eq_true rfl) (Nat.le_of_eq (Nat.sub_add_cancel (by omega))) (w_Wk_fillPlain (by omega) (okx_mono (okx_bd h) ?_))
          intro r15 s16 h
          show Xw _ _ _ _ 46 _ [] _ _
          refine xi_ldc D_Wk_oneHand_46 K_Wk_195 ?_
          refine xi_istore (ls' := [_, _, _, _, _, _, _]) D_Wk_oneHand_48 rfl (by decide) ?_
          refine xi_ldc D_Wk_oneHand_50 K_Wk_195 ?_
          refine xi_istore (ls' := [_, _, _, _, _, _, _]) D_Wk_oneHand_52 rfl (by decide) ?_
          refine xj_iconst (v := 0) D_Wk_oneHand_54 rfl ?_
          refine xi_istore (ls' := [_, _, _, _, _, _, _]) D_Wk_oneHand_55 rfl (by decide) ?_
          exact w_Wk_oneHand_h57 (by omega)  _ _ _ _ _ _ _ _ h
        · have h := okx_T c13 h
          exact xi_throw ⟨rfl, rfl, D_Wk_oneHand_30.1, D_Wk_oneHand_33.1, D_Wk_oneHand_34.1, D_Wk_oneHand_37.1⟩ (by omega) (by decide) (okx_NTI h)
noncomputable def f_Wk_own (x1 : Int32) (x2 : Int32) (x3 : Int32) (s : Sg) : Option (Int32 × Sg) :=
  f_ck (zl_B s) <|
  f_bd (f_Wk_canOwn x1 x2 x3 s) fun r2 s3 =>
  if r2 = 0 then
    some (0, s3)
  else
    f_ck (zl_B s3) <|
    f_ck (vp_in x1 3) <|
    let s7 : Sg := uI s3 13 (Int32.toNatClampNeg x1) x2
    f_ck (vp_in x1 3) <|
    let s9 : Sg := uI s7 14 (Int32.toNatClampNeg x1) x3
    some (1, s9)
theorem w_Wk_own {x1 : Int32} {x2 : Int32} {x3 : Int32} {s : Sg} {d : Nat} {Q : Option (Option Value) → Sg → Prop} (hd : 3 ≤ d) (h : okx (zq_I Q) (f_Wk_own x1 x2 x3 s)) : Cw d M_Wk_own [.ref 4, .int x1, .int x2, .int x3] s Q := by
  refine Cw.of (by decide +kernel) (Nat.le_of_ble_eq_true rfl) ?_
  show Xw d M_Wk_own 0 0 0 [.ref 4, .int x1, .int x2, .int x3] [] s _
  unfold f_Wk_own at h
  refine xi_aload_n D_Wk_own_0 rfl ?_
  refine xi_iload_n D_Wk_own_1 rfl ?_
  refine xi_iload_n D_Wk_own_2 rfl ?_
  refine xi_iload_n D_Wk_own_3 rfl ?_
  obtain ⟨g1, h⟩ := okx_ck h
  refine xj_V3 D_Wk_own_4 L_Wk_98 C_Wk_canOwn Z_Wk_canOwn (zl_fo (g1).1 rfl) (Nat.le_of_ble_eq_true rfl) (Nat.le_of_eq (Nat.sub_add_cancel (by omega))) (w_Wk_canOwn (by omega) (okx_mono (okx_bd h) ?_))
  intro r2 s3 h
  show Xw _ _ _ _ 7 _ [_] _ _
  refine xi_if_ne D_Wk_own_7 (fun c4 => ?_) (fun c4 => ?_)
  · have h := okx_F c4 h
    refine xi_aload_n D_Wk_own_12 rfl ?_
    obtain ⟨g5, h⟩ := okx_ck h
    refine xi_getR D_Wk_own_13 F_Wk_27 (zl_fo (g5).1 rfl) ⟨rfl, by decide⟩ (zl_gr (g5).2 rfl rfl) ?_
    refine xi_getR D_Wk_own_16 F_Wk_102 (zl_fo (g5).1 rfl) ⟨rfl, by decide⟩ (zl_gr (g5).2 rfl rfl) ?_
    refine xi_iload_n D_Wk_own_19 rfl ?_
    refine xi_iload_n D_Wk_own_20 rfl ?_
    obtain ⟨g6, h⟩ := okx_ck h
    refine xj_iast D_Wk_own_21 (zl_fx (g5).1 rfl) (zl_ib (n := 3) rfl (g6)) ?_
    refine xi_aload_n D_Wk_own_22 rfl ?_
    refine xi_getR D_Wk_own_23 F_Wk_27 (zl_fo (g5).1 rfl) ⟨rfl, by decide⟩ (zl_gr (g5).2 rfl rfl) ?_
    refine xi_getR D_Wk_own_26 F_Wk_105 (zl_fo (g5).1 rfl) ⟨rfl, by decide⟩ (zl_gr (g5).2 rfl rfl) ?_
    refine xi_iload_n D_Wk_own_29 rfl ?_
    refine xi_iload_n D_Wk_own_30 rfl ?_
    obtain ⟨g8, h⟩ := okx_ck h
    refine xj_iast D_Wk_own_31 (zl_fx (g5).1 rfl) (zl_ib (n := 3) rfl (g8)) ?_
    refine xj_iconst (v := 1) D_Wk_own_32 rfl ?_
    exact xi_ireturn D_Wk_own_33 rfl (rfl) (okx_I h)
  · have h := okx_T c4 h
    refine xj_iconst (v := 0) D_Wk_own_10 rfl ?_
    exact xi_ireturn D_Wk_own_11 rfl (rfl) (okx_I h)
noncomputable def f_Wk_owner (x1 : Int32) (x2 : Int32) (s : Sg) : Option (Int32 × Sg) :=
  f_ck (zl_B s) <|
  f_bd (f_Wk_isThing x1 s) fun r2 s3 =>
  if r2 = 0 then
    some ((-1), s3)
  else
    f_bd (f_Wk_isWithin x2 1 s3) fun r5 s6 =>
    if r5 = 0 then
      some ((-1), s6)
    else
      if x2 = 0 then
        f_ck (zl_B s6) <|
        f_ck (vp_in x1 3) <|
        some ((mI s6 13 (Int32.toNatClampNeg x1)), s6)
      else
        f_ck (zl_B s6) <|
        f_ck (vp_in x1 3) <|
        some ((mI s6 14 (Int32.toNatClampNeg x1)), s6)
theorem w_Wk_owner {x1 : Int32} {x2 : Int32} {s : Sg} {d : Nat} {Q : Option (Option Value) → Sg → Prop} (hd : 2 ≤ d) (h : okx (zq_I Q) (f_Wk_owner x1 x2 s)) : Cw d M_Wk_owner [.ref 4, .int x1, .int x2] s Q := by
  refine Cw.of (by decide +kernel) (Nat.le_of_ble_eq_true rfl) ?_
  show Xw d M_Wk_owner 0 0 0 [.ref 4, .int x1, .int x2] [] s _
  unfold f_Wk_owner at h
  refine xi_aload_n D_Wk_owner_0 rfl ?_
  refine xi_iload_n D_Wk_owner_1 rfl ?_
  obtain ⟨g1, h⟩ := okx_ck h
  refine xj_V1 D_Wk_owner_2 L_Wk_108 C_Wk_isThing Z_Wk_isThing (zl_fo (g1).1 rfl) (Nat.le_of_ble_eq_true rfl) (Nat.le_of_eq (Nat.sub_add_cancel (by omega))) (w_Wk_isThing (by omega) (okx_mono (okx_bd h) ?_))
  intro r2 s3 h
  show Xw _ _ _ _ 5 _ [_] _ _
  refine xi_if_eq D_Wk_owner_5 (fun c4 => ?_) (fun c4 => ?_)
  · have h := okx_T c4 h
    refine xj_iconst (v := (-1)) D_Wk_owner_16 rfl ?_
    exact xi_ireturn D_Wk_owner_17 rfl (rfl) (okx_I h)
  · have h := okx_F c4 h
    refine xi_iload_n D_Wk_owner_8 rfl ?_
    refine xj_iconst (v := 1) D_Wk_owner_9 rfl ?_
    refine xj_S2 D_Wk_owner_10 L_Wk_111 C_Wk_isWithin Z_Wk_isWithin (Nat.le_of_ble_eq_true rfl) (Nat.le_of_eq (Nat.sub_add_cancel (by omega))) (w_Wk_isWithin (by omega) (okx_mono (okx_bd h) ?_))
    intro r5 s6 h
    show Xw _ _ _ _ 13 _ [_] _ _
    refine xi_if_ne D_Wk_owner_13 (fun c7 => ?_) (fun c7 => ?_)
    · have h := okx_F c7 h
      refine xi_iload_n D_Wk_owner_18 rfl ?_
      refine xi_if_ne D_Wk_owner_19 (fun c8 => ?_) (fun c8 => ?_)
      · have h := okx_F c8 h
        refine xi_aload_n D_Wk_owner_34 rfl ?_
        obtain ⟨g11, h⟩ := okx_ck h
        refine xi_getR D_Wk_owner_35 F_Wk_27 (zl_fo (g11).1 rfl) ⟨rfl, by decide⟩ (zl_gr (g11).2 rfl rfl) ?_
        refine xi_getR D_Wk_owner_38 F_Wk_105 (zl_fo (g11).1 rfl) ⟨rfl, by decide⟩ (zl_gr (g11).2 rfl rfl) ?_
        refine xi_iload_n D_Wk_owner_41 rfl ?_
        obtain ⟨g12, h⟩ := okx_ck h
        refine xj_iald D_Wk_owner_42 (zl_fx (g11).1 rfl) (zl_ib (n := 3) rfl (g12)) ?_
        exact xi_ireturn D_Wk_owner_43 rfl (rfl) (okx_I h)
      · have h := okx_T c8 h
        refine xi_aload_n D_Wk_owner_22 rfl ?_
        obtain ⟨g9, h⟩ := okx_ck h
        refine xi_getR D_Wk_owner_23 F_Wk_27 (zl_fo (g9).1 rfl) ⟨rfl, by decide⟩ (zl_gr (g9).2 rfl rfl) ?_
        refine xi_getR D_Wk_owner_26 F_Wk_102 (zl_fo (g9).1 rfl) ⟨rfl, by decide⟩ (zl_gr (g9).2 rfl rfl) ?_
        refine xi_iload_n D_Wk_owner_29 rfl ?_
        obtain ⟨g10, h⟩ := okx_ck h
        refine xj_iald D_Wk_owner_30 (zl_fx (g9).1 rfl) (zl_ib (n := 3) rfl (g10)) ?_
        refine xi_goto D_Wk_owner_31 ?_
        exact xi_ireturn D_Wk_owner_43 rfl (rfl) (okx_I h)
    · have h := okx_T c7 h
      refine xj_iconst (v := (-1)) D_Wk_owner_16 rfl ?_
      exact xi_ireturn D_Wk_owner_17 rfl (rfl) (okx_I h)
noncomputable def f_Wk_reached (x1 : Int32) (s : Sg) : Option ((Option Int32) × Sg) :=
  if x1 < 0 then
    some (none, s)
  else
    f_ck (zl_B s) <|
    f_bd (f_Wk_plainCount  s) fun r3 s4 =>
    if x1 < r3 then
      f_ck (zl_B s4) <|
      f_bd (f_Wk_fillPlain x1 x1 s4) fun r7 s8 =>
      f_ck (zl_B s8) <|
      f_ck (vp_in x1 216) <|
      if (mI s8 45 (Int32.toNatClampNeg x1)) = (-1073741824) then
        some (none, s8)
      else
        f_ck (vp_in x1 216) <|
        some ((some (mI s8 45 (Int32.toNatClampNeg x1))), s8)
    else
      some (none, s4)
theorem w_Wk_reached {x1 : Int32} {s : Sg} {d : Nat} {Q : Option (Option Value) → Sg → Prop} (hd : 9 ≤ d) (h : okx (zq_TI Q) (f_Wk_reached x1 s)) : Cw d M_Wk_reached [.ref 4, .int x1] s Q := by
  refine Cw.of (by decide +kernel) (Nat.le_of_ble_eq_true rfl) ?_
  show Xw d M_Wk_reached 1 6 0 [.ref 4, .int x1] [] s _
  unfold f_Wk_reached at h
  refine xi_iload_n D_Wk_reached_0 rfl ?_
  refine xi_if_lt D_Wk_reached_1 (fun c1 => ?_) (fun c1 => ?_)
  · have h := okx_T c1 h
    exact xi_throw ⟨rfl, rfl, D_Wk_reached_12.1, D_Wk_reached_15.1, D_Wk_reached_16.1, D_Wk_reached_19.1⟩ (by omega) (by decide) (okx_NTI h)
  · have h := okx_F c1 h
    refine xi_iload_n D_Wk_reached_4 rfl ?_
    refine xi_aload_n D_Wk_reached_5 rfl ?_
    obtain ⟨g2, h⟩ := okx_ck h
    refine xj_V0 D_Wk_reached_6 L_Wk_188 C_Wk_plainCount Z_Wk_plainCount (zl_fo (g2).1 rfl) (Nat.le_of_ble_eq_true rfl) (Nat.le_of_eq (Nat.sub_add_cancel (by omega))) (w_Wk_plainCount (by omega) (okx_mono (okx_bd h) ?_))
    intro r3 s4 h
    show Xw _ _ _ _ 9 _ [_, _] _ _
    refine xi_icmp_lt D_Wk_reached_9 (fun c5 => ?_) (fun c5 => ?_)
    · have h := okx_T c5 h
      refine xi_aload_n D_Wk_reached_20 rfl ?_
      refine xi_iload_n D_Wk_reached_21 rfl ?_
      refine xi_iload_n D_Wk_reached_22 rfl ?_
      obtain ⟨g6, h⟩ := okx_ck h
      refine xj_V2 D_Wk_reached_23 L_Wk_191 C_Wk_fillPlain Z_Wk_fillPlain (zl_fo (g6).1 rfl) (Nat.le_of_ble_eq_true rfl) (Nat.le_of_eq (Nat.sub_add_cancel (by omega))) (w_Wk_fillPlain (by omega) (okx_mono (okx_bd h) ?_))
      intro r7 s8 h
      show Xw _ _ _ _ 26 _ [] _ _
      refine xi_aload_n D_Wk_reached_26 rfl ?_
      obtain ⟨g9, h⟩ := okx_ck h
      refine xi_getR D_Wk_reached_27 F_Wk_45 (zl_fo (g9).1 rfl) ⟨rfl, by decide⟩ (zl_gr (g9).2 rfl rfl) ?_
      refine xi_iload_n D_Wk_reached_30 rfl ?_
      obtain ⟨g10, h⟩ := okx_ck h
      refine xj_iald D_Wk_reached_31 (zl_fx (g9).1 rfl) (zl_ib (n := 216) rfl (g10)) ?_
      refine xi_ldc D_Wk_reached_32 K_Wk_195 ?_
      refine xi_icmp_ne D_Wk_reached_34 (fun c11 => ?_) (fun c11 => ?_)
      · have h := okx_F c11 h
        refine xi_aload_n D_Wk_reached_45 rfl ?_
        refine xi_getR D_Wk_reached_46 F_Wk_45 (zl_fo (g9).1 rfl) ⟨rfl, by decide⟩ (zl_gr (g9).2 rfl rfl) ?_
        refine xi_iload_n D_Wk_reached_49 rfl ?_
        obtain ⟨g12, h⟩ := okx_ck h
        refine xj_iald D_Wk_reached_50 (zl_fx (g9).1 rfl) (zl_ib (n := 216) rfl (g12)) ?_
        exact xi_ireturn D_Wk_reached_51 rfl (rfl) (okx_TI h)
      · have h := okx_T c11 h
        exact xi_throw ⟨rfl, rfl, D_Wk_reached_37.1, D_Wk_reached_40.1, D_Wk_reached_41.1, D_Wk_reached_44.1⟩ (by omega) (by decide) (okx_NTI h)
    · have h := okx_F c5 h
      exact xi_throw ⟨rfl, rfl, D_Wk_reached_12.1, D_Wk_reached_15.1, D_Wk_reached_16.1, D_Wk_reached_19.1⟩ (by omega) (by decide) (okx_NTI h)
noncomputable def f_Wk_rest (x1 : Int32) (s : Sg) : Option ((Option Int32) × Sg) :=
  f_ck (zl_B s) <|
  f_bd (f_Wk_isNobody  s) fun r2 s3 =>
  if r2 = 0 then
    f_bd (f_Wk_isWithin x1 2 s3) fun r5 s6 =>
    if r5 = 0 then
      some (none, s6)
    else
      f_ck (zl_B s6) <|
      f_bd (f_Tu_lookAsIs  s6) fun r9 s10 =>
      f_ck (zl_B s10) <|
      f_bd (f_Tu_byTurns 0 (-1) s10) fun r12 s13 =>
      if r12 = (-1) then
        some (none, s13)
      else
        if x1 = 0 then
          some ((some r12), s13)
        else
          if x1 = 1 then
            f_ck (zl_B s13) <|
            some ((some (mI s13 5 8)), s13)
          else
            f_ck (zl_B s13) <|
            f_bd (f_Wo_goodOf r12 s13) fun r19 s20 =>
            some ((some r19), s20)
  else
    some (none, s3)
theorem w_Wk_rest {x1 : Int32} {s : Sg} {d : Nat} {Q : Option (Option Value) → Sg → Prop} (hd : 9 ≤ d) (h : okx (zq_TI Q) (f_Wk_rest x1 s)) : Cw d M_Wk_rest [.ref 4, .int x1] s Q := by
  refine Cw.of (by decide +kernel) (Nat.le_of_ble_eq_true rfl) ?_
  show Xw d M_Wk_rest 1 6 0 [.ref 4, .int x1, .retAddr 0] [] s _
  unfold f_Wk_rest at h
  refine xi_aload_n D_Wk_rest_0 rfl ?_
  obtain ⟨g1, h⟩ := okx_ck h
  refine xj_V0 D_Wk_rest_1 L_Wk_168 C_Wk_isNobody Z_Wk_isNobody (zl_fo (g1).1 rfl) (Nat.le_of_ble_eq_true rfl) (Nat.le_of_eq (Nat.sub_add_cancel (by omega))) (w_Wk_isNobody (by omega) (okx_mono (okx_bd h) ?_))
  intro r2 s3 h
  show Xw _ _ _ _ 4 _ [_] _ _
  refine xi_if_ne D_Wk_rest_4 (fun c4 => ?_) (fun c4 => ?_)
  · have h := okx_F c4 h
    exact xi_throw ⟨rfl, rfl, D_Wk_rest_15.1, D_Wk_rest_18.1, D_Wk_rest_19.1, D_Wk_rest_22.1⟩ (by omega) (by decide) (okx_NTI h)
  · have h := okx_T c4 h
    refine xi_iload_n D_Wk_rest_7 rfl ?_
    refine xj_iconst (v := 2) D_Wk_rest_8 rfl ?_
    refine xj_S2 D_Wk_rest_9 L_Wk_111 C_Wk_isWithin Z_Wk_isWithin (Nat.le_of_ble_eq_true rfl) (Nat.le_of_eq (Nat.sub_add_cancel (by omega))) (w_Wk_isWithin (by omega) (okx_mono (okx_bd h) ?_))
    intro r5 s6 h
    show Xw _ _ _ _ 12 _ [_] _ _
    refine xi_if_ne D_Wk_rest_12 (fun c7 => ?_) (fun c7 => ?_)
    · have h := okx_F c7 h
      refine xi_aload_n D_Wk_rest_23 rfl ?_
      obtain ⟨g8, h⟩ := okx_ck h
      refine xi_getR D_Wk_rest_24 F_Wk_12 (zl_fo (g8).1 rfl) ⟨rfl, by decide⟩ (zl_gr (g8).2 rfl rfl) ?_
      refine xj_V0 D_Wk_rest_27 L_Wk_140 C_Tu_lookAsIs Z_Tu_lookAsIs (zl_fo (g8).1 rfl) (Nat.le_of_ble_eq_true rfl) (Nat.le_of_eq (Nat.sub_add_cancel (by omega))) (w_Tu_lookAsIs (by omega) (okx_mono (okx_bd h) ?_))
      intro r9 s10 h
      show Xw _ _ _ _ 30 _ [] _ _
      refine xi_aload_n D_Wk_rest_30 rfl ?_
      obtain ⟨g11, h⟩ := okx_ck h
      refine xi_getR D_Wk_rest_31 F_Wk_12 (zl_fo (g11).1 rfl) ⟨rfl, by decide⟩ (zl_gr (g11).2 rfl rfl) ?_
      refine xj_iconst (v := 0) D_Wk_rest_34 rfl ?_
      refine xj_iconst (v := (-1)) D_Wk_rest_35 rfl ?_
      refine xj_V2 D_Wk_rest_36 L_Wk_175 C_Tu_byTurns Z_Tu_byTurns (zl_fo (g11).1 rfl) (Nat.le_of_ble_eq_true rfl) (Nat.le_of_eq (Nat.sub_add_cancel (by omega))) (w_Tu_byTurns (by omega) (okx_mono (okx_bd h) ?_))
      intro r12 s13 h
      show Xw _ _ _ _ 39 _ [_] _ _
      refine xi_istore_n (ls' := [_, _, _]) D_Wk_rest_39 rfl (by decide) ?_
      refine xi_iload_n D_Wk_rest_40 rfl ?_
      refine xj_iconst (v := (-1)) D_Wk_rest_41 rfl ?_
      refine xi_icmp_ne D_Wk_rest_42 (fun c14 => ?_) (fun c14 => ?_)
      · have h := okx_F c14 h
        refine xi_iload_n D_Wk_rest_53 rfl ?_
        refine xi_if_ne D_Wk_rest_54 (fun c15 => ?_) (fun c15 => ?_)
        · have h := okx_F c15 h
          refine xi_iload_n D_Wk_rest_59 rfl ?_
          refine xj_iconst (v := 1) D_Wk_rest_60 rfl ?_
          refine xi_icmp_ne D_Wk_rest_61 (fun c16 => ?_) (fun c16 => ?_)
          · have h := okx_F c16 h
            refine xi_aload_n D_Wk_rest_74 rfl ?_
            obtain ⟨g18, h⟩ := okx_ck h
            refine xi_getR D_Wk_rest_75 F_Wk_20 (zl_fo (g18).1 rfl) ⟨rfl, by decide⟩ (zl_gr (g18).2 rfl rfl) ?_
            refine xi_iload_n D_Wk_rest_78 rfl ?_
            refine xj_V1 D_Wk_rest_79 L_Wk_181 C_Wo_goodOf Z_Wo_goodOf (zl_fo (g18).1 rfl) (Nat.le_of_ble_eq_true rfl) (Nat.le_of_eq (Nat.sub_add_cancel (by omega))) (w_Wo_goodOf (by omega) (okx_mono (okx_bd h) ?_))
            intro r19 s20 h
            show Xw _ _ _ _ 82 _ [_] _ _
            exact xi_ireturn D_Wk_rest_82 rfl (rfl) (okx_TI h)
          · have h := okx_T c16 h
            refine xi_aload_n D_Wk_rest_64 rfl ?_
            obtain ⟨g17, h⟩ := okx_ck h
            refine xi_getR D_Wk_rest_65 F_Wk_12 (zl_fo (g17).1 rfl) ⟨rfl, by decide⟩ (zl_gr (g17).2 rfl rfl) ?_
            refine xi_getI D_Wk_rest_68 F_Wk_178 (zl_fo (g17).1 rfl) ⟨rfl, by decide⟩ ?_
            refine xi_goto D_Wk_rest_71 ?_
            exact xi_ireturn D_Wk_rest_82 rfl (rfl) (okx_TI h)
        · have h := okx_T c15 h
          refine xi_iload_n D_Wk_rest_57 rfl ?_
          exact xi_ireturn D_Wk_rest_58 rfl (rfl) (okx_TI h)
      · have h := okx_T c14 h
        exact xi_throw ⟨rfl, rfl, D_Wk_rest_45.1, D_Wk_rest_48.1, D_Wk_rest_49.1, D_Wk_rest_52.1⟩ (by omega) (by decide) (okx_NTI h)
    · have h := okx_T c7 h
      exact xi_throw ⟨rfl, rfl, D_Wk_rest_15.1, D_Wk_rest_18.1, D_Wk_rest_19.1, D_Wk_rest_22.1⟩ (by omega) (by decide) (okx_NTI h)
noncomputable def f_Wk_rests_b125 (R34 : Int32 → Int32 → Int32 → Int32 → Int32 → Sg → Option (Int32 × Sg)) (x1 : Int32) (x2 : Int32) (x3 : Int32) (x4 : Int32) (x5 : Int32) (s : Sg) : Option (Int32 × Sg) :=
  R34 x1 x2 x3 x4 (x5 + 1) s
theorem w_Wk_rests_b125 {x1 : Int32} {x2 : Int32} {x3 : Int32} {x4 : Int32} {x5 : Int32} {s : Sg} {d : Nat} {Q : Option (Option Value) → Sg → Prop} (hd : 7 ≤ d) {R34 : Int32 → Int32 → Int32 → Int32 → Int32 → Sg → Option (Int32 × Sg)} (hR34 : ∀ (x1 : Int32) (x2 : Int32) (x3 : Int32) (x4 : Int32) (x5 : Int32) (s : Sg), okx (zq_I Q) (R34 x1 x2 x3 x4 x5 s) → Xw d M_Wk_rests 0 0 34 [.ref 4, .int x1, .int x2, .int x3, .int x4, .int x5, .retAddr 0] [] s Q) (h : okx (zq_I Q) (f_Wk_rests_b125 R34 x1 x2 x3 x4 x5 s)) : Xw d M_Wk_rests 0 0 125 [.ref 4, .int x1, .int x2, .int x3, .int x4, .int x5, .retAddr 0] [] s Q := by
  unfold f_Wk_rests_b125 at h
  refine xi_iinc (v := _ + 1) (ls' := [_, _, _, _, _, _, _]) D_Wk_rests_125 rfl rfl rfl (by decide) ?_
  refine xi_goto D_Wk_rests_128 ?_
  exact hR34 _ _ _ _ _ _ h
noncomputable def f_Wk_rests_b121 (R34 : Int32 → Int32 → Int32 → Int32 → Int32 → Sg → Option (Int32 × Sg)) (x1 : Int32) (x2 : Int32) (x3 : Int32) (x5 : Int32) (s : Sg) : Option (Int32 × Sg) :=
  f_Wk_rests_b125 R34 x1 x2 x3 x5 x5 s
theorem w_Wk_rests_b121 {x1 : Int32} {x2 : Int32} {x3 : Int32} {x5 : Int32} {s : Sg} {d : Nat} {Q : Option (Option Value) → Sg → Prop} (hd : 7 ≤ d) {R34 : Int32 → Int32 → Int32 → Int32 → Int32 → Sg → Option (Int32 × Sg)} (hR34 : ∀ (x1 : Int32) (x2 : Int32) (x3 : Int32) (x4 : Int32) (x5 : Int32) (s : Sg), okx (zq_I Q) (R34 x1 x2 x3 x4 x5 s) → Xw d M_Wk_rests 0 0 34 [.ref 4, .int x1, .int x2, .int x3, .int x4, .int x5, .retAddr 0] [] s Q) (h : okx (zq_I Q) (f_Wk_rests_b121 R34 x1 x2 x3 x5 s)) : Xw d M_Wk_rests 0 0 121 [.ref 4, .int x1, .int x2, .int x3, .retAddr 0, .int x5, .retAddr 0] [] s Q := by
  unfold f_Wk_rests_b121 at h
  refine xi_iload D_Wk_rests_121 rfl ?_
  refine xi_istore (ls' := [_, _, _, _, _, _, _]) D_Wk_rests_123 rfl (by decide) ?_
  exact w_Wk_rests_b125 (by omega) hR34 h
noncomputable def f_Wk_rests_b101 (R34 : Int32 → Int32 → Int32 → Int32 → Int32 → Sg → Option (Int32 × Sg)) (x1 : Int32) (x2 : Int32) (x3 : Int32) (x4 : Int32) (x5 : Int32) (x6 : Int32) (s : Sg) : Option (Int32 × Sg) :=
  if x4 = (-1) then
    f_Wk_rests_b121 R34 x1 x2 x3 x5 s
  else
    f_ck (zl_B s) <|
    f_bd (f_Wo_goodOf x4 s) fun r30 s31 =>
    if x6 ≤ r30 then
      f_Wk_rests_b125 R34 x1 x2 x3 x4 x5 s31
    else
      f_Wk_rests_b121 R34 x1 x2 x3 x5 s31
theorem w_Wk_rests_b101 {x1 : Int32} {x2 : Int32} {x3 : Int32} {x4 : Int32} {x5 : Int32} {x6 : Int32} {s : Sg} {d : Nat} {Q : Option (Option Value) → Sg → Prop} (hd : 7 ≤ d) {R34 : Int32 → Int32 → Int32 → Int32 → Int32 → Sg → Option (Int32 × Sg)} (hR34 : ∀ (x1 : Int32) (x2 : Int32) (x3 : Int32) (x4 : Int32) (x5 : Int32) (s : Sg), okx (zq_I Q) (R34 x1 x2 x3 x4 x5 s) → Xw d M_Wk_rests 0 0 34 [.ref 4, .int x1, .int x2, .int x3, .int x4, .int x5, .retAddr 0] [] s Q) (h : okx (zq_I Q) (f_Wk_rests_b101 R34 x1 x2 x3 x4 x5 x6 s)) : Xw d M_Wk_rests 0 0 101 [.ref 4, .int x1, .int x2, .int x3, .int x4, .int x5, .int x6] [] s Q := by
  unfold f_Wk_rests_b101 at h
  refine xi_iload D_Wk_rests_101 rfl ?_
  refine xj_iconst (v := (-1)) D_Wk_rests_103 rfl ?_
  refine xi_icmp_eq D_Wk_rests_104 (fun c28 => ?_) (fun c28 => ?_)
  · have h := okx_T c28 h
    exact xk_wk (w_Wk_rests_b121 (by omega) hR34 h) ⟨Or.inl rfl, Or.inl rfl, Or.inl rfl, Or.inl rfl, Or.inr rfl, Or.inl rfl, Or.inr rfl, trivial⟩
  · have h := okx_F c28 h
    refine xi_iload D_Wk_rests_107 rfl ?_
    refine xi_aload_n D_Wk_rests_109 rfl ?_
    obtain ⟨g29, h⟩ := okx_ck h
    refine xi_getR D_Wk_rests_110 F_Wk_20 (zl_fo (g29).1 rfl) ⟨rfl, by decide⟩ (zl_gr (g29).2 rfl rfl) ?_
    refine xi_iload D_Wk_rests_113 rfl ?_
    refine xj_V1 D_Wk_rests_115 L_Wk_181 C_Wo_goodOf Z_Wo_goodOf (zl_fo (g29).1 rfl) (Nat.le_of_ble_eq_true rfl) (Nat.le_of_eq (Nat.sub_add_cancel (by omega))) (w_Wo_goodOf (by omega) (okx_mono (okx_bd h) ?_))
    intro r30 s31 h
    show Xw _ _ _ _ 118 _ [_, _] _ _
    refine xi_icmp_le D_Wk_rests_118 (fun c32 => ?_) (fun c32 => ?_)
    · have h := okx_T c32 h
      exact xk_wk (w_Wk_rests_b125 (by omega) hR34 h) ⟨Or.inl rfl, Or.inl rfl, Or.inl rfl, Or.inl rfl, Or.inl rfl, Or.inl rfl, Or.inr rfl, trivial⟩
    · have h := okx_F c32 h
      exact xk_wk (w_Wk_rests_b121 (by omega) hR34 h) ⟨Or.inl rfl, Or.inl rfl, Or.inl rfl, Or.inl rfl, Or.inr rfl, Or.inl rfl, Or.inr rfl, trivial⟩
noncomputable def f_Wk_rests_b98 (R34 : Int32 → Int32 → Int32 → Int32 → Int32 → Sg → Option (Int32 × Sg)) (x1 : Int32) (x2 : Int32) (x4 : Int32) (x5 : Int32) (x6 : Int32) (s : Sg) : Option (Int32 × Sg) :=
  f_Wk_rests_b101 R34 x1 x2 x5 x4 x5 x6 s
theorem w_Wk_rests_b98 {x1 : Int32} {x2 : Int32} {x4 : Int32} {x5 : Int32} {x6 : Int32} {s : Sg} {d : Nat} {Q : Option (Option Value) → Sg → Prop} (hd : 7 ≤ d) {R34 : Int32 → Int32 → Int32 → Int32 → Int32 → Sg → Option (Int32 × Sg)} (hR34 : ∀ (x1 : Int32) (x2 : Int32) (x3 : Int32) (x4 : Int32) (x5 : Int32) (s : Sg), okx (zq_I Q) (R34 x1 x2 x3 x4 x5 s) → Xw d M_Wk_rests 0 0 34 [.ref 4, .int x1, .int x2, .int x3, .int x4, .int x5, .retAddr 0] [] s Q) (h : okx (zq_I Q) (f_Wk_rests_b98 R34 x1 x2 x4 x5 x6 s)) : Xw d M_Wk_rests 0 0 98 [.ref 4, .int x1, .int x2, .retAddr 0, .int x4, .int x5, .int x6] [] s Q := by
  unfold f_Wk_rests_b98 at h
  refine xi_iload D_Wk_rests_98 rfl ?_
  refine xi_istore_n (ls' := [_, _, _, _, _, _, _]) D_Wk_rests_100 rfl (by decide) ?_
  exact w_Wk_rests_b101 (by omega) hR34 h
noncomputable def f_Wk_rests_b131 (x1 : Int32) (x2 : Int32) (x3 : Int32) (x4 : Int32) (s : Sg) : Option (Int32 × Sg) :=
  if x1 = 0 then
    some (x2, s)
  else
    if x1 = 1 then
      some (x3, s)
    else
      some (x4, s)
theorem w_Wk_rests_b131 {x1 : Int32} {x2 : Int32} {x3 : Int32} {x4 : Int32} {s : Sg} {d : Nat} {Q : Option (Option Value) → Sg → Prop} (hd : 7 ≤ d) (h : okx (zq_I Q) (f_Wk_rests_b131 x1 x2 x3 x4 s)) : Xw d M_Wk_rests 0 0 131 [.retAddr 0, .int x1, .int x2, .int x3, .int x4, .retAddr 0, .retAddr 0] [] s Q := by
  unfold f_Wk_rests_b131 at h
  refine xi_iload_n D_Wk_rests_131 rfl ?_
  refine xi_if_ne D_Wk_rests_132 (fun c33 => ?_) (fun c33 => ?_)
  · have h := okx_F c33 h
    refine xi_iload_n D_Wk_rests_137 rfl ?_
    refine xj_iconst (v := 1) D_Wk_rests_138 rfl ?_
    refine xi_icmp_ne D_Wk_rests_139 (fun c34 => ?_) (fun c34 => ?_)
    · have h := okx_F c34 h
      refine xi_iload D_Wk_rests_146 rfl ?_
      exact xi_ireturn D_Wk_rests_148 rfl (rfl) (okx_I h)
    · have h := okx_T c34 h
      refine xi_iload_n D_Wk_rests_142 rfl ?_
      refine xi_goto D_Wk_rests_143 ?_
      exact xi_ireturn D_Wk_rests_148 rfl (rfl) (okx_I h)
  · have h := okx_T c33 h
    refine xi_iload_n D_Wk_rests_135 rfl ?_
    exact xi_ireturn D_Wk_rests_136 rfl (rfl) (okx_I h)
noncomputable def f_Wk_rests_b34 (R34 : Int32 → Int32 → Int32 → Int32 → Int32 → Sg → Option (Int32 × Sg)) (x1 : Int32) (x2 : Int32) (x3 : Int32) (x4 : Int32) (x5 : Int32) (s : Sg) : Option (Int32 × Sg) :=
  if 256 ≤ x5 then
    f_Wk_rests_b131  x1 x2 x3 x4 s
  else
    f_ck (zl_B s) <|
    f_bd (f_Wk_isPains x5 s) fun r13 s14 =>
    if r13 = 0 then
      f_Wk_rests_b125 R34 x1 x2 x3 x4 x5 s14
    else
      f_ck (zl_B s14) <|
      f_bd (f_Tu_isSettled x5 s14) fun r17 s18 =>
      if r17 = 0 then
        f_Wk_rests_b125 R34 x1 x2 x3 x4 x5 s18
      else
        f_ck (zl_B s18) <|
        f_bd (f_Wo_goodOf x5 s18) fun r21 s22 =>
        if x3 = (-1) then
          f_Wk_rests_b98 R34 x1 (x2 + 1) x4 x5 r21 s22
        else
          f_ck (zl_B s22) <|
          f_bd (f_Wo_goodOf x3 s22) fun r25 s26 =>
          if r25 ≤ r21 then
            f_Wk_rests_b101 R34 x1 (x2 + 1) x3 x4 x5 r21 s26
          else
            f_Wk_rests_b98 R34 x1 (x2 + 1) x4 x5 r21 s26
theorem w_Wk_rests_b34 {x1 : Int32} {x2 : Int32} {x3 : Int32} {x4 : Int32} {x5 : Int32} {s : Sg} {d : Nat} {Q : Option (Option Value) → Sg → Prop} (hd : 7 ≤ d) {R34 : Int32 → Int32 → Int32 → Int32 → Int32 → Sg → Option (Int32 × Sg)} (hR34 : ∀ (x1 : Int32) (x2 : Int32) (x3 : Int32) (x4 : Int32) (x5 : Int32) (s : Sg), okx (zq_I Q) (R34 x1 x2 x3 x4 x5 s) → Xw d M_Wk_rests 0 0 34 [.ref 4, .int x1, .int x2, .int x3, .int x4, .int x5, .retAddr 0] [] s Q) (h : okx (zq_I Q) (f_Wk_rests_b34 R34 x1 x2 x3 x4 x5 s)) : Xw d M_Wk_rests 0 0 34 [.ref 4, .int x1, .int x2, .int x3, .int x4, .int x5, .retAddr 0] [] s Q := by
  unfold f_Wk_rests_b34 at h
  refine xi_iload D_Wk_rests_34 rfl ?_
  refine xi_sipush (v := 256) D_Wk_rests_36 rfl ?_
  refine xi_icmp_ge D_Wk_rests_39 (fun c11 => ?_) (fun c11 => ?_)
  · have h := okx_T c11 h
    exact xk_wk (w_Wk_rests_b131 (by omega)  h) ⟨Or.inr rfl, Or.inl rfl, Or.inl rfl, Or.inl rfl, Or.inl rfl, Or.inr rfl, Or.inl rfl, trivial⟩
  · have h := okx_F c11 h
    refine xi_aload_n D_Wk_rests_42 rfl ?_
    refine xi_iload D_Wk_rests_43 rfl ?_
    obtain ⟨g12, h⟩ := okx_ck h
    refine xj_V1 D_Wk_rests_45 L_Wk_87 C_Wk_isPains Z_Wk_isPains (zl_fo (g12).1 rfl) (Nat.le_of_ble_eq_true rfl) (Nat.le_of_eq (Nat.sub_add_cancel (by omega))) (w_Wk_isPains (by omega) (okx_mono (okx_bd h) ?_))
    intro r13 s14 h
    show Xw _ _ _ _ 48 _ [_] _ _
    refine xi_if_eq D_Wk_rests_48 (fun c15 => ?_) (fun c15 => ?_)
    · have h := okx_T c15 h
      exact w_Wk_rests_b125 (by omega) hR34 h
    · have h := okx_F c15 h
      refine xi_aload_n D_Wk_rests_51 rfl ?_
      obtain ⟨g16, h⟩ := okx_ck h
      refine xi_getR D_Wk_rests_52 F_Wk_12 (zl_fo (g16).1 rfl) ⟨rfl, by decide⟩ (zl_gr (g16).2 rfl rfl) ?_
      refine xi_iload D_Wk_rests_55 rfl ?_
      refine xj_V1 D_Wk_rests_57 L_Wk_172 C_Tu_isSettled Z_Tu_isSettled (zl_fo (g16).1 rfl) (Nat.le_of_ble_eq_true rfl) (Nat.le_of_eq (Nat.sub_add_cancel (by omega))) (w_Tu_isSettled (by omega) (okx_mono (okx_bd h) ?_))
      intro r17 s18 h
      show Xw _ _ _ _ 60 _ [_] _ _
      refine xi_if_ne D_Wk_rests_60 (fun c19 => ?_) (fun c19 => ?_)
      · have h := okx_F c19 h
        refine xi_iinc (v := _ + 1) (ls' := [_, _, _, _, _, _, _]) D_Wk_rests_66 rfl rfl rfl (by decide) ?_
        refine xi_aload_n D_Wk_rests_69 rfl ?_
        obtain ⟨g20, h⟩ := okx_ck h
        refine xi_getR D_Wk_rests_70 F_Wk_20 (zl_fo (g20).1 rfl) ⟨rfl, by decide⟩ (zl_gr (g20).2 rfl rfl) ?_
        refine xi_iload D_Wk_rests_73 rfl ?_
        refine xj_V1 D_Wk_rests_75 L_Wk_181 C_Wo_goodOf Z_Wo_goodOf (zl_fo (g20).1 rfl) (Nat.le_of_ble_eq_true rfl) (Nat.le_of_eq (Nat.sub_add_cancel (by omega))) (w_Wo_goodOf (by omega) (okx_mono (okx_bd h) ?_))
        intro r21 s22 h
        show Xw _ _ _ _ 78 _ [_] _ _
        refine xi_istore (ls' := [_, _, _, _, _, _, _]) D_Wk_rests_78 rfl (by decide) ?_
        refine xi_iload_n D_Wk_rests_80 rfl ?_
        refine xj_iconst (v := (-1)) D_Wk_rests_81 rfl ?_
        refine xi_icmp_eq D_Wk_rests_82 (fun c23 => ?_) (fun c23 => ?_)
        · have h := okx_T c23 h
          exact xk_wk (w_Wk_rests_b98 (by omega) hR34 h) ⟨Or.inl rfl, Or.inl rfl, Or.inl rfl, Or.inr rfl, Or.inl rfl, Or.inl rfl, Or.inl rfl, trivial⟩
        · have h := okx_F c23 h
          refine xi_iload D_Wk_rests_85 rfl ?_
          refine xi_aload_n D_Wk_rests_87 rfl ?_
          obtain ⟨g24, h⟩ := okx_ck h
          refine xi_getR D_Wk_rests_88 F_Wk_20 (zl_fo (g24).1 rfl) ⟨rfl, by decide⟩ (zl_gr (g24).2 rfl rfl) ?_
          refine xi_iload_n D_Wk_rests_91 rfl ?_
          refine xj_V1 D_Wk_rests_92 L_Wk_181 C_Wo_goodOf Z_Wo_goodOf (zl_fo (g24).1 rfl) (Nat.le_of_ble_eq_true rfl) (Nat.le_of_eq (Nat.sub_add_cancel (by omega))) (w_Wo_goodOf (by omega) (okx_mono (okx_bd h) ?_))
          intro r25 s26 h
          show Xw _ _ _ _ 95 _ [_, _] _ _
          refine xi_icmp_ge D_Wk_rests_95 (fun c27 => ?_) (fun c27 => ?_)
          · have h := okx_T c27 h
            exact w_Wk_rests_b101 (by omega) hR34 h
          · have h := okx_F c27 h
            exact xk_wk (w_Wk_rests_b98 (by omega) hR34 h) ⟨Or.inl rfl, Or.inl rfl, Or.inl rfl, Or.inr rfl, Or.inl rfl, Or.inl rfl, Or.inl rfl, trivial⟩
      · have h := okx_T c19 h
        refine xi_goto D_Wk_rests_63 ?_
        exact w_Wk_rests_b125 (by omega) hR34 h
noncomputable def f_Wk_rests_h34 : Nat → Int32 → Int32 → Int32 → Int32 → Int32 → Sg → Option (Int32 × Sg)
  | 0, _, _, _, _, _, _ => none
  | n + 1, x1, x2, x3, x4, x5, s => f_Wk_rests_b34 (f_Wk_rests_h34 n) x1 x2 x3 x4 x5 s
theorem w_Wk_rests_h34 {d : Nat} {Q : Option (Option Value) → Sg → Prop} (hd : 7 ≤ d) : ∀ (n : Nat) (x1 : Int32) (x2 : Int32) (x3 : Int32) (x4 : Int32) (x5 : Int32) (s : Sg), okx (zq_I Q) (f_Wk_rests_h34 n x1 x2 x3 x4 x5 s) → Xw d M_Wk_rests 0 0 34 [.ref 4, .int x1, .int x2, .int x3, .int x4, .int x5, .retAddr 0] [] s Q := by
  intro n
  induction n with
  | zero => intro x1 x2 x3 x4 x5 s h; exact okx_no h
  | succ n ih => intro x1 x2 x3 x4 x5 s h; exact w_Wk_rests_b34 hd  ih  h
noncomputable def f_Wk_rests (x1 : Int32) (s : Sg) : Option (Int32 × Sg) :=
  f_ck (zl_B s) <|
  f_bd (f_Wk_isNobody  s) fun r2 s3 =>
  if r2 = 0 then
    f_bd (f_Wk_isWithin x1 2 s3) fun r5 s6 =>
    if r5 = 0 then
      some ((-1), s6)
    else
      f_ck (zl_B s6) <|
      f_bd (f_Tu_lookAsIs  s6) fun r9 s10 =>
      f_Wk_rests_h34  zl_fl x1 0 (-1) (-1) 0 s10
  else
    some ((-1), s3)
theorem w_Wk_rests {x1 : Int32} {s : Sg} {d : Nat} {Q : Option (Option Value) → Sg → Prop} (hd : 7 ≤ d) (h : okx (zq_I Q) (f_Wk_rests x1 s)) : Cw d M_Wk_rests [.ref 4, .int x1] s Q := by
  refine Cw.of (by decide +kernel) (Nat.le_of_ble_eq_true rfl) ?_
  show Xw d M_Wk_rests 0 0 0 [.ref 4, .int x1, .retAddr 0, .retAddr 0, .retAddr 0, .retAddr 0, .retAddr 0] [] s _
  unfold f_Wk_rests at h
  refine xi_aload_n D_Wk_rests_0 rfl ?_
  obtain ⟨g1, h⟩ := okx_ck h
  refine xj_V0 D_Wk_rests_1 L_Wk_168 C_Wk_isNobody Z_Wk_isNobody (zl_fo (g1).1 rfl) (Nat.le_of_ble_eq_true rfl) (Nat.le_of_eq (Nat.sub_add_cancel (by omega))) (w_Wk_isNobody (by omega) (okx_mono (okx_bd h) ?_))
  intro r2 s3 h
  show Xw _ _ _ _ 4 _ [_] _ _
  refine xi_if_ne D_Wk_rests_4 (fun c4 => ?_) (fun c4 => ?_)
  · have h := okx_F c4 h
    refine xj_iconst (v := (-1)) D_Wk_rests_15 rfl ?_
    exact xi_ireturn D_Wk_rests_16 rfl (rfl) (okx_I h)
  · have h := okx_T c4 h
    refine xi_iload_n D_Wk_rests_7 rfl ?_
    refine xj_iconst (v := 2) D_Wk_rests_8 rfl ?_
    refine xj_S2 D_Wk_rests_9 L_Wk_111 C_Wk_isWithin Z_Wk_isWithin (Nat.le_of_ble_eq_true rfl) (Nat.le_of_eq (Nat.sub_add_cancel (by omega))) (w_Wk_isWithin (by omega) (okx_mono (okx_bd h) ?_))
    intro r5 s6 h
    show Xw _ _ _ _ 12 _ [_] _ _
    refine xi_if_ne D_Wk_rests_12 (fun c7 => ?_) (fun c7 => ?_)
    · have h := okx_F c7 h
      refine xi_aload_n D_Wk_rests_17 rfl ?_
      obtain ⟨g8, h⟩ := okx_ck h
      refine xi_getR D_Wk_rests_18 F_Wk_12 (zl_fo (g8).1 rfl) ⟨rfl, by decide⟩ (zl_gr (g8).2 rfl rfl) ?_
      refine xj_V0 D_Wk_rests_21 L_Wk_140 C_Tu_lookAsIs Z_Tu_lookAsIs (zl_fo (g8).1 rfl) (Nat.le_of_ble_eq_true rfl) (Nat.le_of_eq (Nat.sub_add_cancel (by omega))) (w_Tu_lookAsIs (by omega) (okx_mono (okx_bd h) ?_))
      intro r9 s10 h
      show Xw _ _ _ _ 24 _ [] _ _
      refine xj_iconst (v := 0) D_Wk_rests_24 rfl ?_
      refine xi_istore_n (ls' := [_, _, _, _, _, _, _]) D_Wk_rests_25 rfl (by decide) ?_
      refine xj_iconst (v := (-1)) D_Wk_rests_26 rfl ?_
      refine xi_istore_n (ls' := [_, _, _, _, _, _, _]) D_Wk_rests_27 rfl (by decide) ?_
      refine xj_iconst (v := (-1)) D_Wk_rests_28 rfl ?_
      refine xi_istore (ls' := [_, _, _, _, _, _, _]) D_Wk_rests_29 rfl (by decide) ?_
      refine xj_iconst (v := 0) D_Wk_rests_31 rfl ?_
      refine xi_istore (ls' := [_, _, _, _, _, _, _]) D_Wk_rests_32 rfl (by decide) ?_
      exact w_Wk_rests_h34 (by omega)  _ _ _ _ _ _ _ h
    · have h := okx_T c7 h
      refine xj_iconst (v := (-1)) D_Wk_rests_15 rfl ?_
      exact xi_ireturn D_Wk_rests_16 rfl (rfl) (okx_I h)
noncomputable def f_Wk_right (x1 : Int32) (x2 : Int32) (x3 : Int32) (x4 : Int32) (s : Sg) : Option ((Option Int32) × Sg) :=
  f_ck (zl_B s) <|
  f_bd (f_Wk_isThing x1 s) fun r2 s3 =>
  if r2 = 0 then
    some (none, s3)
  else
    f_ck (zl_B s3) <|
    f_bd (f_Wk_isPerson x2 s3) fun r6 s7 =>
    if r6 = 0 then
      some (none, s7)
    else
      f_bd (f_Wk_isWithin x3 9999 s7) fun r9 s10 =>
      if r9 = 0 then
        some (none, s10)
      else
        f_bd (f_Wk_isWithin x4 2 s10) fun r12 s13 =>
        if r12 = 0 then
          some (none, s13)
        else
          f_ck (zl_B s13) <|
          f_bd (f_Tu_lookAtRight x1 x2 x3 s13) fun r16 s17 =>
          f_ck (zl_B s17) <|
          f_bd (f_Wk_answerOfDeal x4 1 s17) fun r19 s20 =>
          f_mt r19 (some (none, s20)) fun r21 =>
          some ((some r21), s20)
theorem w_Wk_right {x1 : Int32} {x2 : Int32} {x3 : Int32} {x4 : Int32} {s : Sg} {d : Nat} {Q : Option (Option Value) → Sg → Prop} (hd : 10 ≤ d) (h : okx (zq_TI Q) (f_Wk_right x1 x2 x3 x4 s)) : Cw d M_Wk_right [.ref 4, .int x1, .int x2, .int x3, .int x4] s Q := by
  refine Cw.of (by decide +kernel) (Nat.le_of_ble_eq_true rfl) ?_
  show Xw d M_Wk_right 1 6 0 [.ref 4, .int x1, .int x2, .int x3, .int x4] [] s _
  unfold f_Wk_right at h
  refine xi_aload_n D_Wk_right_0 rfl ?_
  refine xi_iload_n D_Wk_right_1 rfl ?_
  obtain ⟨g1, h⟩ := okx_ck h
  refine xj_V1 D_Wk_right_2 L_Wk_108 C_Wk_isThing Z_Wk_isThing (zl_fo (g1).1 rfl) (Nat.le_of_ble_eq_true rfl) (Nat.le_of_eq (Nat.sub_add_cancel (by omega))) (w_Wk_isThing (by omega) (okx_mono (okx_bd h) ?_))
  intro r2 s3 h
  show Xw _ _ _ _ 5 _ [_] _ _
  refine xi_if_eq D_Wk_right_5 (fun c4 => ?_) (fun c4 => ?_)
  · have h := okx_T c4 h
    exact xi_throw ⟨rfl, rfl, D_Wk_right_35.1, D_Wk_right_38.1, D_Wk_right_39.1, D_Wk_right_42.1⟩ (by omega) (by decide) (okx_NTI h)
  · have h := okx_F c4 h
    refine xi_aload_n D_Wk_right_8 rfl ?_
    refine xi_iload_n D_Wk_right_9 rfl ?_
    obtain ⟨g5, h⟩ := okx_ck h
    refine xj_V1 D_Wk_right_10 L_Wk_131 C_Wk_isPerson Z_Wk_isPerson (zl_fo (g5).1 rfl) (Nat.le_of_ble_eq_true rfl) (Nat.le_of_eq (Nat.sub_add_cancel (by omega))) (w_Wk_isPerson (by omega) (okx_mono (okx_bd h) ?_))
    intro r6 s7 h
    show Xw _ _ _ _ 13 _ [_] _ _
    refine xi_if_eq D_Wk_right_13 (fun c8 => ?_) (fun c8 => ?_)
    · have h := okx_T c8 h
      exact xi_throw ⟨rfl, rfl, D_Wk_right_35.1, D_Wk_right_38.1, D_Wk_right_39.1, D_Wk_right_42.1⟩ (by omega) (by decide) (okx_NTI h)
    · have h := okx_F c8 h
      refine xi_iload_n D_Wk_right_16 rfl ?_
      refine xi_sipush (v := 9999) D_Wk_right_17 rfl ?_
      refine xj_S2 D_Wk_right_20 L_Wk_111 C_Wk_isWithin Z_Wk_isWithin (Nat.le_of_ble_eq_true rfl) (Nat.le_of_eq (Nat.sub_add_cancel (by omega))) (w_Wk_isWithin (by omega) (okx_mono (okx_bd h) ?_))
      intro r9 s10 h
      show Xw _ _ _ _ 23 _ [_] _ _
      refine xi_if_eq D_Wk_right_23 (fun c11 => ?_) (fun c11 => ?_)
      · have h := okx_T c11 h
        exact xi_throw ⟨rfl, rfl, D_Wk_right_35.1, D_Wk_right_38.1, D_Wk_right_39.1, D_Wk_right_42.1⟩ (by omega) (by decide) (okx_NTI h)
      · have h := okx_F c11 h
        refine xi_iload D_Wk_right_26 rfl ?_
        refine xj_iconst (v := 2) D_Wk_right_28 rfl ?_
        refine xj_S2 D_Wk_right_29 L_Wk_111 C_Wk_isWithin Z_Wk_isWithin (Nat.le_of_ble_eq_true rfl) (Nat.le_of_eq (Nat.sub_add_cancel (by omega))) (w_Wk_isWithin (by omega) (okx_mono (okx_bd h) ?_))
        intro r12 s13 h
        show Xw _ _ _ _ 32 _ [_] _ _
        refine xi_if_ne D_Wk_right_32 (fun c14 => ?_) (fun c14 => ?_)
        · have h := okx_F c14 h
          refine xi_aload_n D_Wk_right_43 rfl ?_
          obtain ⟨g15, h⟩ := okx_ck h
          refine xi_getR D_Wk_right_44 F_Wk_12 (zl_fo (g15).1 rfl) ⟨rfl, by decide⟩ (zl_gr (g15).2 rfl rfl) ?_
          refine xi_iload_n D_Wk_right_47 rfl ?_
          refine xi_iload_n D_Wk_right_48 rfl ?_
          refine xi_iload_n D_Wk_right_49 rfl ?_
          refine xj_V3 D_Wk_right_50 L_Wk_222 C_Tu_lookAtRight Z_Tu_lookAtRight (zl_fo (g15).1 rfl) (Nat.le_of_ble_eq_true rfl) (Nat.le_of_eq (Nat.sub_add_cancel (by omega))) (w_Tu_lookAtRight (by omega) (okx_mono (okx_bd h) ?_))
          intro r16 s17 h
          show Xw _ _ _ _ 53 _ [] _ _
          refine xi_aload_n D_Wk_right_53 rfl ?_
          refine xi_iload D_Wk_right_54 rfl ?_
          refine xj_iconst (v := 1) D_Wk_right_56 rfl ?_
          obtain ⟨g18, h⟩ := okx_ck h
          refine xi_V (k := 5) [_, _] D_Wk_right_57 L_Wk_226 C_Wk_answerOfDeal.1 C_Wk_answerOfDeal.2.1 ⟨zl_fo (g18).1 rfl, rfl⟩ ⟨Nat.le_of_ble_eq_true rfl, C_Wk_answerOfDeal.2.2.1, (Nat.le_of_eq (Nat.sub_add_cancel (by omega))), by decide, by decide⟩ (w_Wk_answerOfDeal (by omega) (okx_mono (okx_bd h) ?_))
          intro r19 s20 h
          rcases r19 with _ | r21
          · exact ⟨rfl, okx_NTI h⟩
          show Xw _ _ _ _ 60 _ [_] _ _
          exact xi_ireturn D_Wk_right_60 rfl (rfl) (okx_TI h)
        · have h := okx_T c14 h
          exact xi_throw ⟨rfl, rfl, D_Wk_right_35.1, D_Wk_right_38.1, D_Wk_right_39.1, D_Wk_right_42.1⟩ (by omega) (by decide) (okx_NTI h)
noncomputable def f_Wk_rightPrice_b115 (R52 : Int32 → Int32 → Int32 → Int32 → Int32 → Int32 → Int32 → Sg → Option ((Option Int32) × Sg)) (x1 : Int32) (x2 : Int32) (x3 : Int32) (x4 : Int32) (x5 : Int32) (x6 : Int32) (x7 : Int32) (s : Sg) : Option ((Option Int32) × Sg) :=
  R52 x1 x2 x3 x4 x5 x6 (x7 + 1) s
theorem w_Wk_rightPrice_b115 {x1 : Int32} {x2 : Int32} {x3 : Int32} {x4 : Int32} {x5 : Int32} {x6 : Int32} {x7 : Int32} {s : Sg} {d : Nat} {Q : Option (Option Value) → Sg → Prop} (hd : 9 ≤ d) {R52 : Int32 → Int32 → Int32 → Int32 → Int32 → Int32 → Int32 → Sg → Option ((Option Int32) × Sg)} (hR52 : ∀ (x1 : Int32) (x2 : Int32) (x3 : Int32) (x4 : Int32) (x5 : Int32) (x6 : Int32) (x7 : Int32) (s : Sg), okx (zq_TI Q) (R52 x1 x2 x3 x4 x5 x6 x7 s) → Xw d M_Wk_rightPrice 1 6 52 [.ref 4, .int x1, .int x2, .int x3, .int x4, .int x5, .int x6, .int x7, .retAddr 0] [] s Q) (h : okx (zq_TI Q) (f_Wk_rightPrice_b115 R52 x1 x2 x3 x4 x5 x6 x7 s)) : Xw d M_Wk_rightPrice 1 6 115 [.ref 4, .int x1, .int x2, .int x3, .int x4, .int x5, .int x6, .int x7, .retAddr 0] [] s Q := by
  unfold f_Wk_rightPrice_b115 at h
  refine xi_iinc (v := _ + 1) (ls' := [_, _, _, _, _, _, _, _, _]) D_Wk_rightPrice_115 rfl rfl rfl (by decide) ?_
  refine xi_goto D_Wk_rightPrice_118 ?_
  exact hR52 _ _ _ _ _ _ _ _ h
noncomputable def f_Wk_rightPrice_b121 (x4 : Int32) (x5 : Int32) (x6 : Int32) (s : Sg) : Option ((Option Int32) × Sg) :=
  if x5 = (-1) then
    some (none, s)
  else
    if x4 = 0 then
      some ((some x5), s)
    else
      some ((some x6), s)
theorem w_Wk_rightPrice_b121 {x4 : Int32} {x5 : Int32} {x6 : Int32} {s : Sg} {d : Nat} {Q : Option (Option Value) → Sg → Prop} (hd : 9 ≤ d) (h : okx (zq_TI Q) (f_Wk_rightPrice_b121 x4 x5 x6 s)) : Xw d M_Wk_rightPrice 1 6 121 [.retAddr 0, .retAddr 0, .retAddr 0, .retAddr 0, .int x4, .int x5, .int x6, .retAddr 0, .retAddr 0] [] s Q := by
  unfold f_Wk_rightPrice_b121 at h
  refine xi_iload D_Wk_rightPrice_121 rfl ?_
  refine xj_iconst (v := (-1)) D_Wk_rightPrice_123 rfl ?_
  refine xi_icmp_ne D_Wk_rightPrice_124 (fun c30 => ?_) (fun c30 => ?_)
  · have h := okx_F c30 h
    refine xi_iload D_Wk_rightPrice_135 rfl ?_
    refine xi_if_ne D_Wk_rightPrice_137 (fun c31 => ?_) (fun c31 => ?_)
    · have h := okx_F c31 h
      refine xi_iload D_Wk_rightPrice_145 rfl ?_
      exact xi_ireturn D_Wk_rightPrice_147 rfl (rfl) (okx_TI h)
    · have h := okx_T c31 h
      refine xi_iload D_Wk_rightPrice_140 rfl ?_
      refine xi_goto D_Wk_rightPrice_142 ?_
      exact xi_ireturn D_Wk_rightPrice_147 rfl (rfl) (okx_TI h)
  · have h := okx_T c30 h
    exact xi_throw ⟨rfl, rfl, D_Wk_rightPrice_127.1, D_Wk_rightPrice_130.1, D_Wk_rightPrice_131.1, D_Wk_rightPrice_134.1⟩ (by omega) (by decide) (okx_NTI h)
noncomputable def f_Wk_rightPrice_b52 (R52 : Int32 → Int32 → Int32 → Int32 → Int32 → Int32 → Int32 → Sg → Option ((Option Int32) × Sg)) (x1 : Int32) (x2 : Int32) (x3 : Int32) (x4 : Int32) (x5 : Int32) (x6 : Int32) (x7 : Int32) (s : Sg) : Option ((Option Int32) × Sg) :=
  if x3 < x7 then
    f_Wk_rightPrice_b121  x4 x5 x6 s
  else
    f_ck (zl_B s) <|
    f_bd (f_Tu_lookAtRight x1 x2 x7 s) fun r17 s18 =>
    f_ck (zl_B s18) <|
    f_bd (f_Tu_byTurns 0 (-1) s18) fun r20 s21 =>
    if r20 = (-1) then
      f_Wk_rightPrice_b115 R52 x1 x2 x3 x4 x5 x6 x7 s21
    else
      f_ck (zl_B s21) <|
      f_bd (f_Wo_goodOf r20 s21) fun r24 s25 =>
      if r24 ≤ x6 then
        f_Wk_rightPrice_b115 R52 x1 x2 x3 x4 x5 x6 x7 s25
      else
        f_ck (zl_B s25) <|
        f_bd (f_Wo_goodOf r20 s25) fun r28 s29 =>
        f_Wk_rightPrice_b115 R52 x1 x2 x3 x4 x7 r28 x7 s29
theorem w_Wk_rightPrice_b52 {x1 : Int32} {x2 : Int32} {x3 : Int32} {x4 : Int32} {x5 : Int32} {x6 : Int32} {x7 : Int32} {s : Sg} {d : Nat} {Q : Option (Option Value) → Sg → Prop} (hd : 9 ≤ d) {R52 : Int32 → Int32 → Int32 → Int32 → Int32 → Int32 → Int32 → Sg → Option ((Option Int32) × Sg)} (hR52 : ∀ (x1 : Int32) (x2 : Int32) (x3 : Int32) (x4 : Int32) (x5 : Int32) (x6 : Int32) (x7 : Int32) (s : Sg), okx (zq_TI Q) (R52 x1 x2 x3 x4 x5 x6 x7 s) → Xw d M_Wk_rightPrice 1 6 52 [.ref 4, .int x1, .int x2, .int x3, .int x4, .int x5, .int x6, .int x7, .retAddr 0] [] s Q) (h : okx (zq_TI Q) (f_Wk_rightPrice_b52 R52 x1 x2 x3 x4 x5 x6 x7 s)) : Xw d M_Wk_rightPrice 1 6 52 [.ref 4, .int x1, .int x2, .int x3, .int x4, .int x5, .int x6, .int x7, .retAddr 0] [] s Q := by
  unfold f_Wk_rightPrice_b52 at h
  refine xi_iload D_Wk_rightPrice_52 rfl ?_
  refine xi_iload_n D_Wk_rightPrice_54 rfl ?_
  refine xi_icmp_gt D_Wk_rightPrice_55 (fun c15 => ?_) (fun c15 => ?_)
  · have h := okx_T c15 h
    exact xk_wk (w_Wk_rightPrice_b121 (by omega)  h) ⟨Or.inr rfl, Or.inr rfl, Or.inr rfl, Or.inr rfl, Or.inl rfl, Or.inl rfl, Or.inl rfl, Or.inr rfl, Or.inl rfl, trivial⟩
  · have h := okx_F c15 h
    refine xi_aload_n D_Wk_rightPrice_58 rfl ?_
    obtain ⟨g16, h⟩ := okx_ck h
    refine xi_getR D_Wk_rightPrice_59 F_Wk_12 (zl_fo (g16).1 rfl) ⟨rfl, by decide⟩ (zl_gr (g16).2 rfl rfl) ?_
    refine xi_iload_n D_Wk_rightPrice_62 rfl ?_
    refine xi_iload_n D_Wk_rightPrice_63 rfl ?_
    refine xi_iload D_Wk_rightPrice_64 rfl ?_
    refine xj_V3 D_Wk_rightPrice_66 L_Wk_222 C_Tu_lookAtRight Z_Tu_lookAtRight (zl_fo (g16).1 rfl) (Nat.le_of_ble_eq_true rfl) (Nat.le_of_eq (Nat.sub_add_cancel (by omega))) (w_Tu_lookAtRight (by omega) (okx_mono (okx_bd h) ?_))
    intro r17 s18 h
    show Xw _ _ _ _ 69 _ [] _ _
    refine xi_aload_n D_Wk_rightPrice_69 rfl ?_
    obtain ⟨g19, h⟩ := okx_ck h
    refine xi_getR D_Wk_rightPrice_70 F_Wk_12 (zl_fo (g19).1 rfl) ⟨rfl, by decide⟩ (zl_gr (g19).2 rfl rfl) ?_
    refine xj_iconst (v := 0) D_Wk_rightPrice_73 rfl ?_
    refine xj_iconst (v := (-1)) D_Wk_rightPrice_74 rfl ?_
    refine xj_V2 D_Wk_rightPrice_75 L_Wk_175 C_Tu_byTurns Z_Tu_byTurns (zl_fo (g19).1 rfl) (Nat.le_of_ble_eq_true rfl) (Nat.le_of_eq (Nat.sub_add_cancel (by omega))) (w_Tu_byTurns (by omega) (okx_mono (okx_bd h) ?_))
    intro r20 s21 h
    show Xw _ _ _ _ 78 _ [_] _ _
    refine xi_istore (ls' := [_, _, _, _, _, _, _, _, _]) D_Wk_rightPrice_78 rfl (by decide) ?_
    refine xi_iload D_Wk_rightPrice_80 rfl ?_
    refine xj_iconst (v := (-1)) D_Wk_rightPrice_82 rfl ?_
    refine xi_icmp_eq D_Wk_rightPrice_83 (fun c22 => ?_) (fun c22 => ?_)
    · have h := okx_T c22 h
      exact xk_wk (w_Wk_rightPrice_b115 (by omega) hR52 h) ⟨Or.inl rfl, Or.inl rfl, Or.inl rfl, Or.inl rfl, Or.inl rfl, Or.inl rfl, Or.inl rfl, Or.inl rfl, Or.inr rfl, trivial⟩
    · have h := okx_F c22 h
      refine xi_aload_n D_Wk_rightPrice_86 rfl ?_
      obtain ⟨g23, h⟩ := okx_ck h
      refine xi_getR D_Wk_rightPrice_87 F_Wk_20 (zl_fo (g23).1 rfl) ⟨rfl, by decide⟩ (zl_gr (g23).2 rfl rfl) ?_
      refine xi_iload D_Wk_rightPrice_90 rfl ?_
      refine xj_V1 D_Wk_rightPrice_92 L_Wk_181 C_Wo_goodOf Z_Wo_goodOf (zl_fo (g23).1 rfl) (Nat.le_of_ble_eq_true rfl) (Nat.le_of_eq (Nat.sub_add_cancel (by omega))) (w_Wo_goodOf (by omega) (okx_mono (okx_bd h) ?_))
      intro r24 s25 h
      show Xw _ _ _ _ 95 _ [_] _ _
      refine xi_iload D_Wk_rightPrice_95 rfl ?_
      refine xi_icmp_le D_Wk_rightPrice_97 (fun c26 => ?_) (fun c26 => ?_)
      · have h := okx_T c26 h
        exact xk_wk (w_Wk_rightPrice_b115 (by omega) hR52 h) ⟨Or.inl rfl, Or.inl rfl, Or.inl rfl, Or.inl rfl, Or.inl rfl, Or.inl rfl, Or.inl rfl, Or.inl rfl, Or.inr rfl, trivial⟩
      · have h := okx_F c26 h
        refine xi_iload D_Wk_rightPrice_100 rfl ?_
        refine xi_istore (ls' := [_, _, _, _, _, _, _, _, _]) D_Wk_rightPrice_102 rfl (by decide) ?_
        refine xi_aload_n D_Wk_rightPrice_104 rfl ?_
        obtain ⟨g27, h⟩ := okx_ck h
        refine xi_getR D_Wk_rightPrice_105 F_Wk_20 (zl_fo (g27).1 rfl) ⟨rfl, by decide⟩ (zl_gr (g27).2 rfl rfl) ?_
        refine xi_iload D_Wk_rightPrice_108 rfl ?_
        refine xj_V1 D_Wk_rightPrice_110 L_Wk_181 C_Wo_goodOf Z_Wo_goodOf (zl_fo (g27).1 rfl) (Nat.le_of_ble_eq_true rfl) (Nat.le_of_eq (Nat.sub_add_cancel (by omega))) (w_Wo_goodOf (by omega) (okx_mono (okx_bd h) ?_))
        intro r28 s29 h
        show Xw _ _ _ _ 113 _ [_] _ _
        refine xi_istore (ls' := [_, _, _, _, _, _, _, _, _]) D_Wk_rightPrice_113 rfl (by decide) ?_
        exact xk_wk (w_Wk_rightPrice_b115 (by omega) hR52 h) ⟨Or.inl rfl, Or.inl rfl, Or.inl rfl, Or.inl rfl, Or.inl rfl, Or.inl rfl, Or.inl rfl, Or.inl rfl, Or.inr rfl, trivial⟩
noncomputable def f_Wk_rightPrice_h52 : Nat → Int32 → Int32 → Int32 → Int32 → Int32 → Int32 → Int32 → Sg → Option ((Option Int32) × Sg)
  | 0, _, _, _, _, _, _, _, _ => none
  | n + 1, x1, x2, x3, x4, x5, x6, x7, s => f_Wk_rightPrice_b52 (f_Wk_rightPrice_h52 n) x1 x2 x3 x4 x5 x6 x7 s
theorem w_Wk_rightPrice_h52 {d : Nat} {Q : Option (Option Value) → Sg → Prop} (hd : 9 ≤ d) : ∀ (n : Nat) (x1 : Int32) (x2 : Int32) (x3 : Int32) (x4 : Int32) (x5 : Int32) (x6 : Int32) (x7 : Int32) (s : Sg), okx (zq_TI Q) (f_Wk_rightPrice_h52 n x1 x2 x3 x4 x5 x6 x7 s) → Xw d M_Wk_rightPrice 1 6 52 [.ref 4, .int x1, .int x2, .int x3, .int x4, .int x5, .int x6, .int x7, .retAddr 0] [] s Q := by
  intro n
  induction n with
  | zero => intro x1 x2 x3 x4 x5 x6 x7 s h; exact okx_no h
  | succ n ih => intro x1 x2 x3 x4 x5 x6 x7 s h; exact w_Wk_rightPrice_b52 hd  ih  h
noncomputable def f_Wk_rightPrice (x1 : Int32) (x2 : Int32) (x3 : Int32) (x4 : Int32) (s : Sg) : Option ((Option Int32) × Sg) :=
  f_ck (zl_B s) <|
  f_bd (f_Wk_isThing x1 s) fun r2 s3 =>
  if r2 = 0 then
    some (none, s3)
  else
    f_ck (zl_B s3) <|
    f_bd (f_Wk_isPerson x2 s3) fun r6 s7 =>
    if r6 = 0 then
      some (none, s7)
    else
      f_bd (f_Wk_isWithin x3 60 s7) fun r9 s10 =>
      if r9 = 0 then
        some (none, s10)
      else
        f_bd (f_Wk_isWithin x4 1 s10) fun r12 s13 =>
        if r12 = 0 then
          some (none, s13)
        else
          f_Wk_rightPrice_h52  zl_fl x1 x2 x3 x4 (-1) (-1073741824) 0 s13
theorem w_Wk_rightPrice {x1 : Int32} {x2 : Int32} {x3 : Int32} {x4 : Int32} {s : Sg} {d : Nat} {Q : Option (Option Value) → Sg → Prop} (hd : 9 ≤ d) (h : okx (zq_TI Q) (f_Wk_rightPrice x1 x2 x3 x4 s)) : Cw d M_Wk_rightPrice [.ref 4, .int x1, .int x2, .int x3, .int x4] s Q := by
  refine Cw.of (by decide +kernel) (Nat.le_of_ble_eq_true rfl) ?_
  show Xw d M_Wk_rightPrice 1 6 0 [.ref 4, .int x1, .int x2, .int x3, .int x4, .retAddr 0, .retAddr 0, .retAddr 0, .retAddr 0] [] s _
  unfold f_Wk_rightPrice at h
  refine xi_aload_n D_Wk_rightPrice_0 rfl ?_
  refine xi_iload_n D_Wk_rightPrice_1 rfl ?_
  obtain ⟨g1, h⟩ := okx_ck h
  refine xj_V1 D_Wk_rightPrice_2 L_Wk_108 C_Wk_isThing Z_Wk_isThing (zl_fo (g1).1 rfl) (Nat.le_of_ble_eq_true rfl) (Nat.le_of_eq (Nat.sub_add_cancel (by omega))) (w_Wk_isThing (by omega) (okx_mono (okx_bd h) ?_))
  intro r2 s3 h
  show Xw _ _ _ _ 5 _ [_] _ _
  refine xi_if_eq D_Wk_rightPrice_5 (fun c4 => ?_) (fun c4 => ?_)
  · have h := okx_T c4 h
    exact xi_throw ⟨rfl, rfl, D_Wk_rightPrice_34.1, D_Wk_rightPrice_37.1, D_Wk_rightPrice_38.1, D_Wk_rightPrice_41.1⟩ (by omega) (by decide) (okx_NTI h)
  · have h := okx_F c4 h
    refine xi_aload_n D_Wk_rightPrice_8 rfl ?_
    refine xi_iload_n D_Wk_rightPrice_9 rfl ?_
    obtain ⟨g5, h⟩ := okx_ck h
    refine xj_V1 D_Wk_rightPrice_10 L_Wk_131 C_Wk_isPerson Z_Wk_isPerson (zl_fo (g5).1 rfl) (Nat.le_of_ble_eq_true rfl) (Nat.le_of_eq (Nat.sub_add_cancel (by omega))) (w_Wk_isPerson (by omega) (okx_mono (okx_bd h) ?_))
    intro r6 s7 h
    show Xw _ _ _ _ 13 _ [_] _ _
    refine xi_if_eq D_Wk_rightPrice_13 (fun c8 => ?_) (fun c8 => ?_)
    · have h := okx_T c8 h
      exact xi_throw ⟨rfl, rfl, D_Wk_rightPrice_34.1, D_Wk_rightPrice_37.1, D_Wk_rightPrice_38.1, D_Wk_rightPrice_41.1⟩ (by omega) (by decide) (okx_NTI h)
    · have h := okx_F c8 h
      refine xi_iload_n D_Wk_rightPrice_16 rfl ?_
      refine xi_bipush (v := 60) D_Wk_rightPrice_17 rfl ?_
      refine xj_S2 D_Wk_rightPrice_19 L_Wk_111 C_Wk_isWithin Z_Wk_isWithin (Nat.le_of_ble_eq_true rfl) (Nat.le_of_eq (Nat.sub_add_cancel (by omega))) (w_Wk_isWithin (by omega) (okx_mono (okx_bd h) ?_))
      intro r9 s10 h
      show Xw _ _ _ _ 22 _ [_] _ _
      refine xi_if_eq D_Wk_rightPrice_22 (fun c11 => ?_) (fun c11 => ?_)
      · have h := okx_T c11 h
        exact xi_throw ⟨rfl, rfl, D_Wk_rightPrice_34.1, D_Wk_rightPrice_37.1, D_Wk_rightPrice_38.1, D_Wk_rightPrice_41.1⟩ (by omega) (by decide) (okx_NTI h)
      · have h := okx_F c11 h
        refine xi_iload D_Wk_rightPrice_25 rfl ?_
        refine xj_iconst (v := 1) D_Wk_rightPrice_27 rfl ?_
        refine xj_S2 D_Wk_rightPrice_28 L_Wk_111 C_Wk_isWithin Z_Wk_isWithin (Nat.le_of_ble_eq_true rfl) (Nat.le_of_eq (Nat.sub_add_cancel (by omega))) (w_Wk_isWithin (by omega) (okx_mono (okx_bd h) ?_))
        intro r12 s13 h
        show Xw _ _ _ _ 31 _ [_] _ _
        refine xi_if_ne D_Wk_rightPrice_31 (fun c14 => ?_) (fun c14 => ?_)
        · have h := okx_F c14 h
          refine xj_iconst (v := (-1)) D_Wk_rightPrice_42 rfl ?_
          refine xi_istore (ls' := [_, _, _, _, _, _, _, _, _]) D_Wk_rightPrice_43 rfl (by decide) ?_
          refine xi_ldc D_Wk_rightPrice_45 K_Wk_195 ?_
          refine xi_istore (ls' := [_, _, _, _, _, _, _, _, _]) D_Wk_rightPrice_47 rfl (by decide) ?_
          refine xj_iconst (v := 0) D_Wk_rightPrice_49 rfl ?_
          refine xi_istore (ls' := [_, _, _, _, _, _, _, _, _]) D_Wk_rightPrice_50 rfl (by decide) ?_
          exact w_Wk_rightPrice_h52 (by omega)  _ _ _ _ _ _ _ _ _ h
        · have h := okx_T c14 h
          exact xi_throw ⟨rfl, rfl, D_Wk_rightPrice_34.1, D_Wk_rightPrice_37.1, D_Wk_rightPrice_38.1, D_Wk_rightPrice_41.1⟩ (by omega) (by decide) (okx_NTI h)
noncomputable def f_Wk_share_b80 (x3 : Int32) (x4 : Int64) (y0 : Int64) (s : Sg) : Option ((Option Int64) × Sg) :=
  f_bd (f_Wk_commonDivisor y0 240 s) fun r22 s23 =>
  if x3 = 0 then
    f_ck (¬ r22 = 0) <|
    some ((some (x4 / r22)), s23)
  else
    f_ck (¬ r22 = 0) <|
    some ((some ((240 : Int64) / r22)), s23)
theorem w_Wk_share_b80 {x3 : Int32} {x4 : Int64} {y0 : Int64} {s : Sg} {d : Nat} {Q : Option (Option Value) → Sg → Prop} (hd : 9 ≤ d) (h : okx (zq_TL Q) (f_Wk_share_b80 x3 x4 y0 s)) : Xw d M_Wk_share 1 6 80 [.retAddr 0, .retAddr 0, .retAddr 0, .int x3, .long x4, .retAddr 0, .retAddr 0, .retAddr 0] [.long y0] s Q := by
  unfold f_Wk_share_b80 at h
  refine xi_ldc2 D_Wk_share_80 K_Wk_155 ?_
  refine xj_S2 D_Wk_share_83 L_Wk_157 C_Wk_commonDivisor Z_Wk_commonDivisor (Nat.le_of_ble_eq_true rfl) (Nat.le_of_eq (Nat.sub_add_cancel (by omega))) (w_Wk_commonDivisor (by omega) (okx_mono (okx_bd h) ?_))
  intro r22 s23 h
  show Xw _ _ _ _ 86 _ [_] _ _
  refine xi_lstore (ls' := [_, _, _, _, _, _, _, _]) D_Wk_share_86 rfl (by decide) ?_
  refine xi_iload_n D_Wk_share_88 rfl ?_
  refine xi_if_ne D_Wk_share_89 (fun c24 => ?_) (fun c24 => ?_)
  · have h := okx_F c24 h
    refine xi_ldc2 D_Wk_share_100 K_Wk_155 ?_
    refine xi_lload D_Wk_share_103 rfl ?_
    obtain ⟨g26, h⟩ := okx_ck h
    refine xi_ldiv D_Wk_share_105 g26 ?_
    exact xi_lreturn D_Wk_share_106 rfl (okx_TL h)
  · have h := okx_T c24 h
    refine xi_lload D_Wk_share_92 rfl ?_
    refine xi_lload D_Wk_share_94 rfl ?_
    obtain ⟨g25, h⟩ := okx_ck h
    refine xi_ldiv D_Wk_share_96 g25 ?_
    refine xi_goto D_Wk_share_97 ?_
    exact xi_lreturn D_Wk_share_106 rfl (okx_TL h)
noncomputable def f_Wk_share (x1 : Int32) (x2 : Int32) (x3 : Int32) (s : Sg) : Option ((Option Int64) × Sg) :=
  f_ck (zl_B s) <|
  f_bd (f_Wk_isPerson x1 s) fun r2 s3 =>
  if r2 = 0 then
    some (none, s3)
  else
    f_ck (zl_B s3) <|
    f_bd (f_Wk_isPains x2 s3) fun r6 s7 =>
    if r6 = 0 then
      some (none, s7)
    else
      f_bd (f_Wk_isWithin x3 1 s7) fun r9 s10 =>
      if r9 = 0 then
        some (none, s10)
      else
        f_ck (zl_B s10) <|
        f_bd (f_Tu_lookAsIs  s10) fun r13 s14 =>
        f_ck (zl_B s14) <|
        f_bd (f_Wo_fill x2 s14) fun r16 s17 =>
        f_ck (zl_B s17) <|
        f_bd (f_Tu_shareOf 21 x1 x2 s17) fun r19 s20 =>
        if 0 ≤ (lg_cmp r19 0) then
          f_Wk_share_b80  x3 r19 r19 s20
        else
          f_Wk_share_b80  x3 r19 (-r19) s20
theorem w_Wk_share {x1 : Int32} {x2 : Int32} {x3 : Int32} {s : Sg} {d : Nat} {Q : Option (Option Value) → Sg → Prop} (hd : 9 ≤ d) (h : okx (zq_TL Q) (f_Wk_share x1 x2 x3 s)) : Cw d M_Wk_share [.ref 4, .int x1, .int x2, .int x3] s Q := by
  refine Cw.of (by decide +kernel) (Nat.le_of_ble_eq_true rfl) ?_
  show Xw d M_Wk_share 1 6 0 [.ref 4, .int x1, .int x2, .int x3, .retAddr 0, .retAddr 0, .retAddr 0, .retAddr 0] [] s _
  unfold f_Wk_share at h
  refine xi_aload_n D_Wk_share_0 rfl ?_
  refine xi_iload_n D_Wk_share_1 rfl ?_
  obtain ⟨g1, h⟩ := okx_ck h
  refine xj_V1 D_Wk_share_2 L_Wk_131 C_Wk_isPerson Z_Wk_isPerson (zl_fo (g1).1 rfl) (Nat.le_of_ble_eq_true rfl) (Nat.le_of_eq (Nat.sub_add_cancel (by omega))) (w_Wk_isPerson (by omega) (okx_mono (okx_bd h) ?_))
  intro r2 s3 h
  show Xw _ _ _ _ 5 _ [_] _ _
  refine xi_if_eq D_Wk_share_5 (fun c4 => ?_) (fun c4 => ?_)
  · have h := okx_T c4 h
    exact xi_throw ⟨rfl, rfl, D_Wk_share_24.1, D_Wk_share_27.1, D_Wk_share_28.1, D_Wk_share_31.1⟩ (by omega) (by decide) (okx_NTL h)
  · have h := okx_F c4 h
    refine xi_aload_n D_Wk_share_8 rfl ?_
    refine xi_iload_n D_Wk_share_9 rfl ?_
    obtain ⟨g5, h⟩ := okx_ck h
    refine xj_V1 D_Wk_share_10 L_Wk_87 C_Wk_isPains Z_Wk_isPains (zl_fo (g5).1 rfl) (Nat.le_of_ble_eq_true rfl) (Nat.le_of_eq (Nat.sub_add_cancel (by omega))) (w_Wk_isPains (by omega) (okx_mono (okx_bd h) ?_))
    intro r6 s7 h
    show Xw _ _ _ _ 13 _ [_] _ _
    refine xi_if_eq D_Wk_share_13 (fun c8 => ?_) (fun c8 => ?_)
    · have h := okx_T c8 h
      exact xi_throw ⟨rfl, rfl, D_Wk_share_24.1, D_Wk_share_27.1, D_Wk_share_28.1, D_Wk_share_31.1⟩ (by omega) (by decide) (okx_NTL h)
    · have h := okx_F c8 h
      refine xi_iload_n D_Wk_share_16 rfl ?_
      refine xj_iconst (v := 1) D_Wk_share_17 rfl ?_
      refine xj_S2 D_Wk_share_18 L_Wk_111 C_Wk_isWithin Z_Wk_isWithin (Nat.le_of_ble_eq_true rfl) (Nat.le_of_eq (Nat.sub_add_cancel (by omega))) (w_Wk_isWithin (by omega) (okx_mono (okx_bd h) ?_))
      intro r9 s10 h
      show Xw _ _ _ _ 21 _ [_] _ _
      refine xi_if_ne D_Wk_share_21 (fun c11 => ?_) (fun c11 => ?_)
      · have h := okx_F c11 h
        refine xi_aload_n D_Wk_share_32 rfl ?_
        obtain ⟨g12, h⟩ := okx_ck h
        refine xi_getR D_Wk_share_33 F_Wk_12 (zl_fo (g12).1 rfl) ⟨rfl, by decide⟩ (zl_gr (g12).2 rfl rfl) ?_
        refine xj_V0 D_Wk_share_36 L_Wk_140 C_Tu_lookAsIs Z_Tu_lookAsIs (zl_fo (g12).1 rfl) (Nat.le_of_ble_eq_true rfl) (Nat.le_of_eq (Nat.sub_add_cancel (by omega))) (w_Tu_lookAsIs (by omega) (okx_mono (okx_bd h) ?_))
        intro r13 s14 h
        show Xw _ _ _ _ 39 _ [] _ _
        refine xi_aload_n D_Wk_share_39 rfl ?_
        obtain ⟨g15, h⟩ := okx_ck h
        refine xi_getR D_Wk_share_40 F_Wk_20 (zl_fo (g15).1 rfl) ⟨rfl, by decide⟩ (zl_gr (g15).2 rfl rfl) ?_
        refine xi_iload_n D_Wk_share_43 rfl ?_
        refine xj_V1 D_Wk_share_44 L_Wk_143 C_Wo_fill Z_Wo_fill (zl_fo (g15).1 rfl) (Nat.le_of_ble_eq_true rfl) (Nat.le_of_eq (Nat.sub_add_cancel (by omega))) (w_Wo_fill (by omega) (okx_mono (okx_bd h) ?_))
        intro r16 s17 h
        show Xw _ _ _ _ 47 _ [] _ _
        refine xi_aload_n D_Wk_share_47 rfl ?_
        obtain ⟨g18, h⟩ := okx_ck h
        refine xi_getR D_Wk_share_48 F_Wk_12 (zl_fo (g18).1 rfl) ⟨rfl, by decide⟩ (zl_gr (g18).2 rfl rfl) ?_
        refine xi_aload_n D_Wk_share_51 rfl ?_
        refine xi_getR D_Wk_share_52 F_Wk_12 (zl_fo (g18).1 rfl) ⟨rfl, by decide⟩ (zl_gr (g18).2 rfl rfl) ?_
        refine xi_getR D_Wk_share_55 F_Wk_147 (zl_fo (g18).1 rfl) ⟨rfl, by decide⟩ (zl_gr (g18).2 rfl rfl) ?_
        refine xi_iload_n D_Wk_share_58 rfl ?_
        refine xi_iload_n D_Wk_share_59 rfl ?_
        refine xj_V3 D_Wk_share_60 L_Wk_151 C_Tu_shareOf Z_Tu_shareOf (zl_fo (g18).1 rfl) (Nat.le_of_ble_eq_true rfl) (Nat.le_of_eq (Nat.sub_add_cancel (by omega))) (w_Tu_shareOf (by omega) (okx_mono (okx_bd h) ?_))
        intro r19 s20 h
        show Xw _ _ _ _ 63 _ [_] _ _
        refine xi_lstore (ls' := [_, _, _, _, _, _, _, _]) D_Wk_share_63 rfl (by decide) ?_
        refine xi_lload D_Wk_share_65 rfl ?_
        refine xj_lconst (v := 0) D_Wk_share_67 rfl ?_
        refine xi_lcmp D_Wk_share_68 ?_
        refine xi_if_ge D_Wk_share_69 (fun c21 => ?_) (fun c21 => ?_)
        · have h := okx_T c21 h
          refine xi_lload D_Wk_share_78 rfl ?_
          exact xk_wk (w_Wk_share_b80 (by omega)  h) ⟨Or.inr rfl, Or.inr rfl, Or.inr rfl, Or.inl rfl, Or.inl rfl, Or.inl rfl, Or.inl rfl, Or.inl rfl, trivial⟩
        · have h := okx_F c21 h
          refine xi_lload D_Wk_share_72 rfl ?_
          refine xi_lneg D_Wk_share_74 ?_
          refine xi_goto D_Wk_share_75 ?_
          exact xk_wk (w_Wk_share_b80 (by omega)  h) ⟨Or.inr rfl, Or.inr rfl, Or.inr rfl, Or.inl rfl, Or.inl rfl, Or.inl rfl, Or.inl rfl, Or.inl rfl, trivial⟩
      · have h := okx_T c11 h
        exact xi_throw ⟨rfl, rfl, D_Wk_share_24.1, D_Wk_share_27.1, D_Wk_share_28.1, D_Wk_share_31.1⟩ (by omega) (by decide) (okx_NTL h)
