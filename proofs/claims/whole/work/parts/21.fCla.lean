/-! by a program of ours (wip/whole/gen/func.py, mkall.py) out of the listing: In_bitCount Ow_give Ow_copyFrom Ow_holds To_all Ow_settle To_clear To_copyFrom To_init Tu_paidTo Tu_made Tu_shareOf -/
noncomputable def f_In_bitCount (x0 : Int32) (s : Sg) : Option (Int32 × Sg) :=
  let v1 : Int32 := (x0 - (((Int32.toUInt32 x0 >>> (Int32.toUInt32 1 &&& Int32.toUInt32 31)).toInt32) &&& 1431655765))
  let v2 : Int32 := ((v1 &&& 858993459) + (((Int32.toUInt32 v1 >>> (Int32.toUInt32 2 &&& Int32.toUInt32 31)).toInt32) &&& 858993459))
  let v3 : Int32 := ((v2 + ((Int32.toUInt32 v2 >>> (Int32.toUInt32 4 &&& Int32.toUInt32 31)).toInt32)) &&& 252645135)
  let v4 : Int32 := (v3 + ((Int32.toUInt32 v3 >>> (Int32.toUInt32 8 &&& Int32.toUInt32 31)).toInt32))
  let v5 : Int32 := (v4 + ((Int32.toUInt32 v4 >>> (Int32.toUInt32 16 &&& Int32.toUInt32 31)).toInt32))
  some ((v5 &&& 63), s)
theorem w_In_bitCount {x0 : Int32} {s : Sg} {d : Nat} {Q : Option (Option Value) → Sg → Prop} (hd : 1 ≤ d) (h : okx (zq_I Q) (f_In_bitCount x0 s)) : Cw d M_In_bitCount [.int x0] s Q := by
  refine Cw.of (by decide +kernel) (Nat.le_of_ble_eq_true rfl) ?_
  show Xw d M_In_bitCount 0 0 0 [.int x0] [] s _
  unfold f_In_bitCount at h
  refine xi_iload_n D_In_bitCount_0 rfl ?_
  refine xi_iload_n D_In_bitCount_1 rfl ?_
  refine xj_iconst (v := 1) D_In_bitCount_2 rfl ?_
  refine xi_iushr D_In_bitCount_3 ?_
  refine xi_ldcw D_In_bitCount_4 K_In_265 ?_
  refine xi_iand D_In_bitCount_7 ?_
  refine xi_isub D_In_bitCount_8 ?_
  refine xi_istore_n (ls' := [_]) D_In_bitCount_9 rfl (by decide) ?_
  refine xi_iload_n D_In_bitCount_10 rfl ?_
  refine xi_ldcw D_In_bitCount_11 K_In_266 ?_
  refine xi_iand D_In_bitCount_14 ?_
  refine xi_iload_n D_In_bitCount_15 rfl ?_
  refine xj_iconst (v := 2) D_In_bitCount_16 rfl ?_
  refine xi_iushr D_In_bitCount_17 ?_
  refine xi_ldcw D_In_bitCount_18 K_In_266 ?_
  refine xi_iand D_In_bitCount_21 ?_
  refine xi_iadd D_In_bitCount_22 ?_
  refine xi_istore_n (ls' := [_]) D_In_bitCount_23 rfl (by decide) ?_
  refine xi_iload_n D_In_bitCount_24 rfl ?_
  refine xi_iload_n D_In_bitCount_25 rfl ?_
  refine xj_iconst (v := 4) D_In_bitCount_26 rfl ?_
  refine xi_iushr D_In_bitCount_27 ?_
  refine xi_iadd D_In_bitCount_28 ?_
  refine xi_ldcw D_In_bitCount_29 K_In_267 ?_
  refine xi_iand D_In_bitCount_32 ?_
  refine xi_istore_n (ls' := [_]) D_In_bitCount_33 rfl (by decide) ?_
  refine xi_iload_n D_In_bitCount_34 rfl ?_
  refine xi_iload_n D_In_bitCount_35 rfl ?_
  refine xi_bipush (v := 8) D_In_bitCount_36 rfl ?_
  refine xi_iushr D_In_bitCount_38 ?_
  refine xi_iadd D_In_bitCount_39 ?_
  refine xi_istore_n (ls' := [_]) D_In_bitCount_40 rfl (by decide) ?_
  refine xi_iload_n D_In_bitCount_41 rfl ?_
  refine xi_iload_n D_In_bitCount_42 rfl ?_
  refine xi_bipush (v := 16) D_In_bitCount_43 rfl ?_
  refine xi_iushr D_In_bitCount_45 ?_
  refine xi_iadd D_In_bitCount_46 ?_
  refine xi_istore_n (ls' := [_]) D_In_bitCount_47 rfl (by decide) ?_
  refine xi_iload_n D_In_bitCount_48 rfl ?_
  refine xi_bipush (v := 63) D_In_bitCount_49 rfl ?_
  refine xi_iand D_In_bitCount_51 ?_
  exact xi_ireturn D_In_bitCount_52 rfl (rfl) (okx_I h)
noncomputable def f_Ow_give (a0 : Nat) (x1 : Int32) (x2 : Int32) (x3 : Int32) (s : Sg) : Option (Unit × Sg) :=
  f_ck (zl_at s a0 0) <|
  f_ck (mR s a0 0 = some (a0 + 1)) <|
  f_ck (zl_ar s (a0 + 1) 10 3) <|
  f_ck (vp_in x1 3) <|
  let s5 : Sg := uI s (a0 + 1) (Int32.toNatClampNeg x1) x2
  f_ck (zl_at s5 a0 0) <|
  f_ck (mR s5 a0 1 = some (a0 + 2)) <|
  f_ck (zl_ar s5 (a0 + 2) 10 3) <|
  f_ck (vp_in x1 3) <|
  let s10 : Sg := uI s5 (a0 + 2) (Int32.toNatClampNeg x1) x3
  some ((), s10)
theorem w_Ow_give {a0 : Nat} {x1 : Int32} {x2 : Int32} {x3 : Int32} {s : Sg} {d : Nat} {Q : Option (Option Value) → Sg → Prop} (hd : 1 ≤ d) (h : okx (zq_V Q) (f_Ow_give a0 x1 x2 x3 s)) : Cw d M_Ow_give [.ref a0, .int x1, .int x2, .int x3] s Q := by
  refine Cw.of (by decide +kernel) (Nat.le_of_ble_eq_true rfl) ?_
  show Xw d M_Ow_give 0 0 0 [.ref a0, .int x1, .int x2, .int x3] [] s _
  unfold f_Ow_give at h
  refine xi_aload_n D_Ow_give_0 rfl ?_
  obtain ⟨g1, h⟩ := okx_ck h
  obtain ⟨g2, h⟩ := okx_ck h
  refine xi_getR D_Ow_give_1 F_Ow_9 (g1) ⟨rfl, by decide⟩ (g2) ?_
  refine xi_iload_n D_Ow_give_4 rfl ?_
  refine xi_iload_n D_Ow_give_5 rfl ?_
  obtain ⟨g3, h⟩ := okx_ck h
  obtain ⟨g4, h⟩ := okx_ck h
  refine xi_iast D_Ow_give_6 (g3) (g4) ?_
  refine xi_aload_n D_Ow_give_7 rfl ?_
  obtain ⟨g6, h⟩ := okx_ck h
  obtain ⟨g7, h⟩ := okx_ck h
  refine xi_getR D_Ow_give_8 F_Ow_15 (g6) ⟨rfl, by decide⟩ (g7) ?_
  refine xi_iload_n D_Ow_give_11 rfl ?_
  refine xi_iload_n D_Ow_give_12 rfl ?_
  obtain ⟨g8, h⟩ := okx_ck h
  obtain ⟨g9, h⟩ := okx_ck h
  refine xi_iast D_Ow_give_13 (g8) (g9) ?_
  exact xi_return D_Ow_give_14 rfl (okx_V h)
noncomputable def f_Ow_copyFrom_b2 (R2 : Nat → Int32 → Sg → Option (Unit × Sg)) (a0 : Nat) (x2 : Int32) (s : Sg) : Option (Unit × Sg) :=
  if 3 ≤ x2 then
    some ((), s)
  else
    f_ck (zl_B s) <|
    f_ck (vp_in x2 3) <|
    f_ck (vp_in x2 3) <|
    f_ck (zl_at s a0 0) <|
    f_bd (f_Ow_give a0 x2 (mI s 13 (Int32.toNatClampNeg x2)) (mI s 14 (Int32.toNatClampNeg x2)) s) fun r6 s7 =>
    R2 a0 (x2 + 1) s7
theorem w_Ow_copyFrom_b2 {a0 : Nat} {x2 : Int32} {s : Sg} {d : Nat} {Q : Option (Option Value) → Sg → Prop} (hd : 2 ≤ d) {R2 : Nat → Int32 → Sg → Option (Unit × Sg)} (hR2 : ∀ (a0 : Nat) (x2 : Int32) (s : Sg), okx (zq_V Q) (R2 a0 x2 s) → Xw d M_Ow_copyFrom 0 0 2 [.ref a0, .ref 7, .int x2] [] s Q) (h : okx (zq_V Q) (f_Ow_copyFrom_b2 R2 a0 x2 s)) : Xw d M_Ow_copyFrom 0 0 2 [.ref a0, .ref 7, .int x2] [] s Q := by
  unfold f_Ow_copyFrom_b2 at h
  refine xi_iload_n D_Ow_copyFrom_2 rfl ?_
  refine xj_iconst (v := 3) D_Ow_copyFrom_3 rfl ?_
  refine xi_icmp_ge D_Ow_copyFrom_4 (fun c1 => ?_) (fun c1 => ?_)
  · have h := okx_T c1 h
    exact xi_return D_Ow_copyFrom_30 rfl (okx_V h)
  · have h := okx_F c1 h
    refine xi_aload_n D_Ow_copyFrom_7 rfl ?_
    refine xi_iload_n D_Ow_copyFrom_8 rfl ?_
    refine xi_aload_n D_Ow_copyFrom_9 rfl ?_
    obtain ⟨g2, h⟩ := okx_ck h
    refine xi_getR D_Ow_copyFrom_10 F_Ow_30 (zl_fo (g2).1 rfl) ⟨rfl, by decide⟩ (zl_gr (g2).2 rfl rfl) ?_
    refine xi_iload_n D_Ow_copyFrom_13 rfl ?_
    obtain ⟨g3, h⟩ := okx_ck h
    refine xj_iald D_Ow_copyFrom_14 (zl_fx (g2).1 rfl) (zl_ib (n := 3) rfl (g3)) ?_
    refine xi_aload_n D_Ow_copyFrom_15 rfl ?_
    refine xi_getR D_Ow_copyFrom_16 F_Ow_33 (zl_fo (g2).1 rfl) ⟨rfl, by decide⟩ (zl_gr (g2).2 rfl rfl) ?_
    refine xi_iload_n D_Ow_copyFrom_19 rfl ?_
    obtain ⟨g4, h⟩ := okx_ck h
    refine xj_iald D_Ow_copyFrom_20 (zl_fx (g2).1 rfl) (zl_ib (n := 3) rfl (g4)) ?_
    obtain ⟨g5, h⟩ := okx_ck h
    refine xj_V3 D_Ow_copyFrom_21 L_Ow_34 C_Ow_give Z_Ow_give (g5) (Nat.le_of_ble_eq_true rfl) (Nat.le_of_eq (Nat.sub_add_cancel (by omega))) (w_Ow_give (by omega) (okx_mono (okx_bd h) ?_))
    intro r6 s7 h
    show Xw _ _ _ _ 24 _ [] _ _
    refine xi_iinc (v := _ + 1) (ls' := [_, _, _]) D_Ow_copyFrom_24 rfl rfl rfl (by decide) ?_
    refine xi_goto D_Ow_copyFrom_27 ?_
    exact hR2 _ _ _ h
noncomputable def f_Ow_copyFrom_h2 : Nat → Nat → Int32 → Sg → Option (Unit × Sg)
  | 0, _, _, _ => none
  | n + 1, a0, x2, s => f_Ow_copyFrom_b2 (f_Ow_copyFrom_h2 n) a0 x2 s
theorem w_Ow_copyFrom_h2 {d : Nat} {Q : Option (Option Value) → Sg → Prop} (hd : 2 ≤ d) : ∀ (n : Nat) (a0 : Nat) (x2 : Int32) (s : Sg), okx (zq_V Q) (f_Ow_copyFrom_h2 n a0 x2 s) → Xw d M_Ow_copyFrom 0 0 2 [.ref a0, .ref 7, .int x2] [] s Q := by
  intro n
  induction n with
  | zero => intro a0 x2 s h; exact okx_no h
  | succ n ih => intro a0 x2 s h; exact w_Ow_copyFrom_b2 hd  ih  h
noncomputable def f_Ow_copyFrom (a0 : Nat) (s : Sg) : Option (Unit × Sg) :=
  f_Ow_copyFrom_h2  zl_fl a0 0 s
theorem w_Ow_copyFrom {a0 : Nat} {s : Sg} {d : Nat} {Q : Option (Option Value) → Sg → Prop} (hd : 2 ≤ d) (h : okx (zq_V Q) (f_Ow_copyFrom a0 s)) : Cw d M_Ow_copyFrom [.ref a0, .ref 7] s Q := by
  refine Cw.of (by decide +kernel) (Nat.le_of_ble_eq_true rfl) ?_
  show Xw d M_Ow_copyFrom 0 0 0 [.ref a0, .ref 7, .retAddr 0] [] s _
  unfold f_Ow_copyFrom at h
  refine xj_iconst (v := 0) D_Ow_copyFrom_0 rfl ?_
  refine xi_istore_n (ls' := [_, _, _]) D_Ow_copyFrom_1 rfl (by decide) ?_
  exact w_Ow_copyFrom_h2 (by omega)  _ _ _ _ h
noncomputable def f_Ow_holds (x0 : Int32) (x1 : Int32) (x2 : Int32) (x3 : Int32) (s : Sg) : Option (Int32 × Sg) :=
  if x1 = 0 then
    if x0 = x3 then
      some (1, s)
    else
      some (0, s)
  else
    f_bd (f_In_bitCount (x0 &&& x1) s) fun r3 s4 =>
    if r3 < x2 then
      some (0, s4)
    else
      some (1, s4)
theorem w_Ow_holds {x0 : Int32} {x1 : Int32} {x2 : Int32} {x3 : Int32} {s : Sg} {d : Nat} {Q : Option (Option Value) → Sg → Prop} (hd : 2 ≤ d) (h : okx (zq_I Q) (f_Ow_holds x0 x1 x2 x3 s)) : Cw d M_Ow_holds [.int x0, .int x1, .int x2, .int x3] s Q := by
  refine Cw.of (by decide +kernel) (Nat.le_of_ble_eq_true rfl) ?_
  show Xw d M_Ow_holds 0 0 0 [.int x0, .int x1, .int x2, .int x3] [] s _
  unfold f_Ow_holds at h
  refine xi_iload_n D_Ow_holds_0 rfl ?_
  refine xi_if_ne D_Ow_holds_1 (fun c1 => ?_) (fun c1 => ?_)
  · have h := okx_F c1 h
    refine xi_iload_n D_Ow_holds_17 rfl ?_
    refine xi_iload_n D_Ow_holds_18 rfl ?_
    refine xi_iand D_Ow_holds_19 ?_
    refine xj_S1 D_Ow_holds_20 L_Ow_24 C_In_bitCount Z_In_bitCount (Nat.le_of_ble_eq_true rfl) (Nat.le_of_eq (Nat.sub_add_cancel (by omega))) (w_In_bitCount (by omega) (okx_mono (okx_bd h) ?_))
    intro r3 s4 h
    show Xw _ _ _ _ 23 _ [_] _ _
    refine xi_iload_n D_Ow_holds_23 rfl ?_
    refine xi_icmp_lt D_Ow_holds_24 (fun c5 => ?_) (fun c5 => ?_)
    · have h := okx_T c5 h
      refine xj_iconst (v := 0) D_Ow_holds_31 rfl ?_
      exact xi_ireturn D_Ow_holds_32 rfl (rfl) (okx_I h)
    · have h := okx_F c5 h
      refine xj_iconst (v := 1) D_Ow_holds_27 rfl ?_
      refine xi_goto D_Ow_holds_28 ?_
      exact xi_ireturn D_Ow_holds_32 rfl (rfl) (okx_I h)
  · have h := okx_T c1 h
    refine xi_iload_n D_Ow_holds_4 rfl ?_
    refine xi_iload_n D_Ow_holds_5 rfl ?_
    refine xi_icmp_ne D_Ow_holds_6 (fun c2 => ?_) (fun c2 => ?_)
    · have h := okx_F c2 h
      refine xj_iconst (v := 0) D_Ow_holds_13 rfl ?_
      refine xi_goto D_Ow_holds_14 ?_
      exact xi_ireturn D_Ow_holds_32 rfl (rfl) (okx_I h)
    · have h := okx_T c2 h
      refine xj_iconst (v := 1) D_Ow_holds_9 rfl ?_
      refine xi_goto D_Ow_holds_10 ?_
      exact xi_ireturn D_Ow_holds_32 rfl (rfl) (okx_I h)
noncomputable def f_To_all (a0 : Nat) (s : Sg) : Option (Int32 × Sg) :=
  f_ck (zl_at s a0 2) <|
  some ((((1 : Int32) <<< ((mI s a0 0) &&& 31)) - 1), s)
theorem w_To_all {a0 : Nat} {s : Sg} {d : Nat} {Q : Option (Option Value) → Sg → Prop} (hd : 1 ≤ d) (h : okx (zq_I Q) (f_To_all a0 s)) : Cw d M_To_all [.ref a0] s Q := by
  refine Cw.of (by decide +kernel) (Nat.le_of_ble_eq_true rfl) ?_
  show Xw d M_To_all 0 0 0 [.ref a0] [] s _
  unfold f_To_all at h
  refine xj_iconst (v := 1) D_To_all_0 rfl ?_
  refine xi_aload_n D_To_all_1 rfl ?_
  obtain ⟨g1, h⟩ := okx_ck h
  refine xi_getI D_To_all_2 F_To_42 (g1) ⟨rfl, by decide⟩ ?_
  refine xi_ishl D_To_all_5 ?_
  refine xj_iconst (v := 1) D_To_all_6 rfl ?_
  refine xi_isub D_To_all_7 ?_
  exact xi_ireturn D_To_all_8 rfl (rfl) (okx_I h)
noncomputable def f_Ow_settle_b163 (R7 : Nat → Int32 → Int32 → Sg → Option (Unit × Sg)) (R29 : Nat → Int32 → Int32 → Int32 → Sg → Option (Unit × Sg)) (a0 : Nat) (x2 : Int32) (x3 : Int32) (x4 : Int32) (s : Sg) : Option (Unit × Sg) :=
  R29 a0 x2 x3 (x4 + 1) s
theorem w_Ow_settle_b163 {a0 : Nat} {x2 : Int32} {x3 : Int32} {x4 : Int32} {s : Sg} {d : Nat} {Q : Option (Option Value) → Sg → Prop} (hd : 3 ≤ d) {R7 : Nat → Int32 → Int32 → Sg → Option (Unit × Sg)} {R29 : Nat → Int32 → Int32 → Int32 → Sg → Option (Unit × Sg)} (hR7 : ∀ (a0 : Nat) (x2 : Int32) (x3 : Int32) (s : Sg), okx (zq_V Q) (R7 a0 x2 x3 s) → Xw d M_Ow_settle 0 0 7 [.ref a0, .ref 7, .int x2, .int x3, .retAddr 0, .retAddr 0, .retAddr 0, .retAddr 0] [] s Q) (hR29 : ∀ (a0 : Nat) (x2 : Int32) (x3 : Int32) (x4 : Int32) (s : Sg), okx (zq_V Q) (R29 a0 x2 x3 x4 s) → Xw d M_Ow_settle 0 0 29 [.ref a0, .ref 7, .int x2, .int x3, .int x4, .retAddr 0, .retAddr 0, .retAddr 0] [] s Q) (h : okx (zq_V Q) (f_Ow_settle_b163 R7 R29 a0 x2 x3 x4 s)) : Xw d M_Ow_settle 0 0 163 [.ref a0, .ref 7, .int x2, .int x3, .int x4, .retAddr 0, .retAddr 0, .retAddr 0] [] s Q := by
  unfold f_Ow_settle_b163 at h
  refine xi_iinc (v := _ + 1) (ls' := [_, _, _, _, _, _, _, _]) D_Ow_settle_163 rfl rfl rfl (by decide) ?_
  refine xi_goto D_Ow_settle_166 ?_
  exact hR29 _ _ _ _ _ h
noncomputable def f_Ow_settle_b138 (R7 : Nat → Int32 → Int32 → Sg → Option (Unit × Sg)) (R29 : Nat → Int32 → Int32 → Int32 → Sg → Option (Unit × Sg)) (a0 : Nat) (x2 : Int32) (x3 : Int32) (x4 : Int32) (x6 : Int32) (x7 : Int32) (s : Sg) : Option (Unit × Sg) :=
  f_bd (f_Ow_holds x3 x6 x7 x2 s) fun r51 s52 =>
  if r51 = 0 then
    f_Ow_settle_b163 R7 R29 a0 x2 x3 x4 s52
  else
    f_ck (zl_at s52 a0 0) <|
    f_ck (mR s52 a0 3 = some (a0 + 4)) <|
    f_ck (zl_ar s52 (a0 + 4) 10 16) <|
    f_ck (vp_in x3 16) <|
    f_ck (zl_ar s52 (a0 + 4) 10 16) <|
    f_ck (vp_in x3 16) <|
    let s60 : Sg := uI s52 (a0 + 4) (Int32.toNatClampNeg x3) ((mI s52 (a0 + 4) (Int32.toNatClampNeg x3)) ||| ((1 : Int32) <<< (x4 &&& 31)))
    f_Ow_settle_b163 R7 R29 a0 x2 x3 x4 s60
theorem w_Ow_settle_b138 {a0 : Nat} {x2 : Int32} {x3 : Int32} {x4 : Int32} {x6 : Int32} {x7 : Int32} {s : Sg} {d : Nat} {Q : Option (Option Value) → Sg → Prop} (hd : 3 ≤ d) {R7 : Nat → Int32 → Int32 → Sg → Option (Unit × Sg)} {R29 : Nat → Int32 → Int32 → Int32 → Sg → Option (Unit × Sg)} (hR7 : ∀ (a0 : Nat) (x2 : Int32) (x3 : Int32) (s : Sg), okx (zq_V Q) (R7 a0 x2 x3 s) → Xw d M_Ow_settle 0 0 7 [.ref a0, .ref 7, .int x2, .int x3, .retAddr 0, .retAddr 0, .retAddr 0, .retAddr 0] [] s Q) (hR29 : ∀ (a0 : Nat) (x2 : Int32) (x3 : Int32) (x4 : Int32) (s : Sg), okx (zq_V Q) (R29 a0 x2 x3 x4 s) → Xw d M_Ow_settle 0 0 29 [.ref a0, .ref 7, .int x2, .int x3, .int x4, .retAddr 0, .retAddr 0, .retAddr 0] [] s Q) (h : okx (zq_V Q) (f_Ow_settle_b138 R7 R29 a0 x2 x3 x4 x6 x7 s)) : Xw d M_Ow_settle 0 0 138 [.ref a0, .ref 7, .int x2, .int x3, .int x4, .retAddr 0, .int x6, .int x7] [] s Q := by
  unfold f_Ow_settle_b138 at h
  refine xi_iload_n D_Ow_settle_138 rfl ?_
  refine xi_iload D_Ow_settle_139 rfl ?_
  refine xi_iload D_Ow_settle_141 rfl ?_
  refine xi_iload_n D_Ow_settle_143 rfl ?_
  refine xj_S4 D_Ow_settle_144 L_Ow_52 C_Ow_holds Z_Ow_holds (Nat.le_of_ble_eq_true rfl) (Nat.le_of_eq (Nat.sub_add_cancel (by omega))) (w_Ow_holds (by omega) (okx_mono (okx_bd h) ?_))
  intro r51 s52 h
  show Xw _ _ _ _ 147 _ [_] _ _
  refine xi_if_eq D_Ow_settle_147 (fun c53 => ?_) (fun c53 => ?_)
  · have h := okx_T c53 h
    exact xk_wk (w_Ow_settle_b163 (by omega) hR7 hR29 h) ⟨Or.inl rfl, Or.inl rfl, Or.inl rfl, Or.inl rfl, Or.inl rfl, Or.inl rfl, Or.inr rfl, Or.inr rfl, trivial⟩
  · have h := okx_F c53 h
    refine xi_aload_n D_Ow_settle_150 rfl ?_
    obtain ⟨g54, h⟩ := okx_ck h
    obtain ⟨g55, h⟩ := okx_ck h
    refine xi_getR D_Ow_settle_151 F_Ow_21 (g54) ⟨rfl, by decide⟩ (g55) ?_
    refine xi_iload_n D_Ow_settle_154 rfl ?_
    refine xi_dup2 D_Ow_settle_155 ?_
    obtain ⟨g56, h⟩ := okx_ck h
    obtain ⟨g57, h⟩ := okx_ck h
    refine xi_iald D_Ow_settle_156 (g56) (g57) ?_
    refine xj_iconst (v := 1) D_Ow_settle_157 rfl ?_
    refine xi_iload D_Ow_settle_158 rfl ?_
    refine xi_ishl D_Ow_settle_160 ?_
    refine xi_ior D_Ow_settle_161 ?_
    obtain ⟨g58, h⟩ := okx_ck h
    obtain ⟨g59, h⟩ := okx_ck h
    refine xi_iast D_Ow_settle_162 (g58) (g59) ?_
    exact xk_wk (w_Ow_settle_b163 (by omega) hR7 hR29 h) ⟨Or.inl rfl, Or.inl rfl, Or.inl rfl, Or.inl rfl, Or.inl rfl, Or.inl rfl, Or.inr rfl, Or.inr rfl, trivial⟩
noncomputable def f_Ow_settle_b101 (R7 : Nat → Int32 → Int32 → Sg → Option (Unit × Sg)) (R29 : Nat → Int32 → Int32 → Int32 → Sg → Option (Unit × Sg)) (a0 : Nat) (x2 : Int32) (x3 : Int32) (x4 : Int32) (x6 : Int32) (y0 : Int32) (s : Sg) : Option (Unit × Sg) :=
  f_ck (zl_at s a0 0) <|
  f_ck (mR s a0 0 = some (a0 + 1)) <|
  f_ck (zl_ar s (a0 + 1) 10 3) <|
  f_ck (vp_in x4 3) <|
  f_ck (zl_at s a0 0) <|
  f_ck (mR s a0 1 = some (a0 + 2)) <|
  f_ck (zl_ar s (a0 + 2) 10 3) <|
  f_ck (vp_in x4 3) <|
  f_bd (f_Ow_holds x3 (mI s (a0 + 1) (Int32.toNatClampNeg x4)) (mI s (a0 + 2) (Int32.toNatClampNeg x4)) x2 s) fun r41 s42 =>
  if r41 = 0 then
    f_Ow_settle_b138 R7 R29 a0 x2 x3 x4 x6 y0 s42
  else
    f_ck (zl_at s42 a0 0) <|
    f_ck (mR s42 a0 2 = some (a0 + 3)) <|
    f_ck (zl_ar s42 (a0 + 3) 10 16) <|
    f_ck (vp_in x3 16) <|
    f_ck (zl_ar s42 (a0 + 3) 10 16) <|
    f_ck (vp_in x3 16) <|
    let s50 : Sg := uI s42 (a0 + 3) (Int32.toNatClampNeg x3) ((mI s42 (a0 + 3) (Int32.toNatClampNeg x3)) ||| ((1 : Int32) <<< (x4 &&& 31)))
    f_Ow_settle_b138 R7 R29 a0 x2 x3 x4 x6 y0 s50
theorem w_Ow_settle_b101 {a0 : Nat} {x2 : Int32} {x3 : Int32} {x4 : Int32} {x6 : Int32} {y0 : Int32} {s : Sg} {d : Nat} {Q : Option (Option Value) → Sg → Prop} (hd : 3 ≤ d) {R7 : Nat → Int32 → Int32 → Sg → Option (Unit × Sg)} {R29 : Nat → Int32 → Int32 → Int32 → Sg → Option (Unit × Sg)} (hR7 : ∀ (a0 : Nat) (x2 : Int32) (x3 : Int32) (s : Sg), okx (zq_V Q) (R7 a0 x2 x3 s) → Xw d M_Ow_settle 0 0 7 [.ref a0, .ref 7, .int x2, .int x3, .retAddr 0, .retAddr 0, .retAddr 0, .retAddr 0] [] s Q) (hR29 : ∀ (a0 : Nat) (x2 : Int32) (x3 : Int32) (x4 : Int32) (s : Sg), okx (zq_V Q) (R29 a0 x2 x3 x4 s) → Xw d M_Ow_settle 0 0 29 [.ref a0, .ref 7, .int x2, .int x3, .int x4, .retAddr 0, .retAddr 0, .retAddr 0] [] s Q) (h : okx (zq_V Q) (f_Ow_settle_b101 R7 R29 a0 x2 x3 x4 x6 y0 s)) : Xw d M_Ow_settle 0 0 101 [.ref a0, .ref 7, .int x2, .int x3, .int x4, .retAddr 0, .int x6, .retAddr 0] [.int y0] s Q := by
  unfold f_Ow_settle_b101 at h
  refine xi_istore (ls' := [_, _, _, _, _, _, _, _]) D_Ow_settle_101 rfl (by decide) ?_
  refine xi_iload_n D_Ow_settle_103 rfl ?_
  refine xi_aload_n D_Ow_settle_104 rfl ?_
  obtain ⟨g33, h⟩ := okx_ck h
  obtain ⟨g34, h⟩ := okx_ck h
  refine xi_getR D_Ow_settle_105 F_Ow_9 (g33) ⟨rfl, by decide⟩ (g34) ?_
  refine xi_iload D_Ow_settle_108 rfl ?_
  obtain ⟨g35, h⟩ := okx_ck h
  obtain ⟨g36, h⟩ := okx_ck h
  refine xi_iald D_Ow_settle_110 (g35) (g36) ?_
  refine xi_aload_n D_Ow_settle_111 rfl ?_
  obtain ⟨g37, h⟩ := okx_ck h
  obtain ⟨g38, h⟩ := okx_ck h
  refine xi_getR D_Ow_settle_112 F_Ow_15 (g37) ⟨rfl, by decide⟩ (g38) ?_
  refine xi_iload D_Ow_settle_115 rfl ?_
  obtain ⟨g39, h⟩ := okx_ck h
  obtain ⟨g40, h⟩ := okx_ck h
  refine xi_iald D_Ow_settle_117 (g39) (g40) ?_
  refine xi_iload_n D_Ow_settle_118 rfl ?_
  refine xj_S4 D_Ow_settle_119 L_Ow_52 C_Ow_holds Z_Ow_holds (Nat.le_of_ble_eq_true rfl) (Nat.le_of_eq (Nat.sub_add_cancel (by omega))) (w_Ow_holds (by omega) (okx_mono (okx_bd h) ?_))
  intro r41 s42 h
  show Xw _ _ _ _ 122 _ [_] _ _
  refine xi_if_eq D_Ow_settle_122 (fun c43 => ?_) (fun c43 => ?_)
  · have h := okx_T c43 h
    exact w_Ow_settle_b138 (by omega) hR7 hR29 h
  · have h := okx_F c43 h
    refine xi_aload_n D_Ow_settle_125 rfl ?_
    obtain ⟨g44, h⟩ := okx_ck h
    obtain ⟨g45, h⟩ := okx_ck h
    refine xi_getR D_Ow_settle_126 F_Ow_18 (g44) ⟨rfl, by decide⟩ (g45) ?_
    refine xi_iload_n D_Ow_settle_129 rfl ?_
    refine xi_dup2 D_Ow_settle_130 ?_
    obtain ⟨g46, h⟩ := okx_ck h
    obtain ⟨g47, h⟩ := okx_ck h
    refine xi_iald D_Ow_settle_131 (g46) (g47) ?_
    refine xj_iconst (v := 1) D_Ow_settle_132 rfl ?_
    refine xi_iload D_Ow_settle_133 rfl ?_
    refine xi_ishl D_Ow_settle_135 ?_
    refine xi_ior D_Ow_settle_136 ?_
    obtain ⟨g48, h⟩ := okx_ck h
    obtain ⟨g49, h⟩ := okx_ck h
    refine xi_iast D_Ow_settle_137 (g48) (g49) ?_
    exact w_Ow_settle_b138 (by omega) hR7 hR29 h
noncomputable def f_Ow_settle_b77 (R7 : Nat → Int32 → Int32 → Sg → Option (Unit × Sg)) (R29 : Nat → Int32 → Int32 → Int32 → Sg → Option (Unit × Sg)) (a0 : Nat) (x2 : Int32) (x3 : Int32) (x4 : Int32) (x5 : Int32) (y0 : Int32) (s : Sg) : Option (Unit × Sg) :=
  if x5 = 0 then
    f_ck (zl_B s) <|
    f_ck (vp_in x4 3) <|
    f_Ow_settle_b101 R7 R29 a0 x2 x3 x4 y0 (mI s 16 (Int32.toNatClampNeg x4)) s
  else
    f_ck (zl_at s a0 0) <|
    f_ck (mR s a0 1 = some (a0 + 2)) <|
    f_ck (zl_ar s (a0 + 2) 10 3) <|
    f_ck (vp_in x4 3) <|
    f_Ow_settle_b101 R7 R29 a0 x2 x3 x4 y0 (mI s (a0 + 2) (Int32.toNatClampNeg x4)) s
theorem w_Ow_settle_b77 {a0 : Nat} {x2 : Int32} {x3 : Int32} {x4 : Int32} {x5 : Int32} {y0 : Int32} {s : Sg} {d : Nat} {Q : Option (Option Value) → Sg → Prop} (hd : 3 ≤ d) {R7 : Nat → Int32 → Int32 → Sg → Option (Unit × Sg)} {R29 : Nat → Int32 → Int32 → Int32 → Sg → Option (Unit × Sg)} (hR7 : ∀ (a0 : Nat) (x2 : Int32) (x3 : Int32) (s : Sg), okx (zq_V Q) (R7 a0 x2 x3 s) → Xw d M_Ow_settle 0 0 7 [.ref a0, .ref 7, .int x2, .int x3, .retAddr 0, .retAddr 0, .retAddr 0, .retAddr 0] [] s Q) (hR29 : ∀ (a0 : Nat) (x2 : Int32) (x3 : Int32) (x4 : Int32) (s : Sg), okx (zq_V Q) (R29 a0 x2 x3 x4 s) → Xw d M_Ow_settle 0 0 29 [.ref a0, .ref 7, .int x2, .int x3, .int x4, .retAddr 0, .retAddr 0, .retAddr 0] [] s Q) (h : okx (zq_V Q) (f_Ow_settle_b77 R7 R29 a0 x2 x3 x4 x5 y0 s)) : Xw d M_Ow_settle 0 0 77 [.ref a0, .ref 7, .int x2, .int x3, .int x4, .int x5, .retAddr 0, .retAddr 0] [.int y0] s Q := by
  unfold f_Ow_settle_b77 at h
  refine xi_istore (ls' := [_, _, _, _, _, _, _, _]) D_Ow_settle_77 rfl (by decide) ?_
  refine xi_iload D_Ow_settle_79 rfl ?_
  refine xi_if_eq D_Ow_settle_81 (fun c26 => ?_) (fun c26 => ?_)
  · have h := okx_T c26 h
    refine xi_aload_n D_Ow_settle_94 rfl ?_
    obtain ⟨g27, h⟩ := okx_ck h
    refine xi_getR D_Ow_settle_95 F_Ow_46 (zl_fo (g27).1 rfl) ⟨rfl, by decide⟩ (zl_gr (g27).2 rfl rfl) ?_
    refine xi_iload D_Ow_settle_98 rfl ?_
    obtain ⟨g28, h⟩ := okx_ck h
    refine xj_iald D_Ow_settle_100 (zl_fx (g27).1 rfl) (zl_ib (n := 3) rfl (g28)) ?_
    exact xk_wk (w_Ow_settle_b101 (by omega) hR7 hR29 h) ⟨Or.inl rfl, Or.inl rfl, Or.inl rfl, Or.inl rfl, Or.inl rfl, Or.inr rfl, Or.inl rfl, Or.inl rfl, trivial⟩
  · have h := okx_F c26 h
    refine xi_aload_n D_Ow_settle_84 rfl ?_
    obtain ⟨g29, h⟩ := okx_ck h
    obtain ⟨g30, h⟩ := okx_ck h
    refine xi_getR D_Ow_settle_85 F_Ow_15 (g29) ⟨rfl, by decide⟩ (g30) ?_
    refine xi_iload D_Ow_settle_88 rfl ?_
    obtain ⟨g31, h⟩ := okx_ck h
    obtain ⟨g32, h⟩ := okx_ck h
    refine xi_iald D_Ow_settle_90 (g31) (g32) ?_
    refine xi_goto D_Ow_settle_91 ?_
    exact xk_wk (w_Ow_settle_b101 (by omega) hR7 hR29 h) ⟨Or.inl rfl, Or.inl rfl, Or.inl rfl, Or.inl rfl, Or.inl rfl, Or.inr rfl, Or.inl rfl, Or.inl rfl, trivial⟩
noncomputable def f_Ow_settle_b53 (R7 : Nat → Int32 → Int32 → Sg → Option (Unit × Sg)) (R29 : Nat → Int32 → Int32 → Int32 → Sg → Option (Unit × Sg)) (a0 : Nat) (x2 : Int32) (x3 : Int32) (x4 : Int32) (y0 : Int32) (s : Sg) : Option (Unit × Sg) :=
  if y0 = 0 then
    f_ck (zl_B s) <|
    f_ck (vp_in x4 3) <|
    f_Ow_settle_b77 R7 R29 a0 x2 x3 x4 y0 (mI s 15 (Int32.toNatClampNeg x4)) s
  else
    f_ck (zl_at s a0 0) <|
    f_ck (mR s a0 0 = some (a0 + 1)) <|
    f_ck (zl_ar s (a0 + 1) 10 3) <|
    f_ck (vp_in x4 3) <|
    f_Ow_settle_b77 R7 R29 a0 x2 x3 x4 y0 (mI s (a0 + 1) (Int32.toNatClampNeg x4)) s
theorem w_Ow_settle_b53 {a0 : Nat} {x2 : Int32} {x3 : Int32} {x4 : Int32} {y0 : Int32} {s : Sg} {d : Nat} {Q : Option (Option Value) → Sg → Prop} (hd : 3 ≤ d) {R7 : Nat → Int32 → Int32 → Sg → Option (Unit × Sg)} {R29 : Nat → Int32 → Int32 → Int32 → Sg → Option (Unit × Sg)} (hR7 : ∀ (a0 : Nat) (x2 : Int32) (x3 : Int32) (s : Sg), okx (zq_V Q) (R7 a0 x2 x3 s) → Xw d M_Ow_settle 0 0 7 [.ref a0, .ref 7, .int x2, .int x3, .retAddr 0, .retAddr 0, .retAddr 0, .retAddr 0] [] s Q) (hR29 : ∀ (a0 : Nat) (x2 : Int32) (x3 : Int32) (x4 : Int32) (s : Sg), okx (zq_V Q) (R29 a0 x2 x3 x4 s) → Xw d M_Ow_settle 0 0 29 [.ref a0, .ref 7, .int x2, .int x3, .int x4, .retAddr 0, .retAddr 0, .retAddr 0] [] s Q) (h : okx (zq_V Q) (f_Ow_settle_b53 R7 R29 a0 x2 x3 x4 y0 s)) : Xw d M_Ow_settle 0 0 53 [.ref a0, .ref 7, .int x2, .int x3, .int x4, .retAddr 0, .retAddr 0, .retAddr 0] [.int y0] s Q := by
  unfold f_Ow_settle_b53 at h
  refine xi_istore (ls' := [_, _, _, _, _, _, _, _]) D_Ow_settle_53 rfl (by decide) ?_
  refine xi_iload D_Ow_settle_55 rfl ?_
  refine xi_if_eq D_Ow_settle_57 (fun c19 => ?_) (fun c19 => ?_)
  · have h := okx_T c19 h
    refine xi_aload_n D_Ow_settle_70 rfl ?_
    obtain ⟨g20, h⟩ := okx_ck h
    refine xi_getR D_Ow_settle_71 F_Ow_49 (zl_fo (g20).1 rfl) ⟨rfl, by decide⟩ (zl_gr (g20).2 rfl rfl) ?_
    refine xi_iload D_Ow_settle_74 rfl ?_
    obtain ⟨g21, h⟩ := okx_ck h
    refine xj_iald D_Ow_settle_76 (zl_fx (g20).1 rfl) (zl_ib (n := 3) rfl (g21)) ?_
    exact w_Ow_settle_b77 (by omega) hR7 hR29 h
  · have h := okx_F c19 h
    refine xi_aload_n D_Ow_settle_60 rfl ?_
    obtain ⟨g22, h⟩ := okx_ck h
    obtain ⟨g23, h⟩ := okx_ck h
    refine xi_getR D_Ow_settle_61 F_Ow_9 (g22) ⟨rfl, by decide⟩ (g23) ?_
    refine xi_iload D_Ow_settle_64 rfl ?_
    obtain ⟨g24, h⟩ := okx_ck h
    obtain ⟨g25, h⟩ := okx_ck h
    refine xi_iald D_Ow_settle_66 (g24) (g25) ?_
    refine xi_goto D_Ow_settle_67 ?_
    exact w_Ow_settle_b77 (by omega) hR7 hR29 h
noncomputable def f_Ow_settle_b169 (R7 : Nat → Int32 → Int32 → Sg → Option (Unit × Sg)) (a0 : Nat) (x2 : Int32) (x3 : Int32) (s : Sg) : Option (Unit × Sg) :=
  R7 a0 x2 (x3 + 1) s
theorem w_Ow_settle_b169 {a0 : Nat} {x2 : Int32} {x3 : Int32} {s : Sg} {d : Nat} {Q : Option (Option Value) → Sg → Prop} (hd : 3 ≤ d) {R7 : Nat → Int32 → Int32 → Sg → Option (Unit × Sg)} (hR7 : ∀ (a0 : Nat) (x2 : Int32) (x3 : Int32) (s : Sg), okx (zq_V Q) (R7 a0 x2 x3 s) → Xw d M_Ow_settle 0 0 7 [.ref a0, .ref 7, .int x2, .int x3, .retAddr 0, .retAddr 0, .retAddr 0, .retAddr 0] [] s Q) (h : okx (zq_V Q) (f_Ow_settle_b169 R7 a0 x2 x3 s)) : Xw d M_Ow_settle 0 0 169 [.ref a0, .ref 7, .int x2, .int x3, .retAddr 0, .retAddr 0, .retAddr 0, .retAddr 0] [] s Q := by
  unfold f_Ow_settle_b169 at h
  refine xi_iinc (v := _ + 1) (ls' := [_, _, _, _, _, _, _, _]) D_Ow_settle_169 rfl rfl rfl (by decide) ?_
  refine xi_goto D_Ow_settle_172 ?_
  exact hR7 _ _ _ _ h
noncomputable def f_Ow_settle_b29 (R7 : Nat → Int32 → Int32 → Sg → Option (Unit × Sg)) (R29 : Nat → Int32 → Int32 → Int32 → Sg → Option (Unit × Sg)) (a0 : Nat) (x2 : Int32) (x3 : Int32) (x4 : Int32) (s : Sg) : Option (Unit × Sg) :=
  f_ck (zl_B s) <|
  if (mI s 7 1) ≤ x4 then
    f_Ow_settle_b169 R7 a0 x2 x3 s
  else
    f_ck (vp_in x4 3) <|
    if (mI s 16 (Int32.toNatClampNeg x4)) = 0 then
      f_Ow_settle_b53 R7 R29 a0 x2 x3 x4 1 s
    else
      f_Ow_settle_b53 R7 R29 a0 x2 x3 x4 0 s
theorem w_Ow_settle_b29 {a0 : Nat} {x2 : Int32} {x3 : Int32} {x4 : Int32} {s : Sg} {d : Nat} {Q : Option (Option Value) → Sg → Prop} (hd : 3 ≤ d) {R7 : Nat → Int32 → Int32 → Sg → Option (Unit × Sg)} {R29 : Nat → Int32 → Int32 → Int32 → Sg → Option (Unit × Sg)} (hR7 : ∀ (a0 : Nat) (x2 : Int32) (x3 : Int32) (s : Sg), okx (zq_V Q) (R7 a0 x2 x3 s) → Xw d M_Ow_settle 0 0 7 [.ref a0, .ref 7, .int x2, .int x3, .retAddr 0, .retAddr 0, .retAddr 0, .retAddr 0] [] s Q) (hR29 : ∀ (a0 : Nat) (x2 : Int32) (x3 : Int32) (x4 : Int32) (s : Sg), okx (zq_V Q) (R29 a0 x2 x3 x4 s) → Xw d M_Ow_settle 0 0 29 [.ref a0, .ref 7, .int x2, .int x3, .int x4, .retAddr 0, .retAddr 0, .retAddr 0] [] s Q) (h : okx (zq_V Q) (f_Ow_settle_b29 R7 R29 a0 x2 x3 x4 s)) : Xw d M_Ow_settle 0 0 29 [.ref a0, .ref 7, .int x2, .int x3, .int x4, .retAddr 0, .retAddr 0, .retAddr 0] [] s Q := by
  unfold f_Ow_settle_b29 at h
  refine xi_iload D_Ow_settle_29 rfl ?_
  refine xi_aload_n D_Ow_settle_31 rfl ?_
  obtain ⟨g15, h⟩ := okx_ck h
  refine xi_getI D_Ow_settle_32 F_Ow_42 (zl_fo (g15).1 rfl) ⟨rfl, by decide⟩ ?_
  refine xi_icmp_ge D_Ow_settle_35 (fun c16 => ?_) (fun c16 => ?_)
  · have h := okx_T c16 h
    exact xk_wk (w_Ow_settle_b169 (by omega) hR7 h) ⟨Or.inl rfl, Or.inl rfl, Or.inl rfl, Or.inl rfl, Or.inr rfl, Or.inl rfl, Or.inl rfl, Or.inl rfl, trivial⟩
  · have h := okx_F c16 h
    refine xi_aload_n D_Ow_settle_38 rfl ?_
    refine xi_getR D_Ow_settle_39 F_Ow_46 (zl_fo (g15).1 rfl) ⟨rfl, by decide⟩ (zl_gr (g15).2 rfl rfl) ?_
    refine xi_iload D_Ow_settle_42 rfl ?_
    obtain ⟨g17, h⟩ := okx_ck h
    refine xj_iald D_Ow_settle_44 (zl_fx (g15).1 rfl) (zl_ib (n := 3) rfl (g17)) ?_
    refine xi_if_ne D_Ow_settle_45 (fun c18 => ?_) (fun c18 => ?_)
    · have h := okx_F c18 h
      refine xj_iconst (v := 0) D_Ow_settle_52 rfl ?_
      exact w_Ow_settle_b53 (by omega) hR7 hR29 h
    · have h := okx_T c18 h
      refine xj_iconst (v := 1) D_Ow_settle_48 rfl ?_
      refine xi_goto D_Ow_settle_49 ?_
      exact w_Ow_settle_b53 (by omega) hR7 hR29 h
noncomputable def f_Ow_settle_h29 (R7 : Nat → Int32 → Int32 → Sg → Option (Unit × Sg)) : Nat → Nat → Int32 → Int32 → Int32 → Sg → Option (Unit × Sg)
  | 0, _, _, _, _, _ => none
  | n + 1, a0, x2, x3, x4, s => f_Ow_settle_b29 R7 (f_Ow_settle_h29 R7 n) a0 x2 x3 x4 s
theorem w_Ow_settle_h29 {d : Nat} {Q : Option (Option Value) → Sg → Prop} (hd : 3 ≤ d) {R7 : Nat → Int32 → Int32 → Sg → Option (Unit × Sg)} (hR7 : ∀ (a0 : Nat) (x2 : Int32) (x3 : Int32) (s : Sg), okx (zq_V Q) (R7 a0 x2 x3 s) → Xw d M_Ow_settle 0 0 7 [.ref a0, .ref 7, .int x2, .int x3, .retAddr 0, .retAddr 0, .retAddr 0, .retAddr 0] [] s Q) : ∀ (n : Nat) (a0 : Nat) (x2 : Int32) (x3 : Int32) (x4 : Int32) (s : Sg), okx (zq_V Q) (f_Ow_settle_h29 R7 n a0 x2 x3 x4 s) → Xw d M_Ow_settle 0 0 29 [.ref a0, .ref 7, .int x2, .int x3, .int x4, .retAddr 0, .retAddr 0, .retAddr 0] [] s Q := by
  intro n
  induction n with
  | zero => intro a0 x2 x3 x4 s h; exact okx_no h
  | succ n ih => intro a0 x2 x3 x4 s h; exact w_Ow_settle_b29 hd hR7 ih  h
noncomputable def f_Ow_settle_b7 (R7 : Nat → Int32 → Int32 → Sg → Option (Unit × Sg)) (a0 : Nat) (x2 : Int32) (x3 : Int32) (s : Sg) : Option (Unit × Sg) :=
  if x2 < x3 then
    some ((), s)
  else
    f_ck (zl_at s a0 0) <|
    f_ck (mR s a0 2 = some (a0 + 3)) <|
    f_ck (zl_ar s (a0 + 3) 10 16) <|
    f_ck (vp_in x3 16) <|
    let s9 : Sg := uI s (a0 + 3) (Int32.toNatClampNeg x3) 0
    f_ck (zl_at s9 a0 0) <|
    f_ck (mR s9 a0 3 = some (a0 + 4)) <|
    f_ck (zl_ar s9 (a0 + 4) 10 16) <|
    f_ck (vp_in x3 16) <|
    let s14 : Sg := uI s9 (a0 + 4) (Int32.toNatClampNeg x3) 0
    f_Ow_settle_h29 R7 zl_fl a0 x2 x3 0 s14
theorem w_Ow_settle_b7 {a0 : Nat} {x2 : Int32} {x3 : Int32} {s : Sg} {d : Nat} {Q : Option (Option Value) → Sg → Prop} (hd : 3 ≤ d) {R7 : Nat → Int32 → Int32 → Sg → Option (Unit × Sg)} (hR7 : ∀ (a0 : Nat) (x2 : Int32) (x3 : Int32) (s : Sg), okx (zq_V Q) (R7 a0 x2 x3 s) → Xw d M_Ow_settle 0 0 7 [.ref a0, .ref 7, .int x2, .int x3, .retAddr 0, .retAddr 0, .retAddr 0, .retAddr 0] [] s Q) (h : okx (zq_V Q) (f_Ow_settle_b7 R7 a0 x2 x3 s)) : Xw d M_Ow_settle 0 0 7 [.ref a0, .ref 7, .int x2, .int x3, .retAddr 0, .retAddr 0, .retAddr 0, .retAddr 0] [] s Q := by
  unfold f_Ow_settle_b7 at h
  refine xi_iload_n D_Ow_settle_7 rfl ?_
  refine xi_iload_n D_Ow_settle_8 rfl ?_
  refine xi_icmp_gt D_Ow_settle_9 (fun c4 => ?_) (fun c4 => ?_)
  · have h := okx_T c4 h
    exact xi_return D_Ow_settle_175 rfl (okx_V h)
  · have h := okx_F c4 h
    refine xi_aload_n D_Ow_settle_12 rfl ?_
    obtain ⟨g5, h⟩ := okx_ck h
    obtain ⟨g6, h⟩ := okx_ck h
    refine xi_getR D_Ow_settle_13 F_Ow_18 (g5) ⟨rfl, by decide⟩ (g6) ?_
    refine xi_iload_n D_Ow_settle_16 rfl ?_
    refine xj_iconst (v := 0) D_Ow_settle_17 rfl ?_
    obtain ⟨g7, h⟩ := okx_ck h
    obtain ⟨g8, h⟩ := okx_ck h
    refine xi_iast D_Ow_settle_18 (g7) (g8) ?_
    refine xi_aload_n D_Ow_settle_19 rfl ?_
    obtain ⟨g10, h⟩ := okx_ck h
    obtain ⟨g11, h⟩ := okx_ck h
    refine xi_getR D_Ow_settle_20 F_Ow_21 (g10) ⟨rfl, by decide⟩ (g11) ?_
    refine xi_iload_n D_Ow_settle_23 rfl ?_
    refine xj_iconst (v := 0) D_Ow_settle_24 rfl ?_
    obtain ⟨g12, h⟩ := okx_ck h
    obtain ⟨g13, h⟩ := okx_ck h
    refine xi_iast D_Ow_settle_25 (g12) (g13) ?_
    refine xj_iconst (v := 0) D_Ow_settle_26 rfl ?_
    refine xi_istore (ls' := [_, _, _, _, _, _, _, _]) D_Ow_settle_27 rfl (by decide) ?_
    exact w_Ow_settle_h29 (by omega) hR7 _ _ _ _ _ _ h
noncomputable def f_Ow_settle_h7 : Nat → Nat → Int32 → Int32 → Sg → Option (Unit × Sg)
  | 0, _, _, _, _ => none
  | n + 1, a0, x2, x3, s => f_Ow_settle_b7 (f_Ow_settle_h7 n) a0 x2 x3 s
theorem w_Ow_settle_h7 {d : Nat} {Q : Option (Option Value) → Sg → Prop} (hd : 3 ≤ d) : ∀ (n : Nat) (a0 : Nat) (x2 : Int32) (x3 : Int32) (s : Sg), okx (zq_V Q) (f_Ow_settle_h7 n a0 x2 x3 s) → Xw d M_Ow_settle 0 0 7 [.ref a0, .ref 7, .int x2, .int x3, .retAddr 0, .retAddr 0, .retAddr 0, .retAddr 0] [] s Q := by
  intro n
  induction n with
  | zero => intro a0 x2 x3 s h; exact okx_no h
  | succ n ih => intro a0 x2 x3 s h; exact w_Ow_settle_b7 hd  ih  h
noncomputable def f_Ow_settle (a0 : Nat) (s : Sg) : Option (Unit × Sg) :=
  f_ck (zl_B s) <|
  f_bd (f_To_all 7 s) fun r2 s3 =>
  f_Ow_settle_h7  zl_fl a0 r2 0 s3
theorem w_Ow_settle {a0 : Nat} {s : Sg} {d : Nat} {Q : Option (Option Value) → Sg → Prop} (hd : 3 ≤ d) (h : okx (zq_V Q) (f_Ow_settle a0 s)) : Cw d M_Ow_settle [.ref a0, .ref 7] s Q := by
  refine Cw.of (by decide +kernel) (Nat.le_of_ble_eq_true rfl) ?_
  show Xw d M_Ow_settle 0 0 0 [.ref a0, .ref 7, .retAddr 0, .retAddr 0, .retAddr 0, .retAddr 0, .retAddr 0, .retAddr 0] [] s _
  unfold f_Ow_settle at h
  refine xi_aload_n D_Ow_settle_0 rfl ?_
  obtain ⟨g1, h⟩ := okx_ck h
  refine xj_V0 D_Ow_settle_1 L_Ow_38 C_To_all Z_To_all (zl_fo (g1).1 rfl) (Nat.le_of_ble_eq_true rfl) (Nat.le_of_eq (Nat.sub_add_cancel (by omega))) (w_To_all (by omega) (okx_mono (okx_bd h) ?_))
  intro r2 s3 h
  show Xw _ _ _ _ 4 _ [_] _ _
  refine xi_istore_n (ls' := [_, _, _, _, _, _, _, _]) D_Ow_settle_4 rfl (by decide) ?_
  refine xj_iconst (v := 0) D_Ow_settle_5 rfl ?_
  refine xi_istore_n (ls' := [_, _, _, _, _, _, _, _]) D_Ow_settle_6 rfl (by decide) ?_
  exact w_Ow_settle_h7 (by omega)  _ _ _ _ _ h
noncomputable def f_To_clear_b32 (R32 : Nat → Int32 → Sg → Option (Unit × Sg)) (a0 : Nat) (x1 : Int32) (s : Sg) : Option (Unit × Sg) :=
  if 3 ≤ x1 then
    some ((), s)
  else
    f_ck (zl_at s a0 2) <|
    f_ck (mR s a0 11 = some (a0 + 6)) <|
    f_ck (zl_ar s (a0 + 6) 10 3) <|
    f_ck (vp_in x1 3) <|
    let s18 : Sg := uI s (a0 + 6) (Int32.toNatClampNeg x1) 0
    f_ck (zl_at s18 a0 2) <|
    f_ck (mR s18 a0 12 = some (a0 + 7)) <|
    f_ck (zl_ar s18 (a0 + 7) 10 3) <|
    f_ck (vp_in x1 3) <|
    let s23 : Sg := uI s18 (a0 + 7) (Int32.toNatClampNeg x1) 1
    f_ck (zl_at s23 a0 2) <|
    f_ck (mR s23 a0 13 = some (a0 + 8)) <|
    f_ck (zl_ar s23 (a0 + 8) 10 3) <|
    f_ck (vp_in x1 3) <|
    let s28 : Sg := uI s23 (a0 + 8) (Int32.toNatClampNeg x1) 0
    f_ck (zl_at s28 a0 2) <|
    f_ck (mR s28 a0 14 = some (a0 + 9)) <|
    f_ck (zl_ar s28 (a0 + 9) 10 3) <|
    f_ck (vp_in x1 3) <|
    let s33 : Sg := uI s28 (a0 + 9) (Int32.toNatClampNeg x1) 0
    R32 a0 (x1 + 1) s33
theorem w_To_clear_b32 {a0 : Nat} {x1 : Int32} {s : Sg} {d : Nat} {Q : Option (Option Value) → Sg → Prop} (hd : 1 ≤ d) {R32 : Nat → Int32 → Sg → Option (Unit × Sg)} (hR32 : ∀ (a0 : Nat) (x1 : Int32) (s : Sg), okx (zq_V Q) (R32 a0 x1 s) → Xw d M_To_clear 0 0 32 [.ref a0, .int x1] [] s Q) (h : okx (zq_V Q) (f_To_clear_b32 R32 a0 x1 s)) : Xw d M_To_clear 0 0 32 [.ref a0, .int x1] [] s Q := by
  unfold f_To_clear_b32 at h
  refine xi_iload_n D_To_clear_32 rfl ?_
  refine xj_iconst (v := 3) D_To_clear_33 rfl ?_
  refine xi_icmp_ge D_To_clear_34 (fun c13 => ?_) (fun c13 => ?_)
  · have h := okx_T c13 h
    exact xi_return D_To_clear_71 rfl (okx_V h)
  · have h := okx_F c13 h
    refine xi_aload_n D_To_clear_37 rfl ?_
    obtain ⟨g14, h⟩ := okx_ck h
    obtain ⟨g15, h⟩ := okx_ck h
    refine xi_getR D_To_clear_38 F_To_27 (g14) ⟨rfl, by decide⟩ (g15) ?_
    refine xi_iload_n D_To_clear_41 rfl ?_
    refine xj_iconst (v := 0) D_To_clear_42 rfl ?_
    obtain ⟨g16, h⟩ := okx_ck h
    obtain ⟨g17, h⟩ := okx_ck h
    refine xi_iast D_To_clear_43 (g16) (g17) ?_
    refine xi_aload_n D_To_clear_44 rfl ?_
    obtain ⟨g19, h⟩ := okx_ck h
    obtain ⟨g20, h⟩ := okx_ck h
    refine xi_getR D_To_clear_45 F_To_30 (g19) ⟨rfl, by decide⟩ (g20) ?_
    refine xi_iload_n D_To_clear_48 rfl ?_
    refine xj_iconst (v := 1) D_To_clear_49 rfl ?_
    obtain ⟨g21, h⟩ := okx_ck h
    obtain ⟨g22, h⟩ := okx_ck h
    refine xi_iast D_To_clear_50 (g21) (g22) ?_
    refine xi_aload_n D_To_clear_51 rfl ?_
    obtain ⟨g24, h⟩ := okx_ck h
    obtain ⟨g25, h⟩ := okx_ck h
    refine xi_getR D_To_clear_52 F_To_33 (g24) ⟨rfl, by decide⟩ (g25) ?_
    refine xi_iload_n D_To_clear_55 rfl ?_
    refine xj_iconst (v := 0) D_To_clear_56 rfl ?_
    obtain ⟨g26, h⟩ := okx_ck h
    obtain ⟨g27, h⟩ := okx_ck h
    refine xi_iast D_To_clear_57 (g26) (g27) ?_
    refine xi_aload_n D_To_clear_58 rfl ?_
    obtain ⟨g29, h⟩ := okx_ck h
    obtain ⟨g30, h⟩ := okx_ck h
    refine xi_getR D_To_clear_59 F_To_36 (g29) ⟨rfl, by decide⟩ (g30) ?_
    refine xi_iload_n D_To_clear_62 rfl ?_
    refine xj_iconst (v := 0) D_To_clear_63 rfl ?_
    obtain ⟨g31, h⟩ := okx_ck h
    obtain ⟨g32, h⟩ := okx_ck h
    refine xi_iast D_To_clear_64 (g31) (g32) ?_
    refine xi_iinc (v := _ + 1) (ls' := [_, _]) D_To_clear_65 rfl rfl rfl (by decide) ?_
    refine xi_goto D_To_clear_68 ?_
    exact hR32 _ _ _ h
noncomputable def f_To_clear_h32 : Nat → Nat → Int32 → Sg → Option (Unit × Sg)
  | 0, _, _, _ => none
  | n + 1, a0, x1, s => f_To_clear_b32 (f_To_clear_h32 n) a0 x1 s
theorem w_To_clear_h32 {d : Nat} {Q : Option (Option Value) → Sg → Prop} (hd : 1 ≤ d) : ∀ (n : Nat) (a0 : Nat) (x1 : Int32) (s : Sg), okx (zq_V Q) (f_To_clear_h32 n a0 x1 s) → Xw d M_To_clear 0 0 32 [.ref a0, .int x1] [] s Q := by
  intro n
  induction n with
  | zero => intro a0 x1 s h; exact okx_no h
  | succ n ih => intro a0 x1 s h; exact w_To_clear_b32 hd  ih  h
noncomputable def f_To_clear (a0 : Nat) (s : Sg) : Option (Unit × Sg) :=
  f_ck (zl_at s a0 2) <|
  let s2 : Sg := uI s a0 0 0
  f_ck (zl_at s2 a0 2) <|
  let s4 : Sg := uI s2 a0 1 0
  f_ck (zl_at s4 a0 2) <|
  let s6 : Sg := uI s4 a0 2 0
  f_ck (zl_at s6 a0 2) <|
  let s8 : Sg := uI s6 a0 3 0
  f_ck (zl_at s8 a0 2) <|
  let s10 : Sg := uI s8 a0 4 0
  f_ck (zl_at s10 a0 2) <|
  let s12 : Sg := uI s10 a0 5 0
  f_To_clear_h32  zl_fl a0 0 s12
theorem w_To_clear {a0 : Nat} {s : Sg} {d : Nat} {Q : Option (Option Value) → Sg → Prop} (hd : 1 ≤ d) (h : okx (zq_V Q) (f_To_clear a0 s)) : Cw d M_To_clear [.ref a0] s Q := by
  refine Cw.of (by decide +kernel) (Nat.le_of_ble_eq_true rfl) ?_
  show Xw d M_To_clear 0 0 0 [.ref a0, .retAddr 0] [] s _
  unfold f_To_clear at h
  refine xi_aload_n D_To_clear_0 rfl ?_
  refine xj_iconst (v := 0) D_To_clear_1 rfl ?_
  obtain ⟨g1, h⟩ := okx_ck h
  refine xi_putI D_To_clear_2 F_To_42 (g1) ⟨rfl, by decide, rfl⟩ (⟨rfl, rfl⟩) ?_
  refine xi_aload_n D_To_clear_5 rfl ?_
  refine xj_iconst (v := 0) D_To_clear_6 rfl ?_
  obtain ⟨g3, h⟩ := okx_ck h
  refine xi_putI D_To_clear_7 F_To_46 (g3) ⟨rfl, by decide, rfl⟩ (⟨rfl, rfl⟩) ?_
  refine xi_aload_n D_To_clear_10 rfl ?_
  refine xj_iconst (v := 0) D_To_clear_11 rfl ?_
  obtain ⟨g5, h⟩ := okx_ck h
  refine xi_putI D_To_clear_12 F_To_49 (g5) ⟨rfl, by decide, rfl⟩ (⟨rfl, rfl⟩) ?_
  refine xi_aload_n D_To_clear_15 rfl ?_
  refine xj_iconst (v := 0) D_To_clear_16 rfl ?_
  obtain ⟨g7, h⟩ := okx_ck h
  refine xi_putI D_To_clear_17 F_To_52 (g7) ⟨rfl, by decide, rfl⟩ (⟨rfl, rfl⟩) ?_
  refine xi_aload_n D_To_clear_20 rfl ?_
  refine xj_iconst (v := 0) D_To_clear_21 rfl ?_
  obtain ⟨g9, h⟩ := okx_ck h
  refine xi_putI D_To_clear_22 F_To_55 (g9) ⟨rfl, by decide, rfl⟩ (⟨rfl, rfl⟩) ?_
  refine xi_aload_n D_To_clear_25 rfl ?_
  refine xj_iconst (v := 0) D_To_clear_26 rfl ?_
  obtain ⟨g11, h⟩ := okx_ck h
  refine xi_putI D_To_clear_27 F_To_58 (g11) ⟨rfl, by decide, rfl⟩ (⟨rfl, rfl⟩) ?_
  refine xj_iconst (v := 0) D_To_clear_30 rfl ?_
  refine xi_istore_n (ls' := [_, _]) D_To_clear_31 rfl (by decide) ?_
  exact w_To_clear_h32 (by omega)  _ _ _ _ h
noncomputable def f_To_copyFrom (a0 : Nat) (a1 : Nat) (s : Sg) : Option (Unit × Sg) :=
  f_ck (zl_at s a1 2) <|
  f_ck (zl_at s a0 2) <|
  let s3 : Sg := uI s a0 0 (mI s a1 0)
  f_ck (zl_at s3 a1 2) <|
  f_ck (zl_at s3 a0 2) <|
  let s6 : Sg := uI s3 a0 1 (mI s3 a1 1)
  f_ck (zl_at s6 a1 2) <|
  f_ck (zl_at s6 a0 2) <|
  let s9 : Sg := uI s6 a0 2 (mI s6 a1 2)
  f_ck (zl_at s9 a1 2) <|
  f_ck (zl_at s9 a0 2) <|
  let s12 : Sg := uI s9 a0 3 (mI s9 a1 3)
  f_ck (zl_at s12 a1 2) <|
  f_ck (zl_at s12 a0 2) <|
  let s15 : Sg := uI s12 a0 4 (mI s12 a1 4)
  f_ck (zl_at s15 a1 2) <|
  f_ck (zl_at s15 a0 2) <|
  let s18 : Sg := uI s15 a0 5 (mI s15 a1 5)
  f_ck (zl_at s18 a1 2) <|
  f_ck (mR s18 a1 6 = some (a1 + 1)) <|
  f_ck (zl_at s18 a0 2) <|
  f_ck (mR s18 a0 6 = some (a0 + 1)) <|
  f_ck (zl_ar s18 (a1 + 1) 10 4) <|
  f_ck (zl_ar s18 (a0 + 1) 10 4) <|
  let s25 : Sg := uC s18 (a1 + 1) (a0 + 1) 4
  f_ck (zl_at s25 a1 2) <|
  f_ck (mR s25 a1 7 = some (a1 + 2)) <|
  f_ck (zl_at s25 a0 2) <|
  f_ck (mR s25 a0 7 = some (a0 + 2)) <|
  f_ck (zl_ar s25 (a1 + 2) 10 16) <|
  f_ck (zl_ar s25 (a0 + 2) 10 16) <|
  let s32 : Sg := uC s25 (a1 + 2) (a0 + 2) 16
  f_ck (zl_at s32 a1 2) <|
  f_ck (mR s32 a1 8 = some (a1 + 3)) <|
  f_ck (zl_at s32 a0 2) <|
  f_ck (mR s32 a0 8 = some (a0 + 3)) <|
  f_ck (zl_ar s32 (a1 + 3) 10 8) <|
  f_ck (zl_ar s32 (a0 + 3) 10 8) <|
  let s39 : Sg := uC s32 (a1 + 3) (a0 + 3) 8
  f_ck (zl_at s39 a1 2) <|
  f_ck (mR s39 a1 9 = some (a1 + 4)) <|
  f_ck (zl_at s39 a0 2) <|
  f_ck (mR s39 a0 9 = some (a0 + 4)) <|
  f_ck (zl_ar s39 (a1 + 4) 10 9) <|
  f_ck (zl_ar s39 (a0 + 4) 10 9) <|
  let s46 : Sg := uC s39 (a1 + 4) (a0 + 4) 9
  f_ck (zl_at s46 a1 2) <|
  f_ck (mR s46 a1 10 = some (a1 + 5)) <|
  f_ck (zl_at s46 a0 2) <|
  f_ck (mR s46 a0 10 = some (a0 + 5)) <|
  f_ck (zl_ar s46 (a1 + 5) 10 1000) <|
  f_ck (zl_ar s46 (a0 + 5) 10 1000) <|
  let s53 : Sg := uC s46 (a1 + 5) (a0 + 5) 1000
  f_ck (zl_at s53 a1 2) <|
  f_ck (mR s53 a1 11 = some (a1 + 6)) <|
  f_ck (zl_at s53 a0 2) <|
  f_ck (mR s53 a0 11 = some (a0 + 6)) <|
  f_ck (zl_ar s53 (a1 + 6) 10 3) <|
  f_ck (zl_ar s53 (a0 + 6) 10 3) <|
  let s60 : Sg := uC s53 (a1 + 6) (a0 + 6) 3
  f_ck (zl_at s60 a1 2) <|
  f_ck (mR s60 a1 12 = some (a1 + 7)) <|
  f_ck (zl_at s60 a0 2) <|
  f_ck (mR s60 a0 12 = some (a0 + 7)) <|
  f_ck (zl_ar s60 (a1 + 7) 10 3) <|
  f_ck (zl_ar s60 (a0 + 7) 10 3) <|
  let s67 : Sg := uC s60 (a1 + 7) (a0 + 7) 3
  f_ck (zl_at s67 a1 2) <|
  f_ck (mR s67 a1 13 = some (a1 + 8)) <|
  f_ck (zl_at s67 a0 2) <|
  f_ck (mR s67 a0 13 = some (a0 + 8)) <|
  f_ck (zl_ar s67 (a1 + 8) 10 3) <|
  f_ck (zl_ar s67 (a0 + 8) 10 3) <|
  let s74 : Sg := uC s67 (a1 + 8) (a0 + 8) 3
  f_ck (zl_at s74 a1 2) <|
  f_ck (mR s74 a1 14 = some (a1 + 9)) <|
  f_ck (zl_at s74 a0 2) <|
  f_ck (mR s74 a0 14 = some (a0 + 9)) <|
  f_ck (zl_ar s74 (a1 + 9) 10 3) <|
  f_ck (zl_ar s74 (a0 + 9) 10 3) <|
  let s81 : Sg := uC s74 (a1 + 9) (a0 + 9) 3
  some ((), s81)
theorem w_To_copyFrom {a0 : Nat} {a1 : Nat} {s : Sg} {d : Nat} {Q : Option (Option Value) → Sg → Prop} (hd : 2 ≤ d) (h : okx (zq_V Q) (f_To_copyFrom a0 a1 s)) : Cw d M_To_copyFrom [.ref a0, .ref a1] s Q := by
  refine Cw.of (by decide +kernel) (Nat.le_of_ble_eq_true rfl) ?_
  show Xw d M_To_copyFrom 0 0 0 [.ref a0, .ref a1] [] s _
  unfold f_To_copyFrom at h
  refine xi_aload_n D_To_copyFrom_0 rfl ?_
  refine xi_aload_n D_To_copyFrom_1 rfl ?_
  obtain ⟨g1, h⟩ := okx_ck h
  refine xi_getI D_To_copyFrom_2 F_To_42 (g1) ⟨rfl, by decide⟩ ?_
  obtain ⟨g2, h⟩ := okx_ck h
  refine xi_putI D_To_copyFrom_5 F_To_42 (g2) ⟨rfl, by decide, rfl⟩ (⟨rfl, rfl⟩) ?_
  refine xi_aload_n D_To_copyFrom_8 rfl ?_
  refine xi_aload_n D_To_copyFrom_9 rfl ?_
  obtain ⟨g4, h⟩ := okx_ck h
  refine xi_getI D_To_copyFrom_10 F_To_46 (g4) ⟨rfl, by decide⟩ ?_
  obtain ⟨g5, h⟩ := okx_ck h
  refine xi_putI D_To_copyFrom_13 F_To_46 (g5) ⟨rfl, by decide, rfl⟩ (⟨rfl, rfl⟩) ?_
  refine xi_aload_n D_To_copyFrom_16 rfl ?_
  refine xi_aload_n D_To_copyFrom_17 rfl ?_
  obtain ⟨g7, h⟩ := okx_ck h
  refine xi_getI D_To_copyFrom_18 F_To_49 (g7) ⟨rfl, by decide⟩ ?_
  obtain ⟨g8, h⟩ := okx_ck h
  refine xi_putI D_To_copyFrom_21 F_To_49 (g8) ⟨rfl, by decide, rfl⟩ (⟨rfl, rfl⟩) ?_
  refine xi_aload_n D_To_copyFrom_24 rfl ?_
  refine xi_aload_n D_To_copyFrom_25 rfl ?_
  obtain ⟨g10, h⟩ := okx_ck h
  refine xi_getI D_To_copyFrom_26 F_To_52 (g10) ⟨rfl, by decide⟩ ?_
  obtain ⟨g11, h⟩ := okx_ck h
  refine xi_putI D_To_copyFrom_29 F_To_52 (g11) ⟨rfl, by decide, rfl⟩ (⟨rfl, rfl⟩) ?_
  refine xi_aload_n D_To_copyFrom_32 rfl ?_
  refine xi_aload_n D_To_copyFrom_33 rfl ?_
  obtain ⟨g13, h⟩ := okx_ck h
  refine xi_getI D_To_copyFrom_34 F_To_55 (g13) ⟨rfl, by decide⟩ ?_
  obtain ⟨g14, h⟩ := okx_ck h
  refine xi_putI D_To_copyFrom_37 F_To_55 (g14) ⟨rfl, by decide, rfl⟩ (⟨rfl, rfl⟩) ?_
  refine xi_aload_n D_To_copyFrom_40 rfl ?_
  refine xi_aload_n D_To_copyFrom_41 rfl ?_
  obtain ⟨g16, h⟩ := okx_ck h
  refine xi_getI D_To_copyFrom_42 F_To_58 (g16) ⟨rfl, by decide⟩ ?_
  obtain ⟨g17, h⟩ := okx_ck h
  refine xi_putI D_To_copyFrom_45 F_To_58 (g17) ⟨rfl, by decide, rfl⟩ (⟨rfl, rfl⟩) ?_
  refine xi_aload_n D_To_copyFrom_48 rfl ?_
  obtain ⟨g19, h⟩ := okx_ck h
  obtain ⟨g20, h⟩ := okx_ck h
  refine xi_getR D_To_copyFrom_49 F_To_9 (g19) ⟨rfl, by decide⟩ (g20) ?_
  refine xj_iconst (v := 0) D_To_copyFrom_52 rfl ?_
  refine xi_aload_n D_To_copyFrom_53 rfl ?_
  obtain ⟨g21, h⟩ := okx_ck h
  obtain ⟨g22, h⟩ := okx_ck h
  refine xi_getR D_To_copyFrom_54 F_To_9 (g21) ⟨rfl, by decide⟩ (g22) ?_
  refine xj_iconst (v := 0) D_To_copyFrom_57 rfl ?_
  refine xj_iconst (v := 4) D_To_copyFrom_58 rfl ?_
  obtain ⟨g23, h⟩ := okx_ck h
  obtain ⟨g24, h⟩ := okx_ck h
  refine xi_copy (n := 4) (n0 := 4) (n1 := 4) D_To_copyFrom_59 L_To_61 g23 g24 ⟨by decide, by decide, by decide, by decide⟩ ⟨by omega, Nat.le_of_ble_eq_true rfl⟩ ?_
  refine xi_aload_n D_To_copyFrom_62 rfl ?_
  obtain ⟨g26, h⟩ := okx_ck h
  obtain ⟨g27, h⟩ := okx_ck h
  refine xi_getR D_To_copyFrom_63 F_To_15 (g26) ⟨rfl, by decide⟩ (g27) ?_
  refine xj_iconst (v := 0) D_To_copyFrom_66 rfl ?_
  refine xi_aload_n D_To_copyFrom_67 rfl ?_
  obtain ⟨g28, h⟩ := okx_ck h
  obtain ⟨g29, h⟩ := okx_ck h
  refine xi_getR D_To_copyFrom_68 F_To_15 (g28) ⟨rfl, by decide⟩ (g29) ?_
  refine xj_iconst (v := 0) D_To_copyFrom_71 rfl ?_
  refine xi_bipush (v := 16) D_To_copyFrom_72 rfl ?_
  obtain ⟨g30, h⟩ := okx_ck h
  obtain ⟨g31, h⟩ := okx_ck h
  refine xi_copy (n := 16) (n0 := 16) (n1 := 16) D_To_copyFrom_74 L_To_61 g30 g31 ⟨by decide, by decide, by decide, by decide⟩ ⟨by omega, Nat.le_of_ble_eq_true rfl⟩ ?_
  refine xi_aload_n D_To_copyFrom_77 rfl ?_
  obtain ⟨g33, h⟩ := okx_ck h
  obtain ⟨g34, h⟩ := okx_ck h
  refine xi_getR D_To_copyFrom_78 F_To_18 (g33) ⟨rfl, by decide⟩ (g34) ?_
  refine xj_iconst (v := 0) D_To_copyFrom_81 rfl ?_
  refine xi_aload_n D_To_copyFrom_82 rfl ?_
  obtain ⟨g35, h⟩ := okx_ck h
  obtain ⟨g36, h⟩ := okx_ck h
  refine xi_getR D_To_copyFrom_83 F_To_18 (g35) ⟨rfl, by decide⟩ (g36) ?_
  refine xj_iconst (v := 0) D_To_copyFrom_86 rfl ?_
  refine xi_bipush (v := 8) D_To_copyFrom_87 rfl ?_
  obtain ⟨g37, h⟩ := okx_ck h
  obtain ⟨g38, h⟩ := okx_ck h
  refine xi_copy (n := 8) (n0 := 8) (n1 := 8) D_To_copyFrom_89 L_To_61 g37 g38 ⟨by decide, by decide, by decide, by decide⟩ ⟨by omega, Nat.le_of_ble_eq_true rfl⟩ ?_
  refine xi_aload_n D_To_copyFrom_92 rfl ?_
  obtain ⟨g40, h⟩ := okx_ck h
  obtain ⟨g41, h⟩ := okx_ck h
  refine xi_getR D_To_copyFrom_93 F_To_21 (g40) ⟨rfl, by decide⟩ (g41) ?_
  refine xj_iconst (v := 0) D_To_copyFrom_96 rfl ?_
  refine xi_aload_n D_To_copyFrom_97 rfl ?_
  obtain ⟨g42, h⟩ := okx_ck h
  obtain ⟨g43, h⟩ := okx_ck h
  refine xi_getR D_To_copyFrom_98 F_To_21 (g42) ⟨rfl, by decide⟩ (g43) ?_
  refine xj_iconst (v := 0) D_To_copyFrom_101 rfl ?_
  refine xi_bipush (v := 9) D_To_copyFrom_102 rfl ?_
  obtain ⟨g44, h⟩ := okx_ck h
  obtain ⟨g45, h⟩ := okx_ck h
  refine xi_copy (n := 9) (n0 := 9) (n1 := 9) D_To_copyFrom_104 L_To_61 g44 g45 ⟨by decide, by decide, by decide, by decide⟩ ⟨by omega, Nat.le_of_ble_eq_true rfl⟩ ?_
  refine xi_aload_n D_To_copyFrom_107 rfl ?_
  obtain ⟨g47, h⟩ := okx_ck h
  obtain ⟨g48, h⟩ := okx_ck h
  refine xi_getR D_To_copyFrom_108 F_To_24 (g47) ⟨rfl, by decide⟩ (g48) ?_
  refine xj_iconst (v := 0) D_To_copyFrom_111 rfl ?_
  refine xi_aload_n D_To_copyFrom_112 rfl ?_
  obtain ⟨g49, h⟩ := okx_ck h
  obtain ⟨g50, h⟩ := okx_ck h
  refine xi_getR D_To_copyFrom_113 F_To_24 (g49) ⟨rfl, by decide⟩ (g50) ?_
  refine xj_iconst (v := 0) D_To_copyFrom_116 rfl ?_
  refine xi_sipush (v := 1000) D_To_copyFrom_117 rfl ?_
  obtain ⟨g51, h⟩ := okx_ck h
  obtain ⟨g52, h⟩ := okx_ck h
  refine xi_copy (n := 1000) (n0 := 1000) (n1 := 1000) D_To_copyFrom_120 L_To_61 g51 g52 ⟨by decide, by decide, by decide, by decide⟩ ⟨by omega, Nat.le_of_ble_eq_true rfl⟩ ?_
  refine xi_aload_n D_To_copyFrom_123 rfl ?_
  obtain ⟨g54, h⟩ := okx_ck h
  obtain ⟨g55, h⟩ := okx_ck h
  refine xi_getR D_To_copyFrom_124 F_To_27 (g54) ⟨rfl, by decide⟩ (g55) ?_
  refine xj_iconst (v := 0) D_To_copyFrom_127 rfl ?_
  refine xi_aload_n D_To_copyFrom_128 rfl ?_
  obtain ⟨g56, h⟩ := okx_ck h
  obtain ⟨g57, h⟩ := okx_ck h
  refine xi_getR D_To_copyFrom_129 F_To_27 (g56) ⟨rfl, by decide⟩ (g57) ?_
  refine xj_iconst (v := 0) D_To_copyFrom_132 rfl ?_
  refine xj_iconst (v := 3) D_To_copyFrom_133 rfl ?_
  obtain ⟨g58, h⟩ := okx_ck h
  obtain ⟨g59, h⟩ := okx_ck h
  refine xi_copy (n := 3) (n0 := 3) (n1 := 3) D_To_copyFrom_134 L_To_61 g58 g59 ⟨by decide, by decide, by decide, by decide⟩ ⟨by omega, Nat.le_of_ble_eq_true rfl⟩ ?_
  refine xi_aload_n D_To_copyFrom_137 rfl ?_
  obtain ⟨g61, h⟩ := okx_ck h
  obtain ⟨g62, h⟩ := okx_ck h
  refine xi_getR D_To_copyFrom_138 F_To_30 (g61) ⟨rfl, by decide⟩ (g62) ?_
  refine xj_iconst (v := 0) D_To_copyFrom_141 rfl ?_
  refine xi_aload_n D_To_copyFrom_142 rfl ?_
  obtain ⟨g63, h⟩ := okx_ck h
  obtain ⟨g64, h⟩ := okx_ck h
  refine xi_getR D_To_copyFrom_143 F_To_30 (g63) ⟨rfl, by decide⟩ (g64) ?_
  refine xj_iconst (v := 0) D_To_copyFrom_146 rfl ?_
  refine xj_iconst (v := 3) D_To_copyFrom_147 rfl ?_
  obtain ⟨g65, h⟩ := okx_ck h
  obtain ⟨g66, h⟩ := okx_ck h
  refine xi_copy (n := 3) (n0 := 3) (n1 := 3) D_To_copyFrom_148 L_To_61 g65 g66 ⟨by decide, by decide, by decide, by decide⟩ ⟨by omega, Nat.le_of_ble_eq_true rfl⟩ ?_
  refine xi_aload_n D_To_copyFrom_151 rfl ?_
  obtain ⟨g68, h⟩ := okx_ck h
  obtain ⟨g69, h⟩ := okx_ck h
  refine xi_getR D_To_copyFrom_152 F_To_33 (g68) ⟨rfl, by decide⟩ (g69) ?_
  refine xj_iconst (v := 0) D_To_copyFrom_155 rfl ?_
  refine xi_aload_n D_To_copyFrom_156 rfl ?_
  obtain ⟨g70, h⟩ := okx_ck h
  obtain ⟨g71, h⟩ := okx_ck h
  refine xi_getR D_To_copyFrom_157 F_To_33 (g70) ⟨rfl, by decide⟩ (g71) ?_
  refine xj_iconst (v := 0) D_To_copyFrom_160 rfl ?_
  refine xj_iconst (v := 3) D_To_copyFrom_161 rfl ?_
  obtain ⟨g72, h⟩ := okx_ck h
  obtain ⟨g73, h⟩ := okx_ck h
  refine xi_copy (n := 3) (n0 := 3) (n1 := 3) D_To_copyFrom_162 L_To_61 g72 g73 ⟨by decide, by decide, by decide, by decide⟩ ⟨by omega, Nat.le_of_ble_eq_true rfl⟩ ?_
  refine xi_aload_n D_To_copyFrom_165 rfl ?_
  obtain ⟨g75, h⟩ := okx_ck h
  obtain ⟨g76, h⟩ := okx_ck h
  refine xi_getR D_To_copyFrom_166 F_To_36 (g75) ⟨rfl, by decide⟩ (g76) ?_
  refine xj_iconst (v := 0) D_To_copyFrom_169 rfl ?_
  refine xi_aload_n D_To_copyFrom_170 rfl ?_
  obtain ⟨g77, h⟩ := okx_ck h
  obtain ⟨g78, h⟩ := okx_ck h
  refine xi_getR D_To_copyFrom_171 F_To_36 (g77) ⟨rfl, by decide⟩ (g78) ?_
  refine xj_iconst (v := 0) D_To_copyFrom_174 rfl ?_
  refine xj_iconst (v := 3) D_To_copyFrom_175 rfl ?_
  obtain ⟨g79, h⟩ := okx_ck h
  obtain ⟨g80, h⟩ := okx_ck h
  refine xi_copy (n := 3) (n0 := 3) (n1 := 3) D_To_copyFrom_176 L_To_61 g79 g80 ⟨by decide, by decide, by decide, by decide⟩ ⟨by omega, Nat.le_of_ble_eq_true rfl⟩ ?_
  exact xi_return D_To_copyFrom_179 rfl (okx_V h)
noncomputable def f_To_init (a0 : Nat) (s : Sg) : Option (Unit × Sg) :=
  f_ck (zn_SH (mN s) = (10, 4)) <|
  let n2 : Nat := mN s
  let s3 : Sg := uN s
  f_ck (zl_at s3 a0 2) <|
  let s5 : Sg := uR s3 a0 6 (some n2)
  f_ck (zn_SH (mN s5) = (10, 16)) <|
  let n7 : Nat := mN s5
  let s8 : Sg := uN s5
  f_ck (zl_at s8 a0 2) <|
  let s10 : Sg := uR s8 a0 7 (some n7)
  f_ck (zn_SH (mN s10) = (10, 8)) <|
  let n12 : Nat := mN s10
  let s13 : Sg := uN s10
  f_ck (zl_at s13 a0 2) <|
  let s15 : Sg := uR s13 a0 8 (some n12)
  f_ck (zn_SH (mN s15) = (10, 9)) <|
  let n17 : Nat := mN s15
  let s18 : Sg := uN s15
  f_ck (zl_at s18 a0 2) <|
  let s20 : Sg := uR s18 a0 9 (some n17)
  f_ck (zn_SH (mN s20) = (10, 1000)) <|
  let n22 : Nat := mN s20
  let s23 : Sg := uN s20
  f_ck (zl_at s23 a0 2) <|
  let s25 : Sg := uR s23 a0 10 (some n22)
  f_ck (zn_SH (mN s25) = (10, 3)) <|
  let n27 : Nat := mN s25
  let s28 : Sg := uN s25
  f_ck (zl_at s28 a0 2) <|
  let s30 : Sg := uR s28 a0 11 (some n27)
  f_ck (zn_SH (mN s30) = (10, 3)) <|
  let n32 : Nat := mN s30
  let s33 : Sg := uN s30
  f_ck (zl_at s33 a0 2) <|
  let s35 : Sg := uR s33 a0 12 (some n32)
  f_ck (zn_SH (mN s35) = (10, 3)) <|
  let n37 : Nat := mN s35
  let s38 : Sg := uN s35
  f_ck (zl_at s38 a0 2) <|
  let s40 : Sg := uR s38 a0 13 (some n37)
  f_ck (zn_SH (mN s40) = (10, 3)) <|
  let n42 : Nat := mN s40
  let s43 : Sg := uN s40
  f_ck (zl_at s43 a0 2) <|
  let s45 : Sg := uR s43 a0 14 (some n42)
  f_ck (zl_at s45 a0 2) <|
  f_bd (f_To_clear a0 s45) fun r47 s48 =>
  some ((), s48)
theorem w_To_init {a0 : Nat} {s : Sg} {d : Nat} {Q : Option (Option Value) → Sg → Prop} (hd : 2 ≤ d) (h : okx (zq_V Q) (f_To_init a0 s)) : Cw d M_To_init [.ref a0] s Q := by
  refine Cw.of (by decide +kernel) (Nat.le_of_ble_eq_true rfl) ?_
  show Xw d M_To_init 9 1049 0 [.ref a0] [] s _
  unfold f_To_init at h
  refine xi_aload_n D_To_init_0 rfl ?_
  refine xi_objInit D_To_init_1 L_To_3 ⟨by omega, Nat.le_of_ble_eq_true rfl⟩ ?_
  refine xi_aload_n D_To_init_4 rfl ?_
  refine xj_iconst (v := 4) D_To_init_5 rfl ?_
  obtain ⟨g1, h⟩ := okx_ck h
  refine xi_newa (k := 10) (n := 4) D_To_init_6 rfl T_int (by decide) ⟨by decide, by decide, by decide⟩ g1 ⟨by decide, by decide⟩ ?_
  obtain ⟨g4, h⟩ := okx_ck h
  refine xi_putF D_To_init_8 F_To_9 (g4) ⟨rfl, by decide⟩ ⟨rfl, rfl⟩ rfl ?_
  refine xi_aload_n D_To_init_11 rfl ?_
  refine xi_bipush (v := 16) D_To_init_12 rfl ?_
  obtain ⟨g6, h⟩ := okx_ck h
  refine xi_newa (k := 10) (n := 16) D_To_init_14 rfl T_int (by decide) ⟨by decide, by decide, by decide⟩ g6 ⟨by decide, by decide⟩ ?_
  obtain ⟨g9, h⟩ := okx_ck h
  refine xi_putF D_To_init_16 F_To_15 (g9) ⟨rfl, by decide⟩ ⟨rfl, rfl⟩ rfl ?_
  refine xi_aload_n D_To_init_19 rfl ?_
  refine xi_bipush (v := 8) D_To_init_20 rfl ?_
  obtain ⟨g11, h⟩ := okx_ck h
  refine xi_newa (k := 10) (n := 8) D_To_init_22 rfl T_int (by decide) ⟨by decide, by decide, by decide⟩ g11 ⟨by decide, by decide⟩ ?_
  obtain ⟨g14, h⟩ := okx_ck h
  refine xi_putF D_To_init_24 F_To_18 (g14) ⟨rfl, by decide⟩ ⟨rfl, rfl⟩ rfl ?_
  refine xi_aload_n D_To_init_27 rfl ?_
  refine xi_bipush (v := 9) D_To_init_28 rfl ?_
  obtain ⟨g16, h⟩ := okx_ck h
  refine xi_newa (k := 10) (n := 9) D_To_init_30 rfl T_int (by decide) ⟨by decide, by decide, by decide⟩ g16 ⟨by decide, by decide⟩ ?_
  obtain ⟨g19, h⟩ := okx_ck h
  refine xi_putF D_To_init_32 F_To_21 (g19) ⟨rfl, by decide⟩ ⟨rfl, rfl⟩ rfl ?_
  refine xi_aload_n D_To_init_35 rfl ?_
  refine xi_sipush (v := 1000) D_To_init_36 rfl ?_
  obtain ⟨g21, h⟩ := okx_ck h
  refine xi_newa (k := 10) (n := 1000) D_To_init_39 rfl T_int (by decide) ⟨by decide, by decide, by decide⟩ g21 ⟨by decide, by decide⟩ ?_
  obtain ⟨g24, h⟩ := okx_ck h
  refine xi_putF D_To_init_41 F_To_24 (g24) ⟨rfl, by decide⟩ ⟨rfl, rfl⟩ rfl ?_
  refine xi_aload_n D_To_init_44 rfl ?_
  refine xj_iconst (v := 3) D_To_init_45 rfl ?_
  obtain ⟨g26, h⟩ := okx_ck h
  refine xi_newa (k := 10) (n := 3) D_To_init_46 rfl T_int (by decide) ⟨by decide, by decide, by decide⟩ g26 ⟨by decide, by decide⟩ ?_
  obtain ⟨g29, h⟩ := okx_ck h
  refine xi_putF D_To_init_48 F_To_27 (g29) ⟨rfl, by decide⟩ ⟨rfl, rfl⟩ rfl ?_
  refine xi_aload_n D_To_init_51 rfl ?_
  refine xj_iconst (v := 3) D_To_init_52 rfl ?_
  obtain ⟨g31, h⟩ := okx_ck h
  refine xi_newa (k := 10) (n := 3) D_To_init_53 rfl T_int (by decide) ⟨by decide, by decide, by decide⟩ g31 ⟨by decide, by decide⟩ ?_
  obtain ⟨g34, h⟩ := okx_ck h
  refine xi_putF D_To_init_55 F_To_30 (g34) ⟨rfl, by decide⟩ ⟨rfl, rfl⟩ rfl ?_
  refine xi_aload_n D_To_init_58 rfl ?_
  refine xj_iconst (v := 3) D_To_init_59 rfl ?_
  obtain ⟨g36, h⟩ := okx_ck h
  refine xi_newa (k := 10) (n := 3) D_To_init_60 rfl T_int (by decide) ⟨by decide, by decide, by decide⟩ g36 ⟨by decide, by decide⟩ ?_
  obtain ⟨g39, h⟩ := okx_ck h
  refine xi_putF D_To_init_62 F_To_33 (g39) ⟨rfl, by decide⟩ ⟨rfl, rfl⟩ rfl ?_
  refine xi_aload_n D_To_init_65 rfl ?_
  refine xj_iconst (v := 3) D_To_init_66 rfl ?_
  obtain ⟨g41, h⟩ := okx_ck h
  refine xi_newa (k := 10) (n := 3) D_To_init_67 rfl T_int (by decide) ⟨by decide, by decide, by decide⟩ g41 ⟨by decide, by decide⟩ ?_
  obtain ⟨g44, h⟩ := okx_ck h
  refine xi_putF D_To_init_69 F_To_36 (g44) ⟨rfl, by decide⟩ ⟨rfl, rfl⟩ rfl ?_
  refine xi_aload_n D_To_init_72 rfl ?_
  obtain ⟨g46, h⟩ := okx_ck h
  refine xj_V0 D_To_init_73 L_To_39 C_To_clear Z_To_clear (g46) (Nat.le_of_ble_eq_true rfl) (Nat.le_of_eq (Nat.sub_add_cancel (by omega))) (w_To_clear (by omega) (okx_mono (okx_bd h) ?_))
  intro r47 s48 h
  show Xw _ _ _ _ 76 _ [] _ _
  exact xi_return D_To_init_76 rfl (okx_V h)
noncomputable def f_Tu_paidTo_b46 (x1 : Int32) (x2 : Int64) (y0 : Int32) (s : Sg) : Option (Int64 × Sg) :=
  f_bd (f_In_bitCount y0 s) fun r6 s7 =>
  if r6 ≤ 0 then
    some (x2, s7)
  else
    if ((y0 >>> (x1 &&& 31)) &&& 1) = 1 then
      f_ck (¬ (Int32.toInt64 r6) = 0) <|
      f_ck (zl_B s7) <|
      let v12 : Int64 := (x2 + (((240 : Int64) / (Int32.toInt64 r6)) * (Int32.toInt64 (mI s7 5 7))))
      some (v12, s7)
    else
      some (x2, s7)
theorem w_Tu_paidTo_b46 {x1 : Int32} {x2 : Int64} {y0 : Int32} {s : Sg} {d : Nat} {Q : Option (Option Value) → Sg → Prop} (hd : 2 ≤ d) (h : okx (zq_L Q) (f_Tu_paidTo_b46 x1 x2 y0 s)) : Xw d M_Tu_paidTo 0 0 46 [.ref 5, .int x1, .long x2, .retAddr 0, .retAddr 0, .retAddr 0] [.int y0] s Q := by
  unfold f_Tu_paidTo_b46 at h
  refine xi_istore (ls' := [_, _, _, _, _, _]) D_Tu_paidTo_46 rfl (by decide) ?_
  refine xi_iload D_Tu_paidTo_48 rfl ?_
  refine xj_S1 D_Tu_paidTo_50 L_Tu_117 C_In_bitCount Z_In_bitCount (Nat.le_of_ble_eq_true rfl) (Nat.le_of_eq (Nat.sub_add_cancel (by omega))) (w_In_bitCount (by omega) (okx_mono (okx_bd h) ?_))
  intro r6 s7 h
  show Xw _ _ _ _ 53 _ [_] _ _
  refine xi_istore (ls' := [_, _, _, _, _, _]) D_Tu_paidTo_53 rfl (by decide) ?_
  refine xi_iload D_Tu_paidTo_55 rfl ?_
  refine xi_if_le D_Tu_paidTo_57 (fun c8 => ?_) (fun c8 => ?_)
  · have h := okx_T c8 h
    refine xi_lload_n D_Tu_paidTo_86 rfl ?_
    exact xi_lreturn D_Tu_paidTo_87 rfl (okx_L h)
  · have h := okx_F c8 h
    refine xi_iload D_Tu_paidTo_60 rfl ?_
    refine xi_iload_n D_Tu_paidTo_62 rfl ?_
    refine xi_ishr D_Tu_paidTo_63 ?_
    refine xj_iconst (v := 1) D_Tu_paidTo_64 rfl ?_
    refine xi_iand D_Tu_paidTo_65 ?_
    refine xj_iconst (v := 1) D_Tu_paidTo_66 rfl ?_
    refine xi_icmp_ne D_Tu_paidTo_67 (fun c9 => ?_) (fun c9 => ?_)
    · have h := okx_F c9 h
      refine xi_lload_n D_Tu_paidTo_86 rfl ?_
      exact xi_lreturn D_Tu_paidTo_87 rfl (okx_L h)
    · have h := okx_T c9 h
      refine xi_lload_n D_Tu_paidTo_70 rfl ?_
      refine xi_ldc2 D_Tu_paidTo_71 K_Tu_103 ?_
      refine xi_iload D_Tu_paidTo_74 rfl ?_
      refine xi_i2l D_Tu_paidTo_76 ?_
      obtain ⟨g10, h⟩ := okx_ck h
      refine xi_ldiv D_Tu_paidTo_77 g10 ?_
      refine xi_aload_n D_Tu_paidTo_78 rfl ?_
      obtain ⟨g11, h⟩ := okx_ck h
      refine xi_getI D_Tu_paidTo_79 F_Tu_64 (zl_fo (g11).1 rfl) ⟨rfl, by decide⟩ ?_
      refine xi_i2l D_Tu_paidTo_82 ?_
      refine xi_lmul D_Tu_paidTo_83 ?_
      refine xi_ladd D_Tu_paidTo_84 ?_
      refine xi_lstore_n (ls' := [_, _, _, _, _, _]) D_Tu_paidTo_85 rfl (by decide) ?_
      refine xi_lload_n D_Tu_paidTo_86 rfl ?_
      exact xi_lreturn D_Tu_paidTo_87 rfl (okx_L h)
noncomputable def f_Tu_paidTo_b21 (x1 : Int32) (y0 : Int64) (s : Sg) : Option (Int64 × Sg) :=
  f_ck (zl_B s) <|
  if (mI s 5 4) = 1 then
    f_ck (vp_in (mI s 5 5) 3) <|
    f_Tu_paidTo_b46  x1 y0 (mI s 13 (Int32.toNatClampNeg (mI s 5 5))) s
  else
    f_Tu_paidTo_b46  x1 y0 0 s
theorem w_Tu_paidTo_b21 {x1 : Int32} {y0 : Int64} {s : Sg} {d : Nat} {Q : Option (Option Value) → Sg → Prop} (hd : 2 ≤ d) (h : okx (zq_L Q) (f_Tu_paidTo_b21 x1 y0 s)) : Xw d M_Tu_paidTo 0 0 21 [.ref 5, .int x1, .retAddr 0, .retAddr 0, .retAddr 0, .retAddr 0] [.long y0] s Q := by
  unfold f_Tu_paidTo_b21 at h
  refine xi_lstore_n (ls' := [_, _, _, _, _, _]) D_Tu_paidTo_21 rfl (by decide) ?_
  refine xi_aload_n D_Tu_paidTo_22 rfl ?_
  obtain ⟨g3, h⟩ := okx_ck h
  refine xi_getI D_Tu_paidTo_23 F_Tu_40 (zl_fo (g3).1 rfl) ⟨rfl, by decide⟩ ?_
  refine xj_iconst (v := 1) D_Tu_paidTo_26 rfl ?_
  refine xi_icmp_ne D_Tu_paidTo_27 (fun c4 => ?_) (fun c4 => ?_)
  · have h := okx_F c4 h
    refine xj_iconst (v := 0) D_Tu_paidTo_45 rfl ?_
    exact w_Tu_paidTo_b46 (by omega)  h
  · have h := okx_T c4 h
    refine xi_aload_n D_Tu_paidTo_30 rfl ?_
    refine xi_getR D_Tu_paidTo_31 F_Tu_22 (zl_fo (g3).1 rfl) ⟨rfl, by decide⟩ (zl_gr (g3).2 rfl rfl) ?_
    refine xi_getR D_Tu_paidTo_34 F_Tu_114 (zl_fo (g3).1 rfl) ⟨rfl, by decide⟩ (zl_gr (g3).2 rfl rfl) ?_
    refine xi_aload_n D_Tu_paidTo_37 rfl ?_
    refine xi_getI D_Tu_paidTo_38 F_Tu_58 (zl_fo (g3).1 rfl) ⟨rfl, by decide⟩ ?_
    obtain ⟨g5, h⟩ := okx_ck h
    refine xj_iald D_Tu_paidTo_41 (zl_fx (g3).1 rfl) (zl_ib (n := 3) rfl (g5)) ?_
    refine xi_goto D_Tu_paidTo_42 ?_
    exact w_Tu_paidTo_b46 (by omega)  h
noncomputable def f_Tu_paidTo (x1 : Int32) (s : Sg) : Option (Int64 × Sg) :=
  f_ck (zl_B s) <|
  if x1 = (mI s 5 6) then
    f_Tu_paidTo_b21  x1 (((-240) : Int64) * (Int32.toInt64 (mI s 5 7))) s
  else
    f_Tu_paidTo_b21  x1 0 s
theorem w_Tu_paidTo {x1 : Int32} {s : Sg} {d : Nat} {Q : Option (Option Value) → Sg → Prop} (hd : 2 ≤ d) (h : okx (zq_L Q) (f_Tu_paidTo x1 s)) : Cw d M_Tu_paidTo [.ref 5, .int x1] s Q := by
  refine Cw.of (by decide +kernel) (Nat.le_of_ble_eq_true rfl) ?_
  show Xw d M_Tu_paidTo 0 0 0 [.ref 5, .int x1, .retAddr 0, .retAddr 0, .retAddr 0, .retAddr 0] [] s _
  unfold f_Tu_paidTo at h
  refine xi_iload_n D_Tu_paidTo_0 rfl ?_
  refine xi_aload_n D_Tu_paidTo_1 rfl ?_
  obtain ⟨g1, h⟩ := okx_ck h
  refine xi_getI D_Tu_paidTo_2 F_Tu_61 (zl_fo (g1).1 rfl) ⟨rfl, by decide⟩ ?_
  refine xi_icmp_ne D_Tu_paidTo_5 (fun c2 => ?_) (fun c2 => ?_)
  · have h := okx_F c2 h
    refine xj_lconst (v := 0) D_Tu_paidTo_20 rfl ?_
    exact w_Tu_paidTo_b21 (by omega)  h
  · have h := okx_T c2 h
    refine xi_ldc2 D_Tu_paidTo_8 K_Tu_112 ?_
    refine xi_aload_n D_Tu_paidTo_11 rfl ?_
    refine xi_getI D_Tu_paidTo_12 F_Tu_64 (zl_fo (g1).1 rfl) ⟨rfl, by decide⟩ ?_
    refine xi_i2l D_Tu_paidTo_15 ?_
    refine xi_lmul D_Tu_paidTo_16 ?_
    refine xi_goto D_Tu_paidTo_17 ?_
    exact w_Tu_paidTo_b21 (by omega)  h
noncomputable def f_Tu_made (a1 : Nat) (x2 : Int32) (x3 : Int32) (s : Sg) : Option (Int64 × Sg) :=
  f_ck (zl_B s) <|
  f_ck (zl_at s a1 0) <|
  f_ck (mR s a1 2 = some (a1 + 3)) <|
  f_ck (zl_ar s (a1 + 3) 10 16) <|
  f_ck (vp_in x2 16) <|
  let v6 : Int32 := (((x3 <<< ((7 : Int32) &&& 31)) ||| x2) ||| ((mI s (a1 + 3) (Int32.toNatClampNeg x2)) <<< ((4 : Int32) &&& 31)))
  f_ck (vp_in v6 32768) <|
  let v8 : Int64 := ((Int32.toInt64 (10 - (mI s 7 5))) * (Int32.toInt64 (mI s 17 (Int32.toNatClampNeg v6))))
  if (mI s 7 5) ≤ 0 then
    some (v8, s)
  else
    f_ck (zl_at s a1 0) <|
    f_ck (mR s a1 3 = some (a1 + 4)) <|
    f_ck (zl_ar s (a1 + 4) 10 16) <|
    f_ck (vp_in x2 16) <|
    let v14 : Int32 := (((x3 <<< ((7 : Int32) &&& 31)) ||| x2) ||| ((mI s (a1 + 4) (Int32.toNatClampNeg x2)) <<< ((4 : Int32) &&& 31)))
    f_ck (vp_in v14 32768) <|
    let v16 : Int64 := (v8 + ((Int32.toInt64 (mI s 7 5)) * (Int32.toInt64 (mI s 17 (Int32.toNatClampNeg v14)))))
    some (v16, s)
theorem w_Tu_made {a1 : Nat} {x2 : Int32} {x3 : Int32} {s : Sg} {d : Nat} {Q : Option (Option Value) → Sg → Prop} (hd : 1 ≤ d) (h : okx (zq_L Q) (f_Tu_made a1 x2 x3 s)) : Cw d M_Tu_made [.ref 5, .ref a1, .int x2, .int x3] s Q := by
  refine Cw.of (by decide +kernel) (Nat.le_of_ble_eq_true rfl) ?_
  show Xw d M_Tu_made 0 0 0 [.ref 5, .ref a1, .int x2, .int x3, .retAddr 0, .retAddr 0, .retAddr 0] [] s _
  unfold f_Tu_made at h
  refine xi_iload_n D_Tu_made_0 rfl ?_
  refine xi_bipush (v := 7) D_Tu_made_1 rfl ?_
  refine xi_ishl D_Tu_made_3 ?_
  refine xi_iload_n D_Tu_made_4 rfl ?_
  refine xi_ior D_Tu_made_5 ?_
  refine xi_istore (ls' := [_, _, _, _, _, _, _]) D_Tu_made_6 rfl (by decide) ?_
  refine xi_bipush (v := 10) D_Tu_made_8 rfl ?_
  refine xi_aload_n D_Tu_made_10 rfl ?_
  obtain ⟨g1, h⟩ := okx_ck h
  refine xi_getR D_Tu_made_11 F_Tu_22 (zl_fo (g1).1 rfl) ⟨rfl, by decide⟩ (zl_gr (g1).2 rfl rfl) ?_
  refine xi_getI D_Tu_made_14 F_Tu_146 (zl_fo (g1).1 rfl) ⟨rfl, by decide⟩ ?_
  refine xi_isub D_Tu_made_17 ?_
  refine xi_i2l D_Tu_made_18 ?_
  refine xi_aload_n D_Tu_made_19 rfl ?_
  refine xi_getR D_Tu_made_20 F_Tu_12 (zl_fo (g1).1 rfl) ⟨rfl, by decide⟩ (zl_gr (g1).2 rfl rfl) ?_
  refine xi_getR D_Tu_made_23 F_Tu_149 (zl_fo (g1).1 rfl) ⟨rfl, by decide⟩ (zl_gr (g1).2 rfl rfl) ?_
  refine xi_iload D_Tu_made_26 rfl ?_
  refine xi_aload_n D_Tu_made_28 rfl ?_
  obtain ⟨g2, h⟩ := okx_ck h
  obtain ⟨g3, h⟩ := okx_ck h
  refine xi_getR D_Tu_made_29 F_Tu_152 (g2) ⟨rfl, by decide⟩ (g3) ?_
  refine xi_iload_n D_Tu_made_32 rfl ?_
  obtain ⟨g4, h⟩ := okx_ck h
  obtain ⟨g5, h⟩ := okx_ck h
  refine xi_iald D_Tu_made_33 (g4) (g5) ?_
  refine xj_iconst (v := 4) D_Tu_made_34 rfl ?_
  refine xi_ishl D_Tu_made_35 ?_
  refine xi_ior D_Tu_made_36 ?_
  obtain ⟨g7, h⟩ := okx_ck h
  refine xj_iald D_Tu_made_37 (zl_fx (g1).1 rfl) (zl_ib (n := 32768) rfl (g7)) ?_
  refine xi_i2l D_Tu_made_38 ?_
  refine xi_lmul D_Tu_made_39 ?_
  refine xi_lstore (ls' := [_, _, _, _, _, _, _]) D_Tu_made_40 rfl (by decide) ?_
  refine xi_aload_n D_Tu_made_42 rfl ?_
  refine xi_getR D_Tu_made_43 F_Tu_22 (zl_fo (g1).1 rfl) ⟨rfl, by decide⟩ (zl_gr (g1).2 rfl rfl) ?_
  refine xi_getI D_Tu_made_46 F_Tu_146 (zl_fo (g1).1 rfl) ⟨rfl, by decide⟩ ?_
  refine xi_if_le D_Tu_made_49 (fun c9 => ?_) (fun c9 => ?_)
  · have h := okx_T c9 h
    refine xi_lload D_Tu_made_86 rfl ?_
    exact xi_lreturn D_Tu_made_88 rfl (okx_L h)
  · have h := okx_F c9 h
    refine xi_lload D_Tu_made_52 rfl ?_
    refine xi_aload_n D_Tu_made_54 rfl ?_
    refine xi_getR D_Tu_made_55 F_Tu_22 (zl_fo (g1).1 rfl) ⟨rfl, by decide⟩ (zl_gr (g1).2 rfl rfl) ?_
    refine xi_getI D_Tu_made_58 F_Tu_146 (zl_fo (g1).1 rfl) ⟨rfl, by decide⟩ ?_
    refine xi_i2l D_Tu_made_61 ?_
    refine xi_aload_n D_Tu_made_62 rfl ?_
    refine xi_getR D_Tu_made_63 F_Tu_12 (zl_fo (g1).1 rfl) ⟨rfl, by decide⟩ (zl_gr (g1).2 rfl rfl) ?_
    refine xi_getR D_Tu_made_66 F_Tu_149 (zl_fo (g1).1 rfl) ⟨rfl, by decide⟩ (zl_gr (g1).2 rfl rfl) ?_
    refine xi_iload D_Tu_made_69 rfl ?_
    refine xi_aload_n D_Tu_made_71 rfl ?_
    obtain ⟨g10, h⟩ := okx_ck h
    obtain ⟨g11, h⟩ := okx_ck h
    refine xi_getR D_Tu_made_72 F_Tu_155 (g10) ⟨rfl, by decide⟩ (g11) ?_
    refine xi_iload_n D_Tu_made_75 rfl ?_
    obtain ⟨g12, h⟩ := okx_ck h
    obtain ⟨g13, h⟩ := okx_ck h
    refine xi_iald D_Tu_made_76 (g12) (g13) ?_
    refine xj_iconst (v := 4) D_Tu_made_77 rfl ?_
    refine xi_ishl D_Tu_made_78 ?_
    refine xi_ior D_Tu_made_79 ?_
    obtain ⟨g15, h⟩ := okx_ck h
    refine xj_iald D_Tu_made_80 (zl_fx (g1).1 rfl) (zl_ib (n := 32768) rfl (g15)) ?_
    refine xi_i2l D_Tu_made_81 ?_
    refine xi_lmul D_Tu_made_82 ?_
    refine xi_ladd D_Tu_made_83 ?_
    refine xi_lstore (ls' := [_, _, _, _, _, _, _]) D_Tu_made_84 rfl (by decide) ?_
    refine xi_lload D_Tu_made_86 rfl ?_
    exact xi_lreturn D_Tu_made_88 rfl (okx_L h)
noncomputable def f_Tu_shareOf_b102 (R38 : Nat → Int32 → Int32 → Int32 → Int32 → Int64 → Int32 → Sg → Option (Int64 × Sg)) (a1 : Nat) (x2 : Int32) (x3 : Int32) (x4 : Int32) (x5 : Int32) (x6 : Int64) (x8 : Int32) (s : Sg) : Option (Int64 × Sg) :=
  R38 a1 x2 x3 x4 x5 x6 (x8 + 1) s
theorem w_Tu_shareOf_b102 {a1 : Nat} {x2 : Int32} {x3 : Int32} {x4 : Int32} {x5 : Int32} {x6 : Int64} {x8 : Int32} {s : Sg} {d : Nat} {Q : Option (Option Value) → Sg → Prop} (hd : 2 ≤ d) {R38 : Nat → Int32 → Int32 → Int32 → Int32 → Int64 → Int32 → Sg → Option (Int64 × Sg)} (hR38 : ∀ (a1 : Nat) (x2 : Int32) (x3 : Int32) (x4 : Int32) (x5 : Int32) (x6 : Int64) (x8 : Int32) (s : Sg), okx (zq_L Q) (R38 a1 x2 x3 x4 x5 x6 x8 s) → Xw d M_Tu_shareOf 0 0 38 [.ref 5, .ref a1, .int x2, .int x3, .int x4, .int x5, .long x6, .retAddr 0, .int x8, .retAddr 0, .retAddr 0] [] s Q) (h : okx (zq_L Q) (f_Tu_shareOf_b102 R38 a1 x2 x3 x4 x5 x6 x8 s)) : Xw d M_Tu_shareOf 0 0 102 [.ref 5, .ref a1, .int x2, .int x3, .int x4, .int x5, .long x6, .retAddr 0, .int x8, .retAddr 0, .retAddr 0] [] s Q := by
  unfold f_Tu_shareOf_b102 at h
  refine xi_iinc (v := _ + 1) (ls' := [_, _, _, _, _, _, _, _, _, _, _]) D_Tu_shareOf_102 rfl rfl rfl (by decide) ?_
  refine xi_goto D_Tu_shareOf_105 ?_
  exact hR38 _ _ _ _ _ _ _ _ h
noncomputable def f_Tu_shareOf_b38 (R38 : Nat → Int32 → Int32 → Int32 → Int32 → Int64 → Int32 → Sg → Option (Int64 × Sg)) (a1 : Nat) (x2 : Int32) (x3 : Int32) (x4 : Int32) (x5 : Int32) (x6 : Int64) (x8 : Int32) (s : Sg) : Option (Int64 × Sg) :=
  if x4 < x8 then
    some (x6, s)
  else
    if ((x8 >>> (x2 &&& 31)) &&& 1) = 0 then
      f_bd (f_In_bitCount x8 s) fun r14 s15 =>
      f_ck (vp_in (((x5 - 1) * 4) + r14) 16) <|
      let v17 : Int32 := (mI s15 1 (Int32.toNatClampNeg (((x5 - 1) * 4) + r14)))
      f_ck (zl_B s15) <|
      f_bd (f_Tu_made a1 (x8 ||| ((1 : Int32) <<< (x2 &&& 31))) x3 s15) fun r19 s20 =>
      f_ck (zl_B s20) <|
      f_bd (f_Tu_made a1 x8 x3 s20) fun r22 s23 =>
      f_Tu_shareOf_b102 R38 a1 x2 x3 x4 x5 (x6 + ((Int32.toInt64 v17) * (r19 - r22))) x8 s23
    else
      f_Tu_shareOf_b102 R38 a1 x2 x3 x4 x5 x6 x8 s
theorem w_Tu_shareOf_b38 {a1 : Nat} {x2 : Int32} {x3 : Int32} {x4 : Int32} {x5 : Int32} {x6 : Int64} {x8 : Int32} {s : Sg} {d : Nat} {Q : Option (Option Value) → Sg → Prop} (hd : 2 ≤ d) {R38 : Nat → Int32 → Int32 → Int32 → Int32 → Int64 → Int32 → Sg → Option (Int64 × Sg)} (hR38 : ∀ (a1 : Nat) (x2 : Int32) (x3 : Int32) (x4 : Int32) (x5 : Int32) (x6 : Int64) (x8 : Int32) (s : Sg), okx (zq_L Q) (R38 a1 x2 x3 x4 x5 x6 x8 s) → Xw d M_Tu_shareOf 0 0 38 [.ref 5, .ref a1, .int x2, .int x3, .int x4, .int x5, .long x6, .retAddr 0, .int x8, .retAddr 0, .retAddr 0] [] s Q) (h : okx (zq_L Q) (f_Tu_shareOf_b38 R38 a1 x2 x3 x4 x5 x6 x8 s)) : Xw d M_Tu_shareOf 0 0 38 [.ref 5, .ref a1, .int x2, .int x3, .int x4, .int x5, .long x6, .retAddr 0, .int x8, .retAddr 0, .retAddr 0] [] s Q := by
  unfold f_Tu_shareOf_b38 at h
  refine xi_iload D_Tu_shareOf_38 rfl ?_
  refine xi_iload D_Tu_shareOf_40 rfl ?_
  refine xi_icmp_gt D_Tu_shareOf_42 (fun c12 => ?_) (fun c12 => ?_)
  · have h := okx_T c12 h
    refine xi_lload D_Tu_shareOf_108 rfl ?_
    exact xi_lreturn D_Tu_shareOf_110 rfl (okx_L h)
  · have h := okx_F c12 h
    refine xi_iload D_Tu_shareOf_45 rfl ?_
    refine xi_iload_n D_Tu_shareOf_47 rfl ?_
    refine xi_ishr D_Tu_shareOf_48 ?_
    refine xj_iconst (v := 1) D_Tu_shareOf_49 rfl ?_
    refine xi_iand D_Tu_shareOf_50 ?_
    refine xi_if_ne D_Tu_shareOf_51 (fun c13 => ?_) (fun c13 => ?_)
    · have h := okx_F c13 h
      exact w_Tu_shareOf_b102 (by omega) hR38 h
    · have h := okx_T c13 h
      refine xi_orders D_Tu_shareOf_54 F_Tu_135 ?_
      refine xi_iload D_Tu_shareOf_57 rfl ?_
      refine xj_iconst (v := 1) D_Tu_shareOf_59 rfl ?_
      refine xi_isub D_Tu_shareOf_60 ?_
      refine xj_iconst (v := 4) D_Tu_shareOf_61 rfl ?_
      refine xi_imul D_Tu_shareOf_62 ?_
      refine xi_iload D_Tu_shareOf_63 rfl ?_
      refine xj_S1 D_Tu_shareOf_65 L_Tu_117 C_In_bitCount Z_In_bitCount (Nat.le_of_ble_eq_true rfl) (Nat.le_of_eq (Nat.sub_add_cancel (by omega))) (w_In_bitCount (by omega) (okx_mono (okx_bd h) ?_))
      intro r14 s15 h
      show Xw _ _ _ _ 68 _ [_, _, _] _ _
      refine xi_iadd D_Tu_shareOf_68 ?_
      obtain ⟨g16, h⟩ := okx_ck h
      refine xi_old D_Tu_shareOf_69 g16 ?_
      refine xi_istore (ls' := [_, _, _, _, _, _, _, _, _, _, _]) D_Tu_shareOf_70 rfl (by decide) ?_
      refine xi_lload D_Tu_shareOf_72 rfl ?_
      refine xi_iload D_Tu_shareOf_74 rfl ?_
      refine xi_i2l D_Tu_shareOf_76 ?_
      refine xi_aload_n D_Tu_shareOf_77 rfl ?_
      refine xi_aload_n D_Tu_shareOf_78 rfl ?_
      refine xi_iload D_Tu_shareOf_79 rfl ?_
      refine xj_iconst (v := 1) D_Tu_shareOf_81 rfl ?_
      refine xi_iload_n D_Tu_shareOf_82 rfl ?_
      refine xi_ishl D_Tu_shareOf_83 ?_
      refine xi_ior D_Tu_shareOf_84 ?_
      refine xi_iload_n D_Tu_shareOf_85 rfl ?_
      obtain ⟨g18, h⟩ := okx_ck h
      refine xj_V3 D_Tu_shareOf_86 L_Tu_138 C_Tu_made Z_Tu_made (zl_fo (g18).1 rfl) (Nat.le_of_ble_eq_true rfl) (Nat.le_of_eq (Nat.sub_add_cancel (by omega))) (w_Tu_made (by omega) (okx_mono (okx_bd h) ?_))
      intro r19 s20 h
      show Xw _ _ _ _ 89 _ [_, _, _] _ _
      refine xi_aload_n D_Tu_shareOf_89 rfl ?_
      refine xi_aload_n D_Tu_shareOf_90 rfl ?_
      refine xi_iload D_Tu_shareOf_91 rfl ?_
      refine xi_iload_n D_Tu_shareOf_93 rfl ?_
      obtain ⟨g21, h⟩ := okx_ck h
      refine xj_V3 D_Tu_shareOf_94 L_Tu_138 C_Tu_made Z_Tu_made (zl_fo (g21).1 rfl) (Nat.le_of_ble_eq_true rfl) (Nat.le_of_eq (Nat.sub_add_cancel (by omega))) (w_Tu_made (by omega) (okx_mono (okx_bd h) ?_))
      intro r22 s23 h
      show Xw _ _ _ _ 97 _ [_, _, _, _] _ _
      refine xi_lsub D_Tu_shareOf_97 ?_
      refine xi_lmul D_Tu_shareOf_98 ?_
      refine xi_ladd D_Tu_shareOf_99 ?_
      refine xi_lstore (ls' := [_, _, _, _, _, _, _, _, _, _, _]) D_Tu_shareOf_100 rfl (by decide) ?_
      exact xk_wk (w_Tu_shareOf_b102 (by omega) hR38 h) ⟨Or.inl rfl, Or.inl rfl, Or.inl rfl, Or.inl rfl, Or.inl rfl, Or.inl rfl, Or.inl rfl, Or.inl rfl, Or.inl rfl, Or.inr rfl, Or.inl rfl, trivial⟩
noncomputable def f_Tu_shareOf_h38 : Nat → Nat → Int32 → Int32 → Int32 → Int32 → Int64 → Int32 → Sg → Option (Int64 × Sg)
  | 0, _, _, _, _, _, _, _, _ => none
  | n + 1, a1, x2, x3, x4, x5, x6, x8, s => f_Tu_shareOf_b38 (f_Tu_shareOf_h38 n) a1 x2 x3 x4 x5 x6 x8 s
theorem w_Tu_shareOf_h38 {d : Nat} {Q : Option (Option Value) → Sg → Prop} (hd : 2 ≤ d) : ∀ (n : Nat) (a1 : Nat) (x2 : Int32) (x3 : Int32) (x4 : Int32) (x5 : Int32) (x6 : Int64) (x8 : Int32) (s : Sg), okx (zq_L Q) (f_Tu_shareOf_h38 n a1 x2 x3 x4 x5 x6 x8 s) → Xw d M_Tu_shareOf 0 0 38 [.ref 5, .ref a1, .int x2, .int x3, .int x4, .int x5, .long x6, .retAddr 0, .int x8, .retAddr 0, .retAddr 0] [] s Q := by
  intro n
  induction n with
  | zero => intro a1 x2 x3 x4 x5 x6 x8 s h; exact okx_no h
  | succ n ih => intro a1 x2 x3 x4 x5 x6 x8 s h; exact w_Tu_shareOf_b38 hd  ih  h
noncomputable def f_Tu_shareOf_b185 (R135 : Nat → Int32 → Int32 → Int32 → Int64 → Int64 → Int32 → Sg → Option (Int64 × Sg)) (a1 : Nat) (x2 : Int32) (x3 : Int32) (x5 : Int32) (x6 : Int64) (x8 : Int64) (x10 : Int32) (s : Sg) : Option (Int64 × Sg) :=
  R135 a1 x2 x3 x5 x6 x8 (x10 + 1) s
theorem w_Tu_shareOf_b185 {a1 : Nat} {x2 : Int32} {x3 : Int32} {x5 : Int32} {x6 : Int64} {x8 : Int64} {x10 : Int32} {s : Sg} {d : Nat} {Q : Option (Option Value) → Sg → Prop} (hd : 2 ≤ d) {R135 : Nat → Int32 → Int32 → Int32 → Int64 → Int64 → Int32 → Sg → Option (Int64 × Sg)} (hR135 : ∀ (a1 : Nat) (x2 : Int32) (x3 : Int32) (x5 : Int32) (x6 : Int64) (x8 : Int64) (x10 : Int32) (s : Sg), okx (zq_L Q) (R135 a1 x2 x3 x5 x6 x8 x10 s) → Xw d M_Tu_shareOf 0 0 135 [.ref 5, .ref a1, .int x2, .int x3, .retAddr 0, .int x5, .long x6, .retAddr 0, .long x8, .retAddr 0, .int x10] [] s Q) (h : okx (zq_L Q) (f_Tu_shareOf_b185 R135 a1 x2 x3 x5 x6 x8 x10 s)) : Xw d M_Tu_shareOf 0 0 185 [.ref 5, .ref a1, .int x2, .int x3, .retAddr 0, .int x5, .long x6, .retAddr 0, .long x8, .retAddr 0, .int x10] [] s Q := by
  unfold f_Tu_shareOf_b185 at h
  refine xi_iinc (v := _ + 1) (ls' := [_, _, _, _, _, _, _, _, _, _, _]) D_Tu_shareOf_185 rfl rfl rfl (by decide) ?_
  refine xi_goto D_Tu_shareOf_188 ?_
  exact hR135 _ _ _ _ _ _ _ _ h
noncomputable def f_Tu_shareOf_b170 (R135 : Nat → Int32 → Int32 → Int32 → Int64 → Int64 → Int32 → Sg → Option (Int64 × Sg)) (a1 : Nat) (x2 : Int32) (x3 : Int32) (x5 : Int32) (x6 : Int64) (x8 : Int64) (x10 : Int32) (s : Sg) : Option (Int64 × Sg) :=
  f_ck (zl_B s) <|
  f_bd (f_Tu_made a1 ((1 : Int32) <<< (x10 &&& 31)) x3 s) fun r29 s30 =>
  f_Tu_shareOf_b185 R135 a1 x2 x3 x5 x6 (x8 - r29) x10 s30
theorem w_Tu_shareOf_b170 {a1 : Nat} {x2 : Int32} {x3 : Int32} {x5 : Int32} {x6 : Int64} {x8 : Int64} {x10 : Int32} {s : Sg} {d : Nat} {Q : Option (Option Value) → Sg → Prop} (hd : 2 ≤ d) {R135 : Nat → Int32 → Int32 → Int32 → Int64 → Int64 → Int32 → Sg → Option (Int64 × Sg)} (hR135 : ∀ (a1 : Nat) (x2 : Int32) (x3 : Int32) (x5 : Int32) (x6 : Int64) (x8 : Int64) (x10 : Int32) (s : Sg), okx (zq_L Q) (R135 a1 x2 x3 x5 x6 x8 x10 s) → Xw d M_Tu_shareOf 0 0 135 [.ref 5, .ref a1, .int x2, .int x3, .retAddr 0, .int x5, .long x6, .retAddr 0, .long x8, .retAddr 0, .int x10] [] s Q) (h : okx (zq_L Q) (f_Tu_shareOf_b170 R135 a1 x2 x3 x5 x6 x8 x10 s)) : Xw d M_Tu_shareOf 0 0 170 [.ref 5, .ref a1, .int x2, .int x3, .retAddr 0, .int x5, .long x6, .retAddr 0, .long x8, .retAddr 0, .int x10] [] s Q := by
  unfold f_Tu_shareOf_b170 at h
  refine xi_lload D_Tu_shareOf_170 rfl ?_
  refine xi_aload_n D_Tu_shareOf_172 rfl ?_
  refine xi_aload_n D_Tu_shareOf_173 rfl ?_
  refine xj_iconst (v := 1) D_Tu_shareOf_174 rfl ?_
  refine xi_iload D_Tu_shareOf_175 rfl ?_
  refine xi_ishl D_Tu_shareOf_177 ?_
  refine xi_iload_n D_Tu_shareOf_178 rfl ?_
  obtain ⟨g28, h⟩ := okx_ck h
  refine xj_V3 D_Tu_shareOf_179 L_Tu_138 C_Tu_made Z_Tu_made (zl_fo (g28).1 rfl) (Nat.le_of_ble_eq_true rfl) (Nat.le_of_eq (Nat.sub_add_cancel (by omega))) (w_Tu_made (by omega) (okx_mono (okx_bd h) ?_))
  intro r29 s30 h
  show Xw _ _ _ _ 182 _ [_, _] _ _
  refine xi_lsub D_Tu_shareOf_182 ?_
  refine xi_lstore (ls' := [_, _, _, _, _, _, _, _, _, _, _]) D_Tu_shareOf_183 rfl (by decide) ?_
  exact w_Tu_shareOf_b185 (by omega) hR135 h
noncomputable def f_Tu_shareOf_b240 (y0 : Int64) (y1 : Int64) (s : Sg) : Option (Int64 × Sg) :=
  some ((y0 * y1), s)
theorem w_Tu_shareOf_b240 {y0 : Int64} {y1 : Int64} {s : Sg} {d : Nat} {Q : Option (Option Value) → Sg → Prop} (hd : 2 ≤ d) (h : okx (zq_L Q) (f_Tu_shareOf_b240 y0 y1 s)) : Xw d M_Tu_shareOf 0 0 240 [.retAddr 0, .retAddr 0, .retAddr 0, .retAddr 0, .retAddr 0, .retAddr 0, .retAddr 0, .retAddr 0, .retAddr 0, .retAddr 0, .retAddr 0] [.long y1, .long y0] s Q := by
  unfold f_Tu_shareOf_b240 at h
  refine xi_lmul D_Tu_shareOf_240 ?_
  exact xi_lreturn D_Tu_shareOf_241 rfl (okx_L h)
noncomputable def f_Tu_shareOf_b191 (x2 : Int32) (x5 : Int32) (x6 : Int64) (x8 : Int64) (s : Sg) : Option (Int64 × Sg) :=
  f_ck (zl_B s) <|
  if (mI s 7 3) = 1 then
    f_ck (¬ x5 = 0) <|
    some ((((24 : Int64) * x6) + ((Int32.toInt64 (24 / x5)) * x8)), s)
  else
    if x2 = (mI s 7 4) then
      f_Tu_shareOf_b240  24 x8 s
    else
      f_Tu_shareOf_b240  24 x6 s
theorem w_Tu_shareOf_b191 {x2 : Int32} {x5 : Int32} {x6 : Int64} {x8 : Int64} {s : Sg} {d : Nat} {Q : Option (Option Value) → Sg → Prop} (hd : 2 ≤ d) (h : okx (zq_L Q) (f_Tu_shareOf_b191 x2 x5 x6 x8 s)) : Xw d M_Tu_shareOf 0 0 191 [.ref 5, .retAddr 0, .int x2, .retAddr 0, .retAddr 0, .int x5, .long x6, .retAddr 0, .long x8, .retAddr 0, .retAddr 0] [] s Q := by
  unfold f_Tu_shareOf_b191 at h
  refine xi_aload_n D_Tu_shareOf_191 rfl ?_
  obtain ⟨g31, h⟩ := okx_ck h
  refine xi_getR D_Tu_shareOf_192 F_Tu_22 (zl_fo (g31).1 rfl) ⟨rfl, by decide⟩ (zl_gr (g31).2 rfl rfl) ?_
  refine xi_getI D_Tu_shareOf_195 F_Tu_132 (zl_fo (g31).1 rfl) ⟨rfl, by decide⟩ ?_
  refine xj_iconst (v := 1) D_Tu_shareOf_198 rfl ?_
  refine xi_icmp_ne D_Tu_shareOf_199 (fun c32 => ?_) (fun c32 => ?_)
  · have h := okx_F c32 h
    refine xi_ldc2 D_Tu_shareOf_219 K_Tu_144 ?_
    refine xi_iload_n D_Tu_shareOf_222 rfl ?_
    refine xi_aload_n D_Tu_shareOf_223 rfl ?_
    refine xi_getR D_Tu_shareOf_224 F_Tu_22 (zl_fo (g31).1 rfl) ⟨rfl, by decide⟩ (zl_gr (g31).2 rfl rfl) ?_
    refine xi_getI D_Tu_shareOf_227 F_Tu_141 (zl_fo (g31).1 rfl) ⟨rfl, by decide⟩ ?_
    refine xi_icmp_ne D_Tu_shareOf_230 (fun c34 => ?_) (fun c34 => ?_)
    · have h := okx_F c34 h
      refine xi_lload D_Tu_shareOf_238 rfl ?_
      exact xk_wk (w_Tu_shareOf_b240 (by omega)  h) ⟨Or.inr rfl, Or.inl rfl, Or.inr rfl, Or.inl rfl, Or.inl rfl, Or.inr rfl, Or.inr rfl, Or.inl rfl, Or.inr rfl, Or.inl rfl, Or.inl rfl, trivial⟩
    · have h := okx_T c34 h
      refine xi_lload D_Tu_shareOf_233 rfl ?_
      refine xi_goto D_Tu_shareOf_235 ?_
      exact xk_wk (w_Tu_shareOf_b240 (by omega)  h) ⟨Or.inr rfl, Or.inl rfl, Or.inr rfl, Or.inl rfl, Or.inl rfl, Or.inr rfl, Or.inr rfl, Or.inl rfl, Or.inr rfl, Or.inl rfl, Or.inl rfl, trivial⟩
  · have h := okx_T c32 h
    refine xi_ldc2 D_Tu_shareOf_202 K_Tu_144 ?_
    refine xi_lload D_Tu_shareOf_205 rfl ?_
    refine xi_lmul D_Tu_shareOf_207 ?_
    refine xi_bipush (v := 24) D_Tu_shareOf_208 rfl ?_
    refine xi_iload D_Tu_shareOf_210 rfl ?_
    obtain ⟨g33, h⟩ := okx_ck h
    refine xi_idiv D_Tu_shareOf_212 g33 ?_
    refine xi_i2l D_Tu_shareOf_213 ?_
    refine xi_lload D_Tu_shareOf_214 rfl ?_
    refine xi_lmul D_Tu_shareOf_216 ?_
    refine xi_ladd D_Tu_shareOf_217 ?_
    exact xi_lreturn D_Tu_shareOf_218 rfl (okx_L h)
noncomputable def f_Tu_shareOf_b135 (R135 : Nat → Int32 → Int32 → Int32 → Int64 → Int64 → Int32 → Sg → Option (Int64 × Sg)) (a1 : Nat) (x2 : Int32) (x3 : Int32) (x5 : Int32) (x6 : Int64) (x8 : Int64) (x10 : Int32) (s : Sg) : Option (Int64 × Sg) :=
  f_ck (zl_B s) <|
  if (mI s 7 0) ≤ x10 then
    f_Tu_shareOf_b191  x2 x5 x6 x8 s
  else
    if (mI s 7 3) = 1 then
      f_Tu_shareOf_b170 R135 a1 x2 x3 x5 x6 x8 x10 s
    else
      if x10 = (mI s 7 4) then
        f_Tu_shareOf_b185 R135 a1 x2 x3 x5 x6 x8 x10 s
      else
        f_Tu_shareOf_b170 R135 a1 x2 x3 x5 x6 x8 x10 s
theorem w_Tu_shareOf_b135 {a1 : Nat} {x2 : Int32} {x3 : Int32} {x5 : Int32} {x6 : Int64} {x8 : Int64} {x10 : Int32} {s : Sg} {d : Nat} {Q : Option (Option Value) → Sg → Prop} (hd : 2 ≤ d) {R135 : Nat → Int32 → Int32 → Int32 → Int64 → Int64 → Int32 → Sg → Option (Int64 × Sg)} (hR135 : ∀ (a1 : Nat) (x2 : Int32) (x3 : Int32) (x5 : Int32) (x6 : Int64) (x8 : Int64) (x10 : Int32) (s : Sg), okx (zq_L Q) (R135 a1 x2 x3 x5 x6 x8 x10 s) → Xw d M_Tu_shareOf 0 0 135 [.ref 5, .ref a1, .int x2, .int x3, .retAddr 0, .int x5, .long x6, .retAddr 0, .long x8, .retAddr 0, .int x10] [] s Q) (h : okx (zq_L Q) (f_Tu_shareOf_b135 R135 a1 x2 x3 x5 x6 x8 x10 s)) : Xw d M_Tu_shareOf 0 0 135 [.ref 5, .ref a1, .int x2, .int x3, .retAddr 0, .int x5, .long x6, .retAddr 0, .long x8, .retAddr 0, .int x10] [] s Q := by
  unfold f_Tu_shareOf_b135 at h
  refine xi_iload D_Tu_shareOf_135 rfl ?_
  refine xi_aload_n D_Tu_shareOf_137 rfl ?_
  obtain ⟨g24, h⟩ := okx_ck h
  refine xi_getR D_Tu_shareOf_138 F_Tu_22 (zl_fo (g24).1 rfl) ⟨rfl, by decide⟩ (zl_gr (g24).2 rfl rfl) ?_
  refine xi_getI D_Tu_shareOf_141 F_Tu_67 (zl_fo (g24).1 rfl) ⟨rfl, by decide⟩ ?_
  refine xi_icmp_ge D_Tu_shareOf_144 (fun c25 => ?_) (fun c25 => ?_)
  · have h := okx_T c25 h
    exact xk_wk (w_Tu_shareOf_b191 (by omega)  h) ⟨Or.inl rfl, Or.inr rfl, Or.inl rfl, Or.inr rfl, Or.inl rfl, Or.inl rfl, Or.inl rfl, Or.inl rfl, Or.inl rfl, Or.inl rfl, Or.inr rfl, trivial⟩
  · have h := okx_F c25 h
    refine xi_aload_n D_Tu_shareOf_147 rfl ?_
    refine xi_getR D_Tu_shareOf_148 F_Tu_22 (zl_fo (g24).1 rfl) ⟨rfl, by decide⟩ (zl_gr (g24).2 rfl rfl) ?_
    refine xi_getI D_Tu_shareOf_151 F_Tu_132 (zl_fo (g24).1 rfl) ⟨rfl, by decide⟩ ?_
    refine xj_iconst (v := 1) D_Tu_shareOf_154 rfl ?_
    refine xi_icmp_eq D_Tu_shareOf_155 (fun c26 => ?_) (fun c26 => ?_)
    · have h := okx_T c26 h
      exact w_Tu_shareOf_b170 (by omega) hR135 h
    · have h := okx_F c26 h
      refine xi_iload D_Tu_shareOf_158 rfl ?_
      refine xi_aload_n D_Tu_shareOf_160 rfl ?_
      refine xi_getR D_Tu_shareOf_161 F_Tu_22 (zl_fo (g24).1 rfl) ⟨rfl, by decide⟩ (zl_gr (g24).2 rfl rfl) ?_
      refine xi_getI D_Tu_shareOf_164 F_Tu_141 (zl_fo (g24).1 rfl) ⟨rfl, by decide⟩ ?_
      refine xi_icmp_eq D_Tu_shareOf_167 (fun c27 => ?_) (fun c27 => ?_)
      · have h := okx_T c27 h
        exact w_Tu_shareOf_b185 (by omega) hR135 h
      · have h := okx_F c27 h
        exact w_Tu_shareOf_b170 (by omega) hR135 h
noncomputable def f_Tu_shareOf_h135 : Nat → Nat → Int32 → Int32 → Int32 → Int64 → Int64 → Int32 → Sg → Option (Int64 × Sg)
  | 0, _, _, _, _, _, _, _, _ => none
  | n + 1, a1, x2, x3, x5, x6, x8, x10, s => f_Tu_shareOf_b135 (f_Tu_shareOf_h135 n) a1 x2 x3 x5 x6 x8 x10 s
theorem w_Tu_shareOf_h135 {d : Nat} {Q : Option (Option Value) → Sg → Prop} (hd : 2 ≤ d) : ∀ (n : Nat) (a1 : Nat) (x2 : Int32) (x3 : Int32) (x5 : Int32) (x6 : Int64) (x8 : Int64) (x10 : Int32) (s : Sg), okx (zq_L Q) (f_Tu_shareOf_h135 n a1 x2 x3 x5 x6 x8 x10 s) → Xw d M_Tu_shareOf 0 0 135 [.ref 5, .ref a1, .int x2, .int x3, .retAddr 0, .int x5, .long x6, .retAddr 0, .long x8, .retAddr 0, .int x10] [] s Q := by
  intro n
  induction n with
  | zero => intro a1 x2 x3 x5 x6 x8 x10 s h; exact okx_no h
  | succ n ih => intro a1 x2 x3 x5 x6 x8 x10 s h; exact w_Tu_shareOf_b135 hd  ih  h
noncomputable def f_Tu_shareOf (a1 : Nat) (x2 : Int32) (x3 : Int32) (s : Sg) : Option (Int64 × Sg) :=
  f_ck (zl_B s) <|
  f_bd (f_To_all 7 s) fun r2 s3 =>
  f_ck (zl_B s3) <|
  let v5 : Int32 := (if (1 : Int32) < (mI s3 7 0) then (mI s3 7 0) else (1 : Int32))
  if (mI s3 7 3) = 0 then
    f_Tu_shareOf_h38  zl_fl a1 x2 x3 r2 v5 0 0 s3
  else
    f_bd (f_Tu_made a1 ((1 : Int32) <<< (x2 &&& 31)) x3 s3) fun r7 s8 =>
    f_ck (zl_B s8) <|
    f_bd (f_Tu_made a1 r2 x3 s8) fun r10 s11 =>
    f_Tu_shareOf_h135  zl_fl a1 x2 x3 v5 r7 r10 0 s11
theorem w_Tu_shareOf {a1 : Nat} {x2 : Int32} {x3 : Int32} {s : Sg} {d : Nat} {Q : Option (Option Value) → Sg → Prop} (hd : 2 ≤ d) (h : okx (zq_L Q) (f_Tu_shareOf a1 x2 x3 s)) : Cw d M_Tu_shareOf [.ref 5, .ref a1, .int x2, .int x3] s Q := by
  refine Cw.of (by decide +kernel) (Nat.le_of_ble_eq_true rfl) ?_
  show Xw d M_Tu_shareOf 0 0 0 [.ref 5, .ref a1, .int x2, .int x3, .retAddr 0, .retAddr 0, .retAddr 0, .retAddr 0, .retAddr 0, .retAddr 0, .retAddr 0] [] s _
  unfold f_Tu_shareOf at h
  refine xi_aload_n D_Tu_shareOf_0 rfl ?_
  obtain ⟨g1, h⟩ := okx_ck h
  refine xi_getR D_Tu_shareOf_1 F_Tu_22 (zl_fo (g1).1 rfl) ⟨rfl, by decide⟩ (zl_gr (g1).2 rfl rfl) ?_
  refine xj_V0 D_Tu_shareOf_4 L_Tu_123 C_To_all Z_To_all (zl_fo (g1).1 rfl) (Nat.le_of_ble_eq_true rfl) (Nat.le_of_eq (Nat.sub_add_cancel (by omega))) (w_To_all (by omega) (okx_mono (okx_bd h) ?_))
  intro r2 s3 h
  show Xw _ _ _ _ 7 _ [_] _ _
  refine xi_istore (ls' := [_, _, _, _, _, _, _, _, _, _, _]) D_Tu_shareOf_7 rfl (by decide) ?_
  refine xj_iconst (v := 1) D_Tu_shareOf_9 rfl ?_
  refine xi_aload_n D_Tu_shareOf_10 rfl ?_
  obtain ⟨g4, h⟩ := okx_ck h
  refine xi_getR D_Tu_shareOf_11 F_Tu_22 (zl_fo (g4).1 rfl) ⟨rfl, by decide⟩ (zl_gr (g4).2 rfl rfl) ?_
  refine xi_getI D_Tu_shareOf_14 F_Tu_67 (zl_fo (g4).1 rfl) ⟨rfl, by decide⟩ ?_
  refine xi_maxi D_Tu_shareOf_17 L_Tu_127 ⟨by omega, Nat.le_of_ble_eq_true rfl⟩ ?_
  refine xi_istore (ls' := [_, _, _, _, _, _, _, _, _, _, _]) D_Tu_shareOf_20 rfl (by decide) ?_
  refine xi_aload_n D_Tu_shareOf_22 rfl ?_
  refine xi_getR D_Tu_shareOf_23 F_Tu_22 (zl_fo (g4).1 rfl) ⟨rfl, by decide⟩ (zl_gr (g4).2 rfl rfl) ?_
  refine xi_getI D_Tu_shareOf_26 F_Tu_132 (zl_fo (g4).1 rfl) ⟨rfl, by decide⟩ ?_
  refine xi_if_ne D_Tu_shareOf_29 (fun c6 => ?_) (fun c6 => ?_)
  · have h := okx_F c6 h
    refine xi_aload_n D_Tu_shareOf_111 rfl ?_
    refine xi_aload_n D_Tu_shareOf_112 rfl ?_
    refine xj_iconst (v := 1) D_Tu_shareOf_113 rfl ?_
    refine xi_iload_n D_Tu_shareOf_114 rfl ?_
    refine xi_ishl D_Tu_shareOf_115 ?_
    refine xi_iload_n D_Tu_shareOf_116 rfl ?_
    refine xj_V3 D_Tu_shareOf_117 L_Tu_138 C_Tu_made Z_Tu_made (zl_fo (g4).1 rfl) (Nat.le_of_ble_eq_true rfl) (Nat.le_of_eq (Nat.sub_add_cancel (by omega))) (w_Tu_made (by omega) (okx_mono (okx_bd h) ?_))
    intro r7 s8 h
    show Xw _ _ _ _ 120 _ [_] _ _
    refine xi_lstore (ls' := [_, _, _, _, _, _, _, _, _, _, _]) D_Tu_shareOf_120 rfl (by decide) ?_
    refine xi_aload_n D_Tu_shareOf_122 rfl ?_
    refine xi_aload_n D_Tu_shareOf_123 rfl ?_
    refine xi_iload D_Tu_shareOf_124 rfl ?_
    refine xi_iload_n D_Tu_shareOf_126 rfl ?_
    obtain ⟨g9, h⟩ := okx_ck h
    refine xj_V3 D_Tu_shareOf_127 L_Tu_138 C_Tu_made Z_Tu_made (zl_fo (g9).1 rfl) (Nat.le_of_ble_eq_true rfl) (Nat.le_of_eq (Nat.sub_add_cancel (by omega))) (w_Tu_made (by omega) (okx_mono (okx_bd h) ?_))
    intro r10 s11 h
    show Xw _ _ _ _ 130 _ [_] _ _
    refine xi_lstore (ls' := [_, _, _, _, _, _, _, _, _, _, _]) D_Tu_shareOf_130 rfl (by decide) ?_
    refine xj_iconst (v := 0) D_Tu_shareOf_132 rfl ?_
    refine xi_istore (ls' := [_, _, _, _, _, _, _, _, _, _, _]) D_Tu_shareOf_133 rfl (by decide) ?_
    exact xk_wk (w_Tu_shareOf_h135 (by omega)  _ _ _ _ _ _ _ _ _ h) ⟨Or.inl rfl, Or.inl rfl, Or.inl rfl, Or.inl rfl, Or.inr rfl, Or.inl rfl, Or.inl rfl, Or.inl rfl, Or.inl rfl, Or.inl rfl, Or.inl rfl, trivial⟩
  · have h := okx_T c6 h
    refine xj_lconst (v := 0) D_Tu_shareOf_32 rfl ?_
    refine xi_lstore (ls' := [_, _, _, _, _, _, _, _, _, _, _]) D_Tu_shareOf_33 rfl (by decide) ?_
    refine xj_iconst (v := 0) D_Tu_shareOf_35 rfl ?_
    refine xi_istore (ls' := [_, _, _, _, _, _, _, _, _, _, _]) D_Tu_shareOf_36 rfl (by decide) ?_
    exact w_Tu_shareOf_h38 (by omega)  _ _ _ _ _ _ _ _ _ h
