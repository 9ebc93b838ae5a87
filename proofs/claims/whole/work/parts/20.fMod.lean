/-! by a program of ours (wip/whole/gen/func.py, mkall.py) out of the listing: Mo_forgets Mo_reachAsItIs Mo_gap Mo_good Mo_hands Mo_has Mo_isKept Mo_isName Mo_isOwning Mo_isRest Mo_isWord Mo_joint Mo_keeps Mo_later Mo_leaving Mo_lender Mo_lost Mo_lowest -/
noncomputable def f_Mo_forgets_b34  (s : Sg) : Option (Unit × Sg) :=
  f_ck (zl_at s 46 6) <|
  let s18 : Sg := uI s 46 46 0
  f_ck (zl_at s18 46 6) <|
  let s20 : Sg := uI s18 46 47 0
  f_ck (zl_at s20 46 6) <|
  let s22 : Sg := uI s20 46 45 0
  some ((), s22)
theorem w_Mo_forgets_b34 {s : Sg} {d : Nat} {Q : Option (Option Value) → Sg → Prop} (hd : 1 ≤ d) (h : okx (zq_V Q) (f_Mo_forgets_b34  s)) : Xw d M_Mo_forgets 0 0 34 [.ref 46, .retAddr 0] [] s Q := by
  unfold f_Mo_forgets_b34 at h
  refine xi_aload_n D_Mo_forgets_34 rfl ?_
  refine xj_iconst (v := 0) D_Mo_forgets_35 rfl ?_
  obtain ⟨g17, h⟩ := okx_ck h
  refine xi_putI D_Mo_forgets_36 F_Mo_247 (g17) ⟨rfl, by decide, rfl⟩ (⟨rfl, rfl⟩) ?_
  refine xi_aload_n D_Mo_forgets_39 rfl ?_
  refine xj_iconst (v := 0) D_Mo_forgets_40 rfl ?_
  obtain ⟨g19, h⟩ := okx_ck h
  refine xi_putI D_Mo_forgets_41 F_Mo_250 (g19) ⟨rfl, by decide, rfl⟩ (⟨rfl, rfl⟩) ?_
  refine xi_aload_n D_Mo_forgets_44 rfl ?_
  refine xj_iconst (v := 0) D_Mo_forgets_45 rfl ?_
  obtain ⟨g21, h⟩ := okx_ck h
  refine xi_putI D_Mo_forgets_46 F_Mo_253 (g21) ⟨rfl, by decide, rfl⟩ (⟨rfl, rfl⟩) ?_
  exact xi_return D_Mo_forgets_49 rfl (okx_V h)
noncomputable def f_Mo_forgets_b2 (R2 : Int32 → Sg → Option (Unit × Sg)) (x1 : Int32) (s : Sg) : Option (Unit × Sg) :=
  if 3 ≤ x1 then
    f_Mo_forgets_b34   s
  else
    f_ck (zl_at s 46 6) <|
    f_ck (mR s 46 40 = some 69) <|
    f_ck (zl_ar s 69 10 3) <|
    f_ck (vp_in x1 3) <|
    let s6 : Sg := uI s 69 (Int32.toNatClampNeg x1) 0
    f_ck (zl_at s6 46 6) <|
    f_ck (mR s6 46 41 = some 70) <|
    f_ck (zl_ar s6 70 10 3) <|
    f_ck (vp_in x1 3) <|
    let s11 : Sg := uI s6 70 (Int32.toNatClampNeg x1) 1
    f_ck (zl_at s11 46 6) <|
    f_ck (mR s11 46 44 = some 73) <|
    f_ck (zl_ar s11 73 13 3) <|
    f_ck (vp_in x1 3) <|
    let s16 : Sg := uI s11 73 (Int32.toNatClampNeg x1) (vp_nar .boolean 0)
    R2 (x1 + 1) s16
theorem w_Mo_forgets_b2 {x1 : Int32} {s : Sg} {d : Nat} {Q : Option (Option Value) → Sg → Prop} (hd : 1 ≤ d) {R2 : Int32 → Sg → Option (Unit × Sg)} (hR2 : ∀ (x1 : Int32) (s : Sg), okx (zq_V Q) (R2 x1 s) → Xw d M_Mo_forgets 0 0 2 [.ref 46, .int x1] [] s Q) (h : okx (zq_V Q) (f_Mo_forgets_b2 R2 x1 s)) : Xw d M_Mo_forgets 0 0 2 [.ref 46, .int x1] [] s Q := by
  unfold f_Mo_forgets_b2 at h
  refine xi_iload_n D_Mo_forgets_2 rfl ?_
  refine xj_iconst (v := 3) D_Mo_forgets_3 rfl ?_
  refine xi_icmp_ge D_Mo_forgets_4 (fun c1 => ?_) (fun c1 => ?_)
  · have h := okx_T c1 h
    exact xk_wk (w_Mo_forgets_b34 (by omega)  h) ⟨Or.inl rfl, Or.inr rfl, trivial⟩
  · have h := okx_F c1 h
    refine xi_aload_n D_Mo_forgets_7 rfl ?_
    obtain ⟨g2, h⟩ := okx_ck h
    obtain ⟨g3, h⟩ := okx_ck h
    refine xi_getR D_Mo_forgets_8 F_Mo_78 (g2) ⟨rfl, by decide⟩ (g3) ?_
    refine xi_iload_n D_Mo_forgets_11 rfl ?_
    refine xj_iconst (v := 0) D_Mo_forgets_12 rfl ?_
    obtain ⟨g4, h⟩ := okx_ck h
    obtain ⟨g5, h⟩ := okx_ck h
    refine xi_iast D_Mo_forgets_13 (g4) (g5) ?_
    refine xi_aload_n D_Mo_forgets_14 rfl ?_
    obtain ⟨g7, h⟩ := okx_ck h
    obtain ⟨g8, h⟩ := okx_ck h
    refine xi_getR D_Mo_forgets_15 F_Mo_81 (g7) ⟨rfl, by decide⟩ (g8) ?_
    refine xi_iload_n D_Mo_forgets_18 rfl ?_
    refine xj_iconst (v := 1) D_Mo_forgets_19 rfl ?_
    obtain ⟨g9, h⟩ := okx_ck h
    obtain ⟨g10, h⟩ := okx_ck h
    refine xi_iast D_Mo_forgets_20 (g9) (g10) ?_
    refine xi_aload_n D_Mo_forgets_21 rfl ?_
    obtain ⟨g12, h⟩ := okx_ck h
    obtain ⟨g13, h⟩ := okx_ck h
    refine xi_getR D_Mo_forgets_22 F_Mo_90 (g12) ⟨rfl, by decide⟩ (g13) ?_
    refine xi_iload_n D_Mo_forgets_25 rfl ?_
    refine xj_iconst (v := 0) D_Mo_forgets_26 rfl ?_
    obtain ⟨g14, h⟩ := okx_ck h
    obtain ⟨g15, h⟩ := okx_ck h
    refine xi_zast D_Mo_forgets_27 (g14) (g15) ?_
    refine xi_iinc (v := _ + 1) (ls' := [_, _]) D_Mo_forgets_28 rfl rfl rfl (by decide) ?_
    refine xi_goto D_Mo_forgets_31 ?_
    exact hR2 _ _ h
noncomputable def f_Mo_forgets_h2 : Nat → Int32 → Sg → Option (Unit × Sg)
  | 0, _, _ => none
  | n + 1, x1, s => f_Mo_forgets_b2 (f_Mo_forgets_h2 n) x1 s
theorem w_Mo_forgets_h2 {d : Nat} {Q : Option (Option Value) → Sg → Prop} (hd : 1 ≤ d) : ∀ (n : Nat) (x1 : Int32) (s : Sg), okx (zq_V Q) (f_Mo_forgets_h2 n x1 s) → Xw d M_Mo_forgets 0 0 2 [.ref 46, .int x1] [] s Q := by
  intro n
  induction n with
  | zero => intro x1 s h; exact okx_no h
  | succ n ih => intro x1 s h; exact w_Mo_forgets_b2 hd  ih  h
noncomputable def f_Mo_forgets  (s : Sg) : Option (Unit × Sg) :=
  f_Mo_forgets_h2  zl_fl 0 s
theorem w_Mo_forgets {s : Sg} {d : Nat} {Q : Option (Option Value) → Sg → Prop} (hd : 1 ≤ d) (h : okx (zq_V Q) (f_Mo_forgets  s)) : Cw d M_Mo_forgets [.ref 46] s Q := by
  refine Cw.of (by decide +kernel) (Nat.le_of_ble_eq_true rfl) ?_
  show Xw d M_Mo_forgets 0 0 0 [.ref 46, .retAddr 0] [] s _
  unfold f_Mo_forgets at h
  refine xj_iconst (v := 0) D_Mo_forgets_0 rfl ?_
  refine xi_istore_n (ls' := [_, _]) D_Mo_forgets_1 rfl (by decide) ?_
  exact w_Mo_forgets_h2 (by omega)  _ _ _ h
noncomputable def f_Mo_reachAsItIs  (s : Sg) : Option (Unit × Sg) :=
  f_ck (zl_B s) <|
  f_bd (f_Mo_asItIs  s) fun r2 s3 =>
  f_ck (zl_B s3) <|
  f_bd (f_Mo_reach  s3) fun r5 s6 =>
  some ((), s6)
theorem w_Mo_reachAsItIs {s : Sg} {d : Nat} {Q : Option (Option Value) → Sg → Prop} (hd : 12 ≤ d) (h : okx (zq_V Q) (f_Mo_reachAsItIs  s)) : Cw d M_Mo_reachAsItIs [.ref 46] s Q := by
  refine Cw.of (by decide +kernel) (Nat.le_of_ble_eq_true rfl) ?_
  show Xw d M_Mo_reachAsItIs 0 0 0 [.ref 46] [] s _
  unfold f_Mo_reachAsItIs at h
  refine xi_aload_n D_Mo_reachAsItIs_0 rfl ?_
  obtain ⟨g1, h⟩ := okx_ck h
  refine xj_V0 D_Mo_reachAsItIs_1 L_Mo_325 C_Mo_asItIs Z_Mo_asItIs (zl_fo (g1).1 rfl) (Nat.le_of_ble_eq_true rfl) (Nat.le_of_eq (Nat.sub_add_cancel (by omega))) (w_Mo_asItIs (by omega) (okx_mono (okx_bd h) ?_))
  intro r2 s3 h
  show Xw _ _ _ _ 4 _ [] _ _
  refine xi_aload_n D_Mo_reachAsItIs_4 rfl ?_
  obtain ⟨g4, h⟩ := okx_ck h
  refine xj_V0 D_Mo_reachAsItIs_5 L_Mo_403 C_Mo_reach Z_Mo_reach (zl_fo (g4).1 rfl) (Nat.le_of_ble_eq_true rfl) (Nat.le_of_eq (Nat.sub_add_cancel (by omega))) (w_Mo_reach (by omega) (okx_mono (okx_bd h) ?_))
  intro r5 s6 h
  show Xw _ _ _ _ 8 _ [] _ _
  exact xi_return D_Mo_reachAsItIs_8 rfl (okx_V h)
noncomputable def f_Mo_gap  (s : Sg) : Option (Int32 × Sg) :=
  f_ck (zl_B s) <|
  f_bd (f_Mo_first 0 s) fun r2 s3 =>
  if 0 ≤ r2 then
    f_ck (zl_B s3) <|
    f_bd (f_Mo_reachBy r2 s3) fun r6 s7 =>
    f_ck (zl_B s7) <|
    f_bd (f_Mo_reachAsItIs  s7) fun r9 s10 =>
    f_ck (zl_B s10) <|
    if (mI s10 46 55) = 0 then
      some ((-1), s10)
    else
      some (((mI s7 46 56) - (mI s10 46 56)), s10)
  else
    some ((-1), s3)
theorem w_Mo_gap {s : Sg} {d : Nat} {Q : Option (Option Value) → Sg → Prop} (hd : 14 ≤ d) (h : okx (zq_I Q) (f_Mo_gap  s)) : Cw d M_Mo_gap [.ref 46] s Q := by
  refine Cw.of (by decide +kernel) (Nat.le_of_ble_eq_true rfl) ?_
  show Xw d M_Mo_gap 0 0 0 [.ref 46, .retAddr 0, .retAddr 0] [] s _
  unfold f_Mo_gap at h
  refine xi_aload_n D_Mo_gap_0 rfl ?_
  refine xj_iconst (v := 0) D_Mo_gap_1 rfl ?_
  obtain ⟨g1, h⟩ := okx_ck h
  refine xj_V1 D_Mo_gap_2 L_Mo_412 C_Mo_first Z_Mo_first (zl_fo (g1).1 rfl) (Nat.le_of_ble_eq_true rfl) (Nat.le_of_eq (Nat.sub_add_cancel (by omega))) (w_Mo_first (by omega) (okx_mono (okx_bd h) ?_))
  intro r2 s3 h
  show Xw _ _ _ _ 5 _ [_] _ _
  refine xi_istore_n (ls' := [_, _, _]) D_Mo_gap_5 rfl (by decide) ?_
  refine xi_iload_n D_Mo_gap_6 rfl ?_
  refine xi_if_ge D_Mo_gap_7 (fun c4 => ?_) (fun c4 => ?_)
  · have h := okx_T c4 h
    refine xi_aload_n D_Mo_gap_12 rfl ?_
    refine xi_iload_n D_Mo_gap_13 rfl ?_
    obtain ⟨g5, h⟩ := okx_ck h
    refine xj_V1 D_Mo_gap_14 L_Mo_409 C_Mo_reachBy Z_Mo_reachBy (zl_fo (g5).1 rfl) (Nat.le_of_ble_eq_true rfl) (Nat.le_of_eq (Nat.sub_add_cancel (by omega))) (w_Mo_reachBy (by omega) (okx_mono (okx_bd h) ?_))
    intro r6 s7 h
    show Xw _ _ _ _ 17 _ [] _ _
    refine xi_aload_n D_Mo_gap_17 rfl ?_
    obtain ⟨g8, h⟩ := okx_ck h
    refine xi_getI D_Mo_gap_18 F_Mo_397 (zl_fo (g8).1 rfl) ⟨rfl, by decide⟩ ?_
    refine xi_istore_n (ls' := [_, _, _]) D_Mo_gap_21 rfl (by decide) ?_
    refine xi_aload_n D_Mo_gap_22 rfl ?_
    refine xj_V0 D_Mo_gap_23 L_Mo_415 C_Mo_reachAsItIs Z_Mo_reachAsItIs (zl_fo (g8).1 rfl) (Nat.le_of_ble_eq_true rfl) (Nat.le_of_eq (Nat.sub_add_cancel (by omega))) (w_Mo_reachAsItIs (by omega) (okx_mono (okx_bd h) ?_))
    intro r9 s10 h
    show Xw _ _ _ _ 26 _ [] _ _
    refine xi_aload_n D_Mo_gap_26 rfl ?_
    obtain ⟨g11, h⟩ := okx_ck h
    refine xi_getI D_Mo_gap_27 F_Mo_393 (zl_fo (g11).1 rfl) ⟨rfl, by decide⟩ ?_
    refine xi_if_eq D_Mo_gap_30 (fun c12 => ?_) (fun c12 => ?_)
    · have h := okx_T c12 h
      refine xj_iconst (v := (-1)) D_Mo_gap_42 rfl ?_
      exact xi_ireturn D_Mo_gap_43 rfl (rfl) (okx_I h)
    · have h := okx_F c12 h
      refine xi_iload_n D_Mo_gap_33 rfl ?_
      refine xi_aload_n D_Mo_gap_34 rfl ?_
      refine xi_getI D_Mo_gap_35 F_Mo_397 (zl_fo (g11).1 rfl) ⟨rfl, by decide⟩ ?_
      refine xi_isub D_Mo_gap_38 ?_
      refine xi_goto D_Mo_gap_39 ?_
      exact xi_ireturn D_Mo_gap_43 rfl (rfl) (okx_I h)
  · have h := okx_F c4 h
    refine xj_iconst (v := (-1)) D_Mo_gap_10 rfl ?_
    exact xi_ireturn D_Mo_gap_11 rfl (rfl) (okx_I h)
noncomputable def f_Mo_good_b21 (x1 : Int32) (y1 : Int32) (s : Sg) : Option (Int32 × Sg) :=
  f_ck (zl_B s) <|
  let s7 : Sg := uI s 46 0 y1
  let s8 : Sg := uI s7 46 39 10
  if (mI s8 46 0) = 1 then
    some (0, s8)
  else
    f_bd (f_Mo_goodOf x1 s8) fun r10 s11 =>
    some (r10, s11)
theorem w_Mo_good_b21 {x1 : Int32} {y1 : Int32} {s : Sg} {d : Nat} {Q : Option (Option Value) → Sg → Prop} (hd : 4 ≤ d) (h : okx (zq_I Q) (f_Mo_good_b21 x1 y1 s)) : Xw d M_Mo_good 0 0 21 [.ref 46, .int x1] [.int y1, .ref 46] s Q := by
  unfold f_Mo_good_b21 at h
  obtain ⟨g6, h⟩ := okx_ck h
  refine xi_putI D_Mo_good_21 F_Mo_114 (zl_fo (g6).1 rfl) ⟨rfl, by decide, rfl⟩ (⟨rfl, rfl⟩) ?_
  refine xi_aload_n D_Mo_good_24 rfl ?_
  refine xi_bipush (v := 10) D_Mo_good_25 rfl ?_
  refine xi_putI D_Mo_good_27 F_Mo_272 (zl_fo (g6).1 rfl) ⟨rfl, by decide, rfl⟩ (⟨rfl, rfl⟩) ?_
  refine xi_aload_n D_Mo_good_30 rfl ?_
  refine xi_getI D_Mo_good_31 F_Mo_114 (zl_fo (g6).1 rfl) ⟨rfl, by decide⟩ ?_
  refine xj_iconst (v := 1) D_Mo_good_34 rfl ?_
  refine xi_icmp_ne D_Mo_good_35 (fun c9 => ?_) (fun c9 => ?_)
  · have h := okx_F c9 h
    refine xi_aload_n D_Mo_good_42 rfl ?_
    refine xi_iload_n D_Mo_good_43 rfl ?_
    refine xj_V1 D_Mo_good_44 L_Mo_387 C_Mo_goodOf Z_Mo_goodOf (zl_fo (g6).1 rfl) (Nat.le_of_ble_eq_true rfl) (Nat.le_of_eq (Nat.sub_add_cancel (by omega))) (w_Mo_goodOf (by omega) (okx_mono (okx_bd h) ?_))
    intro r10 s11 h
    show Xw _ _ _ _ 47 _ [_] _ _
    exact xi_ireturn D_Mo_good_47 rfl (rfl) (okx_I h)
  · have h := okx_T c9 h
    refine xj_iconst (v := 0) D_Mo_good_38 rfl ?_
    refine xi_goto D_Mo_good_39 ?_
    exact xi_ireturn D_Mo_good_47 rfl (rfl) (okx_I h)
noncomputable def f_Mo_good_b20 (x1 : Int32) (s : Sg) : Option (Int32 × Sg) :=
  f_Mo_good_b21  x1 1 s
theorem w_Mo_good_b20 {x1 : Int32} {s : Sg} {d : Nat} {Q : Option (Option Value) → Sg → Prop} (hd : 4 ≤ d) (h : okx (zq_I Q) (f_Mo_good_b20 x1 s)) : Xw d M_Mo_good 0 0 20 [.ref 46, .int x1] [.ref 46] s Q := by
  unfold f_Mo_good_b20 at h
  refine xj_iconst (v := 1) D_Mo_good_20 rfl ?_
  exact w_Mo_good_b21 (by omega)  h
noncomputable def f_Mo_good (x1 : Int32) (s : Sg) : Option (Int32 × Sg) :=
  f_ck (zl_B s) <|
  if (mI s 46 10) ≤ 0 then
    f_Mo_good_b20  x1 s
  else
    f_bd (f_Mo_isPains x1 s) fun r3 s4 =>
    if r3 = 0 then
      f_Mo_good_b20  x1 s4
    else
      f_Mo_good_b21  x1 0 s4
theorem w_Mo_good {x1 : Int32} {s : Sg} {d : Nat} {Q : Option (Option Value) → Sg → Prop} (hd : 4 ≤ d) (h : okx (zq_I Q) (f_Mo_good x1 s)) : Cw d M_Mo_good [.ref 46, .int x1] s Q := by
  refine Cw.of (by decide +kernel) (Nat.le_of_ble_eq_true rfl) ?_
  show Xw d M_Mo_good 0 0 0 [.ref 46, .int x1] [] s _
  unfold f_Mo_good at h
  refine xi_aload_n D_Mo_good_0 rfl ?_
  refine xi_aload_n D_Mo_good_1 rfl ?_
  obtain ⟨g1, h⟩ := okx_ck h
  refine xi_getI D_Mo_good_2 F_Mo_234 (zl_fo (g1).1 rfl) ⟨rfl, by decide⟩ ?_
  refine xi_if_le D_Mo_good_5 (fun c2 => ?_) (fun c2 => ?_)
  · have h := okx_T c2 h
    exact w_Mo_good_b20 (by omega)  h
  · have h := okx_F c2 h
    refine xi_aload_n D_Mo_good_8 rfl ?_
    refine xi_iload_n D_Mo_good_9 rfl ?_
    refine xj_V1 D_Mo_good_10 L_Mo_296 C_Mo_isPains Z_Mo_isPains (zl_fo (g1).1 rfl) (Nat.le_of_ble_eq_true rfl) (Nat.le_of_eq (Nat.sub_add_cancel (by omega))) (w_Mo_isPains (by omega) (okx_mono (okx_bd h) ?_))
    intro r3 s4 h
    show Xw _ _ _ _ 13 _ [_, _] _ _
    refine xi_if_eq D_Mo_good_13 (fun c5 => ?_) (fun c5 => ?_)
    · have h := okx_T c5 h
      exact w_Mo_good_b20 (by omega)  h
    · have h := okx_F c5 h
      refine xj_iconst (v := 0) D_Mo_good_16 rfl ?_
      refine xi_goto D_Mo_good_17 ?_
      exact w_Mo_good_b21 (by omega)  h
noncomputable def f_Mo_hands_b25 (R25 : Int32 → Int32 → Sg → Option (Int32 × Sg)) (x1 : Int32) (x2 : Int32) (s : Sg) : Option (Int32 × Sg) :=
  f_ck (zl_B s) <|
  if (mI s 46 11) ≤ x2 then
    some (x1, s)
  else
    f_ck (vp_in x2 3) <|
    let v7 : Int32 := (x1 &&& ((mI s 69 (Int32.toNatClampNeg x2)) ^^^ (-1)))
    R25 v7 (x2 + 1) s
theorem w_Mo_hands_b25 {x1 : Int32} {x2 : Int32} {s : Sg} {d : Nat} {Q : Option (Option Value) → Sg → Prop} (hd : 1 ≤ d) {R25 : Int32 → Int32 → Sg → Option (Int32 × Sg)} (hR25 : ∀ (x1 : Int32) (x2 : Int32) (s : Sg), okx (zq_I Q) (R25 x1 x2 s) → Xw d M_Mo_hands 0 0 25 [.ref 46, .int x1, .int x2] [] s Q) (h : okx (zq_I Q) (f_Mo_hands_b25 R25 x1 x2 s)) : Xw d M_Mo_hands 0 0 25 [.ref 46, .int x1, .int x2] [] s Q := by
  unfold f_Mo_hands_b25 at h
  refine xi_iload_n D_Mo_hands_25 rfl ?_
  refine xi_aload_n D_Mo_hands_26 rfl ?_
  obtain ⟨g4, h⟩ := okx_ck h
  refine xi_getI D_Mo_hands_27 F_Mo_259 (zl_fo (g4).1 rfl) ⟨rfl, by decide⟩ ?_
  refine xi_icmp_ge D_Mo_hands_30 (fun c5 => ?_) (fun c5 => ?_)
  · have h := okx_T c5 h
    refine xi_iload_n D_Mo_hands_50 rfl ?_
    exact xi_ireturn D_Mo_hands_51 rfl (rfl) (okx_I h)
  · have h := okx_F c5 h
    refine xi_iload_n D_Mo_hands_33 rfl ?_
    refine xi_aload_n D_Mo_hands_34 rfl ?_
    refine xi_getR D_Mo_hands_35 F_Mo_78 (zl_fo (g4).1 rfl) ⟨rfl, by decide⟩ (zl_gr (g4).2 rfl rfl) ?_
    refine xi_iload_n D_Mo_hands_38 rfl ?_
    obtain ⟨g6, h⟩ := okx_ck h
    refine xj_iald D_Mo_hands_39 (zl_fx (g4).1 rfl) (zl_ib (n := 3) rfl (g6)) ?_
    refine xj_iconst (v := (-1)) D_Mo_hands_40 rfl ?_
    refine xi_ixor D_Mo_hands_41 ?_
    refine xi_iand D_Mo_hands_42 ?_
    refine xi_istore_n (ls' := [_, _, _]) D_Mo_hands_43 rfl (by decide) ?_
    refine xi_iinc (v := _ + 1) (ls' := [_, _, _]) D_Mo_hands_44 rfl rfl rfl (by decide) ?_
    refine xi_goto D_Mo_hands_47 ?_
    exact hR25 _ _ _ h
noncomputable def f_Mo_hands_h25 : Nat → Int32 → Int32 → Sg → Option (Int32 × Sg)
  | 0, _, _, _ => none
  | n + 1, x1, x2, s => f_Mo_hands_b25 (f_Mo_hands_h25 n) x1 x2 s
theorem w_Mo_hands_h25 {d : Nat} {Q : Option (Option Value) → Sg → Prop} (hd : 1 ≤ d) : ∀ (n : Nat) (x1 : Int32) (x2 : Int32) (s : Sg), okx (zq_I Q) (f_Mo_hands_h25 n x1 x2 s) → Xw d M_Mo_hands 0 0 25 [.ref 46, .int x1, .int x2] [] s Q := by
  intro n
  induction n with
  | zero => intro x1 x2 s h; exact okx_no h
  | succ n ih => intro x1 x2 s h; exact w_Mo_hands_b25 hd  ih  h
noncomputable def f_Mo_hands  (s : Sg) : Option (Int32 × Sg) :=
  f_ck (zl_B s) <|
  let s2 : Sg := uI s 46 0 0
  if (mI s2 46 10) = 0 then
    some ((-1), s2)
  else
    f_Mo_hands_h25  zl_fl (((1 : Int32) <<< ((mI s2 46 10) &&& 31)) - 1) 0 s2
theorem w_Mo_hands {s : Sg} {d : Nat} {Q : Option (Option Value) → Sg → Prop} (hd : 1 ≤ d) (h : okx (zq_I Q) (f_Mo_hands  s)) : Cw d M_Mo_hands [.ref 46] s Q := by
  refine Cw.of (by decide +kernel) (Nat.le_of_ble_eq_true rfl) ?_
  show Xw d M_Mo_hands 0 0 0 [.ref 46, .retAddr 0, .retAddr 0] [] s _
  unfold f_Mo_hands at h
  refine xi_aload_n D_Mo_hands_0 rfl ?_
  refine xj_iconst (v := 0) D_Mo_hands_1 rfl ?_
  obtain ⟨g1, h⟩ := okx_ck h
  refine xi_putI D_Mo_hands_2 F_Mo_114 (zl_fo (g1).1 rfl) ⟨rfl, by decide, rfl⟩ (⟨rfl, rfl⟩) ?_
  refine xi_aload_n D_Mo_hands_5 rfl ?_
  refine xi_getI D_Mo_hands_6 F_Mo_234 (zl_fo (g1).1 rfl) ⟨rfl, by decide⟩ ?_
  refine xi_if_ne D_Mo_hands_9 (fun c3 => ?_) (fun c3 => ?_)
  · have h := okx_F c3 h
    refine xj_iconst (v := 1) D_Mo_hands_14 rfl ?_
    refine xi_aload_n D_Mo_hands_15 rfl ?_
    refine xi_getI D_Mo_hands_16 F_Mo_234 (zl_fo (g1).1 rfl) ⟨rfl, by decide⟩ ?_
    refine xi_ishl D_Mo_hands_19 ?_
    refine xj_iconst (v := 1) D_Mo_hands_20 rfl ?_
    refine xi_isub D_Mo_hands_21 ?_
    refine xi_istore_n (ls' := [_, _, _]) D_Mo_hands_22 rfl (by decide) ?_
    refine xj_iconst (v := 0) D_Mo_hands_23 rfl ?_
    refine xi_istore_n (ls' := [_, _, _]) D_Mo_hands_24 rfl (by decide) ?_
    exact w_Mo_hands_h25 (by omega)  _ _ _ _ h
  · have h := okx_T c3 h
    refine xj_iconst (v := (-1)) D_Mo_hands_12 rfl ?_
    exact xi_ireturn D_Mo_hands_13 rfl (rfl) (okx_I h)
noncomputable def f_Mo_has (x1 : Int32) (s : Sg) : Option (Int32 × Sg) :=
  f_ck (zl_B s) <|
  let s2 : Sg := uI s 46 0 0
  f_bd (f_Mo_asItIs  s2) fun r3 s4 =>
  f_ck (zl_B s4) <|
  f_bd (f_Mo_areThem x1 s4) fun r6 s7 =>
  if r6 = 0 then
    some ((-1), s7)
  else
    f_ck (zl_B s7) <|
    f_bd (f_Mo_hasBy 0 x1 s7) fun r10 s11 =>
    some (r10, s11)
theorem w_Mo_has {x1 : Int32} {s : Sg} {d : Nat} {Q : Option (Option Value) → Sg → Prop} (hd : 4 ≤ d) (h : okx (zq_I Q) (f_Mo_has x1 s)) : Cw d M_Mo_has [.ref 46, .int x1] s Q := by
  refine Cw.of (by decide +kernel) (Nat.le_of_ble_eq_true rfl) ?_
  show Xw d M_Mo_has 0 0 0 [.ref 46, .int x1] [] s _
  unfold f_Mo_has at h
  refine xi_aload_n D_Mo_has_0 rfl ?_
  refine xj_iconst (v := 0) D_Mo_has_1 rfl ?_
  obtain ⟨g1, h⟩ := okx_ck h
  refine xi_putI D_Mo_has_2 F_Mo_114 (zl_fo (g1).1 rfl) ⟨rfl, by decide, rfl⟩ (⟨rfl, rfl⟩) ?_
  refine xi_aload_n D_Mo_has_5 rfl ?_
  refine xj_V0 D_Mo_has_6 L_Mo_325 C_Mo_asItIs Z_Mo_asItIs (zl_fo (g1).1 rfl) (Nat.le_of_ble_eq_true rfl) (Nat.le_of_eq (Nat.sub_add_cancel (by omega))) (w_Mo_asItIs (by omega) (okx_mono (okx_bd h) ?_))
  intro r3 s4 h
  show Xw _ _ _ _ 9 _ [] _ _
  refine xi_aload_n D_Mo_has_9 rfl ?_
  refine xi_iload_n D_Mo_has_10 rfl ?_
  obtain ⟨g5, h⟩ := okx_ck h
  refine xj_V1 D_Mo_has_11 L_Mo_293 C_Mo_areThem Z_Mo_areThem (zl_fo (g5).1 rfl) (Nat.le_of_ble_eq_true rfl) (Nat.le_of_eq (Nat.sub_add_cancel (by omega))) (w_Mo_areThem (by omega) (okx_mono (okx_bd h) ?_))
  intro r6 s7 h
  show Xw _ _ _ _ 14 _ [_] _ _
  refine xi_if_eq D_Mo_has_14 (fun c8 => ?_) (fun c8 => ?_)
  · have h := okx_T c8 h
    refine xj_iconst (v := (-1)) D_Mo_has_26 rfl ?_
    exact xi_ireturn D_Mo_has_27 rfl (rfl) (okx_I h)
  · have h := okx_F c8 h
    refine xi_aload_n D_Mo_has_17 rfl ?_
    refine xj_iconst (v := 0) D_Mo_has_18 rfl ?_
    refine xi_iload_n D_Mo_has_19 rfl ?_
    obtain ⟨g9, h⟩ := okx_ck h
    refine xj_V2 D_Mo_has_20 L_Mo_316 C_Mo_hasBy Z_Mo_hasBy (zl_fo (g9).1 rfl) (Nat.le_of_ble_eq_true rfl) (Nat.le_of_eq (Nat.sub_add_cancel (by omega))) (w_Mo_hasBy (by omega) (okx_mono (okx_bd h) ?_))
    intro r10 s11 h
    show Xw _ _ _ _ 23 _ [_] _ _
    refine xi_goto D_Mo_has_23 ?_
    exact xi_ireturn D_Mo_has_27 rfl (rfl) (okx_I h)
noncomputable def f_Mo_isKept_b88  (s : Sg) : Option (Int32 × Sg) :=
  some (1, s)
theorem w_Mo_isKept_b88 {s : Sg} {d : Nat} {Q : Option (Option Value) → Sg → Prop} (hd : 1 ≤ d) (h : okx (zq_I Q) (f_Mo_isKept_b88  s)) : Xw d M_Mo_isKept 0 0 88 [.retAddr 0] [] s Q := by
  unfold f_Mo_isKept_b88 at h
  refine xj_iconst (v := 1) D_Mo_isKept_88 rfl ?_
  refine xi_goto D_Mo_isKept_89 ?_
  exact xi_ireturn D_Mo_isKept_93 rfl (rfl) (okx_I h)
noncomputable def f_Mo_isKept  (s : Sg) : Option (Int32 × Sg) :=
  f_ck (zl_B s) <|
  if (lg_cmp (mL s 46 7) 232608281) = 0 then
    f_Mo_isKept_b88   s
  else
    if (lg_cmp (mL s 46 7) 1903978) = 0 then
      f_Mo_isKept_b88   s
    else
      if (lg_cmp (mL s 46 7) 10793230) = 0 then
        f_Mo_isKept_b88   s
      else
        if (lg_cmp (mL s 46 7) 6936589) = 0 then
          f_Mo_isKept_b88   s
        else
          if (lg_cmp (mL s 46 7) 459818) = 0 then
            f_Mo_isKept_b88   s
          else
            if (lg_cmp (mL s 46 7) 10631) = 0 then
              f_Mo_isKept_b88   s
            else
              if (lg_cmp (mL s 46 7) 1111) = 0 then
                f_Mo_isKept_b88   s
              else
                if (lg_cmp (mL s 46 7) 423) = 0 then
                  f_Mo_isKept_b88   s
                else
                  some (0, s)
theorem w_Mo_isKept {s : Sg} {d : Nat} {Q : Option (Option Value) → Sg → Prop} (hd : 1 ≤ d) (h : okx (zq_I Q) (f_Mo_isKept  s)) : Cw d M_Mo_isKept [.ref 46] s Q := by
  refine Cw.of (by decide +kernel) (Nat.le_of_ble_eq_true rfl) ?_
  show Xw d M_Mo_isKept 0 0 0 [.ref 46] [] s _
  unfold f_Mo_isKept at h
  refine xi_aload_n D_Mo_isKept_0 rfl ?_
  obtain ⟨g1, h⟩ := okx_ck h
  refine xi_getL D_Mo_isKept_1 F_Mo_132 (zl_fo (g1).1 rfl) ⟨rfl, by decide⟩ ?_
  refine xi_ldc2 D_Mo_isKept_4 K_Mo_156 ?_
  refine xi_lcmp D_Mo_isKept_7 ?_
  refine xi_if_eq D_Mo_isKept_8 (fun c2 => ?_) (fun c2 => ?_)
  · have h := okx_T c2 h
    exact xk_wk (w_Mo_isKept_b88 (by omega)  h) ⟨Or.inr rfl, trivial⟩
  · have h := okx_F c2 h
    refine xi_aload_n D_Mo_isKept_11 rfl ?_
    refine xi_getL D_Mo_isKept_12 F_Mo_132 (zl_fo (g1).1 rfl) ⟨rfl, by decide⟩ ?_
    refine xi_ldc2 D_Mo_isKept_15 K_Mo_158 ?_
    refine xi_lcmp D_Mo_isKept_18 ?_
    refine xi_if_eq D_Mo_isKept_19 (fun c3 => ?_) (fun c3 => ?_)
    · have h := okx_T c3 h
      exact xk_wk (w_Mo_isKept_b88 (by omega)  h) ⟨Or.inr rfl, trivial⟩
    · have h := okx_F c3 h
      refine xi_aload_n D_Mo_isKept_22 rfl ?_
      refine xi_getL D_Mo_isKept_23 F_Mo_132 (zl_fo (g1).1 rfl) ⟨rfl, by decide⟩ ?_
      refine xi_ldc2 D_Mo_isKept_26 K_Mo_160 ?_
      refine xi_lcmp D_Mo_isKept_29 ?_
      refine xi_if_eq D_Mo_isKept_30 (fun c4 => ?_) (fun c4 => ?_)
      · have h := okx_T c4 h
        exact xk_wk (w_Mo_isKept_b88 (by omega)  h) ⟨Or.inr rfl, trivial⟩
      · have h := okx_F c4 h
        refine xi_aload_n D_Mo_isKept_33 rfl ?_
        refine xi_getL D_Mo_isKept_34 F_Mo_132 (zl_fo (g1).1 rfl) ⟨rfl, by decide⟩ ?_
        refine xi_ldc2 D_Mo_isKept_37 K_Mo_162 ?_
        refine xi_lcmp D_Mo_isKept_40 ?_
        refine xi_if_eq D_Mo_isKept_41 (fun c5 => ?_) (fun c5 => ?_)
        · have h := okx_T c5 h
          exact xk_wk (w_Mo_isKept_b88 (by omega)  h) ⟨Or.inr rfl, trivial⟩
        · have h := okx_F c5 h
          refine xi_aload_n D_Mo_isKept_44 rfl ?_
          refine xi_getL D_Mo_isKept_45 F_Mo_132 (zl_fo (g1).1 rfl) ⟨rfl, by decide⟩ ?_
          refine xi_ldc2 D_Mo_isKept_48 K_Mo_164 ?_
          refine xi_lcmp D_Mo_isKept_51 ?_
          refine xi_if_eq D_Mo_isKept_52 (fun c6 => ?_) (fun c6 => ?_)
          · have h := okx_T c6 h
            exact xk_wk (w_Mo_isKept_b88 (by omega)  h) ⟨Or.inr rfl, trivial⟩
          · have h := okx_F c6 h
            refine xi_aload_n D_Mo_isKept_55 rfl ?_
            refine xi_getL D_Mo_isKept_56 F_Mo_132 (zl_fo (g1).1 rfl) ⟨rfl, by decide⟩ ?_
            refine xi_ldc2 D_Mo_isKept_59 K_Mo_166 ?_
            refine xi_lcmp D_Mo_isKept_62 ?_
            refine xi_if_eq D_Mo_isKept_63 (fun c7 => ?_) (fun c7 => ?_)
            · have h := okx_T c7 h
              exact xk_wk (w_Mo_isKept_b88 (by omega)  h) ⟨Or.inr rfl, trivial⟩
            · have h := okx_F c7 h
              refine xi_aload_n D_Mo_isKept_66 rfl ?_
              refine xi_getL D_Mo_isKept_67 F_Mo_132 (zl_fo (g1).1 rfl) ⟨rfl, by decide⟩ ?_
              refine xi_ldc2 D_Mo_isKept_70 K_Mo_168 ?_
              refine xi_lcmp D_Mo_isKept_73 ?_
              refine xi_if_eq D_Mo_isKept_74 (fun c8 => ?_) (fun c8 => ?_)
              · have h := okx_T c8 h
                exact xk_wk (w_Mo_isKept_b88 (by omega)  h) ⟨Or.inr rfl, trivial⟩
              · have h := okx_F c8 h
                refine xi_aload_n D_Mo_isKept_77 rfl ?_
                refine xi_getL D_Mo_isKept_78 F_Mo_132 (zl_fo (g1).1 rfl) ⟨rfl, by decide⟩ ?_
                refine xi_ldc2 D_Mo_isKept_81 K_Mo_170 ?_
                refine xi_lcmp D_Mo_isKept_84 ?_
                refine xi_if_ne D_Mo_isKept_85 (fun c9 => ?_) (fun c9 => ?_)
                · have h := okx_F c9 h
                  refine xj_iconst (v := 0) D_Mo_isKept_92 rfl ?_
                  exact xi_ireturn D_Mo_isKept_93 rfl (rfl) (okx_I h)
                · have h := okx_T c9 h
                  exact xk_wk (w_Mo_isKept_b88 (by omega)  h) ⟨Or.inr rfl, trivial⟩
noncomputable def f_Mo_isName  (s : Sg) : Option (Int32 × Sg) :=
  f_ck (zl_B s) <|
  if (mI s 46 6) = 1 then
    f_bd (f_Mo_isKept  s) fun r3 s4 =>
    if r3 = 0 then
      some (1, s4)
    else
      some (0, s4)
  else
    some (0, s)
theorem w_Mo_isName {s : Sg} {d : Nat} {Q : Option (Option Value) → Sg → Prop} (hd : 2 ≤ d) (h : okx (zq_I Q) (f_Mo_isName  s)) : Cw d M_Mo_isName [.ref 46] s Q := by
  refine Cw.of (by decide +kernel) (Nat.le_of_ble_eq_true rfl) ?_
  show Xw d M_Mo_isName 0 0 0 [.ref 46] [] s _
  unfold f_Mo_isName at h
  refine xi_aload_n D_Mo_isName_0 rfl ?_
  obtain ⟨g1, h⟩ := okx_ck h
  refine xi_getI D_Mo_isName_1 F_Mo_139 (zl_fo (g1).1 rfl) ⟨rfl, by decide⟩ ?_
  refine xj_iconst (v := 1) D_Mo_isName_4 rfl ?_
  refine xi_icmp_ne D_Mo_isName_5 (fun c2 => ?_) (fun c2 => ?_)
  · have h := okx_F c2 h
    refine xj_iconst (v := 0) D_Mo_isName_19 rfl ?_
    exact xi_ireturn D_Mo_isName_20 rfl (rfl) (okx_I h)
  · have h := okx_T c2 h
    refine xi_aload_n D_Mo_isName_8 rfl ?_
    refine xj_V0 D_Mo_isName_9 L_Mo_172 C_Mo_isKept Z_Mo_isKept (zl_fo (g1).1 rfl) (Nat.le_of_ble_eq_true rfl) (Nat.le_of_eq (Nat.sub_add_cancel (by omega))) (w_Mo_isKept (by omega) (okx_mono (okx_bd h) ?_))
    intro r3 s4 h
    show Xw _ _ _ _ 12 _ [_] _ _
    refine xi_if_ne D_Mo_isName_12 (fun c5 => ?_) (fun c5 => ?_)
    · have h := okx_F c5 h
      refine xj_iconst (v := 0) D_Mo_isName_19 rfl ?_
      exact xi_ireturn D_Mo_isName_20 rfl (rfl) (okx_I h)
    · have h := okx_T c5 h
      refine xj_iconst (v := 1) D_Mo_isName_15 rfl ?_
      refine xi_goto D_Mo_isName_16 ?_
      exact xi_ireturn D_Mo_isName_20 rfl (rfl) (okx_I h)
noncomputable def f_Mo_isOwning_b40  (s : Sg) : Option (Int32 × Sg) :=
  some (1, s)
theorem w_Mo_isOwning_b40 {s : Sg} {d : Nat} {Q : Option (Option Value) → Sg → Prop} (hd : 2 ≤ d) (h : okx (zq_I Q) (f_Mo_isOwning_b40  s)) : Xw d M_Mo_isOwning 0 0 40 [.retAddr 0, .retAddr 0, .retAddr 0, .retAddr 0] [] s Q := by
  unfold f_Mo_isOwning_b40 at h
  refine xj_iconst (v := 1) D_Mo_isOwning_40 rfl ?_
  refine xi_goto D_Mo_isOwning_41 ?_
  exact xi_ireturn D_Mo_isOwning_45 rfl (rfl) (okx_I h)
noncomputable def f_Mo_isOwning (x1 : Int32) (x2 : Int32) (x3 : Int32) (s : Sg) : Option (Int32 × Sg) :=
  f_ck (zl_B s) <|
  f_bd (f_Mo_isThing x1 s) fun r2 s3 =>
  if r2 = 0 then
    some (0, s3)
  else
    f_ck (zl_B s3) <|
    f_bd (f_Mo_areThem x2 s3) fun r6 s7 =>
    if r6 = 0 then
      some (0, s7)
    else
      if x2 = 0 then
        if x3 = 1 then
          f_Mo_isOwning_b40   s7
        else
          some (0, s7)
      else
        f_bd (f_Mo_bits x2 s7) fun r11 s12 =>
        f_bd (f_Mo_within x3 1 r11 s12) fun r13 s14 =>
        if r13 = 0 then
          some (0, s14)
        else
          f_Mo_isOwning_b40   s14
theorem w_Mo_isOwning {x1 : Int32} {x2 : Int32} {x3 : Int32} {s : Sg} {d : Nat} {Q : Option (Option Value) → Sg → Prop} (hd : 2 ≤ d) (h : okx (zq_I Q) (f_Mo_isOwning x1 x2 x3 s)) : Cw d M_Mo_isOwning [.ref 46, .int x1, .int x2, .int x3] s Q := by
  refine Cw.of (by decide +kernel) (Nat.le_of_ble_eq_true rfl) ?_
  show Xw d M_Mo_isOwning 0 0 0 [.ref 46, .int x1, .int x2, .int x3] [] s _
  unfold f_Mo_isOwning at h
  refine xi_aload_n D_Mo_isOwning_0 rfl ?_
  refine xi_iload_n D_Mo_isOwning_1 rfl ?_
  obtain ⟨g1, h⟩ := okx_ck h
  refine xj_V1 D_Mo_isOwning_2 L_Mo_303 C_Mo_isThing Z_Mo_isThing (zl_fo (g1).1 rfl) (Nat.le_of_ble_eq_true rfl) (Nat.le_of_eq (Nat.sub_add_cancel (by omega))) (w_Mo_isThing (by omega) (okx_mono (okx_bd h) ?_))
  intro r2 s3 h
  show Xw _ _ _ _ 5 _ [_] _ _
  refine xi_if_eq D_Mo_isOwning_5 (fun c4 => ?_) (fun c4 => ?_)
  · have h := okx_T c4 h
    refine xj_iconst (v := 0) D_Mo_isOwning_44 rfl ?_
    exact xi_ireturn D_Mo_isOwning_45 rfl (rfl) (okx_I h)
  · have h := okx_F c4 h
    refine xi_aload_n D_Mo_isOwning_8 rfl ?_
    refine xi_iload_n D_Mo_isOwning_9 rfl ?_
    obtain ⟨g5, h⟩ := okx_ck h
    refine xj_V1 D_Mo_isOwning_10 L_Mo_293 C_Mo_areThem Z_Mo_areThem (zl_fo (g5).1 rfl) (Nat.le_of_ble_eq_true rfl) (Nat.le_of_eq (Nat.sub_add_cancel (by omega))) (w_Mo_areThem (by omega) (okx_mono (okx_bd h) ?_))
    intro r6 s7 h
    show Xw _ _ _ _ 13 _ [_] _ _
    refine xi_if_eq D_Mo_isOwning_13 (fun c8 => ?_) (fun c8 => ?_)
    · have h := okx_T c8 h
      refine xj_iconst (v := 0) D_Mo_isOwning_44 rfl ?_
      exact xi_ireturn D_Mo_isOwning_45 rfl (rfl) (okx_I h)
    · have h := okx_F c8 h
      refine xi_iload_n D_Mo_isOwning_16 rfl ?_
      refine xi_if_ne D_Mo_isOwning_17 (fun c9 => ?_) (fun c9 => ?_)
      · have h := okx_F c9 h
        refine xi_iload_n D_Mo_isOwning_28 rfl ?_
        refine xj_iconst (v := 1) D_Mo_isOwning_29 rfl ?_
        refine xi_iload_n D_Mo_isOwning_30 rfl ?_
        refine xj_S1 D_Mo_isOwning_31 L_Mo_306 C_Mo_bits Z_Mo_bits (Nat.le_of_ble_eq_true rfl) (Nat.le_of_eq (Nat.sub_add_cancel (by omega))) (w_Mo_bits (by omega) (okx_mono (okx_bd h) ?_))
        intro r11 s12 h
        show Xw _ _ _ _ 34 _ [_, _, _] _ _
        refine xj_S3 D_Mo_isOwning_34 L_Mo_268 C_Mo_within Z_Mo_within (Nat.le_of_ble_eq_true rfl) (Nat.le_of_eq (Nat.sub_add_cancel (by omega))) (w_Mo_within (by omega) (okx_mono (okx_bd h) ?_))
        intro r13 s14 h
        show Xw _ _ _ _ 37 _ [_] _ _
        refine xi_if_eq D_Mo_isOwning_37 (fun c15 => ?_) (fun c15 => ?_)
        · have h := okx_T c15 h
          refine xj_iconst (v := 0) D_Mo_isOwning_44 rfl ?_
          exact xi_ireturn D_Mo_isOwning_45 rfl (rfl) (okx_I h)
        · have h := okx_F c15 h
          exact xk_wk (w_Mo_isOwning_b40 (by omega)  h) ⟨Or.inr rfl, Or.inr rfl, Or.inr rfl, Or.inr rfl, trivial⟩
      · have h := okx_T c9 h
        refine xi_iload_n D_Mo_isOwning_20 rfl ?_
        refine xj_iconst (v := 1) D_Mo_isOwning_21 rfl ?_
        refine xi_icmp_ne D_Mo_isOwning_22 (fun c10 => ?_) (fun c10 => ?_)
        · have h := okx_F c10 h
          refine xj_iconst (v := 0) D_Mo_isOwning_44 rfl ?_
          exact xi_ireturn D_Mo_isOwning_45 rfl (rfl) (okx_I h)
        · have h := okx_T c10 h
          refine xi_goto D_Mo_isOwning_25 ?_
          exact xk_wk (w_Mo_isOwning_b40 (by omega)  h) ⟨Or.inr rfl, Or.inr rfl, Or.inr rfl, Or.inr rfl, trivial⟩
noncomputable def f_Mo_isRest (x1 : Int32) (s : Sg) : Option (Int32 × Sg) :=
  f_ck (zl_B s) <|
  let s2 : Sg := uI s 46 0 0
  f_bd (f_Mo_asItIs  s2) fun r3 s4 =>
  f_ck (zl_B s4) <|
  if (mI s4 46 10) ≤ 0 then
    some ((-1), s4)
  else
    f_bd (f_Mo_isPains x1 s4) fun r7 s8 =>
    if r7 = 0 then
      some ((-1), s8)
    else
      f_ck (zl_B s8) <|
      f_bd (f_Mo_areAtRest x1 s8) fun r11 s12 =>
      if r11 = 0 then
        some (0, s12)
      else
        some (1, s12)
theorem w_Mo_isRest {x1 : Int32} {s : Sg} {d : Nat} {Q : Option (Option Value) → Sg → Prop} (hd : 11 ≤ d) (h : okx (zq_I Q) (f_Mo_isRest x1 s)) : Cw d M_Mo_isRest [.ref 46, .int x1] s Q := by
  refine Cw.of (by decide +kernel) (Nat.le_of_ble_eq_true rfl) ?_
  show Xw d M_Mo_isRest 0 0 0 [.ref 46, .int x1] [] s _
  unfold f_Mo_isRest at h
  refine xi_aload_n D_Mo_isRest_0 rfl ?_
  refine xj_iconst (v := 0) D_Mo_isRest_1 rfl ?_
  obtain ⟨g1, h⟩ := okx_ck h
  refine xi_putI D_Mo_isRest_2 F_Mo_114 (zl_fo (g1).1 rfl) ⟨rfl, by decide, rfl⟩ (⟨rfl, rfl⟩) ?_
  refine xi_aload_n D_Mo_isRest_5 rfl ?_
  refine xj_V0 D_Mo_isRest_6 L_Mo_325 C_Mo_asItIs Z_Mo_asItIs (zl_fo (g1).1 rfl) (Nat.le_of_ble_eq_true rfl) (Nat.le_of_eq (Nat.sub_add_cancel (by omega))) (w_Mo_asItIs (by omega) (okx_mono (okx_bd h) ?_))
  intro r3 s4 h
  show Xw _ _ _ _ 9 _ [] _ _
  refine xi_aload_n D_Mo_isRest_9 rfl ?_
  obtain ⟨g5, h⟩ := okx_ck h
  refine xi_getI D_Mo_isRest_10 F_Mo_234 (zl_fo (g5).1 rfl) ⟨rfl, by decide⟩ ?_
  refine xi_if_le D_Mo_isRest_13 (fun c6 => ?_) (fun c6 => ?_)
  · have h := okx_T c6 h
    refine xj_iconst (v := (-1)) D_Mo_isRest_40 rfl ?_
    exact xi_ireturn D_Mo_isRest_41 rfl (rfl) (okx_I h)
  · have h := okx_F c6 h
    refine xi_aload_n D_Mo_isRest_16 rfl ?_
    refine xi_iload_n D_Mo_isRest_17 rfl ?_
    refine xj_V1 D_Mo_isRest_18 L_Mo_296 C_Mo_isPains Z_Mo_isPains (zl_fo (g5).1 rfl) (Nat.le_of_ble_eq_true rfl) (Nat.le_of_eq (Nat.sub_add_cancel (by omega))) (w_Mo_isPains (by omega) (okx_mono (okx_bd h) ?_))
    intro r7 s8 h
    show Xw _ _ _ _ 21 _ [_] _ _
    refine xi_if_eq D_Mo_isRest_21 (fun c9 => ?_) (fun c9 => ?_)
    · have h := okx_T c9 h
      refine xj_iconst (v := (-1)) D_Mo_isRest_40 rfl ?_
      exact xi_ireturn D_Mo_isRest_41 rfl (rfl) (okx_I h)
    · have h := okx_F c9 h
      refine xi_aload_n D_Mo_isRest_24 rfl ?_
      refine xi_iload_n D_Mo_isRest_25 rfl ?_
      obtain ⟨g10, h⟩ := okx_ck h
      refine xj_V1 D_Mo_isRest_26 L_Mo_378 C_Mo_areAtRest Z_Mo_areAtRest (zl_fo (g10).1 rfl) (Nat.le_of_ble_eq_true rfl) (Nat.le_of_eq (Nat.sub_add_cancel (by omega))) (w_Mo_areAtRest (by omega) (okx_mono (okx_bd h) ?_))
      intro r11 s12 h
      show Xw _ _ _ _ 29 _ [_] _ _
      refine xi_if_eq D_Mo_isRest_29 (fun c13 => ?_) (fun c13 => ?_)
      · have h := okx_T c13 h
        refine xj_iconst (v := 0) D_Mo_isRest_36 rfl ?_
        refine xi_goto D_Mo_isRest_37 ?_
        exact xi_ireturn D_Mo_isRest_41 rfl (rfl) (okx_I h)
      · have h := okx_F c13 h
        refine xj_iconst (v := 1) D_Mo_isRest_32 rfl ?_
        refine xi_goto D_Mo_isRest_33 ?_
        exact xi_ireturn D_Mo_isRest_41 rfl (rfl) (okx_I h)
noncomputable def f_Mo_isWord (x1 : Int64) (s : Sg) : Option (Int32 × Sg) :=
  f_ck (zl_B s) <|
  if (mI s 46 6) = 1 then
    if (lg_cmp (mL s 46 7) x1) = 0 then
      some (1, s)
    else
      some (0, s)
  else
    some (0, s)
theorem w_Mo_isWord {x1 : Int64} {s : Sg} {d : Nat} {Q : Option (Option Value) → Sg → Prop} (hd : 1 ≤ d) (h : okx (zq_I Q) (f_Mo_isWord x1 s)) : Cw d M_Mo_isWord [.ref 46, .long x1] s Q := by
  refine Cw.of (by decide +kernel) (Nat.le_of_ble_eq_true rfl) ?_
  show Xw d M_Mo_isWord 0 0 0 [.ref 46, .long x1, .retAddr 0] [] s _
  unfold f_Mo_isWord at h
  refine xi_aload_n D_Mo_isWord_0 rfl ?_
  obtain ⟨g1, h⟩ := okx_ck h
  refine xi_getI D_Mo_isWord_1 F_Mo_139 (zl_fo (g1).1 rfl) ⟨rfl, by decide⟩ ?_
  refine xj_iconst (v := 1) D_Mo_isWord_4 rfl ?_
  refine xi_icmp_ne D_Mo_isWord_5 (fun c2 => ?_) (fun c2 => ?_)
  · have h := okx_F c2 h
    refine xj_iconst (v := 0) D_Mo_isWord_21 rfl ?_
    exact xi_ireturn D_Mo_isWord_22 rfl (rfl) (okx_I h)
  · have h := okx_T c2 h
    refine xi_aload_n D_Mo_isWord_8 rfl ?_
    refine xi_getL D_Mo_isWord_9 F_Mo_132 (zl_fo (g1).1 rfl) ⟨rfl, by decide⟩ ?_
    refine xi_lload_n D_Mo_isWord_12 rfl ?_
    refine xi_lcmp D_Mo_isWord_13 ?_
    refine xi_if_ne D_Mo_isWord_14 (fun c3 => ?_) (fun c3 => ?_)
    · have h := okx_F c3 h
      refine xj_iconst (v := 0) D_Mo_isWord_21 rfl ?_
      exact xi_ireturn D_Mo_isWord_22 rfl (rfl) (okx_I h)
    · have h := okx_T c3 h
      refine xj_iconst (v := 1) D_Mo_isWord_17 rfl ?_
      refine xi_goto D_Mo_isWord_18 ?_
      exact xi_ireturn D_Mo_isWord_22 rfl (rfl) (okx_I h)
noncomputable def f_Mo_joint_b138 (R86 : Int32 → Int32 → Int32 → Int32 → Sg → Option (Int32 × Sg)) (x1 : Int32) (x3 : Int32) (x5 : Int32) (y0 : Int32) (y1 : Int32) (s : Sg) : Option (Int32 × Sg) :=
  R86 x1 x3 (y0 + y1) (x5 + 1) s
theorem w_Mo_joint_b138 {x1 : Int32} {x3 : Int32} {x5 : Int32} {y0 : Int32} {y1 : Int32} {s : Sg} {d : Nat} {Q : Option (Option Value) → Sg → Prop} (hd : 13 ≤ d) {R86 : Int32 → Int32 → Int32 → Int32 → Sg → Option (Int32 × Sg)} (hR86 : ∀ (x1 : Int32) (x3 : Int32) (x4 : Int32) (x5 : Int32) (s : Sg), okx (zq_I Q) (R86 x1 x3 x4 x5 s) → Xw d M_Mo_joint 0 0 86 [.ref 46, .int x1, .retAddr 0, .int x3, .int x4, .int x5] [] s Q) (h : okx (zq_I Q) (f_Mo_joint_b138 R86 x1 x3 x5 y0 y1 s)) : Xw d M_Mo_joint 0 0 138 [.ref 46, .int x1, .retAddr 0, .int x3, .retAddr 0, .int x5] [.int y1, .int y0] s Q := by
  unfold f_Mo_joint_b138 at h
  refine xi_iadd D_Mo_joint_138 ?_
  refine xi_istore (ls' := [_, _, _, _, _, _]) D_Mo_joint_139 rfl (by decide) ?_
  refine xi_iinc (v := _ + 1) (ls' := [_, _, _, _, _, _]) D_Mo_joint_141 rfl rfl rfl (by decide) ?_
  refine xi_goto D_Mo_joint_144 ?_
  exact hR86 _ _ _ _ _ h
noncomputable def f_Mo_joint_b133 (R86 : Int32 → Int32 → Int32 → Int32 → Sg → Option (Int32 × Sg)) (x1 : Int32) (x3 : Int32) (x5 : Int32) (y0 : Int32) (s : Sg) : Option (Int32 × Sg) :=
  f_Mo_joint_b138 R86 x1 x3 x5 y0 1 s
theorem w_Mo_joint_b133 {x1 : Int32} {x3 : Int32} {x5 : Int32} {y0 : Int32} {s : Sg} {d : Nat} {Q : Option (Option Value) → Sg → Prop} (hd : 13 ≤ d) {R86 : Int32 → Int32 → Int32 → Int32 → Sg → Option (Int32 × Sg)} (hR86 : ∀ (x1 : Int32) (x3 : Int32) (x4 : Int32) (x5 : Int32) (s : Sg), okx (zq_I Q) (R86 x1 x3 x4 x5 s) → Xw d M_Mo_joint 0 0 86 [.ref 46, .int x1, .retAddr 0, .int x3, .int x4, .int x5] [] s Q) (h : okx (zq_I Q) (f_Mo_joint_b133 R86 x1 x3 x5 y0 s)) : Xw d M_Mo_joint 0 0 133 [.ref 46, .int x1, .retAddr 0, .int x3, .retAddr 0, .int x5] [.int y0] s Q := by
  unfold f_Mo_joint_b133 at h
  refine xj_iconst (v := 1) D_Mo_joint_133 rfl ?_
  refine xi_goto D_Mo_joint_134 ?_
  exact w_Mo_joint_b138 (by omega) hR86 h
noncomputable def f_Mo_joint_b137 (R86 : Int32 → Int32 → Int32 → Int32 → Sg → Option (Int32 × Sg)) (x1 : Int32) (x3 : Int32) (x5 : Int32) (y0 : Int32) (s : Sg) : Option (Int32 × Sg) :=
  f_Mo_joint_b138 R86 x1 x3 x5 y0 0 s
theorem w_Mo_joint_b137 {x1 : Int32} {x3 : Int32} {x5 : Int32} {y0 : Int32} {s : Sg} {d : Nat} {Q : Option (Option Value) → Sg → Prop} (hd : 13 ≤ d) {R86 : Int32 → Int32 → Int32 → Int32 → Sg → Option (Int32 × Sg)} (hR86 : ∀ (x1 : Int32) (x3 : Int32) (x4 : Int32) (x5 : Int32) (s : Sg), okx (zq_I Q) (R86 x1 x3 x4 x5 s) → Xw d M_Mo_joint 0 0 86 [.ref 46, .int x1, .retAddr 0, .int x3, .int x4, .int x5] [] s Q) (h : okx (zq_I Q) (f_Mo_joint_b137 R86 x1 x3 x5 y0 s)) : Xw d M_Mo_joint 0 0 137 [.ref 46, .int x1, .retAddr 0, .int x3, .retAddr 0, .int x5] [.int y0] s Q := by
  unfold f_Mo_joint_b137 at h
  refine xj_iconst (v := 0) D_Mo_joint_137 rfl ?_
  exact w_Mo_joint_b138 (by omega) hR86 h
noncomputable def f_Mo_joint_b86 (R86 : Int32 → Int32 → Int32 → Int32 → Sg → Option (Int32 × Sg)) (x1 : Int32) (x3 : Int32) (x4 : Int32) (x5 : Int32) (s : Sg) : Option (Int32 × Sg) :=
  f_ck (zl_B s) <|
  f_bd (f_Mo_owningsOf  s) fun r16 s17 =>
  if r16 ≤ x5 then
    some (x4, s17)
  else
    f_ck (zl_B s17) <|
    f_bd (f_Mo_reachBy x5 s17) fun r20 s21 =>
    f_ck (zl_B s21) <|
    if (mI s21 46 55) = 0 then
      f_Mo_joint_b137 R86 x1 x3 x5 x4 s21
    else
      if x1 = 0 then
        if x3 ≤ (mI s21 46 56) then
          f_Mo_joint_b137 R86 x1 x3 x5 x4 s21
        else
          f_Mo_joint_b133 R86 x1 x3 x5 x4 s21
      else
        if (mI s21 46 56) ≤ x3 then
          f_Mo_joint_b137 R86 x1 x3 x5 x4 s21
        else
          f_Mo_joint_b133 R86 x1 x3 x5 x4 s21
theorem w_Mo_joint_b86 {x1 : Int32} {x3 : Int32} {x4 : Int32} {x5 : Int32} {s : Sg} {d : Nat} {Q : Option (Option Value) → Sg → Prop} (hd : 13 ≤ d) {R86 : Int32 → Int32 → Int32 → Int32 → Sg → Option (Int32 × Sg)} (hR86 : ∀ (x1 : Int32) (x3 : Int32) (x4 : Int32) (x5 : Int32) (s : Sg), okx (zq_I Q) (R86 x1 x3 x4 x5 s) → Xw d M_Mo_joint 0 0 86 [.ref 46, .int x1, .retAddr 0, .int x3, .int x4, .int x5] [] s Q) (h : okx (zq_I Q) (f_Mo_joint_b86 R86 x1 x3 x4 x5 s)) : Xw d M_Mo_joint 0 0 86 [.ref 46, .int x1, .retAddr 0, .int x3, .int x4, .int x5] [] s Q := by
  unfold f_Mo_joint_b86 at h
  refine xi_iload D_Mo_joint_86 rfl ?_
  refine xi_aload_n D_Mo_joint_88 rfl ?_
  obtain ⟨g15, h⟩ := okx_ck h
  refine xj_V0 D_Mo_joint_89 L_Mo_406 C_Mo_owningsOf Z_Mo_owningsOf (zl_fo (g15).1 rfl) (Nat.le_of_ble_eq_true rfl) (Nat.le_of_eq (Nat.sub_add_cancel (by omega))) (w_Mo_owningsOf (by omega) (okx_mono (okx_bd h) ?_))
  intro r16 s17 h
  show Xw _ _ _ _ 92 _ [_, _] _ _
  refine xi_icmp_ge D_Mo_joint_92 (fun c18 => ?_) (fun c18 => ?_)
  · have h := okx_T c18 h
    refine xi_iload D_Mo_joint_147 rfl ?_
    exact xi_ireturn D_Mo_joint_149 rfl (rfl) (okx_I h)
  · have h := okx_F c18 h
    refine xi_aload_n D_Mo_joint_95 rfl ?_
    refine xi_iload D_Mo_joint_96 rfl ?_
    obtain ⟨g19, h⟩ := okx_ck h
    refine xj_V1 D_Mo_joint_98 L_Mo_409 C_Mo_reachBy Z_Mo_reachBy (zl_fo (g19).1 rfl) (Nat.le_of_ble_eq_true rfl) (Nat.le_of_eq (Nat.sub_add_cancel (by omega))) (w_Mo_reachBy (by omega) (okx_mono (okx_bd h) ?_))
    intro r20 s21 h
    show Xw _ _ _ _ 101 _ [] _ _
    refine xi_iload D_Mo_joint_101 rfl ?_
    refine xi_aload_n D_Mo_joint_103 rfl ?_
    obtain ⟨g22, h⟩ := okx_ck h
    refine xi_getI D_Mo_joint_104 F_Mo_393 (zl_fo (g22).1 rfl) ⟨rfl, by decide⟩ ?_
    refine xi_if_eq D_Mo_joint_107 (fun c23 => ?_) (fun c23 => ?_)
    · have h := okx_T c23 h
      exact xk_wk (w_Mo_joint_b137 (by omega) hR86 h) ⟨Or.inl rfl, Or.inl rfl, Or.inl rfl, Or.inl rfl, Or.inr rfl, Or.inl rfl, trivial⟩
    · have h := okx_F c23 h
      refine xi_iload_n D_Mo_joint_110 rfl ?_
      refine xi_if_ne D_Mo_joint_111 (fun c24 => ?_) (fun c24 => ?_)
      · have h := okx_F c24 h
        refine xi_aload_n D_Mo_joint_125 rfl ?_
        refine xi_getI D_Mo_joint_126 F_Mo_397 (zl_fo (g22).1 rfl) ⟨rfl, by decide⟩ ?_
        refine xi_iload_n D_Mo_joint_129 rfl ?_
        refine xi_icmp_le D_Mo_joint_130 (fun c26 => ?_) (fun c26 => ?_)
        · have h := okx_T c26 h
          exact xk_wk (w_Mo_joint_b137 (by omega) hR86 h) ⟨Or.inl rfl, Or.inl rfl, Or.inl rfl, Or.inl rfl, Or.inr rfl, Or.inl rfl, trivial⟩
        · have h := okx_F c26 h
          exact xk_wk (w_Mo_joint_b133 (by omega) hR86 h) ⟨Or.inl rfl, Or.inl rfl, Or.inl rfl, Or.inl rfl, Or.inr rfl, Or.inl rfl, trivial⟩
      · have h := okx_T c24 h
        refine xi_aload_n D_Mo_joint_114 rfl ?_
        refine xi_getI D_Mo_joint_115 F_Mo_397 (zl_fo (g22).1 rfl) ⟨rfl, by decide⟩ ?_
        refine xi_iload_n D_Mo_joint_118 rfl ?_
        refine xi_icmp_ge D_Mo_joint_119 (fun c25 => ?_) (fun c25 => ?_)
        · have h := okx_T c25 h
          exact xk_wk (w_Mo_joint_b137 (by omega) hR86 h) ⟨Or.inl rfl, Or.inl rfl, Or.inl rfl, Or.inl rfl, Or.inr rfl, Or.inl rfl, trivial⟩
        · have h := okx_F c25 h
          refine xi_goto D_Mo_joint_122 ?_
          exact xk_wk (w_Mo_joint_b133 (by omega) hR86 h) ⟨Or.inl rfl, Or.inl rfl, Or.inl rfl, Or.inl rfl, Or.inr rfl, Or.inl rfl, trivial⟩
noncomputable def f_Mo_joint_h86 : Nat → Int32 → Int32 → Int32 → Int32 → Sg → Option (Int32 × Sg)
  | 0, _, _, _, _, _ => none
  | n + 1, x1, x3, x4, x5, s => f_Mo_joint_b86 (f_Mo_joint_h86 n) x1 x3 x4 x5 s
theorem w_Mo_joint_h86 {d : Nat} {Q : Option (Option Value) → Sg → Prop} (hd : 13 ≤ d) : ∀ (n : Nat) (x1 : Int32) (x3 : Int32) (x4 : Int32) (x5 : Int32) (s : Sg), okx (zq_I Q) (f_Mo_joint_h86 n x1 x3 x4 x5 s) → Xw d M_Mo_joint 0 0 86 [.ref 46, .int x1, .retAddr 0, .int x3, .int x4, .int x5] [] s Q := by
  intro n
  induction n with
  | zero => intro x1 x3 x4 x5 s h; exact okx_no h
  | succ n ih => intro x1 x3 x4 x5 s h; exact w_Mo_joint_b86 hd  ih  h
noncomputable def f_Mo_joint_b61 (x1 : Int32) (x2 : Int32) (s : Sg) : Option (Int32 × Sg) :=
  f_ck (zl_B s) <|
  f_bd (f_Mo_reachBy x2 s) fun r11 s12 =>
  f_ck (zl_B s12) <|
  if (mI s12 46 55) = 0 then
    some ((-1), s12)
  else
    f_Mo_joint_h86  zl_fl x1 (mI s12 46 56) 0 0 s12
theorem w_Mo_joint_b61 {x1 : Int32} {x2 : Int32} {s : Sg} {d : Nat} {Q : Option (Option Value) → Sg → Prop} (hd : 13 ≤ d) (h : okx (zq_I Q) (f_Mo_joint_b61 x1 x2 s)) : Xw d M_Mo_joint 0 0 61 [.ref 46, .int x1, .int x2, .retAddr 0, .retAddr 0, .retAddr 0] [] s Q := by
  unfold f_Mo_joint_b61 at h
  refine xi_aload_n D_Mo_joint_61 rfl ?_
  refine xi_iload_n D_Mo_joint_62 rfl ?_
  obtain ⟨g10, h⟩ := okx_ck h
  refine xj_V1 D_Mo_joint_63 L_Mo_409 C_Mo_reachBy Z_Mo_reachBy (zl_fo (g10).1 rfl) (Nat.le_of_ble_eq_true rfl) (Nat.le_of_eq (Nat.sub_add_cancel (by omega))) (w_Mo_reachBy (by omega) (okx_mono (okx_bd h) ?_))
  intro r11 s12 h
  show Xw _ _ _ _ 66 _ [] _ _
  refine xi_aload_n D_Mo_joint_66 rfl ?_
  obtain ⟨g13, h⟩ := okx_ck h
  refine xi_getI D_Mo_joint_67 F_Mo_393 (zl_fo (g13).1 rfl) ⟨rfl, by decide⟩ ?_
  refine xi_if_ne D_Mo_joint_70 (fun c14 => ?_) (fun c14 => ?_)
  · have h := okx_F c14 h
    refine xi_aload_n D_Mo_joint_75 rfl ?_
    refine xi_getI D_Mo_joint_76 F_Mo_397 (zl_fo (g13).1 rfl) ⟨rfl, by decide⟩ ?_
    refine xi_istore_n (ls' := [_, _, _, _, _, _]) D_Mo_joint_79 rfl (by decide) ?_
    refine xj_iconst (v := 0) D_Mo_joint_80 rfl ?_
    refine xi_istore (ls' := [_, _, _, _, _, _]) D_Mo_joint_81 rfl (by decide) ?_
    refine xj_iconst (v := 0) D_Mo_joint_83 rfl ?_
    refine xi_istore (ls' := [_, _, _, _, _, _]) D_Mo_joint_84 rfl (by decide) ?_
    exact xk_wk (w_Mo_joint_h86 (by omega)  _ _ _ _ _ _ h) ⟨Or.inl rfl, Or.inl rfl, Or.inr rfl, Or.inl rfl, Or.inl rfl, Or.inl rfl, trivial⟩
  · have h := okx_T c14 h
    refine xj_iconst (v := (-1)) D_Mo_joint_73 rfl ?_
    exact xi_ireturn D_Mo_joint_74 rfl (rfl) (okx_I h)
noncomputable def f_Mo_joint_b33 (R33 : Int32 → Int32 → Int32 → Sg → Option (Int32 × Sg)) (x1 : Int32) (x2 : Int32) (x3 : Int32) (s : Sg) : Option (Int32 × Sg) :=
  f_ck (zl_B s) <|
  if (mI s 46 11) ≤ x3 then
    f_Mo_joint_b61  x1 x2 s
  else
    R33 x1 ((x2 * ((mI s 46 10) + 2)) + (mI s 46 10)) (x3 + 1) s
theorem w_Mo_joint_b33 {x1 : Int32} {x2 : Int32} {x3 : Int32} {s : Sg} {d : Nat} {Q : Option (Option Value) → Sg → Prop} (hd : 13 ≤ d) {R33 : Int32 → Int32 → Int32 → Sg → Option (Int32 × Sg)} (hR33 : ∀ (x1 : Int32) (x2 : Int32) (x3 : Int32) (s : Sg), okx (zq_I Q) (R33 x1 x2 x3 s) → Xw d M_Mo_joint 0 0 33 [.ref 46, .int x1, .int x2, .int x3, .retAddr 0, .retAddr 0] [] s Q) (h : okx (zq_I Q) (f_Mo_joint_b33 R33 x1 x2 x3 s)) : Xw d M_Mo_joint 0 0 33 [.ref 46, .int x1, .int x2, .int x3, .retAddr 0, .retAddr 0] [] s Q := by
  unfold f_Mo_joint_b33 at h
  refine xi_iload_n D_Mo_joint_33 rfl ?_
  refine xi_aload_n D_Mo_joint_34 rfl ?_
  obtain ⟨g8, h⟩ := okx_ck h
  refine xi_getI D_Mo_joint_35 F_Mo_259 (zl_fo (g8).1 rfl) ⟨rfl, by decide⟩ ?_
  refine xi_icmp_ge D_Mo_joint_38 (fun c9 => ?_) (fun c9 => ?_)
  · have h := okx_T c9 h
    exact xk_wk (w_Mo_joint_b61 (by omega)  h) ⟨Or.inl rfl, Or.inl rfl, Or.inl rfl, Or.inr rfl, Or.inl rfl, Or.inl rfl, trivial⟩
  · have h := okx_F c9 h
    refine xi_iload_n D_Mo_joint_41 rfl ?_
    refine xi_aload_n D_Mo_joint_42 rfl ?_
    refine xi_getI D_Mo_joint_43 F_Mo_234 (zl_fo (g8).1 rfl) ⟨rfl, by decide⟩ ?_
    refine xj_iconst (v := 2) D_Mo_joint_46 rfl ?_
    refine xi_iadd D_Mo_joint_47 ?_
    refine xi_imul D_Mo_joint_48 ?_
    refine xi_aload_n D_Mo_joint_49 rfl ?_
    refine xi_getI D_Mo_joint_50 F_Mo_234 (zl_fo (g8).1 rfl) ⟨rfl, by decide⟩ ?_
    refine xi_iadd D_Mo_joint_53 ?_
    refine xi_istore_n (ls' := [_, _, _, _, _, _]) D_Mo_joint_54 rfl (by decide) ?_
    refine xi_iinc (v := _ + 1) (ls' := [_, _, _, _, _, _]) D_Mo_joint_55 rfl rfl rfl (by decide) ?_
    refine xi_goto D_Mo_joint_58 ?_
    exact hR33 _ _ _ _ h
noncomputable def f_Mo_joint_h33 : Nat → Int32 → Int32 → Int32 → Sg → Option (Int32 × Sg)
  | 0, _, _, _, _ => none
  | n + 1, x1, x2, x3, s => f_Mo_joint_b33 (f_Mo_joint_h33 n) x1 x2 x3 s
theorem w_Mo_joint_h33 {d : Nat} {Q : Option (Option Value) → Sg → Prop} (hd : 13 ≤ d) : ∀ (n : Nat) (x1 : Int32) (x2 : Int32) (x3 : Int32) (s : Sg), okx (zq_I Q) (f_Mo_joint_h33 n x1 x2 x3 s) → Xw d M_Mo_joint 0 0 33 [.ref 46, .int x1, .int x2, .int x3, .retAddr 0, .retAddr 0] [] s Q := by
  intro n
  induction n with
  | zero => intro x1 x2 x3 s h; exact okx_no h
  | succ n ih => intro x1 x2 x3 s h; exact w_Mo_joint_b33 hd  ih  h
noncomputable def f_Mo_joint (x1 : Int32) (s : Sg) : Option (Int32 × Sg) :=
  f_ck (zl_B s) <|
  let s2 : Sg := uI s 46 0 0
  let s3 : Sg := uI s2 46 39 10
  if (mI s3 46 10) = 0 then
    some ((-1), s3)
  else
    f_bd (f_Mo_within x1 0 1 s3) fun r5 s6 =>
    if r5 = 0 then
      some ((-1), s6)
    else
      f_Mo_joint_h33  zl_fl x1 0 0 s6
theorem w_Mo_joint {x1 : Int32} {s : Sg} {d : Nat} {Q : Option (Option Value) → Sg → Prop} (hd : 13 ≤ d) (h : okx (zq_I Q) (f_Mo_joint x1 s)) : Cw d M_Mo_joint [.ref 46, .int x1] s Q := by
  refine Cw.of (by decide +kernel) (Nat.le_of_ble_eq_true rfl) ?_
  show Xw d M_Mo_joint 0 0 0 [.ref 46, .int x1, .retAddr 0, .retAddr 0, .retAddr 0, .retAddr 0] [] s _
  unfold f_Mo_joint at h
  refine xi_aload_n D_Mo_joint_0 rfl ?_
  refine xj_iconst (v := 0) D_Mo_joint_1 rfl ?_
  obtain ⟨g1, h⟩ := okx_ck h
  refine xi_putI D_Mo_joint_2 F_Mo_114 (zl_fo (g1).1 rfl) ⟨rfl, by decide, rfl⟩ (⟨rfl, rfl⟩) ?_
  refine xi_aload_n D_Mo_joint_5 rfl ?_
  refine xi_bipush (v := 10) D_Mo_joint_6 rfl ?_
  refine xi_putI D_Mo_joint_8 F_Mo_272 (zl_fo (g1).1 rfl) ⟨rfl, by decide, rfl⟩ (⟨rfl, rfl⟩) ?_
  refine xi_aload_n D_Mo_joint_11 rfl ?_
  refine xi_getI D_Mo_joint_12 F_Mo_234 (zl_fo (g1).1 rfl) ⟨rfl, by decide⟩ ?_
  refine xi_if_eq D_Mo_joint_15 (fun c4 => ?_) (fun c4 => ?_)
  · have h := okx_T c4 h
    refine xj_iconst (v := (-1)) D_Mo_joint_27 rfl ?_
    exact xi_ireturn D_Mo_joint_28 rfl (rfl) (okx_I h)
  · have h := okx_F c4 h
    refine xi_iload_n D_Mo_joint_18 rfl ?_
    refine xj_iconst (v := 0) D_Mo_joint_19 rfl ?_
    refine xj_iconst (v := 1) D_Mo_joint_20 rfl ?_
    refine xj_S3 D_Mo_joint_21 L_Mo_268 C_Mo_within Z_Mo_within (Nat.le_of_ble_eq_true rfl) (Nat.le_of_eq (Nat.sub_add_cancel (by omega))) (w_Mo_within (by omega) (okx_mono (okx_bd h) ?_))
    intro r5 s6 h
    show Xw _ _ _ _ 24 _ [_] _ _
    refine xi_if_ne D_Mo_joint_24 (fun c7 => ?_) (fun c7 => ?_)
    · have h := okx_F c7 h
      refine xj_iconst (v := 0) D_Mo_joint_29 rfl ?_
      refine xi_istore_n (ls' := [_, _, _, _, _, _]) D_Mo_joint_30 rfl (by decide) ?_
      refine xj_iconst (v := 0) D_Mo_joint_31 rfl ?_
      refine xi_istore_n (ls' := [_, _, _, _, _, _]) D_Mo_joint_32 rfl (by decide) ?_
      exact w_Mo_joint_h33 (by omega)  _ _ _ _ _ h
    · have h := okx_T c7 h
      refine xj_iconst (v := (-1)) D_Mo_joint_27 rfl ?_
      exact xi_ireturn D_Mo_joint_28 rfl (rfl) (okx_I h)
noncomputable def f_Mo_keeps (x1 : Int32) (x2 : Int32) (x3 : Int32) (s : Sg) : Option (Int32 × Sg) :=
  if x3 = 0 then
    f_ck (zl_B s) <|
    f_ck (vp_in x1 560) <|
    let s4 : Sg := uI s 77 (Int32.toNatClampNeg x1) x2
    some (x2, s4)
  else
    f_ck (zl_B s) <|
    f_ck (vp_in x1 560) <|
    some ((mI s 77 (Int32.toNatClampNeg x1)), s)
theorem w_Mo_keeps {x1 : Int32} {x2 : Int32} {x3 : Int32} {s : Sg} {d : Nat} {Q : Option (Option Value) → Sg → Prop} (hd : 1 ≤ d) (h : okx (zq_I Q) (f_Mo_keeps x1 x2 x3 s)) : Cw d M_Mo_keeps [.ref 46, .int x1, .int x2, .int x3] s Q := by
  refine Cw.of (by decide +kernel) (Nat.le_of_ble_eq_true rfl) ?_
  show Xw d M_Mo_keeps 0 0 0 [.ref 46, .int x1, .int x2, .int x3] [] s _
  unfold f_Mo_keeps at h
  refine xi_iload_n D_Mo_keeps_0 rfl ?_
  refine xi_if_eq D_Mo_keeps_1 (fun c1 => ?_) (fun c1 => ?_)
  · have h := okx_T c1 h
    refine xi_aload_n D_Mo_keeps_11 rfl ?_
    obtain ⟨g2, h⟩ := okx_ck h
    refine xi_getR D_Mo_keeps_12 F_Mo_102 (zl_fo (g2).1 rfl) ⟨rfl, by decide⟩ (zl_gr (g2).2 rfl rfl) ?_
    refine xi_iload_n D_Mo_keeps_15 rfl ?_
    refine xi_iload_n D_Mo_keeps_16 rfl ?_
    obtain ⟨g3, h⟩ := okx_ck h
    refine xj_iast D_Mo_keeps_17 (zl_fx (g2).1 rfl) (zl_ib (n := 560) rfl (g3)) ?_
    refine xi_iload_n D_Mo_keeps_18 rfl ?_
    exact xi_ireturn D_Mo_keeps_19 rfl (rfl) (okx_I h)
  · have h := okx_F c1 h
    refine xi_aload_n D_Mo_keeps_4 rfl ?_
    obtain ⟨g5, h⟩ := okx_ck h
    refine xi_getR D_Mo_keeps_5 F_Mo_102 (zl_fo (g5).1 rfl) ⟨rfl, by decide⟩ (zl_gr (g5).2 rfl rfl) ?_
    refine xi_iload_n D_Mo_keeps_8 rfl ?_
    obtain ⟨g6, h⟩ := okx_ck h
    refine xj_iald D_Mo_keeps_9 (zl_fx (g5).1 rfl) (zl_ib (n := 560) rfl (g6)) ?_
    exact xi_ireturn D_Mo_keeps_10 rfl (rfl) (okx_I h)
noncomputable def f_Mo_later (x1 : Int32) (x2 : Int32) (x3 : Int32) (s : Sg) : Option (Int32 × Sg) :=
  f_ck (zl_B s) <|
  let s2 : Sg := uI s 46 0 0
  f_bd (f_Mo_isOwning x1 x2 x3 s2) fun r3 s4 =>
  if r3 = 0 then
    some (0, s4)
  else
    f_ck (zl_B s4) <|
    f_ck (vp_in x1 3) <|
    let s8 : Sg := uI s4 71 (Int32.toNatClampNeg x1) x2
    f_ck (vp_in x1 3) <|
    let s10 : Sg := uI s8 72 (Int32.toNatClampNeg x1) x3
    f_ck (vp_in x1 3) <|
    let s12 : Sg := uI s10 73 (Int32.toNatClampNeg x1) (vp_nar .boolean 1)
    some (1, s12)
theorem w_Mo_later {x1 : Int32} {x2 : Int32} {x3 : Int32} {s : Sg} {d : Nat} {Q : Option (Option Value) → Sg → Prop} (hd : 3 ≤ d) (h : okx (zq_I Q) (f_Mo_later x1 x2 x3 s)) : Cw d M_Mo_later [.ref 46, .int x1, .int x2, .int x3] s Q := by
  refine Cw.of (by decide +kernel) (Nat.le_of_ble_eq_true rfl) ?_
  show Xw d M_Mo_later 0 0 0 [.ref 46, .int x1, .int x2, .int x3] [] s _
  unfold f_Mo_later at h
  refine xi_aload_n D_Mo_later_0 rfl ?_
  refine xj_iconst (v := 0) D_Mo_later_1 rfl ?_
  obtain ⟨g1, h⟩ := okx_ck h
  refine xi_putI D_Mo_later_2 F_Mo_114 (zl_fo (g1).1 rfl) ⟨rfl, by decide, rfl⟩ (⟨rfl, rfl⟩) ?_
  refine xi_aload_n D_Mo_later_5 rfl ?_
  refine xi_iload_n D_Mo_later_6 rfl ?_
  refine xi_iload_n D_Mo_later_7 rfl ?_
  refine xi_iload_n D_Mo_later_8 rfl ?_
  refine xj_V3 D_Mo_later_9 L_Mo_309 C_Mo_isOwning Z_Mo_isOwning (zl_fo (g1).1 rfl) (Nat.le_of_ble_eq_true rfl) (Nat.le_of_eq (Nat.sub_add_cancel (by omega))) (w_Mo_isOwning (by omega) (okx_mono (okx_bd h) ?_))
  intro r3 s4 h
  show Xw _ _ _ _ 12 _ [_] _ _
  refine xi_if_ne D_Mo_later_12 (fun c5 => ?_) (fun c5 => ?_)
  · have h := okx_F c5 h
    refine xi_aload_n D_Mo_later_17 rfl ?_
    obtain ⟨g6, h⟩ := okx_ck h
    refine xi_getR D_Mo_later_18 F_Mo_84 (zl_fo (g6).1 rfl) ⟨rfl, by decide⟩ (zl_gr (g6).2 rfl rfl) ?_
    refine xi_iload_n D_Mo_later_21 rfl ?_
    refine xi_iload_n D_Mo_later_22 rfl ?_
    obtain ⟨g7, h⟩ := okx_ck h
    refine xj_iast D_Mo_later_23 (zl_fx (g6).1 rfl) (zl_ib (n := 3) rfl (g7)) ?_
    refine xi_aload_n D_Mo_later_24 rfl ?_
    refine xi_getR D_Mo_later_25 F_Mo_87 (zl_fo (g6).1 rfl) ⟨rfl, by decide⟩ (zl_gr (g6).2 rfl rfl) ?_
    refine xi_iload_n D_Mo_later_28 rfl ?_
    refine xi_iload_n D_Mo_later_29 rfl ?_
    obtain ⟨g9, h⟩ := okx_ck h
    refine xj_iast D_Mo_later_30 (zl_fx (g6).1 rfl) (zl_ib (n := 3) rfl (g9)) ?_
    refine xi_aload_n D_Mo_later_31 rfl ?_
    refine xi_getR D_Mo_later_32 F_Mo_90 (zl_fo (g6).1 rfl) ⟨rfl, by decide⟩ (zl_gr (g6).2 rfl rfl) ?_
    refine xi_iload_n D_Mo_later_35 rfl ?_
    refine xj_iconst (v := 1) D_Mo_later_36 rfl ?_
    obtain ⟨g11, h⟩ := okx_ck h
    refine xj_zast D_Mo_later_37 (zl_fx (g6).1 rfl) (zl_ib (n := 3) rfl (g11)) rfl ?_
    refine xj_iconst (v := 1) D_Mo_later_38 rfl ?_
    exact xi_ireturn D_Mo_later_39 rfl (rfl) (okx_I h)
  · have h := okx_T c5 h
    refine xj_iconst (v := 0) D_Mo_later_15 rfl ?_
    exact xi_ireturn D_Mo_later_16 rfl (rfl) (okx_I h)
noncomputable def f_Mo_leaving_b22 (x1 : Int32) (x2 : Int32) (y1 : Int32) (s : Sg) : Option (Int32 × Sg) :=
  f_ck (zl_B s) <|
  let s10 : Sg := uI s 46 0 y1
  f_bd (f_Mo_asItIs  s10) fun r11 s12 =>
  f_ck (zl_B s12) <|
  if (mI s12 46 0) = 1 then
    some (0, s12)
  else
    f_bd (f_Mo_makesBy 0 (((1 : Int32) <<< ((mI s12 46 10) &&& 31)) - 1) x2 s12) fun r15 s16 =>
    f_ck (zl_B s16) <|
    f_bd (f_Mo_makesBy 0 ((((1 : Int32) <<< ((mI s12 46 10) &&& 31)) - 1) &&& (((1 : Int32) <<< (x1 &&& 31)) ^^^ (-1))) x2 s16) fun r18 s19 =>
    some ((r15 - r18), s19)
theorem w_Mo_leaving_b22 {x1 : Int32} {x2 : Int32} {y1 : Int32} {s : Sg} {d : Nat} {Q : Option (Option Value) → Sg → Prop} (hd : 4 ≤ d) (h : okx (zq_I Q) (f_Mo_leaving_b22 x1 x2 y1 s)) : Xw d M_Mo_leaving 0 0 22 [.ref 46, .int x1, .int x2, .retAddr 0] [.int y1, .ref 46] s Q := by
  unfold f_Mo_leaving_b22 at h
  obtain ⟨g9, h⟩ := okx_ck h
  refine xi_putI D_Mo_leaving_22 F_Mo_114 (zl_fo (g9).1 rfl) ⟨rfl, by decide, rfl⟩ (⟨rfl, rfl⟩) ?_
  refine xi_aload_n D_Mo_leaving_25 rfl ?_
  refine xj_V0 D_Mo_leaving_26 L_Mo_325 C_Mo_asItIs Z_Mo_asItIs (zl_fo (g9).1 rfl) (Nat.le_of_ble_eq_true rfl) (Nat.le_of_eq (Nat.sub_add_cancel (by omega))) (w_Mo_asItIs (by omega) (okx_mono (okx_bd h) ?_))
  intro r11 s12 h
  show Xw _ _ _ _ 29 _ [] _ _
  refine xj_iconst (v := 1) D_Mo_leaving_29 rfl ?_
  refine xi_aload_n D_Mo_leaving_30 rfl ?_
  obtain ⟨g13, h⟩ := okx_ck h
  refine xi_getI D_Mo_leaving_31 F_Mo_234 (zl_fo (g13).1 rfl) ⟨rfl, by decide⟩ ?_
  refine xi_ishl D_Mo_leaving_34 ?_
  refine xj_iconst (v := 1) D_Mo_leaving_35 rfl ?_
  refine xi_isub D_Mo_leaving_36 ?_
  refine xi_istore_n (ls' := [_, _, _, _]) D_Mo_leaving_37 rfl (by decide) ?_
  refine xi_aload_n D_Mo_leaving_38 rfl ?_
  refine xi_getI D_Mo_leaving_39 F_Mo_114 (zl_fo (g13).1 rfl) ⟨rfl, by decide⟩ ?_
  refine xj_iconst (v := 1) D_Mo_leaving_42 rfl ?_
  refine xi_icmp_ne D_Mo_leaving_43 (fun c14 => ?_) (fun c14 => ?_)
  · have h := okx_F c14 h
    refine xi_aload_n D_Mo_leaving_50 rfl ?_
    refine xj_iconst (v := 0) D_Mo_leaving_51 rfl ?_
    refine xi_iload_n D_Mo_leaving_52 rfl ?_
    refine xi_iload_n D_Mo_leaving_53 rfl ?_
    refine xj_V3 D_Mo_leaving_54 L_Mo_328 C_Mo_makesBy Z_Mo_makesBy (zl_fo (g13).1 rfl) (Nat.le_of_ble_eq_true rfl) (Nat.le_of_eq (Nat.sub_add_cancel (by omega))) (w_Mo_makesBy (by omega) (okx_mono (okx_bd h) ?_))
    intro r15 s16 h
    show Xw _ _ _ _ 57 _ [_] _ _
    refine xi_aload_n D_Mo_leaving_57 rfl ?_
    refine xj_iconst (v := 0) D_Mo_leaving_58 rfl ?_
    refine xi_iload_n D_Mo_leaving_59 rfl ?_
    refine xj_iconst (v := 1) D_Mo_leaving_60 rfl ?_
    refine xi_iload_n D_Mo_leaving_61 rfl ?_
    refine xi_ishl D_Mo_leaving_62 ?_
    refine xj_iconst (v := (-1)) D_Mo_leaving_63 rfl ?_
    refine xi_ixor D_Mo_leaving_64 ?_
    refine xi_iand D_Mo_leaving_65 ?_
    refine xi_iload_n D_Mo_leaving_66 rfl ?_
    obtain ⟨g17, h⟩ := okx_ck h
    refine xj_V3 D_Mo_leaving_67 L_Mo_328 C_Mo_makesBy Z_Mo_makesBy (zl_fo (g17).1 rfl) (Nat.le_of_ble_eq_true rfl) (Nat.le_of_eq (Nat.sub_add_cancel (by omega))) (w_Mo_makesBy (by omega) (okx_mono (okx_bd h) ?_))
    intro r18 s19 h
    show Xw _ _ _ _ 70 _ [_, _] _ _
    refine xi_isub D_Mo_leaving_70 ?_
    exact xi_ireturn D_Mo_leaving_71 rfl (rfl) (okx_I h)
  · have h := okx_T c14 h
    refine xj_iconst (v := 0) D_Mo_leaving_46 rfl ?_
    refine xi_goto D_Mo_leaving_47 ?_
    exact xi_ireturn D_Mo_leaving_71 rfl (rfl) (okx_I h)
noncomputable def f_Mo_leaving_b21 (x1 : Int32) (x2 : Int32) (s : Sg) : Option (Int32 × Sg) :=
  f_Mo_leaving_b22  x1 x2 1 s
theorem w_Mo_leaving_b21 {x1 : Int32} {x2 : Int32} {s : Sg} {d : Nat} {Q : Option (Option Value) → Sg → Prop} (hd : 4 ≤ d) (h : okx (zq_I Q) (f_Mo_leaving_b21 x1 x2 s)) : Xw d M_Mo_leaving 0 0 21 [.ref 46, .int x1, .int x2, .retAddr 0] [.ref 46] s Q := by
  unfold f_Mo_leaving_b21 at h
  refine xj_iconst (v := 1) D_Mo_leaving_21 rfl ?_
  exact w_Mo_leaving_b22 (by omega)  h
noncomputable def f_Mo_leaving (x1 : Int32) (x2 : Int32) (s : Sg) : Option (Int32 × Sg) :=
  f_ck (zl_B s) <|
  f_bd (f_Mo_isPerson x1 s) fun r2 s3 =>
  if r2 = 0 then
    f_Mo_leaving_b21  x1 x2 s3
  else
    f_ck (zl_B s3) <|
    f_bd (f_Mo_isPains x2 s3) fun r6 s7 =>
    if r6 = 0 then
      f_Mo_leaving_b21  x1 x2 s7
    else
      f_Mo_leaving_b22  x1 x2 0 s7
theorem w_Mo_leaving {x1 : Int32} {x2 : Int32} {s : Sg} {d : Nat} {Q : Option (Option Value) → Sg → Prop} (hd : 4 ≤ d) (h : okx (zq_I Q) (f_Mo_leaving x1 x2 s)) : Cw d M_Mo_leaving [.ref 46, .int x1, .int x2] s Q := by
  refine Cw.of (by decide +kernel) (Nat.le_of_ble_eq_true rfl) ?_
  show Xw d M_Mo_leaving 0 0 0 [.ref 46, .int x1, .int x2, .retAddr 0] [] s _
  unfold f_Mo_leaving at h
  refine xi_aload_n D_Mo_leaving_0 rfl ?_
  refine xi_aload_n D_Mo_leaving_1 rfl ?_
  refine xi_iload_n D_Mo_leaving_2 rfl ?_
  obtain ⟨g1, h⟩ := okx_ck h
  refine xj_V1 D_Mo_leaving_3 L_Mo_265 C_Mo_isPerson Z_Mo_isPerson (zl_fo (g1).1 rfl) (Nat.le_of_ble_eq_true rfl) (Nat.le_of_eq (Nat.sub_add_cancel (by omega))) (w_Mo_isPerson (by omega) (okx_mono (okx_bd h) ?_))
  intro r2 s3 h
  show Xw _ _ _ _ 6 _ [_, _] _ _
  refine xi_if_eq D_Mo_leaving_6 (fun c4 => ?_) (fun c4 => ?_)
  · have h := okx_T c4 h
    exact w_Mo_leaving_b21 (by omega)  h
  · have h := okx_F c4 h
    refine xi_aload_n D_Mo_leaving_9 rfl ?_
    refine xi_iload_n D_Mo_leaving_10 rfl ?_
    obtain ⟨g5, h⟩ := okx_ck h
    refine xj_V1 D_Mo_leaving_11 L_Mo_296 C_Mo_isPains Z_Mo_isPains (zl_fo (g5).1 rfl) (Nat.le_of_ble_eq_true rfl) (Nat.le_of_eq (Nat.sub_add_cancel (by omega))) (w_Mo_isPains (by omega) (okx_mono (okx_bd h) ?_))
    intro r6 s7 h
    show Xw _ _ _ _ 14 _ [_, _] _ _
    refine xi_if_eq D_Mo_leaving_14 (fun c8 => ?_) (fun c8 => ?_)
    · have h := okx_T c8 h
      exact w_Mo_leaving_b21 (by omega)  h
    · have h := okx_F c8 h
      refine xj_iconst (v := 0) D_Mo_leaving_17 rfl ?_
      refine xi_goto D_Mo_leaving_18 ?_
      exact w_Mo_leaving_b22 (by omega)  h
noncomputable def f_Mo_lender_b119 (x4 : Int32) (x5 : Int32) (y1 : Int32) (s : Sg) : Option (Int32 × Sg) :=
  f_ck (zl_B s) <|
  let s35 : Sg := uI s 46 0 y1
  if (mI s35 46 0) = 1 then
    some (0, s35)
  else
    if x4 = 0 then
      some (x5, s35)
    else
      if x4 = 1 then
        f_bd (f_Mo_goodOf x5 s35) fun r39 s40 =>
        some (r39, s40)
      else
        f_bd (f_Mo_isPaid x5 s35) fun r41 s42 =>
        if r41 = 0 then
          some (0, s42)
        else
          some (1, s42)
theorem w_Mo_lender_b119 {x4 : Int32} {x5 : Int32} {y1 : Int32} {s : Sg} {d : Nat} {Q : Option (Option Value) → Sg → Prop} (hd : 11 ≤ d) (h : okx (zq_I Q) (f_Mo_lender_b119 x4 x5 y1 s)) : Xw d M_Mo_lender 0 0 119 [.ref 46, .retAddr 0, .retAddr 0, .retAddr 0, .int x4, .int x5] [.int y1, .ref 46] s Q := by
  unfold f_Mo_lender_b119 at h
  obtain ⟨g34, h⟩ := okx_ck h
  refine xi_putI D_Mo_lender_119 F_Mo_114 (zl_fo (g34).1 rfl) ⟨rfl, by decide, rfl⟩ (⟨rfl, rfl⟩) ?_
  refine xi_aload_n D_Mo_lender_122 rfl ?_
  refine xi_getI D_Mo_lender_123 F_Mo_114 (zl_fo (g34).1 rfl) ⟨rfl, by decide⟩ ?_
  refine xj_iconst (v := 1) D_Mo_lender_126 rfl ?_
  refine xi_icmp_ne D_Mo_lender_127 (fun c36 => ?_) (fun c36 => ?_)
  · have h := okx_F c36 h
    refine xi_iload D_Mo_lender_134 rfl ?_
    refine xi_if_ne D_Mo_lender_136 (fun c37 => ?_) (fun c37 => ?_)
    · have h := okx_F c37 h
      refine xi_iload D_Mo_lender_144 rfl ?_
      refine xj_iconst (v := 1) D_Mo_lender_146 rfl ?_
      refine xi_icmp_ne D_Mo_lender_147 (fun c38 => ?_) (fun c38 => ?_)
      · have h := okx_F c38 h
        refine xi_aload_n D_Mo_lender_159 rfl ?_
        refine xi_iload D_Mo_lender_160 rfl ?_
        refine xj_V1 D_Mo_lender_162 L_Mo_361 C_Mo_isPaid Z_Mo_isPaid (zl_fo (g34).1 rfl) (Nat.le_of_ble_eq_true rfl) (Nat.le_of_eq (Nat.sub_add_cancel (by omega))) (w_Mo_isPaid (by omega) (okx_mono (okx_bd h) ?_))
        intro r41 s42 h
        show Xw _ _ _ _ 165 _ [_] _ _
        refine xi_if_eq D_Mo_lender_165 (fun c43 => ?_) (fun c43 => ?_)
        · have h := okx_T c43 h
          refine xj_iconst (v := 0) D_Mo_lender_172 rfl ?_
          exact xi_ireturn D_Mo_lender_173 rfl (rfl) (okx_I h)
        · have h := okx_F c43 h
          refine xj_iconst (v := 1) D_Mo_lender_168 rfl ?_
          refine xi_goto D_Mo_lender_169 ?_
          exact xi_ireturn D_Mo_lender_173 rfl (rfl) (okx_I h)
      · have h := okx_T c38 h
        refine xi_aload_n D_Mo_lender_150 rfl ?_
        refine xi_iload D_Mo_lender_151 rfl ?_
        refine xj_V1 D_Mo_lender_153 L_Mo_387 C_Mo_goodOf Z_Mo_goodOf (zl_fo (g34).1 rfl) (Nat.le_of_ble_eq_true rfl) (Nat.le_of_eq (Nat.sub_add_cancel (by omega))) (w_Mo_goodOf (by omega) (okx_mono (okx_bd h) ?_))
        intro r39 s40 h
        show Xw _ _ _ _ 156 _ [_] _ _
        refine xi_goto D_Mo_lender_156 ?_
        exact xi_ireturn D_Mo_lender_173 rfl (rfl) (okx_I h)
    · have h := okx_T c37 h
      refine xi_iload D_Mo_lender_139 rfl ?_
      refine xi_goto D_Mo_lender_141 ?_
      exact xi_ireturn D_Mo_lender_173 rfl (rfl) (okx_I h)
  · have h := okx_T c36 h
    refine xj_iconst (v := 0) D_Mo_lender_130 rfl ?_
    refine xi_goto D_Mo_lender_131 ?_
    exact xi_ireturn D_Mo_lender_173 rfl (rfl) (okx_I h)
noncomputable def f_Mo_lender_b43 (x1 : Int32) (x2 : Int32) (x3 : Int32) (x4 : Int32) (y1 : Int32) (s : Sg) : Option (Int32 × Sg) :=
  f_ck (zl_B s) <|
  let s16 : Sg := uI s 46 0 y1
  if (mI s16 46 0) = 1 then
    some (0, s16)
  else
    f_bd (f_Mo_asItIs  s16) fun r18 s19 =>
    f_ck (zl_B s19) <|
    f_bd (f_Mo_laysAll 6 s19) fun r21 s22 =>
    f_ck (zl_B s22) <|
    f_bd (f_Mo_lays 6 x2 0 1 s22) fun r24 s25 =>
    f_ck (zl_B s25) <|
    let s27 : Sg := uI s25 46 50 2
    let s28 : Sg := uI s27 46 51 x1
    let s29 : Sg := uI s28 46 52 x2
    let s30 : Sg := uL s29 46 53 ((240 : Int64) * (Int32.toInt64 x3))
    f_bd (f_Mo_turnsOut (-1) 0 s30) fun r31 s32 =>
    if 0 ≤ r31 then
      f_Mo_lender_b119  x4 r31 0 s32
    else
      f_Mo_lender_b119  x4 r31 1 s32
theorem w_Mo_lender_b43 {x1 : Int32} {x2 : Int32} {x3 : Int32} {x4 : Int32} {y1 : Int32} {s : Sg} {d : Nat} {Q : Option (Option Value) → Sg → Prop} (hd : 11 ≤ d) (h : okx (zq_I Q) (f_Mo_lender_b43 x1 x2 x3 x4 y1 s)) : Xw d M_Mo_lender 0 0 43 [.ref 46, .int x1, .int x2, .int x3, .int x4, .retAddr 0] [.int y1, .ref 46] s Q := by
  unfold f_Mo_lender_b43 at h
  obtain ⟨g15, h⟩ := okx_ck h
  refine xi_putI D_Mo_lender_43 F_Mo_114 (zl_fo (g15).1 rfl) ⟨rfl, by decide, rfl⟩ (⟨rfl, rfl⟩) ?_
  refine xi_aload_n D_Mo_lender_46 rfl ?_
  refine xi_getI D_Mo_lender_47 F_Mo_114 (zl_fo (g15).1 rfl) ⟨rfl, by decide⟩ ?_
  refine xj_iconst (v := 1) D_Mo_lender_50 rfl ?_
  refine xi_icmp_ne D_Mo_lender_51 (fun c17 => ?_) (fun c17 => ?_)
  · have h := okx_F c17 h
    refine xi_aload_n D_Mo_lender_56 rfl ?_
    refine xj_V0 D_Mo_lender_57 L_Mo_325 C_Mo_asItIs Z_Mo_asItIs (zl_fo (g15).1 rfl) (Nat.le_of_ble_eq_true rfl) (Nat.le_of_eq (Nat.sub_add_cancel (by omega))) (w_Mo_asItIs (by omega) (okx_mono (okx_bd h) ?_))
    intro r18 s19 h
    show Xw _ _ _ _ 60 _ [] _ _
    refine xi_aload_n D_Mo_lender_60 rfl ?_
    refine xi_bipush (v := 6) D_Mo_lender_61 rfl ?_
    obtain ⟨g20, h⟩ := okx_ck h
    refine xj_V1 D_Mo_lender_63 L_Mo_322 C_Mo_laysAll Z_Mo_laysAll (zl_fo (g20).1 rfl) (Nat.le_of_ble_eq_true rfl) (Nat.le_of_eq (Nat.sub_add_cancel (by omega))) (w_Mo_laysAll (by omega) (okx_mono (okx_bd h) ?_))
    intro r21 s22 h
    show Xw _ _ _ _ 66 _ [] _ _
    refine xi_aload_n D_Mo_lender_66 rfl ?_
    refine xi_bipush (v := 6) D_Mo_lender_67 rfl ?_
    refine xi_iload_n D_Mo_lender_69 rfl ?_
    refine xj_iconst (v := 0) D_Mo_lender_70 rfl ?_
    refine xj_iconst (v := 1) D_Mo_lender_71 rfl ?_
    obtain ⟨g23, h⟩ := okx_ck h
    refine xj_V4 D_Mo_lender_72 L_Mo_312 C_Mo_lays Z_Mo_lays (zl_fo (g23).1 rfl) (Nat.le_of_ble_eq_true rfl) (Nat.le_of_eq (Nat.sub_add_cancel (by omega))) (w_Mo_lays (by omega) (okx_mono (okx_bd h) ?_))
    intro r24 s25 h
    show Xw _ _ _ _ 75 _ [] _ _
    refine xi_aload_n D_Mo_lender_75 rfl ?_
    refine xj_iconst (v := 2) D_Mo_lender_76 rfl ?_
    obtain ⟨g26, h⟩ := okx_ck h
    refine xi_putI D_Mo_lender_77 F_Mo_319 (zl_fo (g26).1 rfl) ⟨rfl, by decide, rfl⟩ (⟨rfl, rfl⟩) ?_
    refine xi_aload_n D_Mo_lender_80 rfl ?_
    refine xi_iload_n D_Mo_lender_81 rfl ?_
    refine xi_putI D_Mo_lender_82 F_Mo_352 (zl_fo (g26).1 rfl) ⟨rfl, by decide, rfl⟩ (⟨rfl, rfl⟩) ?_
    refine xi_aload_n D_Mo_lender_85 rfl ?_
    refine xi_iload_n D_Mo_lender_86 rfl ?_
    refine xi_putI D_Mo_lender_87 F_Mo_349 (zl_fo (g26).1 rfl) ⟨rfl, by decide, rfl⟩ (⟨rfl, rfl⟩) ?_
    refine xi_aload_n D_Mo_lender_90 rfl ?_
    refine xi_ldc2 D_Mo_lender_91 K_Mo_343 ?_
    refine xi_iload_n D_Mo_lender_94 rfl ?_
    refine xi_i2l D_Mo_lender_95 ?_
    refine xi_lmul D_Mo_lender_96 ?_
    refine xi_putL D_Mo_lender_97 F_Mo_355 (zl_fo (g26).1 rfl) ⟨rfl, by decide, rfl⟩ rfl ?_
    refine xi_aload_n D_Mo_lender_100 rfl ?_
    refine xj_iconst (v := (-1)) D_Mo_lender_101 rfl ?_
    refine xj_iconst (v := 0) D_Mo_lender_102 rfl ?_
    refine xj_V2 D_Mo_lender_103 L_Mo_384 C_Mo_turnsOut Z_Mo_turnsOut (zl_fo (g26).1 rfl) (Nat.le_of_ble_eq_true rfl) (Nat.le_of_eq (Nat.sub_add_cancel (by omega))) (w_Mo_turnsOut (by omega) (okx_mono (okx_bd h) ?_))
    intro r31 s32 h
    show Xw _ _ _ _ 106 _ [_] _ _
    refine xi_istore (ls' := [_, _, _, _, _, _]) D_Mo_lender_106 rfl (by decide) ?_
    refine xi_aload_n D_Mo_lender_108 rfl ?_
    refine xi_iload D_Mo_lender_109 rfl ?_
    refine xi_if_ge D_Mo_lender_111 (fun c33 => ?_) (fun c33 => ?_)
    · have h := okx_T c33 h
      refine xj_iconst (v := 0) D_Mo_lender_118 rfl ?_
      exact xk_wk (w_Mo_lender_b119 (by omega)  h) ⟨Or.inl rfl, Or.inr rfl, Or.inr rfl, Or.inr rfl, Or.inl rfl, Or.inl rfl, trivial⟩
    · have h := okx_F c33 h
      refine xj_iconst (v := 1) D_Mo_lender_114 rfl ?_
      refine xi_goto D_Mo_lender_115 ?_
      exact xk_wk (w_Mo_lender_b119 (by omega)  h) ⟨Or.inl rfl, Or.inr rfl, Or.inr rfl, Or.inr rfl, Or.inl rfl, Or.inl rfl, trivial⟩
  · have h := okx_T c17 h
    refine xj_iconst (v := 0) D_Mo_lender_54 rfl ?_
    exact xi_ireturn D_Mo_lender_55 rfl (rfl) (okx_I h)
noncomputable def f_Mo_lender_b42 (x1 : Int32) (x2 : Int32) (x3 : Int32) (x4 : Int32) (s : Sg) : Option (Int32 × Sg) :=
  f_Mo_lender_b43  x1 x2 x3 x4 1 s
theorem w_Mo_lender_b42 {x1 : Int32} {x2 : Int32} {x3 : Int32} {x4 : Int32} {s : Sg} {d : Nat} {Q : Option (Option Value) → Sg → Prop} (hd : 11 ≤ d) (h : okx (zq_I Q) (f_Mo_lender_b42 x1 x2 x3 x4 s)) : Xw d M_Mo_lender 0 0 42 [.ref 46, .int x1, .int x2, .int x3, .int x4, .retAddr 0] [.ref 46] s Q := by
  unfold f_Mo_lender_b42 at h
  refine xj_iconst (v := 1) D_Mo_lender_42 rfl ?_
  exact w_Mo_lender_b43 (by omega)  h
noncomputable def f_Mo_lender (x1 : Int32) (x2 : Int32) (x3 : Int32) (x4 : Int32) (s : Sg) : Option (Int32 × Sg) :=
  f_ck (zl_B s) <|
  f_bd (f_Mo_isPerson x1 s) fun r2 s3 =>
  if r2 = 0 then
    f_Mo_lender_b42  x1 x2 x3 x4 s3
  else
    f_ck (zl_B s3) <|
    f_bd (f_Mo_isThing x2 s3) fun r6 s7 =>
    if r6 = 0 then
      f_Mo_lender_b42  x1 x2 x3 x4 s7
    else
      f_bd (f_Mo_within x3 0 9999 s7) fun r9 s10 =>
      if r9 = 0 then
        f_Mo_lender_b42  x1 x2 x3 x4 s10
      else
        f_bd (f_Mo_within x4 0 2 s10) fun r12 s13 =>
        if r12 = 0 then
          f_Mo_lender_b42  x1 x2 x3 x4 s13
        else
          f_Mo_lender_b43  x1 x2 x3 x4 0 s13
theorem w_Mo_lender {x1 : Int32} {x2 : Int32} {x3 : Int32} {x4 : Int32} {s : Sg} {d : Nat} {Q : Option (Option Value) → Sg → Prop} (hd : 11 ≤ d) (h : okx (zq_I Q) (f_Mo_lender x1 x2 x3 x4 s)) : Cw d M_Mo_lender [.ref 46, .int x1, .int x2, .int x3, .int x4] s Q := by
  refine Cw.of (by decide +kernel) (Nat.le_of_ble_eq_true rfl) ?_
  show Xw d M_Mo_lender 0 0 0 [.ref 46, .int x1, .int x2, .int x3, .int x4, .retAddr 0] [] s _
  unfold f_Mo_lender at h
  refine xi_aload_n D_Mo_lender_0 rfl ?_
  refine xi_aload_n D_Mo_lender_1 rfl ?_
  refine xi_iload_n D_Mo_lender_2 rfl ?_
  obtain ⟨g1, h⟩ := okx_ck h
  refine xj_V1 D_Mo_lender_3 L_Mo_265 C_Mo_isPerson Z_Mo_isPerson (zl_fo (g1).1 rfl) (Nat.le_of_ble_eq_true rfl) (Nat.le_of_eq (Nat.sub_add_cancel (by omega))) (w_Mo_isPerson (by omega) (okx_mono (okx_bd h) ?_))
  intro r2 s3 h
  show Xw _ _ _ _ 6 _ [_, _] _ _
  refine xi_if_eq D_Mo_lender_6 (fun c4 => ?_) (fun c4 => ?_)
  · have h := okx_T c4 h
    exact w_Mo_lender_b42 (by omega)  h
  · have h := okx_F c4 h
    refine xi_aload_n D_Mo_lender_9 rfl ?_
    refine xi_iload_n D_Mo_lender_10 rfl ?_
    obtain ⟨g5, h⟩ := okx_ck h
    refine xj_V1 D_Mo_lender_11 L_Mo_303 C_Mo_isThing Z_Mo_isThing (zl_fo (g5).1 rfl) (Nat.le_of_ble_eq_true rfl) (Nat.le_of_eq (Nat.sub_add_cancel (by omega))) (w_Mo_isThing (by omega) (okx_mono (okx_bd h) ?_))
    intro r6 s7 h
    show Xw _ _ _ _ 14 _ [_, _] _ _
    refine xi_if_eq D_Mo_lender_14 (fun c8 => ?_) (fun c8 => ?_)
    · have h := okx_T c8 h
      exact w_Mo_lender_b42 (by omega)  h
    · have h := okx_F c8 h
      refine xi_iload_n D_Mo_lender_17 rfl ?_
      refine xj_iconst (v := 0) D_Mo_lender_18 rfl ?_
      refine xi_sipush (v := 9999) D_Mo_lender_19 rfl ?_
      refine xj_S3 D_Mo_lender_22 L_Mo_268 C_Mo_within Z_Mo_within (Nat.le_of_ble_eq_true rfl) (Nat.le_of_eq (Nat.sub_add_cancel (by omega))) (w_Mo_within (by omega) (okx_mono (okx_bd h) ?_))
      intro r9 s10 h
      show Xw _ _ _ _ 25 _ [_, _] _ _
      refine xi_if_eq D_Mo_lender_25 (fun c11 => ?_) (fun c11 => ?_)
      · have h := okx_T c11 h
        exact w_Mo_lender_b42 (by omega)  h
      · have h := okx_F c11 h
        refine xi_iload D_Mo_lender_28 rfl ?_
        refine xj_iconst (v := 0) D_Mo_lender_30 rfl ?_
        refine xj_iconst (v := 2) D_Mo_lender_31 rfl ?_
        refine xj_S3 D_Mo_lender_32 L_Mo_268 C_Mo_within Z_Mo_within (Nat.le_of_ble_eq_true rfl) (Nat.le_of_eq (Nat.sub_add_cancel (by omega))) (w_Mo_within (by omega) (okx_mono (okx_bd h) ?_))
        intro r12 s13 h
        show Xw _ _ _ _ 35 _ [_, _] _ _
        refine xi_if_eq D_Mo_lender_35 (fun c14 => ?_) (fun c14 => ?_)
        · have h := okx_T c14 h
          exact w_Mo_lender_b42 (by omega)  h
        · have h := okx_F c14 h
          refine xj_iconst (v := 0) D_Mo_lender_38 rfl ?_
          refine xi_goto D_Mo_lender_39 ?_
          exact w_Mo_lender_b43 (by omega)  h
noncomputable def f_Mo_lost (x1 : Int32) (s : Sg) : Option (Int32 × Sg) :=
  f_ck (zl_B s) <|
  let s2 : Sg := uI s 46 0 0
  let s3 : Sg := uI s2 46 39 10
  if (mI s3 46 10) ≤ 0 then
    some ((-1), s3)
  else
    f_bd (f_Mo_isPains x1 s3) fun r5 s6 =>
    if r5 = 0 then
      some ((-1), s6)
    else
      f_ck (zl_B s6) <|
      f_bd (f_Mo_bestPains  s6) fun r9 s10 =>
      f_ck (zl_B s10) <|
      f_bd (f_Mo_goodOf r9 s10) fun r12 s13 =>
      f_ck (zl_B s13) <|
      f_bd (f_Mo_goodOf x1 s13) fun r15 s16 =>
      some ((r12 - r15), s16)
theorem w_Mo_lost {x1 : Int32} {s : Sg} {d : Nat} {Q : Option (Option Value) → Sg → Prop} (hd : 5 ≤ d) (h : okx (zq_I Q) (f_Mo_lost x1 s)) : Cw d M_Mo_lost [.ref 46, .int x1] s Q := by
  refine Cw.of (by decide +kernel) (Nat.le_of_ble_eq_true rfl) ?_
  show Xw d M_Mo_lost 0 0 0 [.ref 46, .int x1] [] s _
  unfold f_Mo_lost at h
  refine xi_aload_n D_Mo_lost_0 rfl ?_
  refine xj_iconst (v := 0) D_Mo_lost_1 rfl ?_
  obtain ⟨g1, h⟩ := okx_ck h
  refine xi_putI D_Mo_lost_2 F_Mo_114 (zl_fo (g1).1 rfl) ⟨rfl, by decide, rfl⟩ (⟨rfl, rfl⟩) ?_
  refine xi_aload_n D_Mo_lost_5 rfl ?_
  refine xi_bipush (v := 10) D_Mo_lost_6 rfl ?_
  refine xi_putI D_Mo_lost_8 F_Mo_272 (zl_fo (g1).1 rfl) ⟨rfl, by decide, rfl⟩ (⟨rfl, rfl⟩) ?_
  refine xi_aload_n D_Mo_lost_11 rfl ?_
  refine xi_getI D_Mo_lost_12 F_Mo_234 (zl_fo (g1).1 rfl) ⟨rfl, by decide⟩ ?_
  refine xi_if_le D_Mo_lost_15 (fun c4 => ?_) (fun c4 => ?_)
  · have h := okx_T c4 h
    refine xj_iconst (v := (-1)) D_Mo_lost_43 rfl ?_
    exact xi_ireturn D_Mo_lost_44 rfl (rfl) (okx_I h)
  · have h := okx_F c4 h
    refine xi_aload_n D_Mo_lost_18 rfl ?_
    refine xi_iload_n D_Mo_lost_19 rfl ?_
    refine xj_V1 D_Mo_lost_20 L_Mo_296 C_Mo_isPains Z_Mo_isPains (zl_fo (g1).1 rfl) (Nat.le_of_ble_eq_true rfl) (Nat.le_of_eq (Nat.sub_add_cancel (by omega))) (w_Mo_isPains (by omega) (okx_mono (okx_bd h) ?_))
    intro r5 s6 h
    show Xw _ _ _ _ 23 _ [_] _ _
    refine xi_if_eq D_Mo_lost_23 (fun c7 => ?_) (fun c7 => ?_)
    · have h := okx_T c7 h
      refine xj_iconst (v := (-1)) D_Mo_lost_43 rfl ?_
      exact xi_ireturn D_Mo_lost_44 rfl (rfl) (okx_I h)
    · have h := okx_F c7 h
      refine xi_aload_n D_Mo_lost_26 rfl ?_
      refine xi_aload_n D_Mo_lost_27 rfl ?_
      obtain ⟨g8, h⟩ := okx_ck h
      refine xj_V0 D_Mo_lost_28 L_Mo_390 C_Mo_bestPains Z_Mo_bestPains (zl_fo (g8).1 rfl) (Nat.le_of_ble_eq_true rfl) (Nat.le_of_eq (Nat.sub_add_cancel (by omega))) (w_Mo_bestPains (by omega) (okx_mono (okx_bd h) ?_))
      intro r9 s10 h
      show Xw _ _ _ _ 31 _ [_, _] _ _
      obtain ⟨g11, h⟩ := okx_ck h
      refine xj_V1 D_Mo_lost_31 L_Mo_387 C_Mo_goodOf Z_Mo_goodOf (zl_fo (g11).1 rfl) (Nat.le_of_ble_eq_true rfl) (Nat.le_of_eq (Nat.sub_add_cancel (by omega))) (w_Mo_goodOf (by omega) (okx_mono (okx_bd h) ?_))
      intro r12 s13 h
      show Xw _ _ _ _ 34 _ [_] _ _
      refine xi_aload_n D_Mo_lost_34 rfl ?_
      refine xi_iload_n D_Mo_lost_35 rfl ?_
      obtain ⟨g14, h⟩ := okx_ck h
      refine xj_V1 D_Mo_lost_36 L_Mo_387 C_Mo_goodOf Z_Mo_goodOf (zl_fo (g14).1 rfl) (Nat.le_of_ble_eq_true rfl) (Nat.le_of_eq (Nat.sub_add_cancel (by omega))) (w_Mo_goodOf (by omega) (okx_mono (okx_bd h) ?_))
      intro r15 s16 h
      show Xw _ _ _ _ 39 _ [_, _] _ _
      refine xi_isub D_Mo_lost_39 ?_
      refine xi_goto D_Mo_lost_40 ?_
      exact xi_ireturn D_Mo_lost_44 rfl (rfl) (okx_I h)
noncomputable def f_Mo_lowest_b42 (x0 : Int64) (x2 : Int64) (x4 : Int32) (x5 : Int64) (s : Sg) : Option (Int64 × Sg) :=
  if x4 = 0 then
    f_ck (¬ x5 = 0) <|
    some ((x0 / x5), s)
  else
    f_ck (¬ x5 = 0) <|
    some ((x2 / x5), s)
theorem w_Mo_lowest_b42 {x0 : Int64} {x2 : Int64} {x4 : Int32} {x5 : Int64} {s : Sg} {d : Nat} {Q : Option (Option Value) → Sg → Prop} (hd : 1 ≤ d) (h : okx (zq_L Q) (f_Mo_lowest_b42 x0 x2 x4 x5 s)) : Xw d M_Mo_lowest 0 0 42 [.long x0, .retAddr 0, .long x2, .retAddr 0, .int x4, .long x5, .retAddr 0, .retAddr 0, .retAddr 0, .retAddr 0, .retAddr 0] [] s Q := by
  unfold f_Mo_lowest_b42 at h
  refine xi_iload D_Mo_lowest_42 rfl ?_
  refine xi_if_ne D_Mo_lowest_44 (fun c4 => ?_) (fun c4 => ?_)
  · have h := okx_F c4 h
    refine xi_lload_n D_Mo_lowest_54 rfl ?_
    refine xi_lload D_Mo_lowest_55 rfl ?_
    obtain ⟨g6, h⟩ := okx_ck h
    refine xi_ldiv D_Mo_lowest_57 g6 ?_
    exact xi_lreturn D_Mo_lowest_58 rfl (okx_L h)
  · have h := okx_T c4 h
    refine xi_lload_n D_Mo_lowest_47 rfl ?_
    refine xi_lload D_Mo_lowest_48 rfl ?_
    obtain ⟨g5, h⟩ := okx_ck h
    refine xi_ldiv D_Mo_lowest_50 g5 ?_
    refine xi_goto D_Mo_lowest_51 ?_
    exact xi_lreturn D_Mo_lowest_58 rfl (okx_L h)
noncomputable def f_Mo_lowest_b17 (R17 : Int64 → Int64 → Int32 → Int64 → Int64 → Sg → Option (Int64 × Sg)) (x0 : Int64) (x2 : Int64) (x4 : Int32) (x5 : Int64) (x7 : Int64) (s : Sg) : Option (Int64 × Sg) :=
  if (lg_cmp x7 0) = 0 then
    f_Mo_lowest_b42  x0 x2 x4 x5 s
  else
    f_ck (¬ x7 = 0) <|
    R17 x0 x2 x4 x7 (x5 - x5 / x7 * x7) s
theorem w_Mo_lowest_b17 {x0 : Int64} {x2 : Int64} {x4 : Int32} {x5 : Int64} {x7 : Int64} {s : Sg} {d : Nat} {Q : Option (Option Value) → Sg → Prop} (hd : 1 ≤ d) {R17 : Int64 → Int64 → Int32 → Int64 → Int64 → Sg → Option (Int64 × Sg)} (hR17 : ∀ (x0 : Int64) (x2 : Int64) (x4 : Int32) (x5 : Int64) (x7 : Int64) (s : Sg), okx (zq_L Q) (R17 x0 x2 x4 x5 x7 s) → Xw d M_Mo_lowest 0 0 17 [.long x0, .retAddr 0, .long x2, .retAddr 0, .int x4, .long x5, .retAddr 0, .long x7, .retAddr 0, .retAddr 0, .retAddr 0] [] s Q) (h : okx (zq_L Q) (f_Mo_lowest_b17 R17 x0 x2 x4 x5 x7 s)) : Xw d M_Mo_lowest 0 0 17 [.long x0, .retAddr 0, .long x2, .retAddr 0, .int x4, .long x5, .retAddr 0, .long x7, .retAddr 0, .retAddr 0, .retAddr 0] [] s Q := by
  unfold f_Mo_lowest_b17 at h
  refine xi_lload D_Mo_lowest_17 rfl ?_
  refine xj_lconst (v := 0) D_Mo_lowest_19 rfl ?_
  refine xi_lcmp D_Mo_lowest_20 ?_
  refine xi_if_eq D_Mo_lowest_21 (fun c2 => ?_) (fun c2 => ?_)
  · have h := okx_T c2 h
    exact xk_wk (w_Mo_lowest_b42 (by omega)  h) ⟨Or.inl rfl, Or.inl rfl, Or.inl rfl, Or.inl rfl, Or.inl rfl, Or.inl rfl, Or.inl rfl, Or.inr rfl, Or.inl rfl, Or.inl rfl, Or.inl rfl, trivial⟩
  · have h := okx_F c2 h
    refine xi_lload D_Mo_lowest_24 rfl ?_
    refine xi_lload D_Mo_lowest_26 rfl ?_
    obtain ⟨g3, h⟩ := okx_ck h
    refine xi_lrem D_Mo_lowest_28 g3 ?_
    refine xi_lstore (ls' := [_, _, _, _, _, _, _, _, _, _, _]) D_Mo_lowest_29 rfl (by decide) ?_
    refine xi_lload D_Mo_lowest_31 rfl ?_
    refine xi_lstore (ls' := [_, _, _, _, _, _, _, _, _, _, _]) D_Mo_lowest_33 rfl (by decide) ?_
    refine xi_lload D_Mo_lowest_35 rfl ?_
    refine xi_lstore (ls' := [_, _, _, _, _, _, _, _, _, _, _]) D_Mo_lowest_37 rfl (by decide) ?_
    refine xi_goto D_Mo_lowest_39 ?_
    exact xk_wk (hR17 _ _ _ _ _ _ h) ⟨Or.inl rfl, Or.inl rfl, Or.inl rfl, Or.inl rfl, Or.inl rfl, Or.inl rfl, Or.inl rfl, Or.inl rfl, Or.inl rfl, Or.inr rfl, Or.inl rfl, trivial⟩
noncomputable def f_Mo_lowest_h17 : Nat → Int64 → Int64 → Int32 → Int64 → Int64 → Sg → Option (Int64 × Sg)
  | 0, _, _, _, _, _, _ => none
  | n + 1, x0, x2, x4, x5, x7, s => f_Mo_lowest_b17 (f_Mo_lowest_h17 n) x0 x2 x4 x5 x7 s
theorem w_Mo_lowest_h17 {d : Nat} {Q : Option (Option Value) → Sg → Prop} (hd : 1 ≤ d) : ∀ (n : Nat) (x0 : Int64) (x2 : Int64) (x4 : Int32) (x5 : Int64) (x7 : Int64) (s : Sg), okx (zq_L Q) (f_Mo_lowest_h17 n x0 x2 x4 x5 x7 s) → Xw d M_Mo_lowest 0 0 17 [.long x0, .retAddr 0, .long x2, .retAddr 0, .int x4, .long x5, .retAddr 0, .long x7, .retAddr 0, .retAddr 0, .retAddr 0] [] s Q := by
  intro n
  induction n with
  | zero => intro x0 x2 x4 x5 x7 s h; exact okx_no h
  | succ n ih => intro x0 x2 x4 x5 x7 s h; exact w_Mo_lowest_b17 hd  ih  h
noncomputable def f_Mo_lowest_b12 (x0 : Int64) (x2 : Int64) (x4 : Int32) (y0 : Int64) (s : Sg) : Option (Int64 × Sg) :=
  f_Mo_lowest_h17  zl_fl x0 x2 x4 y0 x2 s
theorem w_Mo_lowest_b12 {x0 : Int64} {x2 : Int64} {x4 : Int32} {y0 : Int64} {s : Sg} {d : Nat} {Q : Option (Option Value) → Sg → Prop} (hd : 1 ≤ d) (h : okx (zq_L Q) (f_Mo_lowest_b12 x0 x2 x4 y0 s)) : Xw d M_Mo_lowest 0 0 12 [.long x0, .retAddr 0, .long x2, .retAddr 0, .int x4, .retAddr 0, .retAddr 0, .retAddr 0, .retAddr 0, .retAddr 0, .retAddr 0] [.long y0] s Q := by
  unfold f_Mo_lowest_b12 at h
  refine xi_lstore (ls' := [_, _, _, _, _, _, _, _, _, _, _]) D_Mo_lowest_12 rfl (by decide) ?_
  refine xi_lload_n D_Mo_lowest_14 rfl ?_
  refine xi_lstore (ls' := [_, _, _, _, _, _, _, _, _, _, _]) D_Mo_lowest_15 rfl (by decide) ?_
  exact w_Mo_lowest_h17 (by omega)  _ _ _ _ _ _ _ h
noncomputable def f_Mo_lowest (x0 : Int64) (x2 : Int64) (x4 : Int32) (s : Sg) : Option (Int64 × Sg) :=
  if 0 ≤ (lg_cmp x0 0) then
    f_Mo_lowest_b12  x0 x2 x4 x0 s
  else
    f_Mo_lowest_b12  x0 x2 x4 (-x0) s
theorem w_Mo_lowest {x0 : Int64} {x2 : Int64} {x4 : Int32} {s : Sg} {d : Nat} {Q : Option (Option Value) → Sg → Prop} (hd : 1 ≤ d) (h : okx (zq_L Q) (f_Mo_lowest x0 x2 x4 s)) : Cw d M_Mo_lowest [.long x0, .long x2, .int x4] s Q := by
  refine Cw.of (by decide +kernel) (Nat.le_of_ble_eq_true rfl) ?_
  show Xw d M_Mo_lowest 0 0 0 [.long x0, .retAddr 0, .long x2, .retAddr 0, .int x4, .retAddr 0, .retAddr 0, .retAddr 0, .retAddr 0, .retAddr 0, .retAddr 0] [] s _
  unfold f_Mo_lowest at h
  refine xi_lload_n D_Mo_lowest_0 rfl ?_
  refine xj_lconst (v := 0) D_Mo_lowest_1 rfl ?_
  refine xi_lcmp D_Mo_lowest_2 ?_
  refine xi_if_ge D_Mo_lowest_3 (fun c1 => ?_) (fun c1 => ?_)
  · have h := okx_T c1 h
    refine xi_lload_n D_Mo_lowest_11 rfl ?_
    exact w_Mo_lowest_b12 (by omega)  h
  · have h := okx_F c1 h
    refine xi_lload_n D_Mo_lowest_6 rfl ?_
    refine xi_lneg D_Mo_lowest_7 ?_
    refine xi_goto D_Mo_lowest_8 ?_
    exact w_Mo_lowest_b12 (by omega)  h
