/-! by a program of ours (wip/whole/gen/func.py, mkall.py) out of the listing: Wk_addsApart Wk_answerOfDeal Wk_isPains Wk_isThing Wk_apart Wk_forgetPlain Wk_isPerson Wk_isWithin Wk_bargain Wk_bestPains Wk_isNobody Wk_best Wk_isSet Wk_canOwn Wk_chance Wk_commonDivisor Wk_isStep Wk_cost Wk_plainCount Wk_rowCount Wk_count Wk_countPlain Wk_digitIn -/
noncomputable def f_Wk_addsApart_b94 (R12 : Int32 → Int32 → Int32 → Int32 → Sg → Option (Int32 × Sg)) (x1 : Int32) (x3 : Int32) (x4 : Int32) (x5 : Int32) (s : Sg) : Option (Int32 × Sg) :=
  R12 x1 x3 x4 (x5 + 1) s
theorem w_Wk_addsApart_b94 {x1 : Int32} {x3 : Int32} {x4 : Int32} {x5 : Int32} {s : Sg} {d : Nat} {Q : Option (Option Value) → Sg → Prop} (hd : 5 ≤ d) {R12 : Int32 → Int32 → Int32 → Int32 → Sg → Option (Int32 × Sg)} (hR12 : ∀ (x1 : Int32) (x3 : Int32) (x4 : Int32) (x5 : Int32) (s : Sg), okx (zq_I Q) (R12 x1 x3 x4 x5 s) → Xw d M_Wk_addsApart 0 0 12 [.ref 4, .int x1, .retAddr 0, .int x3, .int x4, .int x5, .retAddr 0, .retAddr 0] [] s Q) (h : okx (zq_I Q) (f_Wk_addsApart_b94 R12 x1 x3 x4 x5 s)) : Xw d M_Wk_addsApart 0 0 94 [.ref 4, .int x1, .retAddr 0, .int x3, .int x4, .int x5, .retAddr 0, .retAddr 0] [] s Q := by
  unfold f_Wk_addsApart_b94 at h
  refine xi_iinc (v := _ + 1) (ls' := [_, _, _, _, _, _, _, _]) D_Wk_addsApart_94 rfl rfl rfl (by decide) ?_
  refine xi_goto D_Wk_addsApart_97 ?_
  exact hR12 _ _ _ _ _ h
noncomputable def f_Wk_addsApart_b29 (R12 : Int32 → Int32 → Int32 → Int32 → Sg → Option (Int32 × Sg)) (R29 : Int32 → Int32 → Int32 → Int32 → Int32 → Sg → Option (Int32 × Sg)) (x1 : Int32) (x3 : Int32) (x4 : Int32) (x5 : Int32) (x6 : Int32) (s : Sg) : Option (Int32 × Sg) :=
  if (x5 &&& x4) = 0 then
    f_ck (zl_B s) <|
    if ((1 : Int32) <<< ((mI s 7 0) &&& 31)) ≤ x6 then
      f_Wk_addsApart_b94 R12 x1 x3 x4 x5 s
    else
      f_bd (f_Wo_valueOf x6 x5 x3 s) fun r7 s8 =>
      f_ck (zl_B s8) <|
      f_bd (f_Wo_valueOf x6 (x5 ||| ((1 : Int32) <<< (x1 &&& 31))) x3 s8) fun r10 s11 =>
      if r10 ≤ r7 then
        R29 x1 x3 x4 x5 (x6 + 1) s11
      else
        some (1, s11)
  else
    f_Wk_addsApart_b94 R12 x1 x3 x4 x5 s
theorem w_Wk_addsApart_b29 {x1 : Int32} {x3 : Int32} {x4 : Int32} {x5 : Int32} {x6 : Int32} {s : Sg} {d : Nat} {Q : Option (Option Value) → Sg → Prop} (hd : 5 ≤ d) {R12 : Int32 → Int32 → Int32 → Int32 → Sg → Option (Int32 × Sg)} {R29 : Int32 → Int32 → Int32 → Int32 → Int32 → Sg → Option (Int32 × Sg)} (hR12 : ∀ (x1 : Int32) (x3 : Int32) (x4 : Int32) (x5 : Int32) (s : Sg), okx (zq_I Q) (R12 x1 x3 x4 x5 s) → Xw d M_Wk_addsApart 0 0 12 [.ref 4, .int x1, .retAddr 0, .int x3, .int x4, .int x5, .retAddr 0, .retAddr 0] [] s Q) (hR29 : ∀ (x1 : Int32) (x3 : Int32) (x4 : Int32) (x5 : Int32) (x6 : Int32) (s : Sg), okx (zq_I Q) (R29 x1 x3 x4 x5 x6 s) → Xw d M_Wk_addsApart 0 0 29 [.ref 4, .int x1, .retAddr 0, .int x3, .int x4, .int x5, .int x6, .retAddr 0] [] s Q) (h : okx (zq_I Q) (f_Wk_addsApart_b29 R12 R29 x1 x3 x4 x5 x6 s)) : Xw d M_Wk_addsApart 0 0 29 [.ref 4, .int x1, .retAddr 0, .int x3, .int x4, .int x5, .int x6, .retAddr 0] [] s Q := by
  unfold f_Wk_addsApart_b29 at h
  refine xi_iload D_Wk_addsApart_29 rfl ?_
  refine xi_iload D_Wk_addsApart_31 rfl ?_
  refine xi_iand D_Wk_addsApart_33 ?_
  refine xi_if_ne D_Wk_addsApart_34 (fun c4 => ?_) (fun c4 => ?_)
  · have h := okx_F c4 h
    exact xk_wk (w_Wk_addsApart_b94 (by omega) hR12 h) ⟨Or.inl rfl, Or.inl rfl, Or.inl rfl, Or.inl rfl, Or.inl rfl, Or.inl rfl, Or.inr rfl, Or.inl rfl, trivial⟩
  · have h := okx_T c4 h
    refine xi_iload D_Wk_addsApart_37 rfl ?_
    refine xj_iconst (v := 1) D_Wk_addsApart_39 rfl ?_
    refine xi_aload_n D_Wk_addsApart_40 rfl ?_
    obtain ⟨g5, h⟩ := okx_ck h
    refine xi_getR D_Wk_addsApart_41 F_Wk_27 (zl_fo (g5).1 rfl) ⟨rfl, by decide⟩ (zl_gr (g5).2 rfl rfl) ?_
    refine xi_getI D_Wk_addsApart_44 F_Wk_78 (zl_fo (g5).1 rfl) ⟨rfl, by decide⟩ ?_
    refine xi_ishl D_Wk_addsApart_47 ?_
    refine xi_icmp_ge D_Wk_addsApart_48 (fun c6 => ?_) (fun c6 => ?_)
    · have h := okx_T c6 h
      exact xk_wk (w_Wk_addsApart_b94 (by omega) hR12 h) ⟨Or.inl rfl, Or.inl rfl, Or.inl rfl, Or.inl rfl, Or.inl rfl, Or.inl rfl, Or.inr rfl, Or.inl rfl, trivial⟩
    · have h := okx_F c6 h
      refine xi_aload_n D_Wk_addsApart_51 rfl ?_
      refine xi_getR D_Wk_addsApart_52 F_Wk_20 (zl_fo (g5).1 rfl) ⟨rfl, by decide⟩ (zl_gr (g5).2 rfl rfl) ?_
      refine xi_iload D_Wk_addsApart_55 rfl ?_
      refine xi_iload D_Wk_addsApart_57 rfl ?_
      refine xi_iload_n D_Wk_addsApart_59 rfl ?_
      refine xj_V3 D_Wk_addsApart_60 L_Wk_94 C_Wo_valueOf Z_Wo_valueOf (zl_fo (g5).1 rfl) (Nat.le_of_ble_eq_true rfl) (Nat.le_of_eq (Nat.sub_add_cancel (by omega))) (w_Wo_valueOf (by omega) (okx_mono (okx_bd h) ?_))
      intro r7 s8 h
      show Xw _ _ _ _ 63 _ [_] _ _
      refine xi_istore (ls' := [_, _, _, _, _, _, _, _]) D_Wk_addsApart_63 rfl (by decide) ?_
      refine xi_aload_n D_Wk_addsApart_65 rfl ?_
      obtain ⟨g9, h⟩ := okx_ck h
      refine xi_getR D_Wk_addsApart_66 F_Wk_20 (zl_fo (g9).1 rfl) ⟨rfl, by decide⟩ (zl_gr (g9).2 rfl rfl) ?_
      refine xi_iload D_Wk_addsApart_69 rfl ?_
      refine xi_iload D_Wk_addsApart_71 rfl ?_
      refine xj_iconst (v := 1) D_Wk_addsApart_73 rfl ?_
      refine xi_iload_n D_Wk_addsApart_74 rfl ?_
      refine xi_ishl D_Wk_addsApart_75 ?_
      refine xi_ior D_Wk_addsApart_76 ?_
      refine xi_iload_n D_Wk_addsApart_77 rfl ?_
      refine xj_V3 D_Wk_addsApart_78 L_Wk_94 C_Wo_valueOf Z_Wo_valueOf (zl_fo (g9).1 rfl) (Nat.le_of_ble_eq_true rfl) (Nat.le_of_eq (Nat.sub_add_cancel (by omega))) (w_Wo_valueOf (by omega) (okx_mono (okx_bd h) ?_))
      intro r10 s11 h
      show Xw _ _ _ _ 81 _ [_] _ _
      refine xi_iload D_Wk_addsApart_81 rfl ?_
      refine xi_icmp_le D_Wk_addsApart_83 (fun c12 => ?_) (fun c12 => ?_)
      · have h := okx_T c12 h
        refine xi_iinc (v := _ + 1) (ls' := [_, _, _, _, _, _, _, _]) D_Wk_addsApart_88 rfl rfl rfl (by decide) ?_
        refine xi_goto D_Wk_addsApart_91 ?_
        exact xk_wk (hR29 _ _ _ _ _ _ h) ⟨Or.inl rfl, Or.inl rfl, Or.inl rfl, Or.inl rfl, Or.inl rfl, Or.inl rfl, Or.inl rfl, Or.inr rfl, trivial⟩
      · have h := okx_F c12 h
        refine xj_iconst (v := 1) D_Wk_addsApart_86 rfl ?_
        exact xi_ireturn D_Wk_addsApart_87 rfl (rfl) (okx_I h)
noncomputable def f_Wk_addsApart_h29 (R12 : Int32 → Int32 → Int32 → Int32 → Sg → Option (Int32 × Sg)) : Nat → Int32 → Int32 → Int32 → Int32 → Int32 → Sg → Option (Int32 × Sg)
  | 0, _, _, _, _, _, _ => none
  | n + 1, x1, x3, x4, x5, x6, s => f_Wk_addsApart_b29 R12 (f_Wk_addsApart_h29 R12 n) x1 x3 x4 x5 x6 s
theorem w_Wk_addsApart_h29 {d : Nat} {Q : Option (Option Value) → Sg → Prop} (hd : 5 ≤ d) {R12 : Int32 → Int32 → Int32 → Int32 → Sg → Option (Int32 × Sg)} (hR12 : ∀ (x1 : Int32) (x3 : Int32) (x4 : Int32) (x5 : Int32) (s : Sg), okx (zq_I Q) (R12 x1 x3 x4 x5 s) → Xw d M_Wk_addsApart 0 0 12 [.ref 4, .int x1, .retAddr 0, .int x3, .int x4, .int x5, .retAddr 0, .retAddr 0] [] s Q) : ∀ (n : Nat) (x1 : Int32) (x3 : Int32) (x4 : Int32) (x5 : Int32) (x6 : Int32) (s : Sg), okx (zq_I Q) (f_Wk_addsApart_h29 R12 n x1 x3 x4 x5 x6 s) → Xw d M_Wk_addsApart 0 0 29 [.ref 4, .int x1, .retAddr 0, .int x3, .int x4, .int x5, .int x6, .retAddr 0] [] s Q := by
  intro n
  induction n with
  | zero => intro x1 x3 x4 x5 x6 s h; exact okx_no h
  | succ n ih => intro x1 x3 x4 x5 x6 s h; exact w_Wk_addsApart_b29 hd hR12 ih  h
noncomputable def f_Wk_addsApart_b12 (R12 : Int32 → Int32 → Int32 → Int32 → Sg → Option (Int32 × Sg)) (x1 : Int32) (x3 : Int32) (x4 : Int32) (x5 : Int32) (s : Sg) : Option (Int32 × Sg) :=
  f_ck (zl_B s) <|
  if ((1 : Int32) <<< ((mI s 7 1) &&& 31)) ≤ x5 then
    some (0, s)
  else
    f_Wk_addsApart_h29 R12 zl_fl x1 x3 x4 x5 0 s
theorem w_Wk_addsApart_b12 {x1 : Int32} {x3 : Int32} {x4 : Int32} {x5 : Int32} {s : Sg} {d : Nat} {Q : Option (Option Value) → Sg → Prop} (hd : 5 ≤ d) {R12 : Int32 → Int32 → Int32 → Int32 → Sg → Option (Int32 × Sg)} (hR12 : ∀ (x1 : Int32) (x3 : Int32) (x4 : Int32) (x5 : Int32) (s : Sg), okx (zq_I Q) (R12 x1 x3 x4 x5 s) → Xw d M_Wk_addsApart 0 0 12 [.ref 4, .int x1, .retAddr 0, .int x3, .int x4, .int x5, .retAddr 0, .retAddr 0] [] s Q) (h : okx (zq_I Q) (f_Wk_addsApart_b12 R12 x1 x3 x4 x5 s)) : Xw d M_Wk_addsApart 0 0 12 [.ref 4, .int x1, .retAddr 0, .int x3, .int x4, .int x5, .retAddr 0, .retAddr 0] [] s Q := by
  unfold f_Wk_addsApart_b12 at h
  refine xi_iload D_Wk_addsApart_12 rfl ?_
  refine xj_iconst (v := 1) D_Wk_addsApart_14 rfl ?_
  refine xi_aload_n D_Wk_addsApart_15 rfl ?_
  obtain ⟨g2, h⟩ := okx_ck h
  refine xi_getR D_Wk_addsApart_16 F_Wk_27 (zl_fo (g2).1 rfl) ⟨rfl, by decide⟩ (zl_gr (g2).2 rfl rfl) ?_
  refine xi_getI D_Wk_addsApart_19 F_Wk_84 (zl_fo (g2).1 rfl) ⟨rfl, by decide⟩ ?_
  refine xi_ishl D_Wk_addsApart_22 ?_
  refine xi_icmp_ge D_Wk_addsApart_23 (fun c3 => ?_) (fun c3 => ?_)
  · have h := okx_T c3 h
    refine xj_iconst (v := 0) D_Wk_addsApart_100 rfl ?_
    exact xi_ireturn D_Wk_addsApart_101 rfl (rfl) (okx_I h)
  · have h := okx_F c3 h
    refine xj_iconst (v := 0) D_Wk_addsApart_26 rfl ?_
    refine xi_istore (ls' := [_, _, _, _, _, _, _, _]) D_Wk_addsApart_27 rfl (by decide) ?_
    exact w_Wk_addsApart_h29 (by omega) hR12 _ _ _ _ _ _ _ h
noncomputable def f_Wk_addsApart_h12 : Nat → Int32 → Int32 → Int32 → Int32 → Sg → Option (Int32 × Sg)
  | 0, _, _, _, _, _ => none
  | n + 1, x1, x3, x4, x5, s => f_Wk_addsApart_b12 (f_Wk_addsApart_h12 n) x1 x3 x4 x5 s
theorem w_Wk_addsApart_h12 {d : Nat} {Q : Option (Option Value) → Sg → Prop} (hd : 5 ≤ d) : ∀ (n : Nat) (x1 : Int32) (x3 : Int32) (x4 : Int32) (x5 : Int32) (s : Sg), okx (zq_I Q) (f_Wk_addsApart_h12 n x1 x3 x4 x5 s) → Xw d M_Wk_addsApart 0 0 12 [.ref 4, .int x1, .retAddr 0, .int x3, .int x4, .int x5, .retAddr 0, .retAddr 0] [] s Q := by
  intro n
  induction n with
  | zero => intro x1 x3 x4 x5 s h; exact okx_no h
  | succ n ih => intro x1 x3 x4 x5 s h; exact w_Wk_addsApart_b12 hd  ih  h
noncomputable def f_Wk_addsApart (x1 : Int32) (x2 : Int32) (x3 : Int32) (s : Sg) : Option (Int32 × Sg) :=
  let v1 : Int32 := (((1 : Int32) <<< (x1 &&& 31)) ||| ((1 : Int32) <<< (x2 &&& 31)))
  f_Wk_addsApart_h12  zl_fl x1 x3 v1 0 s
theorem w_Wk_addsApart {x1 : Int32} {x2 : Int32} {x3 : Int32} {s : Sg} {d : Nat} {Q : Option (Option Value) → Sg → Prop} (hd : 5 ≤ d) (h : okx (zq_I Q) (f_Wk_addsApart x1 x2 x3 s)) : Cw d M_Wk_addsApart [.ref 4, .int x1, .int x2, .int x3] s Q := by
  refine Cw.of (by decide +kernel) (Nat.le_of_ble_eq_true rfl) ?_
  show Xw d M_Wk_addsApart 0 0 0 [.ref 4, .int x1, .int x2, .int x3, .retAddr 0, .retAddr 0, .retAddr 0, .retAddr 0] [] s _
  unfold f_Wk_addsApart at h
  refine xj_iconst (v := 1) D_Wk_addsApart_0 rfl ?_
  refine xi_iload_n D_Wk_addsApart_1 rfl ?_
  refine xi_ishl D_Wk_addsApart_2 ?_
  refine xj_iconst (v := 1) D_Wk_addsApart_3 rfl ?_
  refine xi_iload_n D_Wk_addsApart_4 rfl ?_
  refine xi_ishl D_Wk_addsApart_5 ?_
  refine xi_ior D_Wk_addsApart_6 ?_
  refine xi_istore (ls' := [_, _, _, _, _, _, _, _]) D_Wk_addsApart_7 rfl (by decide) ?_
  refine xj_iconst (v := 0) D_Wk_addsApart_9 rfl ?_
  refine xi_istore (ls' := [_, _, _, _, _, _, _, _]) D_Wk_addsApart_10 rfl (by decide) ?_
  exact xk_wk (w_Wk_addsApart_h12 (by omega)  _ _ _ _ _ _ h) ⟨Or.inl rfl, Or.inl rfl, Or.inr rfl, Or.inl rfl, Or.inl rfl, Or.inl rfl, Or.inl rfl, Or.inl rfl, trivial⟩
noncomputable def f_Wk_answerOfDeal (x1 : Int32) (x2 : Int32) (s : Sg) : Option ((Option Int32) × Sg) :=
  f_ck (zl_B s) <|
  f_bd (f_Tu_byTurns 0 (-1) s) fun r2 s3 =>
  if r2 = (-1) then
    some (none, s3)
  else
    if x1 = 0 then
      some ((some r2), s3)
    else
      if x1 = 1 then
        f_ck (zl_B s3) <|
        f_bd (f_Wo_goodOf r2 s3) fun r8 s9 =>
        some ((some r8), s9)
      else
        f_ck (zl_B s3) <|
        f_bd (f_Tu_goesOver r2 s3) fun r11 s12 =>
        if r11 = x2 then
          some ((some 1), s12)
        else
          some ((some 0), s12)
theorem w_Wk_answerOfDeal {x1 : Int32} {x2 : Int32} {s : Sg} {d : Nat} {Q : Option (Option Value) → Sg → Prop} (hd : 9 ≤ d) (h : okx (zq_TI Q) (f_Wk_answerOfDeal x1 x2 s)) : Cw d M_Wk_answerOfDeal [.ref 4, .int x1, .int x2] s Q := by
  refine Cw.of (by decide +kernel) (Nat.le_of_ble_eq_true rfl) ?_
  show Xw d M_Wk_answerOfDeal 1 6 0 [.ref 4, .int x1, .int x2, .retAddr 0] [] s _
  unfold f_Wk_answerOfDeal at h
  refine xi_aload_n D_Wk_answerOfDeal_0 rfl ?_
  obtain ⟨g1, h⟩ := okx_ck h
  refine xi_getR D_Wk_answerOfDeal_1 F_Wk_12 (zl_fo (g1).1 rfl) ⟨rfl, by decide⟩ (zl_gr (g1).2 rfl rfl) ?_
  refine xj_iconst (v := 0) D_Wk_answerOfDeal_4 rfl ?_
  refine xj_iconst (v := (-1)) D_Wk_answerOfDeal_5 rfl ?_
  refine xj_V2 D_Wk_answerOfDeal_6 L_Wk_175 C_Tu_byTurns Z_Tu_byTurns (zl_fo (g1).1 rfl) (Nat.le_of_ble_eq_true rfl) (Nat.le_of_eq (Nat.sub_add_cancel (by omega))) (w_Tu_byTurns (by omega) (okx_mono (okx_bd h) ?_))
  intro r2 s3 h
  show Xw _ _ _ _ 9 _ [_] _ _
  refine xi_istore_n (ls' := [_, _, _, _]) D_Wk_answerOfDeal_9 rfl (by decide) ?_
  refine xi_iload_n D_Wk_answerOfDeal_10 rfl ?_
  refine xj_iconst (v := (-1)) D_Wk_answerOfDeal_11 rfl ?_
  refine xi_icmp_ne D_Wk_answerOfDeal_12 (fun c4 => ?_) (fun c4 => ?_)
  · have h := okx_F c4 h
    refine xi_iload_n D_Wk_answerOfDeal_23 rfl ?_
    refine xi_if_ne D_Wk_answerOfDeal_24 (fun c5 => ?_) (fun c5 => ?_)
    · have h := okx_F c5 h
      refine xi_iload_n D_Wk_answerOfDeal_29 rfl ?_
      refine xj_iconst (v := 1) D_Wk_answerOfDeal_30 rfl ?_
      refine xi_icmp_ne D_Wk_answerOfDeal_31 (fun c6 => ?_) (fun c6 => ?_)
      · have h := okx_F c6 h
        refine xi_aload_n D_Wk_answerOfDeal_43 rfl ?_
        obtain ⟨g10, h⟩ := okx_ck h
        refine xi_getR D_Wk_answerOfDeal_44 F_Wk_12 (zl_fo (g10).1 rfl) ⟨rfl, by decide⟩ (zl_gr (g10).2 rfl rfl) ?_
        refine xi_iload_n D_Wk_answerOfDeal_47 rfl ?_
        refine xj_V1 D_Wk_answerOfDeal_48 L_Wk_272 C_Tu_goesOver Z_Tu_goesOver (zl_fo (g10).1 rfl) (Nat.le_of_ble_eq_true rfl) (Nat.le_of_eq (Nat.sub_add_cancel (by omega))) (w_Tu_goesOver (by omega) (okx_mono (okx_bd h) ?_))
        intro r11 s12 h
        show Xw _ _ _ _ 51 _ [_] _ _
        refine xi_iload_n D_Wk_answerOfDeal_51 rfl ?_
        refine xi_icmp_ne D_Wk_answerOfDeal_52 (fun c13 => ?_) (fun c13 => ?_)
        · have h := okx_F c13 h
          refine xj_iconst (v := 0) D_Wk_answerOfDeal_59 rfl ?_
          exact xi_ireturn D_Wk_answerOfDeal_60 rfl (rfl) (okx_TI h)
        · have h := okx_T c13 h
          refine xj_iconst (v := 1) D_Wk_answerOfDeal_55 rfl ?_
          refine xi_goto D_Wk_answerOfDeal_56 ?_
          exact xi_ireturn D_Wk_answerOfDeal_60 rfl (rfl) (okx_TI h)
      · have h := okx_T c6 h
        refine xi_aload_n D_Wk_answerOfDeal_34 rfl ?_
        obtain ⟨g7, h⟩ := okx_ck h
        refine xi_getR D_Wk_answerOfDeal_35 F_Wk_20 (zl_fo (g7).1 rfl) ⟨rfl, by decide⟩ (zl_gr (g7).2 rfl rfl) ?_
        refine xi_iload_n D_Wk_answerOfDeal_38 rfl ?_
        refine xj_V1 D_Wk_answerOfDeal_39 L_Wk_181 C_Wo_goodOf Z_Wo_goodOf (zl_fo (g7).1 rfl) (Nat.le_of_ble_eq_true rfl) (Nat.le_of_eq (Nat.sub_add_cancel (by omega))) (w_Wo_goodOf (by omega) (okx_mono (okx_bd h) ?_))
        intro r8 s9 h
        show Xw _ _ _ _ 42 _ [_] _ _
        exact xi_ireturn D_Wk_answerOfDeal_42 rfl (rfl) (okx_TI h)
    · have h := okx_T c5 h
      refine xi_iload_n D_Wk_answerOfDeal_27 rfl ?_
      exact xi_ireturn D_Wk_answerOfDeal_28 rfl (rfl) (okx_TI h)
  · have h := okx_T c4 h
    exact xi_throw ⟨rfl, rfl, D_Wk_answerOfDeal_15.1, D_Wk_answerOfDeal_18.1, D_Wk_answerOfDeal_19.1, D_Wk_answerOfDeal_22.1⟩ (by omega) (by decide) (okx_NTI h)
noncomputable def f_Wk_isPains_b23 (R23 : Int32 → Int32 → Sg → Option (Int32 × Sg)) (x1 : Int32) (x2 : Int32) (s : Sg) : Option (Int32 × Sg) :=
  f_ck (zl_B s) <|
  if (mI s 7 0) ≤ x2 then
    some (1, s)
  else
    f_bd (f_Wk_stepIn x1 x2 s) fun r6 s7 =>
    f_ck (zl_B s7) <|
    f_ck (vp_in x2 4) <|
    if r6 ≤ (mI s7 8 (Int32.toNatClampNeg x2)) then
      R23 x1 (x2 + 1) s7
    else
      some (0, s7)
theorem w_Wk_isPains_b23 {x1 : Int32} {x2 : Int32} {s : Sg} {d : Nat} {Q : Option (Option Value) → Sg → Prop} (hd : 2 ≤ d) {R23 : Int32 → Int32 → Sg → Option (Int32 × Sg)} (hR23 : ∀ (x1 : Int32) (x2 : Int32) (s : Sg), okx (zq_I Q) (R23 x1 x2 s) → Xw d M_Wk_isPains 0 0 23 [.ref 4, .int x1, .int x2] [] s Q) (h : okx (zq_I Q) (f_Wk_isPains_b23 R23 x1 x2 s)) : Xw d M_Wk_isPains 0 0 23 [.ref 4, .int x1, .int x2] [] s Q := by
  unfold f_Wk_isPains_b23 at h
  refine xi_iload_n D_Wk_isPains_23 rfl ?_
  refine xi_aload_n D_Wk_isPains_24 rfl ?_
  obtain ⟨g4, h⟩ := okx_ck h
  refine xi_getR D_Wk_isPains_25 F_Wk_27 (zl_fo (g4).1 rfl) ⟨rfl, by decide⟩ (zl_gr (g4).2 rfl rfl) ?_
  refine xi_getI D_Wk_isPains_28 F_Wk_78 (zl_fo (g4).1 rfl) ⟨rfl, by decide⟩ ?_
  refine xi_icmp_ge D_Wk_isPains_31 (fun c5 => ?_) (fun c5 => ?_)
  · have h := okx_T c5 h
    refine xj_iconst (v := 1) D_Wk_isPains_59 rfl ?_
    exact xi_ireturn D_Wk_isPains_60 rfl (rfl) (okx_I h)
  · have h := okx_F c5 h
    refine xi_iload_n D_Wk_isPains_34 rfl ?_
    refine xi_iload_n D_Wk_isPains_35 rfl ?_
    refine xj_S2 D_Wk_isPains_36 L_Wk_165 C_Wk_stepIn Z_Wk_stepIn (Nat.le_of_ble_eq_true rfl) (Nat.le_of_eq (Nat.sub_add_cancel (by omega))) (w_Wk_stepIn (by omega) (okx_mono (okx_bd h) ?_))
    intro r6 s7 h
    show Xw _ _ _ _ 39 _ [_] _ _
    refine xi_aload_n D_Wk_isPains_39 rfl ?_
    obtain ⟨g8, h⟩ := okx_ck h
    refine xi_getR D_Wk_isPains_40 F_Wk_27 (zl_fo (g8).1 rfl) ⟨rfl, by decide⟩ (zl_gr (g8).2 rfl rfl) ?_
    refine xi_getR D_Wk_isPains_43 F_Wk_219 (zl_fo (g8).1 rfl) ⟨rfl, by decide⟩ (zl_gr (g8).2 rfl rfl) ?_
    refine xi_iload_n D_Wk_isPains_46 rfl ?_
    obtain ⟨g9, h⟩ := okx_ck h
    refine xj_iald D_Wk_isPains_47 (zl_fx (g8).1 rfl) (zl_ib (n := 4) rfl (g9)) ?_
    refine xi_icmp_le D_Wk_isPains_48 (fun c10 => ?_) (fun c10 => ?_)
    · have h := okx_T c10 h
      refine xi_iinc (v := _ + 1) (ls' := [_, _, _]) D_Wk_isPains_53 rfl rfl rfl (by decide) ?_
      refine xi_goto D_Wk_isPains_56 ?_
      exact hR23 _ _ _ h
    · have h := okx_F c10 h
      refine xj_iconst (v := 0) D_Wk_isPains_51 rfl ?_
      exact xi_ireturn D_Wk_isPains_52 rfl (rfl) (okx_I h)
noncomputable def f_Wk_isPains_h23 : Nat → Int32 → Int32 → Sg → Option (Int32 × Sg)
  | 0, _, _, _ => none
  | n + 1, x1, x2, s => f_Wk_isPains_b23 (f_Wk_isPains_h23 n) x1 x2 s
theorem w_Wk_isPains_h23 {d : Nat} {Q : Option (Option Value) → Sg → Prop} (hd : 2 ≤ d) : ∀ (n : Nat) (x1 : Int32) (x2 : Int32) (s : Sg), okx (zq_I Q) (f_Wk_isPains_h23 n x1 x2 s) → Xw d M_Wk_isPains 0 0 23 [.ref 4, .int x1, .int x2] [] s Q := by
  intro n
  induction n with
  | zero => intro x1 x2 s h; exact okx_no h
  | succ n ih => intro x1 x2 s h; exact w_Wk_isPains_b23 hd  ih  h
noncomputable def f_Wk_isPains (x1 : Int32) (s : Sg) : Option (Int32 × Sg) :=
  if x1 < 0 then
    some (0, s)
  else
    f_ck (zl_B s) <|
    if x1 < ((1 : Int32) <<< ((2 * (mI s 7 0)) &&& 31)) then
      f_Wk_isPains_h23  zl_fl x1 0 s
    else
      some (0, s)
theorem w_Wk_isPains {x1 : Int32} {s : Sg} {d : Nat} {Q : Option (Option Value) → Sg → Prop} (hd : 2 ≤ d) (h : okx (zq_I Q) (f_Wk_isPains x1 s)) : Cw d M_Wk_isPains [.ref 4, .int x1] s Q := by
  refine Cw.of (by decide +kernel) (Nat.le_of_ble_eq_true rfl) ?_
  show Xw d M_Wk_isPains 0 0 0 [.ref 4, .int x1, .retAddr 0] [] s _
  unfold f_Wk_isPains at h
  refine xi_iload_n D_Wk_isPains_0 rfl ?_
  refine xi_if_lt D_Wk_isPains_1 (fun c1 => ?_) (fun c1 => ?_)
  · have h := okx_T c1 h
    refine xj_iconst (v := 0) D_Wk_isPains_19 rfl ?_
    exact xi_ireturn D_Wk_isPains_20 rfl (rfl) (okx_I h)
  · have h := okx_F c1 h
    refine xi_iload_n D_Wk_isPains_4 rfl ?_
    refine xj_iconst (v := 1) D_Wk_isPains_5 rfl ?_
    refine xj_iconst (v := 2) D_Wk_isPains_6 rfl ?_
    refine xi_aload_n D_Wk_isPains_7 rfl ?_
    obtain ⟨g2, h⟩ := okx_ck h
    refine xi_getR D_Wk_isPains_8 F_Wk_27 (zl_fo (g2).1 rfl) ⟨rfl, by decide⟩ (zl_gr (g2).2 rfl rfl) ?_
    refine xi_getI D_Wk_isPains_11 F_Wk_78 (zl_fo (g2).1 rfl) ⟨rfl, by decide⟩ ?_
    refine xi_imul D_Wk_isPains_14 ?_
    refine xi_ishl D_Wk_isPains_15 ?_
    refine xi_icmp_lt D_Wk_isPains_16 (fun c3 => ?_) (fun c3 => ?_)
    · have h := okx_T c3 h
      refine xj_iconst (v := 0) D_Wk_isPains_21 rfl ?_
      refine xi_istore_n (ls' := [_, _, _]) D_Wk_isPains_22 rfl (by decide) ?_
      exact w_Wk_isPains_h23 (by omega)  _ _ _ _ h
    · have h := okx_F c3 h
      refine xj_iconst (v := 0) D_Wk_isPains_19 rfl ?_
      exact xi_ireturn D_Wk_isPains_20 rfl (rfl) (okx_I h)
noncomputable def f_Wk_isThing (x1 : Int32) (s : Sg) : Option (Int32 × Sg) :=
  if x1 < 0 then
    some (0, s)
  else
    f_ck (zl_B s) <|
    if (mI s 7 1) ≤ x1 then
      some (0, s)
    else
      some (1, s)
theorem w_Wk_isThing {x1 : Int32} {s : Sg} {d : Nat} {Q : Option (Option Value) → Sg → Prop} (hd : 1 ≤ d) (h : okx (zq_I Q) (f_Wk_isThing x1 s)) : Cw d M_Wk_isThing [.ref 4, .int x1] s Q := by
  refine Cw.of (by decide +kernel) (Nat.le_of_ble_eq_true rfl) ?_
  show Xw d M_Wk_isThing 0 0 0 [.ref 4, .int x1] [] s _
  unfold f_Wk_isThing at h
  refine xi_iload_n D_Wk_isThing_0 rfl ?_
  refine xi_if_lt D_Wk_isThing_1 (fun c1 => ?_) (fun c1 => ?_)
  · have h := okx_T c1 h
    refine xj_iconst (v := 0) D_Wk_isThing_19 rfl ?_
    exact xi_ireturn D_Wk_isThing_20 rfl (rfl) (okx_I h)
  · have h := okx_F c1 h
    refine xi_iload_n D_Wk_isThing_4 rfl ?_
    refine xi_aload_n D_Wk_isThing_5 rfl ?_
    obtain ⟨g2, h⟩ := okx_ck h
    refine xi_getR D_Wk_isThing_6 F_Wk_27 (zl_fo (g2).1 rfl) ⟨rfl, by decide⟩ (zl_gr (g2).2 rfl rfl) ?_
    refine xi_getI D_Wk_isThing_9 F_Wk_84 (zl_fo (g2).1 rfl) ⟨rfl, by decide⟩ ?_
    refine xi_icmp_ge D_Wk_isThing_12 (fun c3 => ?_) (fun c3 => ?_)
    · have h := okx_T c3 h
      refine xj_iconst (v := 0) D_Wk_isThing_19 rfl ?_
      exact xi_ireturn D_Wk_isThing_20 rfl (rfl) (okx_I h)
    · have h := okx_F c3 h
      refine xj_iconst (v := 1) D_Wk_isThing_15 rfl ?_
      refine xi_goto D_Wk_isThing_16 ?_
      exact xi_ireturn D_Wk_isThing_20 rfl (rfl) (okx_I h)
noncomputable def f_Wk_apart_b62 (R25 : Int32 → Int32 → Int32 → Sg → Option (Int32 × Sg)) (x1 : Int32) (x2 : Int32) (x3 : Int32) (s : Sg) : Option (Int32 × Sg) :=
  R25 x1 x2 (x3 + 1) s
theorem w_Wk_apart_b62 {x1 : Int32} {x2 : Int32} {x3 : Int32} {s : Sg} {d : Nat} {Q : Option (Option Value) → Sg → Prop} (hd : 6 ≤ d) {R25 : Int32 → Int32 → Int32 → Sg → Option (Int32 × Sg)} (hR25 : ∀ (x1 : Int32) (x2 : Int32) (x3 : Int32) (s : Sg), okx (zq_I Q) (R25 x1 x2 x3 s) → Xw d M_Wk_apart 0 0 25 [.ref 4, .int x1, .int x2, .int x3] [] s Q) (h : okx (zq_I Q) (f_Wk_apart_b62 R25 x1 x2 x3 s)) : Xw d M_Wk_apart 0 0 62 [.ref 4, .int x1, .int x2, .int x3] [] s Q := by
  unfold f_Wk_apart_b62 at h
  refine xi_iinc (v := _ + 1) (ls' := [_, _, _, _]) D_Wk_apart_62 rfl rfl rfl (by decide) ?_
  refine xi_goto D_Wk_apart_65 ?_
  exact hR25 _ _ _ _ h
noncomputable def f_Wk_apart_b25 (R25 : Int32 → Int32 → Int32 → Sg → Option (Int32 × Sg)) (x1 : Int32) (x2 : Int32) (x3 : Int32) (s : Sg) : Option (Int32 × Sg) :=
  if 256 ≤ x3 then
    some (1, s)
  else
    f_ck (zl_B s) <|
    f_bd (f_Wk_isPains x3 s) fun r12 s13 =>
    if r12 = 0 then
      f_Wk_apart_b62 R25 x1 x2 x3 s13
    else
      f_ck (zl_B s13) <|
      f_bd (f_Wk_addsApart x1 x2 x3 s13) fun r16 s17 =>
      if r16 = 0 then
        f_ck (zl_B s17) <|
        f_bd (f_Wk_addsApart x2 x1 x3 s17) fun r20 s21 =>
        if r20 = 0 then
          f_Wk_apart_b62 R25 x1 x2 x3 s21
        else
          some (0, s21)
      else
        some (0, s17)
theorem w_Wk_apart_b25 {x1 : Int32} {x2 : Int32} {x3 : Int32} {s : Sg} {d : Nat} {Q : Option (Option Value) → Sg → Prop} (hd : 6 ≤ d) {R25 : Int32 → Int32 → Int32 → Sg → Option (Int32 × Sg)} (hR25 : ∀ (x1 : Int32) (x2 : Int32) (x3 : Int32) (s : Sg), okx (zq_I Q) (R25 x1 x2 x3 s) → Xw d M_Wk_apart 0 0 25 [.ref 4, .int x1, .int x2, .int x3] [] s Q) (h : okx (zq_I Q) (f_Wk_apart_b25 R25 x1 x2 x3 s)) : Xw d M_Wk_apart 0 0 25 [.ref 4, .int x1, .int x2, .int x3] [] s Q := by
  unfold f_Wk_apart_b25 at h
  refine xi_iload_n D_Wk_apart_25 rfl ?_
  refine xi_sipush (v := 256) D_Wk_apart_26 rfl ?_
  refine xi_icmp_ge D_Wk_apart_29 (fun c10 => ?_) (fun c10 => ?_)
  · have h := okx_T c10 h
    refine xj_iconst (v := 1) D_Wk_apart_68 rfl ?_
    exact xi_ireturn D_Wk_apart_69 rfl (rfl) (okx_I h)
  · have h := okx_F c10 h
    refine xi_aload_n D_Wk_apart_32 rfl ?_
    refine xi_iload_n D_Wk_apart_33 rfl ?_
    obtain ⟨g11, h⟩ := okx_ck h
    refine xj_V1 D_Wk_apart_34 L_Wk_87 C_Wk_isPains Z_Wk_isPains (zl_fo (g11).1 rfl) (Nat.le_of_ble_eq_true rfl) (Nat.le_of_eq (Nat.sub_add_cancel (by omega))) (w_Wk_isPains (by omega) (okx_mono (okx_bd h) ?_))
    intro r12 s13 h
    show Xw _ _ _ _ 37 _ [_] _ _
    refine xi_if_eq D_Wk_apart_37 (fun c14 => ?_) (fun c14 => ?_)
    · have h := okx_T c14 h
      exact w_Wk_apart_b62 (by omega) hR25 h
    · have h := okx_F c14 h
      refine xi_aload_n D_Wk_apart_40 rfl ?_
      refine xi_iload_n D_Wk_apart_41 rfl ?_
      refine xi_iload_n D_Wk_apart_42 rfl ?_
      refine xi_iload_n D_Wk_apart_43 rfl ?_
      obtain ⟨g15, h⟩ := okx_ck h
      refine xj_V3 D_Wk_apart_44 L_Wk_208 C_Wk_addsApart Z_Wk_addsApart (zl_fo (g15).1 rfl) (Nat.le_of_ble_eq_true rfl) (Nat.le_of_eq (Nat.sub_add_cancel (by omega))) (w_Wk_addsApart (by omega) (okx_mono (okx_bd h) ?_))
      intro r16 s17 h
      show Xw _ _ _ _ 47 _ [_] _ _
      refine xi_if_ne D_Wk_apart_47 (fun c18 => ?_) (fun c18 => ?_)
      · have h := okx_F c18 h
        refine xj_iconst (v := 0) D_Wk_apart_60 rfl ?_
        exact xi_ireturn D_Wk_apart_61 rfl (rfl) (okx_I h)
      · have h := okx_T c18 h
        refine xi_aload_n D_Wk_apart_50 rfl ?_
        refine xi_iload_n D_Wk_apart_51 rfl ?_
        refine xi_iload_n D_Wk_apart_52 rfl ?_
        refine xi_iload_n D_Wk_apart_53 rfl ?_
        obtain ⟨g19, h⟩ := okx_ck h
        refine xj_V3 D_Wk_apart_54 L_Wk_208 C_Wk_addsApart Z_Wk_addsApart (zl_fo (g19).1 rfl) (Nat.le_of_ble_eq_true rfl) (Nat.le_of_eq (Nat.sub_add_cancel (by omega))) (w_Wk_addsApart (by omega) (okx_mono (okx_bd h) ?_))
        intro r20 s21 h
        show Xw _ _ _ _ 57 _ [_] _ _
        refine xi_if_eq D_Wk_apart_57 (fun c22 => ?_) (fun c22 => ?_)
        · have h := okx_T c22 h
          exact w_Wk_apart_b62 (by omega) hR25 h
        · have h := okx_F c22 h
          refine xj_iconst (v := 0) D_Wk_apart_60 rfl ?_
          exact xi_ireturn D_Wk_apart_61 rfl (rfl) (okx_I h)
noncomputable def f_Wk_apart_h25 : Nat → Int32 → Int32 → Int32 → Sg → Option (Int32 × Sg)
  | 0, _, _, _, _ => none
  | n + 1, x1, x2, x3, s => f_Wk_apart_b25 (f_Wk_apart_h25 n) x1 x2 x3 s
theorem w_Wk_apart_h25 {d : Nat} {Q : Option (Option Value) → Sg → Prop} (hd : 6 ≤ d) : ∀ (n : Nat) (x1 : Int32) (x2 : Int32) (x3 : Int32) (s : Sg), okx (zq_I Q) (f_Wk_apart_h25 n x1 x2 x3 s) → Xw d M_Wk_apart 0 0 25 [.ref 4, .int x1, .int x2, .int x3] [] s Q := by
  intro n
  induction n with
  | zero => intro x1 x2 x3 s h; exact okx_no h
  | succ n ih => intro x1 x2 x3 s h; exact w_Wk_apart_b25 hd  ih  h
noncomputable def f_Wk_apart (x1 : Int32) (x2 : Int32) (s : Sg) : Option (Int32 × Sg) :=
  f_ck (zl_B s) <|
  f_bd (f_Wk_isThing x1 s) fun r2 s3 =>
  if r2 = 0 then
    some ((-1), s3)
  else
    f_ck (zl_B s3) <|
    f_bd (f_Wk_isThing x2 s3) fun r6 s7 =>
    if r6 = 0 then
      some ((-1), s7)
    else
      if x1 = x2 then
        some ((-1), s7)
      else
        f_Wk_apart_h25  zl_fl x1 x2 0 s7
theorem w_Wk_apart {x1 : Int32} {x2 : Int32} {s : Sg} {d : Nat} {Q : Option (Option Value) → Sg → Prop} (hd : 6 ≤ d) (h : okx (zq_I Q) (f_Wk_apart x1 x2 s)) : Cw d M_Wk_apart [.ref 4, .int x1, .int x2] s Q := by
  refine Cw.of (by decide +kernel) (Nat.le_of_ble_eq_true rfl) ?_
  show Xw d M_Wk_apart 0 0 0 [.ref 4, .int x1, .int x2, .retAddr 0] [] s _
  unfold f_Wk_apart at h
  refine xi_aload_n D_Wk_apart_0 rfl ?_
  refine xi_iload_n D_Wk_apart_1 rfl ?_
  obtain ⟨g1, h⟩ := okx_ck h
  refine xj_V1 D_Wk_apart_2 L_Wk_108 C_Wk_isThing Z_Wk_isThing (zl_fo (g1).1 rfl) (Nat.le_of_ble_eq_true rfl) (Nat.le_of_eq (Nat.sub_add_cancel (by omega))) (w_Wk_isThing (by omega) (okx_mono (okx_bd h) ?_))
  intro r2 s3 h
  show Xw _ _ _ _ 5 _ [_] _ _
  refine xi_if_eq D_Wk_apart_5 (fun c4 => ?_) (fun c4 => ?_)
  · have h := okx_T c4 h
    refine xj_iconst (v := (-1)) D_Wk_apart_21 rfl ?_
    exact xi_ireturn D_Wk_apart_22 rfl (rfl) (okx_I h)
  · have h := okx_F c4 h
    refine xi_aload_n D_Wk_apart_8 rfl ?_
    refine xi_iload_n D_Wk_apart_9 rfl ?_
    obtain ⟨g5, h⟩ := okx_ck h
    refine xj_V1 D_Wk_apart_10 L_Wk_108 C_Wk_isThing Z_Wk_isThing (zl_fo (g5).1 rfl) (Nat.le_of_ble_eq_true rfl) (Nat.le_of_eq (Nat.sub_add_cancel (by omega))) (w_Wk_isThing (by omega) (okx_mono (okx_bd h) ?_))
    intro r6 s7 h
    show Xw _ _ _ _ 13 _ [_] _ _
    refine xi_if_eq D_Wk_apart_13 (fun c8 => ?_) (fun c8 => ?_)
    · have h := okx_T c8 h
      refine xj_iconst (v := (-1)) D_Wk_apart_21 rfl ?_
      exact xi_ireturn D_Wk_apart_22 rfl (rfl) (okx_I h)
    · have h := okx_F c8 h
      refine xi_iload_n D_Wk_apart_16 rfl ?_
      refine xi_iload_n D_Wk_apart_17 rfl ?_
      refine xi_icmp_ne D_Wk_apart_18 (fun c9 => ?_) (fun c9 => ?_)
      · have h := okx_F c9 h
        refine xj_iconst (v := 0) D_Wk_apart_23 rfl ?_
        refine xi_istore_n (ls' := [_, _, _, _]) D_Wk_apart_24 rfl (by decide) ?_
        exact w_Wk_apart_h25 (by omega)  _ _ _ _ _ h
      · have h := okx_T c9 h
        refine xj_iconst (v := (-1)) D_Wk_apart_21 rfl ?_
        exact xi_ireturn D_Wk_apart_22 rfl (rfl) (okx_I h)
noncomputable def f_Wk_forgetPlain_b2 (R2 : Int32 → Sg → Option (Unit × Sg)) (x1 : Int32) (s : Sg) : Option (Unit × Sg) :=
  if 216 ≤ x1 then
    some ((), s)
  else
    f_ck (zl_at s 4 5) <|
    f_ck (mR s 4 6 = some 45) <|
    f_ck (zl_ar s 45 10 216) <|
    f_ck (vp_in x1 216) <|
    let s6 : Sg := uI s 45 (Int32.toNatClampNeg x1) 1073741824
    R2 (x1 + 1) s6
theorem w_Wk_forgetPlain_b2 {x1 : Int32} {s : Sg} {d : Nat} {Q : Option (Option Value) → Sg → Prop} (hd : 1 ≤ d) {R2 : Int32 → Sg → Option (Unit × Sg)} (hR2 : ∀ (x1 : Int32) (s : Sg), okx (zq_V Q) (R2 x1 s) → Xw d M_Wk_forgetPlain 0 0 2 [.ref 4, .int x1] [] s Q) (h : okx (zq_V Q) (f_Wk_forgetPlain_b2 R2 x1 s)) : Xw d M_Wk_forgetPlain 0 0 2 [.ref 4, .int x1] [] s Q := by
  unfold f_Wk_forgetPlain_b2 at h
  refine xi_iload_n D_Wk_forgetPlain_2 rfl ?_
  refine xi_sipush (v := 216) D_Wk_forgetPlain_3 rfl ?_
  refine xi_icmp_ge D_Wk_forgetPlain_6 (fun c1 => ?_) (fun c1 => ?_)
  · have h := okx_T c1 h
    exact xi_return D_Wk_forgetPlain_24 rfl (okx_V h)
  · have h := okx_F c1 h
    refine xi_aload_n D_Wk_forgetPlain_9 rfl ?_
    obtain ⟨g2, h⟩ := okx_ck h
    obtain ⟨g3, h⟩ := okx_ck h
    refine xi_getR D_Wk_forgetPlain_10 F_Wk_45 (g2) ⟨rfl, by decide⟩ (g3) ?_
    refine xi_iload_n D_Wk_forgetPlain_13 rfl ?_
    refine xi_ldcw D_Wk_forgetPlain_14 K_Wk_259 ?_
    obtain ⟨g4, h⟩ := okx_ck h
    obtain ⟨g5, h⟩ := okx_ck h
    refine xi_iast D_Wk_forgetPlain_17 (g4) (g5) ?_
    refine xi_iinc (v := _ + 1) (ls' := [_, _]) D_Wk_forgetPlain_18 rfl rfl rfl (by decide) ?_
    refine xi_goto D_Wk_forgetPlain_21 ?_
    exact hR2 _ _ h
noncomputable def f_Wk_forgetPlain_h2 : Nat → Int32 → Sg → Option (Unit × Sg)
  | 0, _, _ => none
  | n + 1, x1, s => f_Wk_forgetPlain_b2 (f_Wk_forgetPlain_h2 n) x1 s
theorem w_Wk_forgetPlain_h2 {d : Nat} {Q : Option (Option Value) → Sg → Prop} (hd : 1 ≤ d) : ∀ (n : Nat) (x1 : Int32) (s : Sg), okx (zq_V Q) (f_Wk_forgetPlain_h2 n x1 s) → Xw d M_Wk_forgetPlain 0 0 2 [.ref 4, .int x1] [] s Q := by
  intro n
  induction n with
  | zero => intro x1 s h; exact okx_no h
  | succ n ih => intro x1 s h; exact w_Wk_forgetPlain_b2 hd  ih  h
noncomputable def f_Wk_forgetPlain  (s : Sg) : Option (Unit × Sg) :=
  f_Wk_forgetPlain_h2  zl_fl 0 s
theorem w_Wk_forgetPlain {s : Sg} {d : Nat} {Q : Option (Option Value) → Sg → Prop} (hd : 1 ≤ d) (h : okx (zq_V Q) (f_Wk_forgetPlain  s)) : Cw d M_Wk_forgetPlain [.ref 4] s Q := by
  refine Cw.of (by decide +kernel) (Nat.le_of_ble_eq_true rfl) ?_
  show Xw d M_Wk_forgetPlain 0 0 0 [.ref 4, .retAddr 0] [] s _
  unfold f_Wk_forgetPlain at h
  refine xj_iconst (v := 0) D_Wk_forgetPlain_0 rfl ?_
  refine xi_istore_n (ls' := [_, _]) D_Wk_forgetPlain_1 rfl (by decide) ?_
  exact w_Wk_forgetPlain_h2 (by omega)  _ _ _ h
noncomputable def f_Wk_isPerson (x1 : Int32) (s : Sg) : Option (Int32 × Sg) :=
  if x1 < 0 then
    some (0, s)
  else
    f_ck (zl_B s) <|
    if (mI s 7 0) ≤ x1 then
      some (0, s)
    else
      some (1, s)
theorem w_Wk_isPerson {x1 : Int32} {s : Sg} {d : Nat} {Q : Option (Option Value) → Sg → Prop} (hd : 1 ≤ d) (h : okx (zq_I Q) (f_Wk_isPerson x1 s)) : Cw d M_Wk_isPerson [.ref 4, .int x1] s Q := by
  refine Cw.of (by decide +kernel) (Nat.le_of_ble_eq_true rfl) ?_
  show Xw d M_Wk_isPerson 0 0 0 [.ref 4, .int x1] [] s _
  unfold f_Wk_isPerson at h
  refine xi_iload_n D_Wk_isPerson_0 rfl ?_
  refine xi_if_lt D_Wk_isPerson_1 (fun c1 => ?_) (fun c1 => ?_)
  · have h := okx_T c1 h
    refine xj_iconst (v := 0) D_Wk_isPerson_19 rfl ?_
    exact xi_ireturn D_Wk_isPerson_20 rfl (rfl) (okx_I h)
  · have h := okx_F c1 h
    refine xi_iload_n D_Wk_isPerson_4 rfl ?_
    refine xi_aload_n D_Wk_isPerson_5 rfl ?_
    obtain ⟨g2, h⟩ := okx_ck h
    refine xi_getR D_Wk_isPerson_6 F_Wk_27 (zl_fo (g2).1 rfl) ⟨rfl, by decide⟩ (zl_gr (g2).2 rfl rfl) ?_
    refine xi_getI D_Wk_isPerson_9 F_Wk_78 (zl_fo (g2).1 rfl) ⟨rfl, by decide⟩ ?_
    refine xi_icmp_ge D_Wk_isPerson_12 (fun c3 => ?_) (fun c3 => ?_)
    · have h := okx_T c3 h
      refine xj_iconst (v := 0) D_Wk_isPerson_19 rfl ?_
      exact xi_ireturn D_Wk_isPerson_20 rfl (rfl) (okx_I h)
    · have h := okx_F c3 h
      refine xj_iconst (v := 1) D_Wk_isPerson_15 rfl ?_
      refine xi_goto D_Wk_isPerson_16 ?_
      exact xi_ireturn D_Wk_isPerson_20 rfl (rfl) (okx_I h)
noncomputable def f_Wk_isWithin (x0 : Int32) (x1 : Int32) (s : Sg) : Option (Int32 × Sg) :=
  if x0 < 0 then
    some (0, s)
  else
    if x1 < x0 then
      some (0, s)
    else
      some (1, s)
theorem w_Wk_isWithin {x0 : Int32} {x1 : Int32} {s : Sg} {d : Nat} {Q : Option (Option Value) → Sg → Prop} (hd : 1 ≤ d) (h : okx (zq_I Q) (f_Wk_isWithin x0 x1 s)) : Cw d M_Wk_isWithin [.int x0, .int x1] s Q := by
  refine Cw.of (by decide +kernel) (Nat.le_of_ble_eq_true rfl) ?_
  show Xw d M_Wk_isWithin 0 0 0 [.int x0, .int x1] [] s _
  unfold f_Wk_isWithin at h
  refine xi_iload_n D_Wk_isWithin_0 rfl ?_
  refine xi_if_lt D_Wk_isWithin_1 (fun c1 => ?_) (fun c1 => ?_)
  · have h := okx_T c1 h
    refine xj_iconst (v := 0) D_Wk_isWithin_13 rfl ?_
    exact xi_ireturn D_Wk_isWithin_14 rfl (rfl) (okx_I h)
  · have h := okx_F c1 h
    refine xi_iload_n D_Wk_isWithin_4 rfl ?_
    refine xi_iload_n D_Wk_isWithin_5 rfl ?_
    refine xi_icmp_gt D_Wk_isWithin_6 (fun c2 => ?_) (fun c2 => ?_)
    · have h := okx_T c2 h
      refine xj_iconst (v := 0) D_Wk_isWithin_13 rfl ?_
      exact xi_ireturn D_Wk_isWithin_14 rfl (rfl) (okx_I h)
    · have h := okx_F c2 h
      refine xj_iconst (v := 1) D_Wk_isWithin_9 rfl ?_
      refine xi_goto D_Wk_isWithin_10 ?_
      exact xi_ireturn D_Wk_isWithin_14 rfl (rfl) (okx_I h)
noncomputable def f_Wk_bargain (x1 : Int32) (x2 : Int32) (s : Sg) : Option (Int32 × Sg) :=
  f_bd (f_Wk_isWithin x1 2 s) fun r1 s2 =>
  if r1 = 0 then
    some (0, s2)
  else
    f_ck (zl_B s2) <|
    f_bd (f_Wk_isPerson x2 s2) fun r5 s6 =>
    if r5 = 0 then
      some (0, s6)
    else
      f_ck (zl_B s6) <|
      let s9 : Sg := uI s6 7 3 x1
      let s10 : Sg := uI s9 7 4 x2
      f_bd (f_Wk_forgetPlain  s10) fun r11 s12 =>
      some (1, s12)
theorem w_Wk_bargain {x1 : Int32} {x2 : Int32} {s : Sg} {d : Nat} {Q : Option (Option Value) → Sg → Prop} (hd : 2 ≤ d) (h : okx (zq_I Q) (f_Wk_bargain x1 x2 s)) : Cw d M_Wk_bargain [.ref 4, .int x1, .int x2] s Q := by
  refine Cw.of (by decide +kernel) (Nat.le_of_ble_eq_true rfl) ?_
  show Xw d M_Wk_bargain 0 0 0 [.ref 4, .int x1, .int x2] [] s _
  unfold f_Wk_bargain at h
  refine xi_iload_n D_Wk_bargain_0 rfl ?_
  refine xj_iconst (v := 2) D_Wk_bargain_1 rfl ?_
  refine xj_S2 D_Wk_bargain_2 L_Wk_111 C_Wk_isWithin Z_Wk_isWithin (Nat.le_of_ble_eq_true rfl) (Nat.le_of_eq (Nat.sub_add_cancel (by omega))) (w_Wk_isWithin (by omega) (okx_mono (okx_bd h) ?_))
  intro r1 s2 h
  show Xw _ _ _ _ 5 _ [_] _ _
  refine xi_if_eq D_Wk_bargain_5 (fun c3 => ?_) (fun c3 => ?_)
  · have h := okx_T c3 h
    refine xj_iconst (v := 0) D_Wk_bargain_16 rfl ?_
    exact xi_ireturn D_Wk_bargain_17 rfl (rfl) (okx_I h)
  · have h := okx_F c3 h
    refine xi_aload_n D_Wk_bargain_8 rfl ?_
    refine xi_iload_n D_Wk_bargain_9 rfl ?_
    obtain ⟨g4, h⟩ := okx_ck h
    refine xj_V1 D_Wk_bargain_10 L_Wk_131 C_Wk_isPerson Z_Wk_isPerson (zl_fo (g4).1 rfl) (Nat.le_of_ble_eq_true rfl) (Nat.le_of_eq (Nat.sub_add_cancel (by omega))) (w_Wk_isPerson (by omega) (okx_mono (okx_bd h) ?_))
    intro r5 s6 h
    show Xw _ _ _ _ 13 _ [_] _ _
    refine xi_if_ne D_Wk_bargain_13 (fun c7 => ?_) (fun c7 => ?_)
    · have h := okx_F c7 h
      refine xi_aload_n D_Wk_bargain_18 rfl ?_
      obtain ⟨g8, h⟩ := okx_ck h
      refine xi_getR D_Wk_bargain_19 F_Wk_27 (zl_fo (g8).1 rfl) ⟨rfl, by decide⟩ (zl_gr (g8).2 rfl rfl) ?_
      refine xi_iload_n D_Wk_bargain_22 rfl ?_
      refine xi_putI D_Wk_bargain_23 F_Wk_134 (zl_fo (g8).1 rfl) ⟨rfl, by decide, rfl⟩ (⟨rfl, rfl⟩) ?_
      refine xi_aload_n D_Wk_bargain_26 rfl ?_
      refine xi_getR D_Wk_bargain_27 F_Wk_27 (zl_fo (g8).1 rfl) ⟨rfl, by decide⟩ (zl_gr (g8).2 rfl rfl) ?_
      refine xi_iload_n D_Wk_bargain_30 rfl ?_
      refine xi_putI D_Wk_bargain_31 F_Wk_137 (zl_fo (g8).1 rfl) ⟨rfl, by decide, rfl⟩ (⟨rfl, rfl⟩) ?_
      refine xi_aload_n D_Wk_bargain_34 rfl ?_
      refine xj_V0 D_Wk_bargain_35 L_Wk_49 C_Wk_forgetPlain Z_Wk_forgetPlain (zl_fo (g8).1 rfl) (Nat.le_of_ble_eq_true rfl) (Nat.le_of_eq (Nat.sub_add_cancel (by omega))) (w_Wk_forgetPlain (by omega) (okx_mono (okx_bd h) ?_))
      intro r11 s12 h
      show Xw _ _ _ _ 38 _ [] _ _
      refine xj_iconst (v := 1) D_Wk_bargain_38 rfl ?_
      exact xi_ireturn D_Wk_bargain_39 rfl (rfl) (okx_I h)
    · have h := okx_T c7 h
      refine xj_iconst (v := 0) D_Wk_bargain_16 rfl ?_
      exact xi_ireturn D_Wk_bargain_17 rfl (rfl) (okx_I h)
noncomputable def f_Wk_bestPains_b40 (R4 : Int32 → Int32 → Sg → Option (Int32 × Sg)) (x1 : Int32) (x2 : Int32) (s : Sg) : Option (Int32 × Sg) :=
  R4 x1 (x2 + 1) s
theorem w_Wk_bestPains_b40 {x1 : Int32} {x2 : Int32} {s : Sg} {d : Nat} {Q : Option (Option Value) → Sg → Prop} (hd : 6 ≤ d) {R4 : Int32 → Int32 → Sg → Option (Int32 × Sg)} (hR4 : ∀ (x1 : Int32) (x2 : Int32) (s : Sg), okx (zq_I Q) (R4 x1 x2 s) → Xw d M_Wk_bestPains 0 0 4 [.ref 4, .int x1, .int x2] [] s Q) (h : okx (zq_I Q) (f_Wk_bestPains_b40 R4 x1 x2 s)) : Xw d M_Wk_bestPains 0 0 40 [.ref 4, .int x1, .int x2] [] s Q := by
  unfold f_Wk_bestPains_b40 at h
  refine xi_iinc (v := _ + 1) (ls' := [_, _, _]) D_Wk_bestPains_40 rfl rfl rfl (by decide) ?_
  refine xi_goto D_Wk_bestPains_43 ?_
  exact hR4 _ _ _ h
noncomputable def f_Wk_bestPains_b4 (R4 : Int32 → Int32 → Sg → Option (Int32 × Sg)) (x1 : Int32) (x2 : Int32) (s : Sg) : Option (Int32 × Sg) :=
  if 256 ≤ x2 then
    some (x1, s)
  else
    f_ck (zl_B s) <|
    f_bd (f_Wk_isPains x2 s) fun r3 s4 =>
    if r3 = 0 then
      f_Wk_bestPains_b40 R4 x1 x2 s4
    else
      f_ck (zl_B s4) <|
      f_bd (f_Wo_goodOf x2 s4) fun r7 s8 =>
      f_ck (zl_B s8) <|
      f_bd (f_Wo_goodOf x1 s8) fun r10 s11 =>
      if r7 ≤ r10 then
        f_Wk_bestPains_b40 R4 x1 x2 s11
      else
        f_Wk_bestPains_b40 R4 x2 x2 s11
theorem w_Wk_bestPains_b4 {x1 : Int32} {x2 : Int32} {s : Sg} {d : Nat} {Q : Option (Option Value) → Sg → Prop} (hd : 6 ≤ d) {R4 : Int32 → Int32 → Sg → Option (Int32 × Sg)} (hR4 : ∀ (x1 : Int32) (x2 : Int32) (s : Sg), okx (zq_I Q) (R4 x1 x2 s) → Xw d M_Wk_bestPains 0 0 4 [.ref 4, .int x1, .int x2] [] s Q) (h : okx (zq_I Q) (f_Wk_bestPains_b4 R4 x1 x2 s)) : Xw d M_Wk_bestPains 0 0 4 [.ref 4, .int x1, .int x2] [] s Q := by
  unfold f_Wk_bestPains_b4 at h
  refine xi_iload_n D_Wk_bestPains_4 rfl ?_
  refine xi_sipush (v := 256) D_Wk_bestPains_5 rfl ?_
  refine xi_icmp_ge D_Wk_bestPains_8 (fun c1 => ?_) (fun c1 => ?_)
  · have h := okx_T c1 h
    refine xi_iload_n D_Wk_bestPains_46 rfl ?_
    exact xi_ireturn D_Wk_bestPains_47 rfl (rfl) (okx_I h)
  · have h := okx_F c1 h
    refine xi_aload_n D_Wk_bestPains_11 rfl ?_
    refine xi_iload_n D_Wk_bestPains_12 rfl ?_
    obtain ⟨g2, h⟩ := okx_ck h
    refine xj_V1 D_Wk_bestPains_13 L_Wk_87 C_Wk_isPains Z_Wk_isPains (zl_fo (g2).1 rfl) (Nat.le_of_ble_eq_true rfl) (Nat.le_of_eq (Nat.sub_add_cancel (by omega))) (w_Wk_isPains (by omega) (okx_mono (okx_bd h) ?_))
    intro r3 s4 h
    show Xw _ _ _ _ 16 _ [_] _ _
    refine xi_if_eq D_Wk_bestPains_16 (fun c5 => ?_) (fun c5 => ?_)
    · have h := okx_T c5 h
      exact w_Wk_bestPains_b40 (by omega) hR4 h
    · have h := okx_F c5 h
      refine xi_aload_n D_Wk_bestPains_19 rfl ?_
      obtain ⟨g6, h⟩ := okx_ck h
      refine xi_getR D_Wk_bestPains_20 F_Wk_20 (zl_fo (g6).1 rfl) ⟨rfl, by decide⟩ (zl_gr (g6).2 rfl rfl) ?_
      refine xi_iload_n D_Wk_bestPains_23 rfl ?_
      refine xj_V1 D_Wk_bestPains_24 L_Wk_181 C_Wo_goodOf Z_Wo_goodOf (zl_fo (g6).1 rfl) (Nat.le_of_ble_eq_true rfl) (Nat.le_of_eq (Nat.sub_add_cancel (by omega))) (w_Wo_goodOf (by omega) (okx_mono (okx_bd h) ?_))
      intro r7 s8 h
      show Xw _ _ _ _ 27 _ [_] _ _
      refine xi_aload_n D_Wk_bestPains_27 rfl ?_
      obtain ⟨g9, h⟩ := okx_ck h
      refine xi_getR D_Wk_bestPains_28 F_Wk_20 (zl_fo (g9).1 rfl) ⟨rfl, by decide⟩ (zl_gr (g9).2 rfl rfl) ?_
      refine xi_iload_n D_Wk_bestPains_31 rfl ?_
      refine xj_V1 D_Wk_bestPains_32 L_Wk_181 C_Wo_goodOf Z_Wo_goodOf (zl_fo (g9).1 rfl) (Nat.le_of_ble_eq_true rfl) (Nat.le_of_eq (Nat.sub_add_cancel (by omega))) (w_Wo_goodOf (by omega) (okx_mono (okx_bd h) ?_))
      intro r10 s11 h
      show Xw _ _ _ _ 35 _ [_, _] _ _
      refine xi_icmp_le D_Wk_bestPains_35 (fun c12 => ?_) (fun c12 => ?_)
      · have h := okx_T c12 h
        exact w_Wk_bestPains_b40 (by omega) hR4 h
      · have h := okx_F c12 h
        refine xi_iload_n D_Wk_bestPains_38 rfl ?_
        refine xi_istore_n (ls' := [_, _, _]) D_Wk_bestPains_39 rfl (by decide) ?_
        exact w_Wk_bestPains_b40 (by omega) hR4 h
noncomputable def f_Wk_bestPains_h4 : Nat → Int32 → Int32 → Sg → Option (Int32 × Sg)
  | 0, _, _, _ => none
  | n + 1, x1, x2, s => f_Wk_bestPains_b4 (f_Wk_bestPains_h4 n) x1 x2 s
theorem w_Wk_bestPains_h4 {d : Nat} {Q : Option (Option Value) → Sg → Prop} (hd : 6 ≤ d) : ∀ (n : Nat) (x1 : Int32) (x2 : Int32) (s : Sg), okx (zq_I Q) (f_Wk_bestPains_h4 n x1 x2 s) → Xw d M_Wk_bestPains 0 0 4 [.ref 4, .int x1, .int x2] [] s Q := by
  intro n
  induction n with
  | zero => intro x1 x2 s h; exact okx_no h
  | succ n ih => intro x1 x2 s h; exact w_Wk_bestPains_b4 hd  ih  h
noncomputable def f_Wk_bestPains  (s : Sg) : Option (Int32 × Sg) :=
  f_Wk_bestPains_h4  zl_fl 0 1 s
theorem w_Wk_bestPains {s : Sg} {d : Nat} {Q : Option (Option Value) → Sg → Prop} (hd : 6 ≤ d) (h : okx (zq_I Q) (f_Wk_bestPains  s)) : Cw d M_Wk_bestPains [.ref 4] s Q := by
  refine Cw.of (by decide +kernel) (Nat.le_of_ble_eq_true rfl) ?_
  show Xw d M_Wk_bestPains 0 0 0 [.ref 4, .retAddr 0, .retAddr 0] [] s _
  unfold f_Wk_bestPains at h
  refine xj_iconst (v := 0) D_Wk_bestPains_0 rfl ?_
  refine xi_istore_n (ls' := [_, _, _]) D_Wk_bestPains_1 rfl (by decide) ?_
  refine xj_iconst (v := 1) D_Wk_bestPains_2 rfl ?_
  refine xi_istore_n (ls' := [_, _, _]) D_Wk_bestPains_3 rfl (by decide) ?_
  exact w_Wk_bestPains_h4 (by omega)  _ _ _ _ h
noncomputable def f_Wk_isNobody  (s : Sg) : Option (Int32 × Sg) :=
  f_ck (zl_B s) <|
  if (mI s 7 0) = 0 then
    some (1, s)
  else
    some (0, s)
theorem w_Wk_isNobody {s : Sg} {d : Nat} {Q : Option (Option Value) → Sg → Prop} (hd : 1 ≤ d) (h : okx (zq_I Q) (f_Wk_isNobody  s)) : Cw d M_Wk_isNobody [.ref 4] s Q := by
  refine Cw.of (by decide +kernel) (Nat.le_of_ble_eq_true rfl) ?_
  show Xw d M_Wk_isNobody 0 0 0 [.ref 4] [] s _
  unfold f_Wk_isNobody at h
  refine xi_aload_n D_Wk_isNobody_0 rfl ?_
  obtain ⟨g1, h⟩ := okx_ck h
  refine xi_getR D_Wk_isNobody_1 F_Wk_27 (zl_fo (g1).1 rfl) ⟨rfl, by decide⟩ (zl_gr (g1).2 rfl rfl) ?_
  refine xi_getI D_Wk_isNobody_4 F_Wk_78 (zl_fo (g1).1 rfl) ⟨rfl, by decide⟩ ?_
  refine xi_if_ne D_Wk_isNobody_7 (fun c2 => ?_) (fun c2 => ?_)
  · have h := okx_F c2 h
    refine xj_iconst (v := 0) D_Wk_isNobody_14 rfl ?_
    exact xi_ireturn D_Wk_isNobody_15 rfl (rfl) (okx_I h)
  · have h := okx_T c2 h
    refine xj_iconst (v := 1) D_Wk_isNobody_10 rfl ?_
    refine xi_goto D_Wk_isNobody_11 ?_
    exact xi_ireturn D_Wk_isNobody_15 rfl (rfl) (okx_I h)
noncomputable def f_Wk_best (x1 : Int32) (s : Sg) : Option ((Option Int32) × Sg) :=
  f_ck (zl_B s) <|
  f_bd (f_Wk_isNobody  s) fun r2 s3 =>
  if r2 = 0 then
    f_bd (f_Wk_isWithin x1 1 s3) fun r5 s6 =>
    if r5 = 0 then
      some (none, s6)
    else
      f_ck (zl_B s6) <|
      f_bd (f_Wk_bestPains  s6) fun r9 s10 =>
      if x1 = 0 then
        some ((some r9), s10)
      else
        f_ck (zl_B s10) <|
        f_bd (f_Wo_goodOf r9 s10) fun r13 s14 =>
        some ((some r13), s14)
  else
    some (none, s3)
theorem w_Wk_best {x1 : Int32} {s : Sg} {d : Nat} {Q : Option (Option Value) → Sg → Prop} (hd : 9 ≤ d) (h : okx (zq_TI Q) (f_Wk_best x1 s)) : Cw d M_Wk_best [.ref 4, .int x1] s Q := by
  refine Cw.of (by decide +kernel) (Nat.le_of_ble_eq_true rfl) ?_
  show Xw d M_Wk_best 1 6 0 [.ref 4, .int x1, .retAddr 0] [] s _
  unfold f_Wk_best at h
  refine xi_aload_n D_Wk_best_0 rfl ?_
  obtain ⟨g1, h⟩ := okx_ck h
  refine xj_V0 D_Wk_best_1 L_Wk_168 C_Wk_isNobody Z_Wk_isNobody (zl_fo (g1).1 rfl) (Nat.le_of_ble_eq_true rfl) (Nat.le_of_eq (Nat.sub_add_cancel (by omega))) (w_Wk_isNobody (by omega) (okx_mono (okx_bd h) ?_))
  intro r2 s3 h
  show Xw _ _ _ _ 4 _ [_] _ _
  refine xi_if_ne D_Wk_best_4 (fun c4 => ?_) (fun c4 => ?_)
  · have h := okx_F c4 h
    exact xi_throw ⟨rfl, rfl, D_Wk_best_15.1, D_Wk_best_18.1, D_Wk_best_19.1, D_Wk_best_22.1⟩ (by omega) (by decide) (okx_NTI h)
  · have h := okx_T c4 h
    refine xi_iload_n D_Wk_best_7 rfl ?_
    refine xj_iconst (v := 1) D_Wk_best_8 rfl ?_
    refine xj_S2 D_Wk_best_9 L_Wk_111 C_Wk_isWithin Z_Wk_isWithin (Nat.le_of_ble_eq_true rfl) (Nat.le_of_eq (Nat.sub_add_cancel (by omega))) (w_Wk_isWithin (by omega) (okx_mono (okx_bd h) ?_))
    intro r5 s6 h
    show Xw _ _ _ _ 12 _ [_] _ _
    refine xi_if_ne D_Wk_best_12 (fun c7 => ?_) (fun c7 => ?_)
    · have h := okx_F c7 h
      refine xi_aload_n D_Wk_best_23 rfl ?_
      obtain ⟨g8, h⟩ := okx_ck h
      refine xj_V0 D_Wk_best_24 L_Wk_184 C_Wk_bestPains Z_Wk_bestPains (zl_fo (g8).1 rfl) (Nat.le_of_ble_eq_true rfl) (Nat.le_of_eq (Nat.sub_add_cancel (by omega))) (w_Wk_bestPains (by omega) (okx_mono (okx_bd h) ?_))
      intro r9 s10 h
      show Xw _ _ _ _ 27 _ [_] _ _
      refine xi_istore_n (ls' := [_, _, _]) D_Wk_best_27 rfl (by decide) ?_
      refine xi_iload_n D_Wk_best_28 rfl ?_
      refine xi_if_ne D_Wk_best_29 (fun c11 => ?_) (fun c11 => ?_)
      · have h := okx_F c11 h
        refine xi_aload_n D_Wk_best_36 rfl ?_
        obtain ⟨g12, h⟩ := okx_ck h
        refine xi_getR D_Wk_best_37 F_Wk_20 (zl_fo (g12).1 rfl) ⟨rfl, by decide⟩ (zl_gr (g12).2 rfl rfl) ?_
        refine xi_iload_n D_Wk_best_40 rfl ?_
        refine xj_V1 D_Wk_best_41 L_Wk_181 C_Wo_goodOf Z_Wo_goodOf (zl_fo (g12).1 rfl) (Nat.le_of_ble_eq_true rfl) (Nat.le_of_eq (Nat.sub_add_cancel (by omega))) (w_Wo_goodOf (by omega) (okx_mono (okx_bd h) ?_))
        intro r13 s14 h
        show Xw _ _ _ _ 44 _ [_] _ _
        exact xi_ireturn D_Wk_best_44 rfl (rfl) (okx_TI h)
      · have h := okx_T c11 h
        refine xi_iload_n D_Wk_best_32 rfl ?_
        refine xi_goto D_Wk_best_33 ?_
        exact xi_ireturn D_Wk_best_44 rfl (rfl) (okx_TI h)
    · have h := okx_T c7 h
      exact xi_throw ⟨rfl, rfl, D_Wk_best_15.1, D_Wk_best_18.1, D_Wk_best_19.1, D_Wk_best_22.1⟩ (by omega) (by decide) (okx_NTI h)
noncomputable def f_Wk_isSet (x0 : Int32) (x1 : Int32) (s : Sg) : Option (Int32 × Sg) :=
  if x0 < 0 then
    some (0, s)
  else
    if ((1 : Int32) <<< (x1 &&& 31)) ≤ x0 then
      some (0, s)
    else
      some (1, s)
theorem w_Wk_isSet {x0 : Int32} {x1 : Int32} {s : Sg} {d : Nat} {Q : Option (Option Value) → Sg → Prop} (hd : 1 ≤ d) (h : okx (zq_I Q) (f_Wk_isSet x0 x1 s)) : Cw d M_Wk_isSet [.int x0, .int x1] s Q := by
  refine Cw.of (by decide +kernel) (Nat.le_of_ble_eq_true rfl) ?_
  show Xw d M_Wk_isSet 0 0 0 [.int x0, .int x1] [] s _
  unfold f_Wk_isSet at h
  refine xi_iload_n D_Wk_isSet_0 rfl ?_
  refine xi_if_lt D_Wk_isSet_1 (fun c1 => ?_) (fun c1 => ?_)
  · have h := okx_T c1 h
    refine xj_iconst (v := 0) D_Wk_isSet_15 rfl ?_
    exact xi_ireturn D_Wk_isSet_16 rfl (rfl) (okx_I h)
  · have h := okx_F c1 h
    refine xi_iload_n D_Wk_isSet_4 rfl ?_
    refine xj_iconst (v := 1) D_Wk_isSet_5 rfl ?_
    refine xi_iload_n D_Wk_isSet_6 rfl ?_
    refine xi_ishl D_Wk_isSet_7 ?_
    refine xi_icmp_ge D_Wk_isSet_8 (fun c2 => ?_) (fun c2 => ?_)
    · have h := okx_T c2 h
      refine xj_iconst (v := 0) D_Wk_isSet_15 rfl ?_
      exact xi_ireturn D_Wk_isSet_16 rfl (rfl) (okx_I h)
    · have h := okx_F c2 h
      refine xj_iconst (v := 1) D_Wk_isSet_11 rfl ?_
      refine xi_goto D_Wk_isSet_12 ?_
      exact xi_ireturn D_Wk_isSet_16 rfl (rfl) (okx_I h)
noncomputable def f_Wk_canOwn (x1 : Int32) (x2 : Int32) (x3 : Int32) (s : Sg) : Option (Int32 × Sg) :=
  f_ck (zl_B s) <|
  f_bd (f_Wk_isThing x1 s) fun r2 s3 =>
  if r2 = 0 then
    some (0, s3)
  else
    f_ck (zl_B s3) <|
    f_bd (f_Wk_isSet x2 (mI s3 7 0) s3) fun r6 s7 =>
    if r6 = 0 then
      some (0, s7)
    else
      if x3 < 1 then
        some (0, s7)
      else
        f_bd (f_In_bitCount x2 s7) fun r10 s11 =>
        if (if (1 : Int32) < r10 then r10 else (1 : Int32)) < x3 then
          some (0, s11)
        else
          some (1, s11)
theorem w_Wk_canOwn {x1 : Int32} {x2 : Int32} {x3 : Int32} {s : Sg} {d : Nat} {Q : Option (Option Value) → Sg → Prop} (hd : 2 ≤ d) (h : okx (zq_I Q) (f_Wk_canOwn x1 x2 x3 s)) : Cw d M_Wk_canOwn [.ref 4, .int x1, .int x2, .int x3] s Q := by
  refine Cw.of (by decide +kernel) (Nat.le_of_ble_eq_true rfl) ?_
  show Xw d M_Wk_canOwn 0 0 0 [.ref 4, .int x1, .int x2, .int x3] [] s _
  unfold f_Wk_canOwn at h
  refine xi_aload_n D_Wk_canOwn_0 rfl ?_
  refine xi_iload_n D_Wk_canOwn_1 rfl ?_
  obtain ⟨g1, h⟩ := okx_ck h
  refine xj_V1 D_Wk_canOwn_2 L_Wk_108 C_Wk_isThing Z_Wk_isThing (zl_fo (g1).1 rfl) (Nat.le_of_ble_eq_true rfl) (Nat.le_of_eq (Nat.sub_add_cancel (by omega))) (w_Wk_isThing (by omega) (okx_mono (okx_bd h) ?_))
  intro r2 s3 h
  show Xw _ _ _ _ 5 _ [_] _ _
  refine xi_if_eq D_Wk_canOwn_5 (fun c4 => ?_) (fun c4 => ?_)
  · have h := okx_T c4 h
    refine xj_iconst (v := 0) D_Wk_canOwn_43 rfl ?_
    exact xi_ireturn D_Wk_canOwn_44 rfl (rfl) (okx_I h)
  · have h := okx_F c4 h
    refine xi_iload_n D_Wk_canOwn_8 rfl ?_
    refine xi_aload_n D_Wk_canOwn_9 rfl ?_
    obtain ⟨g5, h⟩ := okx_ck h
    refine xi_getR D_Wk_canOwn_10 F_Wk_27 (zl_fo (g5).1 rfl) ⟨rfl, by decide⟩ (zl_gr (g5).2 rfl rfl) ?_
    refine xi_getI D_Wk_canOwn_13 F_Wk_78 (zl_fo (g5).1 rfl) ⟨rfl, by decide⟩ ?_
    refine xj_S2 D_Wk_canOwn_16 L_Wk_81 C_Wk_isSet Z_Wk_isSet (Nat.le_of_ble_eq_true rfl) (Nat.le_of_eq (Nat.sub_add_cancel (by omega))) (w_Wk_isSet (by omega) (okx_mono (okx_bd h) ?_))
    intro r6 s7 h
    show Xw _ _ _ _ 19 _ [_] _ _
    refine xi_if_eq D_Wk_canOwn_19 (fun c8 => ?_) (fun c8 => ?_)
    · have h := okx_T c8 h
      refine xj_iconst (v := 0) D_Wk_canOwn_43 rfl ?_
      exact xi_ireturn D_Wk_canOwn_44 rfl (rfl) (okx_I h)
    · have h := okx_F c8 h
      refine xi_iload_n D_Wk_canOwn_22 rfl ?_
      refine xj_iconst (v := 1) D_Wk_canOwn_23 rfl ?_
      refine xi_icmp_lt D_Wk_canOwn_24 (fun c9 => ?_) (fun c9 => ?_)
      · have h := okx_T c9 h
        refine xj_iconst (v := 0) D_Wk_canOwn_43 rfl ?_
        exact xi_ireturn D_Wk_canOwn_44 rfl (rfl) (okx_I h)
      · have h := okx_F c9 h
        refine xi_iload_n D_Wk_canOwn_27 rfl ?_
        refine xj_iconst (v := 1) D_Wk_canOwn_28 rfl ?_
        refine xi_iload_n D_Wk_canOwn_29 rfl ?_
        refine xj_S1 D_Wk_canOwn_30 L_Wk_248 C_In_bitCount Z_In_bitCount (Nat.le_of_ble_eq_true rfl) (Nat.le_of_eq (Nat.sub_add_cancel (by omega))) (w_In_bitCount (by omega) (okx_mono (okx_bd h) ?_))
        intro r10 s11 h
        show Xw _ _ _ _ 33 _ [_, _, _] _ _
        refine xi_maxi D_Wk_canOwn_33 L_Wk_214 ⟨by omega, Nat.le_of_ble_eq_true rfl⟩ ?_
        refine xi_icmp_gt D_Wk_canOwn_36 (fun c12 => ?_) (fun c12 => ?_)
        · have h := okx_T c12 h
          refine xj_iconst (v := 0) D_Wk_canOwn_43 rfl ?_
          exact xi_ireturn D_Wk_canOwn_44 rfl (rfl) (okx_I h)
        · have h := okx_F c12 h
          refine xj_iconst (v := 1) D_Wk_canOwn_39 rfl ?_
          refine xi_goto D_Wk_canOwn_40 ?_
          exact xi_ireturn D_Wk_canOwn_44 rfl (rfl) (okx_I h)
noncomputable def f_Wk_chance (x1 : Int32) (s : Sg) : Option (Int32 × Sg) :=
  f_bd (f_Wk_isWithin x1 10 s) fun r1 s2 =>
  if r1 = 0 then
    some (0, s2)
  else
    f_ck (zl_B s2) <|
    let s5 : Sg := uI s2 7 5 x1
    f_bd (f_Wk_forgetPlain  s5) fun r6 s7 =>
    some (1, s7)
theorem w_Wk_chance {x1 : Int32} {s : Sg} {d : Nat} {Q : Option (Option Value) → Sg → Prop} (hd : 2 ≤ d) (h : okx (zq_I Q) (f_Wk_chance x1 s)) : Cw d M_Wk_chance [.ref 4, .int x1] s Q := by
  refine Cw.of (by decide +kernel) (Nat.le_of_ble_eq_true rfl) ?_
  show Xw d M_Wk_chance 0 0 0 [.ref 4, .int x1] [] s _
  unfold f_Wk_chance at h
  refine xi_iload_n D_Wk_chance_0 rfl ?_
  refine xi_bipush (v := 10) D_Wk_chance_1 rfl ?_
  refine xj_S2 D_Wk_chance_3 L_Wk_111 C_Wk_isWithin Z_Wk_isWithin (Nat.le_of_ble_eq_true rfl) (Nat.le_of_eq (Nat.sub_add_cancel (by omega))) (w_Wk_isWithin (by omega) (okx_mono (okx_bd h) ?_))
  intro r1 s2 h
  show Xw _ _ _ _ 6 _ [_] _ _
  refine xi_if_ne D_Wk_chance_6 (fun c3 => ?_) (fun c3 => ?_)
  · have h := okx_F c3 h
    refine xi_aload_n D_Wk_chance_11 rfl ?_
    obtain ⟨g4, h⟩ := okx_ck h
    refine xi_getR D_Wk_chance_12 F_Wk_27 (zl_fo (g4).1 rfl) ⟨rfl, by decide⟩ (zl_gr (g4).2 rfl rfl) ?_
    refine xi_iload_n D_Wk_chance_15 rfl ?_
    refine xi_putI D_Wk_chance_16 F_Wk_120 (zl_fo (g4).1 rfl) ⟨rfl, by decide, rfl⟩ (⟨rfl, rfl⟩) ?_
    refine xi_aload_n D_Wk_chance_19 rfl ?_
    refine xj_V0 D_Wk_chance_20 L_Wk_49 C_Wk_forgetPlain Z_Wk_forgetPlain (zl_fo (g4).1 rfl) (Nat.le_of_ble_eq_true rfl) (Nat.le_of_eq (Nat.sub_add_cancel (by omega))) (w_Wk_forgetPlain (by omega) (okx_mono (okx_bd h) ?_))
    intro r6 s7 h
    show Xw _ _ _ _ 23 _ [] _ _
    refine xj_iconst (v := 1) D_Wk_chance_23 rfl ?_
    exact xi_ireturn D_Wk_chance_24 rfl (rfl) (okx_I h)
  · have h := okx_T c3 h
    refine xj_iconst (v := 0) D_Wk_chance_9 rfl ?_
    exact xi_ireturn D_Wk_chance_10 rfl (rfl) (okx_I h)
noncomputable def f_Wk_commonDivisor_b45 (x4 : Int64) (s : Sg) : Option (Int64 × Sg) :=
  if (lg_cmp x4 0) ≤ 0 then
    some (1, s)
  else
    some (x4, s)
theorem w_Wk_commonDivisor_b45 {x4 : Int64} {s : Sg} {d : Nat} {Q : Option (Option Value) → Sg → Prop} (hd : 1 ≤ d) (h : okx (zq_L Q) (f_Wk_commonDivisor_b45 x4 s)) : Xw d M_Wk_commonDivisor 0 0 45 [.retAddr 0, .retAddr 0, .retAddr 0, .retAddr 0, .long x4, .retAddr 0, .retAddr 0, .retAddr 0, .retAddr 0, .retAddr 0, .retAddr 0] [] s Q := by
  unfold f_Wk_commonDivisor_b45 at h
  refine xi_lload D_Wk_commonDivisor_45 rfl ?_
  refine xj_lconst (v := 0) D_Wk_commonDivisor_47 rfl ?_
  refine xi_lcmp D_Wk_commonDivisor_48 ?_
  refine xi_if_le D_Wk_commonDivisor_49 (fun c4 => ?_) (fun c4 => ?_)
  · have h := okx_T c4 h
    refine xj_lconst (v := 1) D_Wk_commonDivisor_57 rfl ?_
    exact xi_lreturn D_Wk_commonDivisor_58 rfl (okx_L h)
  · have h := okx_F c4 h
    refine xi_lload D_Wk_commonDivisor_52 rfl ?_
    refine xi_goto D_Wk_commonDivisor_54 ?_
    exact xi_lreturn D_Wk_commonDivisor_58 rfl (okx_L h)
noncomputable def f_Wk_commonDivisor_b9 (R9 : Int64 → Int64 → Int32 → Sg → Option (Int64 × Sg)) (x4 : Int64) (x6 : Int64) (x8 : Int32) (s : Sg) : Option (Int64 × Sg) :=
  if 128 ≤ x8 then
    f_Wk_commonDivisor_b45  x4 s
  else
    if (lg_cmp x6 0) ≤ 0 then
      f_Wk_commonDivisor_b45  x4 s
    else
      f_ck (¬ x6 = 0) <|
      R9 x6 (x4 - x4 / x6 * x6) (x8 + 1) s
theorem w_Wk_commonDivisor_b9 {x4 : Int64} {x6 : Int64} {x8 : Int32} {s : Sg} {d : Nat} {Q : Option (Option Value) → Sg → Prop} (hd : 1 ≤ d) {R9 : Int64 → Int64 → Int32 → Sg → Option (Int64 × Sg)} (hR9 : ∀ (x4 : Int64) (x6 : Int64) (x8 : Int32) (s : Sg), okx (zq_L Q) (R9 x4 x6 x8 s) → Xw d M_Wk_commonDivisor 0 0 9 [.retAddr 0, .retAddr 0, .retAddr 0, .retAddr 0, .long x4, .retAddr 0, .long x6, .retAddr 0, .int x8, .retAddr 0, .retAddr 0] [] s Q) (h : okx (zq_L Q) (f_Wk_commonDivisor_b9 R9 x4 x6 x8 s)) : Xw d M_Wk_commonDivisor 0 0 9 [.retAddr 0, .retAddr 0, .retAddr 0, .retAddr 0, .long x4, .retAddr 0, .long x6, .retAddr 0, .int x8, .retAddr 0, .retAddr 0] [] s Q := by
  unfold f_Wk_commonDivisor_b9 at h
  refine xi_iload D_Wk_commonDivisor_9 rfl ?_
  refine xi_sipush (v := 128) D_Wk_commonDivisor_11 rfl ?_
  refine xi_icmp_ge D_Wk_commonDivisor_14 (fun c1 => ?_) (fun c1 => ?_)
  · have h := okx_T c1 h
    exact xk_wk (w_Wk_commonDivisor_b45 (by omega)  h) ⟨Or.inl rfl, Or.inl rfl, Or.inl rfl, Or.inl rfl, Or.inl rfl, Or.inl rfl, Or.inr rfl, Or.inl rfl, Or.inr rfl, Or.inl rfl, Or.inl rfl, trivial⟩
  · have h := okx_F c1 h
    refine xi_lload D_Wk_commonDivisor_17 rfl ?_
    refine xj_lconst (v := 0) D_Wk_commonDivisor_19 rfl ?_
    refine xi_lcmp D_Wk_commonDivisor_20 ?_
    refine xi_if_le D_Wk_commonDivisor_21 (fun c2 => ?_) (fun c2 => ?_)
    · have h := okx_T c2 h
      exact xk_wk (w_Wk_commonDivisor_b45 (by omega)  h) ⟨Or.inl rfl, Or.inl rfl, Or.inl rfl, Or.inl rfl, Or.inl rfl, Or.inl rfl, Or.inr rfl, Or.inl rfl, Or.inr rfl, Or.inl rfl, Or.inl rfl, trivial⟩
    · have h := okx_F c2 h
      refine xi_lload D_Wk_commonDivisor_24 rfl ?_
      refine xi_lload D_Wk_commonDivisor_26 rfl ?_
      obtain ⟨g3, h⟩ := okx_ck h
      refine xi_lrem D_Wk_commonDivisor_28 g3 ?_
      refine xi_lstore (ls' := [_, _, _, _, _, _, _, _, _, _, _]) D_Wk_commonDivisor_29 rfl (by decide) ?_
      refine xi_lload D_Wk_commonDivisor_31 rfl ?_
      refine xi_lstore (ls' := [_, _, _, _, _, _, _, _, _, _, _]) D_Wk_commonDivisor_33 rfl (by decide) ?_
      refine xi_lload D_Wk_commonDivisor_35 rfl ?_
      refine xi_lstore (ls' := [_, _, _, _, _, _, _, _, _, _, _]) D_Wk_commonDivisor_37 rfl (by decide) ?_
      refine xi_iinc (v := _ + 1) (ls' := [_, _, _, _, _, _, _, _, _, _, _]) D_Wk_commonDivisor_39 rfl rfl rfl (by decide) ?_
      refine xi_goto D_Wk_commonDivisor_42 ?_
      exact xk_wk (hR9 _ _ _ _ h) ⟨Or.inl rfl, Or.inl rfl, Or.inl rfl, Or.inl rfl, Or.inl rfl, Or.inl rfl, Or.inl rfl, Or.inl rfl, Or.inl rfl, Or.inr rfl, Or.inl rfl, trivial⟩
noncomputable def f_Wk_commonDivisor_h9 : Nat → Int64 → Int64 → Int32 → Sg → Option (Int64 × Sg)
  | 0, _, _, _, _ => none
  | n + 1, x4, x6, x8, s => f_Wk_commonDivisor_b9 (f_Wk_commonDivisor_h9 n) x4 x6 x8 s
theorem w_Wk_commonDivisor_h9 {d : Nat} {Q : Option (Option Value) → Sg → Prop} (hd : 1 ≤ d) : ∀ (n : Nat) (x4 : Int64) (x6 : Int64) (x8 : Int32) (s : Sg), okx (zq_L Q) (f_Wk_commonDivisor_h9 n x4 x6 x8 s) → Xw d M_Wk_commonDivisor 0 0 9 [.retAddr 0, .retAddr 0, .retAddr 0, .retAddr 0, .long x4, .retAddr 0, .long x6, .retAddr 0, .int x8, .retAddr 0, .retAddr 0] [] s Q := by
  intro n
  induction n with
  | zero => intro x4 x6 x8 s h; exact okx_no h
  | succ n ih => intro x4 x6 x8 s h; exact w_Wk_commonDivisor_b9 hd  ih  h
noncomputable def f_Wk_commonDivisor (x0 : Int64) (x2 : Int64) (s : Sg) : Option (Int64 × Sg) :=
  f_Wk_commonDivisor_h9  zl_fl x0 x2 0 s
theorem w_Wk_commonDivisor {x0 : Int64} {x2 : Int64} {s : Sg} {d : Nat} {Q : Option (Option Value) → Sg → Prop} (hd : 1 ≤ d) (h : okx (zq_L Q) (f_Wk_commonDivisor x0 x2 s)) : Cw d M_Wk_commonDivisor [.long x0, .long x2] s Q := by
  refine Cw.of (by decide +kernel) (Nat.le_of_ble_eq_true rfl) ?_
  show Xw d M_Wk_commonDivisor 0 0 0 [.long x0, .retAddr 0, .long x2, .retAddr 0, .retAddr 0, .retAddr 0, .retAddr 0, .retAddr 0, .retAddr 0, .retAddr 0, .retAddr 0] [] s _
  unfold f_Wk_commonDivisor at h
  refine xi_lload_n D_Wk_commonDivisor_0 rfl ?_
  refine xi_lstore (ls' := [_, _, _, _, _, _, _, _, _, _, _]) D_Wk_commonDivisor_1 rfl (by decide) ?_
  refine xi_lload_n D_Wk_commonDivisor_3 rfl ?_
  refine xi_lstore (ls' := [_, _, _, _, _, _, _, _, _, _, _]) D_Wk_commonDivisor_4 rfl (by decide) ?_
  refine xj_iconst (v := 0) D_Wk_commonDivisor_6 rfl ?_
  refine xi_istore (ls' := [_, _, _, _, _, _, _, _, _, _, _]) D_Wk_commonDivisor_7 rfl (by decide) ?_
  exact xk_wk (w_Wk_commonDivisor_h9 (by omega)  _ _ _ _ _ h) ⟨Or.inr rfl, Or.inl rfl, Or.inr rfl, Or.inl rfl, Or.inl rfl, Or.inl rfl, Or.inl rfl, Or.inl rfl, Or.inl rfl, Or.inl rfl, Or.inl rfl, trivial⟩
noncomputable def f_Wk_isStep (x1 : Int32) (x2 : Int32) (s : Sg) : Option (Int32 × Sg) :=
  f_ck (zl_B s) <|
  f_bd (f_Wk_isPerson x1 s) fun r2 s3 =>
  if r2 = 0 then
    some (0, s3)
  else
    if x2 < 0 then
      some (0, s3)
    else
      f_ck (zl_B s3) <|
      f_ck (vp_in x1 4) <|
      if (mI s3 8 (Int32.toNatClampNeg x1)) < x2 then
        some (0, s3)
      else
        some (1, s3)
theorem w_Wk_isStep {x1 : Int32} {x2 : Int32} {s : Sg} {d : Nat} {Q : Option (Option Value) → Sg → Prop} (hd : 2 ≤ d) (h : okx (zq_I Q) (f_Wk_isStep x1 x2 s)) : Cw d M_Wk_isStep [.ref 4, .int x1, .int x2] s Q := by
  refine Cw.of (by decide +kernel) (Nat.le_of_ble_eq_true rfl) ?_
  show Xw d M_Wk_isStep 0 0 0 [.ref 4, .int x1, .int x2] [] s _
  unfold f_Wk_isStep at h
  refine xi_aload_n D_Wk_isStep_0 rfl ?_
  refine xi_iload_n D_Wk_isStep_1 rfl ?_
  obtain ⟨g1, h⟩ := okx_ck h
  refine xj_V1 D_Wk_isStep_2 L_Wk_131 C_Wk_isPerson Z_Wk_isPerson (zl_fo (g1).1 rfl) (Nat.le_of_ble_eq_true rfl) (Nat.le_of_eq (Nat.sub_add_cancel (by omega))) (w_Wk_isPerson (by omega) (okx_mono (okx_bd h) ?_))
  intro r2 s3 h
  show Xw _ _ _ _ 5 _ [_] _ _
  refine xi_if_eq D_Wk_isStep_5 (fun c4 => ?_) (fun c4 => ?_)
  · have h := okx_T c4 h
    refine xj_iconst (v := 0) D_Wk_isStep_29 rfl ?_
    exact xi_ireturn D_Wk_isStep_30 rfl (rfl) (okx_I h)
  · have h := okx_F c4 h
    refine xi_iload_n D_Wk_isStep_8 rfl ?_
    refine xi_if_lt D_Wk_isStep_9 (fun c5 => ?_) (fun c5 => ?_)
    · have h := okx_T c5 h
      refine xj_iconst (v := 0) D_Wk_isStep_29 rfl ?_
      exact xi_ireturn D_Wk_isStep_30 rfl (rfl) (okx_I h)
    · have h := okx_F c5 h
      refine xi_iload_n D_Wk_isStep_12 rfl ?_
      refine xi_aload_n D_Wk_isStep_13 rfl ?_
      obtain ⟨g6, h⟩ := okx_ck h
      refine xi_getR D_Wk_isStep_14 F_Wk_27 (zl_fo (g6).1 rfl) ⟨rfl, by decide⟩ (zl_gr (g6).2 rfl rfl) ?_
      refine xi_getR D_Wk_isStep_17 F_Wk_219 (zl_fo (g6).1 rfl) ⟨rfl, by decide⟩ (zl_gr (g6).2 rfl rfl) ?_
      refine xi_iload_n D_Wk_isStep_20 rfl ?_
      obtain ⟨g7, h⟩ := okx_ck h
      refine xj_iald D_Wk_isStep_21 (zl_fx (g6).1 rfl) (zl_ib (n := 4) rfl (g7)) ?_
      refine xi_icmp_gt D_Wk_isStep_22 (fun c8 => ?_) (fun c8 => ?_)
      · have h := okx_T c8 h
        refine xj_iconst (v := 0) D_Wk_isStep_29 rfl ?_
        exact xi_ireturn D_Wk_isStep_30 rfl (rfl) (okx_I h)
      · have h := okx_F c8 h
        refine xj_iconst (v := 1) D_Wk_isStep_25 rfl ?_
        refine xi_goto D_Wk_isStep_26 ?_
        exact xi_ireturn D_Wk_isStep_30 rfl (rfl) (okx_I h)
noncomputable def f_Wk_cost (x1 : Int32) (x2 : Int32) (s : Sg) : Option (Int32 × Sg) :=
  f_ck (zl_B s) <|
  f_bd (f_Wk_isStep x1 x2 s) fun r2 s3 =>
  if r2 = 0 then
    some ((-1), s3)
  else
    f_ck (zl_B s3) <|
    f_ck (vp_in ((x1 * 4) + x2) 16) <|
    some ((mI s3 9 (Int32.toNatClampNeg ((x1 * 4) + x2))), s3)
theorem w_Wk_cost {x1 : Int32} {x2 : Int32} {s : Sg} {d : Nat} {Q : Option (Option Value) → Sg → Prop} (hd : 3 ≤ d) (h : okx (zq_I Q) (f_Wk_cost x1 x2 s)) : Cw d M_Wk_cost [.ref 4, .int x1, .int x2] s Q := by
  refine Cw.of (by decide +kernel) (Nat.le_of_ble_eq_true rfl) ?_
  show Xw d M_Wk_cost 0 0 0 [.ref 4, .int x1, .int x2] [] s _
  unfold f_Wk_cost at h
  refine xi_aload_n D_Wk_cost_0 rfl ?_
  refine xi_iload_n D_Wk_cost_1 rfl ?_
  refine xi_iload_n D_Wk_cost_2 rfl ?_
  obtain ⟨g1, h⟩ := okx_ck h
  refine xj_V2 D_Wk_cost_3 L_Wk_71 C_Wk_isStep Z_Wk_isStep (zl_fo (g1).1 rfl) (Nat.le_of_ble_eq_true rfl) (Nat.le_of_eq (Nat.sub_add_cancel (by omega))) (w_Wk_isStep (by omega) (okx_mono (okx_bd h) ?_))
  intro r2 s3 h
  show Xw _ _ _ _ 6 _ [_] _ _
  refine xi_if_eq D_Wk_cost_6 (fun c4 => ?_) (fun c4 => ?_)
  · have h := okx_T c4 h
    refine xj_iconst (v := (-1)) D_Wk_cost_25 rfl ?_
    exact xi_ireturn D_Wk_cost_26 rfl (rfl) (okx_I h)
  · have h := okx_F c4 h
    refine xi_aload_n D_Wk_cost_9 rfl ?_
    obtain ⟨g5, h⟩ := okx_ck h
    refine xi_getR D_Wk_cost_10 F_Wk_27 (zl_fo (g5).1 rfl) ⟨rfl, by decide⟩ (zl_gr (g5).2 rfl rfl) ?_
    refine xi_getR D_Wk_cost_13 F_Wk_75 (zl_fo (g5).1 rfl) ⟨rfl, by decide⟩ (zl_gr (g5).2 rfl rfl) ?_
    refine xi_iload_n D_Wk_cost_16 rfl ?_
    refine xj_iconst (v := 4) D_Wk_cost_17 rfl ?_
    refine xi_imul D_Wk_cost_18 ?_
    refine xi_iload_n D_Wk_cost_19 rfl ?_
    refine xi_iadd D_Wk_cost_20 ?_
    obtain ⟨g6, h⟩ := okx_ck h
    refine xj_iald D_Wk_cost_21 (zl_fx (g5).1 rfl) (zl_ib (n := 16) rfl (g6)) ?_
    refine xi_goto D_Wk_cost_22 ?_
    exact xi_ireturn D_Wk_cost_26 rfl (rfl) (okx_I h)
noncomputable def f_Wk_plainCount_b15 (R15 : Int32 → Int32 → Sg → Option (Int32 × Sg)) (x1 : Int32) (x2 : Int32) (s : Sg) : Option (Int32 × Sg) :=
  f_ck (zl_B s) <|
  if (mI s 7 1) ≤ x2 then
    some (x1, s)
  else
    R15 (x1 * ((mI s 7 0) + 2)) (x2 + 1) s
theorem w_Wk_plainCount_b15 {x1 : Int32} {x2 : Int32} {s : Sg} {d : Nat} {Q : Option (Option Value) → Sg → Prop} (hd : 2 ≤ d) {R15 : Int32 → Int32 → Sg → Option (Int32 × Sg)} (hR15 : ∀ (x1 : Int32) (x2 : Int32) (s : Sg), okx (zq_I Q) (R15 x1 x2 s) → Xw d M_Wk_plainCount 0 0 15 [.ref 4, .int x1, .int x2] [] s Q) (h : okx (zq_I Q) (f_Wk_plainCount_b15 R15 x1 x2 s)) : Xw d M_Wk_plainCount 0 0 15 [.ref 4, .int x1, .int x2] [] s Q := by
  unfold f_Wk_plainCount_b15 at h
  refine xi_iload_n D_Wk_plainCount_15 rfl ?_
  refine xi_aload_n D_Wk_plainCount_16 rfl ?_
  obtain ⟨g5, h⟩ := okx_ck h
  refine xi_getR D_Wk_plainCount_17 F_Wk_27 (zl_fo (g5).1 rfl) ⟨rfl, by decide⟩ (zl_gr (g5).2 rfl rfl) ?_
  refine xi_getI D_Wk_plainCount_20 F_Wk_84 (zl_fo (g5).1 rfl) ⟨rfl, by decide⟩ ?_
  refine xi_icmp_ge D_Wk_plainCount_23 (fun c6 => ?_) (fun c6 => ?_)
  · have h := okx_T c6 h
    refine xi_iload_n D_Wk_plainCount_44 rfl ?_
    exact xi_ireturn D_Wk_plainCount_45 rfl (rfl) (okx_I h)
  · have h := okx_F c6 h
    refine xi_iload_n D_Wk_plainCount_26 rfl ?_
    refine xi_aload_n D_Wk_plainCount_27 rfl ?_
    refine xi_getR D_Wk_plainCount_28 F_Wk_27 (zl_fo (g5).1 rfl) ⟨rfl, by decide⟩ (zl_gr (g5).2 rfl rfl) ?_
    refine xi_getI D_Wk_plainCount_31 F_Wk_78 (zl_fo (g5).1 rfl) ⟨rfl, by decide⟩ ?_
    refine xj_iconst (v := 2) D_Wk_plainCount_34 rfl ?_
    refine xi_iadd D_Wk_plainCount_35 ?_
    refine xi_imul D_Wk_plainCount_36 ?_
    refine xi_istore_n (ls' := [_, _, _]) D_Wk_plainCount_37 rfl (by decide) ?_
    refine xi_iinc (v := _ + 1) (ls' := [_, _, _]) D_Wk_plainCount_38 rfl rfl rfl (by decide) ?_
    refine xi_goto D_Wk_plainCount_41 ?_
    exact hR15 _ _ _ h
noncomputable def f_Wk_plainCount_h15 : Nat → Int32 → Int32 → Sg → Option (Int32 × Sg)
  | 0, _, _, _ => none
  | n + 1, x1, x2, s => f_Wk_plainCount_b15 (f_Wk_plainCount_h15 n) x1 x2 s
theorem w_Wk_plainCount_h15 {d : Nat} {Q : Option (Option Value) → Sg → Prop} (hd : 2 ≤ d) : ∀ (n : Nat) (x1 : Int32) (x2 : Int32) (s : Sg), okx (zq_I Q) (f_Wk_plainCount_h15 n x1 x2 s) → Xw d M_Wk_plainCount 0 0 15 [.ref 4, .int x1, .int x2] [] s Q := by
  intro n
  induction n with
  | zero => intro x1 x2 s h; exact okx_no h
  | succ n ih => intro x1 x2 s h; exact w_Wk_plainCount_b15 hd  ih  h
noncomputable def f_Wk_plainCount_b12 (y0 : Int32) (s : Sg) : Option (Int32 × Sg) :=
  f_Wk_plainCount_h15  zl_fl y0 0 s
theorem w_Wk_plainCount_b12 {y0 : Int32} {s : Sg} {d : Nat} {Q : Option (Option Value) → Sg → Prop} (hd : 2 ≤ d) (h : okx (zq_I Q) (f_Wk_plainCount_b12 y0 s)) : Xw d M_Wk_plainCount 0 0 12 [.ref 4, .retAddr 0, .retAddr 0] [.int y0] s Q := by
  unfold f_Wk_plainCount_b12 at h
  refine xi_istore_n (ls' := [_, _, _]) D_Wk_plainCount_12 rfl (by decide) ?_
  refine xj_iconst (v := 0) D_Wk_plainCount_13 rfl ?_
  refine xi_istore_n (ls' := [_, _, _]) D_Wk_plainCount_14 rfl (by decide) ?_
  exact w_Wk_plainCount_h15 (by omega)  _ _ _ _ h
noncomputable def f_Wk_plainCount  (s : Sg) : Option (Int32 × Sg) :=
  f_ck (zl_B s) <|
  f_bd (f_Wk_isNobody  s) fun r2 s3 =>
  if r2 = 0 then
    f_Wk_plainCount_b12  1 s3
  else
    f_Wk_plainCount_b12  0 s3
theorem w_Wk_plainCount {s : Sg} {d : Nat} {Q : Option (Option Value) → Sg → Prop} (hd : 2 ≤ d) (h : okx (zq_I Q) (f_Wk_plainCount  s)) : Cw d M_Wk_plainCount [.ref 4] s Q := by
  refine Cw.of (by decide +kernel) (Nat.le_of_ble_eq_true rfl) ?_
  show Xw d M_Wk_plainCount 0 0 0 [.ref 4, .retAddr 0, .retAddr 0] [] s _
  unfold f_Wk_plainCount at h
  refine xi_aload_n D_Wk_plainCount_0 rfl ?_
  obtain ⟨g1, h⟩ := okx_ck h
  refine xj_V0 D_Wk_plainCount_1 L_Wk_168 C_Wk_isNobody Z_Wk_isNobody (zl_fo (g1).1 rfl) (Nat.le_of_ble_eq_true rfl) (Nat.le_of_eq (Nat.sub_add_cancel (by omega))) (w_Wk_isNobody (by omega) (okx_mono (okx_bd h) ?_))
  intro r2 s3 h
  show Xw _ _ _ _ 4 _ [_] _ _
  refine xi_if_eq D_Wk_plainCount_4 (fun c4 => ?_) (fun c4 => ?_)
  · have h := okx_T c4 h
    refine xj_iconst (v := 1) D_Wk_plainCount_11 rfl ?_
    exact w_Wk_plainCount_b12 (by omega)  h
  · have h := okx_F c4 h
    refine xj_iconst (v := 0) D_Wk_plainCount_7 rfl ?_
    refine xi_goto D_Wk_plainCount_8 ?_
    exact w_Wk_plainCount_b12 (by omega)  h
noncomputable def f_Wk_rowCount_b15 (R15 : Int32 → Int32 → Sg → Option (Int32 × Sg)) (x1 : Int32) (x2 : Int32) (s : Sg) : Option (Int32 × Sg) :=
  f_ck (zl_B s) <|
  if (mI s 7 0) ≤ x2 then
    some (x1, s)
  else
    f_ck (vp_in x2 4) <|
    R15 (x1 * ((mI s 8 (Int32.toNatClampNeg x2)) + 1)) (x2 + 1) s
theorem w_Wk_rowCount_b15 {x1 : Int32} {x2 : Int32} {s : Sg} {d : Nat} {Q : Option (Option Value) → Sg → Prop} (hd : 2 ≤ d) {R15 : Int32 → Int32 → Sg → Option (Int32 × Sg)} (hR15 : ∀ (x1 : Int32) (x2 : Int32) (s : Sg), okx (zq_I Q) (R15 x1 x2 s) → Xw d M_Wk_rowCount 0 0 15 [.ref 4, .int x1, .int x2] [] s Q) (h : okx (zq_I Q) (f_Wk_rowCount_b15 R15 x1 x2 s)) : Xw d M_Wk_rowCount 0 0 15 [.ref 4, .int x1, .int x2] [] s Q := by
  unfold f_Wk_rowCount_b15 at h
  refine xi_iload_n D_Wk_rowCount_15 rfl ?_
  refine xi_aload_n D_Wk_rowCount_16 rfl ?_
  obtain ⟨g5, h⟩ := okx_ck h
  refine xi_getR D_Wk_rowCount_17 F_Wk_27 (zl_fo (g5).1 rfl) ⟨rfl, by decide⟩ (zl_gr (g5).2 rfl rfl) ?_
  refine xi_getI D_Wk_rowCount_20 F_Wk_78 (zl_fo (g5).1 rfl) ⟨rfl, by decide⟩ ?_
  refine xi_icmp_ge D_Wk_rowCount_23 (fun c6 => ?_) (fun c6 => ?_)
  · have h := okx_T c6 h
    refine xi_iload_n D_Wk_rowCount_46 rfl ?_
    exact xi_ireturn D_Wk_rowCount_47 rfl (rfl) (okx_I h)
  · have h := okx_F c6 h
    refine xi_iload_n D_Wk_rowCount_26 rfl ?_
    refine xi_aload_n D_Wk_rowCount_27 rfl ?_
    refine xi_getR D_Wk_rowCount_28 F_Wk_27 (zl_fo (g5).1 rfl) ⟨rfl, by decide⟩ (zl_gr (g5).2 rfl rfl) ?_
    refine xi_getR D_Wk_rowCount_31 F_Wk_219 (zl_fo (g5).1 rfl) ⟨rfl, by decide⟩ (zl_gr (g5).2 rfl rfl) ?_
    refine xi_iload_n D_Wk_rowCount_34 rfl ?_
    obtain ⟨g7, h⟩ := okx_ck h
    refine xj_iald D_Wk_rowCount_35 (zl_fx (g5).1 rfl) (zl_ib (n := 4) rfl (g7)) ?_
    refine xj_iconst (v := 1) D_Wk_rowCount_36 rfl ?_
    refine xi_iadd D_Wk_rowCount_37 ?_
    refine xi_imul D_Wk_rowCount_38 ?_
    refine xi_istore_n (ls' := [_, _, _]) D_Wk_rowCount_39 rfl (by decide) ?_
    refine xi_iinc (v := _ + 1) (ls' := [_, _, _]) D_Wk_rowCount_40 rfl rfl rfl (by decide) ?_
    refine xi_goto D_Wk_rowCount_43 ?_
    exact hR15 _ _ _ h
noncomputable def f_Wk_rowCount_h15 : Nat → Int32 → Int32 → Sg → Option (Int32 × Sg)
  | 0, _, _, _ => none
  | n + 1, x1, x2, s => f_Wk_rowCount_b15 (f_Wk_rowCount_h15 n) x1 x2 s
theorem w_Wk_rowCount_h15 {d : Nat} {Q : Option (Option Value) → Sg → Prop} (hd : 2 ≤ d) : ∀ (n : Nat) (x1 : Int32) (x2 : Int32) (s : Sg), okx (zq_I Q) (f_Wk_rowCount_h15 n x1 x2 s) → Xw d M_Wk_rowCount 0 0 15 [.ref 4, .int x1, .int x2] [] s Q := by
  intro n
  induction n with
  | zero => intro x1 x2 s h; exact okx_no h
  | succ n ih => intro x1 x2 s h; exact w_Wk_rowCount_b15 hd  ih  h
noncomputable def f_Wk_rowCount_b12 (y0 : Int32) (s : Sg) : Option (Int32 × Sg) :=
  f_Wk_rowCount_h15  zl_fl y0 0 s
theorem w_Wk_rowCount_b12 {y0 : Int32} {s : Sg} {d : Nat} {Q : Option (Option Value) → Sg → Prop} (hd : 2 ≤ d) (h : okx (zq_I Q) (f_Wk_rowCount_b12 y0 s)) : Xw d M_Wk_rowCount 0 0 12 [.ref 4, .retAddr 0, .retAddr 0] [.int y0] s Q := by
  unfold f_Wk_rowCount_b12 at h
  refine xi_istore_n (ls' := [_, _, _]) D_Wk_rowCount_12 rfl (by decide) ?_
  refine xj_iconst (v := 0) D_Wk_rowCount_13 rfl ?_
  refine xi_istore_n (ls' := [_, _, _]) D_Wk_rowCount_14 rfl (by decide) ?_
  exact w_Wk_rowCount_h15 (by omega)  _ _ _ _ h
noncomputable def f_Wk_rowCount  (s : Sg) : Option (Int32 × Sg) :=
  f_ck (zl_B s) <|
  f_bd (f_Wk_isNobody  s) fun r2 s3 =>
  if r2 = 0 then
    f_Wk_rowCount_b12  1 s3
  else
    f_Wk_rowCount_b12  0 s3
theorem w_Wk_rowCount {s : Sg} {d : Nat} {Q : Option (Option Value) → Sg → Prop} (hd : 2 ≤ d) (h : okx (zq_I Q) (f_Wk_rowCount  s)) : Cw d M_Wk_rowCount [.ref 4] s Q := by
  refine Cw.of (by decide +kernel) (Nat.le_of_ble_eq_true rfl) ?_
  show Xw d M_Wk_rowCount 0 0 0 [.ref 4, .retAddr 0, .retAddr 0] [] s _
  unfold f_Wk_rowCount at h
  refine xi_aload_n D_Wk_rowCount_0 rfl ?_
  obtain ⟨g1, h⟩ := okx_ck h
  refine xj_V0 D_Wk_rowCount_1 L_Wk_168 C_Wk_isNobody Z_Wk_isNobody (zl_fo (g1).1 rfl) (Nat.le_of_ble_eq_true rfl) (Nat.le_of_eq (Nat.sub_add_cancel (by omega))) (w_Wk_isNobody (by omega) (okx_mono (okx_bd h) ?_))
  intro r2 s3 h
  show Xw _ _ _ _ 4 _ [_] _ _
  refine xi_if_eq D_Wk_rowCount_4 (fun c4 => ?_) (fun c4 => ?_)
  · have h := okx_T c4 h
    refine xj_iconst (v := 1) D_Wk_rowCount_11 rfl ?_
    exact w_Wk_rowCount_b12 (by omega)  h
  · have h := okx_F c4 h
    refine xj_iconst (v := 0) D_Wk_rowCount_7 rfl ?_
    refine xi_goto D_Wk_rowCount_8 ?_
    exact w_Wk_rowCount_b12 (by omega)  h
noncomputable def f_Wk_count (x1 : Int32) (s : Sg) : Option (Int32 × Sg) :=
  if x1 = 0 then
    f_ck (zl_B s) <|
    some ((mI s 7 0), s)
  else
  if x1 = 1 then
    f_ck (zl_B s) <|
    some ((mI s 7 1), s)
  else
  if x1 = 2 then
    f_ck (zl_B s) <|
    some ((mI s 7 2), s)
  else
  if x1 = 3 then
    f_ck (zl_B s) <|
    f_bd (f_Wk_plainCount  s) fun r9 s10 =>
    some (r9, s10)
  else
  if x1 = 4 then
    f_ck (zl_B s) <|
    f_bd (f_Wk_rowCount  s) fun r13 s14 =>
    some (r13, s14)
  else
  if x1 = 5 then
    f_ck (zl_B s) <|
    some ((mI s 42 2), s)
  else
    some ((-1), s)
theorem w_Wk_count {x1 : Int32} {s : Sg} {d : Nat} {Q : Option (Option Value) → Sg → Prop} (hd : 3 ≤ d) (h : okx (zq_I Q) (f_Wk_count x1 s)) : Cw d M_Wk_count [.ref 4, .int x1] s Q := by
  refine Cw.of (by decide +kernel) (Nat.le_of_ble_eq_true rfl) ?_
  show Xw d M_Wk_count 0 0 0 [.ref 4, .int x1] [] s _
  unfold f_Wk_count at h
  refine xi_iload_n D_Wk_count_0 rfl ?_
  by_cases c1 : x1 = 0
  · have h := okx_T c1 h
    refine xi_tableIn (tgt := 40) D_Wk_count_1 (by rw [c1]; decide) (by rw [c1]; decide) (by rw [c1]; rfl) (by decide) ?_
    refine xi_aload_n D_Wk_count_40 rfl ?_
    obtain ⟨g2, h⟩ := okx_ck h
    refine xi_getR D_Wk_count_41 F_Wk_27 (zl_fo (g2).1 rfl) ⟨rfl, by decide⟩ (zl_gr (g2).2 rfl rfl) ?_
    refine xi_getI D_Wk_count_44 F_Wk_78 (zl_fo (g2).1 rfl) ⟨rfl, by decide⟩ ?_
    exact xi_ireturn D_Wk_count_47 rfl (rfl) (okx_I h)
  have h := okx_F c1 h
  by_cases c3 : x1 = 1
  · have h := okx_T c3 h
    refine xi_tableIn (tgt := 48) D_Wk_count_1 (by rw [c3]; decide) (by rw [c3]; decide) (by rw [c3]; rfl) (by decide) ?_
    refine xi_aload_n D_Wk_count_48 rfl ?_
    obtain ⟨g4, h⟩ := okx_ck h
    refine xi_getR D_Wk_count_49 F_Wk_27 (zl_fo (g4).1 rfl) ⟨rfl, by decide⟩ (zl_gr (g4).2 rfl rfl) ?_
    refine xi_getI D_Wk_count_52 F_Wk_84 (zl_fo (g4).1 rfl) ⟨rfl, by decide⟩ ?_
    exact xi_ireturn D_Wk_count_55 rfl (rfl) (okx_I h)
  have h := okx_F c3 h
  by_cases c5 : x1 = 2
  · have h := okx_T c5 h
    refine xi_tableIn (tgt := 56) D_Wk_count_1 (by rw [c5]; decide) (by rw [c5]; decide) (by rw [c5]; rfl) (by decide) ?_
    refine xi_aload_n D_Wk_count_56 rfl ?_
    obtain ⟨g6, h⟩ := okx_ck h
    refine xi_getR D_Wk_count_57 F_Wk_27 (zl_fo (g6).1 rfl) ⟨rfl, by decide⟩ (zl_gr (g6).2 rfl rfl) ?_
    refine xi_getI D_Wk_count_60 F_Wk_236 (zl_fo (g6).1 rfl) ⟨rfl, by decide⟩ ?_
    exact xi_ireturn D_Wk_count_63 rfl (rfl) (okx_I h)
  have h := okx_F c5 h
  by_cases c7 : x1 = 3
  · have h := okx_T c7 h
    refine xi_tableIn (tgt := 64) D_Wk_count_1 (by rw [c7]; decide) (by rw [c7]; decide) (by rw [c7]; rfl) (by decide) ?_
    refine xi_aload_n D_Wk_count_64 rfl ?_
    obtain ⟨g8, h⟩ := okx_ck h
    refine xj_V0 D_Wk_count_65 L_Wk_188 C_Wk_plainCount Z_Wk_plainCount (zl_fo (g8).1 rfl) (Nat.le_of_ble_eq_true rfl) (Nat.le_of_eq (Nat.sub_add_cancel (by omega))) (w_Wk_plainCount (by omega) (okx_mono (okx_bd h) ?_))
    intro r9 s10 h
    show Xw _ _ _ _ 68 _ [_] _ _
    exact xi_ireturn D_Wk_count_68 rfl (rfl) (okx_I h)
  have h := okx_F c7 h
  by_cases c11 : x1 = 4
  · have h := okx_T c11 h
    refine xi_tableIn (tgt := 69) D_Wk_count_1 (by rw [c11]; decide) (by rw [c11]; decide) (by rw [c11]; rfl) (by decide) ?_
    refine xi_aload_n D_Wk_count_69 rfl ?_
    obtain ⟨g12, h⟩ := okx_ck h
    refine xj_V0 D_Wk_count_70 L_Wk_245 C_Wk_rowCount Z_Wk_rowCount (zl_fo (g12).1 rfl) (Nat.le_of_ble_eq_true rfl) (Nat.le_of_eq (Nat.sub_add_cancel (by omega))) (w_Wk_rowCount (by omega) (okx_mono (okx_bd h) ?_))
    intro r13 s14 h
    show Xw _ _ _ _ 73 _ [_] _ _
    exact xi_ireturn D_Wk_count_73 rfl (rfl) (okx_I h)
  have h := okx_F c11 h
  by_cases c15 : x1 = 5
  · have h := okx_T c15 h
    refine xi_tableIn (tgt := 74) D_Wk_count_1 (by rw [c15]; decide) (by rw [c15]; decide) (by rw [c15]; rfl) (by decide) ?_
    refine xi_aload_n D_Wk_count_74 rfl ?_
    obtain ⟨g16, h⟩ := okx_ck h
    refine xi_getR D_Wk_count_75 F_Wk_41 (zl_fo (g16).1 rfl) ⟨rfl, by decide⟩ (zl_gr (g16).2 rfl rfl) ?_
    refine xi_getI D_Wk_count_78 F_Wk_56 (zl_fo (g16).1 rfl) ⟨rfl, by decide⟩ ?_
    exact xi_ireturn D_Wk_count_81 rfl (rfl) (okx_I h)
  have h := okx_F c15 h
  refine xi_tableOut (tgt := 82) D_Wk_count_1 (by have e0 : ¬ Int32.toInt x1 = 0 := fun e => c1 (Int32.toInt_inj.mp (e.trans (by decide))); have e1 : ¬ Int32.toInt x1 = 1 := fun e => c3 (Int32.toInt_inj.mp (e.trans (by decide))); have e2 : ¬ Int32.toInt x1 = 2 := fun e => c5 (Int32.toInt_inj.mp (e.trans (by decide))); have e3 : ¬ Int32.toInt x1 = 3 := fun e => c7 (Int32.toInt_inj.mp (e.trans (by decide))); have e4 : ¬ Int32.toInt x1 = 4 := fun e => c11 (Int32.toInt_inj.mp (e.trans (by decide))); have e5 : ¬ Int32.toInt x1 = 5 := fun e => c15 (Int32.toInt_inj.mp (e.trans (by decide))); omega) (by decide) ?_
  refine xj_iconst (v := (-1)) D_Wk_count_82 rfl ?_
  exact xi_ireturn D_Wk_count_83 rfl (rfl) (okx_I h)
noncomputable def f_Wk_countPlain_b25 (R5 : Int32 → Int32 → Int32 → Int32 → Sg → Option (Int32 × Sg)) (x1 : Int32) (x2 : Int32) (x3 : Int32) (x4 : Int32) (s : Sg) : Option (Int32 × Sg) :=
  R5 x1 x2 x3 (x4 + 1) s
theorem w_Wk_countPlain_b25 {x1 : Int32} {x2 : Int32} {x3 : Int32} {x4 : Int32} {s : Sg} {d : Nat} {Q : Option (Option Value) → Sg → Prop} (hd : 1 ≤ d) {R5 : Int32 → Int32 → Int32 → Int32 → Sg → Option (Int32 × Sg)} (hR5 : ∀ (x1 : Int32) (x2 : Int32) (x3 : Int32) (x4 : Int32) (s : Sg), okx (zq_I Q) (R5 x1 x2 x3 x4 s) → Xw d M_Wk_countPlain 0 0 5 [.ref 4, .int x1, .int x2, .int x3, .int x4] [] s Q) (h : okx (zq_I Q) (f_Wk_countPlain_b25 R5 x1 x2 x3 x4 s)) : Xw d M_Wk_countPlain 0 0 25 [.ref 4, .int x1, .int x2, .int x3, .int x4] [] s Q := by
  unfold f_Wk_countPlain_b25 at h
  refine xi_iinc (v := _ + 1) (ls' := [_, _, _, _, _]) D_Wk_countPlain_25 rfl rfl rfl (by decide) ?_
  refine xi_goto D_Wk_countPlain_28 ?_
  exact hR5 _ _ _ _ _ h
noncomputable def f_Wk_countPlain_b5 (R5 : Int32 → Int32 → Int32 → Int32 → Sg → Option (Int32 × Sg)) (x1 : Int32) (x2 : Int32) (x3 : Int32) (x4 : Int32) (s : Sg) : Option (Int32 × Sg) :=
  if x1 ≤ x4 then
    some (x3, s)
  else
    f_ck (zl_B s) <|
    f_ck (vp_in x4 216) <|
    if (mI s 45 (Int32.toNatClampNeg x4)) = x2 then
      f_Wk_countPlain_b25 R5 x1 x2 (x3 + 1) x4 s
    else
      f_Wk_countPlain_b25 R5 x1 x2 x3 x4 s
theorem w_Wk_countPlain_b5 {x1 : Int32} {x2 : Int32} {x3 : Int32} {x4 : Int32} {s : Sg} {d : Nat} {Q : Option (Option Value) → Sg → Prop} (hd : 1 ≤ d) {R5 : Int32 → Int32 → Int32 → Int32 → Sg → Option (Int32 × Sg)} (hR5 : ∀ (x1 : Int32) (x2 : Int32) (x3 : Int32) (x4 : Int32) (s : Sg), okx (zq_I Q) (R5 x1 x2 x3 x4 s) → Xw d M_Wk_countPlain 0 0 5 [.ref 4, .int x1, .int x2, .int x3, .int x4] [] s Q) (h : okx (zq_I Q) (f_Wk_countPlain_b5 R5 x1 x2 x3 x4 s)) : Xw d M_Wk_countPlain 0 0 5 [.ref 4, .int x1, .int x2, .int x3, .int x4] [] s Q := by
  unfold f_Wk_countPlain_b5 at h
  refine xi_iload D_Wk_countPlain_5 rfl ?_
  refine xi_iload_n D_Wk_countPlain_7 rfl ?_
  refine xi_icmp_ge D_Wk_countPlain_8 (fun c1 => ?_) (fun c1 => ?_)
  · have h := okx_T c1 h
    refine xi_iload_n D_Wk_countPlain_31 rfl ?_
    exact xi_ireturn D_Wk_countPlain_32 rfl (rfl) (okx_I h)
  · have h := okx_F c1 h
    refine xi_aload_n D_Wk_countPlain_11 rfl ?_
    obtain ⟨g2, h⟩ := okx_ck h
    refine xi_getR D_Wk_countPlain_12 F_Wk_45 (zl_fo (g2).1 rfl) ⟨rfl, by decide⟩ (zl_gr (g2).2 rfl rfl) ?_
    refine xi_iload D_Wk_countPlain_15 rfl ?_
    obtain ⟨g3, h⟩ := okx_ck h
    refine xj_iald D_Wk_countPlain_17 (zl_fx (g2).1 rfl) (zl_ib (n := 216) rfl (g3)) ?_
    refine xi_iload_n D_Wk_countPlain_18 rfl ?_
    refine xi_icmp_ne D_Wk_countPlain_19 (fun c4 => ?_) (fun c4 => ?_)
    · have h := okx_F c4 h
      exact w_Wk_countPlain_b25 (by omega) hR5 h
    · have h := okx_T c4 h
      refine xi_iinc (v := _ + 1) (ls' := [_, _, _, _, _]) D_Wk_countPlain_22 rfl rfl rfl (by decide) ?_
      exact w_Wk_countPlain_b25 (by omega) hR5 h
noncomputable def f_Wk_countPlain_h5 : Nat → Int32 → Int32 → Int32 → Int32 → Sg → Option (Int32 × Sg)
  | 0, _, _, _, _, _ => none
  | n + 1, x1, x2, x3, x4, s => f_Wk_countPlain_b5 (f_Wk_countPlain_h5 n) x1 x2 x3 x4 s
theorem w_Wk_countPlain_h5 {d : Nat} {Q : Option (Option Value) → Sg → Prop} (hd : 1 ≤ d) : ∀ (n : Nat) (x1 : Int32) (x2 : Int32) (x3 : Int32) (x4 : Int32) (s : Sg), okx (zq_I Q) (f_Wk_countPlain_h5 n x1 x2 x3 x4 s) → Xw d M_Wk_countPlain 0 0 5 [.ref 4, .int x1, .int x2, .int x3, .int x4] [] s Q := by
  intro n
  induction n with
  | zero => intro x1 x2 x3 x4 s h; exact okx_no h
  | succ n ih => intro x1 x2 x3 x4 s h; exact w_Wk_countPlain_b5 hd  ih  h
noncomputable def f_Wk_countPlain (x1 : Int32) (x2 : Int32) (s : Sg) : Option (Int32 × Sg) :=
  f_Wk_countPlain_h5  zl_fl x1 x2 0 0 s
theorem w_Wk_countPlain {x1 : Int32} {x2 : Int32} {s : Sg} {d : Nat} {Q : Option (Option Value) → Sg → Prop} (hd : 1 ≤ d) (h : okx (zq_I Q) (f_Wk_countPlain x1 x2 s)) : Cw d M_Wk_countPlain [.ref 4, .int x1, .int x2] s Q := by
  refine Cw.of (by decide +kernel) (Nat.le_of_ble_eq_true rfl) ?_
  show Xw d M_Wk_countPlain 0 0 0 [.ref 4, .int x1, .int x2, .retAddr 0, .retAddr 0] [] s _
  unfold f_Wk_countPlain at h
  refine xj_iconst (v := 0) D_Wk_countPlain_0 rfl ?_
  refine xi_istore_n (ls' := [_, _, _, _, _]) D_Wk_countPlain_1 rfl (by decide) ?_
  refine xj_iconst (v := 0) D_Wk_countPlain_2 rfl ?_
  refine xi_istore (ls' := [_, _, _, _, _]) D_Wk_countPlain_3 rfl (by decide) ?_
  exact w_Wk_countPlain_h5 (by omega)  _ _ _ _ _ _ h
noncomputable def f_Wk_digitIn_b29 (x3 : Int32) (s : Sg) : Option (Int32 × Sg) :=
  f_ck (zl_B s) <|
  f_ck (¬ ((mI s 7 0) + 2) = 0) <|
  some ((x3 - x3 / ((mI s 7 0) + 2) * ((mI s 7 0) + 2)), s)
theorem w_Wk_digitIn_b29 {x3 : Int32} {s : Sg} {d : Nat} {Q : Option (Option Value) → Sg → Prop} (hd : 1 ≤ d) (h : okx (zq_I Q) (f_Wk_digitIn_b29 x3 s)) : Xw d M_Wk_digitIn 0 0 29 [.ref 4, .retAddr 0, .retAddr 0, .int x3, .retAddr 0] [] s Q := by
  unfold f_Wk_digitIn_b29 at h
  refine xi_iload_n D_Wk_digitIn_29 rfl ?_
  refine xi_aload_n D_Wk_digitIn_30 rfl ?_
  obtain ⟨g4, h⟩ := okx_ck h
  refine xi_getR D_Wk_digitIn_31 F_Wk_27 (zl_fo (g4).1 rfl) ⟨rfl, by decide⟩ (zl_gr (g4).2 rfl rfl) ?_
  refine xi_getI D_Wk_digitIn_34 F_Wk_78 (zl_fo (g4).1 rfl) ⟨rfl, by decide⟩ ?_
  refine xj_iconst (v := 2) D_Wk_digitIn_37 rfl ?_
  refine xi_iadd D_Wk_digitIn_38 ?_
  obtain ⟨g5, h⟩ := okx_ck h
  refine xi_irem D_Wk_digitIn_39 g5 ?_
  exact xi_ireturn D_Wk_digitIn_40 rfl (rfl) (okx_I h)
noncomputable def f_Wk_digitIn_b5 (R5 : Int32 → Int32 → Int32 → Sg → Option (Int32 × Sg)) (x2 : Int32) (x3 : Int32) (x4 : Int32) (s : Sg) : Option (Int32 × Sg) :=
  if x2 ≤ x4 then
    f_Wk_digitIn_b29  x3 s
  else
    f_ck (zl_B s) <|
    f_ck (¬ ((mI s 7 0) + 2) = 0) <|
    R5 x2 (x3 / ((mI s 7 0) + 2)) (x4 + 1) s
theorem w_Wk_digitIn_b5 {x2 : Int32} {x3 : Int32} {x4 : Int32} {s : Sg} {d : Nat} {Q : Option (Option Value) → Sg → Prop} (hd : 1 ≤ d) {R5 : Int32 → Int32 → Int32 → Sg → Option (Int32 × Sg)} (hR5 : ∀ (x2 : Int32) (x3 : Int32) (x4 : Int32) (s : Sg), okx (zq_I Q) (R5 x2 x3 x4 s) → Xw d M_Wk_digitIn 0 0 5 [.ref 4, .retAddr 0, .int x2, .int x3, .int x4] [] s Q) (h : okx (zq_I Q) (f_Wk_digitIn_b5 R5 x2 x3 x4 s)) : Xw d M_Wk_digitIn 0 0 5 [.ref 4, .retAddr 0, .int x2, .int x3, .int x4] [] s Q := by
  unfold f_Wk_digitIn_b5 at h
  refine xi_iload D_Wk_digitIn_5 rfl ?_
  refine xi_iload_n D_Wk_digitIn_7 rfl ?_
  refine xi_icmp_ge D_Wk_digitIn_8 (fun c1 => ?_) (fun c1 => ?_)
  · have h := okx_T c1 h
    exact xk_wk (w_Wk_digitIn_b29 (by omega)  h) ⟨Or.inl rfl, Or.inl rfl, Or.inr rfl, Or.inl rfl, Or.inr rfl, trivial⟩
  · have h := okx_F c1 h
    refine xi_iload_n D_Wk_digitIn_11 rfl ?_
    refine xi_aload_n D_Wk_digitIn_12 rfl ?_
    obtain ⟨g2, h⟩ := okx_ck h
    refine xi_getR D_Wk_digitIn_13 F_Wk_27 (zl_fo (g2).1 rfl) ⟨rfl, by decide⟩ (zl_gr (g2).2 rfl rfl) ?_
    refine xi_getI D_Wk_digitIn_16 F_Wk_78 (zl_fo (g2).1 rfl) ⟨rfl, by decide⟩ ?_
    refine xj_iconst (v := 2) D_Wk_digitIn_19 rfl ?_
    refine xi_iadd D_Wk_digitIn_20 ?_
    obtain ⟨g3, h⟩ := okx_ck h
    refine xi_idiv D_Wk_digitIn_21 g3 ?_
    refine xi_istore_n (ls' := [_, _, _, _, _]) D_Wk_digitIn_22 rfl (by decide) ?_
    refine xi_iinc (v := _ + 1) (ls' := [_, _, _, _, _]) D_Wk_digitIn_23 rfl rfl rfl (by decide) ?_
    refine xi_goto D_Wk_digitIn_26 ?_
    exact hR5 _ _ _ _ h
noncomputable def f_Wk_digitIn_h5 : Nat → Int32 → Int32 → Int32 → Sg → Option (Int32 × Sg)
  | 0, _, _, _, _ => none
  | n + 1, x2, x3, x4, s => f_Wk_digitIn_b5 (f_Wk_digitIn_h5 n) x2 x3 x4 s
theorem w_Wk_digitIn_h5 {d : Nat} {Q : Option (Option Value) → Sg → Prop} (hd : 1 ≤ d) : ∀ (n : Nat) (x2 : Int32) (x3 : Int32) (x4 : Int32) (s : Sg), okx (zq_I Q) (f_Wk_digitIn_h5 n x2 x3 x4 s) → Xw d M_Wk_digitIn 0 0 5 [.ref 4, .retAddr 0, .int x2, .int x3, .int x4] [] s Q := by
  intro n
  induction n with
  | zero => intro x2 x3 x4 s h; exact okx_no h
  | succ n ih => intro x2 x3 x4 s h; exact w_Wk_digitIn_b5 hd  ih  h
noncomputable def f_Wk_digitIn (x1 : Int32) (x2 : Int32) (s : Sg) : Option (Int32 × Sg) :=
  f_Wk_digitIn_h5  zl_fl x2 x1 0 s
theorem w_Wk_digitIn {x1 : Int32} {x2 : Int32} {s : Sg} {d : Nat} {Q : Option (Option Value) → Sg → Prop} (hd : 1 ≤ d) (h : okx (zq_I Q) (f_Wk_digitIn x1 x2 s)) : Cw d M_Wk_digitIn [.ref 4, .int x1, .int x2] s Q := by
  refine Cw.of (by decide +kernel) (Nat.le_of_ble_eq_true rfl) ?_
  show Xw d M_Wk_digitIn 0 0 0 [.ref 4, .int x1, .int x2, .retAddr 0, .retAddr 0] [] s _
  unfold f_Wk_digitIn at h
  refine xi_iload_n D_Wk_digitIn_0 rfl ?_
  refine xi_istore_n (ls' := [_, _, _, _, _]) D_Wk_digitIn_1 rfl (by decide) ?_
  refine xj_iconst (v := 0) D_Wk_digitIn_2 rfl ?_
  refine xi_istore (ls' := [_, _, _, _, _]) D_Wk_digitIn_3 rfl (by decide) ?_
  exact xk_wk (w_Wk_digitIn_h5 (by omega)  _ _ _ _ _ h) ⟨Or.inl rfl, Or.inr rfl, Or.inl rfl, Or.inl rfl, Or.inl rfl, trivial⟩
