/-! by a program of ours (wip/whole/gen/func.py, mkall.py) out of the listing: Wk_firstOwner Wk_edge Wk_feed Wk_lookAtPlain Wk_fillPlain Wk_firstPlain Wk_first Wk_forgetAll Wk_reachedAsIs Wk_gap Wk_good Wk_hands Wk_thingsOf Wk_has Wk_isRest Wk_jointNumber Wk_joint -/
noncomputable def f_Wk_firstOwner_b114 (R19 : Int32 → Int32 → Int32 → Int32 → Sg → Option (Int32 × Sg)) (x2 : Int32) (x4 : Int32) (x5 : Int32) (x6 : Int32) (s : Sg) : Option (Int32 × Sg) :=
  R19 x2 x4 x5 (x6 + 1) s
theorem w_Wk_firstOwner_b114 {x2 : Int32} {x4 : Int32} {x5 : Int32} {x6 : Int32} {s : Sg} {d : Nat} {Q : Option (Option Value) → Sg → Prop} (hd : 7 ≤ d) {R19 : Int32 → Int32 → Int32 → Int32 → Sg → Option (Int32 × Sg)} (hR19 : ∀ (x2 : Int32) (x4 : Int32) (x5 : Int32) (x6 : Int32) (s : Sg), okx (zq_I Q) (R19 x2 x4 x5 x6 s) → Xw d M_Wk_firstOwner 0 0 19 [.ref 4, .retAddr 0, .int x2, .retAddr 0, .int x4, .int x5, .int x6, .retAddr 0] [] s Q) (h : okx (zq_I Q) (f_Wk_firstOwner_b114 R19 x2 x4 x5 x6 s)) : Xw d M_Wk_firstOwner 0 0 114 [.ref 4, .retAddr 0, .int x2, .retAddr 0, .int x4, .int x5, .int x6, .retAddr 0] [] s Q := by
  unfold f_Wk_firstOwner_b114 at h
  refine xi_iinc (v := _ + 1) (ls' := [_, _, _, _, _, _, _, _]) D_Wk_firstOwner_114 rfl rfl rfl (by decide) ?_
  refine xi_goto D_Wk_firstOwner_117 ?_
  exact hR19 _ _ _ _ _ h
noncomputable def f_Wk_firstOwner_b19 (R19 : Int32 → Int32 → Int32 → Int32 → Sg → Option (Int32 × Sg)) (x2 : Int32) (x4 : Int32) (x5 : Int32) (x6 : Int32) (s : Sg) : Option (Int32 × Sg) :=
  f_ck (zl_B s) <|
  if (mI s 7 0) ≤ x6 then
    some (x4, s)
  else
    f_bd (f_Ow_copyFrom 21 s) fun r6 s7 =>
    f_ck (zl_B s7) <|
    f_bd (f_Ow_give 21 x2 ((1 : Int32) <<< (x6 &&& 31)) 1 s7) fun r9 s10 =>
    f_ck (zl_B s10) <|
    f_bd (f_Tu_lookAtAsked  s10) fun r12 s13 =>
    f_ck (zl_B s13) <|
    f_bd (f_Tu_byTurns 0 (-1) s13) fun r15 s16 =>
    if r15 = (-1) then
      f_Wk_firstOwner_b114 R19 x2 x4 x5 x6 s16
    else
      f_ck (zl_B s16) <|
      f_bd (f_Wo_goodOf r15 s16) fun r19 s20 =>
      if r19 ≤ x5 then
        f_Wk_firstOwner_b114 R19 x2 x4 x5 x6 s20
      else
        f_ck (zl_B s20) <|
        f_bd (f_Wo_goodOf r15 s20) fun r23 s24 =>
        f_Wk_firstOwner_b114 R19 x2 x6 r23 x6 s24
theorem w_Wk_firstOwner_b19 {x2 : Int32} {x4 : Int32} {x5 : Int32} {x6 : Int32} {s : Sg} {d : Nat} {Q : Option (Option Value) → Sg → Prop} (hd : 7 ≤ d) {R19 : Int32 → Int32 → Int32 → Int32 → Sg → Option (Int32 × Sg)} (hR19 : ∀ (x2 : Int32) (x4 : Int32) (x5 : Int32) (x6 : Int32) (s : Sg), okx (zq_I Q) (R19 x2 x4 x5 x6 s) → Xw d M_Wk_firstOwner 0 0 19 [.ref 4, .retAddr 0, .int x2, .retAddr 0, .int x4, .int x5, .int x6, .retAddr 0] [] s Q) (h : okx (zq_I Q) (f_Wk_firstOwner_b19 R19 x2 x4 x5 x6 s)) : Xw d M_Wk_firstOwner 0 0 19 [.ref 4, .retAddr 0, .int x2, .retAddr 0, .int x4, .int x5, .int x6, .retAddr 0] [] s Q := by
  unfold f_Wk_firstOwner_b19 at h
  refine xi_iload D_Wk_firstOwner_19 rfl ?_
  refine xi_aload_n D_Wk_firstOwner_21 rfl ?_
  obtain ⟨g4, h⟩ := okx_ck h
  refine xi_getR D_Wk_firstOwner_22 F_Wk_27 (zl_fo (g4).1 rfl) ⟨rfl, by decide⟩ (zl_gr (g4).2 rfl rfl) ?_
  refine xi_getI D_Wk_firstOwner_25 F_Wk_78 (zl_fo (g4).1 rfl) ⟨rfl, by decide⟩ ?_
  refine xi_icmp_ge D_Wk_firstOwner_28 (fun c5 => ?_) (fun c5 => ?_)
  · have h := okx_T c5 h
    refine xi_iload D_Wk_firstOwner_120 rfl ?_
    exact xi_ireturn D_Wk_firstOwner_122 rfl (rfl) (okx_I h)
  · have h := okx_F c5 h
    refine xi_aload_n D_Wk_firstOwner_31 rfl ?_
    refine xi_getR D_Wk_firstOwner_32 F_Wk_12 (zl_fo (g4).1 rfl) ⟨rfl, by decide⟩ (zl_gr (g4).2 rfl rfl) ?_
    refine xi_getR D_Wk_firstOwner_35 F_Wk_147 (zl_fo (g4).1 rfl) ⟨rfl, by decide⟩ (zl_gr (g4).2 rfl rfl) ?_
    refine xi_aload_n D_Wk_firstOwner_38 rfl ?_
    refine xi_getR D_Wk_firstOwner_39 F_Wk_27 (zl_fo (g4).1 rfl) ⟨rfl, by decide⟩ (zl_gr (g4).2 rfl rfl) ?_
    refine xj_V1 D_Wk_firstOwner_42 L_Wk_275 C_Ow_copyFrom Z_Ow_copyFrom (zl_fo (g4).1 rfl) (Nat.le_of_ble_eq_true rfl) (Nat.le_of_eq (Nat.sub_add_cancel (by omega))) (w_Ow_copyFrom (by omega) (okx_mono (okx_bd h) ?_))
    intro r6 s7 h
    show Xw _ _ _ _ 45 _ [] _ _
    refine xi_aload_n D_Wk_firstOwner_45 rfl ?_
    obtain ⟨g8, h⟩ := okx_ck h
    refine xi_getR D_Wk_firstOwner_46 F_Wk_12 (zl_fo (g8).1 rfl) ⟨rfl, by decide⟩ (zl_gr (g8).2 rfl rfl) ?_
    refine xi_getR D_Wk_firstOwner_49 F_Wk_147 (zl_fo (g8).1 rfl) ⟨rfl, by decide⟩ (zl_gr (g8).2 rfl rfl) ?_
    refine xi_iload_n D_Wk_firstOwner_52 rfl ?_
    refine xj_iconst (v := 1) D_Wk_firstOwner_53 rfl ?_
    refine xi_iload D_Wk_firstOwner_54 rfl ?_
    refine xi_ishl D_Wk_firstOwner_56 ?_
    refine xj_iconst (v := 1) D_Wk_firstOwner_57 rfl ?_
    refine xj_V3 D_Wk_firstOwner_58 L_Wk_266 C_Ow_give Z_Ow_give (zl_fo (g8).1 rfl) (Nat.le_of_ble_eq_true rfl) (Nat.le_of_eq (Nat.sub_add_cancel (by omega))) (w_Ow_give (by omega) (okx_mono (okx_bd h) ?_))
    intro r9 s10 h
    show Xw _ _ _ _ 61 _ [] _ _
    refine xi_aload_n D_Wk_firstOwner_61 rfl ?_
    obtain ⟨g11, h⟩ := okx_ck h
    refine xi_getR D_Wk_firstOwner_62 F_Wk_12 (zl_fo (g11).1 rfl) ⟨rfl, by decide⟩ (zl_gr (g11).2 rfl rfl) ?_
    refine xj_V0 D_Wk_firstOwner_65 L_Wk_269 C_Tu_lookAtAsked Z_Tu_lookAtAsked (zl_fo (g11).1 rfl) (Nat.le_of_ble_eq_true rfl) (Nat.le_of_eq (Nat.sub_add_cancel (by omega))) (w_Tu_lookAtAsked (by omega) (okx_mono (okx_bd h) ?_))
    intro r12 s13 h
    show Xw _ _ _ _ 68 _ [] _ _
    refine xi_aload_n D_Wk_firstOwner_68 rfl ?_
    obtain ⟨g14, h⟩ := okx_ck h
    refine xi_getR D_Wk_firstOwner_69 F_Wk_12 (zl_fo (g14).1 rfl) ⟨rfl, by decide⟩ (zl_gr (g14).2 rfl rfl) ?_
    refine xj_iconst (v := 0) D_Wk_firstOwner_72 rfl ?_
    refine xj_iconst (v := (-1)) D_Wk_firstOwner_73 rfl ?_
    refine xj_V2 D_Wk_firstOwner_74 L_Wk_175 C_Tu_byTurns Z_Tu_byTurns (zl_fo (g14).1 rfl) (Nat.le_of_ble_eq_true rfl) (Nat.le_of_eq (Nat.sub_add_cancel (by omega))) (w_Tu_byTurns (by omega) (okx_mono (okx_bd h) ?_))
    intro r15 s16 h
    show Xw _ _ _ _ 77 _ [_] _ _
    refine xi_istore (ls' := [_, _, _, _, _, _, _, _]) D_Wk_firstOwner_77 rfl (by decide) ?_
    refine xi_iload D_Wk_firstOwner_79 rfl ?_
    refine xj_iconst (v := (-1)) D_Wk_firstOwner_81 rfl ?_
    refine xi_icmp_eq D_Wk_firstOwner_82 (fun c17 => ?_) (fun c17 => ?_)
    · have h := okx_T c17 h
      exact xk_wk (w_Wk_firstOwner_b114 (by omega) hR19 h) ⟨Or.inl rfl, Or.inl rfl, Or.inl rfl, Or.inl rfl, Or.inl rfl, Or.inl rfl, Or.inl rfl, Or.inr rfl, trivial⟩
    · have h := okx_F c17 h
      refine xi_aload_n D_Wk_firstOwner_85 rfl ?_
      obtain ⟨g18, h⟩ := okx_ck h
      refine xi_getR D_Wk_firstOwner_86 F_Wk_20 (zl_fo (g18).1 rfl) ⟨rfl, by decide⟩ (zl_gr (g18).2 rfl rfl) ?_
      refine xi_iload D_Wk_firstOwner_89 rfl ?_
      refine xj_V1 D_Wk_firstOwner_91 L_Wk_181 C_Wo_goodOf Z_Wo_goodOf (zl_fo (g18).1 rfl) (Nat.le_of_ble_eq_true rfl) (Nat.le_of_eq (Nat.sub_add_cancel (by omega))) (w_Wo_goodOf (by omega) (okx_mono (okx_bd h) ?_))
      intro r19 s20 h
      show Xw _ _ _ _ 94 _ [_] _ _
      refine xi_iload D_Wk_firstOwner_94 rfl ?_
      refine xi_icmp_le D_Wk_firstOwner_96 (fun c21 => ?_) (fun c21 => ?_)
      · have h := okx_T c21 h
        exact xk_wk (w_Wk_firstOwner_b114 (by omega) hR19 h) ⟨Or.inl rfl, Or.inl rfl, Or.inl rfl, Or.inl rfl, Or.inl rfl, Or.inl rfl, Or.inl rfl, Or.inr rfl, trivial⟩
      · have h := okx_F c21 h
        refine xi_iload D_Wk_firstOwner_99 rfl ?_
        refine xi_istore (ls' := [_, _, _, _, _, _, _, _]) D_Wk_firstOwner_101 rfl (by decide) ?_
        refine xi_aload_n D_Wk_firstOwner_103 rfl ?_
        obtain ⟨g22, h⟩ := okx_ck h
        refine xi_getR D_Wk_firstOwner_104 F_Wk_20 (zl_fo (g22).1 rfl) ⟨rfl, by decide⟩ (zl_gr (g22).2 rfl rfl) ?_
        refine xi_iload D_Wk_firstOwner_107 rfl ?_
        refine xj_V1 D_Wk_firstOwner_109 L_Wk_181 C_Wo_goodOf Z_Wo_goodOf (zl_fo (g22).1 rfl) (Nat.le_of_ble_eq_true rfl) (Nat.le_of_eq (Nat.sub_add_cancel (by omega))) (w_Wo_goodOf (by omega) (okx_mono (okx_bd h) ?_))
        intro r23 s24 h
        show Xw _ _ _ _ 112 _ [_] _ _
        refine xi_istore (ls' := [_, _, _, _, _, _, _, _]) D_Wk_firstOwner_112 rfl (by decide) ?_
        exact xk_wk (w_Wk_firstOwner_b114 (by omega) hR19 h) ⟨Or.inl rfl, Or.inl rfl, Or.inl rfl, Or.inl rfl, Or.inl rfl, Or.inl rfl, Or.inl rfl, Or.inr rfl, trivial⟩
noncomputable def f_Wk_firstOwner_h19 : Nat → Int32 → Int32 → Int32 → Int32 → Sg → Option (Int32 × Sg)
  | 0, _, _, _, _, _ => none
  | n + 1, x2, x4, x5, x6, s => f_Wk_firstOwner_b19 (f_Wk_firstOwner_h19 n) x2 x4 x5 x6 s
theorem w_Wk_firstOwner_h19 {d : Nat} {Q : Option (Option Value) → Sg → Prop} (hd : 7 ≤ d) : ∀ (n : Nat) (x2 : Int32) (x4 : Int32) (x5 : Int32) (x6 : Int32) (s : Sg), okx (zq_I Q) (f_Wk_firstOwner_h19 n x2 x4 x5 x6 s) → Xw d M_Wk_firstOwner 0 0 19 [.ref 4, .retAddr 0, .int x2, .retAddr 0, .int x4, .int x5, .int x6, .retAddr 0] [] s Q := by
  intro n
  induction n with
  | zero => intro x2 x4 x5 x6 s h; exact okx_no h
  | succ n ih => intro x2 x4 x5 x6 s h; exact w_Wk_firstOwner_b19 hd  ih  h
noncomputable def f_Wk_firstOwner (x1 : Int32) (x2 : Int32) (x3 : Int32) (s : Sg) : Option (Int32 × Sg) :=
  f_ck (zl_B s) <|
  f_bd (f_Wo_scale x1 x3 s) fun r2 s3 =>
  f_Wk_firstOwner_h19  zl_fl x2 (-1) (-1073741824) 0 s3
theorem w_Wk_firstOwner {x1 : Int32} {x2 : Int32} {x3 : Int32} {s : Sg} {d : Nat} {Q : Option (Option Value) → Sg → Prop} (hd : 7 ≤ d) (h : okx (zq_I Q) (f_Wk_firstOwner x1 x2 x3 s)) : Cw d M_Wk_firstOwner [.ref 4, .int x1, .int x2, .int x3] s Q := by
  refine Cw.of (by decide +kernel) (Nat.le_of_ble_eq_true rfl) ?_
  show Xw d M_Wk_firstOwner 0 0 0 [.ref 4, .int x1, .int x2, .int x3, .retAddr 0, .retAddr 0, .retAddr 0, .retAddr 0] [] s _
  unfold f_Wk_firstOwner at h
  refine xi_aload_n D_Wk_firstOwner_0 rfl ?_
  obtain ⟨g1, h⟩ := okx_ck h
  refine xi_getR D_Wk_firstOwner_1 F_Wk_20 (zl_fo (g1).1 rfl) ⟨rfl, by decide⟩ (zl_gr (g1).2 rfl rfl) ?_
  refine xi_iload_n D_Wk_firstOwner_4 rfl ?_
  refine xi_iload_n D_Wk_firstOwner_5 rfl ?_
  refine xj_V2 D_Wk_firstOwner_6 L_Wk_242 C_Wo_scale Z_Wo_scale (zl_fo (g1).1 rfl) (Nat.le_of_ble_eq_true rfl) (Nat.le_of_eq (Nat.sub_add_cancel (by omega))) (w_Wo_scale (by omega) (okx_mono (okx_bd h) ?_))
  intro r2 s3 h
  show Xw _ _ _ _ 9 _ [] _ _
  refine xj_iconst (v := (-1)) D_Wk_firstOwner_9 rfl ?_
  refine xi_istore (ls' := [_, _, _, _, _, _, _, _]) D_Wk_firstOwner_10 rfl (by decide) ?_
  refine xi_ldc D_Wk_firstOwner_12 K_Wk_195 ?_
  refine xi_istore (ls' := [_, _, _, _, _, _, _, _]) D_Wk_firstOwner_14 rfl (by decide) ?_
  refine xj_iconst (v := 0) D_Wk_firstOwner_16 rfl ?_
  refine xi_istore (ls' := [_, _, _, _, _, _, _, _]) D_Wk_firstOwner_17 rfl (by decide) ?_
  exact xk_wk (w_Wk_firstOwner_h19 (by omega)  _ _ _ _ _ _ h) ⟨Or.inl rfl, Or.inr rfl, Or.inl rfl, Or.inr rfl, Or.inl rfl, Or.inl rfl, Or.inl rfl, Or.inl rfl, trivial⟩
noncomputable def f_Wk_edge_b134 (R69 : Int32 → Int32 → Int32 → Int32 → Int32 → Int32 → Int32 → Sg → Option (Int32 × Sg)) (x1 : Int32) (x2 : Int32) (x3 : Int32) (x4 : Int32) (x5 : Int32) (x6 : Int32) (x7 : Int32) (s : Sg) : Option (Int32 × Sg) :=
  R69 x1 x2 x3 x4 x5 x6 (x7 + 1) s
theorem w_Wk_edge_b134 {x1 : Int32} {x2 : Int32} {x3 : Int32} {x4 : Int32} {x5 : Int32} {x6 : Int32} {x7 : Int32} {s : Sg} {d : Nat} {Q : Option (Option Value) → Sg → Prop} (hd : 8 ≤ d) {R69 : Int32 → Int32 → Int32 → Int32 → Int32 → Int32 → Int32 → Sg → Option (Int32 × Sg)} (hR69 : ∀ (x1 : Int32) (x2 : Int32) (x3 : Int32) (x4 : Int32) (x5 : Int32) (x6 : Int32) (x7 : Int32) (s : Sg), okx (zq_I Q) (R69 x1 x2 x3 x4 x5 x6 x7 s) → Xw d M_Wk_edge 0 0 69 [.ref 4, .int x1, .int x2, .int x3, .int x4, .int x5, .int x6, .int x7, .retAddr 0, .retAddr 0] [] s Q) (h : okx (zq_I Q) (f_Wk_edge_b134 R69 x1 x2 x3 x4 x5 x6 x7 s)) : Xw d M_Wk_edge 0 0 134 [.ref 4, .int x1, .int x2, .int x3, .int x4, .int x5, .int x6, .int x7, .retAddr 0, .retAddr 0] [] s Q := by
  unfold f_Wk_edge_b134 at h
  refine xi_iinc (v := _ + 1) (ls' := [_, _, _, _, _, _, _, _, _, _]) D_Wk_edge_134 rfl rfl rfl (by decide) ?_
  refine xi_goto D_Wk_edge_137 ?_
  exact hR69 _ _ _ _ _ _ _ _ h
noncomputable def f_Wk_edge_b105 (R69 : Int32 → Int32 → Int32 → Int32 → Int32 → Int32 → Int32 → Sg → Option (Int32 × Sg)) (x1 : Int32) (x2 : Int32) (x3 : Int32) (x4 : Int32) (x5 : Int32) (x6 : Int32) (x7 : Int32) (y0 : Int32) (s : Sg) : Option (Int32 × Sg) :=
  f_ck (zl_B s) <|
  f_bd (f_Wk_firstOwner x1 x2 y0 s) fun r23 s24 =>
  if r23 = (-1) then
    f_Wk_edge_b134 R69 x1 x2 x3 x4 x5 x6 x7 s24
  else
    if r23 = x4 then
      f_Wk_edge_b134 R69 x1 x2 x3 x4 x5 x6 x7 s24
    else
      f_Wk_edge_b134 R69 x1 x2 x3 x4 y0 x6 x7 s24
theorem w_Wk_edge_b105 {x1 : Int32} {x2 : Int32} {x3 : Int32} {x4 : Int32} {x5 : Int32} {x6 : Int32} {x7 : Int32} {y0 : Int32} {s : Sg} {d : Nat} {Q : Option (Option Value) → Sg → Prop} (hd : 8 ≤ d) {R69 : Int32 → Int32 → Int32 → Int32 → Int32 → Int32 → Int32 → Sg → Option (Int32 × Sg)} (hR69 : ∀ (x1 : Int32) (x2 : Int32) (x3 : Int32) (x4 : Int32) (x5 : Int32) (x6 : Int32) (x7 : Int32) (s : Sg), okx (zq_I Q) (R69 x1 x2 x3 x4 x5 x6 x7 s) → Xw d M_Wk_edge 0 0 69 [.ref 4, .int x1, .int x2, .int x3, .int x4, .int x5, .int x6, .int x7, .retAddr 0, .retAddr 0] [] s Q) (h : okx (zq_I Q) (f_Wk_edge_b105 R69 x1 x2 x3 x4 x5 x6 x7 y0 s)) : Xw d M_Wk_edge 0 0 105 [.ref 4, .int x1, .int x2, .int x3, .int x4, .int x5, .int x6, .int x7, .retAddr 0, .retAddr 0] [.int y0] s Q := by
  unfold f_Wk_edge_b105 at h
  refine xi_istore (ls' := [_, _, _, _, _, _, _, _, _, _]) D_Wk_edge_105 rfl (by decide) ?_
  refine xi_aload_n D_Wk_edge_107 rfl ?_
  refine xi_iload_n D_Wk_edge_108 rfl ?_
  refine xi_iload_n D_Wk_edge_109 rfl ?_
  refine xi_iload D_Wk_edge_110 rfl ?_
  obtain ⟨g22, h⟩ := okx_ck h
  refine xj_V3 D_Wk_edge_112 L_Wk_239 C_Wk_firstOwner Z_Wk_firstOwner (zl_fo (g22).1 rfl) (Nat.le_of_ble_eq_true rfl) (Nat.le_of_eq (Nat.sub_add_cancel (by omega))) (w_Wk_firstOwner (by omega) (okx_mono (okx_bd h) ?_))
  intro r23 s24 h
  show Xw _ _ _ _ 115 _ [_] _ _
  refine xi_istore (ls' := [_, _, _, _, _, _, _, _, _, _]) D_Wk_edge_115 rfl (by decide) ?_
  refine xi_iload D_Wk_edge_117 rfl ?_
  refine xj_iconst (v := (-1)) D_Wk_edge_119 rfl ?_
  refine xi_icmp_eq D_Wk_edge_120 (fun c25 => ?_) (fun c25 => ?_)
  · have h := okx_T c25 h
    exact xk_wk (w_Wk_edge_b134 (by omega) hR69 h) ⟨Or.inl rfl, Or.inl rfl, Or.inl rfl, Or.inl rfl, Or.inl rfl, Or.inl rfl, Or.inl rfl, Or.inl rfl, Or.inr rfl, Or.inr rfl, trivial⟩
  · have h := okx_F c25 h
    refine xi_iload D_Wk_edge_123 rfl ?_
    refine xi_iload D_Wk_edge_125 rfl ?_
    refine xi_icmp_eq D_Wk_edge_127 (fun c26 => ?_) (fun c26 => ?_)
    · have h := okx_T c26 h
      exact xk_wk (w_Wk_edge_b134 (by omega) hR69 h) ⟨Or.inl rfl, Or.inl rfl, Or.inl rfl, Or.inl rfl, Or.inl rfl, Or.inl rfl, Or.inl rfl, Or.inl rfl, Or.inr rfl, Or.inr rfl, trivial⟩
    · have h := okx_F c26 h
      refine xi_iload D_Wk_edge_130 rfl ?_
      refine xi_istore (ls' := [_, _, _, _, _, _, _, _, _, _]) D_Wk_edge_132 rfl (by decide) ?_
      exact xk_wk (w_Wk_edge_b134 (by omega) hR69 h) ⟨Or.inl rfl, Or.inl rfl, Or.inl rfl, Or.inl rfl, Or.inl rfl, Or.inl rfl, Or.inl rfl, Or.inl rfl, Or.inr rfl, Or.inr rfl, trivial⟩
noncomputable def f_Wk_edge_b140 (x5 : Int32) (s : Sg) : Option (Int32 × Sg) :=
  f_ck (zl_B s) <|
  f_bd (f_Wo_scale (-1) 10 s) fun r28 s29 =>
  some (x5, s29)
theorem w_Wk_edge_b140 {x5 : Int32} {s : Sg} {d : Nat} {Q : Option (Option Value) → Sg → Prop} (hd : 8 ≤ d) (h : okx (zq_I Q) (f_Wk_edge_b140 x5 s)) : Xw d M_Wk_edge 0 0 140 [.ref 4, .retAddr 0, .retAddr 0, .retAddr 0, .retAddr 0, .int x5, .retAddr 0, .retAddr 0, .retAddr 0, .retAddr 0] [] s Q := by
  unfold f_Wk_edge_b140 at h
  refine xi_aload_n D_Wk_edge_140 rfl ?_
  obtain ⟨g27, h⟩ := okx_ck h
  refine xi_getR D_Wk_edge_141 F_Wk_20 (zl_fo (g27).1 rfl) ⟨rfl, by decide⟩ (zl_gr (g27).2 rfl rfl) ?_
  refine xj_iconst (v := (-1)) D_Wk_edge_144 rfl ?_
  refine xi_bipush (v := 10) D_Wk_edge_145 rfl ?_
  refine xj_V2 D_Wk_edge_147 L_Wk_242 C_Wo_scale Z_Wo_scale (zl_fo (g27).1 rfl) (Nat.le_of_ble_eq_true rfl) (Nat.le_of_eq (Nat.sub_add_cancel (by omega))) (w_Wo_scale (by omega) (okx_mono (okx_bd h) ?_))
  intro r28 s29 h
  show Xw _ _ _ _ 150 _ [] _ _
  refine xi_iload D_Wk_edge_150 rfl ?_
  exact xi_ireturn D_Wk_edge_152 rfl (rfl) (okx_I h)
noncomputable def f_Wk_edge_b69 (R69 : Int32 → Int32 → Int32 → Int32 → Int32 → Int32 → Int32 → Sg → Option (Int32 × Sg)) (x1 : Int32) (x2 : Int32) (x3 : Int32) (x4 : Int32) (x5 : Int32) (x6 : Int32) (x7 : Int32) (s : Sg) : Option (Int32 × Sg) :=
  if x6 < x7 then
    f_Wk_edge_b140  x5 s
  else
    if x4 = (-1) then
      f_Wk_edge_b140  x5 s
    else
      if x5 = (-1) then
        if x3 = 0 then
          f_Wk_edge_b105 R69 x1 x2 x3 x4 x5 x6 x7 (10 + x7) s
        else
          f_Wk_edge_b105 R69 x1 x2 x3 x4 x5 x6 x7 (10 - x7) s
      else
        f_Wk_edge_b140  x5 s
theorem w_Wk_edge_b69 {x1 : Int32} {x2 : Int32} {x3 : Int32} {x4 : Int32} {x5 : Int32} {x6 : Int32} {x7 : Int32} {s : Sg} {d : Nat} {Q : Option (Option Value) → Sg → Prop} (hd : 8 ≤ d) {R69 : Int32 → Int32 → Int32 → Int32 → Int32 → Int32 → Int32 → Sg → Option (Int32 × Sg)} (hR69 : ∀ (x1 : Int32) (x2 : Int32) (x3 : Int32) (x4 : Int32) (x5 : Int32) (x6 : Int32) (x7 : Int32) (s : Sg), okx (zq_I Q) (R69 x1 x2 x3 x4 x5 x6 x7 s) → Xw d M_Wk_edge 0 0 69 [.ref 4, .int x1, .int x2, .int x3, .int x4, .int x5, .int x6, .int x7, .retAddr 0, .retAddr 0] [] s Q) (h : okx (zq_I Q) (f_Wk_edge_b69 R69 x1 x2 x3 x4 x5 x6 x7 s)) : Xw d M_Wk_edge 0 0 69 [.ref 4, .int x1, .int x2, .int x3, .int x4, .int x5, .int x6, .int x7, .retAddr 0, .retAddr 0] [] s Q := by
  unfold f_Wk_edge_b69 at h
  refine xi_iload D_Wk_edge_69 rfl ?_
  refine xi_iload D_Wk_edge_71 rfl ?_
  refine xi_icmp_gt D_Wk_edge_73 (fun c18 => ?_) (fun c18 => ?_)
  · have h := okx_T c18 h
    exact xk_wk (w_Wk_edge_b140 (by omega)  h) ⟨Or.inl rfl, Or.inr rfl, Or.inr rfl, Or.inr rfl, Or.inr rfl, Or.inl rfl, Or.inr rfl, Or.inr rfl, Or.inl rfl, Or.inl rfl, trivial⟩
  · have h := okx_F c18 h
    refine xi_iload D_Wk_edge_76 rfl ?_
    refine xj_iconst (v := (-1)) D_Wk_edge_78 rfl ?_
    refine xi_icmp_eq D_Wk_edge_79 (fun c19 => ?_) (fun c19 => ?_)
    · have h := okx_T c19 h
      exact xk_wk (w_Wk_edge_b140 (by omega)  h) ⟨Or.inl rfl, Or.inr rfl, Or.inr rfl, Or.inr rfl, Or.inr rfl, Or.inl rfl, Or.inr rfl, Or.inr rfl, Or.inl rfl, Or.inl rfl, trivial⟩
    · have h := okx_F c19 h
      refine xi_iload D_Wk_edge_82 rfl ?_
      refine xj_iconst (v := (-1)) D_Wk_edge_84 rfl ?_
      refine xi_icmp_ne D_Wk_edge_85 (fun c20 => ?_) (fun c20 => ?_)
      · have h := okx_F c20 h
        exact xk_wk (w_Wk_edge_b140 (by omega)  h) ⟨Or.inl rfl, Or.inr rfl, Or.inr rfl, Or.inr rfl, Or.inr rfl, Or.inl rfl, Or.inr rfl, Or.inr rfl, Or.inl rfl, Or.inl rfl, trivial⟩
      · have h := okx_T c20 h
        refine xi_iload_n D_Wk_edge_88 rfl ?_
        refine xi_if_ne D_Wk_edge_89 (fun c21 => ?_) (fun c21 => ?_)
        · have h := okx_F c21 h
          refine xi_bipush (v := 10) D_Wk_edge_100 rfl ?_
          refine xi_iload D_Wk_edge_102 rfl ?_
          refine xi_isub D_Wk_edge_104 ?_
          exact w_Wk_edge_b105 (by omega) hR69 h
        · have h := okx_T c21 h
          refine xi_bipush (v := 10) D_Wk_edge_92 rfl ?_
          refine xi_iload D_Wk_edge_94 rfl ?_
          refine xi_iadd D_Wk_edge_96 ?_
          refine xi_goto D_Wk_edge_97 ?_
          exact w_Wk_edge_b105 (by omega) hR69 h
noncomputable def f_Wk_edge_h69 : Nat → Int32 → Int32 → Int32 → Int32 → Int32 → Int32 → Int32 → Sg → Option (Int32 × Sg)
  | 0, _, _, _, _, _, _, _, _ => none
  | n + 1, x1, x2, x3, x4, x5, x6, x7, s => f_Wk_edge_b69 (f_Wk_edge_h69 n) x1 x2 x3 x4 x5 x6 x7 s
theorem w_Wk_edge_h69 {d : Nat} {Q : Option (Option Value) → Sg → Prop} (hd : 8 ≤ d) : ∀ (n : Nat) (x1 : Int32) (x2 : Int32) (x3 : Int32) (x4 : Int32) (x5 : Int32) (x6 : Int32) (x7 : Int32) (s : Sg), okx (zq_I Q) (f_Wk_edge_h69 n x1 x2 x3 x4 x5 x6 x7 s) → Xw d M_Wk_edge 0 0 69 [.ref 4, .int x1, .int x2, .int x3, .int x4, .int x5, .int x6, .int x7, .retAddr 0, .retAddr 0] [] s Q := by
  intro n
  induction n with
  | zero => intro x1 x2 x3 x4 x5 x6 x7 s h; exact okx_no h
  | succ n ih => intro x1 x2 x3 x4 x5 x6 x7 s h; exact w_Wk_edge_b69 hd  ih  h
noncomputable def f_Wk_edge_b64 (x1 : Int32) (x2 : Int32) (x3 : Int32) (x4 : Int32) (x5 : Int32) (y0 : Int32) (s : Sg) : Option (Int32 × Sg) :=
  f_Wk_edge_h69  zl_fl x1 x2 x3 x4 x5 y0 1 s
theorem w_Wk_edge_b64 {x1 : Int32} {x2 : Int32} {x3 : Int32} {x4 : Int32} {x5 : Int32} {y0 : Int32} {s : Sg} {d : Nat} {Q : Option (Option Value) → Sg → Prop} (hd : 8 ≤ d) (h : okx (zq_I Q) (f_Wk_edge_b64 x1 x2 x3 x4 x5 y0 s)) : Xw d M_Wk_edge 0 0 64 [.ref 4, .int x1, .int x2, .int x3, .int x4, .int x5, .retAddr 0, .retAddr 0, .retAddr 0, .retAddr 0] [.int y0] s Q := by
  unfold f_Wk_edge_b64 at h
  refine xi_istore (ls' := [_, _, _, _, _, _, _, _, _, _]) D_Wk_edge_64 rfl (by decide) ?_
  refine xj_iconst (v := 1) D_Wk_edge_66 rfl ?_
  refine xi_istore (ls' := [_, _, _, _, _, _, _, _, _, _]) D_Wk_edge_67 rfl (by decide) ?_
  exact w_Wk_edge_h69 (by omega)  _ _ _ _ _ _ _ _ _ h
noncomputable def f_Wk_edge (x1 : Int32) (x2 : Int32) (x3 : Int32) (s : Sg) : Option (Int32 × Sg) :=
  f_ck (zl_B s) <|
  f_bd (f_Wk_isNobody  s) fun r2 s3 =>
  if r2 = 0 then
    if x1 < 0 then
      some ((-1), s3)
    else
      f_ck (zl_B s3) <|
      if (mI s3 7 2) ≤ x1 then
        some ((-1), s3)
      else
        f_bd (f_Wk_isThing x2 s3) fun r8 s9 =>
        if r8 = 0 then
          some ((-1), s9)
        else
          f_bd (f_Wk_isWithin x3 1 s9) fun r11 s12 =>
          if r11 = 0 then
            some ((-1), s12)
          else
            f_ck (zl_B s12) <|
            f_bd (f_Wk_firstOwner x1 x2 10 s12) fun r15 s16 =>
            if x3 = 0 then
              f_Wk_edge_b64  x1 x2 x3 r15 (-1) 30 s16
            else
              f_Wk_edge_b64  x1 x2 x3 r15 (-1) 10 s16
  else
    some ((-1), s3)
theorem w_Wk_edge {x1 : Int32} {x2 : Int32} {x3 : Int32} {s : Sg} {d : Nat} {Q : Option (Option Value) → Sg → Prop} (hd : 8 ≤ d) (h : okx (zq_I Q) (f_Wk_edge x1 x2 x3 s)) : Cw d M_Wk_edge [.ref 4, .int x1, .int x2, .int x3] s Q := by
  refine Cw.of (by decide +kernel) (Nat.le_of_ble_eq_true rfl) ?_
  show Xw d M_Wk_edge 0 0 0 [.ref 4, .int x1, .int x2, .int x3, .retAddr 0, .retAddr 0, .retAddr 0, .retAddr 0, .retAddr 0, .retAddr 0] [] s _
  unfold f_Wk_edge at h
  refine xi_aload_n D_Wk_edge_0 rfl ?_
  obtain ⟨g1, h⟩ := okx_ck h
  refine xj_V0 D_Wk_edge_1 L_Wk_168 C_Wk_isNobody Z_Wk_isNobody (zl_fo (g1).1 rfl) (Nat.le_of_ble_eq_true rfl) (Nat.le_of_eq (Nat.sub_add_cancel (by omega))) (w_Wk_isNobody (by omega) (okx_mono (okx_bd h) ?_))
  intro r2 s3 h
  show Xw _ _ _ _ 4 _ [_] _ _
  refine xi_if_ne D_Wk_edge_4 (fun c4 => ?_) (fun c4 => ?_)
  · have h := okx_F c4 h
    refine xj_iconst (v := (-1)) D_Wk_edge_38 rfl ?_
    exact xi_ireturn D_Wk_edge_39 rfl (rfl) (okx_I h)
  · have h := okx_T c4 h
    refine xi_iload_n D_Wk_edge_7 rfl ?_
    refine xi_if_lt D_Wk_edge_8 (fun c5 => ?_) (fun c5 => ?_)
    · have h := okx_T c5 h
      refine xj_iconst (v := (-1)) D_Wk_edge_38 rfl ?_
      exact xi_ireturn D_Wk_edge_39 rfl (rfl) (okx_I h)
    · have h := okx_F c5 h
      refine xi_iload_n D_Wk_edge_11 rfl ?_
      refine xi_aload_n D_Wk_edge_12 rfl ?_
      obtain ⟨g6, h⟩ := okx_ck h
      refine xi_getR D_Wk_edge_13 F_Wk_27 (zl_fo (g6).1 rfl) ⟨rfl, by decide⟩ (zl_gr (g6).2 rfl rfl) ?_
      refine xi_getI D_Wk_edge_16 F_Wk_236 (zl_fo (g6).1 rfl) ⟨rfl, by decide⟩ ?_
      refine xi_icmp_ge D_Wk_edge_19 (fun c7 => ?_) (fun c7 => ?_)
      · have h := okx_T c7 h
        refine xj_iconst (v := (-1)) D_Wk_edge_38 rfl ?_
        exact xi_ireturn D_Wk_edge_39 rfl (rfl) (okx_I h)
      · have h := okx_F c7 h
        refine xi_aload_n D_Wk_edge_22 rfl ?_
        refine xi_iload_n D_Wk_edge_23 rfl ?_
        refine xj_V1 D_Wk_edge_24 L_Wk_108 C_Wk_isThing Z_Wk_isThing (zl_fo (g6).1 rfl) (Nat.le_of_ble_eq_true rfl) (Nat.le_of_eq (Nat.sub_add_cancel (by omega))) (w_Wk_isThing (by omega) (okx_mono (okx_bd h) ?_))
        intro r8 s9 h
        show Xw _ _ _ _ 27 _ [_] _ _
        refine xi_if_eq D_Wk_edge_27 (fun c10 => ?_) (fun c10 => ?_)
        · have h := okx_T c10 h
          refine xj_iconst (v := (-1)) D_Wk_edge_38 rfl ?_
          exact xi_ireturn D_Wk_edge_39 rfl (rfl) (okx_I h)
        · have h := okx_F c10 h
          refine xi_iload_n D_Wk_edge_30 rfl ?_
          refine xj_iconst (v := 1) D_Wk_edge_31 rfl ?_
          refine xj_S2 D_Wk_edge_32 L_Wk_111 C_Wk_isWithin Z_Wk_isWithin (Nat.le_of_ble_eq_true rfl) (Nat.le_of_eq (Nat.sub_add_cancel (by omega))) (w_Wk_isWithin (by omega) (okx_mono (okx_bd h) ?_))
          intro r11 s12 h
          show Xw _ _ _ _ 35 _ [_] _ _
          refine xi_if_ne D_Wk_edge_35 (fun c13 => ?_) (fun c13 => ?_)
          · have h := okx_F c13 h
            refine xi_aload_n D_Wk_edge_40 rfl ?_
            refine xi_iload_n D_Wk_edge_41 rfl ?_
            refine xi_iload_n D_Wk_edge_42 rfl ?_
            refine xi_bipush (v := 10) D_Wk_edge_43 rfl ?_
            obtain ⟨g14, h⟩ := okx_ck h
            refine xj_V3 D_Wk_edge_45 L_Wk_239 C_Wk_firstOwner Z_Wk_firstOwner (zl_fo (g14).1 rfl) (Nat.le_of_ble_eq_true rfl) (Nat.le_of_eq (Nat.sub_add_cancel (by omega))) (w_Wk_firstOwner (by omega) (okx_mono (okx_bd h) ?_))
            intro r15 s16 h
            show Xw _ _ _ _ 48 _ [_] _ _
            refine xi_istore (ls' := [_, _, _, _, _, _, _, _, _, _]) D_Wk_edge_48 rfl (by decide) ?_
            refine xj_iconst (v := (-1)) D_Wk_edge_50 rfl ?_
            refine xi_istore (ls' := [_, _, _, _, _, _, _, _, _, _]) D_Wk_edge_51 rfl (by decide) ?_
            refine xi_iload_n D_Wk_edge_53 rfl ?_
            refine xi_if_ne D_Wk_edge_54 (fun c17 => ?_) (fun c17 => ?_)
            · have h := okx_F c17 h
              refine xi_bipush (v := 10) D_Wk_edge_62 rfl ?_
              exact w_Wk_edge_b64 (by omega)  h
            · have h := okx_T c17 h
              refine xi_bipush (v := 30) D_Wk_edge_57 rfl ?_
              refine xi_goto D_Wk_edge_59 ?_
              exact w_Wk_edge_b64 (by omega)  h
          · have h := okx_T c13 h
            refine xj_iconst (v := (-1)) D_Wk_edge_38 rfl ?_
            exact xi_ireturn D_Wk_edge_39 rfl (rfl) (okx_I h)
noncomputable def f_Wk_feed (x1 : Int64) (x3 : Int64) (x5 : Int64) (s : Sg) : Option (Int32 × Sg) :=
  f_ck (zl_B s) <|
  f_bd (f_Rd_append x1 s) fun r2 s3 =>
  f_ck (zl_B s3) <|
  f_bd (f_Rd_append x3 s3) fun r5 s6 =>
  f_ck (zl_B s6) <|
  f_bd (f_Rd_append x5 s6) fun r8 s9 =>
  f_ck (zl_B s9) <|
  some ((mI s9 42 2), s9)
theorem w_Wk_feed {x1 : Int64} {x3 : Int64} {x5 : Int64} {s : Sg} {d : Nat} {Q : Option (Option Value) → Sg → Prop} (hd : 2 ≤ d) (h : okx (zq_I Q) (f_Wk_feed x1 x3 x5 s)) : Cw d M_Wk_feed [.ref 4, .long x1, .long x3, .long x5] s Q := by
  refine Cw.of (by decide +kernel) (Nat.le_of_ble_eq_true rfl) ?_
  show Xw d M_Wk_feed 0 0 0 [.ref 4, .long x1, .retAddr 0, .long x3, .retAddr 0, .long x5, .retAddr 0] [] s _
  unfold f_Wk_feed at h
  refine xi_aload_n D_Wk_feed_0 rfl ?_
  obtain ⟨g1, h⟩ := okx_ck h
  refine xi_getR D_Wk_feed_1 F_Wk_41 (zl_fo (g1).1 rfl) ⟨rfl, by decide⟩ (zl_gr (g1).2 rfl rfl) ?_
  refine xi_lload_n D_Wk_feed_4 rfl ?_
  refine xj_V1 D_Wk_feed_5 L_Wk_52 C_Rd_append Z_Rd_append (zl_fo (g1).1 rfl) (Nat.le_of_ble_eq_true rfl) (Nat.le_of_eq (Nat.sub_add_cancel (by omega))) (w_Rd_append (by omega) (okx_mono (okx_bd h) ?_))
  intro r2 s3 h
  show Xw _ _ _ _ 8 _ [] _ _
  refine xi_aload_n D_Wk_feed_8 rfl ?_
  obtain ⟨g4, h⟩ := okx_ck h
  refine xi_getR D_Wk_feed_9 F_Wk_41 (zl_fo (g4).1 rfl) ⟨rfl, by decide⟩ (zl_gr (g4).2 rfl rfl) ?_
  refine xi_lload_n D_Wk_feed_12 rfl ?_
  refine xj_V1 D_Wk_feed_13 L_Wk_52 C_Rd_append Z_Rd_append (zl_fo (g4).1 rfl) (Nat.le_of_ble_eq_true rfl) (Nat.le_of_eq (Nat.sub_add_cancel (by omega))) (w_Rd_append (by omega) (okx_mono (okx_bd h) ?_))
  intro r5 s6 h
  show Xw _ _ _ _ 16 _ [] _ _
  refine xi_aload_n D_Wk_feed_16 rfl ?_
  obtain ⟨g7, h⟩ := okx_ck h
  refine xi_getR D_Wk_feed_17 F_Wk_41 (zl_fo (g7).1 rfl) ⟨rfl, by decide⟩ (zl_gr (g7).2 rfl rfl) ?_
  refine xi_lload D_Wk_feed_20 rfl ?_
  refine xj_V1 D_Wk_feed_22 L_Wk_52 C_Rd_append Z_Rd_append (zl_fo (g7).1 rfl) (Nat.le_of_ble_eq_true rfl) (Nat.le_of_eq (Nat.sub_add_cancel (by omega))) (w_Rd_append (by omega) (okx_mono (okx_bd h) ?_))
  intro r8 s9 h
  show Xw _ _ _ _ 25 _ [] _ _
  refine xi_aload_n D_Wk_feed_25 rfl ?_
  obtain ⟨g10, h⟩ := okx_ck h
  refine xi_getR D_Wk_feed_26 F_Wk_41 (zl_fo (g10).1 rfl) ⟨rfl, by decide⟩ (zl_gr (g10).2 rfl rfl) ?_
  refine xi_getI D_Wk_feed_29 F_Wk_56 (zl_fo (g10).1 rfl) ⟨rfl, by decide⟩ ?_
  exact xi_ireturn D_Wk_feed_32 rfl (rfl) (okx_I h)
noncomputable def f_Wk_lookAtPlain_b101 (R2 : Int32 → Int32 → Sg → Option (Unit × Sg)) (x1 : Int32) (x2 : Int32) (s : Sg) : Option (Unit × Sg) :=
  R2 x1 (x2 + 1) s
theorem w_Wk_lookAtPlain_b101 {x1 : Int32} {x2 : Int32} {s : Sg} {d : Nat} {Q : Option (Option Value) → Sg → Prop} (hd : 5 ≤ d) {R2 : Int32 → Int32 → Sg → Option (Unit × Sg)} (hR2 : ∀ (x1 : Int32) (x2 : Int32) (s : Sg), okx (zq_V Q) (R2 x1 x2 s) → Xw d M_Wk_lookAtPlain 0 0 2 [.ref 4, .int x1, .int x2, .retAddr 0] [] s Q) (h : okx (zq_V Q) (f_Wk_lookAtPlain_b101 R2 x1 x2 s)) : Xw d M_Wk_lookAtPlain 0 0 101 [.ref 4, .int x1, .int x2, .retAddr 0] [] s Q := by
  unfold f_Wk_lookAtPlain_b101 at h
  refine xi_iinc (v := _ + 1) (ls' := [_, _, _, _]) D_Wk_lookAtPlain_101 rfl rfl rfl (by decide) ?_
  refine xi_goto D_Wk_lookAtPlain_104 ?_
  exact hR2 _ _ _ h
noncomputable def f_Wk_lookAtPlain_b107  (s : Sg) : Option (Unit × Sg) :=
  f_ck (zl_B s) <|
  f_bd (f_Tu_lookAtAsked  s) fun r18 s19 =>
  some ((), s19)
theorem w_Wk_lookAtPlain_b107 {s : Sg} {d : Nat} {Q : Option (Option Value) → Sg → Prop} (hd : 5 ≤ d) (h : okx (zq_V Q) (f_Wk_lookAtPlain_b107  s)) : Xw d M_Wk_lookAtPlain 0 0 107 [.ref 4, .retAddr 0, .retAddr 0, .retAddr 0] [] s Q := by
  unfold f_Wk_lookAtPlain_b107 at h
  refine xi_aload_n D_Wk_lookAtPlain_107 rfl ?_
  obtain ⟨g17, h⟩ := okx_ck h
  refine xi_getR D_Wk_lookAtPlain_108 F_Wk_12 (zl_fo (g17).1 rfl) ⟨rfl, by decide⟩ (zl_gr (g17).2 rfl rfl) ?_
  refine xj_V0 D_Wk_lookAtPlain_111 L_Wk_269 C_Tu_lookAtAsked Z_Tu_lookAtAsked (zl_fo (g17).1 rfl) (Nat.le_of_ble_eq_true rfl) (Nat.le_of_eq (Nat.sub_add_cancel (by omega))) (w_Tu_lookAtAsked (by omega) (okx_mono (okx_bd h) ?_))
  intro r18 s19 h
  show Xw _ _ _ _ 114 _ [] _ _
  exact xi_return D_Wk_lookAtPlain_114 rfl (okx_V h)
noncomputable def f_Wk_lookAtPlain_b2 (R2 : Int32 → Int32 → Sg → Option (Unit × Sg)) (x1 : Int32) (x2 : Int32) (s : Sg) : Option (Unit × Sg) :=
  f_ck (zl_B s) <|
  if (mI s 7 1) ≤ x2 then
    f_Wk_lookAtPlain_b107   s
  else
    f_bd (f_Wk_digitIn x1 x2 s) fun r3 s4 =>
    f_ck (zl_B s4) <|
    if (mI s4 7 0) ≤ r3 then
      if r3 = (mI s4 7 0) then
        f_bd (f_To_all 7 s4) fun r8 s9 =>
        f_ck (zl_B s9) <|
        f_bd (f_Ow_give 21 x2 r8 (mI s9 7 0) s9) fun r11 s12 =>
        f_Wk_lookAtPlain_b101 R2 x1 x2 s12
      else
        f_bd (f_Ow_give 21 x2 0 1 s4) fun r13 s14 =>
        f_Wk_lookAtPlain_b101 R2 x1 x2 s14
    else
      f_bd (f_Ow_give 21 x2 ((1 : Int32) <<< (r3 &&& 31)) 1 s4) fun r15 s16 =>
      f_Wk_lookAtPlain_b101 R2 x1 x2 s16
theorem w_Wk_lookAtPlain_b2 {x1 : Int32} {x2 : Int32} {s : Sg} {d : Nat} {Q : Option (Option Value) → Sg → Prop} (hd : 5 ≤ d) {R2 : Int32 → Int32 → Sg → Option (Unit × Sg)} (hR2 : ∀ (x1 : Int32) (x2 : Int32) (s : Sg), okx (zq_V Q) (R2 x1 x2 s) → Xw d M_Wk_lookAtPlain 0 0 2 [.ref 4, .int x1, .int x2, .retAddr 0] [] s Q) (h : okx (zq_V Q) (f_Wk_lookAtPlain_b2 R2 x1 x2 s)) : Xw d M_Wk_lookAtPlain 0 0 2 [.ref 4, .int x1, .int x2, .retAddr 0] [] s Q := by
  unfold f_Wk_lookAtPlain_b2 at h
  refine xi_iload_n D_Wk_lookAtPlain_2 rfl ?_
  refine xi_aload_n D_Wk_lookAtPlain_3 rfl ?_
  obtain ⟨g1, h⟩ := okx_ck h
  refine xi_getR D_Wk_lookAtPlain_4 F_Wk_27 (zl_fo (g1).1 rfl) ⟨rfl, by decide⟩ (zl_gr (g1).2 rfl rfl) ?_
  refine xi_getI D_Wk_lookAtPlain_7 F_Wk_84 (zl_fo (g1).1 rfl) ⟨rfl, by decide⟩ ?_
  refine xi_icmp_ge D_Wk_lookAtPlain_10 (fun c2 => ?_) (fun c2 => ?_)
  · have h := okx_T c2 h
    exact xk_wk (w_Wk_lookAtPlain_b107 (by omega)  h) ⟨Or.inl rfl, Or.inr rfl, Or.inr rfl, Or.inl rfl, trivial⟩
  · have h := okx_F c2 h
    refine xi_aload_n D_Wk_lookAtPlain_13 rfl ?_
    refine xi_iload_n D_Wk_lookAtPlain_14 rfl ?_
    refine xi_iload_n D_Wk_lookAtPlain_15 rfl ?_
    refine xj_V2 D_Wk_lookAtPlain_16 L_Wk_211 C_Wk_digitIn Z_Wk_digitIn (zl_fo (g1).1 rfl) (Nat.le_of_ble_eq_true rfl) (Nat.le_of_eq (Nat.sub_add_cancel (by omega))) (w_Wk_digitIn (by omega) (okx_mono (okx_bd h) ?_))
    intro r3 s4 h
    show Xw _ _ _ _ 19 _ [_] _ _
    refine xi_istore_n (ls' := [_, _, _, _]) D_Wk_lookAtPlain_19 rfl (by decide) ?_
    refine xi_iload_n D_Wk_lookAtPlain_20 rfl ?_
    refine xi_aload_n D_Wk_lookAtPlain_21 rfl ?_
    obtain ⟨g5, h⟩ := okx_ck h
    refine xi_getR D_Wk_lookAtPlain_22 F_Wk_27 (zl_fo (g5).1 rfl) ⟨rfl, by decide⟩ (zl_gr (g5).2 rfl rfl) ?_
    refine xi_getI D_Wk_lookAtPlain_25 F_Wk_78 (zl_fo (g5).1 rfl) ⟨rfl, by decide⟩ ?_
    refine xi_icmp_ge D_Wk_lookAtPlain_28 (fun c6 => ?_) (fun c6 => ?_)
    · have h := okx_T c6 h
      refine xi_iload_n D_Wk_lookAtPlain_49 rfl ?_
      refine xi_aload_n D_Wk_lookAtPlain_50 rfl ?_
      refine xi_getR D_Wk_lookAtPlain_51 F_Wk_27 (zl_fo (g5).1 rfl) ⟨rfl, by decide⟩ (zl_gr (g5).2 rfl rfl) ?_
      refine xi_getI D_Wk_lookAtPlain_54 F_Wk_78 (zl_fo (g5).1 rfl) ⟨rfl, by decide⟩ ?_
      refine xi_icmp_ne D_Wk_lookAtPlain_57 (fun c7 => ?_) (fun c7 => ?_)
      · have h := okx_F c7 h
        refine xi_aload_n D_Wk_lookAtPlain_88 rfl ?_
        refine xi_getR D_Wk_lookAtPlain_89 F_Wk_12 (zl_fo (g5).1 rfl) ⟨rfl, by decide⟩ (zl_gr (g5).2 rfl rfl) ?_
        refine xi_getR D_Wk_lookAtPlain_92 F_Wk_147 (zl_fo (g5).1 rfl) ⟨rfl, by decide⟩ (zl_gr (g5).2 rfl rfl) ?_
        refine xi_iload_n D_Wk_lookAtPlain_95 rfl ?_
        refine xj_iconst (v := 0) D_Wk_lookAtPlain_96 rfl ?_
        refine xj_iconst (v := 1) D_Wk_lookAtPlain_97 rfl ?_
        refine xj_V3 D_Wk_lookAtPlain_98 L_Wk_266 C_Ow_give Z_Ow_give (zl_fo (g5).1 rfl) (Nat.le_of_ble_eq_true rfl) (Nat.le_of_eq (Nat.sub_add_cancel (by omega))) (w_Ow_give (by omega) (okx_mono (okx_bd h) ?_))
        intro r13 s14 h
        show Xw _ _ _ _ 101 _ [] _ _
        exact xk_wk (w_Wk_lookAtPlain_b101 (by omega) hR2 h) ⟨Or.inl rfl, Or.inl rfl, Or.inl rfl, Or.inr rfl, trivial⟩
      · have h := okx_T c7 h
        refine xi_aload_n D_Wk_lookAtPlain_60 rfl ?_
        refine xi_getR D_Wk_lookAtPlain_61 F_Wk_12 (zl_fo (g5).1 rfl) ⟨rfl, by decide⟩ (zl_gr (g5).2 rfl rfl) ?_
        refine xi_getR D_Wk_lookAtPlain_64 F_Wk_147 (zl_fo (g5).1 rfl) ⟨rfl, by decide⟩ (zl_gr (g5).2 rfl rfl) ?_
        refine xi_iload_n D_Wk_lookAtPlain_67 rfl ?_
        refine xi_aload_n D_Wk_lookAtPlain_68 rfl ?_
        refine xi_getR D_Wk_lookAtPlain_69 F_Wk_27 (zl_fo (g5).1 rfl) ⟨rfl, by decide⟩ (zl_gr (g5).2 rfl rfl) ?_
        refine xj_V0 D_Wk_lookAtPlain_72 L_Wk_233 C_To_all Z_To_all (zl_fo (g5).1 rfl) (Nat.le_of_ble_eq_true rfl) (Nat.le_of_eq (Nat.sub_add_cancel (by omega))) (w_To_all (by omega) (okx_mono (okx_bd h) ?_))
        intro r8 s9 h
        show Xw _ _ _ _ 75 _ [_, _, _] _ _
        refine xi_aload_n D_Wk_lookAtPlain_75 rfl ?_
        obtain ⟨g10, h⟩ := okx_ck h
        refine xi_getR D_Wk_lookAtPlain_76 F_Wk_27 (zl_fo (g10).1 rfl) ⟨rfl, by decide⟩ (zl_gr (g10).2 rfl rfl) ?_
        refine xi_getI D_Wk_lookAtPlain_79 F_Wk_78 (zl_fo (g10).1 rfl) ⟨rfl, by decide⟩ ?_
        refine xj_V3 D_Wk_lookAtPlain_82 L_Wk_266 C_Ow_give Z_Ow_give (zl_fo (g10).1 rfl) (Nat.le_of_ble_eq_true rfl) (Nat.le_of_eq (Nat.sub_add_cancel (by omega))) (w_Ow_give (by omega) (okx_mono (okx_bd h) ?_))
        intro r11 s12 h
        show Xw _ _ _ _ 85 _ [] _ _
        refine xi_goto D_Wk_lookAtPlain_85 ?_
        exact xk_wk (w_Wk_lookAtPlain_b101 (by omega) hR2 h) ⟨Or.inl rfl, Or.inl rfl, Or.inl rfl, Or.inr rfl, trivial⟩
    · have h := okx_F c6 h
      refine xi_aload_n D_Wk_lookAtPlain_31 rfl ?_
      refine xi_getR D_Wk_lookAtPlain_32 F_Wk_12 (zl_fo (g5).1 rfl) ⟨rfl, by decide⟩ (zl_gr (g5).2 rfl rfl) ?_
      refine xi_getR D_Wk_lookAtPlain_35 F_Wk_147 (zl_fo (g5).1 rfl) ⟨rfl, by decide⟩ (zl_gr (g5).2 rfl rfl) ?_
      refine xi_iload_n D_Wk_lookAtPlain_38 rfl ?_
      refine xj_iconst (v := 1) D_Wk_lookAtPlain_39 rfl ?_
      refine xi_iload_n D_Wk_lookAtPlain_40 rfl ?_
      refine xi_ishl D_Wk_lookAtPlain_41 ?_
      refine xj_iconst (v := 1) D_Wk_lookAtPlain_42 rfl ?_
      refine xj_V3 D_Wk_lookAtPlain_43 L_Wk_266 C_Ow_give Z_Ow_give (zl_fo (g5).1 rfl) (Nat.le_of_ble_eq_true rfl) (Nat.le_of_eq (Nat.sub_add_cancel (by omega))) (w_Ow_give (by omega) (okx_mono (okx_bd h) ?_))
      intro r15 s16 h
      show Xw _ _ _ _ 46 _ [] _ _
      refine xi_goto D_Wk_lookAtPlain_46 ?_
      exact xk_wk (w_Wk_lookAtPlain_b101 (by omega) hR2 h) ⟨Or.inl rfl, Or.inl rfl, Or.inl rfl, Or.inr rfl, trivial⟩
noncomputable def f_Wk_lookAtPlain_h2 : Nat → Int32 → Int32 → Sg → Option (Unit × Sg)
  | 0, _, _, _ => none
  | n + 1, x1, x2, s => f_Wk_lookAtPlain_b2 (f_Wk_lookAtPlain_h2 n) x1 x2 s
theorem w_Wk_lookAtPlain_h2 {d : Nat} {Q : Option (Option Value) → Sg → Prop} (hd : 5 ≤ d) : ∀ (n : Nat) (x1 : Int32) (x2 : Int32) (s : Sg), okx (zq_V Q) (f_Wk_lookAtPlain_h2 n x1 x2 s) → Xw d M_Wk_lookAtPlain 0 0 2 [.ref 4, .int x1, .int x2, .retAddr 0] [] s Q := by
  intro n
  induction n with
  | zero => intro x1 x2 s h; exact okx_no h
  | succ n ih => intro x1 x2 s h; exact w_Wk_lookAtPlain_b2 hd  ih  h
noncomputable def f_Wk_lookAtPlain (x1 : Int32) (s : Sg) : Option (Unit × Sg) :=
  f_Wk_lookAtPlain_h2  zl_fl x1 0 s
theorem w_Wk_lookAtPlain {x1 : Int32} {s : Sg} {d : Nat} {Q : Option (Option Value) → Sg → Prop} (hd : 5 ≤ d) (h : okx (zq_V Q) (f_Wk_lookAtPlain x1 s)) : Cw d M_Wk_lookAtPlain [.ref 4, .int x1] s Q := by
  refine Cw.of (by decide +kernel) (Nat.le_of_ble_eq_true rfl) ?_
  show Xw d M_Wk_lookAtPlain 0 0 0 [.ref 4, .int x1, .retAddr 0, .retAddr 0] [] s _
  unfold f_Wk_lookAtPlain at h
  refine xj_iconst (v := 0) D_Wk_lookAtPlain_0 rfl ?_
  refine xi_istore_n (ls' := [_, _, _, _]) D_Wk_lookAtPlain_1 rfl (by decide) ?_
  exact w_Wk_lookAtPlain_h2 (by omega)  _ _ _ _ h
noncomputable def f_Wk_fillPlain_b68 (R2 : Int32 → Int32 → Sg → Option (Unit × Sg)) (x2 : Int32) (x3 : Int32) (s : Sg) : Option (Unit × Sg) :=
  R2 x2 (x3 + 1) s
theorem w_Wk_fillPlain_b68 {x2 : Int32} {x3 : Int32} {s : Sg} {d : Nat} {Q : Option (Option Value) → Sg → Prop} (hd : 7 ≤ d) {R2 : Int32 → Int32 → Sg → Option (Unit × Sg)} (hR2 : ∀ (x2 : Int32) (x3 : Int32) (s : Sg), okx (zq_V Q) (R2 x2 x3 s) → Xw d M_Wk_fillPlain 0 0 2 [.ref 4, .retAddr 0, .int x2, .int x3, .retAddr 0] [] s Q) (h : okx (zq_V Q) (f_Wk_fillPlain_b68 R2 x2 x3 s)) : Xw d M_Wk_fillPlain 0 0 68 [.ref 4, .retAddr 0, .int x2, .int x3, .retAddr 0] [] s Q := by
  unfold f_Wk_fillPlain_b68 at h
  refine xi_iinc (v := _ + 1) (ls' := [_, _, _, _, _]) D_Wk_fillPlain_68 rfl rfl rfl (by decide) ?_
  refine xi_goto D_Wk_fillPlain_71 ?_
  exact hR2 _ _ _ h
noncomputable def f_Wk_fillPlain_b67 (R2 : Int32 → Int32 → Sg → Option (Unit × Sg)) (x2 : Int32) (x3 : Int32) (y1 : Int32) (y2 : Int32) (s : Sg) : Option (Unit × Sg) :=
  f_ck (zl_B s) <|
  f_ck (vp_in y1 216) <|
  let s17 : Sg := uI s 45 (Int32.toNatClampNeg y1) y2
  f_Wk_fillPlain_b68 R2 x2 x3 s17
theorem w_Wk_fillPlain_b67 {x2 : Int32} {x3 : Int32} {y1 : Int32} {y2 : Int32} {s : Sg} {d : Nat} {Q : Option (Option Value) → Sg → Prop} (hd : 7 ≤ d) {R2 : Int32 → Int32 → Sg → Option (Unit × Sg)} (hR2 : ∀ (x2 : Int32) (x3 : Int32) (s : Sg), okx (zq_V Q) (R2 x2 x3 s) → Xw d M_Wk_fillPlain 0 0 2 [.ref 4, .retAddr 0, .int x2, .int x3, .retAddr 0] [] s Q) (h : okx (zq_V Q) (f_Wk_fillPlain_b67 R2 x2 x3 y1 y2 s)) : Xw d M_Wk_fillPlain 0 0 67 [.ref 4, .retAddr 0, .int x2, .int x3, .retAddr 0] [.int y2, .int y1, .ref 45] s Q := by
  unfold f_Wk_fillPlain_b67 at h
  obtain ⟨g15, h⟩ := okx_ck h
  obtain ⟨g16, h⟩ := okx_ck h
  refine xj_iast D_Wk_fillPlain_67 (zl_fx (g15).1 rfl) (zl_ib (n := 216) rfl (g16)) ?_
  exact w_Wk_fillPlain_b68 (by omega) hR2 h
noncomputable def f_Wk_fillPlain_b2 (R2 : Int32 → Int32 → Sg → Option (Unit × Sg)) (x2 : Int32) (x3 : Int32) (s : Sg) : Option (Unit × Sg) :=
  if x2 < x3 then
    some ((), s)
  else
    if 216 ≤ x3 then
      some ((), s)
    else
      f_ck (zl_B s) <|
      f_ck (vp_in x3 216) <|
      if (mI s 45 (Int32.toNatClampNeg x3)) = 1073741824 then
        f_bd (f_Wk_lookAtPlain x3 s) fun r6 s7 =>
        f_ck (zl_B s7) <|
        f_bd (f_Tu_byTurns 0 (-1) s7) fun r9 s10 =>
        f_ck (zl_B s10) <|
        if r9 = (-1) then
          f_Wk_fillPlain_b67 R2 x2 x3 x3 (-1073741824) s10
        else
          f_bd (f_Wo_goodOf r9 s10) fun r13 s14 =>
          f_Wk_fillPlain_b67 R2 x2 x3 x3 r13 s14
      else
        f_Wk_fillPlain_b68 R2 x2 x3 s
theorem w_Wk_fillPlain_b2 {x2 : Int32} {x3 : Int32} {s : Sg} {d : Nat} {Q : Option (Option Value) → Sg → Prop} (hd : 7 ≤ d) {R2 : Int32 → Int32 → Sg → Option (Unit × Sg)} (hR2 : ∀ (x2 : Int32) (x3 : Int32) (s : Sg), okx (zq_V Q) (R2 x2 x3 s) → Xw d M_Wk_fillPlain 0 0 2 [.ref 4, .retAddr 0, .int x2, .int x3, .retAddr 0] [] s Q) (h : okx (zq_V Q) (f_Wk_fillPlain_b2 R2 x2 x3 s)) : Xw d M_Wk_fillPlain 0 0 2 [.ref 4, .retAddr 0, .int x2, .int x3, .retAddr 0] [] s Q := by
  unfold f_Wk_fillPlain_b2 at h
  refine xi_iload_n D_Wk_fillPlain_2 rfl ?_
  refine xi_iload_n D_Wk_fillPlain_3 rfl ?_
  refine xi_icmp_gt D_Wk_fillPlain_4 (fun c1 => ?_) (fun c1 => ?_)
  · have h := okx_T c1 h
    exact xi_return D_Wk_fillPlain_74 rfl (okx_V h)
  · have h := okx_F c1 h
    refine xi_iload_n D_Wk_fillPlain_7 rfl ?_
    refine xi_sipush (v := 216) D_Wk_fillPlain_8 rfl ?_
    refine xi_icmp_ge D_Wk_fillPlain_11 (fun c2 => ?_) (fun c2 => ?_)
    · have h := okx_T c2 h
      exact xi_return D_Wk_fillPlain_74 rfl (okx_V h)
    · have h := okx_F c2 h
      refine xi_aload_n D_Wk_fillPlain_14 rfl ?_
      obtain ⟨g3, h⟩ := okx_ck h
      refine xi_getR D_Wk_fillPlain_15 F_Wk_45 (zl_fo (g3).1 rfl) ⟨rfl, by decide⟩ (zl_gr (g3).2 rfl rfl) ?_
      refine xi_iload_n D_Wk_fillPlain_18 rfl ?_
      obtain ⟨g4, h⟩ := okx_ck h
      refine xj_iald D_Wk_fillPlain_19 (zl_fx (g3).1 rfl) (zl_ib (n := 216) rfl (g4)) ?_
      refine xi_ldcw D_Wk_fillPlain_20 K_Wk_259 ?_
      refine xi_icmp_ne D_Wk_fillPlain_23 (fun c5 => ?_) (fun c5 => ?_)
      · have h := okx_F c5 h
        exact w_Wk_fillPlain_b68 (by omega) hR2 h
      · have h := okx_T c5 h
        refine xi_aload_n D_Wk_fillPlain_26 rfl ?_
        refine xi_iload_n D_Wk_fillPlain_27 rfl ?_
        refine xj_V1 D_Wk_fillPlain_28 L_Wk_263 C_Wk_lookAtPlain Z_Wk_lookAtPlain (zl_fo (g3).1 rfl) (Nat.le_of_ble_eq_true rfl) (Nat.le_of_eq (Nat.sub_add_cancel (by omega))) (w_Wk_lookAtPlain (by omega) (okx_mono (okx_bd h) ?_))
        intro r6 s7 h
        show Xw _ _ _ _ 31 _ [] _ _
        refine xi_aload_n D_Wk_fillPlain_31 rfl ?_
        obtain ⟨g8, h⟩ := okx_ck h
        refine xi_getR D_Wk_fillPlain_32 F_Wk_12 (zl_fo (g8).1 rfl) ⟨rfl, by decide⟩ (zl_gr (g8).2 rfl rfl) ?_
        refine xj_iconst (v := 0) D_Wk_fillPlain_35 rfl ?_
        refine xj_iconst (v := (-1)) D_Wk_fillPlain_36 rfl ?_
        refine xj_V2 D_Wk_fillPlain_37 L_Wk_175 C_Tu_byTurns Z_Tu_byTurns (zl_fo (g8).1 rfl) (Nat.le_of_ble_eq_true rfl) (Nat.le_of_eq (Nat.sub_add_cancel (by omega))) (w_Tu_byTurns (by omega) (okx_mono (okx_bd h) ?_))
        intro r9 s10 h
        show Xw _ _ _ _ 40 _ [_] _ _
        refine xi_istore (ls' := [_, _, _, _, _]) D_Wk_fillPlain_40 rfl (by decide) ?_
        refine xi_aload_n D_Wk_fillPlain_42 rfl ?_
        obtain ⟨g11, h⟩ := okx_ck h
        refine xi_getR D_Wk_fillPlain_43 F_Wk_45 (zl_fo (g11).1 rfl) ⟨rfl, by decide⟩ (zl_gr (g11).2 rfl rfl) ?_
        refine xi_iload_n D_Wk_fillPlain_46 rfl ?_
        refine xi_iload D_Wk_fillPlain_47 rfl ?_
        refine xj_iconst (v := (-1)) D_Wk_fillPlain_49 rfl ?_
        refine xi_icmp_ne D_Wk_fillPlain_50 (fun c12 => ?_) (fun c12 => ?_)
        · have h := okx_F c12 h
          refine xi_aload_n D_Wk_fillPlain_58 rfl ?_
          refine xi_getR D_Wk_fillPlain_59 F_Wk_20 (zl_fo (g11).1 rfl) ⟨rfl, by decide⟩ (zl_gr (g11).2 rfl rfl) ?_
          refine xi_iload D_Wk_fillPlain_62 rfl ?_
          refine xj_V1 D_Wk_fillPlain_64 L_Wk_181 C_Wo_goodOf Z_Wo_goodOf (zl_fo (g11).1 rfl) (Nat.le_of_ble_eq_true rfl) (Nat.le_of_eq (Nat.sub_add_cancel (by omega))) (w_Wo_goodOf (by omega) (okx_mono (okx_bd h) ?_))
          intro r13 s14 h
          show Xw _ _ _ _ 67 _ [_, _, _] _ _
          exact xk_wk (w_Wk_fillPlain_b67 (by omega) hR2 h) ⟨Or.inl rfl, Or.inl rfl, Or.inl rfl, Or.inl rfl, Or.inr rfl, trivial⟩
        · have h := okx_T c12 h
          refine xi_ldc D_Wk_fillPlain_53 K_Wk_195 ?_
          refine xi_goto D_Wk_fillPlain_55 ?_
          exact xk_wk (w_Wk_fillPlain_b67 (by omega) hR2 h) ⟨Or.inl rfl, Or.inl rfl, Or.inl rfl, Or.inl rfl, Or.inr rfl, trivial⟩
noncomputable def f_Wk_fillPlain_h2 : Nat → Int32 → Int32 → Sg → Option (Unit × Sg)
  | 0, _, _, _ => none
  | n + 1, x2, x3, s => f_Wk_fillPlain_b2 (f_Wk_fillPlain_h2 n) x2 x3 s
theorem w_Wk_fillPlain_h2 {d : Nat} {Q : Option (Option Value) → Sg → Prop} (hd : 7 ≤ d) : ∀ (n : Nat) (x2 : Int32) (x3 : Int32) (s : Sg), okx (zq_V Q) (f_Wk_fillPlain_h2 n x2 x3 s) → Xw d M_Wk_fillPlain 0 0 2 [.ref 4, .retAddr 0, .int x2, .int x3, .retAddr 0] [] s Q := by
  intro n
  induction n with
  | zero => intro x2 x3 s h; exact okx_no h
  | succ n ih => intro x2 x3 s h; exact w_Wk_fillPlain_b2 hd  ih  h
noncomputable def f_Wk_fillPlain (x1 : Int32) (x2 : Int32) (s : Sg) : Option (Unit × Sg) :=
  f_Wk_fillPlain_h2  zl_fl x2 x1 s
theorem w_Wk_fillPlain {x1 : Int32} {x2 : Int32} {s : Sg} {d : Nat} {Q : Option (Option Value) → Sg → Prop} (hd : 7 ≤ d) (h : okx (zq_V Q) (f_Wk_fillPlain x1 x2 s)) : Cw d M_Wk_fillPlain [.ref 4, .int x1, .int x2] s Q := by
  refine Cw.of (by decide +kernel) (Nat.le_of_ble_eq_true rfl) ?_
  show Xw d M_Wk_fillPlain 0 0 0 [.ref 4, .int x1, .int x2, .retAddr 0, .retAddr 0] [] s _
  unfold f_Wk_fillPlain at h
  refine xi_iload_n D_Wk_fillPlain_0 rfl ?_
  refine xi_istore_n (ls' := [_, _, _, _, _]) D_Wk_fillPlain_1 rfl (by decide) ?_
  exact xk_wk (w_Wk_fillPlain_h2 (by omega)  _ _ _ _ h) ⟨Or.inl rfl, Or.inr rfl, Or.inl rfl, Or.inl rfl, Or.inl rfl, trivial⟩
noncomputable def f_Wk_firstPlain_b42 (R4 : Int32 → Int32 → Int32 → Sg → Option (Int32 × Sg)) (x1 : Int32) (x2 : Int32) (x3 : Int32) (s : Sg) : Option (Int32 × Sg) :=
  R4 x1 x2 (x3 + 1) s
theorem w_Wk_firstPlain_b42 {x1 : Int32} {x2 : Int32} {x3 : Int32} {s : Sg} {d : Nat} {Q : Option (Option Value) → Sg → Prop} (hd : 1 ≤ d) {R4 : Int32 → Int32 → Int32 → Sg → Option (Int32 × Sg)} (hR4 : ∀ (x1 : Int32) (x2 : Int32) (x3 : Int32) (s : Sg), okx (zq_I Q) (R4 x1 x2 x3 s) → Xw d M_Wk_firstPlain 0 0 4 [.ref 4, .int x1, .int x2, .int x3] [] s Q) (h : okx (zq_I Q) (f_Wk_firstPlain_b42 R4 x1 x2 x3 s)) : Xw d M_Wk_firstPlain 0 0 42 [.ref 4, .int x1, .int x2, .int x3] [] s Q := by
  unfold f_Wk_firstPlain_b42 at h
  refine xi_iinc (v := _ + 1) (ls' := [_, _, _, _]) D_Wk_firstPlain_42 rfl rfl rfl (by decide) ?_
  refine xi_goto D_Wk_firstPlain_45 ?_
  exact hR4 _ _ _ _ h
noncomputable def f_Wk_firstPlain_b40 (R4 : Int32 → Int32 → Int32 → Sg → Option (Int32 × Sg)) (x1 : Int32) (x3 : Int32) (s : Sg) : Option (Int32 × Sg) :=
  f_Wk_firstPlain_b42 R4 x1 x3 x3 s
theorem w_Wk_firstPlain_b40 {x1 : Int32} {x3 : Int32} {s : Sg} {d : Nat} {Q : Option (Option Value) → Sg → Prop} (hd : 1 ≤ d) {R4 : Int32 → Int32 → Int32 → Sg → Option (Int32 × Sg)} (hR4 : ∀ (x1 : Int32) (x2 : Int32) (x3 : Int32) (s : Sg), okx (zq_I Q) (R4 x1 x2 x3 s) → Xw d M_Wk_firstPlain 0 0 4 [.ref 4, .int x1, .int x2, .int x3] [] s Q) (h : okx (zq_I Q) (f_Wk_firstPlain_b40 R4 x1 x3 s)) : Xw d M_Wk_firstPlain 0 0 40 [.ref 4, .int x1, .retAddr 0, .int x3] [] s Q := by
  unfold f_Wk_firstPlain_b40 at h
  refine xi_iload_n D_Wk_firstPlain_40 rfl ?_
  refine xi_istore_n (ls' := [_, _, _, _]) D_Wk_firstPlain_41 rfl (by decide) ?_
  exact w_Wk_firstPlain_b42 (by omega) hR4 h
noncomputable def f_Wk_firstPlain_b4 (R4 : Int32 → Int32 → Int32 → Sg → Option (Int32 × Sg)) (x1 : Int32) (x2 : Int32) (x3 : Int32) (s : Sg) : Option (Int32 × Sg) :=
  if x1 ≤ x3 then
    some (x2, s)
  else
    f_ck (zl_B s) <|
    f_ck (vp_in x3 216) <|
    if (mI s 45 (Int32.toNatClampNeg x3)) = (-1073741824) then
      f_Wk_firstPlain_b42 R4 x1 x2 x3 s
    else
      if x2 = (-1) then
        f_Wk_firstPlain_b40 R4 x1 x3 s
      else
        f_ck (vp_in x3 216) <|
        f_ck (vp_in x2 216) <|
        if (mI s 45 (Int32.toNatClampNeg x3)) ≤ (mI s 45 (Int32.toNatClampNeg x2)) then
          f_Wk_firstPlain_b42 R4 x1 x2 x3 s
        else
          f_Wk_firstPlain_b40 R4 x1 x3 s
theorem w_Wk_firstPlain_b4 {x1 : Int32} {x2 : Int32} {x3 : Int32} {s : Sg} {d : Nat} {Q : Option (Option Value) → Sg → Prop} (hd : 1 ≤ d) {R4 : Int32 → Int32 → Int32 → Sg → Option (Int32 × Sg)} (hR4 : ∀ (x1 : Int32) (x2 : Int32) (x3 : Int32) (s : Sg), okx (zq_I Q) (R4 x1 x2 x3 s) → Xw d M_Wk_firstPlain 0 0 4 [.ref 4, .int x1, .int x2, .int x3] [] s Q) (h : okx (zq_I Q) (f_Wk_firstPlain_b4 R4 x1 x2 x3 s)) : Xw d M_Wk_firstPlain 0 0 4 [.ref 4, .int x1, .int x2, .int x3] [] s Q := by
  unfold f_Wk_firstPlain_b4 at h
  refine xi_iload_n D_Wk_firstPlain_4 rfl ?_
  refine xi_iload_n D_Wk_firstPlain_5 rfl ?_
  refine xi_icmp_ge D_Wk_firstPlain_6 (fun c1 => ?_) (fun c1 => ?_)
  · have h := okx_T c1 h
    refine xi_iload_n D_Wk_firstPlain_48 rfl ?_
    exact xi_ireturn D_Wk_firstPlain_49 rfl (rfl) (okx_I h)
  · have h := okx_F c1 h
    refine xi_aload_n D_Wk_firstPlain_9 rfl ?_
    obtain ⟨g2, h⟩ := okx_ck h
    refine xi_getR D_Wk_firstPlain_10 F_Wk_45 (zl_fo (g2).1 rfl) ⟨rfl, by decide⟩ (zl_gr (g2).2 rfl rfl) ?_
    refine xi_iload_n D_Wk_firstPlain_13 rfl ?_
    obtain ⟨g3, h⟩ := okx_ck h
    refine xj_iald D_Wk_firstPlain_14 (zl_fx (g2).1 rfl) (zl_ib (n := 216) rfl (g3)) ?_
    refine xi_ldc D_Wk_firstPlain_15 K_Wk_195 ?_
    refine xi_icmp_eq D_Wk_firstPlain_17 (fun c4 => ?_) (fun c4 => ?_)
    · have h := okx_T c4 h
      exact w_Wk_firstPlain_b42 (by omega) hR4 h
    · have h := okx_F c4 h
      refine xi_iload_n D_Wk_firstPlain_20 rfl ?_
      refine xj_iconst (v := (-1)) D_Wk_firstPlain_21 rfl ?_
      refine xi_icmp_eq D_Wk_firstPlain_22 (fun c5 => ?_) (fun c5 => ?_)
      · have h := okx_T c5 h
        exact xk_wk (w_Wk_firstPlain_b40 (by omega) hR4 h) ⟨Or.inl rfl, Or.inl rfl, Or.inr rfl, Or.inl rfl, trivial⟩
      · have h := okx_F c5 h
        refine xi_aload_n D_Wk_firstPlain_25 rfl ?_
        refine xi_getR D_Wk_firstPlain_26 F_Wk_45 (zl_fo (g2).1 rfl) ⟨rfl, by decide⟩ (zl_gr (g2).2 rfl rfl) ?_
        refine xi_iload_n D_Wk_firstPlain_29 rfl ?_
        obtain ⟨g6, h⟩ := okx_ck h
        refine xj_iald D_Wk_firstPlain_30 (zl_fx (g2).1 rfl) (zl_ib (n := 216) rfl (g6)) ?_
        refine xi_aload_n D_Wk_firstPlain_31 rfl ?_
        refine xi_getR D_Wk_firstPlain_32 F_Wk_45 (zl_fo (g2).1 rfl) ⟨rfl, by decide⟩ (zl_gr (g2).2 rfl rfl) ?_
        refine xi_iload_n D_Wk_firstPlain_35 rfl ?_
        obtain ⟨g7, h⟩ := okx_ck h
        refine xj_iald D_Wk_firstPlain_36 (zl_fx (g2).1 rfl) (zl_ib (n := 216) rfl (g7)) ?_
        refine xi_icmp_le D_Wk_firstPlain_37 (fun c8 => ?_) (fun c8 => ?_)
        · have h := okx_T c8 h
          exact w_Wk_firstPlain_b42 (by omega) hR4 h
        · have h := okx_F c8 h
          exact xk_wk (w_Wk_firstPlain_b40 (by omega) hR4 h) ⟨Or.inl rfl, Or.inl rfl, Or.inr rfl, Or.inl rfl, trivial⟩
noncomputable def f_Wk_firstPlain_h4 : Nat → Int32 → Int32 → Int32 → Sg → Option (Int32 × Sg)
  | 0, _, _, _, _ => none
  | n + 1, x1, x2, x3, s => f_Wk_firstPlain_b4 (f_Wk_firstPlain_h4 n) x1 x2 x3 s
theorem w_Wk_firstPlain_h4 {d : Nat} {Q : Option (Option Value) → Sg → Prop} (hd : 1 ≤ d) : ∀ (n : Nat) (x1 : Int32) (x2 : Int32) (x3 : Int32) (s : Sg), okx (zq_I Q) (f_Wk_firstPlain_h4 n x1 x2 x3 s) → Xw d M_Wk_firstPlain 0 0 4 [.ref 4, .int x1, .int x2, .int x3] [] s Q := by
  intro n
  induction n with
  | zero => intro x1 x2 x3 s h; exact okx_no h
  | succ n ih => intro x1 x2 x3 s h; exact w_Wk_firstPlain_b4 hd  ih  h
noncomputable def f_Wk_firstPlain (x1 : Int32) (s : Sg) : Option (Int32 × Sg) :=
  f_Wk_firstPlain_h4  zl_fl x1 (-1) 0 s
theorem w_Wk_firstPlain {x1 : Int32} {s : Sg} {d : Nat} {Q : Option (Option Value) → Sg → Prop} (hd : 1 ≤ d) (h : okx (zq_I Q) (f_Wk_firstPlain x1 s)) : Cw d M_Wk_firstPlain [.ref 4, .int x1] s Q := by
  refine Cw.of (by decide +kernel) (Nat.le_of_ble_eq_true rfl) ?_
  show Xw d M_Wk_firstPlain 0 0 0 [.ref 4, .int x1, .retAddr 0, .retAddr 0] [] s _
  unfold f_Wk_firstPlain at h
  refine xj_iconst (v := (-1)) D_Wk_firstPlain_0 rfl ?_
  refine xi_istore_n (ls' := [_, _, _, _]) D_Wk_firstPlain_1 rfl (by decide) ?_
  refine xj_iconst (v := 0) D_Wk_firstPlain_2 rfl ?_
  refine xi_istore_n (ls' := [_, _, _, _]) D_Wk_firstPlain_3 rfl (by decide) ?_
  exact w_Wk_firstPlain_h4 (by omega)  _ _ _ _ _ h
noncomputable def f_Wk_first (x1 : Int32) (s : Sg) : Option (Int32 × Sg) :=
  f_ck (zl_B s) <|
  f_bd (f_Wk_plainCount  s) fun r2 s3 =>
  if r2 = 0 then
    some ((-1), s3)
  else
    f_bd (f_Wk_isWithin x1 2 s3) fun r5 s6 =>
    if r5 = 0 then
      some ((-1), s6)
    else
      f_ck (zl_B s6) <|
      f_bd (f_Wk_fillPlain 0 (r2 - 1) s6) fun r9 s10 =>
      if x1 = 2 then
        f_ck (zl_B s10) <|
        f_bd (f_Wk_countPlain r2 (-1073741824) s10) fun r13 s14 =>
        some (r13, s14)
      else
        f_ck (zl_B s10) <|
        f_bd (f_Wk_firstPlain r2 s10) fun r16 s17 =>
        if r16 = (-1) then
          some ((-1), s17)
        else
          if x1 = 0 then
            some (r16, s17)
          else
            f_ck (zl_B s17) <|
            f_ck (vp_in r16 216) <|
            f_bd (f_Wk_countPlain r2 (mI s17 45 (Int32.toNatClampNeg r16)) s17) fun r22 s23 =>
            some (r22, s23)
theorem w_Wk_first {x1 : Int32} {s : Sg} {d : Nat} {Q : Option (Option Value) → Sg → Prop} (hd : 8 ≤ d) (h : okx (zq_I Q) (f_Wk_first x1 s)) : Cw d M_Wk_first [.ref 4, .int x1] s Q := by
  refine Cw.of (by decide +kernel) (Nat.le_of_ble_eq_true rfl) ?_
  show Xw d M_Wk_first 0 0 0 [.ref 4, .int x1, .retAddr 0, .retAddr 0] [] s _
  unfold f_Wk_first at h
  refine xi_aload_n D_Wk_first_0 rfl ?_
  obtain ⟨g1, h⟩ := okx_ck h
  refine xj_V0 D_Wk_first_1 L_Wk_188 C_Wk_plainCount Z_Wk_plainCount (zl_fo (g1).1 rfl) (Nat.le_of_ble_eq_true rfl) (Nat.le_of_eq (Nat.sub_add_cancel (by omega))) (w_Wk_plainCount (by omega) (okx_mono (okx_bd h) ?_))
  intro r2 s3 h
  show Xw _ _ _ _ 4 _ [_] _ _
  refine xi_istore_n (ls' := [_, _, _, _]) D_Wk_first_4 rfl (by decide) ?_
  refine xi_iload_n D_Wk_first_5 rfl ?_
  refine xi_if_eq D_Wk_first_6 (fun c4 => ?_) (fun c4 => ?_)
  · have h := okx_T c4 h
    refine xj_iconst (v := (-1)) D_Wk_first_17 rfl ?_
    exact xi_ireturn D_Wk_first_18 rfl (rfl) (okx_I h)
  · have h := okx_F c4 h
    refine xi_iload_n D_Wk_first_9 rfl ?_
    refine xj_iconst (v := 2) D_Wk_first_10 rfl ?_
    refine xj_S2 D_Wk_first_11 L_Wk_111 C_Wk_isWithin Z_Wk_isWithin (Nat.le_of_ble_eq_true rfl) (Nat.le_of_eq (Nat.sub_add_cancel (by omega))) (w_Wk_isWithin (by omega) (okx_mono (okx_bd h) ?_))
    intro r5 s6 h
    show Xw _ _ _ _ 14 _ [_] _ _
    refine xi_if_ne D_Wk_first_14 (fun c7 => ?_) (fun c7 => ?_)
    · have h := okx_F c7 h
      refine xi_aload_n D_Wk_first_19 rfl ?_
      refine xj_iconst (v := 0) D_Wk_first_20 rfl ?_
      refine xi_iload_n D_Wk_first_21 rfl ?_
      refine xj_iconst (v := 1) D_Wk_first_22 rfl ?_
      refine xi_isub D_Wk_first_23 ?_
      obtain ⟨g8, h⟩ := okx_ck h
      refine xj_V2 D_Wk_first_24 L_Wk_191 C_Wk_fillPlain Z_Wk_fillPlain (zl_fo (g8).1 rfl) (Nat.le_of_ble_eq_true rfl) (Nat.le_of_eq (Nat.sub_add_cancel (by omega))) (w_Wk_fillPlain (by omega) (okx_mono (okx_bd h) ?_))
      intro r9 s10 h
      show Xw _ _ _ _ 27 _ [] _ _
      refine xi_iload_n D_Wk_first_27 rfl ?_
      refine xj_iconst (v := 2) D_Wk_first_28 rfl ?_
      refine xi_icmp_ne D_Wk_first_29 (fun c11 => ?_) (fun c11 => ?_)
      · have h := okx_F c11 h
        refine xi_aload_n D_Wk_first_40 rfl ?_
        refine xi_iload_n D_Wk_first_41 rfl ?_
        obtain ⟨g15, h⟩ := okx_ck h
        refine xj_V1 D_Wk_first_42 L_Wk_199 C_Wk_firstPlain Z_Wk_firstPlain (zl_fo (g15).1 rfl) (Nat.le_of_ble_eq_true rfl) (Nat.le_of_eq (Nat.sub_add_cancel (by omega))) (w_Wk_firstPlain (by omega) (okx_mono (okx_bd h) ?_))
        intro r16 s17 h
        show Xw _ _ _ _ 45 _ [_] _ _
        refine xi_istore_n (ls' := [_, _, _, _]) D_Wk_first_45 rfl (by decide) ?_
        refine xi_iload_n D_Wk_first_46 rfl ?_
        refine xj_iconst (v := (-1)) D_Wk_first_47 rfl ?_
        refine xi_icmp_ne D_Wk_first_48 (fun c18 => ?_) (fun c18 => ?_)
        · have h := okx_F c18 h
          refine xi_iload_n D_Wk_first_53 rfl ?_
          refine xi_if_ne D_Wk_first_54 (fun c19 => ?_) (fun c19 => ?_)
          · have h := okx_F c19 h
            refine xi_aload_n D_Wk_first_61 rfl ?_
            refine xi_iload_n D_Wk_first_62 rfl ?_
            refine xi_aload_n D_Wk_first_63 rfl ?_
            obtain ⟨g20, h⟩ := okx_ck h
            refine xi_getR D_Wk_first_64 F_Wk_45 (zl_fo (g20).1 rfl) ⟨rfl, by decide⟩ (zl_gr (g20).2 rfl rfl) ?_
            refine xi_iload_n D_Wk_first_67 rfl ?_
            obtain ⟨g21, h⟩ := okx_ck h
            refine xj_iald D_Wk_first_68 (zl_fx (g20).1 rfl) (zl_ib (n := 216) rfl (g21)) ?_
            refine xj_V2 D_Wk_first_69 L_Wk_196 C_Wk_countPlain Z_Wk_countPlain (zl_fo (g20).1 rfl) (Nat.le_of_ble_eq_true rfl) (Nat.le_of_eq (Nat.sub_add_cancel (by omega))) (w_Wk_countPlain (by omega) (okx_mono (okx_bd h) ?_))
            intro r22 s23 h
            show Xw _ _ _ _ 72 _ [_] _ _
            exact xi_ireturn D_Wk_first_72 rfl (rfl) (okx_I h)
          · have h := okx_T c19 h
            refine xi_iload_n D_Wk_first_57 rfl ?_
            refine xi_goto D_Wk_first_58 ?_
            exact xi_ireturn D_Wk_first_72 rfl (rfl) (okx_I h)
        · have h := okx_T c18 h
          refine xj_iconst (v := (-1)) D_Wk_first_51 rfl ?_
          exact xi_ireturn D_Wk_first_52 rfl (rfl) (okx_I h)
      · have h := okx_T c11 h
        refine xi_aload_n D_Wk_first_32 rfl ?_
        refine xi_iload_n D_Wk_first_33 rfl ?_
        refine xi_ldc D_Wk_first_34 K_Wk_195 ?_
        obtain ⟨g12, h⟩ := okx_ck h
        refine xj_V2 D_Wk_first_36 L_Wk_196 C_Wk_countPlain Z_Wk_countPlain (zl_fo (g12).1 rfl) (Nat.le_of_ble_eq_true rfl) (Nat.le_of_eq (Nat.sub_add_cancel (by omega))) (w_Wk_countPlain (by omega) (okx_mono (okx_bd h) ?_))
        intro r13 s14 h
        show Xw _ _ _ _ 39 _ [_] _ _
        exact xi_ireturn D_Wk_first_39 rfl (rfl) (okx_I h)
    · have h := okx_T c7 h
      refine xj_iconst (v := (-1)) D_Wk_first_17 rfl ?_
      exact xi_ireturn D_Wk_first_18 rfl (rfl) (okx_I h)
noncomputable def f_Wk_forgetAll  (s : Sg) : Option (Unit × Sg) :=
  f_ck (zl_B s) <|
  f_bd (f_Wk_forgetPlain  s) fun r2 s3 =>
  f_ck (zl_B s3) <|
  f_bd (f_Wo_forget  s3) fun r5 s6 =>
  some ((), s6)
theorem w_Wk_forgetAll {s : Sg} {d : Nat} {Q : Option (Option Value) → Sg → Prop} (hd : 2 ≤ d) (h : okx (zq_V Q) (f_Wk_forgetAll  s)) : Cw d M_Wk_forgetAll [.ref 4] s Q := by
  refine Cw.of (by decide +kernel) (Nat.le_of_ble_eq_true rfl) ?_
  show Xw d M_Wk_forgetAll 0 0 0 [.ref 4] [] s _
  unfold f_Wk_forgetAll at h
  refine xi_aload_n D_Wk_forgetAll_0 rfl ?_
  obtain ⟨g1, h⟩ := okx_ck h
  refine xj_V0 D_Wk_forgetAll_1 L_Wk_49 C_Wk_forgetPlain Z_Wk_forgetPlain (zl_fo (g1).1 rfl) (Nat.le_of_ble_eq_true rfl) (Nat.le_of_eq (Nat.sub_add_cancel (by omega))) (w_Wk_forgetPlain (by omega) (okx_mono (okx_bd h) ?_))
  intro r2 s3 h
  show Xw _ _ _ _ 4 _ [] _ _
  refine xi_aload_n D_Wk_forgetAll_4 rfl ?_
  obtain ⟨g4, h⟩ := okx_ck h
  refine xi_getR D_Wk_forgetAll_5 F_Wk_20 (zl_fo (g4).1 rfl) ⟨rfl, by decide⟩ (zl_gr (g4).2 rfl rfl) ?_
  refine xj_V0 D_Wk_forgetAll_8 L_Wk_260 C_Wo_forget Z_Wo_forget (zl_fo (g4).1 rfl) (Nat.le_of_ble_eq_true rfl) (Nat.le_of_eq (Nat.sub_add_cancel (by omega))) (w_Wo_forget (by omega) (okx_mono (okx_bd h) ?_))
  intro r5 s6 h
  show Xw _ _ _ _ 11 _ [] _ _
  exact xi_return D_Wk_forgetAll_11 rfl (okx_V h)
noncomputable def f_Wk_reachedAsIs  (s : Sg) : Option (Int32 × Sg) :=
  f_ck (zl_B s) <|
  f_bd (f_Tu_lookAsIs  s) fun r2 s3 =>
  f_ck (zl_B s3) <|
  f_bd (f_Tu_byTurns 0 (-1) s3) fun r5 s6 =>
  if r5 = (-1) then
    some ((-1073741824), s6)
  else
    f_ck (zl_B s6) <|
    f_bd (f_Wo_goodOf r5 s6) fun r9 s10 =>
    some (r9, s10)
theorem w_Wk_reachedAsIs {s : Sg} {d : Nat} {Q : Option (Option Value) → Sg → Prop} (hd : 7 ≤ d) (h : okx (zq_I Q) (f_Wk_reachedAsIs  s)) : Cw d M_Wk_reachedAsIs [.ref 4] s Q := by
  refine Cw.of (by decide +kernel) (Nat.le_of_ble_eq_true rfl) ?_
  show Xw d M_Wk_reachedAsIs 0 0 0 [.ref 4, .retAddr 0] [] s _
  unfold f_Wk_reachedAsIs at h
  refine xi_aload_n D_Wk_reachedAsIs_0 rfl ?_
  obtain ⟨g1, h⟩ := okx_ck h
  refine xi_getR D_Wk_reachedAsIs_1 F_Wk_12 (zl_fo (g1).1 rfl) ⟨rfl, by decide⟩ (zl_gr (g1).2 rfl rfl) ?_
  refine xj_V0 D_Wk_reachedAsIs_4 L_Wk_140 C_Tu_lookAsIs Z_Tu_lookAsIs (zl_fo (g1).1 rfl) (Nat.le_of_ble_eq_true rfl) (Nat.le_of_eq (Nat.sub_add_cancel (by omega))) (w_Tu_lookAsIs (by omega) (okx_mono (okx_bd h) ?_))
  intro r2 s3 h
  show Xw _ _ _ _ 7 _ [] _ _
  refine xi_aload_n D_Wk_reachedAsIs_7 rfl ?_
  obtain ⟨g4, h⟩ := okx_ck h
  refine xi_getR D_Wk_reachedAsIs_8 F_Wk_12 (zl_fo (g4).1 rfl) ⟨rfl, by decide⟩ (zl_gr (g4).2 rfl rfl) ?_
  refine xj_iconst (v := 0) D_Wk_reachedAsIs_11 rfl ?_
  refine xj_iconst (v := (-1)) D_Wk_reachedAsIs_12 rfl ?_
  refine xj_V2 D_Wk_reachedAsIs_13 L_Wk_175 C_Tu_byTurns Z_Tu_byTurns (zl_fo (g4).1 rfl) (Nat.le_of_ble_eq_true rfl) (Nat.le_of_eq (Nat.sub_add_cancel (by omega))) (w_Tu_byTurns (by omega) (okx_mono (okx_bd h) ?_))
  intro r5 s6 h
  show Xw _ _ _ _ 16 _ [_] _ _
  refine xi_istore_n (ls' := [_, _]) D_Wk_reachedAsIs_16 rfl (by decide) ?_
  refine xi_iload_n D_Wk_reachedAsIs_17 rfl ?_
  refine xj_iconst (v := (-1)) D_Wk_reachedAsIs_18 rfl ?_
  refine xi_icmp_ne D_Wk_reachedAsIs_19 (fun c7 => ?_) (fun c7 => ?_)
  · have h := okx_F c7 h
    refine xi_aload_n D_Wk_reachedAsIs_27 rfl ?_
    obtain ⟨g8, h⟩ := okx_ck h
    refine xi_getR D_Wk_reachedAsIs_28 F_Wk_20 (zl_fo (g8).1 rfl) ⟨rfl, by decide⟩ (zl_gr (g8).2 rfl rfl) ?_
    refine xi_iload_n D_Wk_reachedAsIs_31 rfl ?_
    refine xj_V1 D_Wk_reachedAsIs_32 L_Wk_181 C_Wo_goodOf Z_Wo_goodOf (zl_fo (g8).1 rfl) (Nat.le_of_ble_eq_true rfl) (Nat.le_of_eq (Nat.sub_add_cancel (by omega))) (w_Wo_goodOf (by omega) (okx_mono (okx_bd h) ?_))
    intro r9 s10 h
    show Xw _ _ _ _ 35 _ [_] _ _
    exact xi_ireturn D_Wk_reachedAsIs_35 rfl (rfl) (okx_I h)
  · have h := okx_T c7 h
    refine xi_ldc D_Wk_reachedAsIs_22 K_Wk_195 ?_
    refine xi_goto D_Wk_reachedAsIs_24 ?_
    exact xi_ireturn D_Wk_reachedAsIs_35 rfl (rfl) (okx_I h)
noncomputable def f_Wk_gap_b41  (s : Sg) : Option (Int32 × Sg) :=
  some ((-1), s)
theorem w_Wk_gap_b41 {s : Sg} {d : Nat} {Q : Option (Option Value) → Sg → Prop} (hd : 8 ≤ d) (h : okx (zq_I Q) (f_Wk_gap_b41  s)) : Xw d M_Wk_gap 0 0 41 [.retAddr 0, .retAddr 0, .retAddr 0, .retAddr 0] [] s Q := by
  unfold f_Wk_gap_b41 at h
  refine xj_iconst (v := (-1)) D_Wk_gap_41 rfl ?_
  refine xi_goto D_Wk_gap_42 ?_
  exact xi_ireturn D_Wk_gap_53 rfl (rfl) (okx_I h)
noncomputable def f_Wk_gap  (s : Sg) : Option (Int32 × Sg) :=
  f_ck (zl_B s) <|
  f_bd (f_Wk_plainCount  s) fun r2 s3 =>
  if r2 = 0 then
    some ((-1), s3)
  else
    f_ck (zl_B s3) <|
    f_bd (f_Wk_fillPlain 0 (r2 - 1) s3) fun r6 s7 =>
    f_ck (zl_B s7) <|
    f_bd (f_Wk_firstPlain r2 s7) fun r9 s10 =>
    f_ck (zl_B s10) <|
    f_bd (f_Wk_reachedAsIs  s10) fun r12 s13 =>
    if r9 = (-1) then
      f_Wk_gap_b41   s13
    else
      if r12 = (-1073741824) then
        f_Wk_gap_b41   s13
      else
        f_ck (zl_B s13) <|
        f_ck (vp_in r9 216) <|
        some (((mI s13 45 (Int32.toNatClampNeg r9)) - r12), s13)
theorem w_Wk_gap {s : Sg} {d : Nat} {Q : Option (Option Value) → Sg → Prop} (hd : 8 ≤ d) (h : okx (zq_I Q) (f_Wk_gap  s)) : Cw d M_Wk_gap [.ref 4] s Q := by
  refine Cw.of (by decide +kernel) (Nat.le_of_ble_eq_true rfl) ?_
  show Xw d M_Wk_gap 0 0 0 [.ref 4, .retAddr 0, .retAddr 0, .retAddr 0] [] s _
  unfold f_Wk_gap at h
  refine xi_aload_n D_Wk_gap_0 rfl ?_
  obtain ⟨g1, h⟩ := okx_ck h
  refine xj_V0 D_Wk_gap_1 L_Wk_188 C_Wk_plainCount Z_Wk_plainCount (zl_fo (g1).1 rfl) (Nat.le_of_ble_eq_true rfl) (Nat.le_of_eq (Nat.sub_add_cancel (by omega))) (w_Wk_plainCount (by omega) (okx_mono (okx_bd h) ?_))
  intro r2 s3 h
  show Xw _ _ _ _ 4 _ [_] _ _
  refine xi_istore_n (ls' := [_, _, _, _]) D_Wk_gap_4 rfl (by decide) ?_
  refine xi_iload_n D_Wk_gap_5 rfl ?_
  refine xi_if_ne D_Wk_gap_6 (fun c4 => ?_) (fun c4 => ?_)
  · have h := okx_F c4 h
    refine xi_aload_n D_Wk_gap_11 rfl ?_
    refine xj_iconst (v := 0) D_Wk_gap_12 rfl ?_
    refine xi_iload_n D_Wk_gap_13 rfl ?_
    refine xj_iconst (v := 1) D_Wk_gap_14 rfl ?_
    refine xi_isub D_Wk_gap_15 ?_
    obtain ⟨g5, h⟩ := okx_ck h
    refine xj_V2 D_Wk_gap_16 L_Wk_191 C_Wk_fillPlain Z_Wk_fillPlain (zl_fo (g5).1 rfl) (Nat.le_of_ble_eq_true rfl) (Nat.le_of_eq (Nat.sub_add_cancel (by omega))) (w_Wk_fillPlain (by omega) (okx_mono (okx_bd h) ?_))
    intro r6 s7 h
    show Xw _ _ _ _ 19 _ [] _ _
    refine xi_aload_n D_Wk_gap_19 rfl ?_
    refine xi_iload_n D_Wk_gap_20 rfl ?_
    obtain ⟨g8, h⟩ := okx_ck h
    refine xj_V1 D_Wk_gap_21 L_Wk_199 C_Wk_firstPlain Z_Wk_firstPlain (zl_fo (g8).1 rfl) (Nat.le_of_ble_eq_true rfl) (Nat.le_of_eq (Nat.sub_add_cancel (by omega))) (w_Wk_firstPlain (by omega) (okx_mono (okx_bd h) ?_))
    intro r9 s10 h
    show Xw _ _ _ _ 24 _ [_] _ _
    refine xi_istore_n (ls' := [_, _, _, _]) D_Wk_gap_24 rfl (by decide) ?_
    refine xi_aload_n D_Wk_gap_25 rfl ?_
    obtain ⟨g11, h⟩ := okx_ck h
    refine xj_V0 D_Wk_gap_26 L_Wk_202 C_Wk_reachedAsIs Z_Wk_reachedAsIs (zl_fo (g11).1 rfl) (Nat.le_of_ble_eq_true rfl) (Nat.le_of_eq (Nat.sub_add_cancel (by omega))) (w_Wk_reachedAsIs (by omega) (okx_mono (okx_bd h) ?_))
    intro r12 s13 h
    show Xw _ _ _ _ 29 _ [_] _ _
    refine xi_istore_n (ls' := [_, _, _, _]) D_Wk_gap_29 rfl (by decide) ?_
    refine xi_iload_n D_Wk_gap_30 rfl ?_
    refine xj_iconst (v := (-1)) D_Wk_gap_31 rfl ?_
    refine xi_icmp_eq D_Wk_gap_32 (fun c14 => ?_) (fun c14 => ?_)
    · have h := okx_T c14 h
      exact xk_wk (w_Wk_gap_b41 (by omega)  h) ⟨Or.inr rfl, Or.inr rfl, Or.inr rfl, Or.inr rfl, trivial⟩
    · have h := okx_F c14 h
      refine xi_iload_n D_Wk_gap_35 rfl ?_
      refine xi_ldc D_Wk_gap_36 K_Wk_195 ?_
      refine xi_icmp_ne D_Wk_gap_38 (fun c15 => ?_) (fun c15 => ?_)
      · have h := okx_F c15 h
        refine xi_aload_n D_Wk_gap_45 rfl ?_
        obtain ⟨g16, h⟩ := okx_ck h
        refine xi_getR D_Wk_gap_46 F_Wk_45 (zl_fo (g16).1 rfl) ⟨rfl, by decide⟩ (zl_gr (g16).2 rfl rfl) ?_
        refine xi_iload_n D_Wk_gap_49 rfl ?_
        obtain ⟨g17, h⟩ := okx_ck h
        refine xj_iald D_Wk_gap_50 (zl_fx (g16).1 rfl) (zl_ib (n := 216) rfl (g17)) ?_
        refine xi_iload_n D_Wk_gap_51 rfl ?_
        refine xi_isub D_Wk_gap_52 ?_
        exact xi_ireturn D_Wk_gap_53 rfl (rfl) (okx_I h)
      · have h := okx_T c15 h
        exact xk_wk (w_Wk_gap_b41 (by omega)  h) ⟨Or.inr rfl, Or.inr rfl, Or.inr rfl, Or.inr rfl, trivial⟩
  · have h := okx_T c4 h
    refine xj_iconst (v := (-1)) D_Wk_gap_9 rfl ?_
    exact xi_ireturn D_Wk_gap_10 rfl (rfl) (okx_I h)
noncomputable def f_Wk_good (x1 : Int32) (s : Sg) : Option ((Option Int32) × Sg) :=
  f_ck (zl_B s) <|
  f_bd (f_Wk_isNobody  s) fun r2 s3 =>
  if r2 = 0 then
    f_ck (zl_B s3) <|
    f_bd (f_Wk_isPains x1 s3) fun r6 s7 =>
    if r6 = 0 then
      some (none, s7)
    else
      f_ck (zl_B s7) <|
      f_bd (f_Wo_goodOf x1 s7) fun r10 s11 =>
      some ((some r10), s11)
  else
    some (none, s3)
theorem w_Wk_good {x1 : Int32} {s : Sg} {d : Nat} {Q : Option (Option Value) → Sg → Prop} (hd : 9 ≤ d) (h : okx (zq_TI Q) (f_Wk_good x1 s)) : Cw d M_Wk_good [.ref 4, .int x1] s Q := by
  refine Cw.of (by decide +kernel) (Nat.le_of_ble_eq_true rfl) ?_
  show Xw d M_Wk_good 1 6 0 [.ref 4, .int x1] [] s _
  unfold f_Wk_good at h
  refine xi_aload_n D_Wk_good_0 rfl ?_
  obtain ⟨g1, h⟩ := okx_ck h
  refine xj_V0 D_Wk_good_1 L_Wk_168 C_Wk_isNobody Z_Wk_isNobody (zl_fo (g1).1 rfl) (Nat.le_of_ble_eq_true rfl) (Nat.le_of_eq (Nat.sub_add_cancel (by omega))) (w_Wk_isNobody (by omega) (okx_mono (okx_bd h) ?_))
  intro r2 s3 h
  show Xw _ _ _ _ 4 _ [_] _ _
  refine xi_if_ne D_Wk_good_4 (fun c4 => ?_) (fun c4 => ?_)
  · have h := okx_F c4 h
    exact xi_throw ⟨rfl, rfl, D_Wk_good_15.1, D_Wk_good_18.1, D_Wk_good_19.1, D_Wk_good_22.1⟩ (by omega) (by decide) (okx_NTI h)
  · have h := okx_T c4 h
    refine xi_aload_n D_Wk_good_7 rfl ?_
    refine xi_iload_n D_Wk_good_8 rfl ?_
    obtain ⟨g5, h⟩ := okx_ck h
    refine xj_V1 D_Wk_good_9 L_Wk_87 C_Wk_isPains Z_Wk_isPains (zl_fo (g5).1 rfl) (Nat.le_of_ble_eq_true rfl) (Nat.le_of_eq (Nat.sub_add_cancel (by omega))) (w_Wk_isPains (by omega) (okx_mono (okx_bd h) ?_))
    intro r6 s7 h
    show Xw _ _ _ _ 12 _ [_] _ _
    refine xi_if_ne D_Wk_good_12 (fun c8 => ?_) (fun c8 => ?_)
    · have h := okx_F c8 h
      refine xi_aload_n D_Wk_good_23 rfl ?_
      obtain ⟨g9, h⟩ := okx_ck h
      refine xi_getR D_Wk_good_24 F_Wk_20 (zl_fo (g9).1 rfl) ⟨rfl, by decide⟩ (zl_gr (g9).2 rfl rfl) ?_
      refine xi_iload_n D_Wk_good_27 rfl ?_
      refine xj_V1 D_Wk_good_28 L_Wk_181 C_Wo_goodOf Z_Wo_goodOf (zl_fo (g9).1 rfl) (Nat.le_of_ble_eq_true rfl) (Nat.le_of_eq (Nat.sub_add_cancel (by omega))) (w_Wo_goodOf (by omega) (okx_mono (okx_bd h) ?_))
      intro r10 s11 h
      show Xw _ _ _ _ 31 _ [_] _ _
      exact xi_ireturn D_Wk_good_31 rfl (rfl) (okx_TI h)
    · have h := okx_T c8 h
      exact xi_throw ⟨rfl, rfl, D_Wk_good_15.1, D_Wk_good_18.1, D_Wk_good_19.1, D_Wk_good_22.1⟩ (by omega) (by decide) (okx_NTI h)
noncomputable def f_Wk_hands_b42 (x1 : Int32) (s : Sg) : Option (Int32 × Sg) :=
  f_ck (zl_B s) <|
  f_bd (f_To_all 7 s) fun r9 s10 =>
  some ((r9 &&& (x1 ^^^ (-1))), s10)
theorem w_Wk_hands_b42 {x1 : Int32} {s : Sg} {d : Nat} {Q : Option (Option Value) → Sg → Prop} (hd : 2 ≤ d) (h : okx (zq_I Q) (f_Wk_hands_b42 x1 s)) : Xw d M_Wk_hands 0 0 42 [.ref 4, .int x1, .retAddr 0] [] s Q := by
  unfold f_Wk_hands_b42 at h
  refine xi_aload_n D_Wk_hands_42 rfl ?_
  obtain ⟨g8, h⟩ := okx_ck h
  refine xi_getR D_Wk_hands_43 F_Wk_27 (zl_fo (g8).1 rfl) ⟨rfl, by decide⟩ (zl_gr (g8).2 rfl rfl) ?_
  refine xj_V0 D_Wk_hands_46 L_Wk_233 C_To_all Z_To_all (zl_fo (g8).1 rfl) (Nat.le_of_ble_eq_true rfl) (Nat.le_of_eq (Nat.sub_add_cancel (by omega))) (w_To_all (by omega) (okx_mono (okx_bd h) ?_))
  intro r9 s10 h
  show Xw _ _ _ _ 49 _ [_] _ _
  refine xi_iload_n D_Wk_hands_49 rfl ?_
  refine xj_iconst (v := (-1)) D_Wk_hands_50 rfl ?_
  refine xi_ixor D_Wk_hands_51 ?_
  refine xi_iand D_Wk_hands_52 ?_
  exact xi_ireturn D_Wk_hands_53 rfl (rfl) (okx_I h)
noncomputable def f_Wk_hands_b13 (R13 : Int32 → Int32 → Sg → Option (Int32 × Sg)) (x1 : Int32) (x2 : Int32) (s : Sg) : Option (Int32 × Sg) :=
  f_ck (zl_B s) <|
  if (mI s 7 1) ≤ x2 then
    f_Wk_hands_b42  x1 s
  else
    f_ck (vp_in x2 3) <|
    R13 (x1 ||| (mI s 13 (Int32.toNatClampNeg x2))) (x2 + 1) s
theorem w_Wk_hands_b13 {x1 : Int32} {x2 : Int32} {s : Sg} {d : Nat} {Q : Option (Option Value) → Sg → Prop} (hd : 2 ≤ d) {R13 : Int32 → Int32 → Sg → Option (Int32 × Sg)} (hR13 : ∀ (x1 : Int32) (x2 : Int32) (s : Sg), okx (zq_I Q) (R13 x1 x2 s) → Xw d M_Wk_hands 0 0 13 [.ref 4, .int x1, .int x2] [] s Q) (h : okx (zq_I Q) (f_Wk_hands_b13 R13 x1 x2 s)) : Xw d M_Wk_hands 0 0 13 [.ref 4, .int x1, .int x2] [] s Q := by
  unfold f_Wk_hands_b13 at h
  refine xi_iload_n D_Wk_hands_13 rfl ?_
  refine xi_aload_n D_Wk_hands_14 rfl ?_
  obtain ⟨g5, h⟩ := okx_ck h
  refine xi_getR D_Wk_hands_15 F_Wk_27 (zl_fo (g5).1 rfl) ⟨rfl, by decide⟩ (zl_gr (g5).2 rfl rfl) ?_
  refine xi_getI D_Wk_hands_18 F_Wk_84 (zl_fo (g5).1 rfl) ⟨rfl, by decide⟩ ?_
  refine xi_icmp_ge D_Wk_hands_21 (fun c6 => ?_) (fun c6 => ?_)
  · have h := okx_T c6 h
    exact xk_wk (w_Wk_hands_b42 (by omega)  h) ⟨Or.inl rfl, Or.inl rfl, Or.inr rfl, trivial⟩
  · have h := okx_F c6 h
    refine xi_iload_n D_Wk_hands_24 rfl ?_
    refine xi_aload_n D_Wk_hands_25 rfl ?_
    refine xi_getR D_Wk_hands_26 F_Wk_27 (zl_fo (g5).1 rfl) ⟨rfl, by decide⟩ (zl_gr (g5).2 rfl rfl) ?_
    refine xi_getR D_Wk_hands_29 F_Wk_102 (zl_fo (g5).1 rfl) ⟨rfl, by decide⟩ (zl_gr (g5).2 rfl rfl) ?_
    refine xi_iload_n D_Wk_hands_32 rfl ?_
    obtain ⟨g7, h⟩ := okx_ck h
    refine xj_iald D_Wk_hands_33 (zl_fx (g5).1 rfl) (zl_ib (n := 3) rfl (g7)) ?_
    refine xi_ior D_Wk_hands_34 ?_
    refine xi_istore_n (ls' := [_, _, _]) D_Wk_hands_35 rfl (by decide) ?_
    refine xi_iinc (v := _ + 1) (ls' := [_, _, _]) D_Wk_hands_36 rfl rfl rfl (by decide) ?_
    refine xi_goto D_Wk_hands_39 ?_
    exact hR13 _ _ _ h
noncomputable def f_Wk_hands_h13 : Nat → Int32 → Int32 → Sg → Option (Int32 × Sg)
  | 0, _, _, _ => none
  | n + 1, x1, x2, s => f_Wk_hands_b13 (f_Wk_hands_h13 n) x1 x2 s
theorem w_Wk_hands_h13 {d : Nat} {Q : Option (Option Value) → Sg → Prop} (hd : 2 ≤ d) : ∀ (n : Nat) (x1 : Int32) (x2 : Int32) (s : Sg), okx (zq_I Q) (f_Wk_hands_h13 n x1 x2 s) → Xw d M_Wk_hands 0 0 13 [.ref 4, .int x1, .int x2] [] s Q := by
  intro n
  induction n with
  | zero => intro x1 x2 s h; exact okx_no h
  | succ n ih => intro x1 x2 s h; exact w_Wk_hands_b13 hd  ih  h
noncomputable def f_Wk_hands  (s : Sg) : Option (Int32 × Sg) :=
  f_ck (zl_B s) <|
  f_bd (f_Wk_isNobody  s) fun r2 s3 =>
  if r2 = 0 then
    f_Wk_hands_h13  zl_fl 0 0 s3
  else
    some ((-1), s3)
theorem w_Wk_hands {s : Sg} {d : Nat} {Q : Option (Option Value) → Sg → Prop} (hd : 2 ≤ d) (h : okx (zq_I Q) (f_Wk_hands  s)) : Cw d M_Wk_hands [.ref 4] s Q := by
  refine Cw.of (by decide +kernel) (Nat.le_of_ble_eq_true rfl) ?_
  show Xw d M_Wk_hands 0 0 0 [.ref 4, .retAddr 0, .retAddr 0] [] s _
  unfold f_Wk_hands at h
  refine xi_aload_n D_Wk_hands_0 rfl ?_
  obtain ⟨g1, h⟩ := okx_ck h
  refine xj_V0 D_Wk_hands_1 L_Wk_168 C_Wk_isNobody Z_Wk_isNobody (zl_fo (g1).1 rfl) (Nat.le_of_ble_eq_true rfl) (Nat.le_of_eq (Nat.sub_add_cancel (by omega))) (w_Wk_isNobody (by omega) (okx_mono (okx_bd h) ?_))
  intro r2 s3 h
  show Xw _ _ _ _ 4 _ [_] _ _
  refine xi_if_eq D_Wk_hands_4 (fun c4 => ?_) (fun c4 => ?_)
  · have h := okx_T c4 h
    refine xj_iconst (v := 0) D_Wk_hands_9 rfl ?_
    refine xi_istore_n (ls' := [_, _, _]) D_Wk_hands_10 rfl (by decide) ?_
    refine xj_iconst (v := 0) D_Wk_hands_11 rfl ?_
    refine xi_istore_n (ls' := [_, _, _]) D_Wk_hands_12 rfl (by decide) ?_
    exact w_Wk_hands_h13 (by omega)  _ _ _ _ h
  · have h := okx_F c4 h
    refine xj_iconst (v := (-1)) D_Wk_hands_7 rfl ?_
    exact xi_ireturn D_Wk_hands_8 rfl (rfl) (okx_I h)
noncomputable def f_Wk_thingsOf_b53 (R4 : Int32 → Int32 → Int32 → Sg → Option (Int32 × Sg)) (x1 : Int32) (x2 : Int32) (x3 : Int32) (s : Sg) : Option (Int32 × Sg) :=
  R4 x1 x2 (x3 + 1) s
theorem w_Wk_thingsOf_b53 {x1 : Int32} {x2 : Int32} {x3 : Int32} {s : Sg} {d : Nat} {Q : Option (Option Value) → Sg → Prop} (hd : 3 ≤ d) {R4 : Int32 → Int32 → Int32 → Sg → Option (Int32 × Sg)} (hR4 : ∀ (x1 : Int32) (x2 : Int32) (x3 : Int32) (s : Sg), okx (zq_I Q) (R4 x1 x2 x3 s) → Xw d M_Wk_thingsOf 0 0 4 [.ref 4, .int x1, .int x2, .int x3] [] s Q) (h : okx (zq_I Q) (f_Wk_thingsOf_b53 R4 x1 x2 x3 s)) : Xw d M_Wk_thingsOf 0 0 53 [.ref 4, .int x1, .int x2, .int x3] [] s Q := by
  unfold f_Wk_thingsOf_b53 at h
  refine xi_iinc (v := _ + 1) (ls' := [_, _, _, _]) D_Wk_thingsOf_53 rfl rfl rfl (by decide) ?_
  refine xi_goto D_Wk_thingsOf_56 ?_
  exact hR4 _ _ _ _ h
noncomputable def f_Wk_thingsOf_b4 (R4 : Int32 → Int32 → Int32 → Sg → Option (Int32 × Sg)) (x1 : Int32) (x2 : Int32) (x3 : Int32) (s : Sg) : Option (Int32 × Sg) :=
  f_ck (zl_B s) <|
  if (mI s 7 1) ≤ x3 then
    some (x2, s)
  else
    f_ck (vp_in x3 3) <|
    f_ck (vp_in x3 3) <|
    f_bd (f_To_all 7 s) fun r5 s6 =>
    f_bd (f_Ow_holds x1 (mI s 13 (Int32.toNatClampNeg x3)) (mI s 14 (Int32.toNatClampNeg x3)) r5 s6) fun r7 s8 =>
    if r7 = 0 then
      f_Wk_thingsOf_b53 R4 x1 x2 x3 s8
    else
      f_Wk_thingsOf_b53 R4 x1 (x2 ||| ((1 : Int32) <<< (x3 &&& 31))) x3 s8
theorem w_Wk_thingsOf_b4 {x1 : Int32} {x2 : Int32} {x3 : Int32} {s : Sg} {d : Nat} {Q : Option (Option Value) → Sg → Prop} (hd : 3 ≤ d) {R4 : Int32 → Int32 → Int32 → Sg → Option (Int32 × Sg)} (hR4 : ∀ (x1 : Int32) (x2 : Int32) (x3 : Int32) (s : Sg), okx (zq_I Q) (R4 x1 x2 x3 s) → Xw d M_Wk_thingsOf 0 0 4 [.ref 4, .int x1, .int x2, .int x3] [] s Q) (h : okx (zq_I Q) (f_Wk_thingsOf_b4 R4 x1 x2 x3 s)) : Xw d M_Wk_thingsOf 0 0 4 [.ref 4, .int x1, .int x2, .int x3] [] s Q := by
  unfold f_Wk_thingsOf_b4 at h
  refine xi_iload_n D_Wk_thingsOf_4 rfl ?_
  refine xi_aload_n D_Wk_thingsOf_5 rfl ?_
  obtain ⟨g1, h⟩ := okx_ck h
  refine xi_getR D_Wk_thingsOf_6 F_Wk_27 (zl_fo (g1).1 rfl) ⟨rfl, by decide⟩ (zl_gr (g1).2 rfl rfl) ?_
  refine xi_getI D_Wk_thingsOf_9 F_Wk_84 (zl_fo (g1).1 rfl) ⟨rfl, by decide⟩ ?_
  refine xi_icmp_ge D_Wk_thingsOf_12 (fun c2 => ?_) (fun c2 => ?_)
  · have h := okx_T c2 h
    refine xi_iload_n D_Wk_thingsOf_59 rfl ?_
    exact xi_ireturn D_Wk_thingsOf_60 rfl (rfl) (okx_I h)
  · have h := okx_F c2 h
    refine xi_iload_n D_Wk_thingsOf_15 rfl ?_
    refine xi_aload_n D_Wk_thingsOf_16 rfl ?_
    refine xi_getR D_Wk_thingsOf_17 F_Wk_27 (zl_fo (g1).1 rfl) ⟨rfl, by decide⟩ (zl_gr (g1).2 rfl rfl) ?_
    refine xi_getR D_Wk_thingsOf_20 F_Wk_102 (zl_fo (g1).1 rfl) ⟨rfl, by decide⟩ (zl_gr (g1).2 rfl rfl) ?_
    refine xi_iload_n D_Wk_thingsOf_23 rfl ?_
    obtain ⟨g3, h⟩ := okx_ck h
    refine xj_iald D_Wk_thingsOf_24 (zl_fx (g1).1 rfl) (zl_ib (n := 3) rfl (g3)) ?_
    refine xi_aload_n D_Wk_thingsOf_25 rfl ?_
    refine xi_getR D_Wk_thingsOf_26 F_Wk_27 (zl_fo (g1).1 rfl) ⟨rfl, by decide⟩ (zl_gr (g1).2 rfl rfl) ?_
    refine xi_getR D_Wk_thingsOf_29 F_Wk_105 (zl_fo (g1).1 rfl) ⟨rfl, by decide⟩ (zl_gr (g1).2 rfl rfl) ?_
    refine xi_iload_n D_Wk_thingsOf_32 rfl ?_
    obtain ⟨g4, h⟩ := okx_ck h
    refine xj_iald D_Wk_thingsOf_33 (zl_fx (g1).1 rfl) (zl_ib (n := 3) rfl (g4)) ?_
    refine xi_aload_n D_Wk_thingsOf_34 rfl ?_
    refine xi_getR D_Wk_thingsOf_35 F_Wk_27 (zl_fo (g1).1 rfl) ⟨rfl, by decide⟩ (zl_gr (g1).2 rfl rfl) ?_
    refine xj_V0 D_Wk_thingsOf_38 L_Wk_233 C_To_all Z_To_all (zl_fo (g1).1 rfl) (Nat.le_of_ble_eq_true rfl) (Nat.le_of_eq (Nat.sub_add_cancel (by omega))) (w_To_all (by omega) (okx_mono (okx_bd h) ?_))
    intro r5 s6 h
    show Xw _ _ _ _ 41 _ [_, _, _, _] _ _
    refine xj_S4 D_Wk_thingsOf_41 L_Wk_253 C_Ow_holds Z_Ow_holds (Nat.le_of_ble_eq_true rfl) (Nat.le_of_eq (Nat.sub_add_cancel (by omega))) (w_Ow_holds (by omega) (okx_mono (okx_bd h) ?_))
    intro r7 s8 h
    show Xw _ _ _ _ 44 _ [_] _ _
    refine xi_if_eq D_Wk_thingsOf_44 (fun c9 => ?_) (fun c9 => ?_)
    · have h := okx_T c9 h
      exact w_Wk_thingsOf_b53 (by omega) hR4 h
    · have h := okx_F c9 h
      refine xi_iload_n D_Wk_thingsOf_47 rfl ?_
      refine xj_iconst (v := 1) D_Wk_thingsOf_48 rfl ?_
      refine xi_iload_n D_Wk_thingsOf_49 rfl ?_
      refine xi_ishl D_Wk_thingsOf_50 ?_
      refine xi_ior D_Wk_thingsOf_51 ?_
      refine xi_istore_n (ls' := [_, _, _, _]) D_Wk_thingsOf_52 rfl (by decide) ?_
      exact w_Wk_thingsOf_b53 (by omega) hR4 h
noncomputable def f_Wk_thingsOf_h4 : Nat → Int32 → Int32 → Int32 → Sg → Option (Int32 × Sg)
  | 0, _, _, _, _ => none
  | n + 1, x1, x2, x3, s => f_Wk_thingsOf_b4 (f_Wk_thingsOf_h4 n) x1 x2 x3 s
theorem w_Wk_thingsOf_h4 {d : Nat} {Q : Option (Option Value) → Sg → Prop} (hd : 3 ≤ d) : ∀ (n : Nat) (x1 : Int32) (x2 : Int32) (x3 : Int32) (s : Sg), okx (zq_I Q) (f_Wk_thingsOf_h4 n x1 x2 x3 s) → Xw d M_Wk_thingsOf 0 0 4 [.ref 4, .int x1, .int x2, .int x3] [] s Q := by
  intro n
  induction n with
  | zero => intro x1 x2 x3 s h; exact okx_no h
  | succ n ih => intro x1 x2 x3 s h; exact w_Wk_thingsOf_b4 hd  ih  h
noncomputable def f_Wk_thingsOf (x1 : Int32) (s : Sg) : Option (Int32 × Sg) :=
  f_Wk_thingsOf_h4  zl_fl x1 0 0 s
theorem w_Wk_thingsOf {x1 : Int32} {s : Sg} {d : Nat} {Q : Option (Option Value) → Sg → Prop} (hd : 3 ≤ d) (h : okx (zq_I Q) (f_Wk_thingsOf x1 s)) : Cw d M_Wk_thingsOf [.ref 4, .int x1] s Q := by
  refine Cw.of (by decide +kernel) (Nat.le_of_ble_eq_true rfl) ?_
  show Xw d M_Wk_thingsOf 0 0 0 [.ref 4, .int x1, .retAddr 0, .retAddr 0] [] s _
  unfold f_Wk_thingsOf at h
  refine xj_iconst (v := 0) D_Wk_thingsOf_0 rfl ?_
  refine xi_istore_n (ls' := [_, _, _, _]) D_Wk_thingsOf_1 rfl (by decide) ?_
  refine xj_iconst (v := 0) D_Wk_thingsOf_2 rfl ?_
  refine xi_istore_n (ls' := [_, _, _, _]) D_Wk_thingsOf_3 rfl (by decide) ?_
  exact w_Wk_thingsOf_h4 (by omega)  _ _ _ _ _ h
noncomputable def f_Wk_has (x1 : Int32) (s : Sg) : Option (Int32 × Sg) :=
  f_ck (zl_B s) <|
  f_bd (f_Wk_isSet x1 (mI s 7 0) s) fun r2 s3 =>
  if r2 = 0 then
    some ((-1), s3)
  else
    f_ck (zl_B s3) <|
    f_bd (f_Wk_thingsOf x1 s3) fun r6 s7 =>
    some (r6, s7)
theorem w_Wk_has {x1 : Int32} {s : Sg} {d : Nat} {Q : Option (Option Value) → Sg → Prop} (hd : 4 ≤ d) (h : okx (zq_I Q) (f_Wk_has x1 s)) : Cw d M_Wk_has [.ref 4, .int x1] s Q := by
  refine Cw.of (by decide +kernel) (Nat.le_of_ble_eq_true rfl) ?_
  show Xw d M_Wk_has 0 0 0 [.ref 4, .int x1] [] s _
  unfold f_Wk_has at h
  refine xi_iload_n D_Wk_has_0 rfl ?_
  refine xi_aload_n D_Wk_has_1 rfl ?_
  obtain ⟨g1, h⟩ := okx_ck h
  refine xi_getR D_Wk_has_2 F_Wk_27 (zl_fo (g1).1 rfl) ⟨rfl, by decide⟩ (zl_gr (g1).2 rfl rfl) ?_
  refine xi_getI D_Wk_has_5 F_Wk_78 (zl_fo (g1).1 rfl) ⟨rfl, by decide⟩ ?_
  refine xj_S2 D_Wk_has_8 L_Wk_81 C_Wk_isSet Z_Wk_isSet (Nat.le_of_ble_eq_true rfl) (Nat.le_of_eq (Nat.sub_add_cancel (by omega))) (w_Wk_isSet (by omega) (okx_mono (okx_bd h) ?_))
  intro r2 s3 h
  show Xw _ _ _ _ 11 _ [_] _ _
  refine xi_if_eq D_Wk_has_11 (fun c4 => ?_) (fun c4 => ?_)
  · have h := okx_T c4 h
    refine xj_iconst (v := (-1)) D_Wk_has_22 rfl ?_
    exact xi_ireturn D_Wk_has_23 rfl (rfl) (okx_I h)
  · have h := okx_F c4 h
    refine xi_aload_n D_Wk_has_14 rfl ?_
    refine xi_iload_n D_Wk_has_15 rfl ?_
    obtain ⟨g5, h⟩ := okx_ck h
    refine xj_V1 D_Wk_has_16 L_Wk_123 C_Wk_thingsOf Z_Wk_thingsOf (zl_fo (g5).1 rfl) (Nat.le_of_ble_eq_true rfl) (Nat.le_of_eq (Nat.sub_add_cancel (by omega))) (w_Wk_thingsOf (by omega) (okx_mono (okx_bd h) ?_))
    intro r6 s7 h
    show Xw _ _ _ _ 19 _ [_] _ _
    refine xi_goto D_Wk_has_19 ?_
    exact xi_ireturn D_Wk_has_23 rfl (rfl) (okx_I h)
noncomputable def f_Wk_isRest (x1 : Int32) (s : Sg) : Option (Int32 × Sg) :=
  f_ck (zl_B s) <|
  f_bd (f_Wk_isNobody  s) fun r2 s3 =>
  if r2 = 0 then
    f_ck (zl_B s3) <|
    f_bd (f_Wk_isPains x1 s3) fun r6 s7 =>
    if r6 = 0 then
      some ((-1), s7)
    else
      f_ck (zl_B s7) <|
      f_bd (f_Tu_lookAsIs  s7) fun r10 s11 =>
      f_ck (zl_B s11) <|
      f_bd (f_Tu_isSettled x1 s11) fun r13 s14 =>
      if r13 = 0 then
        some (0, s14)
      else
        some (1, s14)
  else
    some ((-1), s3)
theorem w_Wk_isRest {x1 : Int32} {s : Sg} {d : Nat} {Q : Option (Option Value) → Sg → Prop} (hd : 7 ≤ d) (h : okx (zq_I Q) (f_Wk_isRest x1 s)) : Cw d M_Wk_isRest [.ref 4, .int x1] s Q := by
  refine Cw.of (by decide +kernel) (Nat.le_of_ble_eq_true rfl) ?_
  show Xw d M_Wk_isRest 0 0 0 [.ref 4, .int x1] [] s _
  unfold f_Wk_isRest at h
  refine xi_aload_n D_Wk_isRest_0 rfl ?_
  obtain ⟨g1, h⟩ := okx_ck h
  refine xj_V0 D_Wk_isRest_1 L_Wk_168 C_Wk_isNobody Z_Wk_isNobody (zl_fo (g1).1 rfl) (Nat.le_of_ble_eq_true rfl) (Nat.le_of_eq (Nat.sub_add_cancel (by omega))) (w_Wk_isNobody (by omega) (okx_mono (okx_bd h) ?_))
  intro r2 s3 h
  show Xw _ _ _ _ 4 _ [_] _ _
  refine xi_if_ne D_Wk_isRest_4 (fun c4 => ?_) (fun c4 => ?_)
  · have h := okx_F c4 h
    refine xj_iconst (v := (-1)) D_Wk_isRest_15 rfl ?_
    exact xi_ireturn D_Wk_isRest_16 rfl (rfl) (okx_I h)
  · have h := okx_T c4 h
    refine xi_aload_n D_Wk_isRest_7 rfl ?_
    refine xi_iload_n D_Wk_isRest_8 rfl ?_
    obtain ⟨g5, h⟩ := okx_ck h
    refine xj_V1 D_Wk_isRest_9 L_Wk_87 C_Wk_isPains Z_Wk_isPains (zl_fo (g5).1 rfl) (Nat.le_of_ble_eq_true rfl) (Nat.le_of_eq (Nat.sub_add_cancel (by omega))) (w_Wk_isPains (by omega) (okx_mono (okx_bd h) ?_))
    intro r6 s7 h
    show Xw _ _ _ _ 12 _ [_] _ _
    refine xi_if_ne D_Wk_isRest_12 (fun c8 => ?_) (fun c8 => ?_)
    · have h := okx_F c8 h
      refine xi_aload_n D_Wk_isRest_17 rfl ?_
      obtain ⟨g9, h⟩ := okx_ck h
      refine xi_getR D_Wk_isRest_18 F_Wk_12 (zl_fo (g9).1 rfl) ⟨rfl, by decide⟩ (zl_gr (g9).2 rfl rfl) ?_
      refine xj_V0 D_Wk_isRest_21 L_Wk_140 C_Tu_lookAsIs Z_Tu_lookAsIs (zl_fo (g9).1 rfl) (Nat.le_of_ble_eq_true rfl) (Nat.le_of_eq (Nat.sub_add_cancel (by omega))) (w_Tu_lookAsIs (by omega) (okx_mono (okx_bd h) ?_))
      intro r10 s11 h
      show Xw _ _ _ _ 24 _ [] _ _
      refine xi_aload_n D_Wk_isRest_24 rfl ?_
      obtain ⟨g12, h⟩ := okx_ck h
      refine xi_getR D_Wk_isRest_25 F_Wk_12 (zl_fo (g12).1 rfl) ⟨rfl, by decide⟩ (zl_gr (g12).2 rfl rfl) ?_
      refine xi_iload_n D_Wk_isRest_28 rfl ?_
      refine xj_V1 D_Wk_isRest_29 L_Wk_172 C_Tu_isSettled Z_Tu_isSettled (zl_fo (g12).1 rfl) (Nat.le_of_ble_eq_true rfl) (Nat.le_of_eq (Nat.sub_add_cancel (by omega))) (w_Tu_isSettled (by omega) (okx_mono (okx_bd h) ?_))
      intro r13 s14 h
      show Xw _ _ _ _ 32 _ [_] _ _
      refine xi_if_eq D_Wk_isRest_32 (fun c15 => ?_) (fun c15 => ?_)
      · have h := okx_T c15 h
        refine xj_iconst (v := 0) D_Wk_isRest_39 rfl ?_
        exact xi_ireturn D_Wk_isRest_40 rfl (rfl) (okx_I h)
      · have h := okx_F c15 h
        refine xj_iconst (v := 1) D_Wk_isRest_35 rfl ?_
        refine xi_goto D_Wk_isRest_36 ?_
        exact xi_ireturn D_Wk_isRest_40 rfl (rfl) (okx_I h)
    · have h := okx_T c8 h
      refine xj_iconst (v := (-1)) D_Wk_isRest_15 rfl ?_
      exact xi_ireturn D_Wk_isRest_16 rfl (rfl) (okx_I h)
noncomputable def f_Wk_jointNumber_b4 (R4 : Int32 → Int32 → Sg → Option (Int32 × Sg)) (x1 : Int32) (x2 : Int32) (s : Sg) : Option (Int32 × Sg) :=
  f_ck (zl_B s) <|
  if (mI s 7 1) ≤ x2 then
    some (x1, s)
  else
    R4 ((x1 * ((mI s 7 0) + 2)) + (mI s 7 0)) (x2 + 1) s
theorem w_Wk_jointNumber_b4 {x1 : Int32} {x2 : Int32} {s : Sg} {d : Nat} {Q : Option (Option Value) → Sg → Prop} (hd : 1 ≤ d) {R4 : Int32 → Int32 → Sg → Option (Int32 × Sg)} (hR4 : ∀ (x1 : Int32) (x2 : Int32) (s : Sg), okx (zq_I Q) (R4 x1 x2 s) → Xw d M_Wk_jointNumber 0 0 4 [.ref 4, .int x1, .int x2] [] s Q) (h : okx (zq_I Q) (f_Wk_jointNumber_b4 R4 x1 x2 s)) : Xw d M_Wk_jointNumber 0 0 4 [.ref 4, .int x1, .int x2] [] s Q := by
  unfold f_Wk_jointNumber_b4 at h
  refine xi_iload_n D_Wk_jointNumber_4 rfl ?_
  refine xi_aload_n D_Wk_jointNumber_5 rfl ?_
  obtain ⟨g1, h⟩ := okx_ck h
  refine xi_getR D_Wk_jointNumber_6 F_Wk_27 (zl_fo (g1).1 rfl) ⟨rfl, by decide⟩ (zl_gr (g1).2 rfl rfl) ?_
  refine xi_getI D_Wk_jointNumber_9 F_Wk_84 (zl_fo (g1).1 rfl) ⟨rfl, by decide⟩ ?_
  refine xi_icmp_ge D_Wk_jointNumber_12 (fun c2 => ?_) (fun c2 => ?_)
  · have h := okx_T c2 h
    refine xi_iload_n D_Wk_jointNumber_41 rfl ?_
    exact xi_ireturn D_Wk_jointNumber_42 rfl (rfl) (okx_I h)
  · have h := okx_F c2 h
    refine xi_iload_n D_Wk_jointNumber_15 rfl ?_
    refine xi_aload_n D_Wk_jointNumber_16 rfl ?_
    refine xi_getR D_Wk_jointNumber_17 F_Wk_27 (zl_fo (g1).1 rfl) ⟨rfl, by decide⟩ (zl_gr (g1).2 rfl rfl) ?_
    refine xi_getI D_Wk_jointNumber_20 F_Wk_78 (zl_fo (g1).1 rfl) ⟨rfl, by decide⟩ ?_
    refine xj_iconst (v := 2) D_Wk_jointNumber_23 rfl ?_
    refine xi_iadd D_Wk_jointNumber_24 ?_
    refine xi_imul D_Wk_jointNumber_25 ?_
    refine xi_aload_n D_Wk_jointNumber_26 rfl ?_
    refine xi_getR D_Wk_jointNumber_27 F_Wk_27 (zl_fo (g1).1 rfl) ⟨rfl, by decide⟩ (zl_gr (g1).2 rfl rfl) ?_
    refine xi_getI D_Wk_jointNumber_30 F_Wk_78 (zl_fo (g1).1 rfl) ⟨rfl, by decide⟩ ?_
    refine xi_iadd D_Wk_jointNumber_33 ?_
    refine xi_istore_n (ls' := [_, _, _]) D_Wk_jointNumber_34 rfl (by decide) ?_
    refine xi_iinc (v := _ + 1) (ls' := [_, _, _]) D_Wk_jointNumber_35 rfl rfl rfl (by decide) ?_
    refine xi_goto D_Wk_jointNumber_38 ?_
    exact hR4 _ _ _ h
noncomputable def f_Wk_jointNumber_h4 : Nat → Int32 → Int32 → Sg → Option (Int32 × Sg)
  | 0, _, _, _ => none
  | n + 1, x1, x2, s => f_Wk_jointNumber_b4 (f_Wk_jointNumber_h4 n) x1 x2 s
theorem w_Wk_jointNumber_h4 {d : Nat} {Q : Option (Option Value) → Sg → Prop} (hd : 1 ≤ d) : ∀ (n : Nat) (x1 : Int32) (x2 : Int32) (s : Sg), okx (zq_I Q) (f_Wk_jointNumber_h4 n x1 x2 s) → Xw d M_Wk_jointNumber 0 0 4 [.ref 4, .int x1, .int x2] [] s Q := by
  intro n
  induction n with
  | zero => intro x1 x2 s h; exact okx_no h
  | succ n ih => intro x1 x2 s h; exact w_Wk_jointNumber_b4 hd  ih  h
noncomputable def f_Wk_jointNumber  (s : Sg) : Option (Int32 × Sg) :=
  f_Wk_jointNumber_h4  zl_fl 0 0 s
theorem w_Wk_jointNumber {s : Sg} {d : Nat} {Q : Option (Option Value) → Sg → Prop} (hd : 1 ≤ d) (h : okx (zq_I Q) (f_Wk_jointNumber  s)) : Cw d M_Wk_jointNumber [.ref 4] s Q := by
  refine Cw.of (by decide +kernel) (Nat.le_of_ble_eq_true rfl) ?_
  show Xw d M_Wk_jointNumber 0 0 0 [.ref 4, .retAddr 0, .retAddr 0] [] s _
  unfold f_Wk_jointNumber at h
  refine xj_iconst (v := 0) D_Wk_jointNumber_0 rfl ?_
  refine xi_istore_n (ls' := [_, _, _]) D_Wk_jointNumber_1 rfl (by decide) ?_
  refine xj_iconst (v := 0) D_Wk_jointNumber_2 rfl ?_
  refine xi_istore_n (ls' := [_, _, _]) D_Wk_jointNumber_3 rfl (by decide) ?_
  exact w_Wk_jointNumber_h4 (by omega)  _ _ _ _ h
noncomputable def f_Wk_joint_b100 (R54 : Int32 → Int32 → Int32 → Int32 → Int32 → Int32 → Sg → Option (Int32 × Sg)) (x1 : Int32) (x2 : Int32) (x3 : Int32) (x4 : Int32) (x5 : Int32) (x6 : Int32) (s : Sg) : Option (Int32 × Sg) :=
  R54 x1 x2 x3 x4 x5 (x6 + 1) s
theorem w_Wk_joint_b100 {x1 : Int32} {x2 : Int32} {x3 : Int32} {x4 : Int32} {x5 : Int32} {x6 : Int32} {s : Sg} {d : Nat} {Q : Option (Option Value) → Sg → Prop} (hd : 8 ≤ d) {R54 : Int32 → Int32 → Int32 → Int32 → Int32 → Int32 → Sg → Option (Int32 × Sg)} (hR54 : ∀ (x1 : Int32) (x2 : Int32) (x3 : Int32) (x4 : Int32) (x5 : Int32) (x6 : Int32) (s : Sg), okx (zq_I Q) (R54 x1 x2 x3 x4 x5 x6 s) → Xw d M_Wk_joint 0 0 54 [.ref 4, .int x1, .int x2, .int x3, .int x4, .int x5, .int x6] [] s Q) (h : okx (zq_I Q) (f_Wk_joint_b100 R54 x1 x2 x3 x4 x5 x6 s)) : Xw d M_Wk_joint 0 0 100 [.ref 4, .int x1, .int x2, .int x3, .int x4, .int x5, .int x6] [] s Q := by
  unfold f_Wk_joint_b100 at h
  refine xi_iinc (v := _ + 1) (ls' := [_, _, _, _, _, _, _]) D_Wk_joint_100 rfl rfl rfl (by decide) ?_
  refine xi_goto D_Wk_joint_103 ?_
  exact hR54 _ _ _ _ _ _ _ h
noncomputable def f_Wk_joint_b86 (R54 : Int32 → Int32 → Int32 → Int32 → Int32 → Int32 → Sg → Option (Int32 × Sg)) (x1 : Int32) (x2 : Int32) (x3 : Int32) (x4 : Int32) (x5 : Int32) (x6 : Int32) (s : Sg) : Option (Int32 × Sg) :=
  f_ck (zl_B s) <|
  f_ck (vp_in x6 216) <|
  if (mI s 45 (Int32.toNatClampNeg x6)) ≤ x3 then
    f_Wk_joint_b100 R54 x1 x2 x3 x4 x5 x6 s
  else
    f_Wk_joint_b100 R54 x1 x2 x3 x4 (x5 + 1) x6 s
theorem w_Wk_joint_b86 {x1 : Int32} {x2 : Int32} {x3 : Int32} {x4 : Int32} {x5 : Int32} {x6 : Int32} {s : Sg} {d : Nat} {Q : Option (Option Value) → Sg → Prop} (hd : 8 ≤ d) {R54 : Int32 → Int32 → Int32 → Int32 → Int32 → Int32 → Sg → Option (Int32 × Sg)} (hR54 : ∀ (x1 : Int32) (x2 : Int32) (x3 : Int32) (x4 : Int32) (x5 : Int32) (x6 : Int32) (s : Sg), okx (zq_I Q) (R54 x1 x2 x3 x4 x5 x6 s) → Xw d M_Wk_joint 0 0 54 [.ref 4, .int x1, .int x2, .int x3, .int x4, .int x5, .int x6] [] s Q) (h : okx (zq_I Q) (f_Wk_joint_b86 R54 x1 x2 x3 x4 x5 x6 s)) : Xw d M_Wk_joint 0 0 86 [.ref 4, .int x1, .int x2, .int x3, .int x4, .int x5, .int x6] [] s Q := by
  unfold f_Wk_joint_b86 at h
  refine xi_aload_n D_Wk_joint_86 rfl ?_
  obtain ⟨g23, h⟩ := okx_ck h
  refine xi_getR D_Wk_joint_87 F_Wk_45 (zl_fo (g23).1 rfl) ⟨rfl, by decide⟩ (zl_gr (g23).2 rfl rfl) ?_
  refine xi_iload D_Wk_joint_90 rfl ?_
  obtain ⟨g24, h⟩ := okx_ck h
  refine xj_iald D_Wk_joint_92 (zl_fx (g23).1 rfl) (zl_ib (n := 216) rfl (g24)) ?_
  refine xi_iload_n D_Wk_joint_93 rfl ?_
  refine xi_icmp_le D_Wk_joint_94 (fun c25 => ?_) (fun c25 => ?_)
  · have h := okx_T c25 h
    exact w_Wk_joint_b100 (by omega) hR54 h
  · have h := okx_F c25 h
    refine xi_iinc (v := _ + 1) (ls' := [_, _, _, _, _, _, _]) D_Wk_joint_97 rfl rfl rfl (by decide) ?_
    exact w_Wk_joint_b100 (by omega) hR54 h
noncomputable def f_Wk_joint_b106 (x1 : Int32) (x4 : Int32) (x5 : Int32) (s : Sg) : Option (Int32 × Sg) :=
  if x1 = 0 then
    some (x4, s)
  else
    some (x5, s)
theorem w_Wk_joint_b106 {x1 : Int32} {x4 : Int32} {x5 : Int32} {s : Sg} {d : Nat} {Q : Option (Option Value) → Sg → Prop} (hd : 8 ≤ d) (h : okx (zq_I Q) (f_Wk_joint_b106 x1 x4 x5 s)) : Xw d M_Wk_joint 0 0 106 [.retAddr 0, .int x1, .retAddr 0, .retAddr 0, .int x4, .int x5, .retAddr 0] [] s Q := by
  unfold f_Wk_joint_b106 at h
  refine xi_iload_n D_Wk_joint_106 rfl ?_
  refine xi_if_ne D_Wk_joint_107 (fun c26 => ?_) (fun c26 => ?_)
  · have h := okx_F c26 h
    refine xi_iload D_Wk_joint_115 rfl ?_
    exact xi_ireturn D_Wk_joint_117 rfl (rfl) (okx_I h)
  · have h := okx_T c26 h
    refine xi_iload D_Wk_joint_110 rfl ?_
    refine xi_goto D_Wk_joint_112 ?_
    exact xi_ireturn D_Wk_joint_117 rfl (rfl) (okx_I h)
noncomputable def f_Wk_joint_b54 (R54 : Int32 → Int32 → Int32 → Int32 → Int32 → Int32 → Sg → Option (Int32 × Sg)) (x1 : Int32) (x2 : Int32) (x3 : Int32) (x4 : Int32) (x5 : Int32) (x6 : Int32) (s : Sg) : Option (Int32 × Sg) :=
  if x2 ≤ x6 then
    f_Wk_joint_b106  x1 x4 x5 s
  else
    f_ck (zl_B s) <|
    f_ck (vp_in x6 216) <|
    if (mI s 45 (Int32.toNatClampNeg x6)) = (-1073741824) then
      f_Wk_joint_b86 R54 x1 x2 x3 x4 x5 x6 s
    else
      f_ck (vp_in x6 216) <|
      if x3 ≤ (mI s 45 (Int32.toNatClampNeg x6)) then
        f_Wk_joint_b86 R54 x1 x2 x3 x4 x5 x6 s
      else
        f_Wk_joint_b86 R54 x1 x2 x3 (x4 + 1) x5 x6 s
theorem w_Wk_joint_b54 {x1 : Int32} {x2 : Int32} {x3 : Int32} {x4 : Int32} {x5 : Int32} {x6 : Int32} {s : Sg} {d : Nat} {Q : Option (Option Value) → Sg → Prop} (hd : 8 ≤ d) {R54 : Int32 → Int32 → Int32 → Int32 → Int32 → Int32 → Sg → Option (Int32 × Sg)} (hR54 : ∀ (x1 : Int32) (x2 : Int32) (x3 : Int32) (x4 : Int32) (x5 : Int32) (x6 : Int32) (s : Sg), okx (zq_I Q) (R54 x1 x2 x3 x4 x5 x6 s) → Xw d M_Wk_joint 0 0 54 [.ref 4, .int x1, .int x2, .int x3, .int x4, .int x5, .int x6] [] s Q) (h : okx (zq_I Q) (f_Wk_joint_b54 R54 x1 x2 x3 x4 x5 x6 s)) : Xw d M_Wk_joint 0 0 54 [.ref 4, .int x1, .int x2, .int x3, .int x4, .int x5, .int x6] [] s Q := by
  unfold f_Wk_joint_b54 at h
  refine xi_iload D_Wk_joint_54 rfl ?_
  refine xi_iload_n D_Wk_joint_56 rfl ?_
  refine xi_icmp_ge D_Wk_joint_57 (fun c17 => ?_) (fun c17 => ?_)
  · have h := okx_T c17 h
    exact xk_wk (w_Wk_joint_b106 (by omega)  h) ⟨Or.inr rfl, Or.inl rfl, Or.inr rfl, Or.inr rfl, Or.inl rfl, Or.inl rfl, Or.inr rfl, trivial⟩
  · have h := okx_F c17 h
    refine xi_aload_n D_Wk_joint_60 rfl ?_
    obtain ⟨g18, h⟩ := okx_ck h
    refine xi_getR D_Wk_joint_61 F_Wk_45 (zl_fo (g18).1 rfl) ⟨rfl, by decide⟩ (zl_gr (g18).2 rfl rfl) ?_
    refine xi_iload D_Wk_joint_64 rfl ?_
    obtain ⟨g19, h⟩ := okx_ck h
    refine xj_iald D_Wk_joint_66 (zl_fx (g18).1 rfl) (zl_ib (n := 216) rfl (g19)) ?_
    refine xi_ldc D_Wk_joint_67 K_Wk_195 ?_
    refine xi_icmp_eq D_Wk_joint_69 (fun c20 => ?_) (fun c20 => ?_)
    · have h := okx_T c20 h
      exact w_Wk_joint_b86 (by omega) hR54 h
    · have h := okx_F c20 h
      refine xi_aload_n D_Wk_joint_72 rfl ?_
      refine xi_getR D_Wk_joint_73 F_Wk_45 (zl_fo (g18).1 rfl) ⟨rfl, by decide⟩ (zl_gr (g18).2 rfl rfl) ?_
      refine xi_iload D_Wk_joint_76 rfl ?_
      obtain ⟨g21, h⟩ := okx_ck h
      refine xj_iald D_Wk_joint_78 (zl_fx (g18).1 rfl) (zl_ib (n := 216) rfl (g21)) ?_
      refine xi_iload_n D_Wk_joint_79 rfl ?_
      refine xi_icmp_ge D_Wk_joint_80 (fun c22 => ?_) (fun c22 => ?_)
      · have h := okx_T c22 h
        exact w_Wk_joint_b86 (by omega) hR54 h
      · have h := okx_F c22 h
        refine xi_iinc (v := _ + 1) (ls' := [_, _, _, _, _, _, _]) D_Wk_joint_83 rfl rfl rfl (by decide) ?_
        exact w_Wk_joint_b86 (by omega) hR54 h
noncomputable def f_Wk_joint_h54 : Nat → Int32 → Int32 → Int32 → Int32 → Int32 → Int32 → Sg → Option (Int32 × Sg)
  | 0, _, _, _, _, _, _, _ => none
  | n + 1, x1, x2, x3, x4, x5, x6, s => f_Wk_joint_b54 (f_Wk_joint_h54 n) x1 x2 x3 x4 x5 x6 s
theorem w_Wk_joint_h54 {d : Nat} {Q : Option (Option Value) → Sg → Prop} (hd : 8 ≤ d) : ∀ (n : Nat) (x1 : Int32) (x2 : Int32) (x3 : Int32) (x4 : Int32) (x5 : Int32) (x6 : Int32) (s : Sg), okx (zq_I Q) (f_Wk_joint_h54 n x1 x2 x3 x4 x5 x6 s) → Xw d M_Wk_joint 0 0 54 [.ref 4, .int x1, .int x2, .int x3, .int x4, .int x5, .int x6] [] s Q := by
  intro n
  induction n with
  | zero => intro x1 x2 x3 x4 x5 x6 s h; exact okx_no h
  | succ n ih => intro x1 x2 x3 x4 x5 x6 s h; exact w_Wk_joint_b54 hd  ih  h
noncomputable def f_Wk_joint (x1 : Int32) (s : Sg) : Option (Int32 × Sg) :=
  f_ck (zl_B s) <|
  f_bd (f_Wk_plainCount  s) fun r2 s3 =>
  if r2 = 0 then
    some ((-1), s3)
  else
    f_bd (f_Wk_isWithin x1 1 s3) fun r5 s6 =>
    if r5 = 0 then
      some ((-1), s6)
    else
      f_ck (zl_B s6) <|
      f_bd (f_Wk_fillPlain 0 (r2 - 1) s6) fun r9 s10 =>
      f_ck (zl_B s10) <|
      f_bd (f_Wk_jointNumber  s10) fun r12 s13 =>
      f_ck (zl_B s13) <|
      f_ck (vp_in r12 216) <|
      if (mI s13 45 (Int32.toNatClampNeg r12)) = (-1073741824) then
        some ((-1), s13)
      else
        f_Wk_joint_h54  zl_fl x1 r2 (mI s13 45 (Int32.toNatClampNeg r12)) 0 0 0 s13
theorem w_Wk_joint {x1 : Int32} {s : Sg} {d : Nat} {Q : Option (Option Value) → Sg → Prop} (hd : 8 ≤ d) (h : okx (zq_I Q) (f_Wk_joint x1 s)) : Cw d M_Wk_joint [.ref 4, .int x1] s Q := by
  refine Cw.of (by decide +kernel) (Nat.le_of_ble_eq_true rfl) ?_
  show Xw d M_Wk_joint 0 0 0 [.ref 4, .int x1, .retAddr 0, .retAddr 0, .retAddr 0, .retAddr 0, .retAddr 0] [] s _
  unfold f_Wk_joint at h
  refine xi_aload_n D_Wk_joint_0 rfl ?_
  obtain ⟨g1, h⟩ := okx_ck h
  refine xj_V0 D_Wk_joint_1 L_Wk_188 C_Wk_plainCount Z_Wk_plainCount (zl_fo (g1).1 rfl) (Nat.le_of_ble_eq_true rfl) (Nat.le_of_eq (Nat.sub_add_cancel (by omega))) (w_Wk_plainCount (by omega) (okx_mono (okx_bd h) ?_))
  intro r2 s3 h
  show Xw _ _ _ _ 4 _ [_] _ _
  refine xi_istore_n (ls' := [_, _, _, _, _, _, _]) D_Wk_joint_4 rfl (by decide) ?_
  refine xi_iload_n D_Wk_joint_5 rfl ?_
  refine xi_if_eq D_Wk_joint_6 (fun c4 => ?_) (fun c4 => ?_)
  · have h := okx_T c4 h
    refine xj_iconst (v := (-1)) D_Wk_joint_17 rfl ?_
    exact xi_ireturn D_Wk_joint_18 rfl (rfl) (okx_I h)
  · have h := okx_F c4 h
    refine xi_iload_n D_Wk_joint_9 rfl ?_
    refine xj_iconst (v := 1) D_Wk_joint_10 rfl ?_
    refine xj_S2 D_Wk_joint_11 L_Wk_111 C_Wk_isWithin Z_Wk_isWithin (Nat.le_of_ble_eq_true rfl) (Nat.le_of_eq (Nat.sub_add_cancel (by omega))) (w_Wk_isWithin (by omega) (okx_mono (okx_bd h) ?_))
    intro r5 s6 h
    show Xw _ _ _ _ 14 _ [_] _ _
    refine xi_if_ne D_Wk_joint_14 (fun c7 => ?_) (fun c7 => ?_)
    · have h := okx_F c7 h
      refine xi_aload_n D_Wk_joint_19 rfl ?_
      refine xj_iconst (v := 0) D_Wk_joint_20 rfl ?_
      refine xi_iload_n D_Wk_joint_21 rfl ?_
      refine xj_iconst (v := 1) D_Wk_joint_22 rfl ?_
      refine xi_isub D_Wk_joint_23 ?_
      obtain ⟨g8, h⟩ := okx_ck h
      refine xj_V2 D_Wk_joint_24 L_Wk_191 C_Wk_fillPlain Z_Wk_fillPlain (zl_fo (g8).1 rfl) (Nat.le_of_ble_eq_true rfl) (Nat.le_of_eq (Nat.sub_add_cancel (by omega))) (w_Wk_fillPlain (by omega) (okx_mono (okx_bd h) ?_))
      intro r9 s10 h
      show Xw _ _ _ _ 27 _ [] _ _
      refine xi_aload_n D_Wk_joint_27 rfl ?_
      obtain ⟨g11, h⟩ := okx_ck h
      refine xi_getR D_Wk_joint_28 F_Wk_45 (zl_fo (g11).1 rfl) ⟨rfl, by decide⟩ (zl_gr (g11).2 rfl rfl) ?_
      refine xi_aload_n D_Wk_joint_31 rfl ?_
      refine xj_V0 D_Wk_joint_32 L_Wk_205 C_Wk_jointNumber Z_Wk_jointNumber (zl_fo (g11).1 rfl) (Nat.le_of_ble_eq_true rfl) (Nat.le_of_eq (Nat.sub_add_cancel (by omega))) (w_Wk_jointNumber (by omega) (okx_mono (okx_bd h) ?_))
      intro r12 s13 h
      show Xw _ _ _ _ 35 _ [_, _] _ _
      obtain ⟨g14, h⟩ := okx_ck h
      obtain ⟨g15, h⟩ := okx_ck h
      refine xj_iald D_Wk_joint_35 (zl_fx (g14).1 rfl) (zl_ib (n := 216) rfl (g15)) ?_
      refine xi_istore_n (ls' := [_, _, _, _, _, _, _]) D_Wk_joint_36 rfl (by decide) ?_
      refine xi_iload_n D_Wk_joint_37 rfl ?_
      refine xi_ldc D_Wk_joint_38 K_Wk_195 ?_
      refine xi_icmp_ne D_Wk_joint_40 (fun c16 => ?_) (fun c16 => ?_)
      · have h := okx_F c16 h
        refine xj_iconst (v := 0) D_Wk_joint_45 rfl ?_
        refine xi_istore (ls' := [_, _, _, _, _, _, _]) D_Wk_joint_46 rfl (by decide) ?_
        refine xj_iconst (v := 0) D_Wk_joint_48 rfl ?_
        refine xi_istore (ls' := [_, _, _, _, _, _, _]) D_Wk_joint_49 rfl (by decide) ?_
        refine xj_iconst (v := 0) D_Wk_joint_51 rfl ?_
        refine xi_istore (ls' := [_, _, _, _, _, _, _]) D_Wk_joint_52 rfl (by decide) ?_
        exact w_Wk_joint_h54 (by omega)  _ _ _ _ _ _ _ _ h
      · have h := okx_T c16 h
        refine xj_iconst (v := (-1)) D_Wk_joint_43 rfl ?_
        exact xi_ireturn D_Wk_joint_44 rfl (rfl) (okx_I h)
    · have h := okx_T c7 h
      refine xj_iconst (v := (-1)) D_Wk_joint_17 rfl ?_
      exact xi_ireturn D_Wk_joint_18 rfl (rfl) (okx_I h)
