/-! by a program of ours (wip/whole/gen/func.py, mkall.py) out of the listing: Mo_ownerFor Mo_edge Mo_fails Mo_isSign Mo_signAt Mo_nextToken Mo_ends Mo_feed Mo_reachBy Mo_first -/
noncomputable def f_Mo_ownerFor_b66 (R7 : Int32 → Int32 → Int32 → Int32 → Sg → Option (Int32 × Sg)) (x1 : Int32) (x2 : Int32) (x3 : Int32) (x4 : Int32) (s : Sg) : Option (Int32 × Sg) :=
  R7 x1 x2 x3 (x4 + 1) s
theorem w_Mo_ownerFor_b66 {x1 : Int32} {x2 : Int32} {x3 : Int32} {x4 : Int32} {s : Sg} {d : Nat} {Q : Option (Option Value) → Sg → Prop} (hd : 12 ≤ d) {R7 : Int32 → Int32 → Int32 → Int32 → Sg → Option (Int32 × Sg)} (hR7 : ∀ (x1 : Int32) (x2 : Int32) (x3 : Int32) (x4 : Int32) (s : Sg), okx (zq_I Q) (R7 x1 x2 x3 x4 s) → Xw d M_Mo_ownerFor 0 0 7 [.ref 46, .int x1, .int x2, .int x3, .int x4] [] s Q) (h : okx (zq_I Q) (f_Mo_ownerFor_b66 R7 x1 x2 x3 x4 s)) : Xw d M_Mo_ownerFor 0 0 66 [.ref 46, .int x1, .int x2, .int x3, .int x4] [] s Q := by
  unfold f_Mo_ownerFor_b66 at h
  refine xi_iinc (v := _ + 1) (ls' := [_, _, _, _, _]) D_Mo_ownerFor_66 rfl rfl rfl (by decide) ?_
  refine xi_goto D_Mo_ownerFor_69 ?_
  exact hR7 _ _ _ _ _ h
noncomputable def f_Mo_ownerFor_b58 (R7 : Int32 → Int32 → Int32 → Int32 → Sg → Option (Int32 × Sg)) (x1 : Int32) (x4 : Int32) (s : Sg) : Option (Int32 × Sg) :=
  f_ck (zl_B s) <|
  f_Mo_ownerFor_b66 R7 x1 x4 (mI s 46 56) x4 s
theorem w_Mo_ownerFor_b58 {x1 : Int32} {x4 : Int32} {s : Sg} {d : Nat} {Q : Option (Option Value) → Sg → Prop} (hd : 12 ≤ d) {R7 : Int32 → Int32 → Int32 → Int32 → Sg → Option (Int32 × Sg)} (hR7 : ∀ (x1 : Int32) (x2 : Int32) (x3 : Int32) (x4 : Int32) (s : Sg), okx (zq_I Q) (R7 x1 x2 x3 x4 s) → Xw d M_Mo_ownerFor 0 0 7 [.ref 46, .int x1, .int x2, .int x3, .int x4] [] s Q) (h : okx (zq_I Q) (f_Mo_ownerFor_b58 R7 x1 x4 s)) : Xw d M_Mo_ownerFor 0 0 58 [.ref 46, .int x1, .retAddr 0, .retAddr 0, .int x4] [] s Q := by
  unfold f_Mo_ownerFor_b58 at h
  refine xi_iload D_Mo_ownerFor_58 rfl ?_
  refine xi_istore_n (ls' := [_, _, _, _, _]) D_Mo_ownerFor_60 rfl (by decide) ?_
  refine xi_aload_n D_Mo_ownerFor_61 rfl ?_
  obtain ⟨g15, h⟩ := okx_ck h
  refine xi_getI D_Mo_ownerFor_62 F_Mo_397 (zl_fo (g15).1 rfl) ⟨rfl, by decide⟩ ?_
  refine xi_istore_n (ls' := [_, _, _, _, _]) D_Mo_ownerFor_65 rfl (by decide) ?_
  exact w_Mo_ownerFor_b66 (by omega) hR7 h
noncomputable def f_Mo_ownerFor_b7 (R7 : Int32 → Int32 → Int32 → Int32 → Sg → Option (Int32 × Sg)) (x1 : Int32) (x2 : Int32) (x3 : Int32) (x4 : Int32) (s : Sg) : Option (Int32 × Sg) :=
  f_ck (zl_B s) <|
  if (mI s 46 10) ≤ x4 then
    some (x2, s)
  else
    f_bd (f_Mo_laysAll 0 s) fun r3 s4 =>
    f_ck (zl_B s4) <|
    f_bd (f_Mo_lays 0 x1 ((1 : Int32) <<< (x4 &&& 31)) 1 s4) fun r6 s7 =>
    f_ck (zl_B s7) <|
    f_bd (f_Mo_reach  s7) fun r9 s10 =>
    f_ck (zl_B s10) <|
    if (mI s10 46 55) = 0 then
      f_Mo_ownerFor_b66 R7 x1 x2 x3 x4 s10
    else
      if x2 < 0 then
        f_Mo_ownerFor_b58 R7 x1 x4 s10
      else
        if x3 < (mI s10 46 56) then
          f_Mo_ownerFor_b58 R7 x1 x4 s10
        else
          f_Mo_ownerFor_b66 R7 x1 x2 x3 x4 s10
theorem w_Mo_ownerFor_b7 {x1 : Int32} {x2 : Int32} {x3 : Int32} {x4 : Int32} {s : Sg} {d : Nat} {Q : Option (Option Value) → Sg → Prop} (hd : 12 ≤ d) {R7 : Int32 → Int32 → Int32 → Int32 → Sg → Option (Int32 × Sg)} (hR7 : ∀ (x1 : Int32) (x2 : Int32) (x3 : Int32) (x4 : Int32) (s : Sg), okx (zq_I Q) (R7 x1 x2 x3 x4 s) → Xw d M_Mo_ownerFor 0 0 7 [.ref 46, .int x1, .int x2, .int x3, .int x4] [] s Q) (h : okx (zq_I Q) (f_Mo_ownerFor_b7 R7 x1 x2 x3 x4 s)) : Xw d M_Mo_ownerFor 0 0 7 [.ref 46, .int x1, .int x2, .int x3, .int x4] [] s Q := by
  unfold f_Mo_ownerFor_b7 at h
  refine xi_iload D_Mo_ownerFor_7 rfl ?_
  refine xi_aload_n D_Mo_ownerFor_9 rfl ?_
  obtain ⟨g1, h⟩ := okx_ck h
  refine xi_getI D_Mo_ownerFor_10 F_Mo_234 (zl_fo (g1).1 rfl) ⟨rfl, by decide⟩ ?_
  refine xi_icmp_ge D_Mo_ownerFor_13 (fun c2 => ?_) (fun c2 => ?_)
  · have h := okx_T c2 h
    refine xi_iload_n D_Mo_ownerFor_72 rfl ?_
    exact xi_ireturn D_Mo_ownerFor_73 rfl (rfl) (okx_I h)
  · have h := okx_F c2 h
    refine xi_aload_n D_Mo_ownerFor_16 rfl ?_
    refine xj_iconst (v := 0) D_Mo_ownerFor_17 rfl ?_
    refine xj_V1 D_Mo_ownerFor_18 L_Mo_322 C_Mo_laysAll Z_Mo_laysAll (zl_fo (g1).1 rfl) (Nat.le_of_ble_eq_true rfl) (Nat.le_of_eq (Nat.sub_add_cancel (by omega))) (w_Mo_laysAll (by omega) (okx_mono (okx_bd h) ?_))
    intro r3 s4 h
    show Xw _ _ _ _ 21 _ [] _ _
    refine xi_aload_n D_Mo_ownerFor_21 rfl ?_
    refine xj_iconst (v := 0) D_Mo_ownerFor_22 rfl ?_
    refine xi_iload_n D_Mo_ownerFor_23 rfl ?_
    refine xj_iconst (v := 1) D_Mo_ownerFor_24 rfl ?_
    refine xi_iload D_Mo_ownerFor_25 rfl ?_
    refine xi_ishl D_Mo_ownerFor_27 ?_
    refine xj_iconst (v := 1) D_Mo_ownerFor_28 rfl ?_
    obtain ⟨g5, h⟩ := okx_ck h
    refine xj_V4 D_Mo_ownerFor_29 L_Mo_312 C_Mo_lays Z_Mo_lays (zl_fo (g5).1 rfl) (Nat.le_of_ble_eq_true rfl) (Nat.le_of_eq (Nat.sub_add_cancel (by omega))) (w_Mo_lays (by omega) (okx_mono (okx_bd h) ?_))
    intro r6 s7 h
    show Xw _ _ _ _ 32 _ [] _ _
    refine xi_aload_n D_Mo_ownerFor_32 rfl ?_
    obtain ⟨g8, h⟩ := okx_ck h
    refine xj_V0 D_Mo_ownerFor_33 L_Mo_403 C_Mo_reach Z_Mo_reach (zl_fo (g8).1 rfl) (Nat.le_of_ble_eq_true rfl) (Nat.le_of_eq (Nat.sub_add_cancel (by omega))) (w_Mo_reach (by omega) (okx_mono (okx_bd h) ?_))
    intro r9 s10 h
    show Xw _ _ _ _ 36 _ [] _ _
    refine xi_aload_n D_Mo_ownerFor_36 rfl ?_
    obtain ⟨g11, h⟩ := okx_ck h
    refine xi_getI D_Mo_ownerFor_37 F_Mo_393 (zl_fo (g11).1 rfl) ⟨rfl, by decide⟩ ?_
    refine xi_if_eq D_Mo_ownerFor_40 (fun c12 => ?_) (fun c12 => ?_)
    · have h := okx_T c12 h
      exact w_Mo_ownerFor_b66 (by omega) hR7 h
    · have h := okx_F c12 h
      refine xi_iload_n D_Mo_ownerFor_43 rfl ?_
      refine xi_if_lt D_Mo_ownerFor_44 (fun c13 => ?_) (fun c13 => ?_)
      · have h := okx_T c13 h
        exact xk_wk (w_Mo_ownerFor_b58 (by omega) hR7 h) ⟨Or.inl rfl, Or.inl rfl, Or.inr rfl, Or.inr rfl, Or.inl rfl, trivial⟩
      · have h := okx_F c13 h
        refine xi_aload_n D_Mo_ownerFor_47 rfl ?_
        refine xi_getI D_Mo_ownerFor_48 F_Mo_397 (zl_fo (g11).1 rfl) ⟨rfl, by decide⟩ ?_
        refine xi_iload_n D_Mo_ownerFor_51 rfl ?_
        refine xi_icmp_gt D_Mo_ownerFor_52 (fun c14 => ?_) (fun c14 => ?_)
        · have h := okx_T c14 h
          exact xk_wk (w_Mo_ownerFor_b58 (by omega) hR7 h) ⟨Or.inl rfl, Or.inl rfl, Or.inr rfl, Or.inr rfl, Or.inl rfl, trivial⟩
        · have h := okx_F c14 h
          refine xi_goto D_Mo_ownerFor_55 ?_
          exact w_Mo_ownerFor_b66 (by omega) hR7 h
noncomputable def f_Mo_ownerFor_h7 : Nat → Int32 → Int32 → Int32 → Int32 → Sg → Option (Int32 × Sg)
  | 0, _, _, _, _, _ => none
  | n + 1, x1, x2, x3, x4, s => f_Mo_ownerFor_b7 (f_Mo_ownerFor_h7 n) x1 x2 x3 x4 s
theorem w_Mo_ownerFor_h7 {d : Nat} {Q : Option (Option Value) → Sg → Prop} (hd : 12 ≤ d) : ∀ (n : Nat) (x1 : Int32) (x2 : Int32) (x3 : Int32) (x4 : Int32) (s : Sg), okx (zq_I Q) (f_Mo_ownerFor_h7 n x1 x2 x3 x4 s) → Xw d M_Mo_ownerFor 0 0 7 [.ref 46, .int x1, .int x2, .int x3, .int x4] [] s Q := by
  intro n
  induction n with
  | zero => intro x1 x2 x3 x4 s h; exact okx_no h
  | succ n ih => intro x1 x2 x3 x4 s h; exact w_Mo_ownerFor_b7 hd  ih  h
noncomputable def f_Mo_ownerFor (x1 : Int32) (s : Sg) : Option (Int32 × Sg) :=
  f_Mo_ownerFor_h7  zl_fl x1 (-1) 0 0 s
theorem w_Mo_ownerFor {x1 : Int32} {s : Sg} {d : Nat} {Q : Option (Option Value) → Sg → Prop} (hd : 12 ≤ d) (h : okx (zq_I Q) (f_Mo_ownerFor x1 s)) : Cw d M_Mo_ownerFor [.ref 46, .int x1] s Q := by
  refine Cw.of (by decide +kernel) (Nat.le_of_ble_eq_true rfl) ?_
  show Xw d M_Mo_ownerFor 0 0 0 [.ref 46, .int x1, .retAddr 0, .retAddr 0, .retAddr 0] [] s _
  unfold f_Mo_ownerFor at h
  refine xj_iconst (v := (-1)) D_Mo_ownerFor_0 rfl ?_
  refine xi_istore_n (ls' := [_, _, _, _, _]) D_Mo_ownerFor_1 rfl (by decide) ?_
  refine xj_iconst (v := 0) D_Mo_ownerFor_2 rfl ?_
  refine xi_istore_n (ls' := [_, _, _, _, _]) D_Mo_ownerFor_3 rfl (by decide) ?_
  refine xj_iconst (v := 0) D_Mo_ownerFor_4 rfl ?_
  refine xi_istore (ls' := [_, _, _, _, _]) D_Mo_ownerFor_5 rfl (by decide) ?_
  exact w_Mo_ownerFor_h7 (by omega)  _ _ _ _ _ _ h
noncomputable def f_Mo_edge_b122 (R67 : Int32 → Int32 → Int32 → Int32 → Sg → Option (Int32 × Sg)) (x2 : Int32) (x3 : Int32) (x4 : Int32) (y0 : Int32) (y1 : Int32) (s : Sg) : Option (Int32 × Sg) :=
  R67 x2 x3 x4 (y0 + y1) s
theorem w_Mo_edge_b122 {x2 : Int32} {x3 : Int32} {x4 : Int32} {y0 : Int32} {y1 : Int32} {s : Sg} {d : Nat} {Q : Option (Option Value) → Sg → Prop} (hd : 13 ≤ d) {R67 : Int32 → Int32 → Int32 → Int32 → Sg → Option (Int32 × Sg)} (hR67 : ∀ (x2 : Int32) (x3 : Int32) (x4 : Int32) (x5 : Int32) (s : Sg), okx (zq_I Q) (R67 x2 x3 x4 x5 s) → Xw d M_Mo_edge 0 0 67 [.ref 46, .retAddr 0, .int x2, .int x3, .int x4, .int x5, .retAddr 0] [] s Q) (h : okx (zq_I Q) (f_Mo_edge_b122 R67 x2 x3 x4 y0 y1 s)) : Xw d M_Mo_edge 0 0 122 [.ref 46, .retAddr 0, .int x2, .int x3, .int x4, .retAddr 0, .retAddr 0] [.int y1, .int y0] s Q := by
  unfold f_Mo_edge_b122 at h
  refine xi_iadd D_Mo_edge_122 ?_
  refine xi_istore (ls' := [_, _, _, _, _, _, _]) D_Mo_edge_123 rfl (by decide) ?_
  refine xi_goto D_Mo_edge_125 ?_
  exact hR67 _ _ _ _ _ h
noncomputable def f_Mo_edge_b111 (R67 : Int32 → Int32 → Int32 → Int32 → Sg → Option (Int32 × Sg)) (x2 : Int32) (x3 : Int32) (x4 : Int32) (x5 : Int32) (s : Sg) : Option (Int32 × Sg) :=
  if x3 = 0 then
    f_Mo_edge_b122 R67 x2 x3 x4 x5 1 s
  else
    f_Mo_edge_b122 R67 x2 x3 x4 x5 (-1) s
theorem w_Mo_edge_b111 {x2 : Int32} {x3 : Int32} {x4 : Int32} {x5 : Int32} {s : Sg} {d : Nat} {Q : Option (Option Value) → Sg → Prop} (hd : 13 ≤ d) {R67 : Int32 → Int32 → Int32 → Int32 → Sg → Option (Int32 × Sg)} (hR67 : ∀ (x2 : Int32) (x3 : Int32) (x4 : Int32) (x5 : Int32) (s : Sg), okx (zq_I Q) (R67 x2 x3 x4 x5 s) → Xw d M_Mo_edge 0 0 67 [.ref 46, .retAddr 0, .int x2, .int x3, .int x4, .int x5, .retAddr 0] [] s Q) (h : okx (zq_I Q) (f_Mo_edge_b111 R67 x2 x3 x4 x5 s)) : Xw d M_Mo_edge 0 0 111 [.ref 46, .retAddr 0, .int x2, .int x3, .int x4, .int x5, .retAddr 0] [] s Q := by
  unfold f_Mo_edge_b111 at h
  refine xi_iload D_Mo_edge_111 rfl ?_
  refine xi_iload_n D_Mo_edge_113 rfl ?_
  refine xi_if_ne D_Mo_edge_114 (fun c31 => ?_) (fun c31 => ?_)
  · have h := okx_F c31 h
    refine xj_iconst (v := (-1)) D_Mo_edge_121 rfl ?_
    exact xk_wk (w_Mo_edge_b122 (by omega) hR67 h) ⟨Or.inl rfl, Or.inl rfl, Or.inl rfl, Or.inl rfl, Or.inl rfl, Or.inr rfl, Or.inl rfl, trivial⟩
  · have h := okx_T c31 h
    refine xj_iconst (v := 1) D_Mo_edge_117 rfl ?_
    refine xi_goto D_Mo_edge_118 ?_
    exact xk_wk (w_Mo_edge_b122 (by omega) hR67 h) ⟨Or.inl rfl, Or.inl rfl, Or.inl rfl, Or.inl rfl, Or.inl rfl, Or.inr rfl, Or.inl rfl, trivial⟩
noncomputable def f_Mo_edge_b67 (R67 : Int32 → Int32 → Int32 → Int32 → Sg → Option (Int32 × Sg)) (x2 : Int32) (x3 : Int32) (x4 : Int32) (x5 : Int32) (s : Sg) : Option (Int32 × Sg) :=
  if x4 < 0 then
    some ((-1), s)
  else
    f_bd (f_Mo_within x5 0 40 s) fun r22 s23 =>
    if r22 = 0 then
      some ((-1), s23)
    else
      f_ck (zl_B s23) <|
      let s26 : Sg := uI s23 46 39 x5
      f_bd (f_Mo_ownerFor x2 s26) fun r27 s28 =>
      if r27 < 0 then
        f_Mo_edge_b111 R67 x2 x3 x4 x5 s28
      else
        if r27 = x4 then
          f_Mo_edge_b111 R67 x2 x3 x4 x5 s28
        else
          some (x5, s28)
theorem w_Mo_edge_b67 {x2 : Int32} {x3 : Int32} {x4 : Int32} {x5 : Int32} {s : Sg} {d : Nat} {Q : Option (Option Value) → Sg → Prop} (hd : 13 ≤ d) {R67 : Int32 → Int32 → Int32 → Int32 → Sg → Option (Int32 × Sg)} (hR67 : ∀ (x2 : Int32) (x3 : Int32) (x4 : Int32) (x5 : Int32) (s : Sg), okx (zq_I Q) (R67 x2 x3 x4 x5 s) → Xw d M_Mo_edge 0 0 67 [.ref 46, .retAddr 0, .int x2, .int x3, .int x4, .int x5, .retAddr 0] [] s Q) (h : okx (zq_I Q) (f_Mo_edge_b67 R67 x2 x3 x4 x5 s)) : Xw d M_Mo_edge 0 0 67 [.ref 46, .retAddr 0, .int x2, .int x3, .int x4, .int x5, .retAddr 0] [] s Q := by
  unfold f_Mo_edge_b67 at h
  refine xi_iload D_Mo_edge_67 rfl ?_
  refine xi_if_lt D_Mo_edge_69 (fun c21 => ?_) (fun c21 => ?_)
  · have h := okx_T c21 h
    refine xj_iconst (v := (-1)) D_Mo_edge_128 rfl ?_
    exact xi_ireturn D_Mo_edge_129 rfl (rfl) (okx_I h)
  · have h := okx_F c21 h
    refine xi_iload D_Mo_edge_72 rfl ?_
    refine xj_iconst (v := 0) D_Mo_edge_74 rfl ?_
    refine xi_bipush (v := 40) D_Mo_edge_75 rfl ?_
    refine xj_S3 D_Mo_edge_77 L_Mo_268 C_Mo_within Z_Mo_within (Nat.le_of_ble_eq_true rfl) (Nat.le_of_eq (Nat.sub_add_cancel (by omega))) (w_Mo_within (by omega) (okx_mono (okx_bd h) ?_))
    intro r22 s23 h
    show Xw _ _ _ _ 80 _ [_] _ _
    refine xi_if_eq D_Mo_edge_80 (fun c24 => ?_) (fun c24 => ?_)
    · have h := okx_T c24 h
      refine xj_iconst (v := (-1)) D_Mo_edge_128 rfl ?_
      exact xi_ireturn D_Mo_edge_129 rfl (rfl) (okx_I h)
    · have h := okx_F c24 h
      refine xi_aload_n D_Mo_edge_83 rfl ?_
      refine xi_iload D_Mo_edge_84 rfl ?_
      obtain ⟨g25, h⟩ := okx_ck h
      refine xi_putI D_Mo_edge_86 F_Mo_272 (zl_fo (g25).1 rfl) ⟨rfl, by decide, rfl⟩ (⟨rfl, rfl⟩) ?_
      refine xi_aload_n D_Mo_edge_89 rfl ?_
      refine xi_iload_n D_Mo_edge_90 rfl ?_
      refine xj_V1 D_Mo_edge_91 L_Mo_426 C_Mo_ownerFor Z_Mo_ownerFor (zl_fo (g25).1 rfl) (Nat.le_of_ble_eq_true rfl) (Nat.le_of_eq (Nat.sub_add_cancel (by omega))) (w_Mo_ownerFor (by omega) (okx_mono (okx_bd h) ?_))
      intro r27 s28 h
      show Xw _ _ _ _ 94 _ [_] _ _
      refine xi_istore (ls' := [_, _, _, _, _, _, _]) D_Mo_edge_94 rfl (by decide) ?_
      refine xi_iload D_Mo_edge_96 rfl ?_
      refine xi_if_lt D_Mo_edge_98 (fun c29 => ?_) (fun c29 => ?_)
      · have h := okx_T c29 h
        exact xk_wk (w_Mo_edge_b111 (by omega) hR67 h) ⟨Or.inl rfl, Or.inl rfl, Or.inl rfl, Or.inl rfl, Or.inl rfl, Or.inl rfl, Or.inr rfl, trivial⟩
      · have h := okx_F c29 h
        refine xi_iload D_Mo_edge_101 rfl ?_
        refine xi_iload D_Mo_edge_103 rfl ?_
        refine xi_icmp_eq D_Mo_edge_105 (fun c30 => ?_) (fun c30 => ?_)
        · have h := okx_T c30 h
          exact xk_wk (w_Mo_edge_b111 (by omega) hR67 h) ⟨Or.inl rfl, Or.inl rfl, Or.inl rfl, Or.inl rfl, Or.inl rfl, Or.inl rfl, Or.inr rfl, trivial⟩
        · have h := okx_F c30 h
          refine xi_iload D_Mo_edge_108 rfl ?_
          exact xi_ireturn D_Mo_edge_110 rfl (rfl) (okx_I h)
noncomputable def f_Mo_edge_h67 : Nat → Int32 → Int32 → Int32 → Int32 → Sg → Option (Int32 × Sg)
  | 0, _, _, _, _, _ => none
  | n + 1, x2, x3, x4, x5, s => f_Mo_edge_b67 (f_Mo_edge_h67 n) x2 x3 x4 x5 s
theorem w_Mo_edge_h67 {d : Nat} {Q : Option (Option Value) → Sg → Prop} (hd : 13 ≤ d) : ∀ (n : Nat) (x2 : Int32) (x3 : Int32) (x4 : Int32) (x5 : Int32) (s : Sg), okx (zq_I Q) (f_Mo_edge_h67 n x2 x3 x4 x5 s) → Xw d M_Mo_edge 0 0 67 [.ref 46, .retAddr 0, .int x2, .int x3, .int x4, .int x5, .retAddr 0] [] s Q := by
  intro n
  induction n with
  | zero => intro x2 x3 x4 x5 s h; exact okx_no h
  | succ n ih => intro x2 x3 x4 x5 s h; exact w_Mo_edge_b67 hd  ih  h
noncomputable def f_Mo_edge_b65 (x2 : Int32) (x3 : Int32) (x4 : Int32) (y0 : Int32) (s : Sg) : Option (Int32 × Sg) :=
  f_Mo_edge_h67  zl_fl x2 x3 x4 y0 s
theorem w_Mo_edge_b65 {x2 : Int32} {x3 : Int32} {x4 : Int32} {y0 : Int32} {s : Sg} {d : Nat} {Q : Option (Option Value) → Sg → Prop} (hd : 13 ≤ d) (h : okx (zq_I Q) (f_Mo_edge_b65 x2 x3 x4 y0 s)) : Xw d M_Mo_edge 0 0 65 [.ref 46, .retAddr 0, .int x2, .int x3, .int x4, .retAddr 0, .retAddr 0] [.int y0] s Q := by
  unfold f_Mo_edge_b65 at h
  refine xi_istore (ls' := [_, _, _, _, _, _, _]) D_Mo_edge_65 rfl (by decide) ?_
  exact w_Mo_edge_h67 (by omega)  _ _ _ _ _ _ h
noncomputable def f_Mo_edge (x1 : Int32) (x2 : Int32) (x3 : Int32) (s : Sg) : Option (Int32 × Sg) :=
  f_ck (zl_B s) <|
  let s2 : Sg := uI s 46 0 0
  f_bd (f_Mo_within x1 0 ((mI s2 46 12) - 1) s2) fun r3 s4 =>
  if r3 = 0 then
    some ((-1), s4)
  else
    f_ck (zl_B s4) <|
    f_bd (f_Mo_isThing x2 s4) fun r7 s8 =>
    if r7 = 0 then
      some ((-1), s8)
    else
      f_bd (f_Mo_within x3 0 1 s8) fun r10 s11 =>
      if r10 = 0 then
        some ((-1), s11)
      else
        f_ck (zl_B s11) <|
        f_bd (f_Mo_asItIs  s11) fun r14 s15 =>
        f_ck (zl_B s15) <|
        let s17 : Sg := uI s15 46 38 x1
        f_bd (f_Mo_ownerFor x2 s17) fun r18 s19 =>
        if x3 = 0 then
          f_Mo_edge_b65  x2 x3 r18 11 s19
        else
          f_Mo_edge_b65  x2 x3 r18 9 s19
theorem w_Mo_edge {x1 : Int32} {x2 : Int32} {x3 : Int32} {s : Sg} {d : Nat} {Q : Option (Option Value) → Sg → Prop} (hd : 13 ≤ d) (h : okx (zq_I Q) (f_Mo_edge x1 x2 x3 s)) : Cw d M_Mo_edge [.ref 46, .int x1, .int x2, .int x3] s Q := by
  refine Cw.of (by decide +kernel) (Nat.le_of_ble_eq_true rfl) ?_
  show Xw d M_Mo_edge 0 0 0 [.ref 46, .int x1, .int x2, .int x3, .retAddr 0, .retAddr 0, .retAddr 0] [] s _
  unfold f_Mo_edge at h
  refine xi_aload_n D_Mo_edge_0 rfl ?_
  refine xj_iconst (v := 0) D_Mo_edge_1 rfl ?_
  obtain ⟨g1, h⟩ := okx_ck h
  refine xi_putI D_Mo_edge_2 F_Mo_114 (zl_fo (g1).1 rfl) ⟨rfl, by decide, rfl⟩ (⟨rfl, rfl⟩) ?_
  refine xi_iload_n D_Mo_edge_5 rfl ?_
  refine xj_iconst (v := 0) D_Mo_edge_6 rfl ?_
  refine xi_aload_n D_Mo_edge_7 rfl ?_
  refine xi_getI D_Mo_edge_8 F_Mo_241 (zl_fo (g1).1 rfl) ⟨rfl, by decide⟩ ?_
  refine xj_iconst (v := 1) D_Mo_edge_11 rfl ?_
  refine xi_isub D_Mo_edge_12 ?_
  refine xj_S3 D_Mo_edge_13 L_Mo_268 C_Mo_within Z_Mo_within (Nat.le_of_ble_eq_true rfl) (Nat.le_of_eq (Nat.sub_add_cancel (by omega))) (w_Mo_within (by omega) (okx_mono (okx_bd h) ?_))
  intro r3 s4 h
  show Xw _ _ _ _ 16 _ [_] _ _
  refine xi_if_eq D_Mo_edge_16 (fun c5 => ?_) (fun c5 => ?_)
  · have h := okx_T c5 h
    refine xj_iconst (v := (-1)) D_Mo_edge_36 rfl ?_
    exact xi_ireturn D_Mo_edge_37 rfl (rfl) (okx_I h)
  · have h := okx_F c5 h
    refine xi_aload_n D_Mo_edge_19 rfl ?_
    refine xi_iload_n D_Mo_edge_20 rfl ?_
    obtain ⟨g6, h⟩ := okx_ck h
    refine xj_V1 D_Mo_edge_21 L_Mo_303 C_Mo_isThing Z_Mo_isThing (zl_fo (g6).1 rfl) (Nat.le_of_ble_eq_true rfl) (Nat.le_of_eq (Nat.sub_add_cancel (by omega))) (w_Mo_isThing (by omega) (okx_mono (okx_bd h) ?_))
    intro r7 s8 h
    show Xw _ _ _ _ 24 _ [_] _ _
    refine xi_if_eq D_Mo_edge_24 (fun c9 => ?_) (fun c9 => ?_)
    · have h := okx_T c9 h
      refine xj_iconst (v := (-1)) D_Mo_edge_36 rfl ?_
      exact xi_ireturn D_Mo_edge_37 rfl (rfl) (okx_I h)
    · have h := okx_F c9 h
      refine xi_iload_n D_Mo_edge_27 rfl ?_
      refine xj_iconst (v := 0) D_Mo_edge_28 rfl ?_
      refine xj_iconst (v := 1) D_Mo_edge_29 rfl ?_
      refine xj_S3 D_Mo_edge_30 L_Mo_268 C_Mo_within Z_Mo_within (Nat.le_of_ble_eq_true rfl) (Nat.le_of_eq (Nat.sub_add_cancel (by omega))) (w_Mo_within (by omega) (okx_mono (okx_bd h) ?_))
      intro r10 s11 h
      show Xw _ _ _ _ 33 _ [_] _ _
      refine xi_if_ne D_Mo_edge_33 (fun c12 => ?_) (fun c12 => ?_)
      · have h := okx_F c12 h
        refine xi_aload_n D_Mo_edge_38 rfl ?_
        obtain ⟨g13, h⟩ := okx_ck h
        refine xj_V0 D_Mo_edge_39 L_Mo_325 C_Mo_asItIs Z_Mo_asItIs (zl_fo (g13).1 rfl) (Nat.le_of_ble_eq_true rfl) (Nat.le_of_eq (Nat.sub_add_cancel (by omega))) (w_Mo_asItIs (by omega) (okx_mono (okx_bd h) ?_))
        intro r14 s15 h
        show Xw _ _ _ _ 42 _ [] _ _
        refine xi_aload_n D_Mo_edge_42 rfl ?_
        refine xi_iload_n D_Mo_edge_43 rfl ?_
        obtain ⟨g16, h⟩ := okx_ck h
        refine xi_putI D_Mo_edge_44 F_Mo_275 (zl_fo (g16).1 rfl) ⟨rfl, by decide, rfl⟩ (⟨rfl, rfl⟩) ?_
        refine xi_aload_n D_Mo_edge_47 rfl ?_
        refine xi_iload_n D_Mo_edge_48 rfl ?_
        refine xj_V1 D_Mo_edge_49 L_Mo_426 C_Mo_ownerFor Z_Mo_ownerFor (zl_fo (g16).1 rfl) (Nat.le_of_ble_eq_true rfl) (Nat.le_of_eq (Nat.sub_add_cancel (by omega))) (w_Mo_ownerFor (by omega) (okx_mono (okx_bd h) ?_))
        intro r18 s19 h
        show Xw _ _ _ _ 52 _ [_] _ _
        refine xi_istore (ls' := [_, _, _, _, _, _, _]) D_Mo_edge_52 rfl (by decide) ?_
        refine xi_iload_n D_Mo_edge_54 rfl ?_
        refine xi_if_ne D_Mo_edge_55 (fun c20 => ?_) (fun c20 => ?_)
        · have h := okx_F c20 h
          refine xi_bipush (v := 9) D_Mo_edge_63 rfl ?_
          exact xk_wk (w_Mo_edge_b65 (by omega)  h) ⟨Or.inl rfl, Or.inr rfl, Or.inl rfl, Or.inl rfl, Or.inl rfl, Or.inl rfl, Or.inl rfl, trivial⟩
        · have h := okx_T c20 h
          refine xi_bipush (v := 11) D_Mo_edge_58 rfl ?_
          refine xi_goto D_Mo_edge_60 ?_
          exact xk_wk (w_Mo_edge_b65 (by omega)  h) ⟨Or.inl rfl, Or.inr rfl, Or.inl rfl, Or.inl rfl, Or.inl rfl, Or.inl rfl, Or.inl rfl, trivial⟩
      · have h := okx_T c12 h
        refine xj_iconst (v := (-1)) D_Mo_edge_36 rfl ?_
        exact xi_ireturn D_Mo_edge_37 rfl (rfl) (okx_I h)
noncomputable def f_Mo_fails (x1 : Int32) (s : Sg) : Option (Int32 × Sg) :=
  f_ck (zl_B s) <|
  let s2 : Sg := uI s 46 9 (x1 + (16 * (mI s 46 5)))
  some (0, s2)
theorem w_Mo_fails {x1 : Int32} {s : Sg} {d : Nat} {Q : Option (Option Value) → Sg → Prop} (hd : 1 ≤ d) (h : okx (zq_I Q) (f_Mo_fails x1 s)) : Cw d M_Mo_fails [.ref 46, .int x1] s Q := by
  refine Cw.of (by decide +kernel) (Nat.le_of_ble_eq_true rfl) ?_
  show Xw d M_Mo_fails 0 0 0 [.ref 46, .int x1] [] s _
  unfold f_Mo_fails at h
  refine xi_aload_n D_Mo_fails_0 rfl ?_
  refine xi_iload_n D_Mo_fails_1 rfl ?_
  refine xi_bipush (v := 16) D_Mo_fails_2 rfl ?_
  refine xi_aload_n D_Mo_fails_4 rfl ?_
  obtain ⟨g1, h⟩ := okx_ck h
  refine xi_getI D_Mo_fails_5 F_Mo_129 (zl_fo (g1).1 rfl) ⟨rfl, by decide⟩ ?_
  refine xi_imul D_Mo_fails_8 ?_
  refine xi_iadd D_Mo_fails_9 ?_
  refine xi_putI D_Mo_fails_10 F_Mo_150 (zl_fo (g1).1 rfl) ⟨rfl, by decide, rfl⟩ (⟨rfl, rfl⟩) ?_
  refine xj_iconst (v := 0) D_Mo_fails_13 rfl ?_
  exact xi_ireturn D_Mo_fails_14 rfl (rfl) (okx_I h)
noncomputable def f_Mo_isSign (x1 : Int32) (s : Sg) : Option (Int32 × Sg) :=
  f_ck (zl_B s) <|
  if (mI s 46 6) = 3 then
    f_ck (vp_in (mI s 46 5) 1000) <|
    if (mI s 47 (Int32.toNatClampNeg (mI s 46 5))) = x1 then
      some (1, s)
    else
      some (0, s)
  else
    some (0, s)
theorem w_Mo_isSign {x1 : Int32} {s : Sg} {d : Nat} {Q : Option (Option Value) → Sg → Prop} (hd : 1 ≤ d) (h : okx (zq_I Q) (f_Mo_isSign x1 s)) : Cw d M_Mo_isSign [.ref 46, .int x1] s Q := by
  refine Cw.of (by decide +kernel) (Nat.le_of_ble_eq_true rfl) ?_
  show Xw d M_Mo_isSign 0 0 0 [.ref 46, .int x1] [] s _
  unfold f_Mo_isSign at h
  refine xi_aload_n D_Mo_isSign_0 rfl ?_
  obtain ⟨g1, h⟩ := okx_ck h
  refine xi_getI D_Mo_isSign_1 F_Mo_139 (zl_fo (g1).1 rfl) ⟨rfl, by decide⟩ ?_
  refine xj_iconst (v := 3) D_Mo_isSign_4 rfl ?_
  refine xi_icmp_ne D_Mo_isSign_5 (fun c2 => ?_) (fun c2 => ?_)
  · have h := okx_F c2 h
    refine xj_iconst (v := 0) D_Mo_isSign_25 rfl ?_
    exact xi_ireturn D_Mo_isSign_26 rfl (rfl) (okx_I h)
  · have h := okx_T c2 h
    refine xi_aload_n D_Mo_isSign_8 rfl ?_
    refine xi_getR D_Mo_isSign_9 F_Mo_7 (zl_fo (g1).1 rfl) ⟨rfl, by decide⟩ (zl_gr (g1).2 rfl rfl) ?_
    refine xi_aload_n D_Mo_isSign_12 rfl ?_
    refine xi_getI D_Mo_isSign_13 F_Mo_129 (zl_fo (g1).1 rfl) ⟨rfl, by decide⟩ ?_
    obtain ⟨g3, h⟩ := okx_ck h
    refine xj_iald D_Mo_isSign_16 (zl_fx (g1).1 rfl) (zl_ib (n := 1000) rfl (g3)) ?_
    refine xi_iload_n D_Mo_isSign_17 rfl ?_
    refine xi_icmp_ne D_Mo_isSign_18 (fun c4 => ?_) (fun c4 => ?_)
    · have h := okx_F c4 h
      refine xj_iconst (v := 0) D_Mo_isSign_25 rfl ?_
      exact xi_ireturn D_Mo_isSign_26 rfl (rfl) (okx_I h)
    · have h := okx_T c4 h
      refine xj_iconst (v := 1) D_Mo_isSign_21 rfl ?_
      refine xi_goto D_Mo_isSign_22 ?_
      exact xi_ireturn D_Mo_isSign_26 rfl (rfl) (okx_I h)
noncomputable def f_Mo_signAt (x1 : Int32) (s : Sg) : Option (Int32 × Sg) :=
  f_ck (zl_B s) <|
  if (mI s 46 3) ≤ x1 then
    some (0, s)
  else
    f_ck (vp_in x1 1000) <|
    some ((mI s 47 (Int32.toNatClampNeg x1)), s)
theorem w_Mo_signAt {x1 : Int32} {s : Sg} {d : Nat} {Q : Option (Option Value) → Sg → Prop} (hd : 1 ≤ d) (h : okx (zq_I Q) (f_Mo_signAt x1 s)) : Cw d M_Mo_signAt [.ref 46, .int x1] s Q := by
  refine Cw.of (by decide +kernel) (Nat.le_of_ble_eq_true rfl) ?_
  show Xw d M_Mo_signAt 0 0 0 [.ref 46, .int x1] [] s _
  unfold f_Mo_signAt at h
  refine xi_iload_n D_Mo_signAt_0 rfl ?_
  refine xi_aload_n D_Mo_signAt_1 rfl ?_
  obtain ⟨g1, h⟩ := okx_ck h
  refine xi_getI D_Mo_signAt_2 F_Mo_123 (zl_fo (g1).1 rfl) ⟨rfl, by decide⟩ ?_
  refine xi_icmp_ge D_Mo_signAt_5 (fun c2 => ?_) (fun c2 => ?_)
  · have h := okx_T c2 h
    refine xj_iconst (v := 0) D_Mo_signAt_17 rfl ?_
    exact xi_ireturn D_Mo_signAt_18 rfl (rfl) (okx_I h)
  · have h := okx_F c2 h
    refine xi_aload_n D_Mo_signAt_8 rfl ?_
    refine xi_getR D_Mo_signAt_9 F_Mo_7 (zl_fo (g1).1 rfl) ⟨rfl, by decide⟩ (zl_gr (g1).2 rfl rfl) ?_
    refine xi_iload_n D_Mo_signAt_12 rfl ?_
    obtain ⟨g3, h⟩ := okx_ck h
    refine xj_iald D_Mo_signAt_13 (zl_fx (g1).1 rfl) (zl_ib (n := 1000) rfl (g3)) ?_
    refine xi_goto D_Mo_signAt_14 ?_
    exact xi_ireturn D_Mo_signAt_18 rfl (rfl) (okx_I h)
noncomputable def f_Mo_nextToken_b39 (R0 : Sg → Option (Unit × Sg))  (s : Sg) : Option (Unit × Sg) :=
  f_ck (zl_B s) <|
  let s8 : Sg := uI s 46 4 ((mI s 46 4) + 1)
  R0  s8
theorem w_Mo_nextToken_b39 {s : Sg} {d : Nat} {Q : Option (Option Value) → Sg → Prop} (hd : 2 ≤ d) {R0 : Sg → Option (Unit × Sg)} (hR0 : ∀ (s : Sg), okx (zq_V Q) (R0  s) → Xw d M_Mo_nextToken 0 0 0 [.ref 46, .retAddr 0] [] s Q) (h : okx (zq_V Q) (f_Mo_nextToken_b39 R0  s)) : Xw d M_Mo_nextToken 0 0 39 [.ref 46, .retAddr 0] [] s Q := by
  unfold f_Mo_nextToken_b39 at h
  refine xi_aload_n D_Mo_nextToken_39 rfl ?_
  refine xi_dupr D_Mo_nextToken_40 ?_
  obtain ⟨g7, h⟩ := okx_ck h
  refine xi_getI D_Mo_nextToken_41 F_Mo_126 (zl_fo (g7).1 rfl) ⟨rfl, by decide⟩ ?_
  refine xj_iconst (v := 1) D_Mo_nextToken_44 rfl ?_
  refine xi_iadd D_Mo_nextToken_45 ?_
  refine xi_putI D_Mo_nextToken_46 F_Mo_126 (zl_fo (g7).1 rfl) ⟨rfl, by decide, rfl⟩ (⟨rfl, rfl⟩) ?_
  refine xi_goto D_Mo_nextToken_49 ?_
  exact hR0 _ h
noncomputable def f_Mo_nextToken_b175 (R109 : Sg → Option (Unit × Sg))  (s : Sg) : Option (Unit × Sg) :=
  f_ck (zl_B s) <|
  let s33 : Sg := uI s 46 4 ((mI s 46 4) + 1)
  R109  s33
theorem w_Mo_nextToken_b175 {s : Sg} {d : Nat} {Q : Option (Option Value) → Sg → Prop} (hd : 2 ≤ d) {R109 : Sg → Option (Unit × Sg)} (hR109 : ∀ (s : Sg), okx (zq_V Q) (R109  s) → Xw d M_Mo_nextToken 0 0 109 [.ref 46, .retAddr 0] [] s Q) (h : okx (zq_V Q) (f_Mo_nextToken_b175 R109  s)) : Xw d M_Mo_nextToken 0 0 175 [.ref 46, .retAddr 0] [] s Q := by
  unfold f_Mo_nextToken_b175 at h
  refine xi_aload_n D_Mo_nextToken_175 rfl ?_
  refine xi_dupr D_Mo_nextToken_176 ?_
  obtain ⟨g32, h⟩ := okx_ck h
  refine xi_getI D_Mo_nextToken_177 F_Mo_126 (zl_fo (g32).1 rfl) ⟨rfl, by decide⟩ ?_
  refine xj_iconst (v := 1) D_Mo_nextToken_180 rfl ?_
  refine xi_iadd D_Mo_nextToken_181 ?_
  refine xi_putI D_Mo_nextToken_182 F_Mo_126 (zl_fo (g32).1 rfl) ⟨rfl, by decide, rfl⟩ (⟨rfl, rfl⟩) ?_
  refine xi_goto D_Mo_nextToken_185 ?_
  exact hR109 _ h
noncomputable def f_Mo_nextToken_b208 (y1 : Int32) (s : Sg) : Option (Unit × Sg) :=
  f_ck (zl_B s) <|
  let s37 : Sg := uI s 46 6 y1
  some ((), s37)
theorem w_Mo_nextToken_b208 {y1 : Int32} {s : Sg} {d : Nat} {Q : Option (Option Value) → Sg → Prop} (hd : 2 ≤ d) (h : okx (zq_V Q) (f_Mo_nextToken_b208 y1 s)) : Xw d M_Mo_nextToken 0 0 208 [.retAddr 0, .retAddr 0] [.int y1, .ref 46] s Q := by
  unfold f_Mo_nextToken_b208 at h
  obtain ⟨g36, h⟩ := okx_ck h
  refine xi_putI D_Mo_nextToken_208 F_Mo_139 (zl_fo (g36).1 rfl) ⟨rfl, by decide, rfl⟩ (⟨rfl, rfl⟩) ?_
  exact xi_return D_Mo_nextToken_211 rfl (okx_V h)
noncomputable def f_Mo_nextToken_b188  (s : Sg) : Option (Unit × Sg) :=
  f_ck (zl_B s) <|
  if ((mI s 46 4) - (mI s 46 5)) ≤ 8 then
    f_Mo_nextToken_b208  1 s
  else
    f_Mo_nextToken_b208  4 s
theorem w_Mo_nextToken_b188 {s : Sg} {d : Nat} {Q : Option (Option Value) → Sg → Prop} (hd : 2 ≤ d) (h : okx (zq_V Q) (f_Mo_nextToken_b188  s)) : Xw d M_Mo_nextToken 0 0 188 [.ref 46, .retAddr 0] [] s Q := by
  unfold f_Mo_nextToken_b188 at h
  refine xi_aload_n D_Mo_nextToken_188 rfl ?_
  refine xi_aload_n D_Mo_nextToken_189 rfl ?_
  obtain ⟨g34, h⟩ := okx_ck h
  refine xi_getI D_Mo_nextToken_190 F_Mo_126 (zl_fo (g34).1 rfl) ⟨rfl, by decide⟩ ?_
  refine xi_aload_n D_Mo_nextToken_193 rfl ?_
  refine xi_getI D_Mo_nextToken_194 F_Mo_129 (zl_fo (g34).1 rfl) ⟨rfl, by decide⟩ ?_
  refine xi_isub D_Mo_nextToken_197 ?_
  refine xi_bipush (v := 8) D_Mo_nextToken_198 rfl ?_
  refine xi_icmp_le D_Mo_nextToken_200 (fun c35 => ?_) (fun c35 => ?_)
  · have h := okx_T c35 h
    refine xj_iconst (v := 1) D_Mo_nextToken_207 rfl ?_
    exact xk_wk (w_Mo_nextToken_b208 (by omega)  h) ⟨Or.inr rfl, Or.inl rfl, trivial⟩
  · have h := okx_F c35 h
    refine xj_iconst (v := 4) D_Mo_nextToken_203 rfl ?_
    refine xi_goto D_Mo_nextToken_204 ?_
    exact xk_wk (w_Mo_nextToken_b208 (by omega)  h) ⟨Or.inr rfl, Or.inl rfl, trivial⟩
noncomputable def f_Mo_nextToken_b109 (R109 : Sg → Option (Unit × Sg))  (s : Sg) : Option (Unit × Sg) :=
  f_ck (zl_B s) <|
  f_bd (f_Mo_signAt (mI s 46 4) s) fun r19 s20 =>
  if r19 < 97 then
    f_Mo_nextToken_b188   s20
  else
    f_ck (zl_B s20) <|
    f_bd (f_Mo_signAt (mI s20 46 4) s20) fun r23 s24 =>
    if 122 < r23 then
      f_Mo_nextToken_b188   s24
    else
      f_ck (zl_B s24) <|
      if 8 ≤ ((mI s24 46 4) - (mI s24 46 5)) then
        f_Mo_nextToken_b175 R109  s24
      else
        f_bd (f_Mo_signAt (mI s24 46 4) s24) fun r28 s29 =>
        f_ck (zl_B s29) <|
        let s31 : Sg := uL s29 46 7 ((((mL s24 46 7) * 27) + (Int32.toInt64 r28)) - 96)
        f_Mo_nextToken_b175 R109  s31
theorem w_Mo_nextToken_b109 {s : Sg} {d : Nat} {Q : Option (Option Value) → Sg → Prop} (hd : 2 ≤ d) {R109 : Sg → Option (Unit × Sg)} (hR109 : ∀ (s : Sg), okx (zq_V Q) (R109  s) → Xw d M_Mo_nextToken 0 0 109 [.ref 46, .retAddr 0] [] s Q) (h : okx (zq_V Q) (f_Mo_nextToken_b109 R109  s)) : Xw d M_Mo_nextToken 0 0 109 [.ref 46, .retAddr 0] [] s Q := by
  unfold f_Mo_nextToken_b109 at h
  refine xi_aload_n D_Mo_nextToken_109 rfl ?_
  refine xi_aload_n D_Mo_nextToken_110 rfl ?_
  obtain ⟨g18, h⟩ := okx_ck h
  refine xi_getI D_Mo_nextToken_111 F_Mo_126 (zl_fo (g18).1 rfl) ⟨rfl, by decide⟩ ?_
  refine xj_V1 D_Mo_nextToken_114 L_Mo_142 C_Mo_signAt Z_Mo_signAt (zl_fo (g18).1 rfl) (Nat.le_of_ble_eq_true rfl) (Nat.le_of_eq (Nat.sub_add_cancel (by omega))) (w_Mo_signAt (by omega) (okx_mono (okx_bd h) ?_))
  intro r19 s20 h
  show Xw _ _ _ _ 117 _ [_] _ _
  refine xi_bipush (v := 97) D_Mo_nextToken_117 rfl ?_
  refine xi_icmp_lt D_Mo_nextToken_119 (fun c21 => ?_) (fun c21 => ?_)
  · have h := okx_T c21 h
    exact w_Mo_nextToken_b188 (by omega)  h
  · have h := okx_F c21 h
    refine xi_aload_n D_Mo_nextToken_122 rfl ?_
    refine xi_aload_n D_Mo_nextToken_123 rfl ?_
    obtain ⟨g22, h⟩ := okx_ck h
    refine xi_getI D_Mo_nextToken_124 F_Mo_126 (zl_fo (g22).1 rfl) ⟨rfl, by decide⟩ ?_
    refine xj_V1 D_Mo_nextToken_127 L_Mo_142 C_Mo_signAt Z_Mo_signAt (zl_fo (g22).1 rfl) (Nat.le_of_ble_eq_true rfl) (Nat.le_of_eq (Nat.sub_add_cancel (by omega))) (w_Mo_signAt (by omega) (okx_mono (okx_bd h) ?_))
    intro r23 s24 h
    show Xw _ _ _ _ 130 _ [_] _ _
    refine xi_bipush (v := 122) D_Mo_nextToken_130 rfl ?_
    refine xi_icmp_gt D_Mo_nextToken_132 (fun c25 => ?_) (fun c25 => ?_)
    · have h := okx_T c25 h
      exact w_Mo_nextToken_b188 (by omega)  h
    · have h := okx_F c25 h
      refine xi_aload_n D_Mo_nextToken_135 rfl ?_
      obtain ⟨g26, h⟩ := okx_ck h
      refine xi_getI D_Mo_nextToken_136 F_Mo_126 (zl_fo (g26).1 rfl) ⟨rfl, by decide⟩ ?_
      refine xi_aload_n D_Mo_nextToken_139 rfl ?_
      refine xi_getI D_Mo_nextToken_140 F_Mo_129 (zl_fo (g26).1 rfl) ⟨rfl, by decide⟩ ?_
      refine xi_isub D_Mo_nextToken_143 ?_
      refine xi_bipush (v := 8) D_Mo_nextToken_144 rfl ?_
      refine xi_icmp_ge D_Mo_nextToken_146 (fun c27 => ?_) (fun c27 => ?_)
      · have h := okx_T c27 h
        exact w_Mo_nextToken_b175 (by omega) hR109 h
      · have h := okx_F c27 h
        refine xi_aload_n D_Mo_nextToken_149 rfl ?_
        refine xi_aload_n D_Mo_nextToken_150 rfl ?_
        refine xi_getL D_Mo_nextToken_151 F_Mo_132 (zl_fo (g26).1 rfl) ⟨rfl, by decide⟩ ?_
        refine xi_ldc2 D_Mo_nextToken_154 K_Mo_146 ?_
        refine xi_lmul D_Mo_nextToken_157 ?_
        refine xi_aload_n D_Mo_nextToken_158 rfl ?_
        refine xi_aload_n D_Mo_nextToken_159 rfl ?_
        refine xi_getI D_Mo_nextToken_160 F_Mo_126 (zl_fo (g26).1 rfl) ⟨rfl, by decide⟩ ?_
        refine xj_V1 D_Mo_nextToken_163 L_Mo_142 C_Mo_signAt Z_Mo_signAt (zl_fo (g26).1 rfl) (Nat.le_of_ble_eq_true rfl) (Nat.le_of_eq (Nat.sub_add_cancel (by omega))) (w_Mo_signAt (by omega) (okx_mono (okx_bd h) ?_))
        intro r28 s29 h
        show Xw _ _ _ _ 166 _ [_, _, _] _ _
        refine xi_i2l D_Mo_nextToken_166 ?_
        refine xi_ladd D_Mo_nextToken_167 ?_
        refine xi_ldc2 D_Mo_nextToken_168 K_Mo_148 ?_
        refine xi_lsub D_Mo_nextToken_171 ?_
        obtain ⟨g30, h⟩ := okx_ck h
        refine xi_putL D_Mo_nextToken_172 F_Mo_132 (zl_fo (g30).1 rfl) ⟨rfl, by decide, rfl⟩ rfl ?_
        exact w_Mo_nextToken_b175 (by omega) hR109 h
noncomputable def f_Mo_nextToken_h109 : Nat → Sg → Option (Unit × Sg)
  | 0, _ => none
  | n + 1, s => f_Mo_nextToken_b109 (f_Mo_nextToken_h109 n)  s
theorem w_Mo_nextToken_h109 {d : Nat} {Q : Option (Option Value) → Sg → Prop} (hd : 2 ≤ d) : ∀ (n : Nat) (s : Sg), okx (zq_V Q) (f_Mo_nextToken_h109 n  s) → Xw d M_Mo_nextToken 0 0 109 [.ref 46, .retAddr 0] [] s Q := by
  intro n
  induction n with
  | zero => intro  s h; exact okx_no h
  | succ n ih => intro  s h; exact w_Mo_nextToken_b109 hd  ih  h
noncomputable def f_Mo_nextToken_b286 (R224 : Sg → Option (Unit × Sg))  (s : Sg) : Option (Unit × Sg) :=
  f_ck (zl_B s) <|
  let s55 : Sg := uI s 46 4 ((mI s 46 4) + 1)
  R224  s55
theorem w_Mo_nextToken_b286 {s : Sg} {d : Nat} {Q : Option (Option Value) → Sg → Prop} (hd : 2 ≤ d) {R224 : Sg → Option (Unit × Sg)} (hR224 : ∀ (s : Sg), okx (zq_V Q) (R224  s) → Xw d M_Mo_nextToken 0 0 224 [.ref 46, .retAddr 0] [] s Q) (h : okx (zq_V Q) (f_Mo_nextToken_b286 R224  s)) : Xw d M_Mo_nextToken 0 0 286 [.ref 46, .retAddr 0] [] s Q := by
  unfold f_Mo_nextToken_b286 at h
  refine xi_aload_n D_Mo_nextToken_286 rfl ?_
  refine xi_dupr D_Mo_nextToken_287 ?_
  obtain ⟨g54, h⟩ := okx_ck h
  refine xi_getI D_Mo_nextToken_288 F_Mo_126 (zl_fo (g54).1 rfl) ⟨rfl, by decide⟩ ?_
  refine xj_iconst (v := 1) D_Mo_nextToken_291 rfl ?_
  refine xi_iadd D_Mo_nextToken_292 ?_
  refine xi_putI D_Mo_nextToken_293 F_Mo_126 (zl_fo (g54).1 rfl) ⟨rfl, by decide, rfl⟩ (⟨rfl, rfl⟩) ?_
  refine xi_goto D_Mo_nextToken_296 ?_
  exact hR224 _ h
noncomputable def f_Mo_nextToken_b318 (y1 : Int32) (s : Sg) : Option (Unit × Sg) :=
  f_ck (zl_B s) <|
  let s59 : Sg := uI s 46 6 y1
  some ((), s59)
theorem w_Mo_nextToken_b318 {y1 : Int32} {s : Sg} {d : Nat} {Q : Option (Option Value) → Sg → Prop} (hd : 2 ≤ d) (h : okx (zq_V Q) (f_Mo_nextToken_b318 y1 s)) : Xw d M_Mo_nextToken 0 0 318 [.retAddr 0, .retAddr 0] [.int y1, .ref 46] s Q := by
  unfold f_Mo_nextToken_b318 at h
  obtain ⟨g58, h⟩ := okx_ck h
  refine xi_putI D_Mo_nextToken_318 F_Mo_139 (zl_fo (g58).1 rfl) ⟨rfl, by decide, rfl⟩ (⟨rfl, rfl⟩) ?_
  exact xi_return D_Mo_nextToken_321 rfl (okx_V h)
noncomputable def f_Mo_nextToken_b299  (s : Sg) : Option (Unit × Sg) :=
  f_ck (zl_B s) <|
  if ((mI s 46 4) - (mI s 46 5)) ≤ 4 then
    f_Mo_nextToken_b318  2 s
  else
    f_Mo_nextToken_b318  4 s
theorem w_Mo_nextToken_b299 {s : Sg} {d : Nat} {Q : Option (Option Value) → Sg → Prop} (hd : 2 ≤ d) (h : okx (zq_V Q) (f_Mo_nextToken_b299  s)) : Xw d M_Mo_nextToken 0 0 299 [.ref 46, .retAddr 0] [] s Q := by
  unfold f_Mo_nextToken_b299 at h
  refine xi_aload_n D_Mo_nextToken_299 rfl ?_
  refine xi_aload_n D_Mo_nextToken_300 rfl ?_
  obtain ⟨g56, h⟩ := okx_ck h
  refine xi_getI D_Mo_nextToken_301 F_Mo_126 (zl_fo (g56).1 rfl) ⟨rfl, by decide⟩ ?_
  refine xi_aload_n D_Mo_nextToken_304 rfl ?_
  refine xi_getI D_Mo_nextToken_305 F_Mo_129 (zl_fo (g56).1 rfl) ⟨rfl, by decide⟩ ?_
  refine xi_isub D_Mo_nextToken_308 ?_
  refine xj_iconst (v := 4) D_Mo_nextToken_309 rfl ?_
  refine xi_icmp_le D_Mo_nextToken_310 (fun c57 => ?_) (fun c57 => ?_)
  · have h := okx_T c57 h
    refine xj_iconst (v := 2) D_Mo_nextToken_317 rfl ?_
    exact xk_wk (w_Mo_nextToken_b318 (by omega)  h) ⟨Or.inr rfl, Or.inl rfl, trivial⟩
  · have h := okx_F c57 h
    refine xj_iconst (v := 4) D_Mo_nextToken_313 rfl ?_
    refine xi_goto D_Mo_nextToken_314 ?_
    exact xk_wk (w_Mo_nextToken_b318 (by omega)  h) ⟨Or.inr rfl, Or.inl rfl, trivial⟩
noncomputable def f_Mo_nextToken_b224 (R224 : Sg → Option (Unit × Sg))  (s : Sg) : Option (Unit × Sg) :=
  f_ck (zl_B s) <|
  f_bd (f_Mo_signAt (mI s 46 4) s) fun r41 s42 =>
  if r41 < 48 then
    f_Mo_nextToken_b299   s42
  else
    f_ck (zl_B s42) <|
    f_bd (f_Mo_signAt (mI s42 46 4) s42) fun r45 s46 =>
    if 57 < r45 then
      f_Mo_nextToken_b299   s46
    else
      f_ck (zl_B s46) <|
      if 4 ≤ ((mI s46 46 4) - (mI s46 46 5)) then
        f_Mo_nextToken_b286 R224  s46
      else
        f_bd (f_Mo_signAt (mI s46 46 4) s46) fun r50 s51 =>
        f_ck (zl_B s51) <|
        let s53 : Sg := uI s51 46 8 ((((mI s46 46 8) * 10) + r50) - 48)
        f_Mo_nextToken_b286 R224  s53
theorem w_Mo_nextToken_b224 {s : Sg} {d : Nat} {Q : Option (Option Value) → Sg → Prop} (hd : 2 ≤ d) {R224 : Sg → Option (Unit × Sg)} (hR224 : ∀ (s : Sg), okx (zq_V Q) (R224  s) → Xw d M_Mo_nextToken 0 0 224 [.ref 46, .retAddr 0] [] s Q) (h : okx (zq_V Q) (f_Mo_nextToken_b224 R224  s)) : Xw d M_Mo_nextToken 0 0 224 [.ref 46, .retAddr 0] [] s Q := by
  unfold f_Mo_nextToken_b224 at h
  refine xi_aload_n D_Mo_nextToken_224 rfl ?_
  refine xi_aload_n D_Mo_nextToken_225 rfl ?_
  obtain ⟨g40, h⟩ := okx_ck h
  refine xi_getI D_Mo_nextToken_226 F_Mo_126 (zl_fo (g40).1 rfl) ⟨rfl, by decide⟩ ?_
  refine xj_V1 D_Mo_nextToken_229 L_Mo_142 C_Mo_signAt Z_Mo_signAt (zl_fo (g40).1 rfl) (Nat.le_of_ble_eq_true rfl) (Nat.le_of_eq (Nat.sub_add_cancel (by omega))) (w_Mo_signAt (by omega) (okx_mono (okx_bd h) ?_))
  intro r41 s42 h
  show Xw _ _ _ _ 232 _ [_] _ _
  refine xi_bipush (v := 48) D_Mo_nextToken_232 rfl ?_
  refine xi_icmp_lt D_Mo_nextToken_234 (fun c43 => ?_) (fun c43 => ?_)
  · have h := okx_T c43 h
    exact w_Mo_nextToken_b299 (by omega)  h
  · have h := okx_F c43 h
    refine xi_aload_n D_Mo_nextToken_237 rfl ?_
    refine xi_aload_n D_Mo_nextToken_238 rfl ?_
    obtain ⟨g44, h⟩ := okx_ck h
    refine xi_getI D_Mo_nextToken_239 F_Mo_126 (zl_fo (g44).1 rfl) ⟨rfl, by decide⟩ ?_
    refine xj_V1 D_Mo_nextToken_242 L_Mo_142 C_Mo_signAt Z_Mo_signAt (zl_fo (g44).1 rfl) (Nat.le_of_ble_eq_true rfl) (Nat.le_of_eq (Nat.sub_add_cancel (by omega))) (w_Mo_signAt (by omega) (okx_mono (okx_bd h) ?_))
    intro r45 s46 h
    show Xw _ _ _ _ 245 _ [_] _ _
    refine xi_bipush (v := 57) D_Mo_nextToken_245 rfl ?_
    refine xi_icmp_gt D_Mo_nextToken_247 (fun c47 => ?_) (fun c47 => ?_)
    · have h := okx_T c47 h
      exact w_Mo_nextToken_b299 (by omega)  h
    · have h := okx_F c47 h
      refine xi_aload_n D_Mo_nextToken_250 rfl ?_
      obtain ⟨g48, h⟩ := okx_ck h
      refine xi_getI D_Mo_nextToken_251 F_Mo_126 (zl_fo (g48).1 rfl) ⟨rfl, by decide⟩ ?_
      refine xi_aload_n D_Mo_nextToken_254 rfl ?_
      refine xi_getI D_Mo_nextToken_255 F_Mo_129 (zl_fo (g48).1 rfl) ⟨rfl, by decide⟩ ?_
      refine xi_isub D_Mo_nextToken_258 ?_
      refine xj_iconst (v := 4) D_Mo_nextToken_259 rfl ?_
      refine xi_icmp_ge D_Mo_nextToken_260 (fun c49 => ?_) (fun c49 => ?_)
      · have h := okx_T c49 h
        exact w_Mo_nextToken_b286 (by omega) hR224 h
      · have h := okx_F c49 h
        refine xi_aload_n D_Mo_nextToken_263 rfl ?_
        refine xi_aload_n D_Mo_nextToken_264 rfl ?_
        refine xi_getI D_Mo_nextToken_265 F_Mo_136 (zl_fo (g48).1 rfl) ⟨rfl, by decide⟩ ?_
        refine xi_bipush (v := 10) D_Mo_nextToken_268 rfl ?_
        refine xi_imul D_Mo_nextToken_270 ?_
        refine xi_aload_n D_Mo_nextToken_271 rfl ?_
        refine xi_aload_n D_Mo_nextToken_272 rfl ?_
        refine xi_getI D_Mo_nextToken_273 F_Mo_126 (zl_fo (g48).1 rfl) ⟨rfl, by decide⟩ ?_
        refine xj_V1 D_Mo_nextToken_276 L_Mo_142 C_Mo_signAt Z_Mo_signAt (zl_fo (g48).1 rfl) (Nat.le_of_ble_eq_true rfl) (Nat.le_of_eq (Nat.sub_add_cancel (by omega))) (w_Mo_signAt (by omega) (okx_mono (okx_bd h) ?_))
        intro r50 s51 h
        show Xw _ _ _ _ 279 _ [_, _, _] _ _
        refine xi_iadd D_Mo_nextToken_279 ?_
        refine xi_bipush (v := 48) D_Mo_nextToken_280 rfl ?_
        refine xi_isub D_Mo_nextToken_282 ?_
        obtain ⟨g52, h⟩ := okx_ck h
        refine xi_putI D_Mo_nextToken_283 F_Mo_136 (zl_fo (g52).1 rfl) ⟨rfl, by decide, rfl⟩ (⟨rfl, rfl⟩) ?_
        exact w_Mo_nextToken_b286 (by omega) hR224 h
noncomputable def f_Mo_nextToken_h224 : Nat → Sg → Option (Unit × Sg)
  | 0, _ => none
  | n + 1, s => f_Mo_nextToken_b224 (f_Mo_nextToken_h224 n)  s
theorem w_Mo_nextToken_h224 {d : Nat} {Q : Option (Option Value) → Sg → Prop} (hd : 2 ≤ d) : ∀ (n : Nat) (s : Sg), okx (zq_V Q) (f_Mo_nextToken_h224 n  s) → Xw d M_Mo_nextToken 0 0 224 [.ref 46, .retAddr 0] [] s Q := by
  intro n
  induction n with
  | zero => intro  s h; exact okx_no h
  | succ n ih => intro  s h; exact w_Mo_nextToken_b224 hd  ih  h
noncomputable def f_Mo_nextToken_b368 (y1 : Int32) (s : Sg) : Option (Unit × Sg) :=
  f_ck (zl_B s) <|
  let s68 : Sg := uI s 46 6 y1
  some ((), s68)
theorem w_Mo_nextToken_b368 {y1 : Int32} {s : Sg} {d : Nat} {Q : Option (Option Value) → Sg → Prop} (hd : 2 ≤ d) (h : okx (zq_V Q) (f_Mo_nextToken_b368 y1 s)) : Xw d M_Mo_nextToken 0 0 368 [.retAddr 0, .retAddr 0] [.int y1, .ref 46] s Q := by
  unfold f_Mo_nextToken_b368 at h
  obtain ⟨g67, h⟩ := okx_ck h
  refine xi_putI D_Mo_nextToken_368 F_Mo_139 (zl_fo (g67).1 rfl) ⟨rfl, by decide, rfl⟩ (⟨rfl, rfl⟩) ?_
  exact xi_return D_Mo_nextToken_371 rfl (okx_V h)
noncomputable def f_Mo_nextToken_b363  (s : Sg) : Option (Unit × Sg) :=
  f_Mo_nextToken_b368  3 s
theorem w_Mo_nextToken_b363 {s : Sg} {d : Nat} {Q : Option (Option Value) → Sg → Prop} (hd : 2 ≤ d) (h : okx (zq_V Q) (f_Mo_nextToken_b363  s)) : Xw d M_Mo_nextToken 0 0 363 [.retAddr 0, .retAddr 0] [.ref 46] s Q := by
  unfold f_Mo_nextToken_b363 at h
  refine xj_iconst (v := 3) D_Mo_nextToken_363 rfl ?_
  refine xi_goto D_Mo_nextToken_364 ?_
  exact w_Mo_nextToken_b368 (by omega)  h
noncomputable def f_Mo_nextToken_b367  (s : Sg) : Option (Unit × Sg) :=
  f_Mo_nextToken_b368  4 s
theorem w_Mo_nextToken_b367 {s : Sg} {d : Nat} {Q : Option (Option Value) → Sg → Prop} (hd : 2 ≤ d) (h : okx (zq_V Q) (f_Mo_nextToken_b367  s)) : Xw d M_Mo_nextToken 0 0 367 [.retAddr 0, .retAddr 0] [.ref 46] s Q := by
  unfold f_Mo_nextToken_b367 at h
  refine xj_iconst (v := 4) D_Mo_nextToken_367 rfl ?_
  exact w_Mo_nextToken_b368 (by omega)  h
noncomputable def f_Mo_nextToken_b345 (x1 : Int32) (s : Sg) : Option (Unit × Sg) :=
  if x1 = 45 then
    f_Mo_nextToken_b363   s
  else
    if x1 < 59 then
      f_Mo_nextToken_b367   s
    else
      if 61 < x1 then
        f_Mo_nextToken_b367   s
      else
        f_Mo_nextToken_b363   s
theorem w_Mo_nextToken_b345 {x1 : Int32} {s : Sg} {d : Nat} {Q : Option (Option Value) → Sg → Prop} (hd : 2 ≤ d) (h : okx (zq_V Q) (f_Mo_nextToken_b345 x1 s)) : Xw d M_Mo_nextToken 0 0 345 [.retAddr 0, .int x1] [.ref 46] s Q := by
  unfold f_Mo_nextToken_b345 at h
  refine xi_iload_n D_Mo_nextToken_345 rfl ?_
  refine xi_bipush (v := 45) D_Mo_nextToken_346 rfl ?_
  refine xi_icmp_eq D_Mo_nextToken_348 (fun c64 => ?_) (fun c64 => ?_)
  · have h := okx_T c64 h
    exact xk_wk (w_Mo_nextToken_b363 (by omega)  h) ⟨Or.inl rfl, Or.inr rfl, trivial⟩
  · have h := okx_F c64 h
    refine xi_iload_n D_Mo_nextToken_351 rfl ?_
    refine xi_bipush (v := 59) D_Mo_nextToken_352 rfl ?_
    refine xi_icmp_lt D_Mo_nextToken_354 (fun c65 => ?_) (fun c65 => ?_)
    · have h := okx_T c65 h
      exact xk_wk (w_Mo_nextToken_b367 (by omega)  h) ⟨Or.inl rfl, Or.inr rfl, trivial⟩
    · have h := okx_F c65 h
      refine xi_iload_n D_Mo_nextToken_357 rfl ?_
      refine xi_bipush (v := 61) D_Mo_nextToken_358 rfl ?_
      refine xi_icmp_gt D_Mo_nextToken_360 (fun c66 => ?_) (fun c66 => ?_)
      · have h := okx_T c66 h
        exact xk_wk (w_Mo_nextToken_b367 (by omega)  h) ⟨Or.inl rfl, Or.inr rfl, trivial⟩
      · have h := okx_F c66 h
        exact xk_wk (w_Mo_nextToken_b363 (by omega)  h) ⟨Or.inl rfl, Or.inr rfl, trivial⟩
noncomputable def f_Mo_nextToken_b322 (x1 : Int32) (s : Sg) : Option (Unit × Sg) :=
  f_ck (zl_B s) <|
  let s61 : Sg := uI s 46 4 ((mI s 46 4) + 1)
  if x1 < 40 then
    f_Mo_nextToken_b345  x1 s61
  else
    if x1 ≤ 43 then
      f_Mo_nextToken_b363   s61
    else
      f_Mo_nextToken_b345  x1 s61
theorem w_Mo_nextToken_b322 {x1 : Int32} {s : Sg} {d : Nat} {Q : Option (Option Value) → Sg → Prop} (hd : 2 ≤ d) (h : okx (zq_V Q) (f_Mo_nextToken_b322 x1 s)) : Xw d M_Mo_nextToken 0 0 322 [.ref 46, .int x1] [] s Q := by
  unfold f_Mo_nextToken_b322 at h
  refine xi_aload_n D_Mo_nextToken_322 rfl ?_
  refine xi_dupr D_Mo_nextToken_323 ?_
  obtain ⟨g60, h⟩ := okx_ck h
  refine xi_getI D_Mo_nextToken_324 F_Mo_126 (zl_fo (g60).1 rfl) ⟨rfl, by decide⟩ ?_
  refine xj_iconst (v := 1) D_Mo_nextToken_327 rfl ?_
  refine xi_iadd D_Mo_nextToken_328 ?_
  refine xi_putI D_Mo_nextToken_329 F_Mo_126 (zl_fo (g60).1 rfl) ⟨rfl, by decide, rfl⟩ (⟨rfl, rfl⟩) ?_
  refine xi_aload_n D_Mo_nextToken_332 rfl ?_
  refine xi_iload_n D_Mo_nextToken_333 rfl ?_
  refine xi_bipush (v := 40) D_Mo_nextToken_334 rfl ?_
  refine xi_icmp_lt D_Mo_nextToken_336 (fun c62 => ?_) (fun c62 => ?_)
  · have h := okx_T c62 h
    exact xk_wk (w_Mo_nextToken_b345 (by omega)  h) ⟨Or.inr rfl, Or.inl rfl, trivial⟩
  · have h := okx_F c62 h
    refine xi_iload_n D_Mo_nextToken_339 rfl ?_
    refine xi_bipush (v := 43) D_Mo_nextToken_340 rfl ?_
    refine xi_icmp_le D_Mo_nextToken_342 (fun c63 => ?_) (fun c63 => ?_)
    · have h := okx_T c63 h
      exact xk_wk (w_Mo_nextToken_b363 (by omega)  h) ⟨Or.inr rfl, Or.inr rfl, trivial⟩
    · have h := okx_F c63 h
      exact xk_wk (w_Mo_nextToken_b345 (by omega)  h) ⟨Or.inr rfl, Or.inl rfl, trivial⟩
noncomputable def f_Mo_nextToken_b212 (x1 : Int32) (s : Sg) : Option (Unit × Sg) :=
  if x1 < 48 then
    f_Mo_nextToken_b322  x1 s
  else
    if 57 < x1 then
      f_Mo_nextToken_b322  x1 s
    else
      f_Mo_nextToken_h224  zl_fl  s
theorem w_Mo_nextToken_b212 {x1 : Int32} {s : Sg} {d : Nat} {Q : Option (Option Value) → Sg → Prop} (hd : 2 ≤ d) (h : okx (zq_V Q) (f_Mo_nextToken_b212 x1 s)) : Xw d M_Mo_nextToken 0 0 212 [.ref 46, .int x1] [] s Q := by
  unfold f_Mo_nextToken_b212 at h
  refine xi_iload_n D_Mo_nextToken_212 rfl ?_
  refine xi_bipush (v := 48) D_Mo_nextToken_213 rfl ?_
  refine xi_icmp_lt D_Mo_nextToken_215 (fun c38 => ?_) (fun c38 => ?_)
  · have h := okx_T c38 h
    exact w_Mo_nextToken_b322 (by omega)  h
  · have h := okx_F c38 h
    refine xi_iload_n D_Mo_nextToken_218 rfl ?_
    refine xi_bipush (v := 57) D_Mo_nextToken_219 rfl ?_
    refine xi_icmp_gt D_Mo_nextToken_221 (fun c39 => ?_) (fun c39 => ?_)
    · have h := okx_T c39 h
      exact w_Mo_nextToken_b322 (by omega)  h
    · have h := okx_F c39 h
      exact xk_wk (w_Mo_nextToken_h224 (by omega)  _ _ h) ⟨Or.inl rfl, Or.inr rfl, trivial⟩
noncomputable def f_Mo_nextToken_b52  (s : Sg) : Option (Unit × Sg) :=
  f_ck (zl_B s) <|
  let s10 : Sg := uI s 46 5 (mI s 46 4)
  let s11 : Sg := uL s10 46 7 0
  let s12 : Sg := uI s11 46 8 0
  if (mI s12 46 4) = (mI s12 46 3) then
    let s14 : Sg := uI s12 46 6 0
    some ((), s14)
  else
    f_ck (vp_in (mI s12 46 4) 1000) <|
    if (mI s12 47 (Int32.toNatClampNeg (mI s12 46 4))) < 97 then
      f_Mo_nextToken_b212  (mI s12 47 (Int32.toNatClampNeg (mI s12 46 4))) s12
    else
      if 122 < (mI s12 47 (Int32.toNatClampNeg (mI s12 46 4))) then
        f_Mo_nextToken_b212  (mI s12 47 (Int32.toNatClampNeg (mI s12 46 4))) s12
      else
        f_Mo_nextToken_h109  zl_fl  s12
theorem w_Mo_nextToken_b52 {s : Sg} {d : Nat} {Q : Option (Option Value) → Sg → Prop} (hd : 2 ≤ d) (h : okx (zq_V Q) (f_Mo_nextToken_b52  s)) : Xw d M_Mo_nextToken 0 0 52 [.ref 46, .retAddr 0] [] s Q := by
  unfold f_Mo_nextToken_b52 at h
  refine xi_aload_n D_Mo_nextToken_52 rfl ?_
  refine xi_aload_n D_Mo_nextToken_53 rfl ?_
  obtain ⟨g9, h⟩ := okx_ck h
  refine xi_getI D_Mo_nextToken_54 F_Mo_126 (zl_fo (g9).1 rfl) ⟨rfl, by decide⟩ ?_
  refine xi_putI D_Mo_nextToken_57 F_Mo_129 (zl_fo (g9).1 rfl) ⟨rfl, by decide, rfl⟩ (⟨rfl, rfl⟩) ?_
  refine xi_aload_n D_Mo_nextToken_60 rfl ?_
  refine xj_lconst (v := 0) D_Mo_nextToken_61 rfl ?_
  refine xi_putL D_Mo_nextToken_62 F_Mo_132 (zl_fo (g9).1 rfl) ⟨rfl, by decide, rfl⟩ rfl ?_
  refine xi_aload_n D_Mo_nextToken_65 rfl ?_
  refine xj_iconst (v := 0) D_Mo_nextToken_66 rfl ?_
  refine xi_putI D_Mo_nextToken_67 F_Mo_136 (zl_fo (g9).1 rfl) ⟨rfl, by decide, rfl⟩ (⟨rfl, rfl⟩) ?_
  refine xi_aload_n D_Mo_nextToken_70 rfl ?_
  refine xi_getI D_Mo_nextToken_71 F_Mo_126 (zl_fo (g9).1 rfl) ⟨rfl, by decide⟩ ?_
  refine xi_aload_n D_Mo_nextToken_74 rfl ?_
  refine xi_getI D_Mo_nextToken_75 F_Mo_123 (zl_fo (g9).1 rfl) ⟨rfl, by decide⟩ ?_
  refine xi_icmp_ne D_Mo_nextToken_78 (fun c13 => ?_) (fun c13 => ?_)
  · have h := okx_F c13 h
    refine xi_aload_n D_Mo_nextToken_87 rfl ?_
    refine xi_getR D_Mo_nextToken_88 F_Mo_7 (zl_fo (g9).1 rfl) ⟨rfl, by decide⟩ (zl_gr (g9).2 rfl rfl) ?_
    refine xi_aload_n D_Mo_nextToken_91 rfl ?_
    refine xi_getI D_Mo_nextToken_92 F_Mo_126 (zl_fo (g9).1 rfl) ⟨rfl, by decide⟩ ?_
    obtain ⟨g15, h⟩ := okx_ck h
    refine xj_iald D_Mo_nextToken_95 (zl_fx (g9).1 rfl) (zl_ib (n := 1000) rfl (g15)) ?_
    refine xi_istore_n (ls' := [_, _]) D_Mo_nextToken_96 rfl (by decide) ?_
    refine xi_iload_n D_Mo_nextToken_97 rfl ?_
    refine xi_bipush (v := 97) D_Mo_nextToken_98 rfl ?_
    refine xi_icmp_lt D_Mo_nextToken_100 (fun c16 => ?_) (fun c16 => ?_)
    · have h := okx_T c16 h
      exact w_Mo_nextToken_b212 (by omega)  h
    · have h := okx_F c16 h
      refine xi_iload_n D_Mo_nextToken_103 rfl ?_
      refine xi_bipush (v := 122) D_Mo_nextToken_104 rfl ?_
      refine xi_icmp_gt D_Mo_nextToken_106 (fun c17 => ?_) (fun c17 => ?_)
      · have h := okx_T c17 h
        exact w_Mo_nextToken_b212 (by omega)  h
      · have h := okx_F c17 h
        exact xk_wk (w_Mo_nextToken_h109 (by omega)  _ _ h) ⟨Or.inl rfl, Or.inr rfl, trivial⟩
  · have h := okx_T c13 h
    refine xi_aload_n D_Mo_nextToken_81 rfl ?_
    refine xj_iconst (v := 0) D_Mo_nextToken_82 rfl ?_
    refine xi_putI D_Mo_nextToken_83 F_Mo_139 (zl_fo (g9).1 rfl) ⟨rfl, by decide, rfl⟩ (⟨rfl, rfl⟩) ?_
    exact xi_return D_Mo_nextToken_86 rfl (okx_V h)
noncomputable def f_Mo_nextToken_b0 (R0 : Sg → Option (Unit × Sg))  (s : Sg) : Option (Unit × Sg) :=
  f_ck (zl_B s) <|
  if (mI s 46 3) ≤ (mI s 46 4) then
    f_Mo_nextToken_b52   s
  else
    f_ck (vp_in (mI s 46 4) 1000) <|
    if (mI s 47 (Int32.toNatClampNeg (mI s 46 4))) = 32 then
      f_Mo_nextToken_b39 R0  s
    else
      f_ck (vp_in (mI s 46 4) 1000) <|
      if (mI s 47 (Int32.toNatClampNeg (mI s 46 4))) = 10 then
        f_Mo_nextToken_b39 R0  s
      else
        f_Mo_nextToken_b52   s
theorem w_Mo_nextToken_b0 {s : Sg} {d : Nat} {Q : Option (Option Value) → Sg → Prop} (hd : 2 ≤ d) {R0 : Sg → Option (Unit × Sg)} (hR0 : ∀ (s : Sg), okx (zq_V Q) (R0  s) → Xw d M_Mo_nextToken 0 0 0 [.ref 46, .retAddr 0] [] s Q) (h : okx (zq_V Q) (f_Mo_nextToken_b0 R0  s)) : Xw d M_Mo_nextToken 0 0 0 [.ref 46, .retAddr 0] [] s Q := by
  unfold f_Mo_nextToken_b0 at h
  refine xi_aload_n D_Mo_nextToken_0 rfl ?_
  obtain ⟨g1, h⟩ := okx_ck h
  refine xi_getI D_Mo_nextToken_1 F_Mo_126 (zl_fo (g1).1 rfl) ⟨rfl, by decide⟩ ?_
  refine xi_aload_n D_Mo_nextToken_4 rfl ?_
  refine xi_getI D_Mo_nextToken_5 F_Mo_123 (zl_fo (g1).1 rfl) ⟨rfl, by decide⟩ ?_
  refine xi_icmp_ge D_Mo_nextToken_8 (fun c2 => ?_) (fun c2 => ?_)
  · have h := okx_T c2 h
    exact w_Mo_nextToken_b52 (by omega)  h
  · have h := okx_F c2 h
    refine xi_aload_n D_Mo_nextToken_11 rfl ?_
    refine xi_getR D_Mo_nextToken_12 F_Mo_7 (zl_fo (g1).1 rfl) ⟨rfl, by decide⟩ (zl_gr (g1).2 rfl rfl) ?_
    refine xi_aload_n D_Mo_nextToken_15 rfl ?_
    refine xi_getI D_Mo_nextToken_16 F_Mo_126 (zl_fo (g1).1 rfl) ⟨rfl, by decide⟩ ?_
    obtain ⟨g3, h⟩ := okx_ck h
    refine xj_iald D_Mo_nextToken_19 (zl_fx (g1).1 rfl) (zl_ib (n := 1000) rfl (g3)) ?_
    refine xi_bipush (v := 32) D_Mo_nextToken_20 rfl ?_
    refine xi_icmp_eq D_Mo_nextToken_22 (fun c4 => ?_) (fun c4 => ?_)
    · have h := okx_T c4 h
      exact w_Mo_nextToken_b39 (by omega) hR0 h
    · have h := okx_F c4 h
      refine xi_aload_n D_Mo_nextToken_25 rfl ?_
      refine xi_getR D_Mo_nextToken_26 F_Mo_7 (zl_fo (g1).1 rfl) ⟨rfl, by decide⟩ (zl_gr (g1).2 rfl rfl) ?_
      refine xi_aload_n D_Mo_nextToken_29 rfl ?_
      refine xi_getI D_Mo_nextToken_30 F_Mo_126 (zl_fo (g1).1 rfl) ⟨rfl, by decide⟩ ?_
      obtain ⟨g5, h⟩ := okx_ck h
      refine xj_iald D_Mo_nextToken_33 (zl_fx (g1).1 rfl) (zl_ib (n := 1000) rfl (g5)) ?_
      refine xi_bipush (v := 10) D_Mo_nextToken_34 rfl ?_
      refine xi_icmp_ne D_Mo_nextToken_36 (fun c6 => ?_) (fun c6 => ?_)
      · have h := okx_F c6 h
        exact w_Mo_nextToken_b52 (by omega)  h
      · have h := okx_T c6 h
        exact w_Mo_nextToken_b39 (by omega) hR0 h
noncomputable def f_Mo_nextToken_h0 : Nat → Sg → Option (Unit × Sg)
  | 0, _ => none
  | n + 1, s => f_Mo_nextToken_b0 (f_Mo_nextToken_h0 n)  s
theorem w_Mo_nextToken_h0 {d : Nat} {Q : Option (Option Value) → Sg → Prop} (hd : 2 ≤ d) : ∀ (n : Nat) (s : Sg), okx (zq_V Q) (f_Mo_nextToken_h0 n  s) → Xw d M_Mo_nextToken 0 0 0 [.ref 46, .retAddr 0] [] s Q := by
  intro n
  induction n with
  | zero => intro  s h; exact okx_no h
  | succ n ih => intro  s h; exact w_Mo_nextToken_b0 hd  ih  h
noncomputable def f_Mo_nextToken  (s : Sg) : Option (Unit × Sg) :=
  f_Mo_nextToken_h0  zl_fl  s
theorem w_Mo_nextToken {s : Sg} {d : Nat} {Q : Option (Option Value) → Sg → Prop} (hd : 2 ≤ d) (h : okx (zq_V Q) (f_Mo_nextToken  s)) : Cw d M_Mo_nextToken [.ref 46] s Q := by
  refine Cw.of (by decide +kernel) (Nat.le_of_ble_eq_true rfl) ?_
  show Xw d M_Mo_nextToken 0 0 0 [.ref 46, .retAddr 0] [] s _
  unfold f_Mo_nextToken at h
  exact w_Mo_nextToken_h0 (by omega)  _ _ h
noncomputable def f_Mo_ends  (s : Sg) : Option (Int32 × Sg) :=
  f_ck (zl_B s) <|
  f_bd (f_Mo_isSign 59 s) fun r2 s3 =>
  if r2 = 0 then
    f_ck (zl_B s3) <|
    f_bd (f_Mo_fails 1 s3) fun r6 s7 =>
    f_ck (narrow FieldType.boolean (.int r6) = .int r6) <|
    some (r6, s7)
  else
    f_ck (zl_B s3) <|
    f_bd (f_Mo_nextToken  s3) fun r10 s11 =>
    some (1, s11)
theorem w_Mo_ends {s : Sg} {d : Nat} {Q : Option (Option Value) → Sg → Prop} (hd : 3 ≤ d) (h : okx (zq_I Q) (f_Mo_ends  s)) : Cw d M_Mo_ends [.ref 46] s Q := by
  refine Cw.of (by decide +kernel) (Nat.le_of_ble_eq_true rfl) ?_
  show Xw d M_Mo_ends 0 0 0 [.ref 46] [] s _
  unfold f_Mo_ends at h
  refine xi_aload_n D_Mo_ends_0 rfl ?_
  refine xi_bipush (v := 59) D_Mo_ends_1 rfl ?_
  obtain ⟨g1, h⟩ := okx_ck h
  refine xj_V1 D_Mo_ends_3 L_Mo_193 C_Mo_isSign Z_Mo_isSign (zl_fo (g1).1 rfl) (Nat.le_of_ble_eq_true rfl) (Nat.le_of_eq (Nat.sub_add_cancel (by omega))) (w_Mo_isSign (by omega) (okx_mono (okx_bd h) ?_))
  intro r2 s3 h
  show Xw _ _ _ _ 6 _ [_] _ _
  refine xi_if_ne D_Mo_ends_6 (fun c4 => ?_) (fun c4 => ?_)
  · have h := okx_F c4 h
    refine xi_aload_n D_Mo_ends_15 rfl ?_
    obtain ⟨g9, h⟩ := okx_ck h
    refine xj_V0 D_Mo_ends_16 L_Mo_204 C_Mo_nextToken Z_Mo_nextToken (zl_fo (g9).1 rfl) (Nat.le_of_ble_eq_true rfl) (Nat.le_of_eq (Nat.sub_add_cancel (by omega))) (w_Mo_nextToken (by omega) (okx_mono (okx_bd h) ?_))
    intro r10 s11 h
    show Xw _ _ _ _ 19 _ [] _ _
    refine xj_iconst (v := 1) D_Mo_ends_19 rfl ?_
    exact xi_ireturn D_Mo_ends_20 rfl (rfl) (okx_I h)
  · have h := okx_T c4 h
    refine xi_aload_n D_Mo_ends_9 rfl ?_
    refine xj_iconst (v := 1) D_Mo_ends_10 rfl ?_
    obtain ⟨g5, h⟩ := okx_ck h
    refine xj_V1 D_Mo_ends_11 L_Mo_197 C_Mo_fails Z_Mo_fails (zl_fo (g5).1 rfl) (Nat.le_of_ble_eq_true rfl) (Nat.le_of_eq (Nat.sub_add_cancel (by omega))) (w_Mo_fails (by omega) (okx_mono (okx_bd h) ?_))
    intro r6 s7 h
    show Xw _ _ _ _ 14 _ [_] _ _
    obtain ⟨g8, h⟩ := okx_ck h
    exact xi_ireturn D_Mo_ends_14 rfl (g8) (okx_I h)
noncomputable def f_Mo_feed_b114 (R8 : Int64 → Int64 → Int64 → Int32 → Sg → Option (Int32 × Sg)) (x1 : Int64) (x3 : Int64) (x5 : Int64) (x7 : Int32) (s : Sg) : Option (Int32 × Sg) :=
  R8 x1 x3 x5 (x7 + 1) s
theorem w_Mo_feed_b114 {x1 : Int64} {x3 : Int64} {x5 : Int64} {x7 : Int32} {s : Sg} {d : Nat} {Q : Option (Option Value) → Sg → Prop} (hd : 1 ≤ d) {R8 : Int64 → Int64 → Int64 → Int32 → Sg → Option (Int32 × Sg)} (hR8 : ∀ (x1 : Int64) (x3 : Int64) (x5 : Int64) (x7 : Int32) (s : Sg), okx (zq_I Q) (R8 x1 x3 x5 x7 s) → Xw d M_Mo_feed 0 0 8 [.ref 46, .long x1, .retAddr 0, .long x3, .retAddr 0, .long x5, .retAddr 0, .int x7, .retAddr 0, .retAddr 0, .retAddr 0] [] s Q) (h : okx (zq_I Q) (f_Mo_feed_b114 R8 x1 x3 x5 x7 s)) : Xw d M_Mo_feed 0 0 114 [.ref 46, .long x1, .retAddr 0, .long x3, .retAddr 0, .long x5, .retAddr 0, .int x7, .retAddr 0, .retAddr 0, .retAddr 0] [] s Q := by
  unfold f_Mo_feed_b114 at h
  refine xi_iinc (v := _ + 1) (ls' := [_, _, _, _, _, _, _, _, _, _, _]) D_Mo_feed_114 rfl rfl rfl (by decide) ?_
  refine xi_goto D_Mo_feed_117 ?_
  exact hR8 _ _ _ _ _ h
noncomputable def f_Mo_feed_b93 (R8 : Int64 → Int64 → Int64 → Int32 → Sg → Option (Int32 × Sg)) (x1 : Int64) (x3 : Int64) (x5 : Int64) (x7 : Int32) (x10 : Int32) (s : Sg) : Option (Int32 × Sg) :=
  f_ck (zl_B s) <|
  f_ck (vp_in (mI s 46 1) 1000) <|
  let s14 : Sg := uI s 47 (Int32.toNatClampNeg (mI s 46 1)) x10
  let s15 : Sg := uI s14 46 1 ((mI s14 46 1) + 1)
  f_Mo_feed_b114 R8 x1 x3 x5 x7 s15
theorem w_Mo_feed_b93 {x1 : Int64} {x3 : Int64} {x5 : Int64} {x7 : Int32} {x10 : Int32} {s : Sg} {d : Nat} {Q : Option (Option Value) → Sg → Prop} (hd : 1 ≤ d) {R8 : Int64 → Int64 → Int64 → Int32 → Sg → Option (Int32 × Sg)} (hR8 : ∀ (x1 : Int64) (x3 : Int64) (x5 : Int64) (x7 : Int32) (s : Sg), okx (zq_I Q) (R8 x1 x3 x5 x7 s) → Xw d M_Mo_feed 0 0 8 [.ref 46, .long x1, .retAddr 0, .long x3, .retAddr 0, .long x5, .retAddr 0, .int x7, .retAddr 0, .retAddr 0, .retAddr 0] [] s Q) (h : okx (zq_I Q) (f_Mo_feed_b93 R8 x1 x3 x5 x7 x10 s)) : Xw d M_Mo_feed 0 0 93 [.ref 46, .long x1, .retAddr 0, .long x3, .retAddr 0, .long x5, .retAddr 0, .int x7, .retAddr 0, .retAddr 0, .int x10] [] s Q := by
  unfold f_Mo_feed_b93 at h
  refine xi_aload_n D_Mo_feed_93 rfl ?_
  obtain ⟨g12, h⟩ := okx_ck h
  refine xi_getR D_Mo_feed_94 F_Mo_7 (zl_fo (g12).1 rfl) ⟨rfl, by decide⟩ (zl_gr (g12).2 rfl rfl) ?_
  refine xi_aload_n D_Mo_feed_97 rfl ?_
  refine xi_getI D_Mo_feed_98 F_Mo_120 (zl_fo (g12).1 rfl) ⟨rfl, by decide⟩ ?_
  refine xi_iload D_Mo_feed_101 rfl ?_
  obtain ⟨g13, h⟩ := okx_ck h
  refine xj_iast D_Mo_feed_103 (zl_fx (g12).1 rfl) (zl_ib (n := 1000) rfl (g13)) ?_
  refine xi_aload_n D_Mo_feed_104 rfl ?_
  refine xi_dupr D_Mo_feed_105 ?_
  refine xi_getI D_Mo_feed_106 F_Mo_120 (zl_fo (g12).1 rfl) ⟨rfl, by decide⟩ ?_
  refine xj_iconst (v := 1) D_Mo_feed_109 rfl ?_
  refine xi_iadd D_Mo_feed_110 ?_
  refine xi_putI D_Mo_feed_111 F_Mo_120 (zl_fo (g12).1 rfl) ⟨rfl, by decide, rfl⟩ (⟨rfl, rfl⟩) ?_
  exact xk_wk (w_Mo_feed_b114 (by omega) hR8 h) ⟨Or.inl rfl, Or.inl rfl, Or.inl rfl, Or.inl rfl, Or.inl rfl, Or.inl rfl, Or.inl rfl, Or.inl rfl, Or.inl rfl, Or.inl rfl, Or.inr rfl, trivial⟩
noncomputable def f_Mo_feed_b39 (R8 : Int64 → Int64 → Int64 → Int32 → Sg → Option (Int32 × Sg)) (x1 : Int64) (x3 : Int64) (x5 : Int64) (x7 : Int32) (y0 : Int64) (s : Sg) : Option (Int32 × Sg) :=
  let v6 : Int32 := (Int64.toInt32 (((Int64.toUInt64 y0 >>> ((Int32.toInt64 (56 - (8 * (x7 &&& 7)))).toUInt64 &&& Int64.toUInt64 63)).toInt64) &&& 255))
  f_ck (zl_B s) <|
  if 1000 ≤ (mI s 46 1) then
    f_Mo_feed_b114 R8 x1 x3 x5 x7 s
  else
    if v6 = 10 then
      f_Mo_feed_b93 R8 x1 x3 x5 x7 v6 s
    else
      if v6 < 32 then
        f_Mo_feed_b114 R8 x1 x3 x5 x7 s
      else
        if 126 < v6 then
          f_Mo_feed_b114 R8 x1 x3 x5 x7 s
        else
          f_Mo_feed_b93 R8 x1 x3 x5 x7 v6 s
theorem w_Mo_feed_b39 {x1 : Int64} {x3 : Int64} {x5 : Int64} {x7 : Int32} {y0 : Int64} {s : Sg} {d : Nat} {Q : Option (Option Value) → Sg → Prop} (hd : 1 ≤ d) {R8 : Int64 → Int64 → Int64 → Int32 → Sg → Option (Int32 × Sg)} (hR8 : ∀ (x1 : Int64) (x3 : Int64) (x5 : Int64) (x7 : Int32) (s : Sg), okx (zq_I Q) (R8 x1 x3 x5 x7 s) → Xw d M_Mo_feed 0 0 8 [.ref 46, .long x1, .retAddr 0, .long x3, .retAddr 0, .long x5, .retAddr 0, .int x7, .retAddr 0, .retAddr 0, .retAddr 0] [] s Q) (h : okx (zq_I Q) (f_Mo_feed_b39 R8 x1 x3 x5 x7 y0 s)) : Xw d M_Mo_feed 0 0 39 [.ref 46, .long x1, .retAddr 0, .long x3, .retAddr 0, .long x5, .retAddr 0, .int x7, .retAddr 0, .retAddr 0, .retAddr 0] [.long y0] s Q := by
  unfold f_Mo_feed_b39 at h
  refine xi_lstore (ls' := [_, _, _, _, _, _, _, _, _, _, _]) D_Mo_feed_39 rfl (by decide) ?_
  refine xi_lload D_Mo_feed_41 rfl ?_
  refine xi_bipush (v := 56) D_Mo_feed_43 rfl ?_
  refine xi_bipush (v := 8) D_Mo_feed_45 rfl ?_
  refine xi_iload D_Mo_feed_47 rfl ?_
  refine xi_bipush (v := 7) D_Mo_feed_49 rfl ?_
  refine xi_iand D_Mo_feed_51 ?_
  refine xi_imul D_Mo_feed_52 ?_
  refine xi_isub D_Mo_feed_53 ?_
  refine xi_lushr D_Mo_feed_54 ?_
  refine xi_ldc2 D_Mo_feed_55 K_Mo_118 ?_
  refine xi_land D_Mo_feed_58 ?_
  refine xi_l2i D_Mo_feed_59 ?_
  refine xi_istore (ls' := [_, _, _, _, _, _, _, _, _, _, _]) D_Mo_feed_60 rfl (by decide) ?_
  refine xi_aload_n D_Mo_feed_62 rfl ?_
  obtain ⟨g7, h⟩ := okx_ck h
  refine xi_getI D_Mo_feed_63 F_Mo_120 (zl_fo (g7).1 rfl) ⟨rfl, by decide⟩ ?_
  refine xi_sipush (v := 1000) D_Mo_feed_66 rfl ?_
  refine xi_icmp_ge D_Mo_feed_69 (fun c8 => ?_) (fun c8 => ?_)
  · have h := okx_T c8 h
    exact xk_wk (w_Mo_feed_b114 (by omega) hR8 h) ⟨Or.inl rfl, Or.inl rfl, Or.inl rfl, Or.inl rfl, Or.inl rfl, Or.inl rfl, Or.inl rfl, Or.inl rfl, Or.inr rfl, Or.inl rfl, Or.inr rfl, trivial⟩
  · have h := okx_F c8 h
    refine xi_iload D_Mo_feed_72 rfl ?_
    refine xi_bipush (v := 10) D_Mo_feed_74 rfl ?_
    refine xi_icmp_eq D_Mo_feed_76 (fun c9 => ?_) (fun c9 => ?_)
    · have h := okx_T c9 h
      exact xk_wk (w_Mo_feed_b93 (by omega) hR8 h) ⟨Or.inl rfl, Or.inl rfl, Or.inl rfl, Or.inl rfl, Or.inl rfl, Or.inl rfl, Or.inl rfl, Or.inl rfl, Or.inr rfl, Or.inl rfl, Or.inl rfl, trivial⟩
    · have h := okx_F c9 h
      refine xi_iload D_Mo_feed_79 rfl ?_
      refine xi_bipush (v := 32) D_Mo_feed_81 rfl ?_
      refine xi_icmp_lt D_Mo_feed_83 (fun c10 => ?_) (fun c10 => ?_)
      · have h := okx_T c10 h
        exact xk_wk (w_Mo_feed_b114 (by omega) hR8 h) ⟨Or.inl rfl, Or.inl rfl, Or.inl rfl, Or.inl rfl, Or.inl rfl, Or.inl rfl, Or.inl rfl, Or.inl rfl, Or.inr rfl, Or.inl rfl, Or.inr rfl, trivial⟩
      · have h := okx_F c10 h
        refine xi_iload D_Mo_feed_86 rfl ?_
        refine xi_bipush (v := 126) D_Mo_feed_88 rfl ?_
        refine xi_icmp_gt D_Mo_feed_90 (fun c11 => ?_) (fun c11 => ?_)
        · have h := okx_T c11 h
          exact xk_wk (w_Mo_feed_b114 (by omega) hR8 h) ⟨Or.inl rfl, Or.inl rfl, Or.inl rfl, Or.inl rfl, Or.inl rfl, Or.inl rfl, Or.inl rfl, Or.inl rfl, Or.inr rfl, Or.inl rfl, Or.inr rfl, trivial⟩
        · have h := okx_F c11 h
          exact xk_wk (w_Mo_feed_b93 (by omega) hR8 h) ⟨Or.inl rfl, Or.inl rfl, Or.inl rfl, Or.inl rfl, Or.inl rfl, Or.inl rfl, Or.inl rfl, Or.inl rfl, Or.inr rfl, Or.inl rfl, Or.inl rfl, trivial⟩
noncomputable def f_Mo_feed_b120  (s : Sg) : Option (Int32 × Sg) :=
  f_ck (zl_B s) <|
  some ((mI s 46 1), s)
theorem w_Mo_feed_b120 {s : Sg} {d : Nat} {Q : Option (Option Value) → Sg → Prop} (hd : 1 ≤ d) (h : okx (zq_I Q) (f_Mo_feed_b120  s)) : Xw d M_Mo_feed 0 0 120 [.ref 46, .retAddr 0, .retAddr 0, .retAddr 0, .retAddr 0, .retAddr 0, .retAddr 0, .retAddr 0, .retAddr 0, .retAddr 0, .retAddr 0] [] s Q := by
  unfold f_Mo_feed_b120 at h
  refine xi_aload_n D_Mo_feed_120 rfl ?_
  obtain ⟨g16, h⟩ := okx_ck h
  refine xi_getI D_Mo_feed_121 F_Mo_120 (zl_fo (g16).1 rfl) ⟨rfl, by decide⟩ ?_
  exact xi_ireturn D_Mo_feed_124 rfl (rfl) (okx_I h)
noncomputable def f_Mo_feed_b8 (R8 : Int64 → Int64 → Int64 → Int32 → Sg → Option (Int32 × Sg)) (x1 : Int64) (x3 : Int64) (x5 : Int64) (x7 : Int32) (s : Sg) : Option (Int32 × Sg) :=
  if 24 ≤ x7 then
    f_Mo_feed_b120   s
  else
    if 8 ≤ x7 then
      if 16 ≤ x7 then
        f_Mo_feed_b39 R8 x1 x3 x5 x7 x5 s
      else
        f_Mo_feed_b39 R8 x1 x3 x5 x7 x3 s
    else
      f_Mo_feed_b39 R8 x1 x3 x5 x7 x1 s
theorem w_Mo_feed_b8 {x1 : Int64} {x3 : Int64} {x5 : Int64} {x7 : Int32} {s : Sg} {d : Nat} {Q : Option (Option Value) → Sg → Prop} (hd : 1 ≤ d) {R8 : Int64 → Int64 → Int64 → Int32 → Sg → Option (Int32 × Sg)} (hR8 : ∀ (x1 : Int64) (x3 : Int64) (x5 : Int64) (x7 : Int32) (s : Sg), okx (zq_I Q) (R8 x1 x3 x5 x7 s) → Xw d M_Mo_feed 0 0 8 [.ref 46, .long x1, .retAddr 0, .long x3, .retAddr 0, .long x5, .retAddr 0, .int x7, .retAddr 0, .retAddr 0, .retAddr 0] [] s Q) (h : okx (zq_I Q) (f_Mo_feed_b8 R8 x1 x3 x5 x7 s)) : Xw d M_Mo_feed 0 0 8 [.ref 46, .long x1, .retAddr 0, .long x3, .retAddr 0, .long x5, .retAddr 0, .int x7, .retAddr 0, .retAddr 0, .retAddr 0] [] s Q := by
  unfold f_Mo_feed_b8 at h
  refine xi_iload D_Mo_feed_8 rfl ?_
  refine xi_bipush (v := 24) D_Mo_feed_10 rfl ?_
  refine xi_icmp_ge D_Mo_feed_12 (fun c3 => ?_) (fun c3 => ?_)
  · have h := okx_T c3 h
    exact xk_wk (w_Mo_feed_b120 (by omega)  h) ⟨Or.inl rfl, Or.inr rfl, Or.inl rfl, Or.inr rfl, Or.inl rfl, Or.inr rfl, Or.inl rfl, Or.inr rfl, Or.inl rfl, Or.inl rfl, Or.inl rfl, trivial⟩
  · have h := okx_F c3 h
    refine xi_iload D_Mo_feed_15 rfl ?_
    refine xi_bipush (v := 8) D_Mo_feed_17 rfl ?_
    refine xi_icmp_ge D_Mo_feed_19 (fun c4 => ?_) (fun c4 => ?_)
    · have h := okx_T c4 h
      refine xi_iload D_Mo_feed_26 rfl ?_
      refine xi_bipush (v := 16) D_Mo_feed_28 rfl ?_
      refine xi_icmp_ge D_Mo_feed_30 (fun c5 => ?_) (fun c5 => ?_)
      · have h := okx_T c5 h
        refine xi_lload D_Mo_feed_37 rfl ?_
        exact w_Mo_feed_b39 (by omega) hR8 h
      · have h := okx_F c5 h
        refine xi_lload_n D_Mo_feed_33 rfl ?_
        refine xi_goto D_Mo_feed_34 ?_
        exact w_Mo_feed_b39 (by omega) hR8 h
    · have h := okx_F c4 h
      refine xi_lload_n D_Mo_feed_22 rfl ?_
      refine xi_goto D_Mo_feed_23 ?_
      exact w_Mo_feed_b39 (by omega) hR8 h
noncomputable def f_Mo_feed_h8 : Nat → Int64 → Int64 → Int64 → Int32 → Sg → Option (Int32 × Sg)
  | 0, _, _, _, _, _ => none
  | n + 1, x1, x3, x5, x7, s => f_Mo_feed_b8 (f_Mo_feed_h8 n) x1 x3 x5 x7 s
theorem w_Mo_feed_h8 {d : Nat} {Q : Option (Option Value) → Sg → Prop} (hd : 1 ≤ d) : ∀ (n : Nat) (x1 : Int64) (x3 : Int64) (x5 : Int64) (x7 : Int32) (s : Sg), okx (zq_I Q) (f_Mo_feed_h8 n x1 x3 x5 x7 s) → Xw d M_Mo_feed 0 0 8 [.ref 46, .long x1, .retAddr 0, .long x3, .retAddr 0, .long x5, .retAddr 0, .int x7, .retAddr 0, .retAddr 0, .retAddr 0] [] s Q := by
  intro n
  induction n with
  | zero => intro x1 x3 x5 x7 s h; exact okx_no h
  | succ n ih => intro x1 x3 x5 x7 s h; exact w_Mo_feed_b8 hd  ih  h
noncomputable def f_Mo_feed (x1 : Int64) (x3 : Int64) (x5 : Int64) (s : Sg) : Option (Int32 × Sg) :=
  f_ck (zl_B s) <|
  let s2 : Sg := uI s 46 0 0
  f_Mo_feed_h8  zl_fl x1 x3 x5 0 s2
theorem w_Mo_feed {x1 : Int64} {x3 : Int64} {x5 : Int64} {s : Sg} {d : Nat} {Q : Option (Option Value) → Sg → Prop} (hd : 1 ≤ d) (h : okx (zq_I Q) (f_Mo_feed x1 x3 x5 s)) : Cw d M_Mo_feed [.ref 46, .long x1, .long x3, .long x5] s Q := by
  refine Cw.of (by decide +kernel) (Nat.le_of_ble_eq_true rfl) ?_
  show Xw d M_Mo_feed 0 0 0 [.ref 46, .long x1, .retAddr 0, .long x3, .retAddr 0, .long x5, .retAddr 0, .retAddr 0, .retAddr 0, .retAddr 0, .retAddr 0] [] s _
  unfold f_Mo_feed at h
  refine xi_aload_n D_Mo_feed_0 rfl ?_
  refine xj_iconst (v := 0) D_Mo_feed_1 rfl ?_
  obtain ⟨g1, h⟩ := okx_ck h
  refine xi_putI D_Mo_feed_2 F_Mo_114 (zl_fo (g1).1 rfl) ⟨rfl, by decide, rfl⟩ (⟨rfl, rfl⟩) ?_
  refine xj_iconst (v := 0) D_Mo_feed_5 rfl ?_
  refine xi_istore (ls' := [_, _, _, _, _, _, _, _, _, _, _]) D_Mo_feed_6 rfl (by decide) ?_
  exact w_Mo_feed_h8 (by omega)  _ _ _ _ _ _ h
noncomputable def f_Mo_reachBy_b79 (R7 : Int32 → Int32 → Sg → Option (Unit × Sg)) (x1 : Int32) (x2 : Int32) (y1 : Int32) (y2 : Int32) (y3 : Int32) (y4 : Int32) (s : Sg) : Option (Unit × Sg) :=
  f_ck (zl_B s) <|
  f_bd (f_Mo_lays y1 y2 y3 y4 s) fun r13 s14 =>
  R7 x1 (x2 + 1) s14
theorem w_Mo_reachBy_b79 {x1 : Int32} {x2 : Int32} {y1 : Int32} {y2 : Int32} {y3 : Int32} {y4 : Int32} {s : Sg} {d : Nat} {Q : Option (Option Value) → Sg → Prop} (hd : 12 ≤ d) {R7 : Int32 → Int32 → Sg → Option (Unit × Sg)} (hR7 : ∀ (x1 : Int32) (x2 : Int32) (s : Sg), okx (zq_V Q) (R7 x1 x2 s) → Xw d M_Mo_reachBy 0 0 7 [.ref 46, .int x1, .int x2, .retAddr 0, .retAddr 0] [] s Q) (h : okx (zq_V Q) (f_Mo_reachBy_b79 R7 x1 x2 y1 y2 y3 y4 s)) : Xw d M_Mo_reachBy 0 0 79 [.ref 46, .int x1, .int x2, .retAddr 0, .retAddr 0] [.int y4, .int y3, .int y2, .int y1, .ref 46] s Q := by
  unfold f_Mo_reachBy_b79 at h
  obtain ⟨g12, h⟩ := okx_ck h
  refine xj_V4 D_Mo_reachBy_79 L_Mo_312 C_Mo_lays Z_Mo_lays (zl_fo (g12).1 rfl) (Nat.le_of_ble_eq_true rfl) (Nat.le_of_eq (Nat.sub_add_cancel (by omega))) (w_Mo_lays (by omega) (okx_mono (okx_bd h) ?_))
  intro r13 s14 h
  show Xw _ _ _ _ 82 _ [] _ _
  refine xi_iinc (v := _ + 1) (ls' := [_, _, _, _, _]) D_Mo_reachBy_82 rfl rfl rfl (by decide) ?_
  refine xi_goto D_Mo_reachBy_85 ?_
  exact hR7 _ _ _ h
noncomputable def f_Mo_reachBy_b63 (R7 : Int32 → Int32 → Sg → Option (Unit × Sg)) (x1 : Int32) (x2 : Int32) (x3 : Int32) (y1 : Int32) (y2 : Int32) (y3 : Int32) (s : Sg) : Option (Unit × Sg) :=
  f_ck (zl_B s) <|
  if x3 = (mI s 46 10) then
    f_Mo_reachBy_b79 R7 x1 x2 y1 y2 y3 (mI s 46 10) s
  else
    f_Mo_reachBy_b79 R7 x1 x2 y1 y2 y3 1 s
theorem w_Mo_reachBy_b63 {x1 : Int32} {x2 : Int32} {x3 : Int32} {y1 : Int32} {y2 : Int32} {y3 : Int32} {s : Sg} {d : Nat} {Q : Option (Option Value) → Sg → Prop} (hd : 12 ≤ d) {R7 : Int32 → Int32 → Sg → Option (Unit × Sg)} (hR7 : ∀ (x1 : Int32) (x2 : Int32) (s : Sg), okx (zq_V Q) (R7 x1 x2 s) → Xw d M_Mo_reachBy 0 0 7 [.ref 46, .int x1, .int x2, .retAddr 0, .retAddr 0] [] s Q) (h : okx (zq_V Q) (f_Mo_reachBy_b63 R7 x1 x2 x3 y1 y2 y3 s)) : Xw d M_Mo_reachBy 0 0 63 [.ref 46, .int x1, .int x2, .int x3, .retAddr 0] [.int y3, .int y2, .int y1, .ref 46] s Q := by
  unfold f_Mo_reachBy_b63 at h
  refine xi_iload_n D_Mo_reachBy_63 rfl ?_
  refine xi_aload_n D_Mo_reachBy_64 rfl ?_
  obtain ⟨g10, h⟩ := okx_ck h
  refine xi_getI D_Mo_reachBy_65 F_Mo_234 (zl_fo (g10).1 rfl) ⟨rfl, by decide⟩ ?_
  refine xi_icmp_ne D_Mo_reachBy_68 (fun c11 => ?_) (fun c11 => ?_)
  · have h := okx_F c11 h
    refine xj_iconst (v := 1) D_Mo_reachBy_78 rfl ?_
    exact xk_wk (w_Mo_reachBy_b79 (by omega) hR7 h) ⟨Or.inl rfl, Or.inl rfl, Or.inl rfl, Or.inr rfl, Or.inl rfl, trivial⟩
  · have h := okx_T c11 h
    refine xi_aload_n D_Mo_reachBy_71 rfl ?_
    refine xi_getI D_Mo_reachBy_72 F_Mo_234 (zl_fo (g10).1 rfl) ⟨rfl, by decide⟩ ?_
    refine xi_goto D_Mo_reachBy_75 ?_
    exact xk_wk (w_Mo_reachBy_b79 (by omega) hR7 h) ⟨Or.inl rfl, Or.inl rfl, Or.inl rfl, Or.inr rfl, Or.inl rfl, trivial⟩
noncomputable def f_Mo_reachBy_b88  (s : Sg) : Option (Unit × Sg) :=
  f_ck (zl_B s) <|
  f_bd (f_Mo_reach  s) fun r16 s17 =>
  some ((), s17)
theorem w_Mo_reachBy_b88 {s : Sg} {d : Nat} {Q : Option (Option Value) → Sg → Prop} (hd : 12 ≤ d) (h : okx (zq_V Q) (f_Mo_reachBy_b88  s)) : Xw d M_Mo_reachBy 0 0 88 [.ref 46, .retAddr 0, .retAddr 0, .retAddr 0, .retAddr 0] [] s Q := by
  unfold f_Mo_reachBy_b88 at h
  refine xi_aload_n D_Mo_reachBy_88 rfl ?_
  obtain ⟨g15, h⟩ := okx_ck h
  refine xj_V0 D_Mo_reachBy_89 L_Mo_403 C_Mo_reach Z_Mo_reach (zl_fo (g15).1 rfl) (Nat.le_of_ble_eq_true rfl) (Nat.le_of_eq (Nat.sub_add_cancel (by omega))) (w_Mo_reach (by omega) (okx_mono (okx_bd h) ?_))
  intro r16 s17 h
  show Xw _ _ _ _ 92 _ [] _ _
  exact xi_return D_Mo_reachBy_92 rfl (okx_V h)
noncomputable def f_Mo_reachBy_b7 (R7 : Int32 → Int32 → Sg → Option (Unit × Sg)) (x1 : Int32) (x2 : Int32) (s : Sg) : Option (Unit × Sg) :=
  f_ck (zl_B s) <|
  if (mI s 46 11) ≤ x2 then
    f_Mo_reachBy_b88   s
  else
    f_bd (f_Mo_digit x1 x2 s) fun r5 s6 =>
    f_ck (zl_B s6) <|
    if (mI s6 46 10) ≤ r5 then
      if r5 = (mI s6 46 10) then
        f_Mo_reachBy_b63 R7 x1 x2 r5 0 x2 (((1 : Int32) <<< ((mI s6 46 10) &&& 31)) - 1) s6
      else
        f_Mo_reachBy_b63 R7 x1 x2 r5 0 x2 0 s6
    else
      f_Mo_reachBy_b63 R7 x1 x2 r5 0 x2 ((1 : Int32) <<< (r5 &&& 31)) s6
theorem w_Mo_reachBy_b7 {x1 : Int32} {x2 : Int32} {s : Sg} {d : Nat} {Q : Option (Option Value) → Sg → Prop} (hd : 12 ≤ d) {R7 : Int32 → Int32 → Sg → Option (Unit × Sg)} (hR7 : ∀ (x1 : Int32) (x2 : Int32) (s : Sg), okx (zq_V Q) (R7 x1 x2 s) → Xw d M_Mo_reachBy 0 0 7 [.ref 46, .int x1, .int x2, .retAddr 0, .retAddr 0] [] s Q) (h : okx (zq_V Q) (f_Mo_reachBy_b7 R7 x1 x2 s)) : Xw d M_Mo_reachBy 0 0 7 [.ref 46, .int x1, .int x2, .retAddr 0, .retAddr 0] [] s Q := by
  unfold f_Mo_reachBy_b7 at h
  refine xi_iload_n D_Mo_reachBy_7 rfl ?_
  refine xi_aload_n D_Mo_reachBy_8 rfl ?_
  obtain ⟨g3, h⟩ := okx_ck h
  refine xi_getI D_Mo_reachBy_9 F_Mo_259 (zl_fo (g3).1 rfl) ⟨rfl, by decide⟩ ?_
  refine xi_icmp_ge D_Mo_reachBy_12 (fun c4 => ?_) (fun c4 => ?_)
  · have h := okx_T c4 h
    exact xk_wk (w_Mo_reachBy_b88 (by omega)  h) ⟨Or.inl rfl, Or.inr rfl, Or.inr rfl, Or.inl rfl, Or.inl rfl, trivial⟩
  · have h := okx_F c4 h
    refine xi_aload_n D_Mo_reachBy_15 rfl ?_
    refine xi_iload_n D_Mo_reachBy_16 rfl ?_
    refine xi_iload_n D_Mo_reachBy_17 rfl ?_
    refine xj_V2 D_Mo_reachBy_18 L_Mo_400 C_Mo_digit Z_Mo_digit (zl_fo (g3).1 rfl) (Nat.le_of_ble_eq_true rfl) (Nat.le_of_eq (Nat.sub_add_cancel (by omega))) (w_Mo_digit (by omega) (okx_mono (okx_bd h) ?_))
    intro r5 s6 h
    show Xw _ _ _ _ 21 _ [_] _ _
    refine xi_istore_n (ls' := [_, _, _, _, _]) D_Mo_reachBy_21 rfl (by decide) ?_
    refine xj_iconst (v := 1) D_Mo_reachBy_22 rfl ?_
    refine xi_aload_n D_Mo_reachBy_23 rfl ?_
    obtain ⟨g7, h⟩ := okx_ck h
    refine xi_getI D_Mo_reachBy_24 F_Mo_234 (zl_fo (g7).1 rfl) ⟨rfl, by decide⟩ ?_
    refine xi_ishl D_Mo_reachBy_27 ?_
    refine xj_iconst (v := 1) D_Mo_reachBy_28 rfl ?_
    refine xi_isub D_Mo_reachBy_29 ?_
    refine xi_istore (ls' := [_, _, _, _, _]) D_Mo_reachBy_30 rfl (by decide) ?_
    refine xi_aload_n D_Mo_reachBy_32 rfl ?_
    refine xj_iconst (v := 0) D_Mo_reachBy_33 rfl ?_
    refine xi_iload_n D_Mo_reachBy_34 rfl ?_
    refine xi_iload_n D_Mo_reachBy_35 rfl ?_
    refine xi_aload_n D_Mo_reachBy_36 rfl ?_
    refine xi_getI D_Mo_reachBy_37 F_Mo_234 (zl_fo (g7).1 rfl) ⟨rfl, by decide⟩ ?_
    refine xi_icmp_ge D_Mo_reachBy_40 (fun c8 => ?_) (fun c8 => ?_)
    · have h := okx_T c8 h
      refine xi_iload_n D_Mo_reachBy_49 rfl ?_
      refine xi_aload_n D_Mo_reachBy_50 rfl ?_
      refine xi_getI D_Mo_reachBy_51 F_Mo_234 (zl_fo (g7).1 rfl) ⟨rfl, by decide⟩ ?_
      refine xi_icmp_ne D_Mo_reachBy_54 (fun c9 => ?_) (fun c9 => ?_)
      · have h := okx_F c9 h
        refine xj_iconst (v := 0) D_Mo_reachBy_62 rfl ?_
        exact xk_wk (w_Mo_reachBy_b63 (by omega) hR7 h) ⟨Or.inl rfl, Or.inl rfl, Or.inl rfl, Or.inl rfl, Or.inr rfl, trivial⟩
      · have h := okx_T c9 h
        refine xi_iload D_Mo_reachBy_57 rfl ?_
        refine xi_goto D_Mo_reachBy_59 ?_
        exact xk_wk (w_Mo_reachBy_b63 (by omega) hR7 h) ⟨Or.inl rfl, Or.inl rfl, Or.inl rfl, Or.inl rfl, Or.inr rfl, trivial⟩
    · have h := okx_F c8 h
      refine xj_iconst (v := 1) D_Mo_reachBy_43 rfl ?_
      refine xi_iload_n D_Mo_reachBy_44 rfl ?_
      refine xi_ishl D_Mo_reachBy_45 ?_
      refine xi_goto D_Mo_reachBy_46 ?_
      exact xk_wk (w_Mo_reachBy_b63 (by omega) hR7 h) ⟨Or.inl rfl, Or.inl rfl, Or.inl rfl, Or.inl rfl, Or.inr rfl, trivial⟩
noncomputable def f_Mo_reachBy_h7 : Nat → Int32 → Int32 → Sg → Option (Unit × Sg)
  | 0, _, _, _ => none
  | n + 1, x1, x2, s => f_Mo_reachBy_b7 (f_Mo_reachBy_h7 n) x1 x2 s
theorem w_Mo_reachBy_h7 {d : Nat} {Q : Option (Option Value) → Sg → Prop} (hd : 12 ≤ d) : ∀ (n : Nat) (x1 : Int32) (x2 : Int32) (s : Sg), okx (zq_V Q) (f_Mo_reachBy_h7 n x1 x2 s) → Xw d M_Mo_reachBy 0 0 7 [.ref 46, .int x1, .int x2, .retAddr 0, .retAddr 0] [] s Q := by
  intro n
  induction n with
  | zero => intro x1 x2 s h; exact okx_no h
  | succ n ih => intro x1 x2 s h; exact w_Mo_reachBy_b7 hd  ih  h
noncomputable def f_Mo_reachBy (x1 : Int32) (s : Sg) : Option (Unit × Sg) :=
  f_ck (zl_B s) <|
  let s2 : Sg := uI s 46 50 0
  f_Mo_reachBy_h7  zl_fl x1 0 s2
theorem w_Mo_reachBy {x1 : Int32} {s : Sg} {d : Nat} {Q : Option (Option Value) → Sg → Prop} (hd : 12 ≤ d) (h : okx (zq_V Q) (f_Mo_reachBy x1 s)) : Cw d M_Mo_reachBy [.ref 46, .int x1] s Q := by
  refine Cw.of (by decide +kernel) (Nat.le_of_ble_eq_true rfl) ?_
  show Xw d M_Mo_reachBy 0 0 0 [.ref 46, .int x1, .retAddr 0, .retAddr 0, .retAddr 0] [] s _
  unfold f_Mo_reachBy at h
  refine xi_aload_n D_Mo_reachBy_0 rfl ?_
  refine xj_iconst (v := 0) D_Mo_reachBy_1 rfl ?_
  obtain ⟨g1, h⟩ := okx_ck h
  refine xi_putI D_Mo_reachBy_2 F_Mo_319 (zl_fo (g1).1 rfl) ⟨rfl, by decide, rfl⟩ (⟨rfl, rfl⟩) ?_
  refine xj_iconst (v := 0) D_Mo_reachBy_5 rfl ?_
  refine xi_istore_n (ls' := [_, _, _, _, _]) D_Mo_reachBy_6 rfl (by decide) ?_
  exact w_Mo_reachBy_h7 (by omega)  _ _ _ _ h
noncomputable def f_Mo_first_b114 (R42 : Int32 → Int32 → Int32 → Int32 → Int32 → Int32 → Sg → Option (Int32 × Sg)) (x1 : Int32) (x2 : Int32) (x3 : Int32) (x4 : Int32) (x5 : Int32) (x6 : Int32) (s : Sg) : Option (Int32 × Sg) :=
  R42 x1 x2 x3 x4 x5 (x6 + 1) s
theorem w_Mo_first_b114 {x1 : Int32} {x2 : Int32} {x3 : Int32} {x4 : Int32} {x5 : Int32} {x6 : Int32} {s : Sg} {d : Nat} {Q : Option (Option Value) → Sg → Prop} (hd : 13 ≤ d) {R42 : Int32 → Int32 → Int32 → Int32 → Int32 → Int32 → Sg → Option (Int32 × Sg)} (hR42 : ∀ (x1 : Int32) (x2 : Int32) (x3 : Int32) (x4 : Int32) (x5 : Int32) (x6 : Int32) (s : Sg), okx (zq_I Q) (R42 x1 x2 x3 x4 x5 x6 s) → Xw d M_Mo_first 0 0 42 [.ref 46, .int x1, .int x2, .int x3, .int x4, .int x5, .int x6] [] s Q) (h : okx (zq_I Q) (f_Mo_first_b114 R42 x1 x2 x3 x4 x5 x6 s)) : Xw d M_Mo_first 0 0 114 [.ref 46, .int x1, .int x2, .int x3, .int x4, .int x5, .int x6] [] s Q := by
  unfold f_Mo_first_b114 at h
  refine xi_iinc (v := _ + 1) (ls' := [_, _, _, _, _, _, _]) D_Mo_first_114 rfl rfl rfl (by decide) ?_
  refine xi_goto D_Mo_first_117 ?_
  exact hR42 _ _ _ _ _ _ _ h
noncomputable def f_Mo_first_b97 (R42 : Int32 → Int32 → Int32 → Int32 → Int32 → Int32 → Sg → Option (Int32 × Sg)) (x1 : Int32) (x2 : Int32) (x3 : Int32) (x5 : Int32) (x6 : Int32) (y0 : Int32) (y1 : Int32) (s : Sg) : Option (Int32 × Sg) :=
  f_Mo_first_b114 R42 x1 x2 x3 (y0 + y1) x5 x6 s
theorem w_Mo_first_b97 {x1 : Int32} {x2 : Int32} {x3 : Int32} {x5 : Int32} {x6 : Int32} {y0 : Int32} {y1 : Int32} {s : Sg} {d : Nat} {Q : Option (Option Value) → Sg → Prop} (hd : 13 ≤ d) {R42 : Int32 → Int32 → Int32 → Int32 → Int32 → Int32 → Sg → Option (Int32 × Sg)} (hR42 : ∀ (x1 : Int32) (x2 : Int32) (x3 : Int32) (x4 : Int32) (x5 : Int32) (x6 : Int32) (s : Sg), okx (zq_I Q) (R42 x1 x2 x3 x4 x5 x6 s) → Xw d M_Mo_first 0 0 42 [.ref 46, .int x1, .int x2, .int x3, .int x4, .int x5, .int x6] [] s Q) (h : okx (zq_I Q) (f_Mo_first_b97 R42 x1 x2 x3 x5 x6 y0 y1 s)) : Xw d M_Mo_first 0 0 97 [.ref 46, .int x1, .int x2, .int x3, .retAddr 0, .int x5, .int x6] [.int y1, .int y0] s Q := by
  unfold f_Mo_first_b97 at h
  refine xi_iadd D_Mo_first_97 ?_
  refine xi_istore (ls' := [_, _, _, _, _, _, _]) D_Mo_first_98 rfl (by decide) ?_
  refine xi_goto D_Mo_first_100 ?_
  exact w_Mo_first_b114 (by omega) hR42 h
noncomputable def f_Mo_first_b103 (R42 : Int32 → Int32 → Int32 → Int32 → Int32 → Int32 → Sg → Option (Int32 × Sg)) (x1 : Int32) (x5 : Int32) (x6 : Int32) (s : Sg) : Option (Int32 × Sg) :=
  f_ck (zl_B s) <|
  f_Mo_first_b114 R42 x1 x6 (mI s 46 56) 1 x5 x6 s
theorem w_Mo_first_b103 {x1 : Int32} {x5 : Int32} {x6 : Int32} {s : Sg} {d : Nat} {Q : Option (Option Value) → Sg → Prop} (hd : 13 ≤ d) {R42 : Int32 → Int32 → Int32 → Int32 → Int32 → Int32 → Sg → Option (Int32 × Sg)} (hR42 : ∀ (x1 : Int32) (x2 : Int32) (x3 : Int32) (x4 : Int32) (x5 : Int32) (x6 : Int32) (s : Sg), okx (zq_I Q) (R42 x1 x2 x3 x4 x5 x6 s) → Xw d M_Mo_first 0 0 42 [.ref 46, .int x1, .int x2, .int x3, .int x4, .int x5, .int x6] [] s Q) (h : okx (zq_I Q) (f_Mo_first_b103 R42 x1 x5 x6 s)) : Xw d M_Mo_first 0 0 103 [.ref 46, .int x1, .retAddr 0, .retAddr 0, .retAddr 0, .int x5, .int x6] [] s Q := by
  unfold f_Mo_first_b103 at h
  refine xi_iload D_Mo_first_103 rfl ?_
  refine xi_istore_n (ls' := [_, _, _, _, _, _, _]) D_Mo_first_105 rfl (by decide) ?_
  refine xi_aload_n D_Mo_first_106 rfl ?_
  obtain ⟨g20, h⟩ := okx_ck h
  refine xi_getI D_Mo_first_107 F_Mo_397 (zl_fo (g20).1 rfl) ⟨rfl, by decide⟩ ?_
  refine xi_istore_n (ls' := [_, _, _, _, _, _, _]) D_Mo_first_110 rfl (by decide) ?_
  refine xj_iconst (v := 1) D_Mo_first_111 rfl ?_
  refine xi_istore (ls' := [_, _, _, _, _, _, _]) D_Mo_first_112 rfl (by decide) ?_
  exact w_Mo_first_b114 (by omega) hR42 h
noncomputable def f_Mo_first_b120 (x1 : Int32) (x2 : Int32) (x4 : Int32) (x5 : Int32) (s : Sg) : Option (Int32 × Sg) :=
  if x1 = 2 then
    some (x5, s)
  else
    if 0 ≤ x2 then
      if x1 = 0 then
        some (x2, s)
      else
        some (x4, s)
    else
      some ((-1), s)
theorem w_Mo_first_b120 {x1 : Int32} {x2 : Int32} {x4 : Int32} {x5 : Int32} {s : Sg} {d : Nat} {Q : Option (Option Value) → Sg → Prop} (hd : 13 ≤ d) (h : okx (zq_I Q) (f_Mo_first_b120 x1 x2 x4 x5 s)) : Xw d M_Mo_first 0 0 120 [.retAddr 0, .int x1, .int x2, .retAddr 0, .int x4, .int x5, .retAddr 0] [] s Q := by
  unfold f_Mo_first_b120 at h
  refine xi_iload_n D_Mo_first_120 rfl ?_
  refine xj_iconst (v := 2) D_Mo_first_121 rfl ?_
  refine xi_icmp_ne D_Mo_first_122 (fun c21 => ?_) (fun c21 => ?_)
  · have h := okx_F c21 h
    refine xi_iload_n D_Mo_first_130 rfl ?_
    refine xi_if_ge D_Mo_first_131 (fun c22 => ?_) (fun c22 => ?_)
    · have h := okx_T c22 h
      refine xi_iload_n D_Mo_first_138 rfl ?_
      refine xi_if_ne D_Mo_first_139 (fun c23 => ?_) (fun c23 => ?_)
      · have h := okx_F c23 h
        refine xi_iload D_Mo_first_146 rfl ?_
        exact xi_ireturn D_Mo_first_148 rfl (rfl) (okx_I h)
      · have h := okx_T c23 h
        refine xi_iload_n D_Mo_first_142 rfl ?_
        refine xi_goto D_Mo_first_143 ?_
        exact xi_ireturn D_Mo_first_148 rfl (rfl) (okx_I h)
    · have h := okx_F c22 h
      refine xj_iconst (v := (-1)) D_Mo_first_134 rfl ?_
      refine xi_goto D_Mo_first_135 ?_
      exact xi_ireturn D_Mo_first_148 rfl (rfl) (okx_I h)
  · have h := okx_T c21 h
    refine xi_iload D_Mo_first_125 rfl ?_
    refine xi_goto D_Mo_first_127 ?_
    exact xi_ireturn D_Mo_first_148 rfl (rfl) (okx_I h)
noncomputable def f_Mo_first_b42 (R42 : Int32 → Int32 → Int32 → Int32 → Int32 → Int32 → Sg → Option (Int32 × Sg)) (x1 : Int32) (x2 : Int32) (x3 : Int32) (x4 : Int32) (x5 : Int32) (x6 : Int32) (s : Sg) : Option (Int32 × Sg) :=
  f_ck (zl_B s) <|
  f_bd (f_Mo_owningsOf  s) fun r9 s10 =>
  if r9 ≤ x6 then
    f_Mo_first_b120  x1 x2 x4 x5 s10
  else
    f_ck (zl_B s10) <|
    f_bd (f_Mo_reachBy x6 s10) fun r13 s14 =>
    f_ck (zl_B s14) <|
    if (mI s14 46 55) = 0 then
      f_Mo_first_b114 R42 x1 x2 x3 x4 (x5 + 1) x6 s14
    else
      if x2 < 0 then
        f_Mo_first_b103 R42 x1 x5 x6 s14
      else
        if x3 < (mI s14 46 56) then
          f_Mo_first_b103 R42 x1 x5 x6 s14
        else
          if (mI s14 46 56) = x3 then
            f_Mo_first_b97 R42 x1 x2 x3 x5 x6 x4 1 s14
          else
            f_Mo_first_b97 R42 x1 x2 x3 x5 x6 x4 0 s14
theorem w_Mo_first_b42 {x1 : Int32} {x2 : Int32} {x3 : Int32} {x4 : Int32} {x5 : Int32} {x6 : Int32} {s : Sg} {d : Nat} {Q : Option (Option Value) → Sg → Prop} (hd : 13 ≤ d) {R42 : Int32 → Int32 → Int32 → Int32 → Int32 → Int32 → Sg → Option (Int32 × Sg)} (hR42 : ∀ (x1 : Int32) (x2 : Int32) (x3 : Int32) (x4 : Int32) (x5 : Int32) (x6 : Int32) (s : Sg), okx (zq_I Q) (R42 x1 x2 x3 x4 x5 x6 s) → Xw d M_Mo_first 0 0 42 [.ref 46, .int x1, .int x2, .int x3, .int x4, .int x5, .int x6] [] s Q) (h : okx (zq_I Q) (f_Mo_first_b42 R42 x1 x2 x3 x4 x5 x6 s)) : Xw d M_Mo_first 0 0 42 [.ref 46, .int x1, .int x2, .int x3, .int x4, .int x5, .int x6] [] s Q := by
  unfold f_Mo_first_b42 at h
  refine xi_iload D_Mo_first_42 rfl ?_
  refine xi_aload_n D_Mo_first_44 rfl ?_
  obtain ⟨g8, h⟩ := okx_ck h
  refine xj_V0 D_Mo_first_45 L_Mo_406 C_Mo_owningsOf Z_Mo_owningsOf (zl_fo (g8).1 rfl) (Nat.le_of_ble_eq_true rfl) (Nat.le_of_eq (Nat.sub_add_cancel (by omega))) (w_Mo_owningsOf (by omega) (okx_mono (okx_bd h) ?_))
  intro r9 s10 h
  show Xw _ _ _ _ 48 _ [_, _] _ _
  refine xi_icmp_ge D_Mo_first_48 (fun c11 => ?_) (fun c11 => ?_)
  · have h := okx_T c11 h
    exact xk_wk (w_Mo_first_b120 (by omega)  h) ⟨Or.inr rfl, Or.inl rfl, Or.inl rfl, Or.inr rfl, Or.inl rfl, Or.inl rfl, Or.inr rfl, trivial⟩
  · have h := okx_F c11 h
    refine xi_aload_n D_Mo_first_51 rfl ?_
    refine xi_iload D_Mo_first_52 rfl ?_
    obtain ⟨g12, h⟩ := okx_ck h
    refine xj_V1 D_Mo_first_54 L_Mo_409 C_Mo_reachBy Z_Mo_reachBy (zl_fo (g12).1 rfl) (Nat.le_of_ble_eq_true rfl) (Nat.le_of_eq (Nat.sub_add_cancel (by omega))) (w_Mo_reachBy (by omega) (okx_mono (okx_bd h) ?_))
    intro r13 s14 h
    show Xw _ _ _ _ 57 _ [] _ _
    refine xi_aload_n D_Mo_first_57 rfl ?_
    obtain ⟨g15, h⟩ := okx_ck h
    refine xi_getI D_Mo_first_58 F_Mo_393 (zl_fo (g15).1 rfl) ⟨rfl, by decide⟩ ?_
    refine xi_if_ne D_Mo_first_61 (fun c16 => ?_) (fun c16 => ?_)
    · have h := okx_F c16 h
      refine xi_iload_n D_Mo_first_70 rfl ?_
      refine xi_if_lt D_Mo_first_71 (fun c17 => ?_) (fun c17 => ?_)
      · have h := okx_T c17 h
        exact xk_wk (w_Mo_first_b103 (by omega) hR42 h) ⟨Or.inl rfl, Or.inl rfl, Or.inr rfl, Or.inr rfl, Or.inr rfl, Or.inl rfl, Or.inl rfl, trivial⟩
      · have h := okx_F c17 h
        refine xi_aload_n D_Mo_first_74 rfl ?_
        refine xi_getI D_Mo_first_75 F_Mo_397 (zl_fo (g15).1 rfl) ⟨rfl, by decide⟩ ?_
        refine xi_iload_n D_Mo_first_78 rfl ?_
        refine xi_icmp_gt D_Mo_first_79 (fun c18 => ?_) (fun c18 => ?_)
        · have h := okx_T c18 h
          exact xk_wk (w_Mo_first_b103 (by omega) hR42 h) ⟨Or.inl rfl, Or.inl rfl, Or.inr rfl, Or.inr rfl, Or.inr rfl, Or.inl rfl, Or.inl rfl, trivial⟩
        · have h := okx_F c18 h
          refine xi_iload D_Mo_first_82 rfl ?_
          refine xi_aload_n D_Mo_first_84 rfl ?_
          refine xi_getI D_Mo_first_85 F_Mo_397 (zl_fo (g15).1 rfl) ⟨rfl, by decide⟩ ?_
          refine xi_iload_n D_Mo_first_88 rfl ?_
          refine xi_icmp_ne D_Mo_first_89 (fun c19 => ?_) (fun c19 => ?_)
          · have h := okx_F c19 h
            refine xj_iconst (v := 0) D_Mo_first_96 rfl ?_
            exact xk_wk (w_Mo_first_b97 (by omega) hR42 h) ⟨Or.inl rfl, Or.inl rfl, Or.inl rfl, Or.inl rfl, Or.inr rfl, Or.inl rfl, Or.inl rfl, trivial⟩
          · have h := okx_T c19 h
            refine xj_iconst (v := 1) D_Mo_first_92 rfl ?_
            refine xi_goto D_Mo_first_93 ?_
            exact xk_wk (w_Mo_first_b97 (by omega) hR42 h) ⟨Or.inl rfl, Or.inl rfl, Or.inl rfl, Or.inl rfl, Or.inr rfl, Or.inl rfl, Or.inl rfl, trivial⟩
    · have h := okx_T c16 h
      refine xi_iinc (v := _ + 1) (ls' := [_, _, _, _, _, _, _]) D_Mo_first_64 rfl rfl rfl (by decide) ?_
      refine xi_goto D_Mo_first_67 ?_
      exact w_Mo_first_b114 (by omega) hR42 h
noncomputable def f_Mo_first_h42 : Nat → Int32 → Int32 → Int32 → Int32 → Int32 → Int32 → Sg → Option (Int32 × Sg)
  | 0, _, _, _, _, _, _, _ => none
  | n + 1, x1, x2, x3, x4, x5, x6, s => f_Mo_first_b42 (f_Mo_first_h42 n) x1 x2 x3 x4 x5 x6 s
theorem w_Mo_first_h42 {d : Nat} {Q : Option (Option Value) → Sg → Prop} (hd : 13 ≤ d) : ∀ (n : Nat) (x1 : Int32) (x2 : Int32) (x3 : Int32) (x4 : Int32) (x5 : Int32) (x6 : Int32) (s : Sg), okx (zq_I Q) (f_Mo_first_h42 n x1 x2 x3 x4 x5 x6 s) → Xw d M_Mo_first 0 0 42 [.ref 46, .int x1, .int x2, .int x3, .int x4, .int x5, .int x6] [] s Q := by
  intro n
  induction n with
  | zero => intro x1 x2 x3 x4 x5 x6 s h; exact okx_no h
  | succ n ih => intro x1 x2 x3 x4 x5 x6 s h; exact w_Mo_first_b42 hd  ih  h
noncomputable def f_Mo_first (x1 : Int32) (s : Sg) : Option (Int32 × Sg) :=
  f_ck (zl_B s) <|
  let s2 : Sg := uI s 46 0 0
  let s3 : Sg := uI s2 46 39 10
  if (mI s3 46 10) = 0 then
    some ((-1), s3)
  else
    f_bd (f_Mo_within x1 0 2 s3) fun r5 s6 =>
    if r5 = 0 then
      some ((-1), s6)
    else
      f_Mo_first_h42  zl_fl x1 (-1) 0 0 0 0 s6
theorem w_Mo_first {x1 : Int32} {s : Sg} {d : Nat} {Q : Option (Option Value) → Sg → Prop} (hd : 13 ≤ d) (h : okx (zq_I Q) (f_Mo_first x1 s)) : Cw d M_Mo_first [.ref 46, .int x1] s Q := by
  refine Cw.of (by decide +kernel) (Nat.le_of_ble_eq_true rfl) ?_
  show Xw d M_Mo_first 0 0 0 [.ref 46, .int x1, .retAddr 0, .retAddr 0, .retAddr 0, .retAddr 0, .retAddr 0] [] s _
  unfold f_Mo_first at h
  refine xi_aload_n D_Mo_first_0 rfl ?_
  refine xj_iconst (v := 0) D_Mo_first_1 rfl ?_
  obtain ⟨g1, h⟩ := okx_ck h
  refine xi_putI D_Mo_first_2 F_Mo_114 (zl_fo (g1).1 rfl) ⟨rfl, by decide, rfl⟩ (⟨rfl, rfl⟩) ?_
  refine xi_aload_n D_Mo_first_5 rfl ?_
  refine xi_bipush (v := 10) D_Mo_first_6 rfl ?_
  refine xi_putI D_Mo_first_8 F_Mo_272 (zl_fo (g1).1 rfl) ⟨rfl, by decide, rfl⟩ (⟨rfl, rfl⟩) ?_
  refine xi_aload_n D_Mo_first_11 rfl ?_
  refine xi_getI D_Mo_first_12 F_Mo_234 (zl_fo (g1).1 rfl) ⟨rfl, by decide⟩ ?_
  refine xi_if_eq D_Mo_first_15 (fun c4 => ?_) (fun c4 => ?_)
  · have h := okx_T c4 h
    refine xj_iconst (v := (-1)) D_Mo_first_27 rfl ?_
    exact xi_ireturn D_Mo_first_28 rfl (rfl) (okx_I h)
  · have h := okx_F c4 h
    refine xi_iload_n D_Mo_first_18 rfl ?_
    refine xj_iconst (v := 0) D_Mo_first_19 rfl ?_
    refine xj_iconst (v := 2) D_Mo_first_20 rfl ?_
    refine xj_S3 D_Mo_first_21 L_Mo_268 C_Mo_within Z_Mo_within (Nat.le_of_ble_eq_true rfl) (Nat.le_of_eq (Nat.sub_add_cancel (by omega))) (w_Mo_within (by omega) (okx_mono (okx_bd h) ?_))
    intro r5 s6 h
    show Xw _ _ _ _ 24 _ [_] _ _
    refine xi_if_ne D_Mo_first_24 (fun c7 => ?_) (fun c7 => ?_)
    · have h := okx_F c7 h
      refine xj_iconst (v := (-1)) D_Mo_first_29 rfl ?_
      refine xi_istore_n (ls' := [_, _, _, _, _, _, _]) D_Mo_first_30 rfl (by decide) ?_
      refine xj_iconst (v := 0) D_Mo_first_31 rfl ?_
      refine xi_istore_n (ls' := [_, _, _, _, _, _, _]) D_Mo_first_32 rfl (by decide) ?_
      refine xj_iconst (v := 0) D_Mo_first_33 rfl ?_
      refine xi_istore (ls' := [_, _, _, _, _, _, _]) D_Mo_first_34 rfl (by decide) ?_
      refine xj_iconst (v := 0) D_Mo_first_36 rfl ?_
      refine xi_istore (ls' := [_, _, _, _, _, _, _]) D_Mo_first_37 rfl (by decide) ?_
      refine xj_iconst (v := 0) D_Mo_first_39 rfl ?_
      refine xi_istore (ls' := [_, _, _, _, _, _, _]) D_Mo_first_40 rfl (by decide) ?_
      exact w_Mo_first_h42 (by omega)  _ _ _ _ _ _ _ _ h
    · have h := okx_T c7 h
      refine xj_iconst (v := (-1)) D_Mo_first_27 rfl ?_
      exact xi_ireturn D_Mo_first_28 rfl (rfl) (okx_I h)
