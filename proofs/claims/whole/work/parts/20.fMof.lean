/-! by a program of ours (wip/whole/gen/func.py, mkall.py) out of the listing: Mo_reads Mo_readsLine Mo_readsPerson -/
noncomputable def f_Mo_reads_b66  (s : Sg) : Option (Int32 × Sg) :=
  f_ck (zl_B s) <|
  f_bd (f_Mo_fails 2 s) fun r41 s42 =>
  f_ck (narrow FieldType.boolean (.int r41) = .int r41) <|
  some (r41, s42)
theorem w_Mo_reads_b66 {s : Sg} {d : Nat} {Q : Option (Option Value) → Sg → Prop} (hd : 3 ≤ d) (h : okx (zq_I Q) (f_Mo_reads_b66  s)) : Xw d M_Mo_reads 0 0 66 [.ref 46, .retAddr 0, .retAddr 0, .retAddr 0, .retAddr 0, .retAddr 0, .retAddr 0] [] s Q := by
  unfold f_Mo_reads_b66 at h
  refine xi_aload_n D_Mo_reads_66 rfl ?_
  refine xj_iconst (v := 2) D_Mo_reads_67 rfl ?_
  obtain ⟨g40, h⟩ := okx_ck h
  refine xj_V1 D_Mo_reads_68 L_Mo_197 C_Mo_fails Z_Mo_fails (zl_fo (g40).1 rfl) (Nat.le_of_ble_eq_true rfl) (Nat.le_of_eq (Nat.sub_add_cancel (by omega))) (w_Mo_fails (by omega) (okx_mono (okx_bd h) ?_))
  intro r41 s42 h
  show Xw _ _ _ _ 71 _ [_] _ _
  obtain ⟨g43, h⟩ := okx_ck h
  exact xi_ireturn D_Mo_reads_71 rfl (g43) (okx_I h)
noncomputable def f_Mo_reads_b94  (s : Sg) : Option (Int32 × Sg) :=
  f_ck (zl_B s) <|
  f_bd (f_Mo_fails 1 s) fun r50 s51 =>
  f_ck (narrow FieldType.boolean (.int r50) = .int r50) <|
  some (r50, s51)
theorem w_Mo_reads_b94 {s : Sg} {d : Nat} {Q : Option (Option Value) → Sg → Prop} (hd : 3 ≤ d) (h : okx (zq_I Q) (f_Mo_reads_b94  s)) : Xw d M_Mo_reads 0 0 94 [.ref 46, .retAddr 0, .retAddr 0, .retAddr 0, .retAddr 0, .retAddr 0, .retAddr 0] [] s Q := by
  unfold f_Mo_reads_b94 at h
  refine xi_aload_n D_Mo_reads_94 rfl ?_
  refine xj_iconst (v := 1) D_Mo_reads_95 rfl ?_
  obtain ⟨g49, h⟩ := okx_ck h
  refine xj_V1 D_Mo_reads_96 L_Mo_197 C_Mo_fails Z_Mo_fails (zl_fo (g49).1 rfl) (Nat.le_of_ble_eq_true rfl) (Nat.le_of_eq (Nat.sub_add_cancel (by omega))) (w_Mo_fails (by omega) (okx_mono (okx_bd h) ?_))
  intro r50 s51 h
  show Xw _ _ _ _ 99 _ [_] _ _
  obtain ⟨g52, h⟩ := okx_ck h
  exact xi_ireturn D_Mo_reads_99 rfl (g52) (okx_I h)
noncomputable def f_Mo_reads_b105  (s : Sg) : Option (Int32 × Sg) :=
  f_ck (zl_B s) <|
  f_bd (f_Mo_fails 5 s) fun r59 s60 =>
  f_ck (narrow FieldType.boolean (.int r59) = .int r59) <|
  some (r59, s60)
theorem w_Mo_reads_b105 {s : Sg} {d : Nat} {Q : Option (Option Value) → Sg → Prop} (hd : 3 ≤ d) (h : okx (zq_I Q) (f_Mo_reads_b105  s)) : Xw d M_Mo_reads 0 0 105 [.ref 46, .retAddr 0, .retAddr 0, .retAddr 0, .retAddr 0, .retAddr 0, .retAddr 0] [] s Q := by
  unfold f_Mo_reads_b105 at h
  refine xi_aload_n D_Mo_reads_105 rfl ?_
  refine xj_iconst (v := 5) D_Mo_reads_106 rfl ?_
  obtain ⟨g58, h⟩ := okx_ck h
  refine xj_V1 D_Mo_reads_107 L_Mo_197 C_Mo_fails Z_Mo_fails (zl_fo (g58).1 rfl) (Nat.le_of_ble_eq_true rfl) (Nat.le_of_eq (Nat.sub_add_cancel (by omega))) (w_Mo_fails (by omega) (okx_mono (okx_bd h) ?_))
  intro r59 s60 h
  show Xw _ _ _ _ 110 _ [_] _ _
  obtain ⟨g61, h⟩ := okx_ck h
  exact xi_ireturn D_Mo_reads_110 rfl (g61) (okx_I h)
noncomputable def f_Mo_reads_b210 (R11 : Int32 → Int32 → Sg → Option (Int32 × Sg)) (x1 : Int32) (x2 : Int32) (s : Sg) : Option (Int32 × Sg) :=
  f_ck (zl_B s) <|
  f_bd (f_Mo_nextToken  s) fun r81 s82 =>
  R11 x1 x2 s82
theorem w_Mo_reads_b210 {x1 : Int32} {x2 : Int32} {s : Sg} {d : Nat} {Q : Option (Option Value) → Sg → Prop} (hd : 3 ≤ d) {R11 : Int32 → Int32 → Sg → Option (Int32 × Sg)} (hR11 : ∀ (x1 : Int32) (x2 : Int32) (s : Sg), okx (zq_I Q) (R11 x1 x2 s) → Xw d M_Mo_reads 0 0 11 [.ref 46, .int x1, .int x2, .retAddr 0, .retAddr 0, .retAddr 0, .retAddr 0] [] s Q) (h : okx (zq_I Q) (f_Mo_reads_b210 R11 x1 x2 s)) : Xw d M_Mo_reads 0 0 210 [.ref 46, .int x1, .int x2, .retAddr 0, .retAddr 0, .retAddr 0, .retAddr 0] [] s Q := by
  unfold f_Mo_reads_b210 at h
  refine xi_aload_n D_Mo_reads_210 rfl ?_
  obtain ⟨g80, h⟩ := okx_ck h
  refine xj_V0 D_Mo_reads_211 L_Mo_204 C_Mo_nextToken Z_Mo_nextToken (zl_fo (g80).1 rfl) (Nat.le_of_ble_eq_true rfl) (Nat.le_of_eq (Nat.sub_add_cancel (by omega))) (w_Mo_nextToken (by omega) (okx_mono (okx_bd h) ?_))
  intro r81 s82 h
  show Xw _ _ _ _ 214 _ [] _ _
  refine xi_goto D_Mo_reads_214 ?_
  exact hR11 _ _ _ h
noncomputable def f_Mo_reads_b155 (R11 : Int32 → Int32 → Sg → Option (Int32 × Sg)) (x1 : Int32) (x2 : Int32) (y1 : Int32) (y2 : Int32) (s : Sg) : Option (Int32 × Sg) :=
  f_ck (zl_B s) <|
  f_ck (vp_in y1 7) <|
  let s70 : Sg := uI s 56 (Int32.toNatClampNeg y1) y2
  f_ck (vp_in x1 7) <|
  let s72 : Sg := uI s70 57 (Int32.toNatClampNeg x1) (vp_nar .boolean 0)
  f_Mo_reads_b210 R11 x1 x2 s72
theorem w_Mo_reads_b155 {x1 : Int32} {x2 : Int32} {y1 : Int32} {y2 : Int32} {s : Sg} {d : Nat} {Q : Option (Option Value) → Sg → Prop} (hd : 3 ≤ d) {R11 : Int32 → Int32 → Sg → Option (Int32 × Sg)} (hR11 : ∀ (x1 : Int32) (x2 : Int32) (s : Sg), okx (zq_I Q) (R11 x1 x2 s) → Xw d M_Mo_reads 0 0 11 [.ref 46, .int x1, .int x2, .retAddr 0, .retAddr 0, .retAddr 0, .retAddr 0] [] s Q) (h : okx (zq_I Q) (f_Mo_reads_b155 R11 x1 x2 y1 y2 s)) : Xw d M_Mo_reads 0 0 155 [.ref 46, .int x1, .int x2, .retAddr 0, .retAddr 0, .retAddr 0, .retAddr 0] [.int y2, .int y1, .ref 56] s Q := by
  unfold f_Mo_reads_b155 at h
  obtain ⟨g68, h⟩ := okx_ck h
  obtain ⟨g69, h⟩ := okx_ck h
  refine xj_iast D_Mo_reads_155 (zl_fx (g68).1 rfl) (zl_ib (n := 7) rfl (g69)) ?_
  refine xi_aload_n D_Mo_reads_156 rfl ?_
  refine xi_getR D_Mo_reads_157 F_Mo_41 (zl_fo (g68).1 rfl) ⟨rfl, by decide⟩ (zl_gr (g68).2 rfl rfl) ?_
  refine xi_iload_n D_Mo_reads_160 rfl ?_
  refine xj_iconst (v := 0) D_Mo_reads_161 rfl ?_
  obtain ⟨g71, h⟩ := okx_ck h
  refine xj_zast D_Mo_reads_162 (zl_fx (g68).1 rfl) (zl_ib (n := 7) rfl (g71)) rfl ?_
  refine xi_goto D_Mo_reads_163 ?_
  exact w_Mo_reads_b210 (by omega) hR11 h
noncomputable def f_Mo_reads_b134 (R11 : Int32 → Int32 → Sg → Option (Int32 × Sg)) (x1 : Int32) (x2 : Int32) (x5 : Int32) (y1 : Int32) (s : Sg) : Option (Int32 × Sg) :=
  f_ck (zl_B s) <|
  f_bd (f_Mo_puts y1 s) fun r64 s65 =>
  f_ck (zl_B s65) <|
  if x5 = 0 then
    f_Mo_reads_b155 R11 (x1 + 1) x2 (x1 + 1) 2 s65
  else
    f_Mo_reads_b155 R11 (x1 + 1) x2 (x1 + 1) 1 s65
theorem w_Mo_reads_b134 {x1 : Int32} {x2 : Int32} {x5 : Int32} {y1 : Int32} {s : Sg} {d : Nat} {Q : Option (Option Value) → Sg → Prop} (hd : 3 ≤ d) {R11 : Int32 → Int32 → Sg → Option (Int32 × Sg)} (hR11 : ∀ (x1 : Int32) (x2 : Int32) (s : Sg), okx (zq_I Q) (R11 x1 x2 s) → Xw d M_Mo_reads 0 0 11 [.ref 46, .int x1, .int x2, .retAddr 0, .retAddr 0, .retAddr 0, .retAddr 0] [] s Q) (h : okx (zq_I Q) (f_Mo_reads_b134 R11 x1 x2 x5 y1 s)) : Xw d M_Mo_reads 0 0 134 [.ref 46, .int x1, .int x2, .retAddr 0, .retAddr 0, .int x5, .retAddr 0] [.int y1, .ref 46] s Q := by
  unfold f_Mo_reads_b134 at h
  obtain ⟨g63, h⟩ := okx_ck h
  refine xj_V1 D_Mo_reads_134 L_Mo_200 C_Mo_puts Z_Mo_puts (zl_fo (g63).1 rfl) (Nat.le_of_ble_eq_true rfl) (Nat.le_of_eq (Nat.sub_add_cancel (by omega))) (w_Mo_puts (by omega) (okx_mono (okx_bd h) ?_))
  intro r64 s65 h
  show Xw _ _ _ _ 137 _ [] _ _
  refine xi_iinc (v := _ + 1) (ls' := [_, _, _, _, _, _, _]) D_Mo_reads_137 rfl rfl rfl (by decide) ?_
  refine xi_aload_n D_Mo_reads_140 rfl ?_
  obtain ⟨g66, h⟩ := okx_ck h
  refine xi_getR D_Mo_reads_141 F_Mo_38 (zl_fo (g66).1 rfl) ⟨rfl, by decide⟩ (zl_gr (g66).2 rfl rfl) ?_
  refine xi_iload_n D_Mo_reads_144 rfl ?_
  refine xi_iload D_Mo_reads_145 rfl ?_
  refine xi_if_eq D_Mo_reads_147 (fun c67 => ?_) (fun c67 => ?_)
  · have h := okx_T c67 h
    refine xj_iconst (v := 2) D_Mo_reads_154 rfl ?_
    exact xk_wk (w_Mo_reads_b155 (by omega) hR11 h) ⟨Or.inl rfl, Or.inl rfl, Or.inl rfl, Or.inl rfl, Or.inl rfl, Or.inr rfl, Or.inl rfl, trivial⟩
  · have h := okx_F c67 h
    refine xj_iconst (v := 1) D_Mo_reads_150 rfl ?_
    refine xi_goto D_Mo_reads_151 ?_
    exact xk_wk (w_Mo_reads_b155 (by omega) hR11 h) ⟨Or.inl rfl, Or.inl rfl, Or.inl rfl, Or.inl rfl, Or.inl rfl, Or.inr rfl, Or.inl rfl, trivial⟩
noncomputable def f_Mo_reads_b121 (R11 : Int32 → Int32 → Sg → Option (Int32 × Sg)) (x1 : Int32) (x2 : Int32) (x5 : Int32) (s : Sg) : Option (Int32 × Sg) :=
  if x5 = 0 then
    f_Mo_reads_b134 R11 x1 x2 x5 28 s
  else
    f_Mo_reads_b134 R11 x1 x2 x5 30 s
theorem w_Mo_reads_b121 {x1 : Int32} {x2 : Int32} {x5 : Int32} {s : Sg} {d : Nat} {Q : Option (Option Value) → Sg → Prop} (hd : 3 ≤ d) {R11 : Int32 → Int32 → Sg → Option (Int32 × Sg)} (hR11 : ∀ (x1 : Int32) (x2 : Int32) (s : Sg), okx (zq_I Q) (R11 x1 x2 s) → Xw d M_Mo_reads 0 0 11 [.ref 46, .int x1, .int x2, .retAddr 0, .retAddr 0, .retAddr 0, .retAddr 0] [] s Q) (h : okx (zq_I Q) (f_Mo_reads_b121 R11 x1 x2 x5 s)) : Xw d M_Mo_reads 0 0 121 [.ref 46, .int x1, .int x2, .retAddr 0, .retAddr 0, .int x5, .retAddr 0] [] s Q := by
  unfold f_Mo_reads_b121 at h
  refine xi_aload_n D_Mo_reads_121 rfl ?_
  refine xi_iload D_Mo_reads_122 rfl ?_
  refine xi_if_eq D_Mo_reads_124 (fun c62 => ?_) (fun c62 => ?_)
  · have h := okx_T c62 h
    refine xi_bipush (v := 28) D_Mo_reads_132 rfl ?_
    exact w_Mo_reads_b134 (by omega) hR11 h
  · have h := okx_F c62 h
    refine xi_bipush (v := 30) D_Mo_reads_127 rfl ?_
    refine xi_goto D_Mo_reads_129 ?_
    exact w_Mo_reads_b134 (by omega) hR11 h
noncomputable def f_Mo_reads_b190 (R11 : Int32 → Int32 → Sg → Option (Int32 × Sg)) (R190 : Int32 → Int32 → Sg → Option (Int32 × Sg)) (x1 : Int32) (x2 : Int32) (s : Sg) : Option (Int32 × Sg) :=
  if x1 ≤ 0 then
    f_Mo_reads_b210 R11 x1 x2 s
  else
    f_ck (zl_B s) <|
    f_ck (vp_in x1 7) <|
    if (mI s 56 (Int32.toNatClampNeg x1)) = 1 then
      R190 (x1 + (-1)) x2 s
    else
      f_Mo_reads_b210 R11 x1 x2 s
theorem w_Mo_reads_b190 {x1 : Int32} {x2 : Int32} {s : Sg} {d : Nat} {Q : Option (Option Value) → Sg → Prop} (hd : 3 ≤ d) {R11 : Int32 → Int32 → Sg → Option (Int32 × Sg)} {R190 : Int32 → Int32 → Sg → Option (Int32 × Sg)} (hR11 : ∀ (x1 : Int32) (x2 : Int32) (s : Sg), okx (zq_I Q) (R11 x1 x2 s) → Xw d M_Mo_reads 0 0 11 [.ref 46, .int x1, .int x2, .retAddr 0, .retAddr 0, .retAddr 0, .retAddr 0] [] s Q) (hR190 : ∀ (x1 : Int32) (x2 : Int32) (s : Sg), okx (zq_I Q) (R190 x1 x2 s) → Xw d M_Mo_reads 0 0 190 [.ref 46, .int x1, .int x2, .retAddr 0, .retAddr 0, .retAddr 0, .retAddr 0] [] s Q) (h : okx (zq_I Q) (f_Mo_reads_b190 R11 R190 x1 x2 s)) : Xw d M_Mo_reads 0 0 190 [.ref 46, .int x1, .int x2, .retAddr 0, .retAddr 0, .retAddr 0, .retAddr 0] [] s Q := by
  unfold f_Mo_reads_b190 at h
  refine xi_iload_n D_Mo_reads_190 rfl ?_
  refine xi_if_le D_Mo_reads_191 (fun c76 => ?_) (fun c76 => ?_)
  · have h := okx_T c76 h
    exact w_Mo_reads_b210 (by omega) hR11 h
  · have h := okx_F c76 h
    refine xi_aload_n D_Mo_reads_194 rfl ?_
    obtain ⟨g77, h⟩ := okx_ck h
    refine xi_getR D_Mo_reads_195 F_Mo_38 (zl_fo (g77).1 rfl) ⟨rfl, by decide⟩ (zl_gr (g77).2 rfl rfl) ?_
    refine xi_iload_n D_Mo_reads_198 rfl ?_
    obtain ⟨g78, h⟩ := okx_ck h
    refine xj_iald D_Mo_reads_199 (zl_fx (g77).1 rfl) (zl_ib (n := 7) rfl (g78)) ?_
    refine xj_iconst (v := 1) D_Mo_reads_200 rfl ?_
    refine xi_icmp_ne D_Mo_reads_201 (fun c79 => ?_) (fun c79 => ?_)
    · have h := okx_F c79 h
      exact w_Mo_reads_b210 (by omega) hR11 h
    · have h := okx_T c79 h
      refine xi_iinc (v := _ + (-1)) (ls' := [_, _, _, _, _, _, _]) D_Mo_reads_204 rfl rfl rfl (by decide) ?_
      refine xi_goto D_Mo_reads_207 ?_
      exact hR190 _ _ _ h
noncomputable def f_Mo_reads_h190 (R11 : Int32 → Int32 → Sg → Option (Int32 × Sg)) : Nat → Int32 → Int32 → Sg → Option (Int32 × Sg)
  | 0, _, _, _ => none
  | n + 1, x1, x2, s => f_Mo_reads_b190 R11 (f_Mo_reads_h190 R11 n) x1 x2 s
theorem w_Mo_reads_h190 {d : Nat} {Q : Option (Option Value) → Sg → Prop} (hd : 3 ≤ d) {R11 : Int32 → Int32 → Sg → Option (Int32 × Sg)} (hR11 : ∀ (x1 : Int32) (x2 : Int32) (s : Sg), okx (zq_I Q) (R11 x1 x2 s) → Xw d M_Mo_reads 0 0 11 [.ref 46, .int x1, .int x2, .retAddr 0, .retAddr 0, .retAddr 0, .retAddr 0] [] s Q) : ∀ (n : Nat) (x1 : Int32) (x2 : Int32) (s : Sg), okx (zq_I Q) (f_Mo_reads_h190 R11 n x1 x2 s) → Xw d M_Mo_reads 0 0 190 [.ref 46, .int x1, .int x2, .retAddr 0, .retAddr 0, .retAddr 0, .retAddr 0] [] s Q := by
  intro n
  induction n with
  | zero => intro x1 x2 s h; exact okx_no h
  | succ n ih => intro x1 x2 s h; exact w_Mo_reads_b190 hd hR11 ih  h
noncomputable def f_Mo_reads_b185 (R11 : Int32 → Int32 → Sg → Option (Int32 × Sg)) (x1 : Int32) (y1 : Int32) (s : Sg) : Option (Int32 × Sg) :=
  f_ck (zl_B s) <|
  f_bd (f_Mo_puts y1 s) fun r74 s75 =>
  f_Mo_reads_h190 R11 zl_fl x1 0 s75
theorem w_Mo_reads_b185 {x1 : Int32} {y1 : Int32} {s : Sg} {d : Nat} {Q : Option (Option Value) → Sg → Prop} (hd : 3 ≤ d) {R11 : Int32 → Int32 → Sg → Option (Int32 × Sg)} (hR11 : ∀ (x1 : Int32) (x2 : Int32) (s : Sg), okx (zq_I Q) (R11 x1 x2 s) → Xw d M_Mo_reads 0 0 11 [.ref 46, .int x1, .int x2, .retAddr 0, .retAddr 0, .retAddr 0, .retAddr 0] [] s Q) (h : okx (zq_I Q) (f_Mo_reads_b185 R11 x1 y1 s)) : Xw d M_Mo_reads 0 0 185 [.ref 46, .int x1, .retAddr 0, .retAddr 0, .retAddr 0, .retAddr 0, .retAddr 0] [.int y1, .ref 46] s Q := by
  unfold f_Mo_reads_b185 at h
  obtain ⟨g73, h⟩ := okx_ck h
  refine xj_V1 D_Mo_reads_185 L_Mo_200 C_Mo_puts Z_Mo_puts (zl_fo (g73).1 rfl) (Nat.le_of_ble_eq_true rfl) (Nat.le_of_eq (Nat.sub_add_cancel (by omega))) (w_Mo_puts (by omega) (okx_mono (okx_bd h) ?_))
  intro r74 s75 h
  show Xw _ _ _ _ 188 _ [] _ _
  refine xj_iconst (v := 0) D_Mo_reads_188 rfl ?_
  refine xi_istore_n (ls' := [_, _, _, _, _, _, _]) D_Mo_reads_189 rfl (by decide) ?_
  exact w_Mo_reads_h190 (by omega) hR11 _ _ _ _ h
noncomputable def f_Mo_reads_b100 (R11 : Int32 → Int32 → Sg → Option (Int32 × Sg)) (x1 : Int32) (x2 : Int32) (x3 : Int32) (x4 : Int32) (x5 : Int32) (x6 : Int32) (s : Sg) : Option (Int32 × Sg) :=
  if x1 = 5 then
    f_Mo_reads_b105   s
  else
    if x5 = 0 then
      if x6 = 0 then
        if x3 = 0 then
          f_ck (zl_B s) <|
          f_Mo_reads_b185 R11 x1 (100 + (mI s 46 8)) s
        else
          f_Mo_reads_b185 R11 x1 (1 + x4) s
      else
        f_Mo_reads_b121 R11 x1 x2 x5 s
    else
      f_Mo_reads_b121 R11 x1 x2 x5 s
theorem w_Mo_reads_b100 {x1 : Int32} {x2 : Int32} {x3 : Int32} {x4 : Int32} {x5 : Int32} {x6 : Int32} {s : Sg} {d : Nat} {Q : Option (Option Value) → Sg → Prop} (hd : 3 ≤ d) {R11 : Int32 → Int32 → Sg → Option (Int32 × Sg)} (hR11 : ∀ (x1 : Int32) (x2 : Int32) (s : Sg), okx (zq_I Q) (R11 x1 x2 s) → Xw d M_Mo_reads 0 0 11 [.ref 46, .int x1, .int x2, .retAddr 0, .retAddr 0, .retAddr 0, .retAddr 0] [] s Q) (h : okx (zq_I Q) (f_Mo_reads_b100 R11 x1 x2 x3 x4 x5 x6 s)) : Xw d M_Mo_reads 0 0 100 [.ref 46, .int x1, .int x2, .int x3, .int x4, .int x5, .int x6] [] s Q := by
  unfold f_Mo_reads_b100 at h
  refine xi_iload_n D_Mo_reads_100 rfl ?_
  refine xj_iconst (v := 5) D_Mo_reads_101 rfl ?_
  refine xi_icmp_ne D_Mo_reads_102 (fun c53 => ?_) (fun c53 => ?_)
  · have h := okx_F c53 h
    refine xi_iload D_Mo_reads_111 rfl ?_
    refine xi_if_ne D_Mo_reads_113 (fun c54 => ?_) (fun c54 => ?_)
    · have h := okx_F c54 h
      exact xk_wk (w_Mo_reads_b121 (by omega) hR11 h) ⟨Or.inl rfl, Or.inl rfl, Or.inl rfl, Or.inr rfl, Or.inr rfl, Or.inl rfl, Or.inr rfl, trivial⟩
    · have h := okx_T c54 h
      refine xi_iload D_Mo_reads_116 rfl ?_
      refine xi_if_eq D_Mo_reads_118 (fun c55 => ?_) (fun c55 => ?_)
      · have h := okx_T c55 h
        refine xi_aload_n D_Mo_reads_166 rfl ?_
        refine xi_iload_n D_Mo_reads_167 rfl ?_
        refine xi_if_eq D_Mo_reads_168 (fun c56 => ?_) (fun c56 => ?_)
        · have h := okx_T c56 h
          refine xi_bipush (v := 100) D_Mo_reads_178 rfl ?_
          refine xi_aload_n D_Mo_reads_180 rfl ?_
          obtain ⟨g57, h⟩ := okx_ck h
          refine xi_getI D_Mo_reads_181 F_Mo_136 (zl_fo (g57).1 rfl) ⟨rfl, by decide⟩ ?_
          refine xi_iadd D_Mo_reads_184 ?_
          exact xk_wk (w_Mo_reads_b185 (by omega) hR11 h) ⟨Or.inl rfl, Or.inl rfl, Or.inr rfl, Or.inr rfl, Or.inr rfl, Or.inr rfl, Or.inr rfl, trivial⟩
        · have h := okx_F c56 h
          refine xj_iconst (v := 1) D_Mo_reads_171 rfl ?_
          refine xi_iload D_Mo_reads_172 rfl ?_
          refine xi_iadd D_Mo_reads_174 ?_
          refine xi_goto D_Mo_reads_175 ?_
          exact xk_wk (w_Mo_reads_b185 (by omega) hR11 h) ⟨Or.inl rfl, Or.inl rfl, Or.inr rfl, Or.inr rfl, Or.inr rfl, Or.inr rfl, Or.inr rfl, trivial⟩
      · have h := okx_F c55 h
        exact xk_wk (w_Mo_reads_b121 (by omega) hR11 h) ⟨Or.inl rfl, Or.inl rfl, Or.inl rfl, Or.inr rfl, Or.inr rfl, Or.inl rfl, Or.inr rfl, trivial⟩
  · have h := okx_T c53 h
    exact xk_wk (w_Mo_reads_b105 (by omega)  h) ⟨Or.inl rfl, Or.inr rfl, Or.inr rfl, Or.inr rfl, Or.inr rfl, Or.inr rfl, Or.inr rfl, trivial⟩
noncomputable def f_Mo_reads_b72 (R11 : Int32 → Int32 → Sg → Option (Int32 × Sg)) (x1 : Int32) (x2 : Int32) (x3 : Int32) (x4 : Int32) (x5 : Int32) (x6 : Int32) (s : Sg) : Option (Int32 × Sg) :=
  if x3 = 0 then
    if x5 = 0 then
      if x6 = 0 then
        f_ck (zl_B s) <|
        if (mI s 46 6) = 2 then
          f_Mo_reads_b100 R11 x1 x2 x3 x4 x5 x6 s
        else
          f_Mo_reads_b94   s
      else
        f_Mo_reads_b100 R11 x1 x2 x3 x4 x5 x6 s
    else
      f_Mo_reads_b100 R11 x1 x2 x3 x4 x5 x6 s
  else
    f_Mo_reads_b100 R11 x1 x2 x3 x4 x5 x6 s
theorem w_Mo_reads_b72 {x1 : Int32} {x2 : Int32} {x3 : Int32} {x4 : Int32} {x5 : Int32} {x6 : Int32} {s : Sg} {d : Nat} {Q : Option (Option Value) → Sg → Prop} (hd : 3 ≤ d) {R11 : Int32 → Int32 → Sg → Option (Int32 × Sg)} (hR11 : ∀ (x1 : Int32) (x2 : Int32) (s : Sg), okx (zq_I Q) (R11 x1 x2 s) → Xw d M_Mo_reads 0 0 11 [.ref 46, .int x1, .int x2, .retAddr 0, .retAddr 0, .retAddr 0, .retAddr 0] [] s Q) (h : okx (zq_I Q) (f_Mo_reads_b72 R11 x1 x2 x3 x4 x5 x6 s)) : Xw d M_Mo_reads 0 0 72 [.ref 46, .int x1, .int x2, .int x3, .int x4, .int x5, .int x6] [] s Q := by
  unfold f_Mo_reads_b72 at h
  refine xi_iload_n D_Mo_reads_72 rfl ?_
  refine xi_if_ne D_Mo_reads_73 (fun c44 => ?_) (fun c44 => ?_)
  · have h := okx_F c44 h
    exact w_Mo_reads_b100 (by omega) hR11 h
  · have h := okx_T c44 h
    refine xi_iload D_Mo_reads_76 rfl ?_
    refine xi_if_ne D_Mo_reads_78 (fun c45 => ?_) (fun c45 => ?_)
    · have h := okx_F c45 h
      exact w_Mo_reads_b100 (by omega) hR11 h
    · have h := okx_T c45 h
      refine xi_iload D_Mo_reads_81 rfl ?_
      refine xi_if_ne D_Mo_reads_83 (fun c46 => ?_) (fun c46 => ?_)
      · have h := okx_F c46 h
        exact w_Mo_reads_b100 (by omega) hR11 h
      · have h := okx_T c46 h
        refine xi_aload_n D_Mo_reads_86 rfl ?_
        obtain ⟨g47, h⟩ := okx_ck h
        refine xi_getI D_Mo_reads_87 F_Mo_139 (zl_fo (g47).1 rfl) ⟨rfl, by decide⟩ ?_
        refine xj_iconst (v := 2) D_Mo_reads_90 rfl ?_
        refine xi_icmp_eq D_Mo_reads_91 (fun c48 => ?_) (fun c48 => ?_)
        · have h := okx_T c48 h
          exact w_Mo_reads_b100 (by omega) hR11 h
        · have h := okx_F c48 h
          exact xk_wk (w_Mo_reads_b94 (by omega)  h) ⟨Or.inl rfl, Or.inr rfl, Or.inr rfl, Or.inr rfl, Or.inr rfl, Or.inr rfl, Or.inr rfl, trivial⟩
noncomputable def f_Mo_reads_b32 (R11 : Int32 → Int32 → Sg → Option (Int32 × Sg)) (x1 : Int32) (x2 : Int32) (x3 : Int32) (y0 : Int32) (s : Sg) : Option (Int32 × Sg) :=
  f_ck (zl_B s) <|
  f_bd (f_Mo_isWord 10631 s) fun r32 s33 =>
  f_ck (zl_B s33) <|
  f_bd (f_Mo_isSign 40 s33) fun r35 s36 =>
  if x3 = 0 then
    f_Mo_reads_b72 R11 x1 x2 x3 y0 r32 r35 s36
  else
    if y0 < 0 then
      f_Mo_reads_b66   s36
    else
      if y0 ≤ 3 then
        f_Mo_reads_b72 R11 x1 x2 x3 y0 r32 r35 s36
      else
        f_Mo_reads_b66   s36
theorem w_Mo_reads_b32 {x1 : Int32} {x2 : Int32} {x3 : Int32} {y0 : Int32} {s : Sg} {d : Nat} {Q : Option (Option Value) → Sg → Prop} (hd : 3 ≤ d) {R11 : Int32 → Int32 → Sg → Option (Int32 × Sg)} (hR11 : ∀ (x1 : Int32) (x2 : Int32) (s : Sg), okx (zq_I Q) (R11 x1 x2 s) → Xw d M_Mo_reads 0 0 11 [.ref 46, .int x1, .int x2, .retAddr 0, .retAddr 0, .retAddr 0, .retAddr 0] [] s Q) (h : okx (zq_I Q) (f_Mo_reads_b32 R11 x1 x2 x3 y0 s)) : Xw d M_Mo_reads 0 0 32 [.ref 46, .int x1, .int x2, .int x3, .retAddr 0, .retAddr 0, .retAddr 0] [.int y0] s Q := by
  unfold f_Mo_reads_b32 at h
  refine xi_istore (ls' := [_, _, _, _, _, _, _]) D_Mo_reads_32 rfl (by decide) ?_
  refine xi_aload_n D_Mo_reads_34 rfl ?_
  refine xi_ldc2 D_Mo_reads_35 K_Mo_166 ?_
  obtain ⟨g31, h⟩ := okx_ck h
  refine xj_V1 D_Mo_reads_38 L_Mo_189 C_Mo_isWord Z_Mo_isWord (zl_fo (g31).1 rfl) (Nat.le_of_ble_eq_true rfl) (Nat.le_of_eq (Nat.sub_add_cancel (by omega))) (w_Mo_isWord (by omega) (okx_mono (okx_bd h) ?_))
  intro r32 s33 h
  show Xw _ _ _ _ 41 _ [_] _ _
  refine xi_istore (ls' := [_, _, _, _, _, _, _]) D_Mo_reads_41 rfl (by decide) ?_
  refine xi_aload_n D_Mo_reads_43 rfl ?_
  refine xi_bipush (v := 40) D_Mo_reads_44 rfl ?_
  obtain ⟨g34, h⟩ := okx_ck h
  refine xj_V1 D_Mo_reads_46 L_Mo_193 C_Mo_isSign Z_Mo_isSign (zl_fo (g34).1 rfl) (Nat.le_of_ble_eq_true rfl) (Nat.le_of_eq (Nat.sub_add_cancel (by omega))) (w_Mo_isSign (by omega) (okx_mono (okx_bd h) ?_))
  intro r35 s36 h
  show Xw _ _ _ _ 49 _ [_] _ _
  refine xi_istore (ls' := [_, _, _, _, _, _, _]) D_Mo_reads_49 rfl (by decide) ?_
  refine xi_iload_n D_Mo_reads_51 rfl ?_
  refine xi_if_eq D_Mo_reads_52 (fun c37 => ?_) (fun c37 => ?_)
  · have h := okx_T c37 h
    exact w_Mo_reads_b72 (by omega) hR11 h
  · have h := okx_F c37 h
    refine xi_iload D_Mo_reads_55 rfl ?_
    refine xi_if_lt D_Mo_reads_57 (fun c38 => ?_) (fun c38 => ?_)
    · have h := okx_T c38 h
      exact xk_wk (w_Mo_reads_b66 (by omega)  h) ⟨Or.inl rfl, Or.inr rfl, Or.inr rfl, Or.inr rfl, Or.inr rfl, Or.inr rfl, Or.inr rfl, trivial⟩
    · have h := okx_F c38 h
      refine xi_iload D_Mo_reads_60 rfl ?_
      refine xj_iconst (v := 3) D_Mo_reads_62 rfl ?_
      refine xi_icmp_le D_Mo_reads_63 (fun c39 => ?_) (fun c39 => ?_)
      · have h := okx_T c39 h
        exact w_Mo_reads_b72 (by omega) hR11 h
      · have h := okx_F c39 h
        exact xk_wk (w_Mo_reads_b66 (by omega)  h) ⟨Or.inl rfl, Or.inr rfl, Or.inr rfl, Or.inr rfl, Or.inr rfl, Or.inr rfl, Or.inr rfl, trivial⟩
noncomputable def f_Mo_reads_b463 (R11 : Int32 → Int32 → Sg → Option (Int32 × Sg)) (x1 : Int32) (x2 : Int32) (s : Sg) : Option (Int32 × Sg) :=
  f_ck (zl_B s) <|
  f_bd (f_Mo_nextToken  s) fun r149 s150 =>
  R11 x1 x2 s150
theorem w_Mo_reads_b463 {x1 : Int32} {x2 : Int32} {s : Sg} {d : Nat} {Q : Option (Option Value) → Sg → Prop} (hd : 3 ≤ d) {R11 : Int32 → Int32 → Sg → Option (Int32 × Sg)} (hR11 : ∀ (x1 : Int32) (x2 : Int32) (s : Sg), okx (zq_I Q) (R11 x1 x2 s) → Xw d M_Mo_reads 0 0 11 [.ref 46, .int x1, .int x2, .retAddr 0, .retAddr 0, .retAddr 0, .retAddr 0] [] s Q) (h : okx (zq_I Q) (f_Mo_reads_b463 R11 x1 x2 s)) : Xw d M_Mo_reads 0 0 463 [.ref 46, .int x1, .int x2, .retAddr 0, .retAddr 0, .retAddr 0, .retAddr 0] [] s Q := by
  unfold f_Mo_reads_b463 at h
  refine xi_aload_n D_Mo_reads_463 rfl ?_
  obtain ⟨g148, h⟩ := okx_ck h
  refine xj_V0 D_Mo_reads_464 L_Mo_204 C_Mo_nextToken Z_Mo_nextToken (zl_fo (g148).1 rfl) (Nat.le_of_ble_eq_true rfl) (Nat.le_of_eq (Nat.sub_add_cancel (by omega))) (w_Mo_nextToken (by omega) (okx_mono (okx_bd h) ?_))
  intro r149 s150 h
  show Xw _ _ _ _ 467 _ [] _ _
  refine xi_goto D_Mo_reads_467 ?_
  exact hR11 _ _ _ h
noncomputable def f_Mo_reads_b275 (R11 : Int32 → Int32 → Sg → Option (Int32 × Sg)) (x1 : Int32) (y1 : Int32) (s : Sg) : Option (Int32 × Sg) :=
  f_ck (zl_B s) <|
  f_bd (f_Mo_puts y1 s) fun r92 s93 =>
  f_Mo_reads_b463 R11 x1 1 s93
theorem w_Mo_reads_b275 {x1 : Int32} {y1 : Int32} {s : Sg} {d : Nat} {Q : Option (Option Value) → Sg → Prop} (hd : 3 ≤ d) {R11 : Int32 → Int32 → Sg → Option (Int32 × Sg)} (hR11 : ∀ (x1 : Int32) (x2 : Int32) (s : Sg), okx (zq_I Q) (R11 x1 x2 s) → Xw d M_Mo_reads 0 0 11 [.ref 46, .int x1, .int x2, .retAddr 0, .retAddr 0, .retAddr 0, .retAddr 0] [] s Q) (h : okx (zq_I Q) (f_Mo_reads_b275 R11 x1 y1 s)) : Xw d M_Mo_reads 0 0 275 [.ref 46, .int x1, .retAddr 0, .retAddr 0, .retAddr 0, .retAddr 0, .retAddr 0] [.int y1, .ref 46] s Q := by
  unfold f_Mo_reads_b275 at h
  obtain ⟨g91, h⟩ := okx_ck h
  refine xj_V1 D_Mo_reads_275 L_Mo_200 C_Mo_puts Z_Mo_puts (zl_fo (g91).1 rfl) (Nat.le_of_ble_eq_true rfl) (Nat.le_of_eq (Nat.sub_add_cancel (by omega))) (w_Mo_puts (by omega) (okx_mono (okx_bd h) ?_))
  intro r92 s93 h
  show Xw _ _ _ _ 278 _ [] _ _
  refine xj_iconst (v := 1) D_Mo_reads_278 rfl ?_
  refine xi_istore_n (ls' := [_, _, _, _, _, _, _]) D_Mo_reads_279 rfl (by decide) ?_
  refine xi_goto D_Mo_reads_280 ?_
  exact w_Mo_reads_b463 (by omega) hR11 h
noncomputable def f_Mo_reads_b244 (R11 : Int32 → Int32 → Sg → Option (Int32 × Sg)) (x1 : Int32) (s : Sg) : Option (Int32 × Sg) :=
  f_ck (zl_B s) <|
  f_bd (f_Mo_isSign 43 s) fun r84 s85 =>
  if r84 = 0 then
    f_ck (zl_B s85) <|
    f_bd (f_Mo_isSign 45 s85) fun r88 s89 =>
    if r88 = 0 then
      f_Mo_reads_b275 R11 x1 22 s89
    else
      f_Mo_reads_b275 R11 x1 21 s89
  else
    f_Mo_reads_b275 R11 x1 20 s85
theorem w_Mo_reads_b244 {x1 : Int32} {s : Sg} {d : Nat} {Q : Option (Option Value) → Sg → Prop} (hd : 3 ≤ d) {R11 : Int32 → Int32 → Sg → Option (Int32 × Sg)} (hR11 : ∀ (x1 : Int32) (x2 : Int32) (s : Sg), okx (zq_I Q) (R11 x1 x2 s) → Xw d M_Mo_reads 0 0 11 [.ref 46, .int x1, .int x2, .retAddr 0, .retAddr 0, .retAddr 0, .retAddr 0] [] s Q) (h : okx (zq_I Q) (f_Mo_reads_b244 R11 x1 s)) : Xw d M_Mo_reads 0 0 244 [.ref 46, .int x1, .retAddr 0, .retAddr 0, .retAddr 0, .retAddr 0, .retAddr 0] [] s Q := by
  unfold f_Mo_reads_b244 at h
  refine xi_aload_n D_Mo_reads_244 rfl ?_
  refine xi_aload_n D_Mo_reads_245 rfl ?_
  refine xi_bipush (v := 43) D_Mo_reads_246 rfl ?_
  obtain ⟨g83, h⟩ := okx_ck h
  refine xj_V1 D_Mo_reads_248 L_Mo_193 C_Mo_isSign Z_Mo_isSign (zl_fo (g83).1 rfl) (Nat.le_of_ble_eq_true rfl) (Nat.le_of_eq (Nat.sub_add_cancel (by omega))) (w_Mo_isSign (by omega) (okx_mono (okx_bd h) ?_))
  intro r84 s85 h
  show Xw _ _ _ _ 251 _ [_, _] _ _
  refine xi_if_eq D_Mo_reads_251 (fun c86 => ?_) (fun c86 => ?_)
  · have h := okx_T c86 h
    refine xi_aload_n D_Mo_reads_259 rfl ?_
    refine xi_bipush (v := 45) D_Mo_reads_260 rfl ?_
    obtain ⟨g87, h⟩ := okx_ck h
    refine xj_V1 D_Mo_reads_262 L_Mo_193 C_Mo_isSign Z_Mo_isSign (zl_fo (g87).1 rfl) (Nat.le_of_ble_eq_true rfl) (Nat.le_of_eq (Nat.sub_add_cancel (by omega))) (w_Mo_isSign (by omega) (okx_mono (okx_bd h) ?_))
    intro r88 s89 h
    show Xw _ _ _ _ 265 _ [_, _] _ _
    refine xi_if_eq D_Mo_reads_265 (fun c90 => ?_) (fun c90 => ?_)
    · have h := okx_T c90 h
      refine xi_bipush (v := 22) D_Mo_reads_273 rfl ?_
      exact w_Mo_reads_b275 (by omega) hR11 h
    · have h := okx_F c90 h
      refine xi_bipush (v := 21) D_Mo_reads_268 rfl ?_
      refine xi_goto D_Mo_reads_270 ?_
      exact w_Mo_reads_b275 (by omega) hR11 h
  · have h := okx_F c86 h
    refine xi_bipush (v := 20) D_Mo_reads_254 rfl ?_
    refine xi_goto D_Mo_reads_256 ?_
    exact w_Mo_reads_b275 (by omega) hR11 h
noncomputable def f_Mo_reads_b327 (R11 : Int32 → Int32 → Sg → Option (Int32 × Sg)) (x1 : Int32) (y1 : Int32) (s : Sg) : Option (Int32 × Sg) :=
  f_ck (zl_B s) <|
  f_bd (f_Mo_puts y1 s) fun r101 s102 =>
  f_ck (zl_B s102) <|
  f_ck (vp_in x1 7) <|
  let s105 : Sg := uI s102 57 (Int32.toNatClampNeg x1) (vp_nar .boolean 1)
  f_Mo_reads_b463 R11 x1 1 s105
theorem w_Mo_reads_b327 {x1 : Int32} {y1 : Int32} {s : Sg} {d : Nat} {Q : Option (Option Value) → Sg → Prop} (hd : 3 ≤ d) {R11 : Int32 → Int32 → Sg → Option (Int32 × Sg)} (hR11 : ∀ (x1 : Int32) (x2 : Int32) (s : Sg), okx (zq_I Q) (R11 x1 x2 s) → Xw d M_Mo_reads 0 0 11 [.ref 46, .int x1, .int x2, .retAddr 0, .retAddr 0, .retAddr 0, .retAddr 0] [] s Q) (h : okx (zq_I Q) (f_Mo_reads_b327 R11 x1 y1 s)) : Xw d M_Mo_reads 0 0 327 [.ref 46, .int x1, .retAddr 0, .retAddr 0, .retAddr 0, .retAddr 0, .retAddr 0] [.int y1, .ref 46] s Q := by
  unfold f_Mo_reads_b327 at h
  obtain ⟨g100, h⟩ := okx_ck h
  refine xj_V1 D_Mo_reads_327 L_Mo_200 C_Mo_puts Z_Mo_puts (zl_fo (g100).1 rfl) (Nat.le_of_ble_eq_true rfl) (Nat.le_of_eq (Nat.sub_add_cancel (by omega))) (w_Mo_puts (by omega) (okx_mono (okx_bd h) ?_))
  intro r101 s102 h
  show Xw _ _ _ _ 330 _ [] _ _
  refine xi_aload_n D_Mo_reads_330 rfl ?_
  obtain ⟨g103, h⟩ := okx_ck h
  refine xi_getR D_Mo_reads_331 F_Mo_41 (zl_fo (g103).1 rfl) ⟨rfl, by decide⟩ (zl_gr (g103).2 rfl rfl) ?_
  refine xi_iload_n D_Mo_reads_334 rfl ?_
  refine xj_iconst (v := 1) D_Mo_reads_335 rfl ?_
  obtain ⟨g104, h⟩ := okx_ck h
  refine xj_zast D_Mo_reads_336 (zl_fx (g103).1 rfl) (zl_ib (n := 7) rfl (g104)) rfl ?_
  refine xj_iconst (v := 1) D_Mo_reads_337 rfl ?_
  refine xi_istore_n (ls' := [_, _, _, _, _, _, _]) D_Mo_reads_338 rfl (by decide) ?_
  refine xi_goto D_Mo_reads_339 ?_
  exact w_Mo_reads_b463 (by omega) hR11 h
noncomputable def f_Mo_reads_b380 (R11 : Int32 → Int32 → Sg → Option (Int32 × Sg)) (x1 : Int32) (y1 : Int32) (s : Sg) : Option (Int32 × Sg) :=
  f_ck (zl_B s) <|
  f_bd (f_Mo_puts y1 s) fun r127 s128 =>
  f_ck (zl_B s128) <|
  f_ck (vp_in x1 7) <|
  let s131 : Sg := uI s128 57 (Int32.toNatClampNeg x1) (vp_nar .boolean 0)
  f_Mo_reads_b463 R11 x1 1 s131
theorem w_Mo_reads_b380 {x1 : Int32} {y1 : Int32} {s : Sg} {d : Nat} {Q : Option (Option Value) → Sg → Prop} (hd : 3 ≤ d) {R11 : Int32 → Int32 → Sg → Option (Int32 × Sg)} (hR11 : ∀ (x1 : Int32) (x2 : Int32) (s : Sg), okx (zq_I Q) (R11 x1 x2 s) → Xw d M_Mo_reads 0 0 11 [.ref 46, .int x1, .int x2, .retAddr 0, .retAddr 0, .retAddr 0, .retAddr 0] [] s Q) (h : okx (zq_I Q) (f_Mo_reads_b380 R11 x1 y1 s)) : Xw d M_Mo_reads 0 0 380 [.ref 46, .int x1, .retAddr 0, .retAddr 0, .retAddr 0, .retAddr 0, .retAddr 0] [.int y1, .ref 46] s Q := by
  unfold f_Mo_reads_b380 at h
  obtain ⟨g126, h⟩ := okx_ck h
  refine xj_V1 D_Mo_reads_380 L_Mo_200 C_Mo_puts Z_Mo_puts (zl_fo (g126).1 rfl) (Nat.le_of_ble_eq_true rfl) (Nat.le_of_eq (Nat.sub_add_cancel (by omega))) (w_Mo_puts (by omega) (okx_mono (okx_bd h) ?_))
  intro r127 s128 h
  show Xw _ _ _ _ 383 _ [] _ _
  refine xi_aload_n D_Mo_reads_383 rfl ?_
  obtain ⟨g129, h⟩ := okx_ck h
  refine xi_getR D_Mo_reads_384 F_Mo_41 (zl_fo (g129).1 rfl) ⟨rfl, by decide⟩ (zl_gr (g129).2 rfl rfl) ?_
  refine xi_iload_n D_Mo_reads_387 rfl ?_
  refine xj_iconst (v := 0) D_Mo_reads_388 rfl ?_
  obtain ⟨g130, h⟩ := okx_ck h
  refine xj_zast D_Mo_reads_389 (zl_fx (g129).1 rfl) (zl_ib (n := 7) rfl (g130)) rfl ?_
  refine xj_iconst (v := 1) D_Mo_reads_390 rfl ?_
  refine xi_istore_n (ls' := [_, _, _, _, _, _, _]) D_Mo_reads_391 rfl (by decide) ?_
  refine xi_goto D_Mo_reads_392 ?_
  exact w_Mo_reads_b463 (by omega) hR11 h
noncomputable def f_Mo_reads_b362 (R11 : Int32 → Int32 → Sg → Option (Int32 × Sg)) (x1 : Int32) (s : Sg) : Option (Int32 × Sg) :=
  f_ck (zl_B s) <|
  f_bd (f_Mo_isWord 1111 s) fun r123 s124 =>
  if r123 = 0 then
    f_Mo_reads_b380 R11 x1 27 s124
  else
    f_Mo_reads_b380 R11 x1 26 s124
theorem w_Mo_reads_b362 {x1 : Int32} {s : Sg} {d : Nat} {Q : Option (Option Value) → Sg → Prop} (hd : 3 ≤ d) {R11 : Int32 → Int32 → Sg → Option (Int32 × Sg)} (hR11 : ∀ (x1 : Int32) (x2 : Int32) (s : Sg), okx (zq_I Q) (R11 x1 x2 s) → Xw d M_Mo_reads 0 0 11 [.ref 46, .int x1, .int x2, .retAddr 0, .retAddr 0, .retAddr 0, .retAddr 0] [] s Q) (h : okx (zq_I Q) (f_Mo_reads_b362 R11 x1 s)) : Xw d M_Mo_reads 0 0 362 [.ref 46, .int x1, .retAddr 0, .retAddr 0, .retAddr 0, .retAddr 0, .retAddr 0] [] s Q := by
  unfold f_Mo_reads_b362 at h
  refine xi_aload_n D_Mo_reads_362 rfl ?_
  refine xi_aload_n D_Mo_reads_363 rfl ?_
  refine xi_ldc2 D_Mo_reads_364 K_Mo_168 ?_
  obtain ⟨g122, h⟩ := okx_ck h
  refine xj_V1 D_Mo_reads_367 L_Mo_189 C_Mo_isWord Z_Mo_isWord (zl_fo (g122).1 rfl) (Nat.le_of_ble_eq_true rfl) (Nat.le_of_eq (Nat.sub_add_cancel (by omega))) (w_Mo_isWord (by omega) (okx_mono (okx_bd h) ?_))
  intro r123 s124 h
  show Xw _ _ _ _ 370 _ [_, _] _ _
  refine xi_if_eq D_Mo_reads_370 (fun c125 => ?_) (fun c125 => ?_)
  · have h := okx_T c125 h
    refine xi_bipush (v := 27) D_Mo_reads_378 rfl ?_
    exact w_Mo_reads_b380 (by omega) hR11 h
  · have h := okx_F c125 h
    refine xi_bipush (v := 26) D_Mo_reads_373 rfl ?_
    refine xi_goto D_Mo_reads_375 ?_
    exact w_Mo_reads_b380 (by omega) hR11 h
noncomputable def f_Mo_reads_b417 (R11 : Int32 → Int32 → Sg → Option (Int32 × Sg)) (R417 : Int32 → Int32 → Sg → Option (Int32 × Sg)) (x1 : Int32) (x2 : Int32) (s : Sg) : Option (Int32 × Sg) :=
  if x1 ≤ 0 then
    f_Mo_reads_b463 R11 x1 x2 s
  else
    f_ck (zl_B s) <|
    f_ck (vp_in x1 7) <|
    if (mI s 56 (Int32.toNatClampNeg x1)) = 1 then
      R417 (x1 + (-1)) x2 s
    else
      f_Mo_reads_b463 R11 x1 x2 s
theorem w_Mo_reads_b417 {x1 : Int32} {x2 : Int32} {s : Sg} {d : Nat} {Q : Option (Option Value) → Sg → Prop} (hd : 3 ≤ d) {R11 : Int32 → Int32 → Sg → Option (Int32 × Sg)} {R417 : Int32 → Int32 → Sg → Option (Int32 × Sg)} (hR11 : ∀ (x1 : Int32) (x2 : Int32) (s : Sg), okx (zq_I Q) (R11 x1 x2 s) → Xw d M_Mo_reads 0 0 11 [.ref 46, .int x1, .int x2, .retAddr 0, .retAddr 0, .retAddr 0, .retAddr 0] [] s Q) (hR417 : ∀ (x1 : Int32) (x2 : Int32) (s : Sg), okx (zq_I Q) (R417 x1 x2 s) → Xw d M_Mo_reads 0 0 417 [.ref 46, .int x1, .int x2, .retAddr 0, .retAddr 0, .retAddr 0, .retAddr 0] [] s Q) (h : okx (zq_I Q) (f_Mo_reads_b417 R11 R417 x1 x2 s)) : Xw d M_Mo_reads 0 0 417 [.ref 46, .int x1, .int x2, .retAddr 0, .retAddr 0, .retAddr 0, .retAddr 0] [] s Q := by
  unfold f_Mo_reads_b417 at h
  refine xi_iload_n D_Mo_reads_417 rfl ?_
  refine xi_if_le D_Mo_reads_418 (fun c132 => ?_) (fun c132 => ?_)
  · have h := okx_T c132 h
    exact w_Mo_reads_b463 (by omega) hR11 h
  · have h := okx_F c132 h
    refine xi_aload_n D_Mo_reads_421 rfl ?_
    obtain ⟨g133, h⟩ := okx_ck h
    refine xi_getR D_Mo_reads_422 F_Mo_38 (zl_fo (g133).1 rfl) ⟨rfl, by decide⟩ (zl_gr (g133).2 rfl rfl) ?_
    refine xi_iload_n D_Mo_reads_425 rfl ?_
    obtain ⟨g134, h⟩ := okx_ck h
    refine xj_iald D_Mo_reads_426 (zl_fx (g133).1 rfl) (zl_ib (n := 7) rfl (g134)) ?_
    refine xj_iconst (v := 1) D_Mo_reads_427 rfl ?_
    refine xi_icmp_ne D_Mo_reads_428 (fun c135 => ?_) (fun c135 => ?_)
    · have h := okx_F c135 h
      exact w_Mo_reads_b463 (by omega) hR11 h
    · have h := okx_T c135 h
      refine xi_iinc (v := _ + (-1)) (ls' := [_, _, _, _, _, _, _]) D_Mo_reads_431 rfl rfl rfl (by decide) ?_
      refine xi_goto D_Mo_reads_434 ?_
      exact hR417 _ _ _ h
noncomputable def f_Mo_reads_h417 (R11 : Int32 → Int32 → Sg → Option (Int32 × Sg)) : Nat → Int32 → Int32 → Sg → Option (Int32 × Sg)
  | 0, _, _, _ => none
  | n + 1, x1, x2, s => f_Mo_reads_b417 R11 (f_Mo_reads_h417 R11 n) x1 x2 s
theorem w_Mo_reads_h417 {d : Nat} {Q : Option (Option Value) → Sg → Prop} (hd : 3 ≤ d) {R11 : Int32 → Int32 → Sg → Option (Int32 × Sg)} (hR11 : ∀ (x1 : Int32) (x2 : Int32) (s : Sg), okx (zq_I Q) (R11 x1 x2 s) → Xw d M_Mo_reads 0 0 11 [.ref 46, .int x1, .int x2, .retAddr 0, .retAddr 0, .retAddr 0, .retAddr 0] [] s Q) : ∀ (n : Nat) (x1 : Int32) (x2 : Int32) (s : Sg), okx (zq_I Q) (f_Mo_reads_h417 R11 n x1 x2 s) → Xw d M_Mo_reads 0 0 417 [.ref 46, .int x1, .int x2, .retAddr 0, .retAddr 0, .retAddr 0, .retAddr 0] [] s Q := by
  intro n
  induction n with
  | zero => intro x1 x2 s h; exact okx_no h
  | succ n ih => intro x1 x2 s h; exact w_Mo_reads_b417 hd hR11 ih  h
noncomputable def f_Mo_reads_b457  (s : Sg) : Option (Int32 × Sg) :=
  f_ck (zl_B s) <|
  f_bd (f_Mo_fails 1 s) fun r145 s146 =>
  f_ck (narrow FieldType.boolean (.int r145) = .int r145) <|
  some (r145, s146)
theorem w_Mo_reads_b457 {s : Sg} {d : Nat} {Q : Option (Option Value) → Sg → Prop} (hd : 3 ≤ d) (h : okx (zq_I Q) (f_Mo_reads_b457  s)) : Xw d M_Mo_reads 0 0 457 [.ref 46, .retAddr 0, .retAddr 0, .retAddr 0, .retAddr 0, .retAddr 0, .retAddr 0] [] s Q := by
  unfold f_Mo_reads_b457 at h
  refine xi_aload_n D_Mo_reads_457 rfl ?_
  refine xj_iconst (v := 1) D_Mo_reads_458 rfl ?_
  obtain ⟨g144, h⟩ := okx_ck h
  refine xj_V1 D_Mo_reads_459 L_Mo_197 C_Mo_fails Z_Mo_fails (zl_fo (g144).1 rfl) (Nat.le_of_ble_eq_true rfl) (Nat.le_of_eq (Nat.sub_add_cancel (by omega))) (w_Mo_fails (by omega) (okx_mono (okx_bd h) ?_))
  intro r145 s146 h
  show Xw _ _ _ _ 462 _ [_] _ _
  obtain ⟨g147, h⟩ := okx_ck h
  exact xi_ireturn D_Mo_reads_462 rfl (g147) (okx_I h)
noncomputable def f_Mo_reads_b437 (x1 : Int32) (s : Sg) : Option (Int32 × Sg) :=
  if x1 = 0 then
    f_ck (zl_B s) <|
    f_bd (f_Mo_isWord 459818 s) fun r138 s139 =>
    if r138 = 0 then
      f_Mo_reads_b457   s139
    else
      f_ck (zl_B s139) <|
      f_bd (f_Mo_nextToken  s139) fun r142 s143 =>
      some (1, s143)
  else
    f_Mo_reads_b457   s
theorem w_Mo_reads_b437 {x1 : Int32} {s : Sg} {d : Nat} {Q : Option (Option Value) → Sg → Prop} (hd : 3 ≤ d) (h : okx (zq_I Q) (f_Mo_reads_b437 x1 s)) : Xw d M_Mo_reads 0 0 437 [.ref 46, .int x1, .retAddr 0, .retAddr 0, .retAddr 0, .retAddr 0, .retAddr 0] [] s Q := by
  unfold f_Mo_reads_b437 at h
  refine xi_iload_n D_Mo_reads_437 rfl ?_
  refine xi_if_ne D_Mo_reads_438 (fun c136 => ?_) (fun c136 => ?_)
  · have h := okx_F c136 h
    exact xk_wk (w_Mo_reads_b457 (by omega)  h) ⟨Or.inl rfl, Or.inr rfl, Or.inl rfl, Or.inl rfl, Or.inl rfl, Or.inl rfl, Or.inl rfl, trivial⟩
  · have h := okx_T c136 h
    refine xi_aload_n D_Mo_reads_441 rfl ?_
    refine xi_ldc2 D_Mo_reads_442 K_Mo_164 ?_
    obtain ⟨g137, h⟩ := okx_ck h
    refine xj_V1 D_Mo_reads_445 L_Mo_189 C_Mo_isWord Z_Mo_isWord (zl_fo (g137).1 rfl) (Nat.le_of_ble_eq_true rfl) (Nat.le_of_eq (Nat.sub_add_cancel (by omega))) (w_Mo_isWord (by omega) (okx_mono (okx_bd h) ?_))
    intro r138 s139 h
    show Xw _ _ _ _ 448 _ [_] _ _
    refine xi_if_eq D_Mo_reads_448 (fun c140 => ?_) (fun c140 => ?_)
    · have h := okx_T c140 h
      exact xk_wk (w_Mo_reads_b457 (by omega)  h) ⟨Or.inl rfl, Or.inr rfl, Or.inl rfl, Or.inl rfl, Or.inl rfl, Or.inl rfl, Or.inl rfl, trivial⟩
    · have h := okx_F c140 h
      refine xi_aload_n D_Mo_reads_451 rfl ?_
      obtain ⟨g141, h⟩ := okx_ck h
      refine xj_V0 D_Mo_reads_452 L_Mo_204 C_Mo_nextToken Z_Mo_nextToken (zl_fo (g141).1 rfl) (Nat.le_of_ble_eq_true rfl) (Nat.le_of_eq (Nat.sub_add_cancel (by omega))) (w_Mo_nextToken (by omega) (okx_mono (okx_bd h) ?_))
      intro r142 s143 h
      show Xw _ _ _ _ 455 _ [] _ _
      refine xj_iconst (v := 1) D_Mo_reads_455 rfl ?_
      exact xi_ireturn D_Mo_reads_456 rfl (rfl) (okx_I h)
noncomputable def f_Mo_reads_b342 (R11 : Int32 → Int32 → Sg → Option (Int32 × Sg)) (x1 : Int32) (x2 : Int32) (s : Sg) : Option (Int32 × Sg) :=
  f_ck (zl_B s) <|
  f_bd (f_Mo_isWord 1111 s) fun r107 s108 =>
  if r107 = 0 then
    f_ck (zl_B s108) <|
    f_bd (f_Mo_isWord 423 s108) fun r111 s112 =>
    if r111 = 0 then
      f_ck (zl_B s112) <|
      f_bd (f_Mo_isSign 41 s112) fun r115 s116 =>
      if r115 = 0 then
        f_Mo_reads_b437  x1 s116
      else
        if x1 ≤ 0 then
          f_Mo_reads_b437  x1 s116
        else
          f_ck (zl_B s116) <|
          f_bd (f_Mo_puts 29 s116) fun r120 s121 =>
          f_Mo_reads_h417 R11 zl_fl (x1 + (-1)) x2 s121
    else
      f_Mo_reads_b362 R11 x1 s112
  else
    f_Mo_reads_b362 R11 x1 s108
theorem w_Mo_reads_b342 {x1 : Int32} {x2 : Int32} {s : Sg} {d : Nat} {Q : Option (Option Value) → Sg → Prop} (hd : 3 ≤ d) {R11 : Int32 → Int32 → Sg → Option (Int32 × Sg)} (hR11 : ∀ (x1 : Int32) (x2 : Int32) (s : Sg), okx (zq_I Q) (R11 x1 x2 s) → Xw d M_Mo_reads 0 0 11 [.ref 46, .int x1, .int x2, .retAddr 0, .retAddr 0, .retAddr 0, .retAddr 0] [] s Q) (h : okx (zq_I Q) (f_Mo_reads_b342 R11 x1 x2 s)) : Xw d M_Mo_reads 0 0 342 [.ref 46, .int x1, .int x2, .retAddr 0, .retAddr 0, .retAddr 0, .retAddr 0] [] s Q := by
  unfold f_Mo_reads_b342 at h
  refine xi_aload_n D_Mo_reads_342 rfl ?_
  refine xi_ldc2 D_Mo_reads_343 K_Mo_168 ?_
  obtain ⟨g106, h⟩ := okx_ck h
  refine xj_V1 D_Mo_reads_346 L_Mo_189 C_Mo_isWord Z_Mo_isWord (zl_fo (g106).1 rfl) (Nat.le_of_ble_eq_true rfl) (Nat.le_of_eq (Nat.sub_add_cancel (by omega))) (w_Mo_isWord (by omega) (okx_mono (okx_bd h) ?_))
  intro r107 s108 h
  show Xw _ _ _ _ 349 _ [_] _ _
  refine xi_if_ne D_Mo_reads_349 (fun c109 => ?_) (fun c109 => ?_)
  · have h := okx_F c109 h
    exact xk_wk (w_Mo_reads_b362 (by omega) hR11 h) ⟨Or.inl rfl, Or.inl rfl, Or.inr rfl, Or.inl rfl, Or.inl rfl, Or.inl rfl, Or.inl rfl, trivial⟩
  · have h := okx_T c109 h
    refine xi_aload_n D_Mo_reads_352 rfl ?_
    refine xi_ldc2 D_Mo_reads_353 K_Mo_170 ?_
    obtain ⟨g110, h⟩ := okx_ck h
    refine xj_V1 D_Mo_reads_356 L_Mo_189 C_Mo_isWord Z_Mo_isWord (zl_fo (g110).1 rfl) (Nat.le_of_ble_eq_true rfl) (Nat.le_of_eq (Nat.sub_add_cancel (by omega))) (w_Mo_isWord (by omega) (okx_mono (okx_bd h) ?_))
    intro r111 s112 h
    show Xw _ _ _ _ 359 _ [_] _ _
    refine xi_if_eq D_Mo_reads_359 (fun c113 => ?_) (fun c113 => ?_)
    · have h := okx_T c113 h
      refine xi_aload_n D_Mo_reads_395 rfl ?_
      refine xi_bipush (v := 41) D_Mo_reads_396 rfl ?_
      obtain ⟨g114, h⟩ := okx_ck h
      refine xj_V1 D_Mo_reads_398 L_Mo_193 C_Mo_isSign Z_Mo_isSign (zl_fo (g114).1 rfl) (Nat.le_of_ble_eq_true rfl) (Nat.le_of_eq (Nat.sub_add_cancel (by omega))) (w_Mo_isSign (by omega) (okx_mono (okx_bd h) ?_))
      intro r115 s116 h
      show Xw _ _ _ _ 401 _ [_] _ _
      refine xi_if_eq D_Mo_reads_401 (fun c117 => ?_) (fun c117 => ?_)
      · have h := okx_T c117 h
        exact xk_wk (w_Mo_reads_b437 (by omega)  h) ⟨Or.inl rfl, Or.inl rfl, Or.inr rfl, Or.inl rfl, Or.inl rfl, Or.inl rfl, Or.inl rfl, trivial⟩
      · have h := okx_F c117 h
        refine xi_iload_n D_Mo_reads_404 rfl ?_
        refine xi_if_le D_Mo_reads_405 (fun c118 => ?_) (fun c118 => ?_)
        · have h := okx_T c118 h
          exact xk_wk (w_Mo_reads_b437 (by omega)  h) ⟨Or.inl rfl, Or.inl rfl, Or.inr rfl, Or.inl rfl, Or.inl rfl, Or.inl rfl, Or.inl rfl, trivial⟩
        · have h := okx_F c118 h
          refine xi_aload_n D_Mo_reads_408 rfl ?_
          refine xi_bipush (v := 29) D_Mo_reads_409 rfl ?_
          obtain ⟨g119, h⟩ := okx_ck h
          refine xj_V1 D_Mo_reads_411 L_Mo_200 C_Mo_puts Z_Mo_puts (zl_fo (g119).1 rfl) (Nat.le_of_ble_eq_true rfl) (Nat.le_of_eq (Nat.sub_add_cancel (by omega))) (w_Mo_puts (by omega) (okx_mono (okx_bd h) ?_))
          intro r120 s121 h
          show Xw _ _ _ _ 414 _ [] _ _
          refine xi_iinc (v := _ + (-1)) (ls' := [_, _, _, _, _, _, _]) D_Mo_reads_414 rfl rfl rfl (by decide) ?_
          exact w_Mo_reads_h417 (by omega) hR11 _ _ _ _ h
    · have h := okx_F c113 h
      exact xk_wk (w_Mo_reads_b362 (by omega) hR11 h) ⟨Or.inl rfl, Or.inl rfl, Or.inr rfl, Or.inl rfl, Or.inl rfl, Or.inl rfl, Or.inl rfl, trivial⟩
noncomputable def f_Mo_reads_b301 (R11 : Int32 → Int32 → Sg → Option (Int32 × Sg)) (x1 : Int32) (x2 : Int32) (s : Sg) : Option (Int32 × Sg) :=
  f_ck (zl_B s) <|
  f_ck (vp_in x1 7) <|
  if (mI s 57 (Int32.toNatClampNeg x1)) = 0 then
    f_bd (f_Mo_isSign 60 s) fun r97 s98 =>
    if r97 = 0 then
      f_Mo_reads_b327 R11 x1 25 s98
    else
      f_Mo_reads_b327 R11 x1 24 s98
  else
    f_Mo_reads_b342 R11 x1 x2 s
theorem w_Mo_reads_b301 {x1 : Int32} {x2 : Int32} {s : Sg} {d : Nat} {Q : Option (Option Value) → Sg → Prop} (hd : 3 ≤ d) {R11 : Int32 → Int32 → Sg → Option (Int32 × Sg)} (hR11 : ∀ (x1 : Int32) (x2 : Int32) (s : Sg), okx (zq_I Q) (R11 x1 x2 s) → Xw d M_Mo_reads 0 0 11 [.ref 46, .int x1, .int x2, .retAddr 0, .retAddr 0, .retAddr 0, .retAddr 0] [] s Q) (h : okx (zq_I Q) (f_Mo_reads_b301 R11 x1 x2 s)) : Xw d M_Mo_reads 0 0 301 [.ref 46, .int x1, .int x2, .retAddr 0, .retAddr 0, .retAddr 0, .retAddr 0] [] s Q := by
  unfold f_Mo_reads_b301 at h
  refine xi_aload_n D_Mo_reads_301 rfl ?_
  obtain ⟨g94, h⟩ := okx_ck h
  refine xi_getR D_Mo_reads_302 F_Mo_41 (zl_fo (g94).1 rfl) ⟨rfl, by decide⟩ (zl_gr (g94).2 rfl rfl) ?_
  refine xi_iload_n D_Mo_reads_305 rfl ?_
  obtain ⟨g95, h⟩ := okx_ck h
  refine xj_zald D_Mo_reads_306 (zl_fx (g94).1 rfl) (zl_ib (n := 7) rfl (g95)) ?_
  refine xi_if_ne D_Mo_reads_307 (fun c96 => ?_) (fun c96 => ?_)
  · have h := okx_F c96 h
    exact w_Mo_reads_b342 (by omega) hR11 h
  · have h := okx_T c96 h
    refine xi_aload_n D_Mo_reads_310 rfl ?_
    refine xi_aload_n D_Mo_reads_311 rfl ?_
    refine xi_bipush (v := 60) D_Mo_reads_312 rfl ?_
    refine xj_V1 D_Mo_reads_314 L_Mo_193 C_Mo_isSign Z_Mo_isSign (zl_fo (g94).1 rfl) (Nat.le_of_ble_eq_true rfl) (Nat.le_of_eq (Nat.sub_add_cancel (by omega))) (w_Mo_isSign (by omega) (okx_mono (okx_bd h) ?_))
    intro r97 s98 h
    show Xw _ _ _ _ 317 _ [_, _] _ _
    refine xi_if_eq D_Mo_reads_317 (fun c99 => ?_) (fun c99 => ?_)
    · have h := okx_T c99 h
      refine xi_bipush (v := 25) D_Mo_reads_325 rfl ?_
      exact xk_wk (w_Mo_reads_b327 (by omega) hR11 h) ⟨Or.inl rfl, Or.inl rfl, Or.inr rfl, Or.inl rfl, Or.inl rfl, Or.inl rfl, Or.inl rfl, trivial⟩
    · have h := okx_F c99 h
      refine xi_bipush (v := 24) D_Mo_reads_320 rfl ?_
      refine xi_goto D_Mo_reads_322 ?_
      exact xk_wk (w_Mo_reads_b327 (by omega) hR11 h) ⟨Or.inl rfl, Or.inl rfl, Or.inr rfl, Or.inl rfl, Or.inl rfl, Or.inl rfl, Or.inl rfl, trivial⟩
noncomputable def f_Mo_reads_b11 (R11 : Int32 → Int32 → Sg → Option (Int32 × Sg)) (x1 : Int32) (x2 : Int32) (s : Sg) : Option (Int32 × Sg) :=
  if x2 = 0 then
    f_ck (zl_B s) <|
    f_bd (f_Mo_isSign 43 s) fun r5 s6 =>
    if r5 = 0 then
      f_ck (zl_B s6) <|
      f_bd (f_Mo_isSign 45 s6) fun r9 s10 =>
      if r9 = 0 then
        f_ck (zl_B s10) <|
        f_bd (f_Mo_isSign 42 s10) fun r13 s14 =>
        if r13 = 0 then
          f_ck (zl_B s14) <|
          f_bd (f_Mo_isSign 60 s14) fun r17 s18 =>
          if r17 = 0 then
            f_ck (zl_B s18) <|
            f_bd (f_Mo_isSign 61 s18) fun r21 s22 =>
            if r21 = 0 then
              f_Mo_reads_b342 R11 x1 x2 s22
            else
              f_Mo_reads_b301 R11 x1 x2 s22
          else
            f_Mo_reads_b301 R11 x1 x2 s18
        else
          f_Mo_reads_b244 R11 x1 s14
      else
        f_Mo_reads_b244 R11 x1 s10
    else
      f_Mo_reads_b244 R11 x1 s6
  else
    f_ck (zl_B s) <|
    f_bd (f_Mo_isName  s) fun r25 s26 =>
    if r25 = 0 then
      f_Mo_reads_b32 R11 x1 x2 r25 (-1) s26
    else
      f_ck (zl_B s26) <|
      f_bd (f_Mo_whose  s26) fun r29 s30 =>
      f_Mo_reads_b32 R11 x1 x2 r25 r29 s30
theorem w_Mo_reads_b11 {x1 : Int32} {x2 : Int32} {s : Sg} {d : Nat} {Q : Option (Option Value) → Sg → Prop} (hd : 3 ≤ d) {R11 : Int32 → Int32 → Sg → Option (Int32 × Sg)} (hR11 : ∀ (x1 : Int32) (x2 : Int32) (s : Sg), okx (zq_I Q) (R11 x1 x2 s) → Xw d M_Mo_reads 0 0 11 [.ref 46, .int x1, .int x2, .retAddr 0, .retAddr 0, .retAddr 0, .retAddr 0] [] s Q) (h : okx (zq_I Q) (f_Mo_reads_b11 R11 x1 x2 s)) : Xw d M_Mo_reads 0 0 11 [.ref 46, .int x1, .int x2, .retAddr 0, .retAddr 0, .retAddr 0, .retAddr 0] [] s Q := by
  unfold f_Mo_reads_b11 at h
  refine xi_iload_n D_Mo_reads_11 rfl ?_
  refine xi_if_eq D_Mo_reads_12 (fun c3 => ?_) (fun c3 => ?_)
  · have h := okx_T c3 h
    refine xi_aload_n D_Mo_reads_217 rfl ?_
    refine xi_bipush (v := 43) D_Mo_reads_218 rfl ?_
    obtain ⟨g4, h⟩ := okx_ck h
    refine xj_V1 D_Mo_reads_220 L_Mo_193 C_Mo_isSign Z_Mo_isSign (zl_fo (g4).1 rfl) (Nat.le_of_ble_eq_true rfl) (Nat.le_of_eq (Nat.sub_add_cancel (by omega))) (w_Mo_isSign (by omega) (okx_mono (okx_bd h) ?_))
    intro r5 s6 h
    show Xw _ _ _ _ 223 _ [_] _ _
    refine xi_if_ne D_Mo_reads_223 (fun c7 => ?_) (fun c7 => ?_)
    · have h := okx_F c7 h
      exact xk_wk (w_Mo_reads_b244 (by omega) hR11 h) ⟨Or.inl rfl, Or.inl rfl, Or.inr rfl, Or.inl rfl, Or.inl rfl, Or.inl rfl, Or.inl rfl, trivial⟩
    · have h := okx_T c7 h
      refine xi_aload_n D_Mo_reads_226 rfl ?_
      refine xi_bipush (v := 45) D_Mo_reads_227 rfl ?_
      obtain ⟨g8, h⟩ := okx_ck h
      refine xj_V1 D_Mo_reads_229 L_Mo_193 C_Mo_isSign Z_Mo_isSign (zl_fo (g8).1 rfl) (Nat.le_of_ble_eq_true rfl) (Nat.le_of_eq (Nat.sub_add_cancel (by omega))) (w_Mo_isSign (by omega) (okx_mono (okx_bd h) ?_))
      intro r9 s10 h
      show Xw _ _ _ _ 232 _ [_] _ _
      refine xi_if_ne D_Mo_reads_232 (fun c11 => ?_) (fun c11 => ?_)
      · have h := okx_F c11 h
        exact xk_wk (w_Mo_reads_b244 (by omega) hR11 h) ⟨Or.inl rfl, Or.inl rfl, Or.inr rfl, Or.inl rfl, Or.inl rfl, Or.inl rfl, Or.inl rfl, trivial⟩
      · have h := okx_T c11 h
        refine xi_aload_n D_Mo_reads_235 rfl ?_
        refine xi_bipush (v := 42) D_Mo_reads_236 rfl ?_
        obtain ⟨g12, h⟩ := okx_ck h
        refine xj_V1 D_Mo_reads_238 L_Mo_193 C_Mo_isSign Z_Mo_isSign (zl_fo (g12).1 rfl) (Nat.le_of_ble_eq_true rfl) (Nat.le_of_eq (Nat.sub_add_cancel (by omega))) (w_Mo_isSign (by omega) (okx_mono (okx_bd h) ?_))
        intro r13 s14 h
        show Xw _ _ _ _ 241 _ [_] _ _
        refine xi_if_eq D_Mo_reads_241 (fun c15 => ?_) (fun c15 => ?_)
        · have h := okx_T c15 h
          refine xi_aload_n D_Mo_reads_283 rfl ?_
          refine xi_bipush (v := 60) D_Mo_reads_284 rfl ?_
          obtain ⟨g16, h⟩ := okx_ck h
          refine xj_V1 D_Mo_reads_286 L_Mo_193 C_Mo_isSign Z_Mo_isSign (zl_fo (g16).1 rfl) (Nat.le_of_ble_eq_true rfl) (Nat.le_of_eq (Nat.sub_add_cancel (by omega))) (w_Mo_isSign (by omega) (okx_mono (okx_bd h) ?_))
          intro r17 s18 h
          show Xw _ _ _ _ 289 _ [_] _ _
          refine xi_if_ne D_Mo_reads_289 (fun c19 => ?_) (fun c19 => ?_)
          · have h := okx_F c19 h
            exact w_Mo_reads_b301 (by omega) hR11 h
          · have h := okx_T c19 h
            refine xi_aload_n D_Mo_reads_292 rfl ?_
            refine xi_bipush (v := 61) D_Mo_reads_293 rfl ?_
            obtain ⟨g20, h⟩ := okx_ck h
            refine xj_V1 D_Mo_reads_295 L_Mo_193 C_Mo_isSign Z_Mo_isSign (zl_fo (g20).1 rfl) (Nat.le_of_ble_eq_true rfl) (Nat.le_of_eq (Nat.sub_add_cancel (by omega))) (w_Mo_isSign (by omega) (okx_mono (okx_bd h) ?_))
            intro r21 s22 h
            show Xw _ _ _ _ 298 _ [_] _ _
            refine xi_if_eq D_Mo_reads_298 (fun c23 => ?_) (fun c23 => ?_)
            · have h := okx_T c23 h
              exact w_Mo_reads_b342 (by omega) hR11 h
            · have h := okx_F c23 h
              exact w_Mo_reads_b301 (by omega) hR11 h
        · have h := okx_F c15 h
          exact xk_wk (w_Mo_reads_b244 (by omega) hR11 h) ⟨Or.inl rfl, Or.inl rfl, Or.inr rfl, Or.inl rfl, Or.inl rfl, Or.inl rfl, Or.inl rfl, trivial⟩
  · have h := okx_F c3 h
    refine xi_aload_n D_Mo_reads_15 rfl ?_
    obtain ⟨g24, h⟩ := okx_ck h
    refine xj_V0 D_Mo_reads_16 L_Mo_182 C_Mo_isName Z_Mo_isName (zl_fo (g24).1 rfl) (Nat.le_of_ble_eq_true rfl) (Nat.le_of_eq (Nat.sub_add_cancel (by omega))) (w_Mo_isName (by omega) (okx_mono (okx_bd h) ?_))
    intro r25 s26 h
    show Xw _ _ _ _ 19 _ [_] _ _
    refine xi_istore_n (ls' := [_, _, _, _, _, _, _]) D_Mo_reads_19 rfl (by decide) ?_
    refine xi_iload_n D_Mo_reads_20 rfl ?_
    refine xi_if_eq D_Mo_reads_21 (fun c27 => ?_) (fun c27 => ?_)
    · have h := okx_T c27 h
      refine xj_iconst (v := (-1)) D_Mo_reads_31 rfl ?_
      exact w_Mo_reads_b32 (by omega) hR11 h
    · have h := okx_F c27 h
      refine xi_aload_n D_Mo_reads_24 rfl ?_
      obtain ⟨g28, h⟩ := okx_ck h
      refine xj_V0 D_Mo_reads_25 L_Mo_185 C_Mo_whose Z_Mo_whose (zl_fo (g28).1 rfl) (Nat.le_of_ble_eq_true rfl) (Nat.le_of_eq (Nat.sub_add_cancel (by omega))) (w_Mo_whose (by omega) (okx_mono (okx_bd h) ?_))
      intro r29 s30 h
      show Xw _ _ _ _ 28 _ [_] _ _
      refine xi_goto D_Mo_reads_28 ?_
      exact w_Mo_reads_b32 (by omega) hR11 h
noncomputable def f_Mo_reads_h11 : Nat → Int32 → Int32 → Sg → Option (Int32 × Sg)
  | 0, _, _, _ => none
  | n + 1, x1, x2, s => f_Mo_reads_b11 (f_Mo_reads_h11 n) x1 x2 s
theorem w_Mo_reads_h11 {d : Nat} {Q : Option (Option Value) → Sg → Prop} (hd : 3 ≤ d) : ∀ (n : Nat) (x1 : Int32) (x2 : Int32) (s : Sg), okx (zq_I Q) (f_Mo_reads_h11 n x1 x2 s) → Xw d M_Mo_reads 0 0 11 [.ref 46, .int x1, .int x2, .retAddr 0, .retAddr 0, .retAddr 0, .retAddr 0] [] s Q := by
  intro n
  induction n with
  | zero => intro x1 x2 s h; exact okx_no h
  | succ n ih => intro x1 x2 s h; exact w_Mo_reads_b11 hd  ih  h
noncomputable def f_Mo_reads  (s : Sg) : Option (Int32 × Sg) :=
  f_ck (zl_B s) <|
  let s2 : Sg := uI s 57 (Int32.toNatClampNeg (0 : Int32)) (vp_nar .boolean 0)
  f_Mo_reads_h11  zl_fl 0 1 s2
theorem w_Mo_reads {s : Sg} {d : Nat} {Q : Option (Option Value) → Sg → Prop} (hd : 3 ≤ d) (h : okx (zq_I Q) (f_Mo_reads  s)) : Cw d M_Mo_reads [.ref 46] s Q := by
  refine Cw.of (by decide +kernel) (Nat.le_of_ble_eq_true rfl) ?_
  show Xw d M_Mo_reads 0 0 0 [.ref 46, .retAddr 0, .retAddr 0, .retAddr 0, .retAddr 0, .retAddr 0, .retAddr 0] [] s _
  unfold f_Mo_reads at h
  refine xj_iconst (v := 0) D_Mo_reads_0 rfl ?_
  refine xi_istore_n (ls' := [_, _, _, _, _, _, _]) D_Mo_reads_1 rfl (by decide) ?_
  refine xj_iconst (v := 1) D_Mo_reads_2 rfl ?_
  refine xi_istore_n (ls' := [_, _, _, _, _, _, _]) D_Mo_reads_3 rfl (by decide) ?_
  refine xi_aload_n D_Mo_reads_4 rfl ?_
  obtain ⟨g1, h⟩ := okx_ck h
  refine xi_getR D_Mo_reads_5 F_Mo_41 (zl_fo (g1).1 rfl) ⟨rfl, by decide⟩ (zl_gr (g1).2 rfl rfl) ?_
  refine xj_iconst (v := 0) D_Mo_reads_8 rfl ?_
  refine xj_iconst (v := 0) D_Mo_reads_9 rfl ?_
  refine xj_zast D_Mo_reads_10 (zl_fx (g1).1 rfl) (zl_ib (n := 7) rfl (zl_vin rfl)) rfl ?_
  exact w_Mo_reads_h11 (by omega)  _ _ _ _ h
noncomputable def f_Mo_readsLine_b100  (s : Sg) : Option (Int32 × Sg) :=
  f_ck (zl_B s) <|
  f_bd (f_Mo_fails 1 s) fun r39 s40 =>
  f_ck (narrow FieldType.boolean (.int r39) = .int r39) <|
  some (r39, s40)
theorem w_Mo_readsLine_b100 {s : Sg} {d : Nat} {Q : Option (Option Value) → Sg → Prop} (hd : 4 ≤ d) (h : okx (zq_I Q) (f_Mo_readsLine_b100  s)) : Xw d M_Mo_readsLine 0 0 100 [.ref 46, .retAddr 0, .retAddr 0, .retAddr 0] [] s Q := by
  unfold f_Mo_readsLine_b100 at h
  refine xi_aload_n D_Mo_readsLine_100 rfl ?_
  refine xj_iconst (v := 1) D_Mo_readsLine_101 rfl ?_
  obtain ⟨g38, h⟩ := okx_ck h
  refine xj_V1 D_Mo_readsLine_102 L_Mo_197 C_Mo_fails Z_Mo_fails (zl_fo (g38).1 rfl) (Nat.le_of_ble_eq_true rfl) (Nat.le_of_eq (Nat.sub_add_cancel (by omega))) (w_Mo_fails (by omega) (okx_mono (okx_bd h) ?_))
  intro r39 s40 h
  show Xw _ _ _ _ 105 _ [_] _ _
  obtain ⟨g41, h⟩ := okx_ck h
  exact xi_ireturn D_Mo_readsLine_105 rfl (g41) (okx_I h)
noncomputable def f_Mo_readsLine_b115  (s : Sg) : Option (Int32 × Sg) :=
  f_ck (zl_B s) <|
  f_bd (f_Mo_fails 2 s) fun r43 s44 =>
  f_ck (narrow FieldType.boolean (.int r43) = .int r43) <|
  some (r43, s44)
theorem w_Mo_readsLine_b115 {s : Sg} {d : Nat} {Q : Option (Option Value) → Sg → Prop} (hd : 4 ≤ d) (h : okx (zq_I Q) (f_Mo_readsLine_b115  s)) : Xw d M_Mo_readsLine 0 0 115 [.ref 46, .retAddr 0, .retAddr 0, .retAddr 0] [] s Q := by
  unfold f_Mo_readsLine_b115 at h
  refine xi_aload_n D_Mo_readsLine_115 rfl ?_
  refine xj_iconst (v := 2) D_Mo_readsLine_116 rfl ?_
  obtain ⟨g42, h⟩ := okx_ck h
  refine xj_V1 D_Mo_readsLine_117 L_Mo_197 C_Mo_fails Z_Mo_fails (zl_fo (g42).1 rfl) (Nat.le_of_ble_eq_true rfl) (Nat.le_of_eq (Nat.sub_add_cancel (by omega))) (w_Mo_fails (by omega) (okx_mono (okx_bd h) ?_))
  intro r43 s44 h
  show Xw _ _ _ _ 120 _ [_] _ _
  obtain ⟨g45, h⟩ := okx_ck h
  exact xi_ireturn D_Mo_readsLine_120 rfl (g45) (okx_I h)
noncomputable def f_Mo_readsLine_b163  (s : Sg) : Option (Int32 × Sg) :=
  f_ck (zl_B s) <|
  f_bd (f_Mo_fails 3 s) fun r62 s63 =>
  f_ck (narrow FieldType.boolean (.int r62) = .int r62) <|
  some (r62, s63)
theorem w_Mo_readsLine_b163 {s : Sg} {d : Nat} {Q : Option (Option Value) → Sg → Prop} (hd : 4 ≤ d) (h : okx (zq_I Q) (f_Mo_readsLine_b163  s)) : Xw d M_Mo_readsLine 0 0 163 [.ref 46, .retAddr 0, .retAddr 0, .retAddr 0] [] s Q := by
  unfold f_Mo_readsLine_b163 at h
  refine xi_aload_n D_Mo_readsLine_163 rfl ?_
  refine xj_iconst (v := 3) D_Mo_readsLine_164 rfl ?_
  obtain ⟨g61, h⟩ := okx_ck h
  refine xj_V1 D_Mo_readsLine_165 L_Mo_197 C_Mo_fails Z_Mo_fails (zl_fo (g61).1 rfl) (Nat.le_of_ble_eq_true rfl) (Nat.le_of_eq (Nat.sub_add_cancel (by omega))) (w_Mo_fails (by omega) (okx_mono (okx_bd h) ?_))
  intro r62 s63 h
  show Xw _ _ _ _ 168 _ [_] _ _
  obtain ⟨g64, h⟩ := okx_ck h
  exact xi_ireturn D_Mo_readsLine_168 rfl (g64) (okx_I h)
noncomputable def f_Mo_readsLine_b197 (R70 : Int32 → Sg → Option (Int32 × Sg)) (x1 : Int32) (s : Sg) : Option (Int32 × Sg) :=
  f_ck (zl_B s) <|
  f_bd (f_Mo_nextToken  s) fun r66 s67 =>
  R70 x1 s67
theorem w_Mo_readsLine_b197 {x1 : Int32} {s : Sg} {d : Nat} {Q : Option (Option Value) → Sg → Prop} (hd : 4 ≤ d) {R70 : Int32 → Sg → Option (Int32 × Sg)} (hR70 : ∀ (x1 : Int32) (s : Sg), okx (zq_I Q) (R70 x1 s) → Xw d M_Mo_readsLine 0 0 70 [.ref 46, .int x1, .retAddr 0, .retAddr 0] [] s Q) (h : okx (zq_I Q) (f_Mo_readsLine_b197 R70 x1 s)) : Xw d M_Mo_readsLine 0 0 197 [.ref 46, .int x1, .retAddr 0, .retAddr 0] [] s Q := by
  unfold f_Mo_readsLine_b197 at h
  refine xi_aload_n D_Mo_readsLine_197 rfl ?_
  obtain ⟨g65, h⟩ := okx_ck h
  refine xj_V0 D_Mo_readsLine_198 L_Mo_204 C_Mo_nextToken Z_Mo_nextToken (zl_fo (g65).1 rfl) (Nat.le_of_ble_eq_true rfl) (Nat.le_of_eq (Nat.sub_add_cancel (by omega))) (w_Mo_nextToken (by omega) (okx_mono (okx_bd h) ?_))
  intro r66 s67 h
  show Xw _ _ _ _ 201 _ [] _ _
  refine xi_goto D_Mo_readsLine_201 ?_
  exact hR70 _ _ h
noncomputable def f_Mo_readsLine_b158 (R70 : Int32 → Sg → Option (Int32 × Sg)) (x1 : Int32) (x2 : Int32) (x3 : Int32) (y0 : Int32) (s : Sg) : Option (Int32 × Sg) :=
  if (y0 &&& x3) ≤ 0 then
    if 4 ≤ x2 then
      f_ck (zl_B s) <|
      f_ck (vp_in x1 16) <|
      f_ck (vp_in x1 16) <|
      let s56 : Sg := uI s 52 (Int32.toNatClampNeg x1) ((mI s 52 (Int32.toNatClampNeg x1)) ||| x3)
      f_Mo_readsLine_b197 R70 x1 s56
    else
      f_ck (zl_B s) <|
      f_ck (vp_in x1 16) <|
      f_ck (vp_in x1 16) <|
      let s60 : Sg := uI s 51 (Int32.toNatClampNeg x1) ((mI s 51 (Int32.toNatClampNeg x1)) ||| x3)
      f_Mo_readsLine_b197 R70 x1 s60
  else
    f_Mo_readsLine_b163   s
theorem w_Mo_readsLine_b158 {x1 : Int32} {x2 : Int32} {x3 : Int32} {y0 : Int32} {s : Sg} {d : Nat} {Q : Option (Option Value) → Sg → Prop} (hd : 4 ≤ d) {R70 : Int32 → Sg → Option (Int32 × Sg)} (hR70 : ∀ (x1 : Int32) (s : Sg), okx (zq_I Q) (R70 x1 s) → Xw d M_Mo_readsLine 0 0 70 [.ref 46, .int x1, .retAddr 0, .retAddr 0] [] s Q) (h : okx (zq_I Q) (f_Mo_readsLine_b158 R70 x1 x2 x3 y0 s)) : Xw d M_Mo_readsLine 0 0 158 [.ref 46, .int x1, .int x2, .int x3] [.int y0] s Q := by
  unfold f_Mo_readsLine_b158 at h
  refine xi_iload_n D_Mo_readsLine_158 rfl ?_
  refine xi_iand D_Mo_readsLine_159 ?_
  refine xi_if_le D_Mo_readsLine_160 (fun c51 => ?_) (fun c51 => ?_)
  · have h := okx_T c51 h
    refine xi_iload_n D_Mo_readsLine_169 rfl ?_
    refine xj_iconst (v := 4) D_Mo_readsLine_170 rfl ?_
    refine xi_icmp_ge D_Mo_readsLine_171 (fun c52 => ?_) (fun c52 => ?_)
    · have h := okx_T c52 h
      refine xi_aload_n D_Mo_readsLine_187 rfl ?_
      obtain ⟨g53, h⟩ := okx_ck h
      refine xi_getR D_Mo_readsLine_188 F_Mo_26 (zl_fo (g53).1 rfl) ⟨rfl, by decide⟩ (zl_gr (g53).2 rfl rfl) ?_
      refine xi_iload_n D_Mo_readsLine_191 rfl ?_
      refine xi_dup2 D_Mo_readsLine_192 ?_
      obtain ⟨g54, h⟩ := okx_ck h
      refine xj_iald D_Mo_readsLine_193 (zl_fx (g53).1 rfl) (zl_ib (n := 16) rfl (g54)) ?_
      refine xi_iload_n D_Mo_readsLine_194 rfl ?_
      refine xi_ior D_Mo_readsLine_195 ?_
      obtain ⟨g55, h⟩ := okx_ck h
      refine xj_iast D_Mo_readsLine_196 (zl_fx (g53).1 rfl) (zl_ib (n := 16) rfl (g55)) ?_
      exact xk_wk (w_Mo_readsLine_b197 (by omega) hR70 h) ⟨Or.inl rfl, Or.inl rfl, Or.inr rfl, Or.inr rfl, trivial⟩
    · have h := okx_F c52 h
      refine xi_aload_n D_Mo_readsLine_174 rfl ?_
      obtain ⟨g57, h⟩ := okx_ck h
      refine xi_getR D_Mo_readsLine_175 F_Mo_23 (zl_fo (g57).1 rfl) ⟨rfl, by decide⟩ (zl_gr (g57).2 rfl rfl) ?_
      refine xi_iload_n D_Mo_readsLine_178 rfl ?_
      refine xi_dup2 D_Mo_readsLine_179 ?_
      obtain ⟨g58, h⟩ := okx_ck h
      refine xj_iald D_Mo_readsLine_180 (zl_fx (g57).1 rfl) (zl_ib (n := 16) rfl (g58)) ?_
      refine xi_iload_n D_Mo_readsLine_181 rfl ?_
      refine xi_ior D_Mo_readsLine_182 ?_
      obtain ⟨g59, h⟩ := okx_ck h
      refine xj_iast D_Mo_readsLine_183 (zl_fx (g57).1 rfl) (zl_ib (n := 16) rfl (g59)) ?_
      refine xi_goto D_Mo_readsLine_184 ?_
      exact xk_wk (w_Mo_readsLine_b197 (by omega) hR70 h) ⟨Or.inl rfl, Or.inl rfl, Or.inr rfl, Or.inr rfl, trivial⟩
  · have h := okx_F c51 h
    exact xk_wk (w_Mo_readsLine_b163 (by omega)  h) ⟨Or.inl rfl, Or.inr rfl, Or.inr rfl, Or.inr rfl, trivial⟩
noncomputable def f_Mo_readsLine_b137 (R70 : Int32 → Sg → Option (Int32 × Sg)) (x1 : Int32) (x2 : Int32) (y0 : Int32) (s : Sg) : Option (Int32 × Sg) :=
  if 4 ≤ x2 then
    f_ck (zl_B s) <|
    f_ck (vp_in x1 16) <|
    f_Mo_readsLine_b158 R70 x1 x2 y0 (mI s 52 (Int32.toNatClampNeg x1)) s
  else
    f_ck (zl_B s) <|
    f_ck (vp_in x1 16) <|
    f_Mo_readsLine_b158 R70 x1 x2 y0 (mI s 51 (Int32.toNatClampNeg x1)) s
theorem w_Mo_readsLine_b137 {x1 : Int32} {x2 : Int32} {y0 : Int32} {s : Sg} {d : Nat} {Q : Option (Option Value) → Sg → Prop} (hd : 4 ≤ d) {R70 : Int32 → Sg → Option (Int32 × Sg)} (hR70 : ∀ (x1 : Int32) (s : Sg), okx (zq_I Q) (R70 x1 s) → Xw d M_Mo_readsLine 0 0 70 [.ref 46, .int x1, .retAddr 0, .retAddr 0] [] s Q) (h : okx (zq_I Q) (f_Mo_readsLine_b137 R70 x1 x2 y0 s)) : Xw d M_Mo_readsLine 0 0 137 [.ref 46, .int x1, .int x2, .retAddr 0] [.int y0] s Q := by
  unfold f_Mo_readsLine_b137 at h
  refine xi_istore_n (ls' := [_, _, _, _]) D_Mo_readsLine_137 rfl (by decide) ?_
  refine xi_iload_n D_Mo_readsLine_138 rfl ?_
  refine xj_iconst (v := 4) D_Mo_readsLine_139 rfl ?_
  refine xi_icmp_ge D_Mo_readsLine_140 (fun c46 => ?_) (fun c46 => ?_)
  · have h := okx_T c46 h
    refine xi_aload_n D_Mo_readsLine_152 rfl ?_
    obtain ⟨g47, h⟩ := okx_ck h
    refine xi_getR D_Mo_readsLine_153 F_Mo_26 (zl_fo (g47).1 rfl) ⟨rfl, by decide⟩ (zl_gr (g47).2 rfl rfl) ?_
    refine xi_iload_n D_Mo_readsLine_156 rfl ?_
    obtain ⟨g48, h⟩ := okx_ck h
    refine xj_iald D_Mo_readsLine_157 (zl_fx (g47).1 rfl) (zl_ib (n := 16) rfl (g48)) ?_
    exact w_Mo_readsLine_b158 (by omega) hR70 h
  · have h := okx_F c46 h
    refine xi_aload_n D_Mo_readsLine_143 rfl ?_
    obtain ⟨g49, h⟩ := okx_ck h
    refine xi_getR D_Mo_readsLine_144 F_Mo_23 (zl_fo (g49).1 rfl) ⟨rfl, by decide⟩ (zl_gr (g49).2 rfl rfl) ?_
    refine xi_iload_n D_Mo_readsLine_147 rfl ?_
    obtain ⟨g50, h⟩ := okx_ck h
    refine xj_iald D_Mo_readsLine_148 (zl_fx (g49).1 rfl) (zl_ib (n := 16) rfl (g50)) ?_
    refine xi_goto D_Mo_readsLine_149 ?_
    exact w_Mo_readsLine_b158 (by omega) hR70 h
noncomputable def f_Mo_readsLine_b93 (R70 : Int32 → Sg → Option (Int32 × Sg)) (x1 : Int32) (s : Sg) : Option (Int32 × Sg) :=
  f_ck (zl_B s) <|
  f_bd (f_Mo_isName  s) fun r30 s31 =>
  if r30 = 0 then
    f_Mo_readsLine_b100   s31
  else
    f_ck (zl_B s31) <|
    f_bd (f_Mo_whose  s31) fun r34 s35 =>
    if 0 ≤ r34 then
      if 4 ≤ r34 then
        f_Mo_readsLine_b137 R70 x1 r34 ((1 : Int32) <<< ((r34 - 4) &&& 31)) s35
      else
        f_Mo_readsLine_b137 R70 x1 r34 ((1 : Int32) <<< (r34 &&& 31)) s35
    else
      f_Mo_readsLine_b115   s35
theorem w_Mo_readsLine_b93 {x1 : Int32} {s : Sg} {d : Nat} {Q : Option (Option Value) → Sg → Prop} (hd : 4 ≤ d) {R70 : Int32 → Sg → Option (Int32 × Sg)} (hR70 : ∀ (x1 : Int32) (s : Sg), okx (zq_I Q) (R70 x1 s) → Xw d M_Mo_readsLine 0 0 70 [.ref 46, .int x1, .retAddr 0, .retAddr 0] [] s Q) (h : okx (zq_I Q) (f_Mo_readsLine_b93 R70 x1 s)) : Xw d M_Mo_readsLine 0 0 93 [.ref 46, .int x1, .retAddr 0, .retAddr 0] [] s Q := by
  unfold f_Mo_readsLine_b93 at h
  refine xi_aload_n D_Mo_readsLine_93 rfl ?_
  obtain ⟨g29, h⟩ := okx_ck h
  refine xj_V0 D_Mo_readsLine_94 L_Mo_182 C_Mo_isName Z_Mo_isName (zl_fo (g29).1 rfl) (Nat.le_of_ble_eq_true rfl) (Nat.le_of_eq (Nat.sub_add_cancel (by omega))) (w_Mo_isName (by omega) (okx_mono (okx_bd h) ?_))
  intro r30 s31 h
  show Xw _ _ _ _ 97 _ [_] _ _
  refine xi_if_ne D_Mo_readsLine_97 (fun c32 => ?_) (fun c32 => ?_)
  · have h := okx_F c32 h
    refine xi_aload_n D_Mo_readsLine_106 rfl ?_
    obtain ⟨g33, h⟩ := okx_ck h
    refine xj_V0 D_Mo_readsLine_107 L_Mo_185 C_Mo_whose Z_Mo_whose (zl_fo (g33).1 rfl) (Nat.le_of_ble_eq_true rfl) (Nat.le_of_eq (Nat.sub_add_cancel (by omega))) (w_Mo_whose (by omega) (okx_mono (okx_bd h) ?_))
    intro r34 s35 h
    show Xw _ _ _ _ 110 _ [_] _ _
    refine xi_istore_n (ls' := [_, _, _, _]) D_Mo_readsLine_110 rfl (by decide) ?_
    refine xi_iload_n D_Mo_readsLine_111 rfl ?_
    refine xi_if_ge D_Mo_readsLine_112 (fun c36 => ?_) (fun c36 => ?_)
    · have h := okx_T c36 h
      refine xi_iload_n D_Mo_readsLine_121 rfl ?_
      refine xj_iconst (v := 4) D_Mo_readsLine_122 rfl ?_
      refine xi_icmp_ge D_Mo_readsLine_123 (fun c37 => ?_) (fun c37 => ?_)
      · have h := okx_T c37 h
        refine xj_iconst (v := 1) D_Mo_readsLine_132 rfl ?_
        refine xi_iload_n D_Mo_readsLine_133 rfl ?_
        refine xj_iconst (v := 4) D_Mo_readsLine_134 rfl ?_
        refine xi_isub D_Mo_readsLine_135 ?_
        refine xi_ishl D_Mo_readsLine_136 ?_
        exact w_Mo_readsLine_b137 (by omega) hR70 h
      · have h := okx_F c37 h
        refine xj_iconst (v := 1) D_Mo_readsLine_126 rfl ?_
        refine xi_iload_n D_Mo_readsLine_127 rfl ?_
        refine xi_ishl D_Mo_readsLine_128 ?_
        refine xi_goto D_Mo_readsLine_129 ?_
        exact w_Mo_readsLine_b137 (by omega) hR70 h
    · have h := okx_F c36 h
      exact xk_wk (w_Mo_readsLine_b115 (by omega)  h) ⟨Or.inl rfl, Or.inr rfl, Or.inr rfl, Or.inl rfl, trivial⟩
  · have h := okx_T c32 h
    exact xk_wk (w_Mo_readsLine_b100 (by omega)  h) ⟨Or.inl rfl, Or.inr rfl, Or.inl rfl, Or.inl rfl, trivial⟩
noncomputable def f_Mo_readsLine_b204  (s : Sg) : Option (Int32 × Sg) :=
  f_ck (zl_B s) <|
  let s69 : Sg := uI s 46 24 ((mI s 46 24) + 1)
  f_bd (f_Mo_ends  s69) fun r70 s71 =>
  f_ck (narrow FieldType.boolean (.int r70) = .int r70) <|
  some (r70, s71)
theorem w_Mo_readsLine_b204 {s : Sg} {d : Nat} {Q : Option (Option Value) → Sg → Prop} (hd : 4 ≤ d) (h : okx (zq_I Q) (f_Mo_readsLine_b204  s)) : Xw d M_Mo_readsLine 0 0 204 [.ref 46, .retAddr 0, .retAddr 0, .retAddr 0] [] s Q := by
  unfold f_Mo_readsLine_b204 at h
  refine xi_aload_n D_Mo_readsLine_204 rfl ?_
  refine xi_dupr D_Mo_readsLine_205 ?_
  obtain ⟨g68, h⟩ := okx_ck h
  refine xi_getI D_Mo_readsLine_206 F_Mo_210 (zl_fo (g68).1 rfl) ⟨rfl, by decide⟩ ?_
  refine xj_iconst (v := 1) D_Mo_readsLine_209 rfl ?_
  refine xi_iadd D_Mo_readsLine_210 ?_
  refine xi_putI D_Mo_readsLine_211 F_Mo_210 (zl_fo (g68).1 rfl) ⟨rfl, by decide, rfl⟩ (⟨rfl, rfl⟩) ?_
  refine xi_aload_n D_Mo_readsLine_214 rfl ?_
  refine xj_V0 D_Mo_readsLine_215 L_Mo_207 C_Mo_ends Z_Mo_ends (zl_fo (g68).1 rfl) (Nat.le_of_ble_eq_true rfl) (Nat.le_of_eq (Nat.sub_add_cancel (by omega))) (w_Mo_ends (by omega) (okx_mono (okx_bd h) ?_))
  intro r70 s71 h
  show Xw _ _ _ _ 218 _ [_] _ _
  obtain ⟨g72, h⟩ := okx_ck h
  exact xi_ireturn D_Mo_readsLine_218 rfl (g72) (okx_I h)
noncomputable def f_Mo_readsLine_b70 (R70 : Int32 → Sg → Option (Int32 × Sg)) (x1 : Int32) (s : Sg) : Option (Int32 × Sg) :=
  f_ck (zl_B s) <|
  f_bd (f_Mo_isName  s) fun r22 s23 =>
  if r22 = 0 then
    f_ck (zl_B s23) <|
    f_ck (vp_in x1 16) <|
    f_ck (vp_in x1 16) <|
    if ((mI s23 51 (Int32.toNatClampNeg x1)) + (mI s23 52 (Int32.toNatClampNeg x1))) = 0 then
      f_Mo_readsLine_b93 R70 x1 s23
    else
      f_Mo_readsLine_b204   s23
  else
    f_Mo_readsLine_b93 R70 x1 s23
theorem w_Mo_readsLine_b70 {x1 : Int32} {s : Sg} {d : Nat} {Q : Option (Option Value) → Sg → Prop} (hd : 4 ≤ d) {R70 : Int32 → Sg → Option (Int32 × Sg)} (hR70 : ∀ (x1 : Int32) (s : Sg), okx (zq_I Q) (R70 x1 s) → Xw d M_Mo_readsLine 0 0 70 [.ref 46, .int x1, .retAddr 0, .retAddr 0] [] s Q) (h : okx (zq_I Q) (f_Mo_readsLine_b70 R70 x1 s)) : Xw d M_Mo_readsLine 0 0 70 [.ref 46, .int x1, .retAddr 0, .retAddr 0] [] s Q := by
  unfold f_Mo_readsLine_b70 at h
  refine xi_aload_n D_Mo_readsLine_70 rfl ?_
  obtain ⟨g21, h⟩ := okx_ck h
  refine xj_V0 D_Mo_readsLine_71 L_Mo_182 C_Mo_isName Z_Mo_isName (zl_fo (g21).1 rfl) (Nat.le_of_ble_eq_true rfl) (Nat.le_of_eq (Nat.sub_add_cancel (by omega))) (w_Mo_isName (by omega) (okx_mono (okx_bd h) ?_))
  intro r22 s23 h
  show Xw _ _ _ _ 74 _ [_] _ _
  refine xi_if_ne D_Mo_readsLine_74 (fun c24 => ?_) (fun c24 => ?_)
  · have h := okx_F c24 h
    exact w_Mo_readsLine_b93 (by omega) hR70 h
  · have h := okx_T c24 h
    refine xi_aload_n D_Mo_readsLine_77 rfl ?_
    obtain ⟨g25, h⟩ := okx_ck h
    refine xi_getR D_Mo_readsLine_78 F_Mo_23 (zl_fo (g25).1 rfl) ⟨rfl, by decide⟩ (zl_gr (g25).2 rfl rfl) ?_
    refine xi_iload_n D_Mo_readsLine_81 rfl ?_
    obtain ⟨g26, h⟩ := okx_ck h
    refine xj_iald D_Mo_readsLine_82 (zl_fx (g25).1 rfl) (zl_ib (n := 16) rfl (g26)) ?_
    refine xi_aload_n D_Mo_readsLine_83 rfl ?_
    refine xi_getR D_Mo_readsLine_84 F_Mo_26 (zl_fo (g25).1 rfl) ⟨rfl, by decide⟩ (zl_gr (g25).2 rfl rfl) ?_
    refine xi_iload_n D_Mo_readsLine_87 rfl ?_
    obtain ⟨g27, h⟩ := okx_ck h
    refine xj_iald D_Mo_readsLine_88 (zl_fx (g25).1 rfl) (zl_ib (n := 16) rfl (g27)) ?_
    refine xi_iadd D_Mo_readsLine_89 ?_
    refine xi_if_ne D_Mo_readsLine_90 (fun c28 => ?_) (fun c28 => ?_)
    · have h := okx_F c28 h
      exact xk_wk (w_Mo_readsLine_b204 (by omega)  h) ⟨Or.inl rfl, Or.inr rfl, Or.inl rfl, Or.inl rfl, trivial⟩
    · have h := okx_T c28 h
      exact w_Mo_readsLine_b93 (by omega) hR70 h
noncomputable def f_Mo_readsLine_h70 : Nat → Int32 → Sg → Option (Int32 × Sg)
  | 0, _, _ => none
  | n + 1, x1, s => f_Mo_readsLine_b70 (f_Mo_readsLine_h70 n) x1 s
theorem w_Mo_readsLine_h70 {d : Nat} {Q : Option (Option Value) → Sg → Prop} (hd : 4 ≤ d) : ∀ (n : Nat) (x1 : Int32) (s : Sg), okx (zq_I Q) (f_Mo_readsLine_h70 n x1 s) → Xw d M_Mo_readsLine 0 0 70 [.ref 46, .int x1, .retAddr 0, .retAddr 0] [] s Q := by
  intro n
  induction n with
  | zero => intro x1 s h; exact okx_no h
  | succ n ih => intro x1 s h; exact w_Mo_readsLine_b70 hd  ih  h
noncomputable def f_Mo_readsLine  (s : Sg) : Option (Int32 × Sg) :=
  f_ck (zl_B s) <|
  if (mI s 46 24) = 8 then
    f_bd (f_Mo_fails 5 s) fun r3 s4 =>
    f_ck (narrow FieldType.boolean (.int r3) = .int r3) <|
    some (r3, s4)
  else
    f_bd (f_Mo_nextToken  s) fun r6 s7 =>
    f_ck (zl_B s7) <|
    f_ck (vp_in (8 + (mI s 46 24)) 16) <|
    let s10 : Sg := uI s7 53 (Int32.toNatClampNeg (8 + (mI s 46 24))) (mI s7 46 21)
    f_bd (f_Mo_reads  s10) fun r11 s12 =>
    if r11 = 0 then
      some (0, s12)
    else
      f_ck (zl_B s12) <|
      f_ck (vp_in (8 + (mI s 46 24)) 16) <|
      let s16 : Sg := uI s12 54 (Int32.toNatClampNeg (8 + (mI s 46 24))) (mI s12 46 21)
      f_ck (vp_in (8 + (mI s 46 24)) 16) <|
      let s18 : Sg := uI s16 51 (Int32.toNatClampNeg (8 + (mI s 46 24))) 0
      f_ck (vp_in (8 + (mI s 46 24)) 16) <|
      let s20 : Sg := uI s18 52 (Int32.toNatClampNeg (8 + (mI s 46 24))) 0
      f_Mo_readsLine_h70  zl_fl (8 + (mI s 46 24)) s20
theorem w_Mo_readsLine {s : Sg} {d : Nat} {Q : Option (Option Value) → Sg → Prop} (hd : 4 ≤ d) (h : okx (zq_I Q) (f_Mo_readsLine  s)) : Cw d M_Mo_readsLine [.ref 46] s Q := by
  refine Cw.of (by decide +kernel) (Nat.le_of_ble_eq_true rfl) ?_
  show Xw d M_Mo_readsLine 0 0 0 [.ref 46, .retAddr 0, .retAddr 0, .retAddr 0] [] s _
  unfold f_Mo_readsLine at h
  refine xi_aload_n D_Mo_readsLine_0 rfl ?_
  obtain ⟨g1, h⟩ := okx_ck h
  refine xi_getI D_Mo_readsLine_1 F_Mo_210 (zl_fo (g1).1 rfl) ⟨rfl, by decide⟩ ?_
  refine xi_bipush (v := 8) D_Mo_readsLine_4 rfl ?_
  refine xi_icmp_ne D_Mo_readsLine_6 (fun c2 => ?_) (fun c2 => ?_)
  · have h := okx_F c2 h
    refine xi_bipush (v := 8) D_Mo_readsLine_15 rfl ?_
    refine xi_aload_n D_Mo_readsLine_17 rfl ?_
    refine xi_getI D_Mo_readsLine_18 F_Mo_210 (zl_fo (g1).1 rfl) ⟨rfl, by decide⟩ ?_
    refine xi_iadd D_Mo_readsLine_21 ?_
    refine xi_istore_n (ls' := [_, _, _, _]) D_Mo_readsLine_22 rfl (by decide) ?_
    refine xi_aload_n D_Mo_readsLine_23 rfl ?_
    refine xj_V0 D_Mo_readsLine_24 L_Mo_204 C_Mo_nextToken Z_Mo_nextToken (zl_fo (g1).1 rfl) (Nat.le_of_ble_eq_true rfl) (Nat.le_of_eq (Nat.sub_add_cancel (by omega))) (w_Mo_nextToken (by omega) (okx_mono (okx_bd h) ?_))
    intro r6 s7 h
    show Xw _ _ _ _ 27 _ [] _ _
    refine xi_aload_n D_Mo_readsLine_27 rfl ?_
    obtain ⟨g8, h⟩ := okx_ck h
    refine xi_getR D_Mo_readsLine_28 F_Mo_29 (zl_fo (g8).1 rfl) ⟨rfl, by decide⟩ (zl_gr (g8).2 rfl rfl) ?_
    refine xi_iload_n D_Mo_readsLine_31 rfl ?_
    refine xi_aload_n D_Mo_readsLine_32 rfl ?_
    refine xi_getI D_Mo_readsLine_33 F_Mo_153 (zl_fo (g8).1 rfl) ⟨rfl, by decide⟩ ?_
    obtain ⟨g9, h⟩ := okx_ck h
    refine xj_iast D_Mo_readsLine_36 (zl_fx (g8).1 rfl) (zl_ib (n := 16) rfl (g9)) ?_
    refine xi_aload_n D_Mo_readsLine_37 rfl ?_
    refine xj_V0 D_Mo_readsLine_38 L_Mo_213 C_Mo_reads Z_Mo_reads (zl_fo (g8).1 rfl) (Nat.le_of_ble_eq_true rfl) (Nat.le_of_eq (Nat.sub_add_cancel (by omega))) (w_Mo_reads (by omega) (okx_mono (okx_bd h) ?_))
    intro r11 s12 h
    show Xw _ _ _ _ 41 _ [_] _ _
    refine xi_if_ne D_Mo_readsLine_41 (fun c13 => ?_) (fun c13 => ?_)
    · have h := okx_F c13 h
      refine xi_aload_n D_Mo_readsLine_46 rfl ?_
      obtain ⟨g14, h⟩ := okx_ck h
      refine xi_getR D_Mo_readsLine_47 F_Mo_32 (zl_fo (g14).1 rfl) ⟨rfl, by decide⟩ (zl_gr (g14).2 rfl rfl) ?_
      refine xi_iload_n D_Mo_readsLine_50 rfl ?_
      refine xi_aload_n D_Mo_readsLine_51 rfl ?_
      refine xi_getI D_Mo_readsLine_52 F_Mo_153 (zl_fo (g14).1 rfl) ⟨rfl, by decide⟩ ?_
      obtain ⟨g15, h⟩ := okx_ck h
      refine xj_iast D_Mo_readsLine_55 (zl_fx (g14).1 rfl) (zl_ib (n := 16) rfl (g15)) ?_
      refine xi_aload_n D_Mo_readsLine_56 rfl ?_
      refine xi_getR D_Mo_readsLine_57 F_Mo_23 (zl_fo (g14).1 rfl) ⟨rfl, by decide⟩ (zl_gr (g14).2 rfl rfl) ?_
      refine xi_iload_n D_Mo_readsLine_60 rfl ?_
      refine xj_iconst (v := 0) D_Mo_readsLine_61 rfl ?_
      obtain ⟨g17, h⟩ := okx_ck h
      refine xj_iast D_Mo_readsLine_62 (zl_fx (g14).1 rfl) (zl_ib (n := 16) rfl (g17)) ?_
      refine xi_aload_n D_Mo_readsLine_63 rfl ?_
      refine xi_getR D_Mo_readsLine_64 F_Mo_26 (zl_fo (g14).1 rfl) ⟨rfl, by decide⟩ (zl_gr (g14).2 rfl rfl) ?_
      refine xi_iload_n D_Mo_readsLine_67 rfl ?_
      refine xj_iconst (v := 0) D_Mo_readsLine_68 rfl ?_
      obtain ⟨g19, h⟩ := okx_ck h
      refine xj_iast D_Mo_readsLine_69 (zl_fx (g14).1 rfl) (zl_ib (n := 16) rfl (g19)) ?_
      exact w_Mo_readsLine_h70 (by omega)  _ _ _ h
    · have h := okx_T c13 h
      refine xj_iconst (v := 0) D_Mo_readsLine_44 rfl ?_
      exact xi_ireturn D_Mo_readsLine_45 rfl (rfl) (okx_I h)
  · have h := okx_T c2 h
    refine xi_aload_n D_Mo_readsLine_9 rfl ?_
    refine xj_iconst (v := 5) D_Mo_readsLine_10 rfl ?_
    refine xj_V1 D_Mo_readsLine_11 L_Mo_197 C_Mo_fails Z_Mo_fails (zl_fo (g1).1 rfl) (Nat.le_of_ble_eq_true rfl) (Nat.le_of_eq (Nat.sub_add_cancel (by omega))) (w_Mo_fails (by omega) (okx_mono (okx_bd h) ?_))
    intro r3 s4 h
    show Xw _ _ _ _ 14 _ [_] _ _
    obtain ⟨g5, h⟩ := okx_ck h
    exact xi_ireturn D_Mo_readsLine_14 rfl (g5) (okx_I h)
noncomputable def f_Mo_readsPerson_b111  (s : Sg) : Option (Int32 × Sg) :=
  f_ck (zl_B s) <|
  f_bd (f_Mo_fails 1 s) fun r52 s53 =>
  f_ck (narrow FieldType.boolean (.int r52) = .int r52) <|
  some (r52, s53)
theorem w_Mo_readsPerson_b111 {s : Sg} {d : Nat} {Q : Option (Option Value) → Sg → Prop} (hd : 4 ≤ d) (h : okx (zq_I Q) (f_Mo_readsPerson_b111  s)) : Xw d M_Mo_readsPerson 0 0 111 [.ref 46, .retAddr 0] [] s Q := by
  unfold f_Mo_readsPerson_b111 at h
  refine xi_aload_n D_Mo_readsPerson_111 rfl ?_
  refine xj_iconst (v := 1) D_Mo_readsPerson_112 rfl ?_
  obtain ⟨g51, h⟩ := okx_ck h
  refine xj_V1 D_Mo_readsPerson_113 L_Mo_197 C_Mo_fails Z_Mo_fails (zl_fo (g51).1 rfl) (Nat.le_of_ble_eq_true rfl) (Nat.le_of_eq (Nat.sub_add_cancel (by omega))) (w_Mo_fails (by omega) (okx_mono (okx_bd h) ?_))
  intro r52 s53 h
  show Xw _ _ _ _ 116 _ [_] _ _
  obtain ⟨g54, h⟩ := okx_ck h
  exact xi_ireturn D_Mo_readsPerson_116 rfl (g54) (okx_I h)
noncomputable def f_Mo_readsPerson_b127  (s : Sg) : Option (Int32 × Sg) :=
  f_ck (zl_B s) <|
  f_bd (f_Mo_fails 4 s) fun r56 s57 =>
  f_ck (narrow FieldType.boolean (.int r56) = .int r56) <|
  some (r56, s57)
theorem w_Mo_readsPerson_b127 {s : Sg} {d : Nat} {Q : Option (Option Value) → Sg → Prop} (hd : 4 ≤ d) (h : okx (zq_I Q) (f_Mo_readsPerson_b127  s)) : Xw d M_Mo_readsPerson 0 0 127 [.ref 46, .retAddr 0] [] s Q := by
  unfold f_Mo_readsPerson_b127 at h
  refine xi_aload_n D_Mo_readsPerson_127 rfl ?_
  refine xj_iconst (v := 4) D_Mo_readsPerson_128 rfl ?_
  obtain ⟨g55, h⟩ := okx_ck h
  refine xj_V1 D_Mo_readsPerson_129 L_Mo_197 C_Mo_fails Z_Mo_fails (zl_fo (g55).1 rfl) (Nat.le_of_ble_eq_true rfl) (Nat.le_of_eq (Nat.sub_add_cancel (by omega))) (w_Mo_fails (by omega) (okx_mono (okx_bd h) ?_))
  intro r56 s57 h
  show Xw _ _ _ _ 132 _ [_] _ _
  obtain ⟨g58, h⟩ := okx_ck h
  exact xi_ireturn D_Mo_readsPerson_132 rfl (g58) (okx_I h)
noncomputable def f_Mo_readsPerson_b103 (R86 : Int32 → Sg → Option (Int32 × Sg)) (x1 : Int32) (s : Sg) : Option (Int32 × Sg) :=
  f_ck (zl_B s) <|
  if (mI s 46 6) = 2 then
    if (mI s 46 8) ≤ 999 then
      f_ck (vp_in ((16 + (4 * (mI s 46 22))) + (x1 + 1)) 32) <|
      let s48 : Sg := uI s 50 (Int32.toNatClampNeg ((16 + (4 * (mI s 46 22))) + (x1 + 1))) (mI s 46 8)
      f_bd (f_Mo_nextToken  s48) fun r49 s50 =>
      R86 (x1 + 1) s50
    else
      f_Mo_readsPerson_b127   s
  else
    f_Mo_readsPerson_b111   s
theorem w_Mo_readsPerson_b103 {x1 : Int32} {s : Sg} {d : Nat} {Q : Option (Option Value) → Sg → Prop} (hd : 4 ≤ d) {R86 : Int32 → Sg → Option (Int32 × Sg)} (hR86 : ∀ (x1 : Int32) (s : Sg), okx (zq_I Q) (R86 x1 s) → Xw d M_Mo_readsPerson 0 0 86 [.ref 46, .int x1] [] s Q) (h : okx (zq_I Q) (f_Mo_readsPerson_b103 R86 x1 s)) : Xw d M_Mo_readsPerson 0 0 103 [.ref 46, .int x1] [] s Q := by
  unfold f_Mo_readsPerson_b103 at h
  refine xi_aload_n D_Mo_readsPerson_103 rfl ?_
  obtain ⟨g44, h⟩ := okx_ck h
  refine xi_getI D_Mo_readsPerson_104 F_Mo_139 (zl_fo (g44).1 rfl) ⟨rfl, by decide⟩ ?_
  refine xj_iconst (v := 2) D_Mo_readsPerson_107 rfl ?_
  refine xi_icmp_eq D_Mo_readsPerson_108 (fun c45 => ?_) (fun c45 => ?_)
  · have h := okx_T c45 h
    refine xi_aload_n D_Mo_readsPerson_117 rfl ?_
    refine xi_getI D_Mo_readsPerson_118 F_Mo_136 (zl_fo (g44).1 rfl) ⟨rfl, by decide⟩ ?_
    refine xi_sipush (v := 999) D_Mo_readsPerson_121 rfl ?_
    refine xi_icmp_le D_Mo_readsPerson_124 (fun c46 => ?_) (fun c46 => ?_)
    · have h := okx_T c46 h
      refine xi_iinc (v := _ + 1) (ls' := [_, _]) D_Mo_readsPerson_133 rfl rfl rfl (by decide) ?_
      refine xi_aload_n D_Mo_readsPerson_136 rfl ?_
      refine xi_getR D_Mo_readsPerson_137 F_Mo_20 (zl_fo (g44).1 rfl) ⟨rfl, by decide⟩ (zl_gr (g44).2 rfl rfl) ?_
      refine xi_bipush (v := 16) D_Mo_readsPerson_140 rfl ?_
      refine xj_iconst (v := 4) D_Mo_readsPerson_142 rfl ?_
      refine xi_aload_n D_Mo_readsPerson_143 rfl ?_
      refine xi_getI D_Mo_readsPerson_144 F_Mo_176 (zl_fo (g44).1 rfl) ⟨rfl, by decide⟩ ?_
      refine xi_imul D_Mo_readsPerson_147 ?_
      refine xi_iadd D_Mo_readsPerson_148 ?_
      refine xi_iload_n D_Mo_readsPerson_149 rfl ?_
      refine xi_iadd D_Mo_readsPerson_150 ?_
      refine xi_aload_n D_Mo_readsPerson_151 rfl ?_
      refine xi_getI D_Mo_readsPerson_152 F_Mo_136 (zl_fo (g44).1 rfl) ⟨rfl, by decide⟩ ?_
      obtain ⟨g47, h⟩ := okx_ck h
      refine xj_iast D_Mo_readsPerson_155 (zl_fx (g44).1 rfl) (zl_ib (n := 32) rfl (g47)) ?_
      refine xi_aload_n D_Mo_readsPerson_156 rfl ?_
      refine xj_V0 D_Mo_readsPerson_157 L_Mo_204 C_Mo_nextToken Z_Mo_nextToken (zl_fo (g44).1 rfl) (Nat.le_of_ble_eq_true rfl) (Nat.le_of_eq (Nat.sub_add_cancel (by omega))) (w_Mo_nextToken (by omega) (okx_mono (okx_bd h) ?_))
      intro r49 s50 h
      show Xw _ _ _ _ 160 _ [] _ _
      refine xi_goto D_Mo_readsPerson_160 ?_
      exact hR86 _ _ h
    · have h := okx_F c46 h
      exact xk_wk (w_Mo_readsPerson_b127 (by omega)  h) ⟨Or.inl rfl, Or.inr rfl, trivial⟩
  · have h := okx_F c45 h
    exact xk_wk (w_Mo_readsPerson_b111 (by omega)  h) ⟨Or.inl rfl, Or.inr rfl, trivial⟩
noncomputable def f_Mo_readsPerson_b163 (x1 : Int32) (s : Sg) : Option (Int32 × Sg) :=
  f_ck (zl_B s) <|
  f_ck (vp_in (4 + (mI s 46 22)) 8) <|
  let s61 : Sg := uI s 49 (Int32.toNatClampNeg (4 + (mI s 46 22))) x1
  let s62 : Sg := uI s61 46 22 ((mI s61 46 22) + 1)
  f_bd (f_Mo_ends  s62) fun r63 s64 =>
  f_ck (narrow FieldType.boolean (.int r63) = .int r63) <|
  some (r63, s64)
theorem w_Mo_readsPerson_b163 {x1 : Int32} {s : Sg} {d : Nat} {Q : Option (Option Value) → Sg → Prop} (hd : 4 ≤ d) (h : okx (zq_I Q) (f_Mo_readsPerson_b163 x1 s)) : Xw d M_Mo_readsPerson 0 0 163 [.ref 46, .int x1] [] s Q := by
  unfold f_Mo_readsPerson_b163 at h
  refine xi_aload_n D_Mo_readsPerson_163 rfl ?_
  obtain ⟨g59, h⟩ := okx_ck h
  refine xi_getR D_Mo_readsPerson_164 F_Mo_17 (zl_fo (g59).1 rfl) ⟨rfl, by decide⟩ (zl_gr (g59).2 rfl rfl) ?_
  refine xj_iconst (v := 4) D_Mo_readsPerson_167 rfl ?_
  refine xi_aload_n D_Mo_readsPerson_168 rfl ?_
  refine xi_getI D_Mo_readsPerson_169 F_Mo_176 (zl_fo (g59).1 rfl) ⟨rfl, by decide⟩ ?_
  refine xi_iadd D_Mo_readsPerson_172 ?_
  refine xi_iload_n D_Mo_readsPerson_173 rfl ?_
  obtain ⟨g60, h⟩ := okx_ck h
  refine xj_iast D_Mo_readsPerson_174 (zl_fx (g59).1 rfl) (zl_ib (n := 8) rfl (g60)) ?_
  refine xi_aload_n D_Mo_readsPerson_175 rfl ?_
  refine xi_dupr D_Mo_readsPerson_176 ?_
  refine xi_getI D_Mo_readsPerson_177 F_Mo_176 (zl_fo (g59).1 rfl) ⟨rfl, by decide⟩ ?_
  refine xj_iconst (v := 1) D_Mo_readsPerson_180 rfl ?_
  refine xi_iadd D_Mo_readsPerson_181 ?_
  refine xi_putI D_Mo_readsPerson_182 F_Mo_176 (zl_fo (g59).1 rfl) ⟨rfl, by decide, rfl⟩ (⟨rfl, rfl⟩) ?_
  refine xi_aload_n D_Mo_readsPerson_185 rfl ?_
  refine xj_V0 D_Mo_readsPerson_186 L_Mo_207 C_Mo_ends Z_Mo_ends (zl_fo (g59).1 rfl) (Nat.le_of_ble_eq_true rfl) (Nat.le_of_eq (Nat.sub_add_cancel (by omega))) (w_Mo_ends (by omega) (okx_mono (okx_bd h) ?_))
  intro r63 s64 h
  show Xw _ _ _ _ 189 _ [_] _ _
  obtain ⟨g65, h⟩ := okx_ck h
  exact xi_ireturn D_Mo_readsPerson_189 rfl (g65) (okx_I h)
noncomputable def f_Mo_readsPerson_b86 (R86 : Int32 → Sg → Option (Int32 × Sg)) (x1 : Int32) (s : Sg) : Option (Int32 × Sg) :=
  if 3 ≤ x1 then
    f_Mo_readsPerson_b163  x1 s
  else
    if x1 = 0 then
      f_Mo_readsPerson_b103 R86 x1 s
    else
      f_ck (zl_B s) <|
      if (mI s 46 6) = 2 then
        f_Mo_readsPerson_b103 R86 x1 s
      else
        f_Mo_readsPerson_b163  x1 s
theorem w_Mo_readsPerson_b86 {x1 : Int32} {s : Sg} {d : Nat} {Q : Option (Option Value) → Sg → Prop} (hd : 4 ≤ d) {R86 : Int32 → Sg → Option (Int32 × Sg)} (hR86 : ∀ (x1 : Int32) (s : Sg), okx (zq_I Q) (R86 x1 s) → Xw d M_Mo_readsPerson 0 0 86 [.ref 46, .int x1] [] s Q) (h : okx (zq_I Q) (f_Mo_readsPerson_b86 R86 x1 s)) : Xw d M_Mo_readsPerson 0 0 86 [.ref 46, .int x1] [] s Q := by
  unfold f_Mo_readsPerson_b86 at h
  refine xi_iload_n D_Mo_readsPerson_86 rfl ?_
  refine xj_iconst (v := 3) D_Mo_readsPerson_87 rfl ?_
  refine xi_icmp_ge D_Mo_readsPerson_88 (fun c40 => ?_) (fun c40 => ?_)
  · have h := okx_T c40 h
    exact w_Mo_readsPerson_b163 (by omega)  h
  · have h := okx_F c40 h
    refine xi_iload_n D_Mo_readsPerson_91 rfl ?_
    refine xi_if_eq D_Mo_readsPerson_92 (fun c41 => ?_) (fun c41 => ?_)
    · have h := okx_T c41 h
      exact w_Mo_readsPerson_b103 (by omega) hR86 h
    · have h := okx_F c41 h
      refine xi_aload_n D_Mo_readsPerson_95 rfl ?_
      obtain ⟨g42, h⟩ := okx_ck h
      refine xi_getI D_Mo_readsPerson_96 F_Mo_139 (zl_fo (g42).1 rfl) ⟨rfl, by decide⟩ ?_
      refine xj_iconst (v := 2) D_Mo_readsPerson_99 rfl ?_
      refine xi_icmp_ne D_Mo_readsPerson_100 (fun c43 => ?_) (fun c43 => ?_)
      · have h := okx_F c43 h
        exact w_Mo_readsPerson_b163 (by omega)  h
      · have h := okx_T c43 h
        exact w_Mo_readsPerson_b103 (by omega) hR86 h
noncomputable def f_Mo_readsPerson_h86 : Nat → Int32 → Sg → Option (Int32 × Sg)
  | 0, _, _ => none
  | n + 1, x1, s => f_Mo_readsPerson_b86 (f_Mo_readsPerson_h86 n) x1 s
theorem w_Mo_readsPerson_h86 {d : Nat} {Q : Option (Option Value) → Sg → Prop} (hd : 4 ≤ d) : ∀ (n : Nat) (x1 : Int32) (s : Sg), okx (zq_I Q) (f_Mo_readsPerson_h86 n x1 s) → Xw d M_Mo_readsPerson 0 0 86 [.ref 46, .int x1] [] s Q := by
  intro n
  induction n with
  | zero => intro x1 s h; exact okx_no h
  | succ n ih => intro x1 s h; exact w_Mo_readsPerson_b86 hd  ih  h
noncomputable def f_Mo_readsPerson  (s : Sg) : Option (Int32 × Sg) :=
  f_ck (zl_B s) <|
  if (mI s 46 22) = 4 then
    f_bd (f_Mo_fails 5 s) fun r3 s4 =>
    f_ck (narrow FieldType.boolean (.int r3) = .int r3) <|
    some (r3, s4)
  else
    f_bd (f_Mo_nextToken  s) fun r6 s7 =>
    f_ck (zl_B s7) <|
    f_bd (f_Mo_isName  s7) fun r9 s10 =>
    if r9 = 0 then
      f_ck (zl_B s10) <|
      f_bd (f_Mo_fails 1 s10) fun r13 s14 =>
      f_ck (narrow FieldType.boolean (.int r13) = .int r13) <|
      some (r13, s14)
    else
      f_ck (zl_B s10) <|
      f_bd (f_Mo_whose  s10) fun r17 s18 =>
      if r17 < 0 then
        f_ck (zl_B s18) <|
        f_ck (vp_in (7 + (mI s18 46 22)) 14) <|
        let s22 : Sg := uL s18 48 (Int32.toNatClampNeg (7 + (mI s18 46 22))) (mL s18 46 7)
        f_bd (f_Mo_nextToken  s22) fun r23 s24 =>
        f_ck (zl_B s24) <|
        f_bd (f_Mo_isWord 1903978 s24) fun r26 s27 =>
        if r26 = 0 then
          f_ck (zl_B s27) <|
          f_bd (f_Mo_fails 1 s27) fun r30 s31 =>
          f_ck (narrow FieldType.boolean (.int r30) = .int r30) <|
          some (r30, s31)
        else
          f_ck (zl_B s27) <|
          f_bd (f_Mo_nextToken  s27) fun r34 s35 =>
          f_Mo_readsPerson_h86  zl_fl 0 s35
      else
        f_ck (zl_B s18) <|
        f_bd (f_Mo_fails 3 s18) fun r37 s38 =>
        f_ck (narrow FieldType.boolean (.int r37) = .int r37) <|
        some (r37, s38)
theorem w_Mo_readsPerson {s : Sg} {d : Nat} {Q : Option (Option Value) → Sg → Prop} (hd : 4 ≤ d) (h : okx (zq_I Q) (f_Mo_readsPerson  s)) : Cw d M_Mo_readsPerson [.ref 46] s Q := by
  refine Cw.of (by decide +kernel) (Nat.le_of_ble_eq_true rfl) ?_
  show Xw d M_Mo_readsPerson 0 0 0 [.ref 46, .retAddr 0] [] s _
  unfold f_Mo_readsPerson at h
  refine xi_aload_n D_Mo_readsPerson_0 rfl ?_
  obtain ⟨g1, h⟩ := okx_ck h
  refine xi_getI D_Mo_readsPerson_1 F_Mo_176 (zl_fo (g1).1 rfl) ⟨rfl, by decide⟩ ?_
  refine xj_iconst (v := 4) D_Mo_readsPerson_4 rfl ?_
  refine xi_icmp_ne D_Mo_readsPerson_5 (fun c2 => ?_) (fun c2 => ?_)
  · have h := okx_F c2 h
    refine xi_aload_n D_Mo_readsPerson_14 rfl ?_
    refine xj_V0 D_Mo_readsPerson_15 L_Mo_204 C_Mo_nextToken Z_Mo_nextToken (zl_fo (g1).1 rfl) (Nat.le_of_ble_eq_true rfl) (Nat.le_of_eq (Nat.sub_add_cancel (by omega))) (w_Mo_nextToken (by omega) (okx_mono (okx_bd h) ?_))
    intro r6 s7 h
    show Xw _ _ _ _ 18 _ [] _ _
    refine xi_aload_n D_Mo_readsPerson_18 rfl ?_
    obtain ⟨g8, h⟩ := okx_ck h
    refine xj_V0 D_Mo_readsPerson_19 L_Mo_182 C_Mo_isName Z_Mo_isName (zl_fo (g8).1 rfl) (Nat.le_of_ble_eq_true rfl) (Nat.le_of_eq (Nat.sub_add_cancel (by omega))) (w_Mo_isName (by omega) (okx_mono (okx_bd h) ?_))
    intro r9 s10 h
    show Xw _ _ _ _ 22 _ [_] _ _
    refine xi_if_ne D_Mo_readsPerson_22 (fun c11 => ?_) (fun c11 => ?_)
    · have h := okx_F c11 h
      refine xi_aload_n D_Mo_readsPerson_31 rfl ?_
      obtain ⟨g16, h⟩ := okx_ck h
      refine xj_V0 D_Mo_readsPerson_32 L_Mo_185 C_Mo_whose Z_Mo_whose (zl_fo (g16).1 rfl) (Nat.le_of_ble_eq_true rfl) (Nat.le_of_eq (Nat.sub_add_cancel (by omega))) (w_Mo_whose (by omega) (okx_mono (okx_bd h) ?_))
      intro r17 s18 h
      show Xw _ _ _ _ 35 _ [_] _ _
      refine xi_if_lt D_Mo_readsPerson_35 (fun c19 => ?_) (fun c19 => ?_)
      · have h := okx_T c19 h
        refine xi_aload_n D_Mo_readsPerson_44 rfl ?_
        obtain ⟨g20, h⟩ := okx_ck h
        refine xi_getR D_Mo_readsPerson_45 F_Mo_13 (zl_fo (g20).1 rfl) ⟨rfl, by decide⟩ (zl_gr (g20).2 rfl rfl) ?_
        refine xi_bipush (v := 7) D_Mo_readsPerson_48 rfl ?_
        refine xi_aload_n D_Mo_readsPerson_50 rfl ?_
        refine xi_getI D_Mo_readsPerson_51 F_Mo_176 (zl_fo (g20).1 rfl) ⟨rfl, by decide⟩ ?_
        refine xi_iadd D_Mo_readsPerson_54 ?_
        refine xi_aload_n D_Mo_readsPerson_55 rfl ?_
        refine xi_getL D_Mo_readsPerson_56 F_Mo_132 (zl_fo (g20).1 rfl) ⟨rfl, by decide⟩ ?_
        obtain ⟨g21, h⟩ := okx_ck h
        refine xj_last D_Mo_readsPerson_59 (zl_fx (g20).1 rfl) (zl_ib (n := 14) rfl (g21)) ?_
        refine xi_aload_n D_Mo_readsPerson_60 rfl ?_
        refine xj_V0 D_Mo_readsPerson_61 L_Mo_204 C_Mo_nextToken Z_Mo_nextToken (zl_fo (g20).1 rfl) (Nat.le_of_ble_eq_true rfl) (Nat.le_of_eq (Nat.sub_add_cancel (by omega))) (w_Mo_nextToken (by omega) (okx_mono (okx_bd h) ?_))
        intro r23 s24 h
        show Xw _ _ _ _ 64 _ [] _ _
        refine xi_aload_n D_Mo_readsPerson_64 rfl ?_
        refine xi_ldc2 D_Mo_readsPerson_65 K_Mo_158 ?_
        obtain ⟨g25, h⟩ := okx_ck h
        refine xj_V1 D_Mo_readsPerson_68 L_Mo_189 C_Mo_isWord Z_Mo_isWord (zl_fo (g25).1 rfl) (Nat.le_of_ble_eq_true rfl) (Nat.le_of_eq (Nat.sub_add_cancel (by omega))) (w_Mo_isWord (by omega) (okx_mono (okx_bd h) ?_))
        intro r26 s27 h
        show Xw _ _ _ _ 71 _ [_] _ _
        refine xi_if_ne D_Mo_readsPerson_71 (fun c28 => ?_) (fun c28 => ?_)
        · have h := okx_F c28 h
          refine xi_aload_n D_Mo_readsPerson_80 rfl ?_
          obtain ⟨g33, h⟩ := okx_ck h
          refine xj_V0 D_Mo_readsPerson_81 L_Mo_204 C_Mo_nextToken Z_Mo_nextToken (zl_fo (g33).1 rfl) (Nat.le_of_ble_eq_true rfl) (Nat.le_of_eq (Nat.sub_add_cancel (by omega))) (w_Mo_nextToken (by omega) (okx_mono (okx_bd h) ?_))
          intro r34 s35 h
          show Xw _ _ _ _ 84 _ [] _ _
          refine xj_iconst (v := 0) D_Mo_readsPerson_84 rfl ?_
          refine xi_istore_n (ls' := [_, _]) D_Mo_readsPerson_85 rfl (by decide) ?_
          exact w_Mo_readsPerson_h86 (by omega)  _ _ _ h
        · have h := okx_T c28 h
          refine xi_aload_n D_Mo_readsPerson_74 rfl ?_
          refine xj_iconst (v := 1) D_Mo_readsPerson_75 rfl ?_
          obtain ⟨g29, h⟩ := okx_ck h
          refine xj_V1 D_Mo_readsPerson_76 L_Mo_197 C_Mo_fails Z_Mo_fails (zl_fo (g29).1 rfl) (Nat.le_of_ble_eq_true rfl) (Nat.le_of_eq (Nat.sub_add_cancel (by omega))) (w_Mo_fails (by omega) (okx_mono (okx_bd h) ?_))
          intro r30 s31 h
          show Xw _ _ _ _ 79 _ [_] _ _
          obtain ⟨g32, h⟩ := okx_ck h
          exact xi_ireturn D_Mo_readsPerson_79 rfl (g32) (okx_I h)
      · have h := okx_F c19 h
        refine xi_aload_n D_Mo_readsPerson_38 rfl ?_
        refine xj_iconst (v := 3) D_Mo_readsPerson_39 rfl ?_
        obtain ⟨g36, h⟩ := okx_ck h
        refine xj_V1 D_Mo_readsPerson_40 L_Mo_197 C_Mo_fails Z_Mo_fails (zl_fo (g36).1 rfl) (Nat.le_of_ble_eq_true rfl) (Nat.le_of_eq (Nat.sub_add_cancel (by omega))) (w_Mo_fails (by omega) (okx_mono (okx_bd h) ?_))
        intro r37 s38 h
        show Xw _ _ _ _ 43 _ [_] _ _
        obtain ⟨g39, h⟩ := okx_ck h
        exact xi_ireturn D_Mo_readsPerson_43 rfl (g39) (okx_I h)
    · have h := okx_T c11 h
      refine xi_aload_n D_Mo_readsPerson_25 rfl ?_
      refine xj_iconst (v := 1) D_Mo_readsPerson_26 rfl ?_
      obtain ⟨g12, h⟩ := okx_ck h
      refine xj_V1 D_Mo_readsPerson_27 L_Mo_197 C_Mo_fails Z_Mo_fails (zl_fo (g12).1 rfl) (Nat.le_of_ble_eq_true rfl) (Nat.le_of_eq (Nat.sub_add_cancel (by omega))) (w_Mo_fails (by omega) (okx_mono (okx_bd h) ?_))
      intro r13 s14 h
      show Xw _ _ _ _ 30 _ [_] _ _
      obtain ⟨g15, h⟩ := okx_ck h
      exact xi_ireturn D_Mo_readsPerson_30 rfl (g15) (okx_I h)
  · have h := okx_T c2 h
    refine xi_aload_n D_Mo_readsPerson_8 rfl ?_
    refine xj_iconst (v := 5) D_Mo_readsPerson_9 rfl ?_
    refine xj_V1 D_Mo_readsPerson_10 L_Mo_197 C_Mo_fails Z_Mo_fails (zl_fo (g1).1 rfl) (Nat.le_of_ble_eq_true rfl) (Nat.le_of_eq (Nat.sub_add_cancel (by omega))) (w_Mo_fails (by omega) (okx_mono (okx_bd h) ?_))
    intro r3 s4 h
    show Xw _ _ _ _ 13 _ [_] _ _
    obtain ⟨g5, h⟩ := okx_ck h
    exact xi_ireturn D_Mo_readsPerson_13 rfl (g5) (okx_I h)
