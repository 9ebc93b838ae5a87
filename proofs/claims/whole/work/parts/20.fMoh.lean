/-! by a program of ours (wip/whole/gen/func.py, mkall.py) out of the listing: Mo_thrown Mo_worked Mo_worksOut Mo_works Mo_worth Mo_would Mo_writing -/
noncomputable def f_Mo_thrown  (s : Sg) : Option (Int32 × Sg) :=
  f_ck (zl_B s) <|
  some ((mI s 46 0), s)
theorem w_Mo_thrown {s : Sg} {d : Nat} {Q : Option (Option Value) → Sg → Prop} (hd : 1 ≤ d) (h : okx (zq_I Q) (f_Mo_thrown  s)) : Cw d M_Mo_thrown [.ref 46] s Q := by
  refine Cw.of (by decide +kernel) (Nat.le_of_ble_eq_true rfl) ?_
  show Xw d M_Mo_thrown 0 0 0 [.ref 46] [] s _
  unfold f_Mo_thrown at h
  refine xi_aload_n D_Mo_thrown_0 rfl ?_
  obtain ⟨g1, h⟩ := okx_ck h
  refine xi_getI D_Mo_thrown_1 F_Mo_114 (zl_fo (g1).1 rfl) ⟨rfl, by decide⟩ ?_
  exact xi_ireturn D_Mo_thrown_4 rfl (rfl) (okx_I h)
noncomputable def f_Mo_worked_b329 (R14 : Int32 → Int32 → Int32 → Sg → Option (Int32 × Sg)) (x1 : Int32) (x2 : Int32) (x3 : Int32) (s : Sg) : Option (Int32 × Sg) :=
  R14 x1 x2 (x3 + 1) s
theorem w_Mo_worked_b329 {x1 : Int32} {x2 : Int32} {x3 : Int32} {s : Sg} {d : Nat} {Q : Option (Option Value) → Sg → Prop} (hd : 3 ≤ d) {R14 : Int32 → Int32 → Int32 → Sg → Option (Int32 × Sg)} (hR14 : ∀ (x1 : Int32) (x2 : Int32) (x3 : Int32) (s : Sg), okx (zq_I Q) (R14 x1 x2 x3 s) → Xw d M_Mo_worked 0 0 14 [.ref 46, .int x1, .int x2, .int x3, .retAddr 0, .retAddr 0] [] s Q) (h : okx (zq_I Q) (f_Mo_worked_b329 R14 x1 x2 x3 s)) : Xw d M_Mo_worked 0 0 329 [.ref 46, .int x1, .int x2, .int x3, .retAddr 0, .retAddr 0] [] s Q := by
  unfold f_Mo_worked_b329 at h
  refine xi_iinc (v := _ + 1) (ls' := [_, _, _, _, _, _]) D_Mo_worked_329 rfl rfl rfl (by decide) ?_
  refine xi_goto D_Mo_worked_332 ?_
  exact hR14 _ _ _ _ h
noncomputable def f_Mo_worked_b66 (R14 : Int32 → Int32 → Int32 → Sg → Option (Int32 × Sg)) (x1 : Int32) (x2 : Int32) (x3 : Int32) (y1 : Int32) (y2 : Int32) (s : Sg) : Option (Int32 × Sg) :=
  f_ck (zl_B s) <|
  f_ck (vp_in y1 7) <|
  let s28 : Sg := uI s 66 (Int32.toNatClampNeg y1) y2
  f_bd (f_Mo_opens x2 s28) fun r29 s30 =>
  f_Mo_worked_b329 R14 x1 x2 x3 s30
theorem w_Mo_worked_b66 {x1 : Int32} {x2 : Int32} {x3 : Int32} {y1 : Int32} {y2 : Int32} {s : Sg} {d : Nat} {Q : Option (Option Value) → Sg → Prop} (hd : 3 ≤ d) {R14 : Int32 → Int32 → Int32 → Sg → Option (Int32 × Sg)} (hR14 : ∀ (x1 : Int32) (x2 : Int32) (x3 : Int32) (s : Sg), okx (zq_I Q) (R14 x1 x2 x3 s) → Xw d M_Mo_worked 0 0 14 [.ref 46, .int x1, .int x2, .int x3, .retAddr 0, .retAddr 0] [] s Q) (h : okx (zq_I Q) (f_Mo_worked_b66 R14 x1 x2 x3 y1 y2 s)) : Xw d M_Mo_worked 0 0 66 [.ref 46, .int x1, .int x2, .int x3, .retAddr 0, .retAddr 0] [.int y2, .int y1, .ref 66] s Q := by
  unfold f_Mo_worked_b66 at h
  obtain ⟨g26, h⟩ := okx_ck h
  obtain ⟨g27, h⟩ := okx_ck h
  refine xj_iast D_Mo_worked_66 (zl_fx (g26).1 rfl) (zl_ib (n := 7) rfl (g27)) ?_
  refine xi_aload_n D_Mo_worked_67 rfl ?_
  refine xi_iload_n D_Mo_worked_68 rfl ?_
  refine xj_V1 D_Mo_worked_69 L_Mo_228 C_Mo_opens Z_Mo_opens (zl_fo (g26).1 rfl) (Nat.le_of_ble_eq_true rfl) (Nat.le_of_eq (Nat.sub_add_cancel (by omega))) (w_Mo_opens (by omega) (okx_mono (okx_bd h) ?_))
  intro r29 s30 h
  show Xw _ _ _ _ 72 _ [] _ _
  refine xi_goto D_Mo_worked_72 ?_
  exact w_Mo_worked_b329 (by omega) hR14 h
noncomputable def f_Mo_worked_b46 (R14 : Int32 → Int32 → Int32 → Sg → Option (Int32 × Sg)) (x1 : Int32) (x2 : Int32) (x3 : Int32) (x4 : Int32) (s : Sg) : Option (Int32 × Sg) :=
  f_ck (zl_B s) <|
  if x4 = 30 then
    f_Mo_worked_b66 R14 x1 (x2 + 1) x3 (x2 + 1) 1 s
  else
    f_Mo_worked_b66 R14 x1 (x2 + 1) x3 (x2 + 1) 0 s
theorem w_Mo_worked_b46 {x1 : Int32} {x2 : Int32} {x3 : Int32} {x4 : Int32} {s : Sg} {d : Nat} {Q : Option (Option Value) → Sg → Prop} (hd : 3 ≤ d) {R14 : Int32 → Int32 → Int32 → Sg → Option (Int32 × Sg)} (hR14 : ∀ (x1 : Int32) (x2 : Int32) (x3 : Int32) (s : Sg), okx (zq_I Q) (R14 x1 x2 x3 s) → Xw d M_Mo_worked 0 0 14 [.ref 46, .int x1, .int x2, .int x3, .retAddr 0, .retAddr 0] [] s Q) (h : okx (zq_I Q) (f_Mo_worked_b46 R14 x1 x2 x3 x4 s)) : Xw d M_Mo_worked 0 0 46 [.ref 46, .int x1, .int x2, .int x3, .int x4, .retAddr 0] [] s Q := by
  unfold f_Mo_worked_b46 at h
  refine xi_iinc (v := _ + 1) (ls' := [_, _, _, _, _, _]) D_Mo_worked_46 rfl rfl rfl (by decide) ?_
  refine xi_aload_n D_Mo_worked_49 rfl ?_
  obtain ⟨g24, h⟩ := okx_ck h
  refine xi_getR D_Mo_worked_50 F_Mo_69 (zl_fo (g24).1 rfl) ⟨rfl, by decide⟩ (zl_gr (g24).2 rfl rfl) ?_
  refine xi_iload_n D_Mo_worked_53 rfl ?_
  refine xi_iload D_Mo_worked_54 rfl ?_
  refine xi_bipush (v := 30) D_Mo_worked_56 rfl ?_
  refine xi_icmp_ne D_Mo_worked_58 (fun c25 => ?_) (fun c25 => ?_)
  · have h := okx_F c25 h
    refine xj_iconst (v := 0) D_Mo_worked_65 rfl ?_
    exact xk_wk (w_Mo_worked_b66 (by omega) hR14 h) ⟨Or.inl rfl, Or.inl rfl, Or.inl rfl, Or.inl rfl, Or.inr rfl, Or.inl rfl, trivial⟩
  · have h := okx_T c25 h
    refine xj_iconst (v := 1) D_Mo_worked_61 rfl ?_
    refine xi_goto D_Mo_worked_62 ?_
    exact xk_wk (w_Mo_worked_b66 (by omega) hR14 h) ⟨Or.inl rfl, Or.inl rfl, Or.inl rfl, Or.inl rfl, Or.inr rfl, Or.inl rfl, trivial⟩
noncomputable def f_Mo_worked_b89 (R14 : Int32 → Int32 → Int32 → Sg → Option (Int32 × Sg)) (x1 : Int32) (x2 : Int32) (x3 : Int32) (x4 : Int32) (s : Sg) : Option (Int32 × Sg) :=
  f_ck (zl_B s) <|
  f_bd (f_Mo_sums x2 s) fun r32 s33 =>
  f_ck (zl_B s33) <|
  f_ck (vp_in x2 7) <|
  let s36 : Sg := uI s33 63 (Int32.toNatClampNeg x2) x4
  f_Mo_worked_b329 R14 x1 x2 x3 s36
theorem w_Mo_worked_b89 {x1 : Int32} {x2 : Int32} {x3 : Int32} {x4 : Int32} {s : Sg} {d : Nat} {Q : Option (Option Value) → Sg → Prop} (hd : 3 ≤ d) {R14 : Int32 → Int32 → Int32 → Sg → Option (Int32 × Sg)} (hR14 : ∀ (x1 : Int32) (x2 : Int32) (x3 : Int32) (s : Sg), okx (zq_I Q) (R14 x1 x2 x3 s) → Xw d M_Mo_worked 0 0 14 [.ref 46, .int x1, .int x2, .int x3, .retAddr 0, .retAddr 0] [] s Q) (h : okx (zq_I Q) (f_Mo_worked_b89 R14 x1 x2 x3 x4 s)) : Xw d M_Mo_worked 0 0 89 [.ref 46, .int x1, .int x2, .int x3, .int x4, .retAddr 0] [] s Q := by
  unfold f_Mo_worked_b89 at h
  refine xi_aload_n D_Mo_worked_89 rfl ?_
  refine xi_iload_n D_Mo_worked_90 rfl ?_
  obtain ⟨g31, h⟩ := okx_ck h
  refine xj_V1 D_Mo_worked_91 L_Mo_225 C_Mo_sums Z_Mo_sums (zl_fo (g31).1 rfl) (Nat.le_of_ble_eq_true rfl) (Nat.le_of_eq (Nat.sub_add_cancel (by omega))) (w_Mo_sums (by omega) (okx_mono (okx_bd h) ?_))
  intro r32 s33 h
  show Xw _ _ _ _ 94 _ [] _ _
  refine xi_aload_n D_Mo_worked_94 rfl ?_
  obtain ⟨g34, h⟩ := okx_ck h
  refine xi_getR D_Mo_worked_95 F_Mo_60 (zl_fo (g34).1 rfl) ⟨rfl, by decide⟩ (zl_gr (g34).2 rfl rfl) ?_
  refine xi_iload_n D_Mo_worked_98 rfl ?_
  refine xi_iload D_Mo_worked_99 rfl ?_
  obtain ⟨g35, h⟩ := okx_ck h
  refine xj_iast D_Mo_worked_101 (zl_fx (g34).1 rfl) (zl_ib (n := 7) rfl (g35)) ?_
  refine xi_goto D_Mo_worked_102 ?_
  exact xk_wk (w_Mo_worked_b329 (by omega) hR14 h) ⟨Or.inl rfl, Or.inl rfl, Or.inl rfl, Or.inl rfl, Or.inr rfl, Or.inl rfl, trivial⟩
noncomputable def f_Mo_worked_b137 (R14 : Int32 → Int32 → Int32 → Sg → Option (Int32 × Sg)) (x1 : Int32) (x2 : Int32) (x3 : Int32) (x4 : Int32) (s : Sg) : Option (Int32 × Sg) :=
  f_ck (zl_B s) <|
  f_bd (f_Mo_sums x2 s) fun r38 s39 =>
  f_ck (zl_B s39) <|
  f_ck (vp_in x2 7) <|
  f_ck (vp_in x2 7) <|
  let s43 : Sg := uI s39 60 (Int32.toNatClampNeg x2) (mI s39 62 (Int32.toNatClampNeg x2))
  f_ck (vp_in x2 7) <|
  let s45 : Sg := uI s43 61 (Int32.toNatClampNeg x2) x4
  f_ck (vp_in x2 7) <|
  let s47 : Sg := uI s45 62 (Int32.toNatClampNeg x2) 0
  f_ck (vp_in x2 7) <|
  let s49 : Sg := uI s47 63 (Int32.toNatClampNeg x2) 20
  f_Mo_worked_b329 R14 x1 x2 x3 s49
theorem w_Mo_worked_b137 {x1 : Int32} {x2 : Int32} {x3 : Int32} {x4 : Int32} {s : Sg} {d : Nat} {Q : Option (Option Value) → Sg → Prop} (hd : 3 ≤ d) {R14 : Int32 → Int32 → Int32 → Sg → Option (Int32 × Sg)} (hR14 : ∀ (x1 : Int32) (x2 : Int32) (x3 : Int32) (s : Sg), okx (zq_I Q) (R14 x1 x2 x3 s) → Xw d M_Mo_worked 0 0 14 [.ref 46, .int x1, .int x2, .int x3, .retAddr 0, .retAddr 0] [] s Q) (h : okx (zq_I Q) (f_Mo_worked_b137 R14 x1 x2 x3 x4 s)) : Xw d M_Mo_worked 0 0 137 [.ref 46, .int x1, .int x2, .int x3, .int x4, .retAddr 0] [] s Q := by
  unfold f_Mo_worked_b137 at h
  refine xi_aload_n D_Mo_worked_137 rfl ?_
  refine xi_iload_n D_Mo_worked_138 rfl ?_
  obtain ⟨g37, h⟩ := okx_ck h
  refine xj_V1 D_Mo_worked_139 L_Mo_225 C_Mo_sums Z_Mo_sums (zl_fo (g37).1 rfl) (Nat.le_of_ble_eq_true rfl) (Nat.le_of_eq (Nat.sub_add_cancel (by omega))) (w_Mo_sums (by omega) (okx_mono (okx_bd h) ?_))
  intro r38 s39 h
  show Xw _ _ _ _ 142 _ [] _ _
  refine xi_aload_n D_Mo_worked_142 rfl ?_
  obtain ⟨g40, h⟩ := okx_ck h
  refine xi_getR D_Mo_worked_143 F_Mo_51 (zl_fo (g40).1 rfl) ⟨rfl, by decide⟩ (zl_gr (g40).2 rfl rfl) ?_
  refine xi_iload_n D_Mo_worked_146 rfl ?_
  refine xi_aload_n D_Mo_worked_147 rfl ?_
  refine xi_getR D_Mo_worked_148 F_Mo_57 (zl_fo (g40).1 rfl) ⟨rfl, by decide⟩ (zl_gr (g40).2 rfl rfl) ?_
  refine xi_iload_n D_Mo_worked_151 rfl ?_
  obtain ⟨g41, h⟩ := okx_ck h
  refine xj_iald D_Mo_worked_152 (zl_fx (g40).1 rfl) (zl_ib (n := 7) rfl (g41)) ?_
  obtain ⟨g42, h⟩ := okx_ck h
  refine xj_iast D_Mo_worked_153 (zl_fx (g40).1 rfl) (zl_ib (n := 7) rfl (g42)) ?_
  refine xi_aload_n D_Mo_worked_154 rfl ?_
  refine xi_getR D_Mo_worked_155 F_Mo_54 (zl_fo (g40).1 rfl) ⟨rfl, by decide⟩ (zl_gr (g40).2 rfl rfl) ?_
  refine xi_iload_n D_Mo_worked_158 rfl ?_
  refine xi_iload D_Mo_worked_159 rfl ?_
  obtain ⟨g44, h⟩ := okx_ck h
  refine xj_iast D_Mo_worked_161 (zl_fx (g40).1 rfl) (zl_ib (n := 7) rfl (g44)) ?_
  refine xi_aload_n D_Mo_worked_162 rfl ?_
  refine xi_getR D_Mo_worked_163 F_Mo_57 (zl_fo (g40).1 rfl) ⟨rfl, by decide⟩ (zl_gr (g40).2 rfl rfl) ?_
  refine xi_iload_n D_Mo_worked_166 rfl ?_
  refine xj_iconst (v := 0) D_Mo_worked_167 rfl ?_
  obtain ⟨g46, h⟩ := okx_ck h
  refine xj_iast D_Mo_worked_168 (zl_fx (g40).1 rfl) (zl_ib (n := 7) rfl (g46)) ?_
  refine xi_aload_n D_Mo_worked_169 rfl ?_
  refine xi_getR D_Mo_worked_170 F_Mo_60 (zl_fo (g40).1 rfl) ⟨rfl, by decide⟩ (zl_gr (g40).2 rfl rfl) ?_
  refine xi_iload_n D_Mo_worked_173 rfl ?_
  refine xi_bipush (v := 20) D_Mo_worked_174 rfl ?_
  obtain ⟨g48, h⟩ := okx_ck h
  refine xj_iast D_Mo_worked_176 (zl_fx (g40).1 rfl) (zl_ib (n := 7) rfl (g48)) ?_
  refine xi_goto D_Mo_worked_177 ?_
  exact xk_wk (w_Mo_worked_b329 (by omega) hR14 h) ⟨Or.inl rfl, Or.inl rfl, Or.inl rfl, Or.inl rfl, Or.inr rfl, Or.inl rfl, trivial⟩
noncomputable def f_Mo_worked_b194 (R14 : Int32 → Int32 → Int32 → Sg → Option (Int32 × Sg)) (x1 : Int32) (x2 : Int32) (x3 : Int32) (x4 : Int32) (s : Sg) : Option (Int32 × Sg) :=
  f_ck (zl_B s) <|
  f_bd (f_Mo_tests x2 s) fun r51 s52 =>
  f_ck (zl_B s52) <|
  f_ck (vp_in x2 7) <|
  let s55 : Sg := uI s52 59 (Int32.toNatClampNeg x2) x4
  f_Mo_worked_b329 R14 x1 x2 x3 s55
theorem w_Mo_worked_b194 {x1 : Int32} {x2 : Int32} {x3 : Int32} {x4 : Int32} {s : Sg} {d : Nat} {Q : Option (Option Value) → Sg → Prop} (hd : 3 ≤ d) {R14 : Int32 → Int32 → Int32 → Sg → Option (Int32 × Sg)} (hR14 : ∀ (x1 : Int32) (x2 : Int32) (x3 : Int32) (s : Sg), okx (zq_I Q) (R14 x1 x2 x3 s) → Xw d M_Mo_worked 0 0 14 [.ref 46, .int x1, .int x2, .int x3, .retAddr 0, .retAddr 0] [] s Q) (h : okx (zq_I Q) (f_Mo_worked_b194 R14 x1 x2 x3 x4 s)) : Xw d M_Mo_worked 0 0 194 [.ref 46, .int x1, .int x2, .int x3, .int x4, .retAddr 0] [] s Q := by
  unfold f_Mo_worked_b194 at h
  refine xi_aload_n D_Mo_worked_194 rfl ?_
  refine xi_iload_n D_Mo_worked_195 rfl ?_
  obtain ⟨g50, h⟩ := okx_ck h
  refine xj_V1 D_Mo_worked_196 L_Mo_231 C_Mo_tests Z_Mo_tests (zl_fo (g50).1 rfl) (Nat.le_of_ble_eq_true rfl) (Nat.le_of_eq (Nat.sub_add_cancel (by omega))) (w_Mo_tests (by omega) (okx_mono (okx_bd h) ?_))
  intro r51 s52 h
  show Xw _ _ _ _ 199 _ [] _ _
  refine xi_aload_n D_Mo_worked_199 rfl ?_
  obtain ⟨g53, h⟩ := okx_ck h
  refine xi_getR D_Mo_worked_200 F_Mo_48 (zl_fo (g53).1 rfl) ⟨rfl, by decide⟩ (zl_gr (g53).2 rfl rfl) ?_
  refine xi_iload_n D_Mo_worked_203 rfl ?_
  refine xi_iload D_Mo_worked_204 rfl ?_
  obtain ⟨g54, h⟩ := okx_ck h
  refine xj_iast D_Mo_worked_206 (zl_fx (g53).1 rfl) (zl_ib (n := 7) rfl (g54)) ?_
  refine xi_goto D_Mo_worked_207 ?_
  exact xk_wk (w_Mo_worked_b329 (by omega) hR14 h) ⟨Or.inl rfl, Or.inl rfl, Or.inl rfl, Or.inl rfl, Or.inr rfl, Or.inl rfl, trivial⟩
noncomputable def f_Mo_worked_b292 (R14 : Int32 → Int32 → Int32 → Sg → Option (Int32 × Sg)) (R268 : Int32 → Int32 → Int32 → Int32 → Sg → Option (Int32 × Sg)) (x1 : Int32) (x2 : Int32) (x3 : Int32) (y0 : Int32) (s : Sg) : Option (Int32 × Sg) :=
  R268 x1 (x2 + (-1)) x3 y0 s
theorem w_Mo_worked_b292 {x1 : Int32} {x2 : Int32} {x3 : Int32} {y0 : Int32} {s : Sg} {d : Nat} {Q : Option (Option Value) → Sg → Prop} (hd : 3 ≤ d) {R14 : Int32 → Int32 → Int32 → Sg → Option (Int32 × Sg)} {R268 : Int32 → Int32 → Int32 → Int32 → Sg → Option (Int32 × Sg)} (hR14 : ∀ (x1 : Int32) (x2 : Int32) (x3 : Int32) (s : Sg), okx (zq_I Q) (R14 x1 x2 x3 s) → Xw d M_Mo_worked 0 0 14 [.ref 46, .int x1, .int x2, .int x3, .retAddr 0, .retAddr 0] [] s Q) (hR268 : ∀ (x1 : Int32) (x2 : Int32) (x3 : Int32) (x5 : Int32) (s : Sg), okx (zq_I Q) (R268 x1 x2 x3 x5 s) → Xw d M_Mo_worked 0 0 268 [.ref 46, .int x1, .int x2, .int x3, .retAddr 0, .int x5] [] s Q) (h : okx (zq_I Q) (f_Mo_worked_b292 R14 R268 x1 x2 x3 y0 s)) : Xw d M_Mo_worked 0 0 292 [.ref 46, .int x1, .int x2, .int x3, .retAddr 0, .retAddr 0] [.int y0] s Q := by
  unfold f_Mo_worked_b292 at h
  refine xi_istore (ls' := [_, _, _, _, _, _]) D_Mo_worked_292 rfl (by decide) ?_
  refine xi_iinc (v := _ + (-1)) (ls' := [_, _, _, _, _, _]) D_Mo_worked_294 rfl rfl rfl (by decide) ?_
  refine xi_goto D_Mo_worked_297 ?_
  exact hR268 _ _ _ _ _ h
noncomputable def f_Mo_worked_b328 (R14 : Int32 → Int32 → Int32 → Sg → Option (Int32 × Sg)) (x1 : Int32) (x2 : Int32) (x3 : Int32) (y1 : Int32) (y2 : Int32) (s : Sg) : Option (Int32 × Sg) :=
  f_ck (zl_B s) <|
  f_ck (vp_in y1 7) <|
  let s73 : Sg := uI s 64 (Int32.toNatClampNeg y1) y2
  f_Mo_worked_b329 R14 x1 x2 x3 s73
theorem w_Mo_worked_b328 {x1 : Int32} {x2 : Int32} {x3 : Int32} {y1 : Int32} {y2 : Int32} {s : Sg} {d : Nat} {Q : Option (Option Value) → Sg → Prop} (hd : 3 ≤ d) {R14 : Int32 → Int32 → Int32 → Sg → Option (Int32 × Sg)} (hR14 : ∀ (x1 : Int32) (x2 : Int32) (x3 : Int32) (s : Sg), okx (zq_I Q) (R14 x1 x2 x3 s) → Xw d M_Mo_worked 0 0 14 [.ref 46, .int x1, .int x2, .int x3, .retAddr 0, .retAddr 0] [] s Q) (h : okx (zq_I Q) (f_Mo_worked_b328 R14 x1 x2 x3 y1 y2 s)) : Xw d M_Mo_worked 0 0 328 [.ref 46, .int x1, .int x2, .int x3, .retAddr 0, .retAddr 0] [.int y2, .int y1, .ref 64] s Q := by
  unfold f_Mo_worked_b328 at h
  obtain ⟨g71, h⟩ := okx_ck h
  obtain ⟨g72, h⟩ := okx_ck h
  refine xj_iast D_Mo_worked_328 (zl_fx (g71).1 rfl) (zl_ib (n := 7) rfl (g72)) ?_
  exact w_Mo_worked_b329 (by omega) hR14 h
noncomputable def f_Mo_worked_b300 (R14 : Int32 → Int32 → Int32 → Sg → Option (Int32 × Sg)) (x1 : Int32) (x2 : Int32) (x3 : Int32) (x5 : Int32) (s : Sg) : Option (Int32 × Sg) :=
  f_ck (zl_B s) <|
  f_ck (vp_in x2 7) <|
  if (mI s 65 (Int32.toNatClampNeg x2)) = 0 then
    f_Mo_worked_b328 R14 x1 x2 x3 x2 x5 s
  else
    f_ck (vp_in x2 7) <|
    f_Mo_worked_b328 R14 x1 x2 x3 x2 ((mI s 64 (Int32.toNatClampNeg x2)) * x5) s
theorem w_Mo_worked_b300 {x1 : Int32} {x2 : Int32} {x3 : Int32} {x5 : Int32} {s : Sg} {d : Nat} {Q : Option (Option Value) → Sg → Prop} (hd : 3 ≤ d) {R14 : Int32 → Int32 → Int32 → Sg → Option (Int32 × Sg)} (hR14 : ∀ (x1 : Int32) (x2 : Int32) (x3 : Int32) (s : Sg), okx (zq_I Q) (R14 x1 x2 x3 s) → Xw d M_Mo_worked 0 0 14 [.ref 46, .int x1, .int x2, .int x3, .retAddr 0, .retAddr 0] [] s Q) (h : okx (zq_I Q) (f_Mo_worked_b300 R14 x1 x2 x3 x5 s)) : Xw d M_Mo_worked 0 0 300 [.ref 46, .int x1, .int x2, .int x3, .retAddr 0, .int x5] [] s Q := by
  unfold f_Mo_worked_b300 at h
  refine xi_aload_n D_Mo_worked_300 rfl ?_
  obtain ⟨g67, h⟩ := okx_ck h
  refine xi_getR D_Mo_worked_301 F_Mo_63 (zl_fo (g67).1 rfl) ⟨rfl, by decide⟩ (zl_gr (g67).2 rfl rfl) ?_
  refine xi_iload_n D_Mo_worked_304 rfl ?_
  refine xi_aload_n D_Mo_worked_305 rfl ?_
  refine xi_getR D_Mo_worked_306 F_Mo_66 (zl_fo (g67).1 rfl) ⟨rfl, by decide⟩ (zl_gr (g67).2 rfl rfl) ?_
  refine xi_iload_n D_Mo_worked_309 rfl ?_
  obtain ⟨g68, h⟩ := okx_ck h
  refine xj_iald D_Mo_worked_310 (zl_fx (g67).1 rfl) (zl_ib (n := 7) rfl (g68)) ?_
  refine xi_if_ne D_Mo_worked_311 (fun c69 => ?_) (fun c69 => ?_)
  · have h := okx_F c69 h
    refine xi_aload_n D_Mo_worked_319 rfl ?_
    refine xi_getR D_Mo_worked_320 F_Mo_63 (zl_fo (g67).1 rfl) ⟨rfl, by decide⟩ (zl_gr (g67).2 rfl rfl) ?_
    refine xi_iload_n D_Mo_worked_323 rfl ?_
    obtain ⟨g70, h⟩ := okx_ck h
    refine xj_iald D_Mo_worked_324 (zl_fx (g67).1 rfl) (zl_ib (n := 7) rfl (g70)) ?_
    refine xi_iload D_Mo_worked_325 rfl ?_
    refine xi_imul D_Mo_worked_327 ?_
    exact xk_wk (w_Mo_worked_b328 (by omega) hR14 h) ⟨Or.inl rfl, Or.inl rfl, Or.inl rfl, Or.inl rfl, Or.inl rfl, Or.inr rfl, trivial⟩
  · have h := okx_T c69 h
    refine xi_iload D_Mo_worked_314 rfl ?_
    refine xi_goto D_Mo_worked_316 ?_
    exact xk_wk (w_Mo_worked_b328 (by omega) hR14 h) ⟨Or.inl rfl, Or.inl rfl, Or.inl rfl, Or.inl rfl, Or.inl rfl, Or.inr rfl, trivial⟩
noncomputable def f_Mo_worked_b268 (R14 : Int32 → Int32 → Int32 → Sg → Option (Int32 × Sg)) (R268 : Int32 → Int32 → Int32 → Int32 → Sg → Option (Int32 × Sg)) (x1 : Int32) (x2 : Int32) (x3 : Int32) (x5 : Int32) (s : Sg) : Option (Int32 × Sg) :=
  if x2 ≤ 0 then
    f_Mo_worked_b300 R14 x1 x2 x3 x5 s
  else
    f_ck (zl_B s) <|
    f_ck (vp_in x2 7) <|
    if (mI s 66 (Int32.toNatClampNeg x2)) = 1 then
      if x5 = 0 then
        f_Mo_worked_b292 R14 R268 x1 x2 x3 1 s
      else
        f_Mo_worked_b292 R14 R268 x1 x2 x3 0 s
    else
      f_Mo_worked_b300 R14 x1 x2 x3 x5 s
theorem w_Mo_worked_b268 {x1 : Int32} {x2 : Int32} {x3 : Int32} {x5 : Int32} {s : Sg} {d : Nat} {Q : Option (Option Value) → Sg → Prop} (hd : 3 ≤ d) {R14 : Int32 → Int32 → Int32 → Sg → Option (Int32 × Sg)} {R268 : Int32 → Int32 → Int32 → Int32 → Sg → Option (Int32 × Sg)} (hR14 : ∀ (x1 : Int32) (x2 : Int32) (x3 : Int32) (s : Sg), okx (zq_I Q) (R14 x1 x2 x3 s) → Xw d M_Mo_worked 0 0 14 [.ref 46, .int x1, .int x2, .int x3, .retAddr 0, .retAddr 0] [] s Q) (hR268 : ∀ (x1 : Int32) (x2 : Int32) (x3 : Int32) (x5 : Int32) (s : Sg), okx (zq_I Q) (R268 x1 x2 x3 x5 s) → Xw d M_Mo_worked 0 0 268 [.ref 46, .int x1, .int x2, .int x3, .retAddr 0, .int x5] [] s Q) (h : okx (zq_I Q) (f_Mo_worked_b268 R14 R268 x1 x2 x3 x5 s)) : Xw d M_Mo_worked 0 0 268 [.ref 46, .int x1, .int x2, .int x3, .retAddr 0, .int x5] [] s Q := by
  unfold f_Mo_worked_b268 at h
  refine xi_iload_n D_Mo_worked_268 rfl ?_
  refine xi_if_le D_Mo_worked_269 (fun c62 => ?_) (fun c62 => ?_)
  · have h := okx_T c62 h
    exact w_Mo_worked_b300 (by omega) hR14 h
  · have h := okx_F c62 h
    refine xi_aload_n D_Mo_worked_272 rfl ?_
    obtain ⟨g63, h⟩ := okx_ck h
    refine xi_getR D_Mo_worked_273 F_Mo_69 (zl_fo (g63).1 rfl) ⟨rfl, by decide⟩ (zl_gr (g63).2 rfl rfl) ?_
    refine xi_iload_n D_Mo_worked_276 rfl ?_
    obtain ⟨g64, h⟩ := okx_ck h
    refine xj_iald D_Mo_worked_277 (zl_fx (g63).1 rfl) (zl_ib (n := 7) rfl (g64)) ?_
    refine xj_iconst (v := 1) D_Mo_worked_278 rfl ?_
    refine xi_icmp_ne D_Mo_worked_279 (fun c65 => ?_) (fun c65 => ?_)
    · have h := okx_F c65 h
      exact w_Mo_worked_b300 (by omega) hR14 h
    · have h := okx_T c65 h
      refine xi_iload D_Mo_worked_282 rfl ?_
      refine xi_if_ne D_Mo_worked_284 (fun c66 => ?_) (fun c66 => ?_)
      · have h := okx_F c66 h
        refine xj_iconst (v := 0) D_Mo_worked_291 rfl ?_
        exact xk_wk (w_Mo_worked_b292 (by omega) hR14 hR268 h) ⟨Or.inl rfl, Or.inl rfl, Or.inl rfl, Or.inl rfl, Or.inl rfl, Or.inr rfl, trivial⟩
      · have h := okx_T c66 h
        refine xj_iconst (v := 1) D_Mo_worked_287 rfl ?_
        refine xi_goto D_Mo_worked_288 ?_
        exact xk_wk (w_Mo_worked_b292 (by omega) hR14 hR268 h) ⟨Or.inl rfl, Or.inl rfl, Or.inl rfl, Or.inl rfl, Or.inl rfl, Or.inr rfl, trivial⟩
noncomputable def f_Mo_worked_h268 (R14 : Int32 → Int32 → Int32 → Sg → Option (Int32 × Sg)) : Nat → Int32 → Int32 → Int32 → Int32 → Sg → Option (Int32 × Sg)
  | 0, _, _, _, _, _ => none
  | n + 1, x1, x2, x3, x5, s => f_Mo_worked_b268 R14 (f_Mo_worked_h268 R14 n) x1 x2 x3 x5 s
theorem w_Mo_worked_h268 {d : Nat} {Q : Option (Option Value) → Sg → Prop} (hd : 3 ≤ d) {R14 : Int32 → Int32 → Int32 → Sg → Option (Int32 × Sg)} (hR14 : ∀ (x1 : Int32) (x2 : Int32) (x3 : Int32) (s : Sg), okx (zq_I Q) (R14 x1 x2 x3 s) → Xw d M_Mo_worked 0 0 14 [.ref 46, .int x1, .int x2, .int x3, .retAddr 0, .retAddr 0] [] s Q) : ∀ (n : Nat) (x1 : Int32) (x2 : Int32) (x3 : Int32) (x5 : Int32) (s : Sg), okx (zq_I Q) (f_Mo_worked_h268 R14 n x1 x2 x3 x5 s) → Xw d M_Mo_worked 0 0 268 [.ref 46, .int x1, .int x2, .int x3, .retAddr 0, .int x5] [] s Q := by
  intro n
  induction n with
  | zero => intro x1 x2 x3 x5 s h; exact okx_no h
  | succ n ih => intro x1 x2 x3 x5 s h; exact w_Mo_worked_b268 hd hR14 ih  h
noncomputable def f_Mo_worked_b243 (R14 : Int32 → Int32 → Int32 → Sg → Option (Int32 × Sg)) (x1 : Int32) (x2 : Int32) (x3 : Int32) (x4 : Int32) (y0 : Int32) (s : Sg) : Option (Int32 × Sg) :=
  if x4 = 29 then
    f_ck (zl_B s) <|
    f_bd (f_Mo_tests x2 s) fun r58 s59 =>
    f_ck (zl_B s59) <|
    f_ck (vp_in x2 7) <|
    f_Mo_worked_h268 R14 zl_fl x1 (x2 + (-1)) x3 (mI s59 58 (Int32.toNatClampNeg x2)) s59
  else
    f_Mo_worked_h268 R14 zl_fl x1 x2 x3 y0 s
theorem w_Mo_worked_b243 {x1 : Int32} {x2 : Int32} {x3 : Int32} {x4 : Int32} {y0 : Int32} {s : Sg} {d : Nat} {Q : Option (Option Value) → Sg → Prop} (hd : 3 ≤ d) {R14 : Int32 → Int32 → Int32 → Sg → Option (Int32 × Sg)} (hR14 : ∀ (x1 : Int32) (x2 : Int32) (x3 : Int32) (s : Sg), okx (zq_I Q) (R14 x1 x2 x3 s) → Xw d M_Mo_worked 0 0 14 [.ref 46, .int x1, .int x2, .int x3, .retAddr 0, .retAddr 0] [] s Q) (h : okx (zq_I Q) (f_Mo_worked_b243 R14 x1 x2 x3 x4 y0 s)) : Xw d M_Mo_worked 0 0 243 [.ref 46, .int x1, .int x2, .int x3, .int x4, .retAddr 0] [.int y0] s Q := by
  unfold f_Mo_worked_b243 at h
  refine xi_istore (ls' := [_, _, _, _, _, _]) D_Mo_worked_243 rfl (by decide) ?_
  refine xi_iload D_Mo_worked_245 rfl ?_
  refine xi_bipush (v := 29) D_Mo_worked_247 rfl ?_
  refine xi_icmp_ne D_Mo_worked_249 (fun c56 => ?_) (fun c56 => ?_)
  · have h := okx_F c56 h
    exact xk_wk (w_Mo_worked_h268 (by omega) hR14 _ _ _ _ _ _ h) ⟨Or.inl rfl, Or.inl rfl, Or.inl rfl, Or.inl rfl, Or.inr rfl, Or.inl rfl, trivial⟩
  · have h := okx_T c56 h
    refine xi_aload_n D_Mo_worked_252 rfl ?_
    refine xi_iload_n D_Mo_worked_253 rfl ?_
    obtain ⟨g57, h⟩ := okx_ck h
    refine xj_V1 D_Mo_worked_254 L_Mo_231 C_Mo_tests Z_Mo_tests (zl_fo (g57).1 rfl) (Nat.le_of_ble_eq_true rfl) (Nat.le_of_eq (Nat.sub_add_cancel (by omega))) (w_Mo_tests (by omega) (okx_mono (okx_bd h) ?_))
    intro r58 s59 h
    show Xw _ _ _ _ 257 _ [] _ _
    refine xi_aload_n D_Mo_worked_257 rfl ?_
    obtain ⟨g60, h⟩ := okx_ck h
    refine xi_getR D_Mo_worked_258 F_Mo_45 (zl_fo (g60).1 rfl) ⟨rfl, by decide⟩ (zl_gr (g60).2 rfl rfl) ?_
    refine xi_iload_n D_Mo_worked_261 rfl ?_
    obtain ⟨g61, h⟩ := okx_ck h
    refine xj_iald D_Mo_worked_262 (zl_fx (g60).1 rfl) (zl_ib (n := 7) rfl (g61)) ?_
    refine xi_istore (ls' := [_, _, _, _, _, _]) D_Mo_worked_263 rfl (by decide) ?_
    refine xi_iinc (v := _ + (-1)) (ls' := [_, _, _, _, _, _]) D_Mo_worked_265 rfl rfl rfl (by decide) ?_
    exact xk_wk (w_Mo_worked_h268 (by omega) hR14 _ _ _ _ _ _ h) ⟨Or.inl rfl, Or.inl rfl, Or.inl rfl, Or.inl rfl, Or.inr rfl, Or.inl rfl, trivial⟩
noncomputable def f_Mo_worked_b335  (s : Sg) : Option (Int32 × Sg) :=
  f_ck (zl_B s) <|
  f_bd (f_Mo_tests 0 s) fun r75 s76 =>
  f_ck (zl_B s76) <|
  some ((mI s76 58 (Int32.toNatClampNeg (0 : Int32))), s76)
theorem w_Mo_worked_b335 {s : Sg} {d : Nat} {Q : Option (Option Value) → Sg → Prop} (hd : 3 ≤ d) (h : okx (zq_I Q) (f_Mo_worked_b335  s)) : Xw d M_Mo_worked 0 0 335 [.ref 46, .retAddr 0, .retAddr 0, .retAddr 0, .retAddr 0, .retAddr 0] [] s Q := by
  unfold f_Mo_worked_b335 at h
  refine xi_aload_n D_Mo_worked_335 rfl ?_
  refine xj_iconst (v := 0) D_Mo_worked_336 rfl ?_
  obtain ⟨g74, h⟩ := okx_ck h
  refine xj_V1 D_Mo_worked_337 L_Mo_231 C_Mo_tests Z_Mo_tests (zl_fo (g74).1 rfl) (Nat.le_of_ble_eq_true rfl) (Nat.le_of_eq (Nat.sub_add_cancel (by omega))) (w_Mo_tests (by omega) (okx_mono (okx_bd h) ?_))
  intro r75 s76 h
  show Xw _ _ _ _ 340 _ [] _ _
  refine xi_aload_n D_Mo_worked_340 rfl ?_
  obtain ⟨g77, h⟩ := okx_ck h
  refine xi_getR D_Mo_worked_341 F_Mo_45 (zl_fo (g77).1 rfl) ⟨rfl, by decide⟩ (zl_gr (g77).2 rfl rfl) ?_
  refine xj_iconst (v := 0) D_Mo_worked_344 rfl ?_
  refine xj_iald D_Mo_worked_345 (zl_fx (g77).1 rfl) (zl_ib (n := 7) rfl (zl_vin rfl)) ?_
  exact xi_ireturn D_Mo_worked_346 rfl (rfl) (okx_I h)
noncomputable def f_Mo_worked_b14 (R14 : Int32 → Int32 → Int32 → Sg → Option (Int32 × Sg)) (x1 : Int32) (x2 : Int32) (x3 : Int32) (s : Sg) : Option (Int32 × Sg) :=
  f_ck (zl_B s) <|
  f_ck (vp_in x1 16) <|
  if (mI s 54 (Int32.toNatClampNeg x1)) ≤ x3 then
    f_Mo_worked_b335   s
  else
    f_ck (vp_in x3 2000) <|
    if (mI s 55 (Int32.toNatClampNeg x3)) = 28 then
      f_Mo_worked_b46 R14 x1 x2 x3 (mI s 55 (Int32.toNatClampNeg x3)) s
    else
      if (mI s 55 (Int32.toNatClampNeg x3)) = 30 then
        f_Mo_worked_b46 R14 x1 x2 x3 (mI s 55 (Int32.toNatClampNeg x3)) s
      else
        if (mI s 55 (Int32.toNatClampNeg x3)) = 20 then
          f_Mo_worked_b89 R14 x1 x2 x3 (mI s 55 (Int32.toNatClampNeg x3)) s
        else
          if (mI s 55 (Int32.toNatClampNeg x3)) = 21 then
            f_Mo_worked_b89 R14 x1 x2 x3 (mI s 55 (Int32.toNatClampNeg x3)) s
          else
            if (mI s 55 (Int32.toNatClampNeg x3)) = 22 then
              f_ck (vp_in x2 7) <|
              let s16 : Sg := uI s 65 (Int32.toNatClampNeg x2) (mI s 55 (Int32.toNatClampNeg x3))
              f_Mo_worked_b329 R14 x1 x2 x3 s16
            else
              if (mI s 55 (Int32.toNatClampNeg x3)) = 24 then
                f_Mo_worked_b137 R14 x1 x2 x3 (mI s 55 (Int32.toNatClampNeg x3)) s
              else
                if (mI s 55 (Int32.toNatClampNeg x3)) = 25 then
                  f_Mo_worked_b137 R14 x1 x2 x3 (mI s 55 (Int32.toNatClampNeg x3)) s
                else
                  if (mI s 55 (Int32.toNatClampNeg x3)) = 26 then
                    f_Mo_worked_b194 R14 x1 x2 x3 (mI s 55 (Int32.toNatClampNeg x3)) s
                  else
                    if (mI s 55 (Int32.toNatClampNeg x3)) = 27 then
                      f_Mo_worked_b194 R14 x1 x2 x3 (mI s 55 (Int32.toNatClampNeg x3)) s
                    else
                      if (mI s 55 (Int32.toNatClampNeg x3)) < 100 then
                        if 20 ≤ (mI s 55 (Int32.toNatClampNeg x3)) then
                          f_Mo_worked_b243 R14 x1 x2 x3 (mI s 55 (Int32.toNatClampNeg x3)) 0 s
                        else
                          f_ck (vp_in (mI s 55 (Int32.toNatClampNeg x3)) 20) <|
                          f_Mo_worked_b243 R14 x1 x2 x3 (mI s 55 (Int32.toNatClampNeg x3)) (mI s 67 (Int32.toNatClampNeg (mI s 55 (Int32.toNatClampNeg x3)))) s
                      else
                        f_Mo_worked_b243 R14 x1 x2 x3 (mI s 55 (Int32.toNatClampNeg x3)) ((mI s 55 (Int32.toNatClampNeg x3)) - 100) s
theorem w_Mo_worked_b14 {x1 : Int32} {x2 : Int32} {x3 : Int32} {s : Sg} {d : Nat} {Q : Option (Option Value) → Sg → Prop} (hd : 3 ≤ d) {R14 : Int32 → Int32 → Int32 → Sg → Option (Int32 × Sg)} (hR14 : ∀ (x1 : Int32) (x2 : Int32) (x3 : Int32) (s : Sg), okx (zq_I Q) (R14 x1 x2 x3 s) → Xw d M_Mo_worked 0 0 14 [.ref 46, .int x1, .int x2, .int x3, .retAddr 0, .retAddr 0] [] s Q) (h : okx (zq_I Q) (f_Mo_worked_b14 R14 x1 x2 x3 s)) : Xw d M_Mo_worked 0 0 14 [.ref 46, .int x1, .int x2, .int x3, .retAddr 0, .retAddr 0] [] s Q := by
  unfold f_Mo_worked_b14 at h
  refine xi_iload_n D_Mo_worked_14 rfl ?_
  refine xi_aload_n D_Mo_worked_15 rfl ?_
  obtain ⟨g6, h⟩ := okx_ck h
  refine xi_getR D_Mo_worked_16 F_Mo_32 (zl_fo (g6).1 rfl) ⟨rfl, by decide⟩ (zl_gr (g6).2 rfl rfl) ?_
  refine xi_iload_n D_Mo_worked_19 rfl ?_
  obtain ⟨g7, h⟩ := okx_ck h
  refine xj_iald D_Mo_worked_20 (zl_fx (g6).1 rfl) (zl_ib (n := 16) rfl (g7)) ?_
  refine xi_icmp_ge D_Mo_worked_21 (fun c8 => ?_) (fun c8 => ?_)
  · have h := okx_T c8 h
    exact xk_wk (w_Mo_worked_b335 (by omega)  h) ⟨Or.inl rfl, Or.inr rfl, Or.inr rfl, Or.inr rfl, Or.inl rfl, Or.inl rfl, trivial⟩
  · have h := okx_F c8 h
    refine xi_aload_n D_Mo_worked_24 rfl ?_
    refine xi_getR D_Mo_worked_25 F_Mo_35 (zl_fo (g6).1 rfl) ⟨rfl, by decide⟩ (zl_gr (g6).2 rfl rfl) ?_
    refine xi_iload_n D_Mo_worked_28 rfl ?_
    obtain ⟨g9, h⟩ := okx_ck h
    refine xj_iald D_Mo_worked_29 (zl_fx (g6).1 rfl) (zl_ib (n := 2000) rfl (g9)) ?_
    refine xi_istore (ls' := [_, _, _, _, _, _]) D_Mo_worked_30 rfl (by decide) ?_
    refine xi_iload D_Mo_worked_32 rfl ?_
    refine xi_bipush (v := 28) D_Mo_worked_34 rfl ?_
    refine xi_icmp_eq D_Mo_worked_36 (fun c10 => ?_) (fun c10 => ?_)
    · have h := okx_T c10 h
      exact w_Mo_worked_b46 (by omega) hR14 h
    · have h := okx_F c10 h
      refine xi_iload D_Mo_worked_39 rfl ?_
      refine xi_bipush (v := 30) D_Mo_worked_41 rfl ?_
      refine xi_icmp_ne D_Mo_worked_43 (fun c11 => ?_) (fun c11 => ?_)
      · have h := okx_F c11 h
        refine xi_iload D_Mo_worked_75 rfl ?_
        refine xi_bipush (v := 20) D_Mo_worked_77 rfl ?_
        refine xi_icmp_eq D_Mo_worked_79 (fun c12 => ?_) (fun c12 => ?_)
        · have h := okx_T c12 h
          exact w_Mo_worked_b89 (by omega) hR14 h
        · have h := okx_F c12 h
          refine xi_iload D_Mo_worked_82 rfl ?_
          refine xi_bipush (v := 21) D_Mo_worked_84 rfl ?_
          refine xi_icmp_ne D_Mo_worked_86 (fun c13 => ?_) (fun c13 => ?_)
          · have h := okx_F c13 h
            refine xi_iload D_Mo_worked_105 rfl ?_
            refine xi_bipush (v := 22) D_Mo_worked_107 rfl ?_
            refine xi_icmp_ne D_Mo_worked_109 (fun c14 => ?_) (fun c14 => ?_)
            · have h := okx_F c14 h
              refine xi_iload D_Mo_worked_123 rfl ?_
              refine xi_bipush (v := 24) D_Mo_worked_125 rfl ?_
              refine xi_icmp_eq D_Mo_worked_127 (fun c17 => ?_) (fun c17 => ?_)
              · have h := okx_T c17 h
                exact w_Mo_worked_b137 (by omega) hR14 h
              · have h := okx_F c17 h
                refine xi_iload D_Mo_worked_130 rfl ?_
                refine xi_bipush (v := 25) D_Mo_worked_132 rfl ?_
                refine xi_icmp_ne D_Mo_worked_134 (fun c18 => ?_) (fun c18 => ?_)
                · have h := okx_F c18 h
                  refine xi_iload D_Mo_worked_180 rfl ?_
                  refine xi_bipush (v := 26) D_Mo_worked_182 rfl ?_
                  refine xi_icmp_eq D_Mo_worked_184 (fun c19 => ?_) (fun c19 => ?_)
                  · have h := okx_T c19 h
                    exact w_Mo_worked_b194 (by omega) hR14 h
                  · have h := okx_F c19 h
                    refine xi_iload D_Mo_worked_187 rfl ?_
                    refine xi_bipush (v := 27) D_Mo_worked_189 rfl ?_
                    refine xi_icmp_ne D_Mo_worked_191 (fun c20 => ?_) (fun c20 => ?_)
                    · have h := okx_F c20 h
                      refine xi_iload D_Mo_worked_210 rfl ?_
                      refine xi_bipush (v := 100) D_Mo_worked_212 rfl ?_
                      refine xi_icmp_lt D_Mo_worked_214 (fun c21 => ?_) (fun c21 => ?_)
                      · have h := okx_T c21 h
                        refine xi_iload D_Mo_worked_225 rfl ?_
                        refine xi_bipush (v := 20) D_Mo_worked_227 rfl ?_
                        refine xi_icmp_ge D_Mo_worked_229 (fun c22 => ?_) (fun c22 => ?_)
                        · have h := okx_T c22 h
                          refine xj_iconst (v := 0) D_Mo_worked_242 rfl ?_
                          exact w_Mo_worked_b243 (by omega) hR14 h
                        · have h := okx_F c22 h
                          refine xi_aload_n D_Mo_worked_232 rfl ?_
                          refine xi_getR D_Mo_worked_233 F_Mo_72 (zl_fo (g6).1 rfl) ⟨rfl, by decide⟩ (zl_gr (g6).2 rfl rfl) ?_
                          refine xi_iload D_Mo_worked_236 rfl ?_
                          obtain ⟨g23, h⟩ := okx_ck h
                          refine xj_iald D_Mo_worked_238 (zl_fx (g6).1 rfl) (zl_ib (n := 20) rfl (g23)) ?_
                          refine xi_goto D_Mo_worked_239 ?_
                          exact w_Mo_worked_b243 (by omega) hR14 h
                      · have h := okx_F c21 h
                        refine xi_iload D_Mo_worked_217 rfl ?_
                        refine xi_bipush (v := 100) D_Mo_worked_219 rfl ?_
                        refine xi_isub D_Mo_worked_221 ?_
                        refine xi_goto D_Mo_worked_222 ?_
                        exact w_Mo_worked_b243 (by omega) hR14 h
                    · have h := okx_T c20 h
                      exact w_Mo_worked_b194 (by omega) hR14 h
                · have h := okx_T c18 h
                  exact w_Mo_worked_b137 (by omega) hR14 h
            · have h := okx_T c14 h
              refine xi_aload_n D_Mo_worked_112 rfl ?_
              refine xi_getR D_Mo_worked_113 F_Mo_66 (zl_fo (g6).1 rfl) ⟨rfl, by decide⟩ (zl_gr (g6).2 rfl rfl) ?_
              refine xi_iload_n D_Mo_worked_116 rfl ?_
              refine xi_iload D_Mo_worked_117 rfl ?_
              obtain ⟨g15, h⟩ := okx_ck h
              refine xj_iast D_Mo_worked_119 (zl_fx (g6).1 rfl) (zl_ib (n := 7) rfl (g15)) ?_
              refine xi_goto D_Mo_worked_120 ?_
              exact xk_wk (w_Mo_worked_b329 (by omega) hR14 h) ⟨Or.inl rfl, Or.inl rfl, Or.inl rfl, Or.inl rfl, Or.inr rfl, Or.inl rfl, trivial⟩
          · have h := okx_T c13 h
            exact w_Mo_worked_b89 (by omega) hR14 h
      · have h := okx_T c11 h
        exact w_Mo_worked_b46 (by omega) hR14 h
noncomputable def f_Mo_worked_h14 : Nat → Int32 → Int32 → Int32 → Sg → Option (Int32 × Sg)
  | 0, _, _, _, _ => none
  | n + 1, x1, x2, x3, s => f_Mo_worked_b14 (f_Mo_worked_h14 n) x1 x2 x3 s
theorem w_Mo_worked_h14 {d : Nat} {Q : Option (Option Value) → Sg → Prop} (hd : 3 ≤ d) : ∀ (n : Nat) (x1 : Int32) (x2 : Int32) (x3 : Int32) (s : Sg), okx (zq_I Q) (f_Mo_worked_h14 n x1 x2 x3 s) → Xw d M_Mo_worked 0 0 14 [.ref 46, .int x1, .int x2, .int x3, .retAddr 0, .retAddr 0] [] s Q := by
  intro n
  induction n with
  | zero => intro x1 x2 x3 s h; exact okx_no h
  | succ n ih => intro x1 x2 x3 s h; exact w_Mo_worked_b14 hd  ih  h
noncomputable def f_Mo_worked (x1 : Int32) (s : Sg) : Option (Int32 × Sg) :=
  f_ck (zl_B s) <|
  f_bd (f_Mo_opens 0 s) fun r2 s3 =>
  f_ck (zl_B s3) <|
  f_ck (vp_in x1 16) <|
  f_Mo_worked_h14  zl_fl x1 0 (mI s3 53 (Int32.toNatClampNeg x1)) s3
theorem w_Mo_worked {x1 : Int32} {s : Sg} {d : Nat} {Q : Option (Option Value) → Sg → Prop} (hd : 3 ≤ d) (h : okx (zq_I Q) (f_Mo_worked x1 s)) : Cw d M_Mo_worked [.ref 46, .int x1] s Q := by
  refine Cw.of (by decide +kernel) (Nat.le_of_ble_eq_true rfl) ?_
  show Xw d M_Mo_worked 0 0 0 [.ref 46, .int x1, .retAddr 0, .retAddr 0, .retAddr 0, .retAddr 0] [] s _
  unfold f_Mo_worked at h
  refine xj_iconst (v := 0) D_Mo_worked_0 rfl ?_
  refine xi_istore_n (ls' := [_, _, _, _, _, _]) D_Mo_worked_1 rfl (by decide) ?_
  refine xi_aload_n D_Mo_worked_2 rfl ?_
  refine xj_iconst (v := 0) D_Mo_worked_3 rfl ?_
  obtain ⟨g1, h⟩ := okx_ck h
  refine xj_V1 D_Mo_worked_4 L_Mo_228 C_Mo_opens Z_Mo_opens (zl_fo (g1).1 rfl) (Nat.le_of_ble_eq_true rfl) (Nat.le_of_eq (Nat.sub_add_cancel (by omega))) (w_Mo_opens (by omega) (okx_mono (okx_bd h) ?_))
  intro r2 s3 h
  show Xw _ _ _ _ 7 _ [] _ _
  refine xi_aload_n D_Mo_worked_7 rfl ?_
  obtain ⟨g4, h⟩ := okx_ck h
  refine xi_getR D_Mo_worked_8 F_Mo_29 (zl_fo (g4).1 rfl) ⟨rfl, by decide⟩ (zl_gr (g4).2 rfl rfl) ?_
  refine xi_iload_n D_Mo_worked_11 rfl ?_
  obtain ⟨g5, h⟩ := okx_ck h
  refine xj_iald D_Mo_worked_12 (zl_fx (g4).1 rfl) (zl_ib (n := 16) rfl (g5)) ?_
  refine xi_istore_n (ls' := [_, _, _, _, _, _]) D_Mo_worked_13 rfl (by decide) ?_
  exact w_Mo_worked_h14 (by omega)  _ _ _ _ _ h
noncomputable def f_Mo_worksOut_b77 (R2 : Int32 → Sg → Option (Unit × Sg)) (x1 : Int32) (s : Sg) : Option (Unit × Sg) :=
  R2 (x1 + 1) s
theorem w_Mo_worksOut_b77 {x1 : Int32} {s : Sg} {d : Nat} {Q : Option (Option Value) → Sg → Prop} (hd : 4 ≤ d) {R2 : Int32 → Sg → Option (Unit × Sg)} (hR2 : ∀ (x1 : Int32) (s : Sg), okx (zq_V Q) (R2 x1 s) → Xw d M_Mo_worksOut 0 0 2 [.ref 46, .int x1, .retAddr 0] [] s Q) (h : okx (zq_V Q) (f_Mo_worksOut_b77 R2 x1 s)) : Xw d M_Mo_worksOut 0 0 77 [.ref 46, .int x1, .retAddr 0] [] s Q := by
  unfold f_Mo_worksOut_b77 at h
  refine xi_iinc (v := _ + 1) (ls' := [_, _, _]) D_Mo_worksOut_77 rfl rfl rfl (by decide) ?_
  refine xi_goto D_Mo_worksOut_80 ?_
  exact hR2 _ _ h
noncomputable def f_Mo_worksOut_b46 (R2 : Int32 → Sg → Option (Unit × Sg)) (R46 : Int32 → Int32 → Sg → Option (Unit × Sg)) (x1 : Int32) (x2 : Int32) (s : Sg) : Option (Unit × Sg) :=
  f_ck (zl_B s) <|
  if (mI s 46 12) ≤ x2 then
    f_Mo_worksOut_b77 R2 x1 s
  else
    f_bd (f_Mo_worked x2 s) fun r12 s13 =>
    f_ck (zl_B s13) <|
    f_ck (vp_in ((256 * x2) + x1) 2048) <|
    let s16 : Sg := uI s13 68 (Int32.toNatClampNeg ((256 * x2) + x1)) r12
    R46 x1 (x2 + 1) s16
theorem w_Mo_worksOut_b46 {x1 : Int32} {x2 : Int32} {s : Sg} {d : Nat} {Q : Option (Option Value) → Sg → Prop} (hd : 4 ≤ d) {R2 : Int32 → Sg → Option (Unit × Sg)} {R46 : Int32 → Int32 → Sg → Option (Unit × Sg)} (hR2 : ∀ (x1 : Int32) (s : Sg), okx (zq_V Q) (R2 x1 s) → Xw d M_Mo_worksOut 0 0 2 [.ref 46, .int x1, .retAddr 0] [] s Q) (hR46 : ∀ (x1 : Int32) (x2 : Int32) (s : Sg), okx (zq_V Q) (R46 x1 x2 s) → Xw d M_Mo_worksOut 0 0 46 [.ref 46, .int x1, .int x2] [] s Q) (h : okx (zq_V Q) (f_Mo_worksOut_b46 R2 R46 x1 x2 s)) : Xw d M_Mo_worksOut 0 0 46 [.ref 46, .int x1, .int x2] [] s Q := by
  unfold f_Mo_worksOut_b46 at h
  refine xi_iload_n D_Mo_worksOut_46 rfl ?_
  refine xi_aload_n D_Mo_worksOut_47 rfl ?_
  obtain ⟨g10, h⟩ := okx_ck h
  refine xi_getI D_Mo_worksOut_48 F_Mo_241 (zl_fo (g10).1 rfl) ⟨rfl, by decide⟩ ?_
  refine xi_icmp_ge D_Mo_worksOut_51 (fun c11 => ?_) (fun c11 => ?_)
  · have h := okx_T c11 h
    exact xk_wk (w_Mo_worksOut_b77 (by omega) hR2 h) ⟨Or.inl rfl, Or.inl rfl, Or.inr rfl, trivial⟩
  · have h := okx_F c11 h
    refine xi_aload_n D_Mo_worksOut_54 rfl ?_
    refine xi_getR D_Mo_worksOut_55 F_Mo_75 (zl_fo (g10).1 rfl) ⟨rfl, by decide⟩ (zl_gr (g10).2 rfl rfl) ?_
    refine xi_sipush (v := 256) D_Mo_worksOut_58 rfl ?_
    refine xi_iload_n D_Mo_worksOut_61 rfl ?_
    refine xi_imul D_Mo_worksOut_62 ?_
    refine xi_iload_n D_Mo_worksOut_63 rfl ?_
    refine xi_iadd D_Mo_worksOut_64 ?_
    refine xi_aload_n D_Mo_worksOut_65 rfl ?_
    refine xi_iload_n D_Mo_worksOut_66 rfl ?_
    refine xj_V1 D_Mo_worksOut_67 L_Mo_244 C_Mo_worked Z_Mo_worked (zl_fo (g10).1 rfl) (Nat.le_of_ble_eq_true rfl) (Nat.le_of_eq (Nat.sub_add_cancel (by omega))) (w_Mo_worked (by omega) (okx_mono (okx_bd h) ?_))
    intro r12 s13 h
    show Xw _ _ _ _ 70 _ [_, _, _] _ _
    obtain ⟨g14, h⟩ := okx_ck h
    obtain ⟨g15, h⟩ := okx_ck h
    refine xj_iast D_Mo_worksOut_70 (zl_fx (g14).1 rfl) (zl_ib (n := 2048) rfl (g15)) ?_
    refine xi_iinc (v := _ + 1) (ls' := [_, _, _]) D_Mo_worksOut_71 rfl rfl rfl (by decide) ?_
    refine xi_goto D_Mo_worksOut_74 ?_
    exact hR46 _ _ _ h
noncomputable def f_Mo_worksOut_h46 (R2 : Int32 → Sg → Option (Unit × Sg)) : Nat → Int32 → Int32 → Sg → Option (Unit × Sg)
  | 0, _, _, _ => none
  | n + 1, x1, x2, s => f_Mo_worksOut_b46 R2 (f_Mo_worksOut_h46 R2 n) x1 x2 s
theorem w_Mo_worksOut_h46 {d : Nat} {Q : Option (Option Value) → Sg → Prop} (hd : 4 ≤ d) {R2 : Int32 → Sg → Option (Unit × Sg)} (hR2 : ∀ (x1 : Int32) (s : Sg), okx (zq_V Q) (R2 x1 s) → Xw d M_Mo_worksOut 0 0 2 [.ref 46, .int x1, .retAddr 0] [] s Q) : ∀ (n : Nat) (x1 : Int32) (x2 : Int32) (s : Sg), okx (zq_V Q) (f_Mo_worksOut_h46 R2 n x1 x2 s) → Xw d M_Mo_worksOut 0 0 46 [.ref 46, .int x1, .int x2] [] s Q := by
  intro n
  induction n with
  | zero => intro x1 x2 s h; exact okx_no h
  | succ n ih => intro x1 x2 s h; exact w_Mo_worksOut_b46 hd hR2 ih  h
noncomputable def f_Mo_worksOut_b44 (R2 : Int32 → Sg → Option (Unit × Sg)) (x1 : Int32) (s : Sg) : Option (Unit × Sg) :=
  f_Mo_worksOut_h46 R2 zl_fl x1 0 s
theorem w_Mo_worksOut_b44 {x1 : Int32} {s : Sg} {d : Nat} {Q : Option (Option Value) → Sg → Prop} (hd : 4 ≤ d) {R2 : Int32 → Sg → Option (Unit × Sg)} (hR2 : ∀ (x1 : Int32) (s : Sg), okx (zq_V Q) (R2 x1 s) → Xw d M_Mo_worksOut 0 0 2 [.ref 46, .int x1, .retAddr 0] [] s Q) (h : okx (zq_V Q) (f_Mo_worksOut_b44 R2 x1 s)) : Xw d M_Mo_worksOut 0 0 44 [.ref 46, .int x1, .retAddr 0] [] s Q := by
  unfold f_Mo_worksOut_b44 at h
  refine xj_iconst (v := 0) D_Mo_worksOut_44 rfl ?_
  refine xi_istore_n (ls' := [_, _, _]) D_Mo_worksOut_45 rfl (by decide) ?_
  exact w_Mo_worksOut_h46 (by omega) hR2 _ _ _ _ h
noncomputable def f_Mo_worksOut_b16 (R2 : Int32 → Sg → Option (Unit × Sg)) (R16 : Int32 → Int32 → Sg → Option (Unit × Sg)) (x1 : Int32) (x2 : Int32) (s : Sg) : Option (Unit × Sg) :=
  f_ck (zl_B s) <|
  if (mI s 46 10) ≤ x2 then
    f_Mo_worksOut_b44 R2 x1 s
  else
    f_bd (f_Mo_stepOf x1 x2 s) fun r5 s6 =>
    f_ck (zl_B s6) <|
    f_ck (vp_in (1 + x2) 20) <|
    let s9 : Sg := uI s6 67 (Int32.toNatClampNeg (1 + x2)) r5
    R16 x1 (x2 + 1) s9
theorem w_Mo_worksOut_b16 {x1 : Int32} {x2 : Int32} {s : Sg} {d : Nat} {Q : Option (Option Value) → Sg → Prop} (hd : 4 ≤ d) {R2 : Int32 → Sg → Option (Unit × Sg)} {R16 : Int32 → Int32 → Sg → Option (Unit × Sg)} (hR2 : ∀ (x1 : Int32) (s : Sg), okx (zq_V Q) (R2 x1 s) → Xw d M_Mo_worksOut 0 0 2 [.ref 46, .int x1, .retAddr 0] [] s Q) (hR16 : ∀ (x1 : Int32) (x2 : Int32) (s : Sg), okx (zq_V Q) (R16 x1 x2 s) → Xw d M_Mo_worksOut 0 0 16 [.ref 46, .int x1, .int x2] [] s Q) (h : okx (zq_V Q) (f_Mo_worksOut_b16 R2 R16 x1 x2 s)) : Xw d M_Mo_worksOut 0 0 16 [.ref 46, .int x1, .int x2] [] s Q := by
  unfold f_Mo_worksOut_b16 at h
  refine xi_iload_n D_Mo_worksOut_16 rfl ?_
  refine xi_aload_n D_Mo_worksOut_17 rfl ?_
  obtain ⟨g3, h⟩ := okx_ck h
  refine xi_getI D_Mo_worksOut_18 F_Mo_234 (zl_fo (g3).1 rfl) ⟨rfl, by decide⟩ ?_
  refine xi_icmp_ge D_Mo_worksOut_21 (fun c4 => ?_) (fun c4 => ?_)
  · have h := okx_T c4 h
    exact xk_wk (w_Mo_worksOut_b44 (by omega) hR2 h) ⟨Or.inl rfl, Or.inl rfl, Or.inr rfl, trivial⟩
  · have h := okx_F c4 h
    refine xi_aload_n D_Mo_worksOut_24 rfl ?_
    refine xi_getR D_Mo_worksOut_25 F_Mo_72 (zl_fo (g3).1 rfl) ⟨rfl, by decide⟩ (zl_gr (g3).2 rfl rfl) ?_
    refine xj_iconst (v := 1) D_Mo_worksOut_28 rfl ?_
    refine xi_iload_n D_Mo_worksOut_29 rfl ?_
    refine xi_iadd D_Mo_worksOut_30 ?_
    refine xi_aload_n D_Mo_worksOut_31 rfl ?_
    refine xi_iload_n D_Mo_worksOut_32 rfl ?_
    refine xi_iload_n D_Mo_worksOut_33 rfl ?_
    refine xj_V2 D_Mo_worksOut_34 L_Mo_237 C_Mo_stepOf Z_Mo_stepOf (zl_fo (g3).1 rfl) (Nat.le_of_ble_eq_true rfl) (Nat.le_of_eq (Nat.sub_add_cancel (by omega))) (w_Mo_stepOf (by omega) (okx_mono (okx_bd h) ?_))
    intro r5 s6 h
    show Xw _ _ _ _ 37 _ [_, _, _] _ _
    obtain ⟨g7, h⟩ := okx_ck h
    obtain ⟨g8, h⟩ := okx_ck h
    refine xj_iast D_Mo_worksOut_37 (zl_fx (g7).1 rfl) (zl_ib (n := 20) rfl (g8)) ?_
    refine xi_iinc (v := _ + 1) (ls' := [_, _, _]) D_Mo_worksOut_38 rfl rfl rfl (by decide) ?_
    refine xi_goto D_Mo_worksOut_41 ?_
    exact hR16 _ _ _ h
noncomputable def f_Mo_worksOut_h16 (R2 : Int32 → Sg → Option (Unit × Sg)) : Nat → Int32 → Int32 → Sg → Option (Unit × Sg)
  | 0, _, _, _ => none
  | n + 1, x1, x2, s => f_Mo_worksOut_b16 R2 (f_Mo_worksOut_h16 R2 n) x1 x2 s
theorem w_Mo_worksOut_h16 {d : Nat} {Q : Option (Option Value) → Sg → Prop} (hd : 4 ≤ d) {R2 : Int32 → Sg → Option (Unit × Sg)} (hR2 : ∀ (x1 : Int32) (s : Sg), okx (zq_V Q) (R2 x1 s) → Xw d M_Mo_worksOut 0 0 2 [.ref 46, .int x1, .retAddr 0] [] s Q) : ∀ (n : Nat) (x1 : Int32) (x2 : Int32) (s : Sg), okx (zq_V Q) (f_Mo_worksOut_h16 R2 n x1 x2 s) → Xw d M_Mo_worksOut 0 0 16 [.ref 46, .int x1, .int x2] [] s Q := by
  intro n
  induction n with
  | zero => intro x1 x2 s h; exact okx_no h
  | succ n ih => intro x1 x2 s h; exact w_Mo_worksOut_b16 hd hR2 ih  h
noncomputable def f_Mo_worksOut_b2 (R2 : Int32 → Sg → Option (Unit × Sg)) (x1 : Int32) (s : Sg) : Option (Unit × Sg) :=
  f_ck (zl_B s) <|
  if ((1 : Int32) <<< ((2 * (mI s 46 10)) &&& 31)) ≤ x1 then
    some ((), s)
  else
    f_Mo_worksOut_h16 R2 zl_fl x1 0 s
theorem w_Mo_worksOut_b2 {x1 : Int32} {s : Sg} {d : Nat} {Q : Option (Option Value) → Sg → Prop} (hd : 4 ≤ d) {R2 : Int32 → Sg → Option (Unit × Sg)} (hR2 : ∀ (x1 : Int32) (s : Sg), okx (zq_V Q) (R2 x1 s) → Xw d M_Mo_worksOut 0 0 2 [.ref 46, .int x1, .retAddr 0] [] s Q) (h : okx (zq_V Q) (f_Mo_worksOut_b2 R2 x1 s)) : Xw d M_Mo_worksOut 0 0 2 [.ref 46, .int x1, .retAddr 0] [] s Q := by
  unfold f_Mo_worksOut_b2 at h
  refine xi_iload_n D_Mo_worksOut_2 rfl ?_
  refine xj_iconst (v := 1) D_Mo_worksOut_3 rfl ?_
  refine xj_iconst (v := 2) D_Mo_worksOut_4 rfl ?_
  refine xi_aload_n D_Mo_worksOut_5 rfl ?_
  obtain ⟨g1, h⟩ := okx_ck h
  refine xi_getI D_Mo_worksOut_6 F_Mo_234 (zl_fo (g1).1 rfl) ⟨rfl, by decide⟩ ?_
  refine xi_imul D_Mo_worksOut_9 ?_
  refine xi_ishl D_Mo_worksOut_10 ?_
  refine xi_icmp_ge D_Mo_worksOut_11 (fun c2 => ?_) (fun c2 => ?_)
  · have h := okx_T c2 h
    exact xi_return D_Mo_worksOut_83 rfl (okx_V h)
  · have h := okx_F c2 h
    refine xj_iconst (v := 0) D_Mo_worksOut_14 rfl ?_
    refine xi_istore_n (ls' := [_, _, _]) D_Mo_worksOut_15 rfl (by decide) ?_
    exact w_Mo_worksOut_h16 (by omega) hR2 _ _ _ _ h
noncomputable def f_Mo_worksOut_h2 : Nat → Int32 → Sg → Option (Unit × Sg)
  | 0, _, _ => none
  | n + 1, x1, s => f_Mo_worksOut_b2 (f_Mo_worksOut_h2 n) x1 s
theorem w_Mo_worksOut_h2 {d : Nat} {Q : Option (Option Value) → Sg → Prop} (hd : 4 ≤ d) : ∀ (n : Nat) (x1 : Int32) (s : Sg), okx (zq_V Q) (f_Mo_worksOut_h2 n x1 s) → Xw d M_Mo_worksOut 0 0 2 [.ref 46, .int x1, .retAddr 0] [] s Q := by
  intro n
  induction n with
  | zero => intro x1 s h; exact okx_no h
  | succ n ih => intro x1 s h; exact w_Mo_worksOut_b2 hd  ih  h
noncomputable def f_Mo_worksOut  (s : Sg) : Option (Unit × Sg) :=
  f_Mo_worksOut_h2  zl_fl 0 s
theorem w_Mo_worksOut {s : Sg} {d : Nat} {Q : Option (Option Value) → Sg → Prop} (hd : 4 ≤ d) (h : okx (zq_V Q) (f_Mo_worksOut  s)) : Cw d M_Mo_worksOut [.ref 46] s Q := by
  refine Cw.of (by decide +kernel) (Nat.le_of_ble_eq_true rfl) ?_
  show Xw d M_Mo_worksOut 0 0 0 [.ref 46, .retAddr 0, .retAddr 0] [] s _
  unfold f_Mo_worksOut at h
  refine xj_iconst (v := 0) D_Mo_worksOut_0 rfl ?_
  refine xi_istore_n (ls' := [_, _, _]) D_Mo_worksOut_1 rfl (by decide) ?_
  exact w_Mo_worksOut_h2 (by omega)  _ _ _ h
noncomputable def f_Mo_works_b128 (R72 : Int32 → Sg → Option (Int32 × Sg)) (R93 : Int32 → Int32 → Sg → Option (Int32 × Sg)) (x1 : Int32) (x2 : Int32) (y1 : Int32) (y2 : Int32) (s : Sg) : Option (Int32 × Sg) :=
  f_ck (zl_B s) <|
  f_ck (vp_in y1 32) <|
  let s27 : Sg := uI s 50 (Int32.toNatClampNeg y1) y2
  R93 x1 (x2 + 1) s27
theorem w_Mo_works_b128 {x1 : Int32} {x2 : Int32} {y1 : Int32} {y2 : Int32} {s : Sg} {d : Nat} {Q : Option (Option Value) → Sg → Prop} (hd : 6 ≤ d) {R72 : Int32 → Sg → Option (Int32 × Sg)} {R93 : Int32 → Int32 → Sg → Option (Int32 × Sg)} (hR72 : ∀ (x1 : Int32) (s : Sg), okx (zq_I Q) (R72 x1 s) → Xw d M_Mo_works 0 0 72 [.ref 46, .int x1, .retAddr 0] [] s Q) (hR93 : ∀ (x1 : Int32) (x2 : Int32) (s : Sg), okx (zq_I Q) (R93 x1 x2 s) → Xw d M_Mo_works 0 0 93 [.ref 46, .int x1, .int x2] [] s Q) (h : okx (zq_I Q) (f_Mo_works_b128 R72 R93 x1 x2 y1 y2 s)) : Xw d M_Mo_works 0 0 128 [.ref 46, .int x1, .int x2] [.int y2, .int y1, .ref 50] s Q := by
  unfold f_Mo_works_b128 at h
  obtain ⟨g25, h⟩ := okx_ck h
  obtain ⟨g26, h⟩ := okx_ck h
  refine xj_iast D_Mo_works_128 (zl_fx (g25).1 rfl) (zl_ib (n := 32) rfl (g26)) ?_
  refine xi_iinc (v := _ + 1) (ls' := [_, _, _]) D_Mo_works_129 rfl rfl rfl (by decide) ?_
  refine xi_goto D_Mo_works_132 ?_
  exact hR93 _ _ _ h
noncomputable def f_Mo_works_b135 (R72 : Int32 → Sg → Option (Int32 × Sg)) (x1 : Int32) (s : Sg) : Option (Int32 × Sg) :=
  R72 (x1 + 1) s
theorem w_Mo_works_b135 {x1 : Int32} {s : Sg} {d : Nat} {Q : Option (Option Value) → Sg → Prop} (hd : 6 ≤ d) {R72 : Int32 → Sg → Option (Int32 × Sg)} (hR72 : ∀ (x1 : Int32) (s : Sg), okx (zq_I Q) (R72 x1 s) → Xw d M_Mo_works 0 0 72 [.ref 46, .int x1, .retAddr 0] [] s Q) (h : okx (zq_I Q) (f_Mo_works_b135 R72 x1 s)) : Xw d M_Mo_works 0 0 135 [.ref 46, .int x1, .retAddr 0] [] s Q := by
  unfold f_Mo_works_b135 at h
  refine xi_iinc (v := _ + 1) (ls' := [_, _, _]) D_Mo_works_135 rfl rfl rfl (by decide) ?_
  refine xi_goto D_Mo_works_138 ?_
  exact hR72 _ _ h
noncomputable def f_Mo_works_b93 (R72 : Int32 → Sg → Option (Int32 × Sg)) (R93 : Int32 → Int32 → Sg → Option (Int32 × Sg)) (x1 : Int32) (x2 : Int32) (s : Sg) : Option (Int32 × Sg) :=
  if 4 ≤ x2 then
    f_Mo_works_b135 R72 x1 s
  else
    f_ck (zl_B s) <|
    if x2 = 0 then
      f_Mo_works_b128 R72 R93 x1 x2 ((4 * x1) + x2) 0 s
    else
      f_ck (vp_in ((16 + (4 * x1)) + x2) 32) <|
      f_Mo_works_b128 R72 R93 x1 x2 ((4 * x1) + x2) (mI s 50 (Int32.toNatClampNeg ((16 + (4 * x1)) + x2))) s
theorem w_Mo_works_b93 {x1 : Int32} {x2 : Int32} {s : Sg} {d : Nat} {Q : Option (Option Value) → Sg → Prop} (hd : 6 ≤ d) {R72 : Int32 → Sg → Option (Int32 × Sg)} {R93 : Int32 → Int32 → Sg → Option (Int32 × Sg)} (hR72 : ∀ (x1 : Int32) (s : Sg), okx (zq_I Q) (R72 x1 s) → Xw d M_Mo_works 0 0 72 [.ref 46, .int x1, .retAddr 0] [] s Q) (hR93 : ∀ (x1 : Int32) (x2 : Int32) (s : Sg), okx (zq_I Q) (R93 x1 x2 s) → Xw d M_Mo_works 0 0 93 [.ref 46, .int x1, .int x2] [] s Q) (h : okx (zq_I Q) (f_Mo_works_b93 R72 R93 x1 x2 s)) : Xw d M_Mo_works 0 0 93 [.ref 46, .int x1, .int x2] [] s Q := by
  unfold f_Mo_works_b93 at h
  refine xi_iload_n D_Mo_works_93 rfl ?_
  refine xj_iconst (v := 4) D_Mo_works_94 rfl ?_
  refine xi_icmp_ge D_Mo_works_95 (fun c21 => ?_) (fun c21 => ?_)
  · have h := okx_T c21 h
    exact xk_wk (w_Mo_works_b135 (by omega) hR72 h) ⟨Or.inl rfl, Or.inl rfl, Or.inr rfl, trivial⟩
  · have h := okx_F c21 h
    refine xi_aload_n D_Mo_works_98 rfl ?_
    obtain ⟨g22, h⟩ := okx_ck h
    refine xi_getR D_Mo_works_99 F_Mo_20 (zl_fo (g22).1 rfl) ⟨rfl, by decide⟩ (zl_gr (g22).2 rfl rfl) ?_
    refine xj_iconst (v := 4) D_Mo_works_102 rfl ?_
    refine xi_iload_n D_Mo_works_103 rfl ?_
    refine xi_imul D_Mo_works_104 ?_
    refine xi_iload_n D_Mo_works_105 rfl ?_
    refine xi_iadd D_Mo_works_106 ?_
    refine xi_iload_n D_Mo_works_107 rfl ?_
    refine xi_if_ne D_Mo_works_108 (fun c23 => ?_) (fun c23 => ?_)
    · have h := okx_F c23 h
      refine xi_aload_n D_Mo_works_115 rfl ?_
      refine xi_getR D_Mo_works_116 F_Mo_20 (zl_fo (g22).1 rfl) ⟨rfl, by decide⟩ (zl_gr (g22).2 rfl rfl) ?_
      refine xi_bipush (v := 16) D_Mo_works_119 rfl ?_
      refine xj_iconst (v := 4) D_Mo_works_121 rfl ?_
      refine xi_iload_n D_Mo_works_122 rfl ?_
      refine xi_imul D_Mo_works_123 ?_
      refine xi_iadd D_Mo_works_124 ?_
      refine xi_iload_n D_Mo_works_125 rfl ?_
      refine xi_iadd D_Mo_works_126 ?_
      obtain ⟨g24, h⟩ := okx_ck h
      refine xj_iald D_Mo_works_127 (zl_fx (g22).1 rfl) (zl_ib (n := 32) rfl (g24)) ?_
      exact w_Mo_works_b128 (by omega) hR72 hR93 h
    · have h := okx_T c23 h
      refine xj_iconst (v := 0) D_Mo_works_111 rfl ?_
      refine xi_goto D_Mo_works_112 ?_
      exact w_Mo_works_b128 (by omega) hR72 hR93 h
noncomputable def f_Mo_works_h93 (R72 : Int32 → Sg → Option (Int32 × Sg)) : Nat → Int32 → Int32 → Sg → Option (Int32 × Sg)
  | 0, _, _, _ => none
  | n + 1, x1, x2, s => f_Mo_works_b93 R72 (f_Mo_works_h93 R72 n) x1 x2 s
theorem w_Mo_works_h93 {d : Nat} {Q : Option (Option Value) → Sg → Prop} (hd : 6 ≤ d) {R72 : Int32 → Sg → Option (Int32 × Sg)} (hR72 : ∀ (x1 : Int32) (s : Sg), okx (zq_I Q) (R72 x1 s) → Xw d M_Mo_works 0 0 72 [.ref 46, .int x1, .retAddr 0] [] s Q) : ∀ (n : Nat) (x1 : Int32) (x2 : Int32) (s : Sg), okx (zq_I Q) (f_Mo_works_h93 R72 n x1 x2 s) → Xw d M_Mo_works 0 0 93 [.ref 46, .int x1, .int x2] [] s Q := by
  intro n
  induction n with
  | zero => intro x1 x2 s h; exact okx_no h
  | succ n ih => intro x1 x2 s h; exact w_Mo_works_b93 hd hR72 ih  h
noncomputable def f_Mo_works_b254  (s : Sg) : Option (Int32 × Sg) :=
  f_ck (zl_B s) <|
  f_bd (f_Mo_worksOut  s) fun r48 s49 =>
  f_ck (zl_B s49) <|
  f_bd (f_Mo_forgets  s49) fun r51 s52 =>
  some (0, s52)
theorem w_Mo_works_b254 {s : Sg} {d : Nat} {Q : Option (Option Value) → Sg → Prop} (hd : 6 ≤ d) (h : okx (zq_I Q) (f_Mo_works_b254  s)) : Xw d M_Mo_works 0 0 254 [.ref 46, .retAddr 0, .retAddr 0] [] s Q := by
  unfold f_Mo_works_b254 at h
  refine xi_aload_n D_Mo_works_254 rfl ?_
  obtain ⟨g47, h⟩ := okx_ck h
  refine xj_V0 D_Mo_works_255 L_Mo_262 C_Mo_worksOut Z_Mo_worksOut (zl_fo (g47).1 rfl) (Nat.le_of_ble_eq_true rfl) (Nat.le_of_eq (Nat.sub_add_cancel (by omega))) (w_Mo_worksOut (by omega) (okx_mono (okx_bd h) ?_))
  intro r48 s49 h
  show Xw _ _ _ _ 258 _ [] _ _
  refine xi_aload_n D_Mo_works_258 rfl ?_
  obtain ⟨g50, h⟩ := okx_ck h
  refine xj_V0 D_Mo_works_259 L_Mo_111 C_Mo_forgets Z_Mo_forgets (zl_fo (g50).1 rfl) (Nat.le_of_ble_eq_true rfl) (Nat.le_of_eq (Nat.sub_add_cancel (by omega))) (w_Mo_forgets (by omega) (okx_mono (okx_bd h) ?_))
  intro r51 s52 h
  show Xw _ _ _ _ 262 _ [] _ _
  refine xj_iconst (v := 0) D_Mo_works_262 rfl ?_
  exact xi_ireturn D_Mo_works_263 rfl (rfl) (okx_I h)
noncomputable def f_Mo_works_b225 (R225 : Int32 → Sg → Option (Int32 × Sg)) (x1 : Int32) (s : Sg) : Option (Int32 × Sg) :=
  if 1000 ≤ x1 then
    f_Mo_works_b254   s
  else
    f_ck (zl_B s) <|
    f_ck (vp_in (1000 + x1) 2000) <|
    f_ck (vp_in x1 2000) <|
    let s46 : Sg := uI s 55 (Int32.toNatClampNeg x1) (mI s 55 (Int32.toNatClampNeg (1000 + x1)))
    R225 (x1 + 1) s46
theorem w_Mo_works_b225 {x1 : Int32} {s : Sg} {d : Nat} {Q : Option (Option Value) → Sg → Prop} (hd : 6 ≤ d) {R225 : Int32 → Sg → Option (Int32 × Sg)} (hR225 : ∀ (x1 : Int32) (s : Sg), okx (zq_I Q) (R225 x1 s) → Xw d M_Mo_works 0 0 225 [.ref 46, .int x1, .retAddr 0] [] s Q) (h : okx (zq_I Q) (f_Mo_works_b225 R225 x1 s)) : Xw d M_Mo_works 0 0 225 [.ref 46, .int x1, .retAddr 0] [] s Q := by
  unfold f_Mo_works_b225 at h
  refine xi_iload_n D_Mo_works_225 rfl ?_
  refine xi_sipush (v := 1000) D_Mo_works_226 rfl ?_
  refine xi_icmp_ge D_Mo_works_229 (fun c42 => ?_) (fun c42 => ?_)
  · have h := okx_T c42 h
    exact xk_wk (w_Mo_works_b254 (by omega)  h) ⟨Or.inl rfl, Or.inr rfl, Or.inl rfl, trivial⟩
  · have h := okx_F c42 h
    refine xi_aload_n D_Mo_works_232 rfl ?_
    obtain ⟨g43, h⟩ := okx_ck h
    refine xi_getR D_Mo_works_233 F_Mo_35 (zl_fo (g43).1 rfl) ⟨rfl, by decide⟩ (zl_gr (g43).2 rfl rfl) ?_
    refine xi_iload_n D_Mo_works_236 rfl ?_
    refine xi_aload_n D_Mo_works_237 rfl ?_
    refine xi_getR D_Mo_works_238 F_Mo_35 (zl_fo (g43).1 rfl) ⟨rfl, by decide⟩ (zl_gr (g43).2 rfl rfl) ?_
    refine xi_sipush (v := 1000) D_Mo_works_241 rfl ?_
    refine xi_iload_n D_Mo_works_244 rfl ?_
    refine xi_iadd D_Mo_works_245 ?_
    obtain ⟨g44, h⟩ := okx_ck h
    refine xj_iald D_Mo_works_246 (zl_fx (g43).1 rfl) (zl_ib (n := 2000) rfl (g44)) ?_
    obtain ⟨g45, h⟩ := okx_ck h
    refine xj_iast D_Mo_works_247 (zl_fx (g43).1 rfl) (zl_ib (n := 2000) rfl (g45)) ?_
    refine xi_iinc (v := _ + 1) (ls' := [_, _, _]) D_Mo_works_248 rfl rfl rfl (by decide) ?_
    refine xi_goto D_Mo_works_251 ?_
    exact hR225 _ _ h
noncomputable def f_Mo_works_h225 : Nat → Int32 → Sg → Option (Int32 × Sg)
  | 0, _, _ => none
  | n + 1, x1, s => f_Mo_works_b225 (f_Mo_works_h225 n) x1 s
theorem w_Mo_works_h225 {d : Nat} {Q : Option (Option Value) → Sg → Prop} (hd : 6 ≤ d) : ∀ (n : Nat) (x1 : Int32) (s : Sg), okx (zq_I Q) (f_Mo_works_h225 n x1 s) → Xw d M_Mo_works 0 0 225 [.ref 46, .int x1, .retAddr 0] [] s Q := by
  intro n
  induction n with
  | zero => intro x1 s h; exact okx_no h
  | succ n ih => intro x1 s h; exact w_Mo_works_b225 hd  ih  h
noncomputable def f_Mo_works_b223  (s : Sg) : Option (Int32 × Sg) :=
  f_Mo_works_h225  zl_fl 0 s
theorem w_Mo_works_b223 {s : Sg} {d : Nat} {Q : Option (Option Value) → Sg → Prop} (hd : 6 ≤ d) (h : okx (zq_I Q) (f_Mo_works_b223  s)) : Xw d M_Mo_works 0 0 223 [.ref 46, .retAddr 0, .retAddr 0] [] s Q := by
  unfold f_Mo_works_b223 at h
  refine xj_iconst (v := 0) D_Mo_works_223 rfl ?_
  refine xi_istore_n (ls' := [_, _, _]) D_Mo_works_224 rfl (by decide) ?_
  exact w_Mo_works_h225 (by omega)  _ _ _ h
noncomputable def f_Mo_works_b143 (R143 : Int32 → Sg → Option (Int32 × Sg)) (x1 : Int32) (s : Sg) : Option (Int32 × Sg) :=
  if 8 ≤ x1 then
    f_Mo_works_b223   s
  else
    f_ck (zl_B s) <|
    f_ck (vp_in (8 + x1) 16) <|
    f_ck (vp_in x1 16) <|
    let s32 : Sg := uI s 51 (Int32.toNatClampNeg x1) (mI s 51 (Int32.toNatClampNeg (8 + x1)))
    f_ck (vp_in (8 + x1) 16) <|
    f_ck (vp_in x1 16) <|
    let s35 : Sg := uI s32 52 (Int32.toNatClampNeg x1) (mI s32 52 (Int32.toNatClampNeg (8 + x1)))
    f_ck (vp_in (8 + x1) 16) <|
    f_ck (vp_in x1 16) <|
    let s38 : Sg := uI s35 53 (Int32.toNatClampNeg x1) ((mI s35 53 (Int32.toNatClampNeg (8 + x1))) - 1000)
    f_ck (vp_in (8 + x1) 16) <|
    f_ck (vp_in x1 16) <|
    let s41 : Sg := uI s38 54 (Int32.toNatClampNeg x1) ((mI s38 54 (Int32.toNatClampNeg (8 + x1))) - 1000)
    R143 (x1 + 1) s41
theorem w_Mo_works_b143 {x1 : Int32} {s : Sg} {d : Nat} {Q : Option (Option Value) → Sg → Prop} (hd : 6 ≤ d) {R143 : Int32 → Sg → Option (Int32 × Sg)} (hR143 : ∀ (x1 : Int32) (s : Sg), okx (zq_I Q) (R143 x1 s) → Xw d M_Mo_works 0 0 143 [.ref 46, .int x1, .retAddr 0] [] s Q) (h : okx (zq_I Q) (f_Mo_works_b143 R143 x1 s)) : Xw d M_Mo_works 0 0 143 [.ref 46, .int x1, .retAddr 0] [] s Q := by
  unfold f_Mo_works_b143 at h
  refine xi_iload_n D_Mo_works_143 rfl ?_
  refine xi_bipush (v := 8) D_Mo_works_144 rfl ?_
  refine xi_icmp_ge D_Mo_works_146 (fun c28 => ?_) (fun c28 => ?_)
  · have h := okx_T c28 h
    exact xk_wk (w_Mo_works_b223 (by omega)  h) ⟨Or.inl rfl, Or.inr rfl, Or.inl rfl, trivial⟩
  · have h := okx_F c28 h
    refine xi_aload_n D_Mo_works_149 rfl ?_
    obtain ⟨g29, h⟩ := okx_ck h
    refine xi_getR D_Mo_works_150 F_Mo_23 (zl_fo (g29).1 rfl) ⟨rfl, by decide⟩ (zl_gr (g29).2 rfl rfl) ?_
    refine xi_iload_n D_Mo_works_153 rfl ?_
    refine xi_aload_n D_Mo_works_154 rfl ?_
    refine xi_getR D_Mo_works_155 F_Mo_23 (zl_fo (g29).1 rfl) ⟨rfl, by decide⟩ (zl_gr (g29).2 rfl rfl) ?_
    refine xi_bipush (v := 8) D_Mo_works_158 rfl ?_
    refine xi_iload_n D_Mo_works_160 rfl ?_
    refine xi_iadd D_Mo_works_161 ?_
    obtain ⟨g30, h⟩ := okx_ck h
    refine xj_iald D_Mo_works_162 (zl_fx (g29).1 rfl) (zl_ib (n := 16) rfl (g30)) ?_
    obtain ⟨g31, h⟩ := okx_ck h
    refine xj_iast D_Mo_works_163 (zl_fx (g29).1 rfl) (zl_ib (n := 16) rfl (g31)) ?_
    refine xi_aload_n D_Mo_works_164 rfl ?_
    refine xi_getR D_Mo_works_165 F_Mo_26 (zl_fo (g29).1 rfl) ⟨rfl, by decide⟩ (zl_gr (g29).2 rfl rfl) ?_
    refine xi_iload_n D_Mo_works_168 rfl ?_
    refine xi_aload_n D_Mo_works_169 rfl ?_
    refine xi_getR D_Mo_works_170 F_Mo_26 (zl_fo (g29).1 rfl) ⟨rfl, by decide⟩ (zl_gr (g29).2 rfl rfl) ?_
    refine xi_bipush (v := 8) D_Mo_works_173 rfl ?_
    refine xi_iload_n D_Mo_works_175 rfl ?_
    refine xi_iadd D_Mo_works_176 ?_
    obtain ⟨g33, h⟩ := okx_ck h
    refine xj_iald D_Mo_works_177 (zl_fx (g29).1 rfl) (zl_ib (n := 16) rfl (g33)) ?_
    obtain ⟨g34, h⟩ := okx_ck h
    refine xj_iast D_Mo_works_178 (zl_fx (g29).1 rfl) (zl_ib (n := 16) rfl (g34)) ?_
    refine xi_aload_n D_Mo_works_179 rfl ?_
    refine xi_getR D_Mo_works_180 F_Mo_29 (zl_fo (g29).1 rfl) ⟨rfl, by decide⟩ (zl_gr (g29).2 rfl rfl) ?_
    refine xi_iload_n D_Mo_works_183 rfl ?_
    refine xi_aload_n D_Mo_works_184 rfl ?_
    refine xi_getR D_Mo_works_185 F_Mo_29 (zl_fo (g29).1 rfl) ⟨rfl, by decide⟩ (zl_gr (g29).2 rfl rfl) ?_
    refine xi_bipush (v := 8) D_Mo_works_188 rfl ?_
    refine xi_iload_n D_Mo_works_190 rfl ?_
    refine xi_iadd D_Mo_works_191 ?_
    obtain ⟨g36, h⟩ := okx_ck h
    refine xj_iald D_Mo_works_192 (zl_fx (g29).1 rfl) (zl_ib (n := 16) rfl (g36)) ?_
    refine xi_sipush (v := 1000) D_Mo_works_193 rfl ?_
    refine xi_isub D_Mo_works_196 ?_
    obtain ⟨g37, h⟩ := okx_ck h
    refine xj_iast D_Mo_works_197 (zl_fx (g29).1 rfl) (zl_ib (n := 16) rfl (g37)) ?_
    refine xi_aload_n D_Mo_works_198 rfl ?_
    refine xi_getR D_Mo_works_199 F_Mo_32 (zl_fo (g29).1 rfl) ⟨rfl, by decide⟩ (zl_gr (g29).2 rfl rfl) ?_
    refine xi_iload_n D_Mo_works_202 rfl ?_
    refine xi_aload_n D_Mo_works_203 rfl ?_
    refine xi_getR D_Mo_works_204 F_Mo_32 (zl_fo (g29).1 rfl) ⟨rfl, by decide⟩ (zl_gr (g29).2 rfl rfl) ?_
    refine xi_bipush (v := 8) D_Mo_works_207 rfl ?_
    refine xi_iload_n D_Mo_works_209 rfl ?_
    refine xi_iadd D_Mo_works_210 ?_
    obtain ⟨g39, h⟩ := okx_ck h
    refine xj_iald D_Mo_works_211 (zl_fx (g29).1 rfl) (zl_ib (n := 16) rfl (g39)) ?_
    refine xi_sipush (v := 1000) D_Mo_works_212 rfl ?_
    refine xi_isub D_Mo_works_215 ?_
    obtain ⟨g40, h⟩ := okx_ck h
    refine xj_iast D_Mo_works_216 (zl_fx (g29).1 rfl) (zl_ib (n := 16) rfl (g40)) ?_
    refine xi_iinc (v := _ + 1) (ls' := [_, _, _]) D_Mo_works_217 rfl rfl rfl (by decide) ?_
    refine xi_goto D_Mo_works_220 ?_
    exact hR143 _ _ h
noncomputable def f_Mo_works_h143 : Nat → Int32 → Sg → Option (Int32 × Sg)
  | 0, _, _ => none
  | n + 1, x1, s => f_Mo_works_b143 (f_Mo_works_h143 n) x1 s
theorem w_Mo_works_h143 {d : Nat} {Q : Option (Option Value) → Sg → Prop} (hd : 6 ≤ d) : ∀ (n : Nat) (x1 : Int32) (s : Sg), okx (zq_I Q) (f_Mo_works_h143 n x1 s) → Xw d M_Mo_works 0 0 143 [.ref 46, .int x1, .retAddr 0] [] s Q := by
  intro n
  induction n with
  | zero => intro x1 s h; exact okx_no h
  | succ n ih => intro x1 s h; exact w_Mo_works_b143 hd  ih  h
noncomputable def f_Mo_works_b141  (s : Sg) : Option (Int32 × Sg) :=
  f_Mo_works_h143  zl_fl 0 s
theorem w_Mo_works_b141 {s : Sg} {d : Nat} {Q : Option (Option Value) → Sg → Prop} (hd : 6 ≤ d) (h : okx (zq_I Q) (f_Mo_works_b141  s)) : Xw d M_Mo_works 0 0 141 [.ref 46, .retAddr 0, .retAddr 0] [] s Q := by
  unfold f_Mo_works_b141 at h
  refine xj_iconst (v := 0) D_Mo_works_141 rfl ?_
  refine xi_istore_n (ls' := [_, _, _]) D_Mo_works_142 rfl (by decide) ?_
  exact w_Mo_works_h143 (by omega)  _ _ _ h
noncomputable def f_Mo_works_b72 (R72 : Int32 → Sg → Option (Int32 × Sg)) (x1 : Int32) (s : Sg) : Option (Int32 × Sg) :=
  if 4 ≤ x1 then
    f_Mo_works_b141   s
  else
    f_ck (zl_B s) <|
    f_ck (vp_in (4 + x1) 8) <|
    f_ck (vp_in x1 8) <|
    let s20 : Sg := uI s 49 (Int32.toNatClampNeg x1) (mI s 49 (Int32.toNatClampNeg (4 + x1)))
    f_Mo_works_h93 R72 zl_fl x1 0 s20
theorem w_Mo_works_b72 {x1 : Int32} {s : Sg} {d : Nat} {Q : Option (Option Value) → Sg → Prop} (hd : 6 ≤ d) {R72 : Int32 → Sg → Option (Int32 × Sg)} (hR72 : ∀ (x1 : Int32) (s : Sg), okx (zq_I Q) (R72 x1 s) → Xw d M_Mo_works 0 0 72 [.ref 46, .int x1, .retAddr 0] [] s Q) (h : okx (zq_I Q) (f_Mo_works_b72 R72 x1 s)) : Xw d M_Mo_works 0 0 72 [.ref 46, .int x1, .retAddr 0] [] s Q := by
  unfold f_Mo_works_b72 at h
  refine xi_iload_n D_Mo_works_72 rfl ?_
  refine xj_iconst (v := 4) D_Mo_works_73 rfl ?_
  refine xi_icmp_ge D_Mo_works_74 (fun c16 => ?_) (fun c16 => ?_)
  · have h := okx_T c16 h
    exact xk_wk (w_Mo_works_b141 (by omega)  h) ⟨Or.inl rfl, Or.inr rfl, Or.inl rfl, trivial⟩
  · have h := okx_F c16 h
    refine xi_aload_n D_Mo_works_77 rfl ?_
    obtain ⟨g17, h⟩ := okx_ck h
    refine xi_getR D_Mo_works_78 F_Mo_17 (zl_fo (g17).1 rfl) ⟨rfl, by decide⟩ (zl_gr (g17).2 rfl rfl) ?_
    refine xi_iload_n D_Mo_works_81 rfl ?_
    refine xi_aload_n D_Mo_works_82 rfl ?_
    refine xi_getR D_Mo_works_83 F_Mo_17 (zl_fo (g17).1 rfl) ⟨rfl, by decide⟩ (zl_gr (g17).2 rfl rfl) ?_
    refine xj_iconst (v := 4) D_Mo_works_86 rfl ?_
    refine xi_iload_n D_Mo_works_87 rfl ?_
    refine xi_iadd D_Mo_works_88 ?_
    obtain ⟨g18, h⟩ := okx_ck h
    refine xj_iald D_Mo_works_89 (zl_fx (g17).1 rfl) (zl_ib (n := 8) rfl (g18)) ?_
    obtain ⟨g19, h⟩ := okx_ck h
    refine xj_iast D_Mo_works_90 (zl_fx (g17).1 rfl) (zl_ib (n := 8) rfl (g19)) ?_
    refine xj_iconst (v := 0) D_Mo_works_91 rfl ?_
    refine xi_istore_n (ls' := [_, _, _]) D_Mo_works_92 rfl (by decide) ?_
    exact w_Mo_works_h93 (by omega) hR72 _ _ _ _ h
noncomputable def f_Mo_works_h72 : Nat → Int32 → Sg → Option (Int32 × Sg)
  | 0, _, _ => none
  | n + 1, x1, s => f_Mo_works_b72 (f_Mo_works_h72 n) x1 s
theorem w_Mo_works_h72 {d : Nat} {Q : Option (Option Value) → Sg → Prop} (hd : 6 ≤ d) : ∀ (n : Nat) (x1 : Int32) (s : Sg), okx (zq_I Q) (f_Mo_works_h72 n x1 s) → Xw d M_Mo_works 0 0 72 [.ref 46, .int x1, .retAddr 0] [] s Q := by
  intro n
  induction n with
  | zero => intro x1 s h; exact okx_no h
  | succ n ih => intro x1 s h; exact w_Mo_works_b72 hd  ih  h
noncomputable def f_Mo_works_b70  (s : Sg) : Option (Int32 × Sg) :=
  f_Mo_works_h72  zl_fl 0 s
theorem w_Mo_works_b70 {s : Sg} {d : Nat} {Q : Option (Option Value) → Sg → Prop} (hd : 6 ≤ d) (h : okx (zq_I Q) (f_Mo_works_b70  s)) : Xw d M_Mo_works 0 0 70 [.ref 46, .retAddr 0, .retAddr 0] [] s Q := by
  unfold f_Mo_works_b70 at h
  refine xj_iconst (v := 0) D_Mo_works_70 rfl ?_
  refine xi_istore_n (ls' := [_, _, _]) D_Mo_works_71 rfl (by decide) ?_
  exact w_Mo_works_h72 (by omega)  _ _ _ h
noncomputable def f_Mo_works_b43 (R43 : Int32 → Sg → Option (Int32 × Sg)) (x1 : Int32) (s : Sg) : Option (Int32 × Sg) :=
  if 7 ≤ x1 then
    f_Mo_works_b70   s
  else
    f_ck (zl_B s) <|
    f_ck (vp_in (7 + x1) 14) <|
    f_ck (vp_in x1 14) <|
    let s15 : Sg := uL s 48 (Int32.toNatClampNeg x1) (mL s 48 (Int32.toNatClampNeg (7 + x1)))
    R43 (x1 + 1) s15
theorem w_Mo_works_b43 {x1 : Int32} {s : Sg} {d : Nat} {Q : Option (Option Value) → Sg → Prop} (hd : 6 ≤ d) {R43 : Int32 → Sg → Option (Int32 × Sg)} (hR43 : ∀ (x1 : Int32) (s : Sg), okx (zq_I Q) (R43 x1 s) → Xw d M_Mo_works 0 0 43 [.ref 46, .int x1, .retAddr 0] [] s Q) (h : okx (zq_I Q) (f_Mo_works_b43 R43 x1 s)) : Xw d M_Mo_works 0 0 43 [.ref 46, .int x1, .retAddr 0] [] s Q := by
  unfold f_Mo_works_b43 at h
  refine xi_iload_n D_Mo_works_43 rfl ?_
  refine xi_bipush (v := 7) D_Mo_works_44 rfl ?_
  refine xi_icmp_ge D_Mo_works_46 (fun c11 => ?_) (fun c11 => ?_)
  · have h := okx_T c11 h
    exact xk_wk (w_Mo_works_b70 (by omega)  h) ⟨Or.inl rfl, Or.inr rfl, Or.inl rfl, trivial⟩
  · have h := okx_F c11 h
    refine xi_aload_n D_Mo_works_49 rfl ?_
    obtain ⟨g12, h⟩ := okx_ck h
    refine xi_getR D_Mo_works_50 F_Mo_13 (zl_fo (g12).1 rfl) ⟨rfl, by decide⟩ (zl_gr (g12).2 rfl rfl) ?_
    refine xi_iload_n D_Mo_works_53 rfl ?_
    refine xi_aload_n D_Mo_works_54 rfl ?_
    refine xi_getR D_Mo_works_55 F_Mo_13 (zl_fo (g12).1 rfl) ⟨rfl, by decide⟩ (zl_gr (g12).2 rfl rfl) ?_
    refine xi_bipush (v := 7) D_Mo_works_58 rfl ?_
    refine xi_iload_n D_Mo_works_60 rfl ?_
    refine xi_iadd D_Mo_works_61 ?_
    obtain ⟨g13, h⟩ := okx_ck h
    refine xj_lald D_Mo_works_62 (zl_fx (g12).1 rfl) (zl_ib (n := 14) rfl (g13)) ?_
    obtain ⟨g14, h⟩ := okx_ck h
    refine xj_last D_Mo_works_63 (zl_fx (g12).1 rfl) (zl_ib (n := 14) rfl (g14)) ?_
    refine xi_iinc (v := _ + 1) (ls' := [_, _, _]) D_Mo_works_64 rfl rfl rfl (by decide) ?_
    refine xi_goto D_Mo_works_67 ?_
    exact hR43 _ _ h
noncomputable def f_Mo_works_h43 : Nat → Int32 → Sg → Option (Int32 × Sg)
  | 0, _, _ => none
  | n + 1, x1, s => f_Mo_works_b43 (f_Mo_works_h43 n) x1 s
theorem w_Mo_works_h43 {d : Nat} {Q : Option (Option Value) → Sg → Prop} (hd : 6 ≤ d) : ∀ (n : Nat) (x1 : Int32) (s : Sg), okx (zq_I Q) (f_Mo_works_h43 n x1 s) → Xw d M_Mo_works 0 0 43 [.ref 46, .int x1, .retAddr 0] [] s Q := by
  intro n
  induction n with
  | zero => intro x1 s h; exact okx_no h
  | succ n ih => intro x1 s h; exact w_Mo_works_b43 hd  ih  h
noncomputable def f_Mo_works  (s : Sg) : Option (Int32 × Sg) :=
  f_ck (zl_B s) <|
  let s2 : Sg := uI s 46 0 0
  f_bd (f_Mo_readsAll  s2) fun r3 s4 =>
  if r3 = 0 then
    f_ck (zl_B s4) <|
    some ((mI s4 46 9), s4)
  else
    f_ck (zl_B s4) <|
    let s8 : Sg := uI s4 46 10 (mI s4 46 22)
    let s9 : Sg := uI s8 46 11 (mI s8 46 23)
    let s10 : Sg := uI s9 46 12 (mI s9 46 24)
    f_Mo_works_h43  zl_fl 0 s10
theorem w_Mo_works {s : Sg} {d : Nat} {Q : Option (Option Value) → Sg → Prop} (hd : 6 ≤ d) (h : okx (zq_I Q) (f_Mo_works  s)) : Cw d M_Mo_works [.ref 46] s Q := by
  refine Cw.of (by decide +kernel) (Nat.le_of_ble_eq_true rfl) ?_
  show Xw d M_Mo_works 0 0 0 [.ref 46, .retAddr 0, .retAddr 0] [] s _
  unfold f_Mo_works at h
  refine xi_aload_n D_Mo_works_0 rfl ?_
  refine xj_iconst (v := 0) D_Mo_works_1 rfl ?_
  obtain ⟨g1, h⟩ := okx_ck h
  refine xi_putI D_Mo_works_2 F_Mo_114 (zl_fo (g1).1 rfl) ⟨rfl, by decide, rfl⟩ (⟨rfl, rfl⟩) ?_
  refine xi_aload_n D_Mo_works_5 rfl ?_
  refine xj_V0 D_Mo_works_6 L_Mo_256 C_Mo_readsAll Z_Mo_readsAll (zl_fo (g1).1 rfl) (Nat.le_of_ble_eq_true rfl) (Nat.le_of_eq (Nat.sub_add_cancel (by omega))) (w_Mo_readsAll (by omega) (okx_mono (okx_bd h) ?_))
  intro r3 s4 h
  show Xw _ _ _ _ 9 _ [_] _ _
  refine xi_if_ne D_Mo_works_9 (fun c5 => ?_) (fun c5 => ?_)
  · have h := okx_F c5 h
    refine xi_aload_n D_Mo_works_17 rfl ?_
    refine xi_aload_n D_Mo_works_18 rfl ?_
    obtain ⟨g7, h⟩ := okx_ck h
    refine xi_getI D_Mo_works_19 F_Mo_176 (zl_fo (g7).1 rfl) ⟨rfl, by decide⟩ ?_
    refine xi_putI D_Mo_works_22 F_Mo_234 (zl_fo (g7).1 rfl) ⟨rfl, by decide, rfl⟩ (⟨rfl, rfl⟩) ?_
    refine xi_aload_n D_Mo_works_25 rfl ?_
    refine xi_aload_n D_Mo_works_26 rfl ?_
    refine xi_getI D_Mo_works_27 F_Mo_179 (zl_fo (g7).1 rfl) ⟨rfl, by decide⟩ ?_
    refine xi_putI D_Mo_works_30 F_Mo_259 (zl_fo (g7).1 rfl) ⟨rfl, by decide, rfl⟩ (⟨rfl, rfl⟩) ?_
    refine xi_aload_n D_Mo_works_33 rfl ?_
    refine xi_aload_n D_Mo_works_34 rfl ?_
    refine xi_getI D_Mo_works_35 F_Mo_210 (zl_fo (g7).1 rfl) ⟨rfl, by decide⟩ ?_
    refine xi_putI D_Mo_works_38 F_Mo_241 (zl_fo (g7).1 rfl) ⟨rfl, by decide, rfl⟩ (⟨rfl, rfl⟩) ?_
    refine xj_iconst (v := 0) D_Mo_works_41 rfl ?_
    refine xi_istore_n (ls' := [_, _, _]) D_Mo_works_42 rfl (by decide) ?_
    exact w_Mo_works_h43 (by omega)  _ _ _ h
  · have h := okx_T c5 h
    refine xi_aload_n D_Mo_works_12 rfl ?_
    obtain ⟨g6, h⟩ := okx_ck h
    refine xi_getI D_Mo_works_13 F_Mo_150 (zl_fo (g6).1 rfl) ⟨rfl, by decide⟩ ?_
    exact xi_ireturn D_Mo_works_16 rfl (rfl) (okx_I h)
noncomputable def f_Mo_worth_b36 (x1 : Int32) (x2 : Int32) (x3 : Int32) (y1 : Int32) (s : Sg) : Option (Int32 × Sg) :=
  f_ck (zl_B s) <|
  let s12 : Sg := uI s 46 0 y1
  let s13 : Sg := uI s12 46 39 10
  if (mI s13 46 0) = 1 then
    some (0, s13)
  else
    f_bd (f_Mo_worthOf x1 x2 x3 s13) fun r15 s16 =>
    some (r15, s16)
theorem w_Mo_worth_b36 {x1 : Int32} {x2 : Int32} {x3 : Int32} {y1 : Int32} {s : Sg} {d : Nat} {Q : Option (Option Value) → Sg → Prop} (hd : 3 ≤ d) (h : okx (zq_I Q) (f_Mo_worth_b36 x1 x2 x3 y1 s)) : Xw d M_Mo_worth 0 0 36 [.ref 46, .int x1, .int x2, .int x3] [.int y1, .ref 46] s Q := by
  unfold f_Mo_worth_b36 at h
  obtain ⟨g11, h⟩ := okx_ck h
  refine xi_putI D_Mo_worth_36 F_Mo_114 (zl_fo (g11).1 rfl) ⟨rfl, by decide, rfl⟩ (⟨rfl, rfl⟩) ?_
  refine xi_aload_n D_Mo_worth_39 rfl ?_
  refine xi_bipush (v := 10) D_Mo_worth_40 rfl ?_
  refine xi_putI D_Mo_worth_42 F_Mo_272 (zl_fo (g11).1 rfl) ⟨rfl, by decide, rfl⟩ (⟨rfl, rfl⟩) ?_
  refine xi_aload_n D_Mo_worth_45 rfl ?_
  refine xi_getI D_Mo_worth_46 F_Mo_114 (zl_fo (g11).1 rfl) ⟨rfl, by decide⟩ ?_
  refine xj_iconst (v := 1) D_Mo_worth_49 rfl ?_
  refine xi_icmp_ne D_Mo_worth_50 (fun c14 => ?_) (fun c14 => ?_)
  · have h := okx_F c14 h
    refine xi_aload_n D_Mo_worth_57 rfl ?_
    refine xi_iload_n D_Mo_worth_58 rfl ?_
    refine xi_iload_n D_Mo_worth_59 rfl ?_
    refine xi_iload_n D_Mo_worth_60 rfl ?_
    refine xj_V3 D_Mo_worth_61 L_Mo_299 C_Mo_worthOf Z_Mo_worthOf (zl_fo (g11).1 rfl) (Nat.le_of_ble_eq_true rfl) (Nat.le_of_eq (Nat.sub_add_cancel (by omega))) (w_Mo_worthOf (by omega) (okx_mono (okx_bd h) ?_))
    intro r15 s16 h
    show Xw _ _ _ _ 64 _ [_] _ _
    exact xi_ireturn D_Mo_worth_64 rfl (rfl) (okx_I h)
  · have h := okx_T c14 h
    refine xj_iconst (v := 0) D_Mo_worth_53 rfl ?_
    refine xi_goto D_Mo_worth_54 ?_
    exact xi_ireturn D_Mo_worth_64 rfl (rfl) (okx_I h)
noncomputable def f_Mo_worth_b35 (x1 : Int32) (x2 : Int32) (x3 : Int32) (s : Sg) : Option (Int32 × Sg) :=
  f_Mo_worth_b36  x1 x2 x3 1 s
theorem w_Mo_worth_b35 {x1 : Int32} {x2 : Int32} {x3 : Int32} {s : Sg} {d : Nat} {Q : Option (Option Value) → Sg → Prop} (hd : 3 ≤ d) (h : okx (zq_I Q) (f_Mo_worth_b35 x1 x2 x3 s)) : Xw d M_Mo_worth 0 0 35 [.ref 46, .int x1, .int x2, .int x3] [.ref 46] s Q := by
  unfold f_Mo_worth_b35 at h
  refine xj_iconst (v := 1) D_Mo_worth_35 rfl ?_
  exact w_Mo_worth_b36 (by omega)  h
noncomputable def f_Mo_worth (x1 : Int32) (x2 : Int32) (x3 : Int32) (s : Sg) : Option (Int32 × Sg) :=
  f_ck (zl_B s) <|
  f_bd (f_Mo_areThem x1 s) fun r2 s3 =>
  if r2 = 0 then
    f_Mo_worth_b35  x1 x2 x3 s3
  else
    if x2 < 0 then
      f_Mo_worth_b35  x1 x2 x3 s3
    else
      f_ck (zl_B s3) <|
      if ((1 : Int32) <<< ((mI s3 46 11) &&& 31)) ≤ x2 then
        f_Mo_worth_b35  x1 x2 x3 s3
      else
        f_bd (f_Mo_isPains x3 s3) fun r8 s9 =>
        if r8 = 0 then
          f_Mo_worth_b35  x1 x2 x3 s9
        else
          f_Mo_worth_b36  x1 x2 x3 0 s9
theorem w_Mo_worth {x1 : Int32} {x2 : Int32} {x3 : Int32} {s : Sg} {d : Nat} {Q : Option (Option Value) → Sg → Prop} (hd : 3 ≤ d) (h : okx (zq_I Q) (f_Mo_worth x1 x2 x3 s)) : Cw d M_Mo_worth [.ref 46, .int x1, .int x2, .int x3] s Q := by
  refine Cw.of (by decide +kernel) (Nat.le_of_ble_eq_true rfl) ?_
  show Xw d M_Mo_worth 0 0 0 [.ref 46, .int x1, .int x2, .int x3] [] s _
  unfold f_Mo_worth at h
  refine xi_aload_n D_Mo_worth_0 rfl ?_
  refine xi_aload_n D_Mo_worth_1 rfl ?_
  refine xi_iload_n D_Mo_worth_2 rfl ?_
  obtain ⟨g1, h⟩ := okx_ck h
  refine xj_V1 D_Mo_worth_3 L_Mo_293 C_Mo_areThem Z_Mo_areThem (zl_fo (g1).1 rfl) (Nat.le_of_ble_eq_true rfl) (Nat.le_of_eq (Nat.sub_add_cancel (by omega))) (w_Mo_areThem (by omega) (okx_mono (okx_bd h) ?_))
  intro r2 s3 h
  show Xw _ _ _ _ 6 _ [_, _] _ _
  refine xi_if_eq D_Mo_worth_6 (fun c4 => ?_) (fun c4 => ?_)
  · have h := okx_T c4 h
    exact w_Mo_worth_b35 (by omega)  h
  · have h := okx_F c4 h
    refine xi_iload_n D_Mo_worth_9 rfl ?_
    refine xi_if_lt D_Mo_worth_10 (fun c5 => ?_) (fun c5 => ?_)
    · have h := okx_T c5 h
      exact w_Mo_worth_b35 (by omega)  h
    · have h := okx_F c5 h
      refine xi_iload_n D_Mo_worth_13 rfl ?_
      refine xj_iconst (v := 1) D_Mo_worth_14 rfl ?_
      refine xi_aload_n D_Mo_worth_15 rfl ?_
      obtain ⟨g6, h⟩ := okx_ck h
      refine xi_getI D_Mo_worth_16 F_Mo_259 (zl_fo (g6).1 rfl) ⟨rfl, by decide⟩ ?_
      refine xi_ishl D_Mo_worth_19 ?_
      refine xi_icmp_ge D_Mo_worth_20 (fun c7 => ?_) (fun c7 => ?_)
      · have h := okx_T c7 h
        exact w_Mo_worth_b35 (by omega)  h
      · have h := okx_F c7 h
        refine xi_aload_n D_Mo_worth_23 rfl ?_
        refine xi_iload_n D_Mo_worth_24 rfl ?_
        refine xj_V1 D_Mo_worth_25 L_Mo_296 C_Mo_isPains Z_Mo_isPains (zl_fo (g6).1 rfl) (Nat.le_of_ble_eq_true rfl) (Nat.le_of_eq (Nat.sub_add_cancel (by omega))) (w_Mo_isPains (by omega) (okx_mono (okx_bd h) ?_))
        intro r8 s9 h
        show Xw _ _ _ _ 28 _ [_, _] _ _
        refine xi_if_eq D_Mo_worth_28 (fun c10 => ?_) (fun c10 => ?_)
        · have h := okx_T c10 h
          exact w_Mo_worth_b35 (by omega)  h
        · have h := okx_F c10 h
          refine xj_iconst (v := 0) D_Mo_worth_31 rfl ?_
          refine xi_goto D_Mo_worth_32 ?_
          exact w_Mo_worth_b36 (by omega)  h
noncomputable def f_Mo_would (x1 : Int32) (x2 : Int32) (s : Sg) : Option (Int32 × Sg) :=
  f_ck (zl_B s) <|
  let s2 : Sg := uI s 46 0 0
  f_bd (f_Mo_asItIs  s2) fun r3 s4 =>
  f_ck (zl_B s4) <|
  f_bd (f_Mo_isPerson x1 s4) fun r6 s7 =>
  if r6 = 0 then
    some ((-1), s7)
  else
    f_ck (zl_B s7) <|
    f_bd (f_Mo_isPains x2 s7) fun r10 s11 =>
    if r10 = 0 then
      some ((-1), s11)
    else
      f_ck (zl_B s11) <|
      f_bd (f_Mo_wouldOf x1 x2 s11) fun r14 s15 =>
      some (r14, s15)
theorem w_Mo_would {x1 : Int32} {x2 : Int32} {s : Sg} {d : Nat} {Q : Option (Option Value) → Sg → Prop} (hd : 9 ≤ d) (h : okx (zq_I Q) (f_Mo_would x1 x2 s)) : Cw d M_Mo_would [.ref 46, .int x1, .int x2] s Q := by
  refine Cw.of (by decide +kernel) (Nat.le_of_ble_eq_true rfl) ?_
  show Xw d M_Mo_would 0 0 0 [.ref 46, .int x1, .int x2] [] s _
  unfold f_Mo_would at h
  refine xi_aload_n D_Mo_would_0 rfl ?_
  refine xj_iconst (v := 0) D_Mo_would_1 rfl ?_
  obtain ⟨g1, h⟩ := okx_ck h
  refine xi_putI D_Mo_would_2 F_Mo_114 (zl_fo (g1).1 rfl) ⟨rfl, by decide, rfl⟩ (⟨rfl, rfl⟩) ?_
  refine xi_aload_n D_Mo_would_5 rfl ?_
  refine xj_V0 D_Mo_would_6 L_Mo_325 C_Mo_asItIs Z_Mo_asItIs (zl_fo (g1).1 rfl) (Nat.le_of_ble_eq_true rfl) (Nat.le_of_eq (Nat.sub_add_cancel (by omega))) (w_Mo_asItIs (by omega) (okx_mono (okx_bd h) ?_))
  intro r3 s4 h
  show Xw _ _ _ _ 9 _ [] _ _
  refine xi_aload_n D_Mo_would_9 rfl ?_
  refine xi_iload_n D_Mo_would_10 rfl ?_
  obtain ⟨g5, h⟩ := okx_ck h
  refine xj_V1 D_Mo_would_11 L_Mo_265 C_Mo_isPerson Z_Mo_isPerson (zl_fo (g5).1 rfl) (Nat.le_of_ble_eq_true rfl) (Nat.le_of_eq (Nat.sub_add_cancel (by omega))) (w_Mo_isPerson (by omega) (okx_mono (okx_bd h) ?_))
  intro r6 s7 h
  show Xw _ _ _ _ 14 _ [_] _ _
  refine xi_if_eq D_Mo_would_14 (fun c8 => ?_) (fun c8 => ?_)
  · have h := okx_T c8 h
    refine xj_iconst (v := (-1)) D_Mo_would_34 rfl ?_
    exact xi_ireturn D_Mo_would_35 rfl (rfl) (okx_I h)
  · have h := okx_F c8 h
    refine xi_aload_n D_Mo_would_17 rfl ?_
    refine xi_iload_n D_Mo_would_18 rfl ?_
    obtain ⟨g9, h⟩ := okx_ck h
    refine xj_V1 D_Mo_would_19 L_Mo_296 C_Mo_isPains Z_Mo_isPains (zl_fo (g9).1 rfl) (Nat.le_of_ble_eq_true rfl) (Nat.le_of_eq (Nat.sub_add_cancel (by omega))) (w_Mo_isPains (by omega) (okx_mono (okx_bd h) ?_))
    intro r10 s11 h
    show Xw _ _ _ _ 22 _ [_] _ _
    refine xi_if_eq D_Mo_would_22 (fun c12 => ?_) (fun c12 => ?_)
    · have h := okx_T c12 h
      refine xj_iconst (v := (-1)) D_Mo_would_34 rfl ?_
      exact xi_ireturn D_Mo_would_35 rfl (rfl) (okx_I h)
    · have h := okx_F c12 h
      refine xi_aload_n D_Mo_would_25 rfl ?_
      refine xi_iload_n D_Mo_would_26 rfl ?_
      refine xi_iload_n D_Mo_would_27 rfl ?_
      obtain ⟨g13, h⟩ := okx_ck h
      refine xj_V2 D_Mo_would_28 L_Mo_371 C_Mo_wouldOf Z_Mo_wouldOf (zl_fo (g13).1 rfl) (Nat.le_of_ble_eq_true rfl) (Nat.le_of_eq (Nat.sub_add_cancel (by omega))) (w_Mo_wouldOf (by omega) (okx_mono (okx_bd h) ?_))
      intro r14 s15 h
      show Xw _ _ _ _ 31 _ [_] _ _
      refine xi_goto D_Mo_would_31 ?_
      exact xi_ireturn D_Mo_would_35 rfl (rfl) (okx_I h)
noncomputable def f_Mo_writing_b116 (R60 : Int32 → Int32 → Int32 → Int32 → Int32 → Int32 → Int32 → Sg → Option (Int32 × Sg)) (x1 : Int32) (x2 : Int32) (x3 : Int32) (x4 : Int32) (x5 : Int32) (x6 : Int32) (x7 : Int32) (s : Sg) : Option (Int32 × Sg) :=
  R60 x1 x2 x3 x4 x5 x6 (x7 + 1) s
theorem w_Mo_writing_b116 {x1 : Int32} {x2 : Int32} {x3 : Int32} {x4 : Int32} {x5 : Int32} {x6 : Int32} {x7 : Int32} {s : Sg} {d : Nat} {Q : Option (Option Value) → Sg → Prop} (hd : 13 ≤ d) {R60 : Int32 → Int32 → Int32 → Int32 → Int32 → Int32 → Int32 → Sg → Option (Int32 × Sg)} (hR60 : ∀ (x1 : Int32) (x2 : Int32) (x3 : Int32) (x4 : Int32) (x5 : Int32) (x6 : Int32) (x7 : Int32) (s : Sg), okx (zq_I Q) (R60 x1 x2 x3 x4 x5 x6 x7 s) → Xw d M_Mo_writing 0 0 60 [.ref 46, .int x1, .int x2, .int x3, .int x4, .int x5, .int x6, .int x7, .retAddr 0] [] s Q) (h : okx (zq_I Q) (f_Mo_writing_b116 R60 x1 x2 x3 x4 x5 x6 x7 s)) : Xw d M_Mo_writing 0 0 116 [.ref 46, .int x1, .int x2, .int x3, .int x4, .int x5, .int x6, .int x7, .retAddr 0] [] s Q := by
  unfold f_Mo_writing_b116 at h
  refine xi_iinc (v := _ + 1) (ls' := [_, _, _, _, _, _, _, _, _]) D_Mo_writing_116 rfl rfl rfl (by decide) ?_
  refine xi_goto D_Mo_writing_119 ?_
  exact hR60 _ _ _ _ _ _ _ _ h
noncomputable def f_Mo_writing_b104 (R60 : Int32 → Int32 → Int32 → Int32 → Int32 → Int32 → Int32 → Sg → Option (Int32 × Sg)) (x1 : Int32) (x2 : Int32) (x3 : Int32) (x4 : Int32) (x7 : Int32) (x8 : Int32) (s : Sg) : Option (Int32 × Sg) :=
  f_ck (zl_B s) <|
  f_bd (f_Mo_goodOf x8 s) fun r26 s27 =>
  f_Mo_writing_b116 R60 x1 x2 x3 x4 x7 r26 x7 s27
theorem w_Mo_writing_b104 {x1 : Int32} {x2 : Int32} {x3 : Int32} {x4 : Int32} {x7 : Int32} {x8 : Int32} {s : Sg} {d : Nat} {Q : Option (Option Value) → Sg → Prop} (hd : 13 ≤ d) {R60 : Int32 → Int32 → Int32 → Int32 → Int32 → Int32 → Int32 → Sg → Option (Int32 × Sg)} (hR60 : ∀ (x1 : Int32) (x2 : Int32) (x3 : Int32) (x4 : Int32) (x5 : Int32) (x6 : Int32) (x7 : Int32) (s : Sg), okx (zq_I Q) (R60 x1 x2 x3 x4 x5 x6 x7 s) → Xw d M_Mo_writing 0 0 60 [.ref 46, .int x1, .int x2, .int x3, .int x4, .int x5, .int x6, .int x7, .retAddr 0] [] s Q) (h : okx (zq_I Q) (f_Mo_writing_b104 R60 x1 x2 x3 x4 x7 x8 s)) : Xw d M_Mo_writing 0 0 104 [.ref 46, .int x1, .int x2, .int x3, .int x4, .retAddr 0, .retAddr 0, .int x7, .int x8] [] s Q := by
  unfold f_Mo_writing_b104 at h
  refine xi_iload D_Mo_writing_104 rfl ?_
  refine xi_istore (ls' := [_, _, _, _, _, _, _, _, _]) D_Mo_writing_106 rfl (by decide) ?_
  refine xi_aload_n D_Mo_writing_108 rfl ?_
  refine xi_iload D_Mo_writing_109 rfl ?_
  obtain ⟨g25, h⟩ := okx_ck h
  refine xj_V1 D_Mo_writing_111 L_Mo_387 C_Mo_goodOf Z_Mo_goodOf (zl_fo (g25).1 rfl) (Nat.le_of_ble_eq_true rfl) (Nat.le_of_eq (Nat.sub_add_cancel (by omega))) (w_Mo_goodOf (by omega) (okx_mono (okx_bd h) ?_))
  intro r26 s27 h
  show Xw _ _ _ _ 114 _ [_] _ _
  refine xi_istore (ls' := [_, _, _, _, _, _, _, _, _]) D_Mo_writing_114 rfl (by decide) ?_
  exact xk_wk (w_Mo_writing_b116 (by omega) hR60 h) ⟨Or.inl rfl, Or.inl rfl, Or.inl rfl, Or.inl rfl, Or.inl rfl, Or.inl rfl, Or.inl rfl, Or.inl rfl, Or.inr rfl, trivial⟩
noncomputable def f_Mo_writing_b138 (x2 : Int32) (x3 : Int32) (x5 : Int32) (x6 : Int32) (y1 : Int32) (s : Sg) : Option (Int32 × Sg) :=
  f_ck (zl_B s) <|
  let s31 : Sg := uI s 46 0 y1
  if (mI s31 46 0) = 1 then
    some (0, s31)
  else
    if x2 = 0 then
      some (x5, s31)
    else
      some ((x6 - x3), s31)
theorem w_Mo_writing_b138 {x2 : Int32} {x3 : Int32} {x5 : Int32} {x6 : Int32} {y1 : Int32} {s : Sg} {d : Nat} {Q : Option (Option Value) → Sg → Prop} (hd : 13 ≤ d) (h : okx (zq_I Q) (f_Mo_writing_b138 x2 x3 x5 x6 y1 s)) : Xw d M_Mo_writing 0 0 138 [.ref 46, .retAddr 0, .int x2, .int x3, .retAddr 0, .int x5, .int x6, .retAddr 0, .retAddr 0] [.int y1, .ref 46] s Q := by
  unfold f_Mo_writing_b138 at h
  obtain ⟨g30, h⟩ := okx_ck h
  refine xi_putI D_Mo_writing_138 F_Mo_114 (zl_fo (g30).1 rfl) ⟨rfl, by decide, rfl⟩ (⟨rfl, rfl⟩) ?_
  refine xi_aload_n D_Mo_writing_141 rfl ?_
  refine xi_getI D_Mo_writing_142 F_Mo_114 (zl_fo (g30).1 rfl) ⟨rfl, by decide⟩ ?_
  refine xj_iconst (v := 1) D_Mo_writing_145 rfl ?_
  refine xi_icmp_ne D_Mo_writing_146 (fun c32 => ?_) (fun c32 => ?_)
  · have h := okx_F c32 h
    refine xi_iload_n D_Mo_writing_153 rfl ?_
    refine xi_if_ne D_Mo_writing_154 (fun c33 => ?_) (fun c33 => ?_)
    · have h := okx_F c33 h
      refine xi_iload D_Mo_writing_162 rfl ?_
      refine xi_iload_n D_Mo_writing_164 rfl ?_
      refine xi_isub D_Mo_writing_165 ?_
      exact xi_ireturn D_Mo_writing_166 rfl (rfl) (okx_I h)
    · have h := okx_T c33 h
      refine xi_iload D_Mo_writing_157 rfl ?_
      refine xi_goto D_Mo_writing_159 ?_
      exact xi_ireturn D_Mo_writing_166 rfl (rfl) (okx_I h)
  · have h := okx_T c32 h
    refine xj_iconst (v := 0) D_Mo_writing_149 rfl ?_
    refine xi_goto D_Mo_writing_150 ?_
    exact xi_ireturn D_Mo_writing_166 rfl (rfl) (okx_I h)
noncomputable def f_Mo_writing_b137 (x2 : Int32) (x3 : Int32) (x5 : Int32) (x6 : Int32) (s : Sg) : Option (Int32 × Sg) :=
  f_Mo_writing_b138  x2 x3 x5 x6 1 s
theorem w_Mo_writing_b137 {x2 : Int32} {x3 : Int32} {x5 : Int32} {x6 : Int32} {s : Sg} {d : Nat} {Q : Option (Option Value) → Sg → Prop} (hd : 13 ≤ d) (h : okx (zq_I Q) (f_Mo_writing_b137 x2 x3 x5 x6 s)) : Xw d M_Mo_writing 0 0 137 [.ref 46, .retAddr 0, .int x2, .int x3, .retAddr 0, .int x5, .int x6, .retAddr 0, .retAddr 0] [.ref 46] s Q := by
  unfold f_Mo_writing_b137 at h
  refine xj_iconst (v := 1) D_Mo_writing_137 rfl ?_
  exact w_Mo_writing_b138 (by omega)  h
noncomputable def f_Mo_writing_b122 (x2 : Int32) (x3 : Int32) (x4 : Int32) (x5 : Int32) (x6 : Int32) (s : Sg) : Option (Int32 × Sg) :=
  if x4 = 0 then
    f_Mo_writing_b137  x2 x3 x5 x6 s
  else
    if x5 < 0 then
      f_Mo_writing_b137  x2 x3 x5 x6 s
    else
      f_Mo_writing_b138  x2 x3 x5 x6 0 s
theorem w_Mo_writing_b122 {x2 : Int32} {x3 : Int32} {x4 : Int32} {x5 : Int32} {x6 : Int32} {s : Sg} {d : Nat} {Q : Option (Option Value) → Sg → Prop} (hd : 13 ≤ d) (h : okx (zq_I Q) (f_Mo_writing_b122 x2 x3 x4 x5 x6 s)) : Xw d M_Mo_writing 0 0 122 [.ref 46, .retAddr 0, .int x2, .int x3, .int x4, .int x5, .int x6, .retAddr 0, .retAddr 0] [] s Q := by
  unfold f_Mo_writing_b122 at h
  refine xi_aload_n D_Mo_writing_122 rfl ?_
  refine xi_iload D_Mo_writing_123 rfl ?_
  refine xi_if_eq D_Mo_writing_125 (fun c28 => ?_) (fun c28 => ?_)
  · have h := okx_T c28 h
    exact xk_wk (w_Mo_writing_b137 (by omega)  h) ⟨Or.inl rfl, Or.inl rfl, Or.inl rfl, Or.inl rfl, Or.inr rfl, Or.inl rfl, Or.inl rfl, Or.inl rfl, Or.inl rfl, trivial⟩
  · have h := okx_F c28 h
    refine xi_iload D_Mo_writing_128 rfl ?_
    refine xi_if_lt D_Mo_writing_130 (fun c29 => ?_) (fun c29 => ?_)
    · have h := okx_T c29 h
      exact xk_wk (w_Mo_writing_b137 (by omega)  h) ⟨Or.inl rfl, Or.inl rfl, Or.inl rfl, Or.inl rfl, Or.inr rfl, Or.inl rfl, Or.inl rfl, Or.inl rfl, Or.inl rfl, trivial⟩
    · have h := okx_F c29 h
      refine xj_iconst (v := 0) D_Mo_writing_133 rfl ?_
      refine xi_goto D_Mo_writing_134 ?_
      exact xk_wk (w_Mo_writing_b138 (by omega)  h) ⟨Or.inl rfl, Or.inl rfl, Or.inl rfl, Or.inl rfl, Or.inr rfl, Or.inl rfl, Or.inl rfl, Or.inl rfl, Or.inl rfl, trivial⟩
noncomputable def f_Mo_writing_b60 (R60 : Int32 → Int32 → Int32 → Int32 → Int32 → Int32 → Int32 → Sg → Option (Int32 × Sg)) (x1 : Int32) (x2 : Int32) (x3 : Int32) (x4 : Int32) (x5 : Int32) (x6 : Int32) (x7 : Int32) (s : Sg) : Option (Int32 × Sg) :=
  f_ck (zl_B s) <|
  f_ck (vp_in x1 8) <|
  if (mI s 49 (Int32.toNatClampNeg x1)) < x7 then
    f_Mo_writing_b122  x2 x3 x4 x5 x6 s
  else
    f_bd (f_Mo_turnsOut x1 x7 s) fun r17 s18 =>
    if r17 < 0 then
      f_Mo_writing_b116 R60 x1 x2 x3 x4 x5 x6 x7 s18
    else
      if x5 < 0 then
        f_Mo_writing_b104 R60 x1 x2 x3 x4 x7 r17 s18
      else
        f_ck (zl_B s18) <|
        f_bd (f_Mo_goodOf r17 s18) fun r22 s23 =>
        if x6 < r22 then
          f_Mo_writing_b104 R60 x1 x2 x3 x4 x7 r17 s23
        else
          f_Mo_writing_b116 R60 x1 x2 x3 x4 x5 x6 x7 s23
theorem w_Mo_writing_b60 {x1 : Int32} {x2 : Int32} {x3 : Int32} {x4 : Int32} {x5 : Int32} {x6 : Int32} {x7 : Int32} {s : Sg} {d : Nat} {Q : Option (Option Value) → Sg → Prop} (hd : 13 ≤ d) {R60 : Int32 → Int32 → Int32 → Int32 → Int32 → Int32 → Int32 → Sg → Option (Int32 × Sg)} (hR60 : ∀ (x1 : Int32) (x2 : Int32) (x3 : Int32) (x4 : Int32) (x5 : Int32) (x6 : Int32) (x7 : Int32) (s : Sg), okx (zq_I Q) (R60 x1 x2 x3 x4 x5 x6 x7 s) → Xw d M_Mo_writing 0 0 60 [.ref 46, .int x1, .int x2, .int x3, .int x4, .int x5, .int x6, .int x7, .retAddr 0] [] s Q) (h : okx (zq_I Q) (f_Mo_writing_b60 R60 x1 x2 x3 x4 x5 x6 x7 s)) : Xw d M_Mo_writing 0 0 60 [.ref 46, .int x1, .int x2, .int x3, .int x4, .int x5, .int x6, .int x7, .retAddr 0] [] s Q := by
  unfold f_Mo_writing_b60 at h
  refine xi_iload D_Mo_writing_60 rfl ?_
  refine xi_aload_n D_Mo_writing_62 rfl ?_
  obtain ⟨g14, h⟩ := okx_ck h
  refine xi_getR D_Mo_writing_63 F_Mo_17 (zl_fo (g14).1 rfl) ⟨rfl, by decide⟩ (zl_gr (g14).2 rfl rfl) ?_
  refine xi_iload_n D_Mo_writing_66 rfl ?_
  obtain ⟨g15, h⟩ := okx_ck h
  refine xj_iald D_Mo_writing_67 (zl_fx (g14).1 rfl) (zl_ib (n := 8) rfl (g15)) ?_
  refine xi_icmp_gt D_Mo_writing_68 (fun c16 => ?_) (fun c16 => ?_)
  · have h := okx_T c16 h
    exact xk_wk (w_Mo_writing_b122 (by omega)  h) ⟨Or.inl rfl, Or.inr rfl, Or.inl rfl, Or.inl rfl, Or.inl rfl, Or.inl rfl, Or.inl rfl, Or.inr rfl, Or.inl rfl, trivial⟩
  · have h := okx_F c16 h
    refine xi_aload_n D_Mo_writing_71 rfl ?_
    refine xi_iload_n D_Mo_writing_72 rfl ?_
    refine xi_iload D_Mo_writing_73 rfl ?_
    refine xj_V2 D_Mo_writing_75 L_Mo_384 C_Mo_turnsOut Z_Mo_turnsOut (zl_fo (g14).1 rfl) (Nat.le_of_ble_eq_true rfl) (Nat.le_of_eq (Nat.sub_add_cancel (by omega))) (w_Mo_turnsOut (by omega) (okx_mono (okx_bd h) ?_))
    intro r17 s18 h
    show Xw _ _ _ _ 78 _ [_] _ _
    refine xi_istore (ls' := [_, _, _, _, _, _, _, _, _]) D_Mo_writing_78 rfl (by decide) ?_
    refine xi_iload D_Mo_writing_80 rfl ?_
    refine xi_if_lt D_Mo_writing_82 (fun c19 => ?_) (fun c19 => ?_)
    · have h := okx_T c19 h
      exact xk_wk (w_Mo_writing_b116 (by omega) hR60 h) ⟨Or.inl rfl, Or.inl rfl, Or.inl rfl, Or.inl rfl, Or.inl rfl, Or.inl rfl, Or.inl rfl, Or.inl rfl, Or.inr rfl, trivial⟩
    · have h := okx_F c19 h
      refine xi_iload D_Mo_writing_85 rfl ?_
      refine xi_if_lt D_Mo_writing_87 (fun c20 => ?_) (fun c20 => ?_)
      · have h := okx_T c20 h
        exact xk_wk (w_Mo_writing_b104 (by omega) hR60 h) ⟨Or.inl rfl, Or.inl rfl, Or.inl rfl, Or.inl rfl, Or.inl rfl, Or.inr rfl, Or.inr rfl, Or.inl rfl, Or.inl rfl, trivial⟩
      · have h := okx_F c20 h
        refine xi_aload_n D_Mo_writing_90 rfl ?_
        refine xi_iload D_Mo_writing_91 rfl ?_
        obtain ⟨g21, h⟩ := okx_ck h
        refine xj_V1 D_Mo_writing_93 L_Mo_387 C_Mo_goodOf Z_Mo_goodOf (zl_fo (g21).1 rfl) (Nat.le_of_ble_eq_true rfl) (Nat.le_of_eq (Nat.sub_add_cancel (by omega))) (w_Mo_goodOf (by omega) (okx_mono (okx_bd h) ?_))
        intro r22 s23 h
        show Xw _ _ _ _ 96 _ [_] _ _
        refine xi_iload D_Mo_writing_96 rfl ?_
        refine xi_icmp_gt D_Mo_writing_98 (fun c24 => ?_) (fun c24 => ?_)
        · have h := okx_T c24 h
          exact xk_wk (w_Mo_writing_b104 (by omega) hR60 h) ⟨Or.inl rfl, Or.inl rfl, Or.inl rfl, Or.inl rfl, Or.inl rfl, Or.inr rfl, Or.inr rfl, Or.inl rfl, Or.inl rfl, trivial⟩
        · have h := okx_F c24 h
          refine xi_goto D_Mo_writing_101 ?_
          exact xk_wk (w_Mo_writing_b116 (by omega) hR60 h) ⟨Or.inl rfl, Or.inl rfl, Or.inl rfl, Or.inl rfl, Or.inl rfl, Or.inl rfl, Or.inl rfl, Or.inl rfl, Or.inr rfl, trivial⟩
noncomputable def f_Mo_writing_h60 : Nat → Int32 → Int32 → Int32 → Int32 → Int32 → Int32 → Int32 → Sg → Option (Int32 × Sg)
  | 0, _, _, _, _, _, _, _, _ => none
  | n + 1, x1, x2, x3, x4, x5, x6, x7, s => f_Mo_writing_b60 (f_Mo_writing_h60 n) x1 x2 x3 x4 x5 x6 x7 s
theorem w_Mo_writing_h60 {d : Nat} {Q : Option (Option Value) → Sg → Prop} (hd : 13 ≤ d) : ∀ (n : Nat) (x1 : Int32) (x2 : Int32) (x3 : Int32) (x4 : Int32) (x5 : Int32) (x6 : Int32) (x7 : Int32) (s : Sg), okx (zq_I Q) (f_Mo_writing_h60 n x1 x2 x3 x4 x5 x6 x7 s) → Xw d M_Mo_writing 0 0 60 [.ref 46, .int x1, .int x2, .int x3, .int x4, .int x5, .int x6, .int x7, .retAddr 0] [] s Q := by
  intro n
  induction n with
  | zero => intro x1 x2 x3 x4 x5 x6 x7 s h; exact okx_no h
  | succ n ih => intro x1 x2 x3 x4 x5 x6 x7 s h; exact w_Mo_writing_b60 hd  ih  h
noncomputable def f_Mo_writing_b23 (x1 : Int32) (x2 : Int32) (y1 : Int32) (s : Sg) : Option (Int32 × Sg) :=
  f_ck (zl_B s) <|
  let s9 : Sg := uI s 46 0 y1
  if (mI s9 46 0) = 1 then
    some (0, s9)
  else
    f_bd (f_Mo_reachAsItIs  s9) fun r11 s12 =>
    f_ck (zl_B s12) <|
    f_Mo_writing_h60  zl_fl x1 x2 (mI s12 46 56) (mI s12 46 55) (-1) 0 0 s12
theorem w_Mo_writing_b23 {x1 : Int32} {x2 : Int32} {y1 : Int32} {s : Sg} {d : Nat} {Q : Option (Option Value) → Sg → Prop} (hd : 13 ≤ d) (h : okx (zq_I Q) (f_Mo_writing_b23 x1 x2 y1 s)) : Xw d M_Mo_writing 0 0 23 [.ref 46, .int x1, .int x2, .retAddr 0, .retAddr 0, .retAddr 0, .retAddr 0, .retAddr 0, .retAddr 0] [.int y1, .ref 46] s Q := by
  unfold f_Mo_writing_b23 at h
  obtain ⟨g8, h⟩ := okx_ck h
  refine xi_putI D_Mo_writing_23 F_Mo_114 (zl_fo (g8).1 rfl) ⟨rfl, by decide, rfl⟩ (⟨rfl, rfl⟩) ?_
  refine xi_aload_n D_Mo_writing_26 rfl ?_
  refine xi_getI D_Mo_writing_27 F_Mo_114 (zl_fo (g8).1 rfl) ⟨rfl, by decide⟩ ?_
  refine xj_iconst (v := 1) D_Mo_writing_30 rfl ?_
  refine xi_icmp_ne D_Mo_writing_31 (fun c10 => ?_) (fun c10 => ?_)
  · have h := okx_F c10 h
    refine xi_aload_n D_Mo_writing_36 rfl ?_
    refine xj_V0 D_Mo_writing_37 L_Mo_415 C_Mo_reachAsItIs Z_Mo_reachAsItIs (zl_fo (g8).1 rfl) (Nat.le_of_ble_eq_true rfl) (Nat.le_of_eq (Nat.sub_add_cancel (by omega))) (w_Mo_reachAsItIs (by omega) (okx_mono (okx_bd h) ?_))
    intro r11 s12 h
    show Xw _ _ _ _ 40 _ [] _ _
    refine xi_aload_n D_Mo_writing_40 rfl ?_
    obtain ⟨g13, h⟩ := okx_ck h
    refine xi_getI D_Mo_writing_41 F_Mo_397 (zl_fo (g13).1 rfl) ⟨rfl, by decide⟩ ?_
    refine xi_istore_n (ls' := [_, _, _, _, _, _, _, _, _]) D_Mo_writing_44 rfl (by decide) ?_
    refine xi_aload_n D_Mo_writing_45 rfl ?_
    refine xi_getI D_Mo_writing_46 F_Mo_393 (zl_fo (g13).1 rfl) ⟨rfl, by decide⟩ ?_
    refine xi_istore (ls' := [_, _, _, _, _, _, _, _, _]) D_Mo_writing_49 rfl (by decide) ?_
    refine xj_iconst (v := (-1)) D_Mo_writing_51 rfl ?_
    refine xi_istore (ls' := [_, _, _, _, _, _, _, _, _]) D_Mo_writing_52 rfl (by decide) ?_
    refine xj_iconst (v := 0) D_Mo_writing_54 rfl ?_
    refine xi_istore (ls' := [_, _, _, _, _, _, _, _, _]) D_Mo_writing_55 rfl (by decide) ?_
    refine xj_iconst (v := 0) D_Mo_writing_57 rfl ?_
    refine xi_istore (ls' := [_, _, _, _, _, _, _, _, _]) D_Mo_writing_58 rfl (by decide) ?_
    exact w_Mo_writing_h60 (by omega)  _ _ _ _ _ _ _ _ _ h
  · have h := okx_T c10 h
    refine xj_iconst (v := 0) D_Mo_writing_34 rfl ?_
    exact xi_ireturn D_Mo_writing_35 rfl (rfl) (okx_I h)
noncomputable def f_Mo_writing_b22 (x1 : Int32) (x2 : Int32) (s : Sg) : Option (Int32 × Sg) :=
  f_Mo_writing_b23  x1 x2 1 s
theorem w_Mo_writing_b22 {x1 : Int32} {x2 : Int32} {s : Sg} {d : Nat} {Q : Option (Option Value) → Sg → Prop} (hd : 13 ≤ d) (h : okx (zq_I Q) (f_Mo_writing_b22 x1 x2 s)) : Xw d M_Mo_writing 0 0 22 [.ref 46, .int x1, .int x2, .retAddr 0, .retAddr 0, .retAddr 0, .retAddr 0, .retAddr 0, .retAddr 0] [.ref 46] s Q := by
  unfold f_Mo_writing_b22 at h
  refine xj_iconst (v := 1) D_Mo_writing_22 rfl ?_
  exact w_Mo_writing_b23 (by omega)  h
noncomputable def f_Mo_writing (x1 : Int32) (x2 : Int32) (s : Sg) : Option (Int32 × Sg) :=
  f_ck (zl_B s) <|
  f_bd (f_Mo_isPerson x1 s) fun r2 s3 =>
  if r2 = 0 then
    f_Mo_writing_b22  x1 x2 s3
  else
    f_bd (f_Mo_within x2 0 1 s3) fun r5 s6 =>
    if r5 = 0 then
      f_Mo_writing_b22  x1 x2 s6
    else
      f_Mo_writing_b23  x1 x2 0 s6
theorem w_Mo_writing {x1 : Int32} {x2 : Int32} {s : Sg} {d : Nat} {Q : Option (Option Value) → Sg → Prop} (hd : 13 ≤ d) (h : okx (zq_I Q) (f_Mo_writing x1 x2 s)) : Cw d M_Mo_writing [.ref 46, .int x1, .int x2] s Q := by
  refine Cw.of (by decide +kernel) (Nat.le_of_ble_eq_true rfl) ?_
  show Xw d M_Mo_writing 0 0 0 [.ref 46, .int x1, .int x2, .retAddr 0, .retAddr 0, .retAddr 0, .retAddr 0, .retAddr 0, .retAddr 0] [] s _
  unfold f_Mo_writing at h
  refine xi_aload_n D_Mo_writing_0 rfl ?_
  refine xi_aload_n D_Mo_writing_1 rfl ?_
  refine xi_iload_n D_Mo_writing_2 rfl ?_
  obtain ⟨g1, h⟩ := okx_ck h
  refine xj_V1 D_Mo_writing_3 L_Mo_265 C_Mo_isPerson Z_Mo_isPerson (zl_fo (g1).1 rfl) (Nat.le_of_ble_eq_true rfl) (Nat.le_of_eq (Nat.sub_add_cancel (by omega))) (w_Mo_isPerson (by omega) (okx_mono (okx_bd h) ?_))
  intro r2 s3 h
  show Xw _ _ _ _ 6 _ [_, _] _ _
  refine xi_if_eq D_Mo_writing_6 (fun c4 => ?_) (fun c4 => ?_)
  · have h := okx_T c4 h
    exact w_Mo_writing_b22 (by omega)  h
  · have h := okx_F c4 h
    refine xi_iload_n D_Mo_writing_9 rfl ?_
    refine xj_iconst (v := 0) D_Mo_writing_10 rfl ?_
    refine xj_iconst (v := 1) D_Mo_writing_11 rfl ?_
    refine xj_S3 D_Mo_writing_12 L_Mo_268 C_Mo_within Z_Mo_within (Nat.le_of_ble_eq_true rfl) (Nat.le_of_eq (Nat.sub_add_cancel (by omega))) (w_Mo_within (by omega) (okx_mono (okx_bd h) ?_))
    intro r5 s6 h
    show Xw _ _ _ _ 15 _ [_, _] _ _
    refine xi_if_eq D_Mo_writing_15 (fun c7 => ?_) (fun c7 => ?_)
    · have h := okx_T c7 h
      exact w_Mo_writing_b22 (by omega)  h
    · have h := okx_F c7 h
      refine xj_iconst (v := 0) D_Mo_writing_18 rfl ?_
      refine xi_goto D_Mo_writing_19 ?_
      exact w_Mo_writing_b23 (by omega)  h
