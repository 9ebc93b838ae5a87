/-! by a program of ours (wip/whole/gen/func.py, mkall.py) out of the listing: Rd_rec Rd_readLine Rd_readPerson Rd_readThing Rd_read -/
noncomputable def f_Rd_rec : Nat → (Int32 → Int32 → Sg → Option (Int32 × Sg)) × (Int32 → Sg → Option (Int32 × Sg))
  | 0 => (fun _ _ _ => none, fun _ _ => none)
  | n + 1 => (fun x1 x2 s => f_Rd_readJoined (f_Rd_rec n).1 (f_Rd_rec n).2 x1 x2 s, fun x1 s => f_Rd_readPart (f_Rd_rec n).1 (f_Rd_rec n).2 x1 s)
theorem w_Rd_rec : ∀ (n d : Nat), 20 + n ≤ d → (∀ (x1 x2 : Int32) (s : Sg) (Q : Option (Option Value) → Sg → Prop), okx (zq_I Q) ((f_Rd_rec n).1 x1 x2 s) → Cw d M_Rd_readJoined [.ref 42, .int x1, .int x2] s Q) ∧ (∀ (x1 : Int32) (s : Sg) (Q : Option (Option Value) → Sg → Prop), okx (zq_I Q) ((f_Rd_rec n).2 x1 s) → Cw d M_Rd_readPart [.ref 42, .int x1] s Q) := by
  intro n
  induction n with
  | zero => intro d _; exact ⟨fun x1 x2 s Q h => okx_no h, fun x1 s Q h => okx_no h⟩
  | succ n ih =>
    intro d hd
    have ih := ih (d - 1) (by omega)
    exact ⟨fun x1 x2 s Q h => w_Rd_readJoined (by omega) (fun _ h => ih.1 _ _ _ _ h) (fun _ h => ih.2 _ _ _ h) h, fun x1 s Q h => w_Rd_readPart (by omega) (fun _ h => ih.1 _ _ _ _ h) (fun _ h => ih.2 _ _ _ h) h⟩
noncomputable def f_Rd_rj (x1 x2 : Int32) (s : Sg) : Option (Int32 × Sg) := (f_Rd_rec 40).1 x1 x2 s
theorem w_Rd_rj {x1 x2 : Int32} {s : Sg} {d : Nat} {Q : Option (Option Value) → Sg → Prop} (hd : 60 ≤ d) (h : okx (zq_I Q) (f_Rd_rj x1 x2 s)) : Cw d M_Rd_readJoined [.ref 42, .int x1, .int x2] s Q := (w_Rd_rec 40 d hd).1 _ _ _ _ h
noncomputable def f_Rd_readLine_b81  (s : Sg) : Option (Int32 × Sg) :=
  f_ck (zl_B s) <|
  f_bd (f_Rd_wrong 2 s) fun r31 s32 =>
  f_ck (narrow FieldType.boolean (.int r31) = .int r31) <|
  some (r31, s32)
theorem w_Rd_readLine_b81 {s : Sg} {d : Nat} {Q : Option (Option Value) → Sg → Prop} (hd : 61 ≤ d) (h : okx (zq_I Q) (f_Rd_readLine_b81  s)) : Xw d M_Rd_readLine 0 0 81 [.ref 42, .retAddr 0, .retAddr 0, .retAddr 0] [] s Q := by
  unfold f_Rd_readLine_b81 at h
  refine xi_aload_n D_Rd_readLine_81 rfl ?_
  refine xj_iconst (v := 2) D_Rd_readLine_82 rfl ?_
  obtain ⟨g30, h⟩ := okx_ck h
  refine xj_V1 D_Rd_readLine_83 L_Rd_59 C_Rd_wrong Z_Rd_wrong (zl_fo (g30).1 rfl) (Nat.le_of_ble_eq_true rfl) (Nat.le_of_eq (Nat.sub_add_cancel (by omega))) (w_Rd_wrong (by omega) (okx_mono (okx_bd h) ?_))
  intro r31 s32 h
  show Xw _ _ _ _ 86 _ [_] _ _
  obtain ⟨g33, h⟩ := okx_ck h
  exact xi_ireturn D_Rd_readLine_86 rfl (g33) (okx_I h)
noncomputable def f_Rd_readLine_b96  (s : Sg) : Option (Int32 × Sg) :=
  f_ck (zl_B s) <|
  f_bd (f_Rd_wrong 3 s) fun r35 s36 =>
  f_ck (narrow FieldType.boolean (.int r35) = .int r35) <|
  some (r35, s36)
theorem w_Rd_readLine_b96 {s : Sg} {d : Nat} {Q : Option (Option Value) → Sg → Prop} (hd : 61 ≤ d) (h : okx (zq_I Q) (f_Rd_readLine_b96  s)) : Xw d M_Rd_readLine 0 0 96 [.ref 42, .retAddr 0, .retAddr 0, .retAddr 0] [] s Q := by
  unfold f_Rd_readLine_b96 at h
  refine xi_aload_n D_Rd_readLine_96 rfl ?_
  refine xj_iconst (v := 3) D_Rd_readLine_97 rfl ?_
  obtain ⟨g34, h⟩ := okx_ck h
  refine xj_V1 D_Rd_readLine_98 L_Rd_59 C_Rd_wrong Z_Rd_wrong (zl_fo (g34).1 rfl) (Nat.le_of_ble_eq_true rfl) (Nat.le_of_eq (Nat.sub_add_cancel (by omega))) (w_Rd_wrong (by omega) (okx_mono (okx_bd h) ?_))
  intro r35 s36 h
  show Xw _ _ _ _ 101 _ [_] _ _
  obtain ⟨g37, h⟩ := okx_ck h
  exact xi_ireturn D_Rd_readLine_101 rfl (g37) (okx_I h)
noncomputable def f_Rd_readLine_b131  (s : Sg) : Option (Int32 × Sg) :=
  f_ck (zl_B s) <|
  f_bd (f_Rd_wrong 1 s) fun r54 s55 =>
  f_ck (narrow FieldType.boolean (.int r54) = .int r54) <|
  some (r54, s55)
theorem w_Rd_readLine_b131 {s : Sg} {d : Nat} {Q : Option (Option Value) → Sg → Prop} (hd : 61 ≤ d) (h : okx (zq_I Q) (f_Rd_readLine_b131  s)) : Xw d M_Rd_readLine 0 0 131 [.ref 42, .retAddr 0, .retAddr 0, .retAddr 0] [] s Q := by
  unfold f_Rd_readLine_b131 at h
  refine xi_aload_n D_Rd_readLine_131 rfl ?_
  refine xj_iconst (v := 1) D_Rd_readLine_132 rfl ?_
  obtain ⟨g53, h⟩ := okx_ck h
  refine xj_V1 D_Rd_readLine_133 L_Rd_59 C_Rd_wrong Z_Rd_wrong (zl_fo (g53).1 rfl) (Nat.le_of_ble_eq_true rfl) (Nat.le_of_eq (Nat.sub_add_cancel (by omega))) (w_Rd_wrong (by omega) (okx_mono (okx_bd h) ?_))
  intro r54 s55 h
  show Xw _ _ _ _ 136 _ [_] _ _
  obtain ⟨g56, h⟩ := okx_ck h
  exact xi_ireturn D_Rd_readLine_136 rfl (g56) (okx_I h)
noncomputable def f_Rd_readLine_b118 (x1 : Int32) (s : Sg) : Option (Int32 × Sg) :=
  if x1 = 0 then
    f_Rd_readLine_b131   s
  else
    f_ck (zl_B s) <|
    if (mI s 42 4) = 59 then
      f_ck (mR s 42 10 = some 31) <|
      f_ck (mR s 42 10 = some 31) <|
      f_ck (vp_in (mI s 31 2) 8) <|
      let s44 : Sg := uI s 34 (Int32.toNatClampNeg (mI s 31 2)) x1
      f_ck (mR s44 42 10 = some 31) <|
      let s46 : Sg := uI s44 31 2 ((mI s44 31 2) + 1)
      f_ck (mR s46 42 10 = some 31) <|
      f_ck (mR s46 42 10 = some 31) <|
      f_ck (vp_in (mI s46 31 2) 9) <|
      let s50 : Sg := uI s46 35 (Int32.toNatClampNeg (mI s46 31 2)) (mI s46 42 9)
      f_bd (f_Rd_take  s50) fun r51 s52 =>
      some (1, s52)
    else
      f_Rd_readLine_b131   s
theorem w_Rd_readLine_b118 {x1 : Int32} {s : Sg} {d : Nat} {Q : Option (Option Value) → Sg → Prop} (hd : 61 ≤ d) (h : okx (zq_I Q) (f_Rd_readLine_b118 x1 s)) : Xw d M_Rd_readLine 0 0 118 [.ref 42, .int x1, .retAddr 0, .retAddr 0] [] s Q := by
  unfold f_Rd_readLine_b118 at h
  refine xi_iload_n D_Rd_readLine_118 rfl ?_
  refine xi_if_eq D_Rd_readLine_119 (fun c38 => ?_) (fun c38 => ?_)
  · have h := okx_T c38 h
    exact xk_wk (w_Rd_readLine_b131 (by omega)  h) ⟨Or.inl rfl, Or.inr rfl, Or.inl rfl, Or.inl rfl, trivial⟩
  · have h := okx_F c38 h
    refine xi_aload_n D_Rd_readLine_122 rfl ?_
    obtain ⟨g39, h⟩ := okx_ck h
    refine xi_getI D_Rd_readLine_123 F_Rd_46 (zl_fo (g39).1 rfl) ⟨rfl, by decide⟩ ?_
    refine xi_bipush (v := 59) D_Rd_readLine_126 rfl ?_
    refine xi_icmp_eq D_Rd_readLine_128 (fun c40 => ?_) (fun c40 => ?_)
    · have h := okx_T c40 h
      refine xi_aload_n D_Rd_readLine_137 rfl ?_
      obtain ⟨g41, h⟩ := okx_ck h
      refine xi_getR D_Rd_readLine_138 F_Rd_25 (zl_fo (g39).1 rfl) ⟨rfl, by decide⟩ (g41) ?_
      refine xi_getR D_Rd_readLine_141 F_Rd_100 (zl_fo (g39).1 rfl) ⟨rfl, by decide⟩ (zl_gr (g39).2 rfl rfl) ?_
      refine xi_aload_n D_Rd_readLine_144 rfl ?_
      obtain ⟨g42, h⟩ := okx_ck h
      refine xi_getR D_Rd_readLine_145 F_Rd_25 (zl_fo (g39).1 rfl) ⟨rfl, by decide⟩ (g42) ?_
      refine xi_getI D_Rd_readLine_148 F_Rd_89 (zl_fo (g39).1 rfl) ⟨rfl, by decide⟩ ?_
      refine xi_iload_n D_Rd_readLine_151 rfl ?_
      obtain ⟨g43, h⟩ := okx_ck h
      refine xj_iast D_Rd_readLine_152 (zl_fx (g39).1 rfl) (zl_ib (n := 8) rfl (g43)) ?_
      refine xi_aload_n D_Rd_readLine_153 rfl ?_
      obtain ⟨g45, h⟩ := okx_ck h
      refine xi_getR D_Rd_readLine_154 F_Rd_25 (zl_fo (g39).1 rfl) ⟨rfl, by decide⟩ (g45) ?_
      refine xi_dupr D_Rd_readLine_157 ?_
      refine xi_getI D_Rd_readLine_158 F_Rd_89 (zl_fo (g39).1 rfl) ⟨rfl, by decide⟩ ?_
      refine xj_iconst (v := 1) D_Rd_readLine_161 rfl ?_
      refine xi_iadd D_Rd_readLine_162 ?_
      refine xi_putI D_Rd_readLine_163 F_Rd_89 (zl_fo (g39).1 rfl) ⟨rfl, by decide, rfl⟩ (⟨rfl, rfl⟩) ?_
      refine xi_aload_n D_Rd_readLine_166 rfl ?_
      obtain ⟨g47, h⟩ := okx_ck h
      refine xi_getR D_Rd_readLine_167 F_Rd_25 (zl_fo (g39).1 rfl) ⟨rfl, by decide⟩ (g47) ?_
      refine xi_getR D_Rd_readLine_170 F_Rd_103 (zl_fo (g39).1 rfl) ⟨rfl, by decide⟩ (zl_gr (g39).2 rfl rfl) ?_
      refine xi_aload_n D_Rd_readLine_173 rfl ?_
      obtain ⟨g48, h⟩ := okx_ck h
      refine xi_getR D_Rd_readLine_174 F_Rd_25 (zl_fo (g39).1 rfl) ⟨rfl, by decide⟩ (g48) ?_
      refine xi_getI D_Rd_readLine_177 F_Rd_89 (zl_fo (g39).1 rfl) ⟨rfl, by decide⟩ ?_
      refine xi_aload_n D_Rd_readLine_180 rfl ?_
      refine xi_getI D_Rd_readLine_181 F_Rd_37 (zl_fo (g39).1 rfl) ⟨rfl, by decide⟩ ?_
      obtain ⟨g49, h⟩ := okx_ck h
      refine xj_iast D_Rd_readLine_184 (zl_fx (g39).1 rfl) (zl_ib (n := 9) rfl (g49)) ?_
      refine xi_aload_n D_Rd_readLine_185 rfl ?_
      refine xj_V0 D_Rd_readLine_186 L_Rd_43 C_Rd_take Z_Rd_take (zl_fo (g39).1 rfl) (Nat.le_of_ble_eq_true rfl) (Nat.le_of_eq (Nat.sub_add_cancel (by omega))) (w_Rd_take (by omega) (okx_mono (okx_bd h) ?_))
      intro r51 s52 h
      show Xw _ _ _ _ 189 _ [] _ _
      refine xj_iconst (v := 1) D_Rd_readLine_189 rfl ?_
      exact xi_ireturn D_Rd_readLine_190 rfl (rfl) (okx_I h)
    · have h := okx_F c40 h
      exact xk_wk (w_Rd_readLine_b131 (by omega)  h) ⟨Or.inl rfl, Or.inr rfl, Or.inl rfl, Or.inl rfl, trivial⟩
noncomputable def f_Rd_readLine_b56 (R56 : Int32 → Int32 → Sg → Option (Int32 × Sg)) (x1 : Int32) (x2 : Int32) (s : Sg) : Option (Int32 × Sg) :=
  if 1000 ≤ x2 then
    f_Rd_readLine_b118  x1 s
  else
    f_ck (zl_B s) <|
    if (mI s 42 4) = 2 then
      f_bd (f_Rd_whoseName  s) fun r23 s24 =>
      if r23 = (-1) then
        f_Rd_readLine_b81   s24
      else
        if ((x1 >>> (r23 &&& 31)) &&& 1) = 1 then
          f_Rd_readLine_b96   s24
        else
          f_ck (zl_B s24) <|
          f_bd (f_Rd_take  s24) fun r28 s29 =>
          R56 (x1 ||| ((1 : Int32) <<< (r23 &&& 31))) (x2 + 1) s29
    else
      f_Rd_readLine_b118  x1 s
theorem w_Rd_readLine_b56 {x1 : Int32} {x2 : Int32} {s : Sg} {d : Nat} {Q : Option (Option Value) → Sg → Prop} (hd : 61 ≤ d) {R56 : Int32 → Int32 → Sg → Option (Int32 × Sg)} (hR56 : ∀ (x1 : Int32) (x2 : Int32) (s : Sg), okx (zq_I Q) (R56 x1 x2 s) → Xw d M_Rd_readLine 0 0 56 [.ref 42, .int x1, .int x2, .retAddr 0] [] s Q) (h : okx (zq_I Q) (f_Rd_readLine_b56 R56 x1 x2 s)) : Xw d M_Rd_readLine 0 0 56 [.ref 42, .int x1, .int x2, .retAddr 0] [] s Q := by
  unfold f_Rd_readLine_b56 at h
  refine xi_iload_n D_Rd_readLine_56 rfl ?_
  refine xi_sipush (v := 1000) D_Rd_readLine_57 rfl ?_
  refine xi_icmp_ge D_Rd_readLine_60 (fun c20 => ?_) (fun c20 => ?_)
  · have h := okx_T c20 h
    exact xk_wk (w_Rd_readLine_b118 (by omega)  h) ⟨Or.inl rfl, Or.inl rfl, Or.inr rfl, Or.inl rfl, trivial⟩
  · have h := okx_F c20 h
    refine xi_aload_n D_Rd_readLine_63 rfl ?_
    obtain ⟨g21, h⟩ := okx_ck h
    refine xi_getI D_Rd_readLine_64 F_Rd_46 (zl_fo (g21).1 rfl) ⟨rfl, by decide⟩ ?_
    refine xj_iconst (v := 2) D_Rd_readLine_67 rfl ?_
    refine xi_icmp_ne D_Rd_readLine_68 (fun c22 => ?_) (fun c22 => ?_)
    · have h := okx_F c22 h
      exact xk_wk (w_Rd_readLine_b118 (by omega)  h) ⟨Or.inl rfl, Or.inl rfl, Or.inr rfl, Or.inl rfl, trivial⟩
    · have h := okx_T c22 h
      refine xi_aload_n D_Rd_readLine_71 rfl ?_
      refine xj_V0 D_Rd_readLine_72 L_Rd_96 C_Rd_whoseName Z_Rd_whoseName (zl_fo (g21).1 rfl) (Nat.le_of_ble_eq_true rfl) (Nat.le_of_eq (Nat.sub_add_cancel (by omega))) (w_Rd_whoseName (by omega) (okx_mono (okx_bd h) ?_))
      intro r23 s24 h
      show Xw _ _ _ _ 75 _ [_] _ _
      refine xi_istore_n (ls' := [_, _, _, _]) D_Rd_readLine_75 rfl (by decide) ?_
      refine xi_iload_n D_Rd_readLine_76 rfl ?_
      refine xj_iconst (v := (-1)) D_Rd_readLine_77 rfl ?_
      refine xi_icmp_ne D_Rd_readLine_78 (fun c25 => ?_) (fun c25 => ?_)
      · have h := okx_F c25 h
        refine xi_iload_n D_Rd_readLine_87 rfl ?_
        refine xi_iload_n D_Rd_readLine_88 rfl ?_
        refine xi_ishr D_Rd_readLine_89 ?_
        refine xj_iconst (v := 1) D_Rd_readLine_90 rfl ?_
        refine xi_iand D_Rd_readLine_91 ?_
        refine xj_iconst (v := 1) D_Rd_readLine_92 rfl ?_
        refine xi_icmp_ne D_Rd_readLine_93 (fun c26 => ?_) (fun c26 => ?_)
        · have h := okx_F c26 h
          refine xi_iload_n D_Rd_readLine_102 rfl ?_
          refine xj_iconst (v := 1) D_Rd_readLine_103 rfl ?_
          refine xi_iload_n D_Rd_readLine_104 rfl ?_
          refine xi_ishl D_Rd_readLine_105 ?_
          refine xi_ior D_Rd_readLine_106 ?_
          refine xi_istore_n (ls' := [_, _, _, _]) D_Rd_readLine_107 rfl (by decide) ?_
          refine xi_aload_n D_Rd_readLine_108 rfl ?_
          obtain ⟨g27, h⟩ := okx_ck h
          refine xj_V0 D_Rd_readLine_109 L_Rd_43 C_Rd_take Z_Rd_take (zl_fo (g27).1 rfl) (Nat.le_of_ble_eq_true rfl) (Nat.le_of_eq (Nat.sub_add_cancel (by omega))) (w_Rd_take (by omega) (okx_mono (okx_bd h) ?_))
          intro r28 s29 h
          show Xw _ _ _ _ 112 _ [] _ _
          refine xi_iinc (v := _ + 1) (ls' := [_, _, _, _]) D_Rd_readLine_112 rfl rfl rfl (by decide) ?_
          refine xi_goto D_Rd_readLine_115 ?_
          exact xk_wk (hR56 _ _ _ h) ⟨Or.inl rfl, Or.inl rfl, Or.inl rfl, Or.inr rfl, trivial⟩
        · have h := okx_T c26 h
          exact xk_wk (w_Rd_readLine_b96 (by omega)  h) ⟨Or.inl rfl, Or.inr rfl, Or.inr rfl, Or.inr rfl, trivial⟩
      · have h := okx_T c25 h
        exact xk_wk (w_Rd_readLine_b81 (by omega)  h) ⟨Or.inl rfl, Or.inr rfl, Or.inr rfl, Or.inr rfl, trivial⟩
noncomputable def f_Rd_readLine_h56 : Nat → Int32 → Int32 → Sg → Option (Int32 × Sg)
  | 0, _, _, _ => none
  | n + 1, x1, x2, s => f_Rd_readLine_b56 (f_Rd_readLine_h56 n) x1 x2 s
theorem w_Rd_readLine_h56 {d : Nat} {Q : Option (Option Value) → Sg → Prop} (hd : 61 ≤ d) : ∀ (n : Nat) (x1 : Int32) (x2 : Int32) (s : Sg), okx (zq_I Q) (f_Rd_readLine_h56 n x1 x2 s) → Xw d M_Rd_readLine 0 0 56 [.ref 42, .int x1, .int x2, .retAddr 0] [] s Q := by
  intro n
  induction n with
  | zero => intro x1 x2 s h; exact okx_no h
  | succ n ih => intro x1 x2 s h; exact w_Rd_readLine_b56 hd  ih  h
noncomputable def f_Rd_readLine  (s : Sg) : Option (Int32 × Sg) :=
  f_ck (zl_B s) <|
  f_ck (mR s 42 10 = some 31) <|
  if (mI s 31 2) < 8 then
    f_bd (f_Rd_take  s) fun r4 s5 =>
    f_ck (zl_B s5) <|
    f_bd (f_Rd_rj 0 0 s5) fun r7 s8 =>
    if r7 = 0 then
      some (0, s8)
    else
      f_ck (zl_B s8) <|
      if (mI s8 42 4) = 8 then
        f_bd (f_Rd_take  s8) fun r12 s13 =>
        f_Rd_readLine_h56  zl_fl 0 0 s13
      else
        f_bd (f_Rd_wrong 1 s8) fun r14 s15 =>
        f_ck (narrow FieldType.boolean (.int r14) = .int r14) <|
        some (r14, s15)
  else
    f_bd (f_Rd_wrong 5 s) fun r17 s18 =>
    f_ck (narrow FieldType.boolean (.int r17) = .int r17) <|
    some (r17, s18)
theorem w_Rd_readLine {s : Sg} {d : Nat} {Q : Option (Option Value) → Sg → Prop} (hd : 61 ≤ d) (h : okx (zq_I Q) (f_Rd_readLine  s)) : Cw d M_Rd_readLine [.ref 42] s Q := by
  refine Cw.of (by decide +kernel) (Nat.le_of_ble_eq_true rfl) ?_
  show Xw d M_Rd_readLine 0 0 0 [.ref 42, .retAddr 0, .retAddr 0, .retAddr 0] [] s _
  unfold f_Rd_readLine at h
  refine xi_aload_n D_Rd_readLine_0 rfl ?_
  obtain ⟨g1, h⟩ := okx_ck h
  obtain ⟨g2, h⟩ := okx_ck h
  refine xi_getR D_Rd_readLine_1 F_Rd_25 (zl_fo (g1).1 rfl) ⟨rfl, by decide⟩ (g2) ?_
  refine xi_getI D_Rd_readLine_4 F_Rd_89 (zl_fo (g1).1 rfl) ⟨rfl, by decide⟩ ?_
  refine xi_bipush (v := 8) D_Rd_readLine_7 rfl ?_
  refine xi_icmp_lt D_Rd_readLine_9 (fun c3 => ?_) (fun c3 => ?_)
  · have h := okx_T c3 h
    refine xi_aload_n D_Rd_readLine_18 rfl ?_
    refine xj_V0 D_Rd_readLine_19 L_Rd_43 C_Rd_take Z_Rd_take (zl_fo (g1).1 rfl) (Nat.le_of_ble_eq_true rfl) (Nat.le_of_eq (Nat.sub_add_cancel (by omega))) (w_Rd_take (by omega) (okx_mono (okx_bd h) ?_))
    intro r4 s5 h
    show Xw _ _ _ _ 22 _ [] _ _
    refine xi_aload_n D_Rd_readLine_22 rfl ?_
    refine xj_iconst (v := 0) D_Rd_readLine_23 rfl ?_
    refine xj_iconst (v := 0) D_Rd_readLine_24 rfl ?_
    obtain ⟨g6, h⟩ := okx_ck h
    refine xj_V2 D_Rd_readLine_25 L_Rd_92 C_Rd_readJoined Z_Rd_readJoined (zl_fo (g6).1 rfl) (Nat.le_of_ble_eq_true rfl) (Nat.le_of_eq (Nat.sub_add_cancel (by omega))) (w_Rd_rj (by omega) (okx_mono (okx_bd h) ?_))
    intro r7 s8 h
    show Xw _ _ _ _ 28 _ [_] _ _
    refine xi_if_ne D_Rd_readLine_28 (fun c9 => ?_) (fun c9 => ?_)
    · have h := okx_F c9 h
      refine xi_aload_n D_Rd_readLine_33 rfl ?_
      obtain ⟨g10, h⟩ := okx_ck h
      refine xi_getI D_Rd_readLine_34 F_Rd_46 (zl_fo (g10).1 rfl) ⟨rfl, by decide⟩ ?_
      refine xi_bipush (v := 8) D_Rd_readLine_37 rfl ?_
      refine xi_icmp_eq D_Rd_readLine_39 (fun c11 => ?_) (fun c11 => ?_)
      · have h := okx_T c11 h
        refine xi_aload_n D_Rd_readLine_48 rfl ?_
        refine xj_V0 D_Rd_readLine_49 L_Rd_43 C_Rd_take Z_Rd_take (zl_fo (g10).1 rfl) (Nat.le_of_ble_eq_true rfl) (Nat.le_of_eq (Nat.sub_add_cancel (by omega))) (w_Rd_take (by omega) (okx_mono (okx_bd h) ?_))
        intro r12 s13 h
        show Xw _ _ _ _ 52 _ [] _ _
        refine xj_iconst (v := 0) D_Rd_readLine_52 rfl ?_
        refine xi_istore_n (ls' := [_, _, _, _]) D_Rd_readLine_53 rfl (by decide) ?_
        refine xj_iconst (v := 0) D_Rd_readLine_54 rfl ?_
        refine xi_istore_n (ls' := [_, _, _, _]) D_Rd_readLine_55 rfl (by decide) ?_
        exact w_Rd_readLine_h56 (by omega)  _ _ _ _ h
      · have h := okx_F c11 h
        refine xi_aload_n D_Rd_readLine_42 rfl ?_
        refine xj_iconst (v := 1) D_Rd_readLine_43 rfl ?_
        refine xj_V1 D_Rd_readLine_44 L_Rd_59 C_Rd_wrong Z_Rd_wrong (zl_fo (g10).1 rfl) (Nat.le_of_ble_eq_true rfl) (Nat.le_of_eq (Nat.sub_add_cancel (by omega))) (w_Rd_wrong (by omega) (okx_mono (okx_bd h) ?_))
        intro r14 s15 h
        show Xw _ _ _ _ 47 _ [_] _ _
        obtain ⟨g16, h⟩ := okx_ck h
        exact xi_ireturn D_Rd_readLine_47 rfl (g16) (okx_I h)
    · have h := okx_T c9 h
      refine xj_iconst (v := 0) D_Rd_readLine_31 rfl ?_
      exact xi_ireturn D_Rd_readLine_32 rfl (rfl) (okx_I h)
  · have h := okx_F c3 h
    refine xi_aload_n D_Rd_readLine_12 rfl ?_
    refine xj_iconst (v := 5) D_Rd_readLine_13 rfl ?_
    refine xj_V1 D_Rd_readLine_14 L_Rd_59 C_Rd_wrong Z_Rd_wrong (zl_fo (g1).1 rfl) (Nat.le_of_ble_eq_true rfl) (Nat.le_of_eq (Nat.sub_add_cancel (by omega))) (w_Rd_wrong (by omega) (okx_mono (okx_bd h) ?_))
    intro r17 s18 h
    show Xw _ _ _ _ 17 _ [_] _ _
    obtain ⟨g19, h⟩ := okx_ck h
    exact xi_ireturn D_Rd_readLine_17 rfl (g19) (okx_I h)
noncomputable def f_Rd_readPerson_b93  (s : Sg) : Option (Int32 × Sg) :=
  f_ck (zl_B s) <|
  f_bd (f_Rd_wrong 4 s) fun r37 s38 =>
  f_ck (narrow FieldType.boolean (.int r37) = .int r37) <|
  some (r37, s38)
theorem w_Rd_readPerson_b93 {s : Sg} {d : Nat} {Q : Option (Option Value) → Sg → Prop} (hd : 6 ≤ d) (h : okx (zq_I Q) (f_Rd_readPerson_b93  s)) : Xw d M_Rd_readPerson 0 0 93 [.ref 42, .retAddr 0] [] s Q := by
  unfold f_Rd_readPerson_b93 at h
  refine xi_aload_n D_Rd_readPerson_93 rfl ?_
  refine xj_iconst (v := 4) D_Rd_readPerson_94 rfl ?_
  obtain ⟨g36, h⟩ := okx_ck h
  refine xj_V1 D_Rd_readPerson_95 L_Rd_59 C_Rd_wrong Z_Rd_wrong (zl_fo (g36).1 rfl) (Nat.le_of_ble_eq_true rfl) (Nat.le_of_eq (Nat.sub_add_cancel (by omega))) (w_Rd_wrong (by omega) (okx_mono (okx_bd h) ?_))
  intro r37 s38 h
  show Xw _ _ _ _ 98 _ [_] _ _
  obtain ⟨g39, h⟩ := okx_ck h
  exact xi_ireturn D_Rd_readPerson_98 rfl (g39) (okx_I h)
noncomputable def f_Rd_readPerson_b145  (s : Sg) : Option (Int32 × Sg) :=
  f_ck (zl_B s) <|
  f_bd (f_Rd_wrong 1 s) fun r52 s53 =>
  f_ck (narrow FieldType.boolean (.int r52) = .int r52) <|
  some (r52, s53)
theorem w_Rd_readPerson_b145 {s : Sg} {d : Nat} {Q : Option (Option Value) → Sg → Prop} (hd : 6 ≤ d) (h : okx (zq_I Q) (f_Rd_readPerson_b145  s)) : Xw d M_Rd_readPerson 0 0 145 [.ref 42, .retAddr 0] [] s Q := by
  unfold f_Rd_readPerson_b145 at h
  refine xi_aload_n D_Rd_readPerson_145 rfl ?_
  refine xj_iconst (v := 1) D_Rd_readPerson_146 rfl ?_
  obtain ⟨g51, h⟩ := okx_ck h
  refine xj_V1 D_Rd_readPerson_147 L_Rd_59 C_Rd_wrong Z_Rd_wrong (zl_fo (g51).1 rfl) (Nat.le_of_ble_eq_true rfl) (Nat.le_of_eq (Nat.sub_add_cancel (by omega))) (w_Rd_wrong (by omega) (okx_mono (okx_bd h) ?_))
  intro r52 s53 h
  show Xw _ _ _ _ 150 _ [_] _ _
  obtain ⟨g54, h⟩ := okx_ck h
  exact xi_ireturn D_Rd_readPerson_150 rfl (g54) (okx_I h)
noncomputable def f_Rd_readPerson_b132 (x1 : Int32) (s : Sg) : Option (Int32 × Sg) :=
  if x1 = 0 then
    f_Rd_readPerson_b145   s
  else
    f_ck (zl_B s) <|
    if (mI s 42 4) = 59 then
      f_ck (mR s 42 10 = some 31) <|
      f_ck (mR s 42 10 = some 31) <|
      f_ck (vp_in (mI s 31 0) 4) <|
      let s46 : Sg := uI s 32 (Int32.toNatClampNeg (mI s 31 0)) x1
      f_ck (mR s46 42 10 = some 31) <|
      let s48 : Sg := uI s46 31 0 ((mI s46 31 0) + 1)
      f_bd (f_Rd_take  s48) fun r49 s50 =>
      some (1, s50)
    else
      f_Rd_readPerson_b145   s
theorem w_Rd_readPerson_b132 {x1 : Int32} {s : Sg} {d : Nat} {Q : Option (Option Value) → Sg → Prop} (hd : 6 ≤ d) (h : okx (zq_I Q) (f_Rd_readPerson_b132 x1 s)) : Xw d M_Rd_readPerson 0 0 132 [.ref 42, .int x1] [] s Q := by
  unfold f_Rd_readPerson_b132 at h
  refine xi_iload_n D_Rd_readPerson_132 rfl ?_
  refine xi_if_eq D_Rd_readPerson_133 (fun c40 => ?_) (fun c40 => ?_)
  · have h := okx_T c40 h
    exact xk_wk (w_Rd_readPerson_b145 (by omega)  h) ⟨Or.inl rfl, Or.inr rfl, trivial⟩
  · have h := okx_F c40 h
    refine xi_aload_n D_Rd_readPerson_136 rfl ?_
    obtain ⟨g41, h⟩ := okx_ck h
    refine xi_getI D_Rd_readPerson_137 F_Rd_46 (zl_fo (g41).1 rfl) ⟨rfl, by decide⟩ ?_
    refine xi_bipush (v := 59) D_Rd_readPerson_140 rfl ?_
    refine xi_icmp_eq D_Rd_readPerson_142 (fun c42 => ?_) (fun c42 => ?_)
    · have h := okx_T c42 h
      refine xi_aload_n D_Rd_readPerson_151 rfl ?_
      obtain ⟨g43, h⟩ := okx_ck h
      refine xi_getR D_Rd_readPerson_152 F_Rd_25 (zl_fo (g41).1 rfl) ⟨rfl, by decide⟩ (g43) ?_
      refine xi_getR D_Rd_readPerson_155 F_Rd_83 (zl_fo (g41).1 rfl) ⟨rfl, by decide⟩ (zl_gr (g41).2 rfl rfl) ?_
      refine xi_aload_n D_Rd_readPerson_158 rfl ?_
      obtain ⟨g44, h⟩ := okx_ck h
      refine xi_getR D_Rd_readPerson_159 F_Rd_25 (zl_fo (g41).1 rfl) ⟨rfl, by decide⟩ (g44) ?_
      refine xi_getI D_Rd_readPerson_162 F_Rd_66 (zl_fo (g41).1 rfl) ⟨rfl, by decide⟩ ?_
      refine xi_iload_n D_Rd_readPerson_165 rfl ?_
      obtain ⟨g45, h⟩ := okx_ck h
      refine xj_iast D_Rd_readPerson_166 (zl_fx (g41).1 rfl) (zl_ib (n := 4) rfl (g45)) ?_
      refine xi_aload_n D_Rd_readPerson_167 rfl ?_
      obtain ⟨g47, h⟩ := okx_ck h
      refine xi_getR D_Rd_readPerson_168 F_Rd_25 (zl_fo (g41).1 rfl) ⟨rfl, by decide⟩ (g47) ?_
      refine xi_dupr D_Rd_readPerson_171 ?_
      refine xi_getI D_Rd_readPerson_172 F_Rd_66 (zl_fo (g41).1 rfl) ⟨rfl, by decide⟩ ?_
      refine xj_iconst (v := 1) D_Rd_readPerson_175 rfl ?_
      refine xi_iadd D_Rd_readPerson_176 ?_
      refine xi_putI D_Rd_readPerson_177 F_Rd_66 (zl_fo (g41).1 rfl) ⟨rfl, by decide, rfl⟩ (⟨rfl, rfl⟩) ?_
      refine xi_aload_n D_Rd_readPerson_180 rfl ?_
      refine xj_V0 D_Rd_readPerson_181 L_Rd_43 C_Rd_take Z_Rd_take (zl_fo (g41).1 rfl) (Nat.le_of_ble_eq_true rfl) (Nat.le_of_eq (Nat.sub_add_cancel (by omega))) (w_Rd_take (by omega) (okx_mono (okx_bd h) ?_))
      intro r49 s50 h
      show Xw _ _ _ _ 184 _ [] _ _
      refine xj_iconst (v := 1) D_Rd_readPerson_184 rfl ?_
      exact xi_ireturn D_Rd_readPerson_185 rfl (rfl) (okx_I h)
    · have h := okx_F c42 h
      exact xk_wk (w_Rd_readPerson_b145 (by omega)  h) ⟨Or.inl rfl, Or.inr rfl, trivial⟩
noncomputable def f_Rd_readPerson_b70 (R70 : Int32 → Sg → Option (Int32 × Sg)) (x1 : Int32) (s : Sg) : Option (Int32 × Sg) :=
  if 3 ≤ x1 then
    f_Rd_readPerson_b132  x1 s
  else
    f_ck (zl_B s) <|
    if (mI s 42 4) = 3 then
      if (mI s 42 6) ≤ 999 then
        f_ck (mR s 42 10 = some 31) <|
        f_ck (mR s 42 10 = some 31) <|
        f_ck (vp_in (((mI s 31 0) * 4) + (x1 + 1)) 16) <|
        let s33 : Sg := uI s 33 (Int32.toNatClampNeg (((mI s 31 0) * 4) + (x1 + 1))) (mI s 42 6)
        f_bd (f_Rd_take  s33) fun r34 s35 =>
        R70 (x1 + 1) s35
      else
        f_Rd_readPerson_b93   s
    else
      f_Rd_readPerson_b132  x1 s
theorem w_Rd_readPerson_b70 {x1 : Int32} {s : Sg} {d : Nat} {Q : Option (Option Value) → Sg → Prop} (hd : 6 ≤ d) {R70 : Int32 → Sg → Option (Int32 × Sg)} (hR70 : ∀ (x1 : Int32) (s : Sg), okx (zq_I Q) (R70 x1 s) → Xw d M_Rd_readPerson 0 0 70 [.ref 42, .int x1] [] s Q) (h : okx (zq_I Q) (f_Rd_readPerson_b70 R70 x1 s)) : Xw d M_Rd_readPerson 0 0 70 [.ref 42, .int x1] [] s Q := by
  unfold f_Rd_readPerson_b70 at h
  refine xi_iload_n D_Rd_readPerson_70 rfl ?_
  refine xj_iconst (v := 3) D_Rd_readPerson_71 rfl ?_
  refine xi_icmp_ge D_Rd_readPerson_72 (fun c26 => ?_) (fun c26 => ?_)
  · have h := okx_T c26 h
    exact w_Rd_readPerson_b132 (by omega)  h
  · have h := okx_F c26 h
    refine xi_aload_n D_Rd_readPerson_75 rfl ?_
    obtain ⟨g27, h⟩ := okx_ck h
    refine xi_getI D_Rd_readPerson_76 F_Rd_46 (zl_fo (g27).1 rfl) ⟨rfl, by decide⟩ ?_
    refine xj_iconst (v := 3) D_Rd_readPerson_79 rfl ?_
    refine xi_icmp_ne D_Rd_readPerson_80 (fun c28 => ?_) (fun c28 => ?_)
    · have h := okx_F c28 h
      exact w_Rd_readPerson_b132 (by omega)  h
    · have h := okx_T c28 h
      refine xi_aload_n D_Rd_readPerson_83 rfl ?_
      refine xi_getI D_Rd_readPerson_84 F_Rd_76 (zl_fo (g27).1 rfl) ⟨rfl, by decide⟩ ?_
      refine xi_sipush (v := 999) D_Rd_readPerson_87 rfl ?_
      refine xi_icmp_le D_Rd_readPerson_90 (fun c29 => ?_) (fun c29 => ?_)
      · have h := okx_T c29 h
        refine xi_iinc (v := _ + 1) (ls' := [_, _]) D_Rd_readPerson_99 rfl rfl rfl (by decide) ?_
        refine xi_aload_n D_Rd_readPerson_102 rfl ?_
        obtain ⟨g30, h⟩ := okx_ck h
        refine xi_getR D_Rd_readPerson_103 F_Rd_25 (zl_fo (g27).1 rfl) ⟨rfl, by decide⟩ (g30) ?_
        refine xi_getR D_Rd_readPerson_106 F_Rd_79 (zl_fo (g27).1 rfl) ⟨rfl, by decide⟩ (zl_gr (g27).2 rfl rfl) ?_
        refine xi_aload_n D_Rd_readPerson_109 rfl ?_
        obtain ⟨g31, h⟩ := okx_ck h
        refine xi_getR D_Rd_readPerson_110 F_Rd_25 (zl_fo (g27).1 rfl) ⟨rfl, by decide⟩ (g31) ?_
        refine xi_getI D_Rd_readPerson_113 F_Rd_66 (zl_fo (g27).1 rfl) ⟨rfl, by decide⟩ ?_
        refine xj_iconst (v := 4) D_Rd_readPerson_116 rfl ?_
        refine xi_imul D_Rd_readPerson_117 ?_
        refine xi_iload_n D_Rd_readPerson_118 rfl ?_
        refine xi_iadd D_Rd_readPerson_119 ?_
        refine xi_aload_n D_Rd_readPerson_120 rfl ?_
        refine xi_getI D_Rd_readPerson_121 F_Rd_76 (zl_fo (g27).1 rfl) ⟨rfl, by decide⟩ ?_
        obtain ⟨g32, h⟩ := okx_ck h
        refine xj_iast D_Rd_readPerson_124 (zl_fx (g27).1 rfl) (zl_ib (n := 16) rfl (g32)) ?_
        refine xi_aload_n D_Rd_readPerson_125 rfl ?_
        refine xj_V0 D_Rd_readPerson_126 L_Rd_43 C_Rd_take Z_Rd_take (zl_fo (g27).1 rfl) (Nat.le_of_ble_eq_true rfl) (Nat.le_of_eq (Nat.sub_add_cancel (by omega))) (w_Rd_take (by omega) (okx_mono (okx_bd h) ?_))
        intro r34 s35 h
        show Xw _ _ _ _ 129 _ [] _ _
        refine xi_goto D_Rd_readPerson_129 ?_
        exact hR70 _ _ h
      · have h := okx_F c29 h
        exact xk_wk (w_Rd_readPerson_b93 (by omega)  h) ⟨Or.inl rfl, Or.inr rfl, trivial⟩
noncomputable def f_Rd_readPerson_h70 : Nat → Int32 → Sg → Option (Int32 × Sg)
  | 0, _, _ => none
  | n + 1, x1, s => f_Rd_readPerson_b70 (f_Rd_readPerson_h70 n) x1 s
theorem w_Rd_readPerson_h70 {d : Nat} {Q : Option (Option Value) → Sg → Prop} (hd : 6 ≤ d) : ∀ (n : Nat) (x1 : Int32) (s : Sg), okx (zq_I Q) (f_Rd_readPerson_h70 n x1 s) → Xw d M_Rd_readPerson 0 0 70 [.ref 42, .int x1] [] s Q := by
  intro n
  induction n with
  | zero => intro x1 s h; exact okx_no h
  | succ n ih => intro x1 s h; exact w_Rd_readPerson_b70 hd  ih  h
noncomputable def f_Rd_readPerson  (s : Sg) : Option (Int32 × Sg) :=
  f_ck (zl_B s) <|
  f_ck (mR s 42 10 = some 31) <|
  if (mI s 31 0) < 4 then
    f_bd (f_Rd_take  s) fun r4 s5 =>
    f_ck (zl_B s5) <|
    f_bd (f_Rd_isNewName  s5) fun r7 s8 =>
    if r7 = 0 then
      some (0, s8)
    else
      f_ck (zl_B s8) <|
      f_ck (mR s8 42 10 = some 31) <|
      f_ck (vp_in (mI s8 31 0) 7) <|
      let s13 : Sg := uL s8 44 (Int32.toNatClampNeg (mI s8 31 0)) (mL s8 42 7)
      f_bd (f_Rd_take  s13) fun r14 s15 =>
      f_ck (zl_B s15) <|
      if (mI s15 42 4) = 5 then
        f_bd (f_Rd_take  s15) fun r18 s19 =>
        f_Rd_readPerson_h70  zl_fl 0 s19
      else
        f_bd (f_Rd_wrong 1 s15) fun r20 s21 =>
        f_ck (narrow FieldType.boolean (.int r20) = .int r20) <|
        some (r20, s21)
  else
    f_bd (f_Rd_wrong 5 s) fun r23 s24 =>
    f_ck (narrow FieldType.boolean (.int r23) = .int r23) <|
    some (r23, s24)
theorem w_Rd_readPerson {s : Sg} {d : Nat} {Q : Option (Option Value) → Sg → Prop} (hd : 6 ≤ d) (h : okx (zq_I Q) (f_Rd_readPerson  s)) : Cw d M_Rd_readPerson [.ref 42] s Q := by
  refine Cw.of (by decide +kernel) (Nat.le_of_ble_eq_true rfl) ?_
  show Xw d M_Rd_readPerson 0 0 0 [.ref 42, .retAddr 0] [] s _
  unfold f_Rd_readPerson at h
  refine xi_aload_n D_Rd_readPerson_0 rfl ?_
  obtain ⟨g1, h⟩ := okx_ck h
  obtain ⟨g2, h⟩ := okx_ck h
  refine xi_getR D_Rd_readPerson_1 F_Rd_25 (zl_fo (g1).1 rfl) ⟨rfl, by decide⟩ (g2) ?_
  refine xi_getI D_Rd_readPerson_4 F_Rd_66 (zl_fo (g1).1 rfl) ⟨rfl, by decide⟩ ?_
  refine xj_iconst (v := 4) D_Rd_readPerson_7 rfl ?_
  refine xi_icmp_lt D_Rd_readPerson_8 (fun c3 => ?_) (fun c3 => ?_)
  · have h := okx_T c3 h
    refine xi_aload_n D_Rd_readPerson_17 rfl ?_
    refine xj_V0 D_Rd_readPerson_18 L_Rd_43 C_Rd_take Z_Rd_take (zl_fo (g1).1 rfl) (Nat.le_of_ble_eq_true rfl) (Nat.le_of_eq (Nat.sub_add_cancel (by omega))) (w_Rd_take (by omega) (okx_mono (okx_bd h) ?_))
    intro r4 s5 h
    show Xw _ _ _ _ 21 _ [] _ _
    refine xi_aload_n D_Rd_readPerson_21 rfl ?_
    obtain ⟨g6, h⟩ := okx_ck h
    refine xj_V0 D_Rd_readPerson_22 L_Rd_69 C_Rd_isNewName Z_Rd_isNewName (zl_fo (g6).1 rfl) (Nat.le_of_ble_eq_true rfl) (Nat.le_of_eq (Nat.sub_add_cancel (by omega))) (w_Rd_isNewName (by omega) (okx_mono (okx_bd h) ?_))
    intro r7 s8 h
    show Xw _ _ _ _ 25 _ [_] _ _
    refine xi_if_ne D_Rd_readPerson_25 (fun c9 => ?_) (fun c9 => ?_)
    · have h := okx_F c9 h
      refine xi_aload_n D_Rd_readPerson_30 rfl ?_
      obtain ⟨g10, h⟩ := okx_ck h
      refine xi_getR D_Rd_readPerson_31 F_Rd_15 (zl_fo (g10).1 rfl) ⟨rfl, by decide⟩ (zl_gr (g10).2 rfl rfl) ?_
      refine xi_aload_n D_Rd_readPerson_34 rfl ?_
      obtain ⟨g11, h⟩ := okx_ck h
      refine xi_getR D_Rd_readPerson_35 F_Rd_25 (zl_fo (g10).1 rfl) ⟨rfl, by decide⟩ (g11) ?_
      refine xi_getI D_Rd_readPerson_38 F_Rd_66 (zl_fo (g10).1 rfl) ⟨rfl, by decide⟩ ?_
      refine xi_aload_n D_Rd_readPerson_41 rfl ?_
      refine xi_getL D_Rd_readPerson_42 F_Rd_72 (zl_fo (g10).1 rfl) ⟨rfl, by decide⟩ ?_
      obtain ⟨g12, h⟩ := okx_ck h
      refine xj_last D_Rd_readPerson_45 (zl_fx (g10).1 rfl) (zl_ib (n := 7) rfl (g12)) ?_
      refine xi_aload_n D_Rd_readPerson_46 rfl ?_
      refine xj_V0 D_Rd_readPerson_47 L_Rd_43 C_Rd_take Z_Rd_take (zl_fo (g10).1 rfl) (Nat.le_of_ble_eq_true rfl) (Nat.le_of_eq (Nat.sub_add_cancel (by omega))) (w_Rd_take (by omega) (okx_mono (okx_bd h) ?_))
      intro r14 s15 h
      show Xw _ _ _ _ 50 _ [] _ _
      refine xi_aload_n D_Rd_readPerson_50 rfl ?_
      obtain ⟨g16, h⟩ := okx_ck h
      refine xi_getI D_Rd_readPerson_51 F_Rd_46 (zl_fo (g16).1 rfl) ⟨rfl, by decide⟩ ?_
      refine xj_iconst (v := 5) D_Rd_readPerson_54 rfl ?_
      refine xi_icmp_eq D_Rd_readPerson_55 (fun c17 => ?_) (fun c17 => ?_)
      · have h := okx_T c17 h
        refine xi_aload_n D_Rd_readPerson_64 rfl ?_
        refine xj_V0 D_Rd_readPerson_65 L_Rd_43 C_Rd_take Z_Rd_take (zl_fo (g16).1 rfl) (Nat.le_of_ble_eq_true rfl) (Nat.le_of_eq (Nat.sub_add_cancel (by omega))) (w_Rd_take (by omega) (okx_mono (okx_bd h) ?_))
        intro r18 s19 h
        show Xw _ _ _ _ 68 _ [] _ _
        refine xj_iconst (v := 0) D_Rd_readPerson_68 rfl ?_
        refine xi_istore_n (ls' := [_, _]) D_Rd_readPerson_69 rfl (by decide) ?_
        exact w_Rd_readPerson_h70 (by omega)  _ _ _ h
      · have h := okx_F c17 h
        refine xi_aload_n D_Rd_readPerson_58 rfl ?_
        refine xj_iconst (v := 1) D_Rd_readPerson_59 rfl ?_
        refine xj_V1 D_Rd_readPerson_60 L_Rd_59 C_Rd_wrong Z_Rd_wrong (zl_fo (g16).1 rfl) (Nat.le_of_ble_eq_true rfl) (Nat.le_of_eq (Nat.sub_add_cancel (by omega))) (w_Rd_wrong (by omega) (okx_mono (okx_bd h) ?_))
        intro r20 s21 h
        show Xw _ _ _ _ 63 _ [_] _ _
        obtain ⟨g22, h⟩ := okx_ck h
        exact xi_ireturn D_Rd_readPerson_63 rfl (g22) (okx_I h)
    · have h := okx_T c9 h
      refine xj_iconst (v := 0) D_Rd_readPerson_28 rfl ?_
      exact xi_ireturn D_Rd_readPerson_29 rfl (rfl) (okx_I h)
  · have h := okx_F c3 h
    refine xi_aload_n D_Rd_readPerson_11 rfl ?_
    refine xj_iconst (v := 5) D_Rd_readPerson_12 rfl ?_
    refine xj_V1 D_Rd_readPerson_13 L_Rd_59 C_Rd_wrong Z_Rd_wrong (zl_fo (g1).1 rfl) (Nat.le_of_ble_eq_true rfl) (Nat.le_of_eq (Nat.sub_add_cancel (by omega))) (w_Rd_wrong (by omega) (okx_mono (okx_bd h) ?_))
    intro r23 s24 h
    show Xw _ _ _ _ 16 _ [_] _ _
    obtain ⟨g25, h⟩ := okx_ck h
    exact xi_ireturn D_Rd_readPerson_16 rfl (g25) (okx_I h)
noncomputable def f_Rd_readThing  (s : Sg) : Option (Int32 × Sg) :=
  f_ck (zl_B s) <|
  f_ck (mR s 42 10 = some 31) <|
  if (mI s 31 1) < 3 then
    f_bd (f_Rd_take  s) fun r4 s5 =>
    f_ck (zl_B s5) <|
    f_bd (f_Rd_isNewName  s5) fun r7 s8 =>
    if r7 = 0 then
      some (0, s8)
    else
      f_ck (zl_B s8) <|
      f_ck (mR s8 42 10 = some 31) <|
      f_ck (vp_in (4 + (mI s8 31 1)) 7) <|
      let s13 : Sg := uL s8 44 (Int32.toNatClampNeg (4 + (mI s8 31 1))) (mL s8 42 7)
      f_bd (f_Rd_take  s13) fun r14 s15 =>
      f_ck (zl_B s15) <|
      if (mI s15 42 4) = 59 then
        f_ck (mR s15 42 10 = some 31) <|
        let s19 : Sg := uI s15 31 1 ((mI s15 31 1) + 1)
        f_bd (f_Rd_take  s19) fun r20 s21 =>
        some (1, s21)
      else
        f_bd (f_Rd_wrong 1 s15) fun r22 s23 =>
        f_ck (narrow FieldType.boolean (.int r22) = .int r22) <|
        some (r22, s23)
  else
    f_bd (f_Rd_wrong 5 s) fun r25 s26 =>
    f_ck (narrow FieldType.boolean (.int r25) = .int r25) <|
    some (r25, s26)
theorem w_Rd_readThing {s : Sg} {d : Nat} {Q : Option (Option Value) → Sg → Prop} (hd : 6 ≤ d) (h : okx (zq_I Q) (f_Rd_readThing  s)) : Cw d M_Rd_readThing [.ref 42] s Q := by
  refine Cw.of (by decide +kernel) (Nat.le_of_ble_eq_true rfl) ?_
  show Xw d M_Rd_readThing 0 0 0 [.ref 42] [] s _
  unfold f_Rd_readThing at h
  refine xi_aload_n D_Rd_readThing_0 rfl ?_
  obtain ⟨g1, h⟩ := okx_ck h
  obtain ⟨g2, h⟩ := okx_ck h
  refine xi_getR D_Rd_readThing_1 F_Rd_25 (zl_fo (g1).1 rfl) ⟨rfl, by decide⟩ (g2) ?_
  refine xi_getI D_Rd_readThing_4 F_Rd_86 (zl_fo (g1).1 rfl) ⟨rfl, by decide⟩ ?_
  refine xj_iconst (v := 3) D_Rd_readThing_7 rfl ?_
  refine xi_icmp_lt D_Rd_readThing_8 (fun c3 => ?_) (fun c3 => ?_)
  · have h := okx_T c3 h
    refine xi_aload_n D_Rd_readThing_17 rfl ?_
    refine xj_V0 D_Rd_readThing_18 L_Rd_43 C_Rd_take Z_Rd_take (zl_fo (g1).1 rfl) (Nat.le_of_ble_eq_true rfl) (Nat.le_of_eq (Nat.sub_add_cancel (by omega))) (w_Rd_take (by omega) (okx_mono (okx_bd h) ?_))
    intro r4 s5 h
    show Xw _ _ _ _ 21 _ [] _ _
    refine xi_aload_n D_Rd_readThing_21 rfl ?_
    obtain ⟨g6, h⟩ := okx_ck h
    refine xj_V0 D_Rd_readThing_22 L_Rd_69 C_Rd_isNewName Z_Rd_isNewName (zl_fo (g6).1 rfl) (Nat.le_of_ble_eq_true rfl) (Nat.le_of_eq (Nat.sub_add_cancel (by omega))) (w_Rd_isNewName (by omega) (okx_mono (okx_bd h) ?_))
    intro r7 s8 h
    show Xw _ _ _ _ 25 _ [_] _ _
    refine xi_if_ne D_Rd_readThing_25 (fun c9 => ?_) (fun c9 => ?_)
    · have h := okx_F c9 h
      refine xi_aload_n D_Rd_readThing_30 rfl ?_
      obtain ⟨g10, h⟩ := okx_ck h
      refine xi_getR D_Rd_readThing_31 F_Rd_15 (zl_fo (g10).1 rfl) ⟨rfl, by decide⟩ (zl_gr (g10).2 rfl rfl) ?_
      refine xj_iconst (v := 4) D_Rd_readThing_34 rfl ?_
      refine xi_aload_n D_Rd_readThing_35 rfl ?_
      obtain ⟨g11, h⟩ := okx_ck h
      refine xi_getR D_Rd_readThing_36 F_Rd_25 (zl_fo (g10).1 rfl) ⟨rfl, by decide⟩ (g11) ?_
      refine xi_getI D_Rd_readThing_39 F_Rd_86 (zl_fo (g10).1 rfl) ⟨rfl, by decide⟩ ?_
      refine xi_iadd D_Rd_readThing_42 ?_
      refine xi_aload_n D_Rd_readThing_43 rfl ?_
      refine xi_getL D_Rd_readThing_44 F_Rd_72 (zl_fo (g10).1 rfl) ⟨rfl, by decide⟩ ?_
      obtain ⟨g12, h⟩ := okx_ck h
      refine xj_last D_Rd_readThing_47 (zl_fx (g10).1 rfl) (zl_ib (n := 7) rfl (g12)) ?_
      refine xi_aload_n D_Rd_readThing_48 rfl ?_
      refine xj_V0 D_Rd_readThing_49 L_Rd_43 C_Rd_take Z_Rd_take (zl_fo (g10).1 rfl) (Nat.le_of_ble_eq_true rfl) (Nat.le_of_eq (Nat.sub_add_cancel (by omega))) (w_Rd_take (by omega) (okx_mono (okx_bd h) ?_))
      intro r14 s15 h
      show Xw _ _ _ _ 52 _ [] _ _
      refine xi_aload_n D_Rd_readThing_52 rfl ?_
      obtain ⟨g16, h⟩ := okx_ck h
      refine xi_getI D_Rd_readThing_53 F_Rd_46 (zl_fo (g16).1 rfl) ⟨rfl, by decide⟩ ?_
      refine xi_bipush (v := 59) D_Rd_readThing_56 rfl ?_
      refine xi_icmp_eq D_Rd_readThing_58 (fun c17 => ?_) (fun c17 => ?_)
      · have h := okx_T c17 h
        refine xi_aload_n D_Rd_readThing_67 rfl ?_
        obtain ⟨g18, h⟩ := okx_ck h
        refine xi_getR D_Rd_readThing_68 F_Rd_25 (zl_fo (g16).1 rfl) ⟨rfl, by decide⟩ (g18) ?_
        refine xi_dupr D_Rd_readThing_71 ?_
        refine xi_getI D_Rd_readThing_72 F_Rd_86 (zl_fo (g16).1 rfl) ⟨rfl, by decide⟩ ?_
        refine xj_iconst (v := 1) D_Rd_readThing_75 rfl ?_
        refine xi_iadd D_Rd_readThing_76 ?_
        refine xi_putI D_Rd_readThing_77 F_Rd_86 (zl_fo (g16).1 rfl) ⟨rfl, by decide, rfl⟩ (⟨rfl, rfl⟩) ?_
        refine xi_aload_n D_Rd_readThing_80 rfl ?_
        refine xj_V0 D_Rd_readThing_81 L_Rd_43 C_Rd_take Z_Rd_take (zl_fo (g16).1 rfl) (Nat.le_of_ble_eq_true rfl) (Nat.le_of_eq (Nat.sub_add_cancel (by omega))) (w_Rd_take (by omega) (okx_mono (okx_bd h) ?_))
        intro r20 s21 h
        show Xw _ _ _ _ 84 _ [] _ _
        refine xj_iconst (v := 1) D_Rd_readThing_84 rfl ?_
        exact xi_ireturn D_Rd_readThing_85 rfl (rfl) (okx_I h)
      · have h := okx_F c17 h
        refine xi_aload_n D_Rd_readThing_61 rfl ?_
        refine xj_iconst (v := 1) D_Rd_readThing_62 rfl ?_
        refine xj_V1 D_Rd_readThing_63 L_Rd_59 C_Rd_wrong Z_Rd_wrong (zl_fo (g16).1 rfl) (Nat.le_of_ble_eq_true rfl) (Nat.le_of_eq (Nat.sub_add_cancel (by omega))) (w_Rd_wrong (by omega) (okx_mono (okx_bd h) ?_))
        intro r22 s23 h
        show Xw _ _ _ _ 66 _ [_] _ _
        obtain ⟨g24, h⟩ := okx_ck h
        exact xi_ireturn D_Rd_readThing_66 rfl (g24) (okx_I h)
    · have h := okx_T c9 h
      refine xj_iconst (v := 0) D_Rd_readThing_28 rfl ?_
      exact xi_ireturn D_Rd_readThing_29 rfl (rfl) (okx_I h)
  · have h := okx_F c3 h
    refine xi_aload_n D_Rd_readThing_11 rfl ?_
    refine xj_iconst (v := 5) D_Rd_readThing_12 rfl ?_
    refine xj_V1 D_Rd_readThing_13 L_Rd_59 C_Rd_wrong Z_Rd_wrong (zl_fo (g1).1 rfl) (Nat.le_of_ble_eq_true rfl) (Nat.le_of_eq (Nat.sub_add_cancel (by omega))) (w_Rd_wrong (by omega) (okx_mono (okx_bd h) ?_))
    intro r25 s26 h
    show Xw _ _ _ _ 16 _ [_] _ _
    obtain ⟨g27, h⟩ := okx_ck h
    exact xi_ireturn D_Rd_readThing_16 rfl (g27) (okx_I h)
noncomputable def f_Rd_read_b109 (R35 : Int32 → Int32 → Sg → Option (Int32 × Sg)) (x2 : Int32) (x3 : Int32) (s : Sg) : Option (Int32 × Sg) :=
  R35 x2 (x3 + 1) s
theorem w_Rd_read_b109 {x2 : Int32} {x3 : Int32} {s : Sg} {d : Nat} {Q : Option (Option Value) → Sg → Prop} (hd : 62 ≤ d) {R35 : Int32 → Int32 → Sg → Option (Int32 × Sg)} (hR35 : ∀ (x2 : Int32) (x3 : Int32) (s : Sg), okx (zq_I Q) (R35 x2 x3 s) → Xw d M_Rd_read 0 0 35 [.ref 42, .retAddr 0, .int x2, .int x3] [] s Q) (h : okx (zq_I Q) (f_Rd_read_b109 R35 x2 x3 s)) : Xw d M_Rd_read 0 0 109 [.ref 42, .retAddr 0, .int x2, .int x3] [] s Q := by
  unfold f_Rd_read_b109 at h
  refine xi_iinc (v := _ + 1) (ls' := [_, _, _, _]) D_Rd_read_109 rfl rfl rfl (by decide) ?_
  refine xi_goto D_Rd_read_112 ?_
  exact hR35 _ _ _ h
noncomputable def f_Rd_read_b115  (s : Sg) : Option (Int32 × Sg) :=
  f_ck (zl_B s) <|
  let s29 : Sg := uI s 42 2 0
  some ((mI s29 42 8), s29)
theorem w_Rd_read_b115 {s : Sg} {d : Nat} {Q : Option (Option Value) → Sg → Prop} (hd : 62 ≤ d) (h : okx (zq_I Q) (f_Rd_read_b115  s)) : Xw d M_Rd_read 0 0 115 [.ref 42, .retAddr 0, .retAddr 0, .retAddr 0] [] s Q := by
  unfold f_Rd_read_b115 at h
  refine xi_aload_n D_Rd_read_115 rfl ?_
  refine xj_iconst (v := 0) D_Rd_read_116 rfl ?_
  obtain ⟨g28, h⟩ := okx_ck h
  refine xi_putI D_Rd_read_117 F_Rd_21 (zl_fo (g28).1 rfl) ⟨rfl, by decide, rfl⟩ (⟨rfl, rfl⟩) ?_
  refine xi_aload_n D_Rd_read_120 rfl ?_
  refine xi_getI D_Rd_read_121 F_Rd_40 (zl_fo (g28).1 rfl) ⟨rfl, by decide⟩ ?_
  exact xi_ireturn D_Rd_read_124 rfl (rfl) (okx_I h)
noncomputable def f_Rd_read_b35 (R35 : Int32 → Int32 → Sg → Option (Int32 × Sg)) (x2 : Int32) (x3 : Int32) (s : Sg) : Option (Int32 × Sg) :=
  if 1000 < x3 then
    f_Rd_read_b115   s
  else
    if x2 = 0 then
      f_Rd_read_b115   s
    else
      f_ck (zl_B s) <|
      if (mI s 42 4) = 0 then
        f_Rd_read_b115   s
      else
        if (mI s 42 4) = 4 then
          f_bd (f_Rd_readPerson  s) fun r18 s19 =>
          f_Rd_read_b109 R35 r18 x3 s19
        else
          if (mI s 42 4) = 6 then
            f_bd (f_Rd_readThing  s) fun r21 s22 =>
            f_Rd_read_b109 R35 r21 x3 s22
          else
            if (mI s 42 4) = 7 then
              f_bd (f_Rd_readLine  s) fun r24 s25 =>
              f_Rd_read_b109 R35 r24 x3 s25
            else
              f_bd (f_Rd_wrong 1 s) fun r26 s27 =>
              f_Rd_read_b109 R35 r26 x3 s27
theorem w_Rd_read_b35 {x2 : Int32} {x3 : Int32} {s : Sg} {d : Nat} {Q : Option (Option Value) → Sg → Prop} (hd : 62 ≤ d) {R35 : Int32 → Int32 → Sg → Option (Int32 × Sg)} (hR35 : ∀ (x2 : Int32) (x3 : Int32) (s : Sg), okx (zq_I Q) (R35 x2 x3 s) → Xw d M_Rd_read 0 0 35 [.ref 42, .retAddr 0, .int x2, .int x3] [] s Q) (h : okx (zq_I Q) (f_Rd_read_b35 R35 x2 x3 s)) : Xw d M_Rd_read 0 0 35 [.ref 42, .retAddr 0, .int x2, .int x3] [] s Q := by
  unfold f_Rd_read_b35 at h
  refine xi_iload_n D_Rd_read_35 rfl ?_
  refine xi_sipush (v := 1000) D_Rd_read_36 rfl ?_
  refine xi_icmp_gt D_Rd_read_39 (fun c13 => ?_) (fun c13 => ?_)
  · have h := okx_T c13 h
    exact xk_wk (w_Rd_read_b115 (by omega)  h) ⟨Or.inl rfl, Or.inl rfl, Or.inr rfl, Or.inr rfl, trivial⟩
  · have h := okx_F c13 h
    refine xi_iload_n D_Rd_read_42 rfl ?_
    refine xi_if_eq D_Rd_read_43 (fun c14 => ?_) (fun c14 => ?_)
    · have h := okx_T c14 h
      exact xk_wk (w_Rd_read_b115 (by omega)  h) ⟨Or.inl rfl, Or.inl rfl, Or.inr rfl, Or.inr rfl, trivial⟩
    · have h := okx_F c14 h
      refine xi_aload_n D_Rd_read_46 rfl ?_
      obtain ⟨g15, h⟩ := okx_ck h
      refine xi_getI D_Rd_read_47 F_Rd_46 (zl_fo (g15).1 rfl) ⟨rfl, by decide⟩ ?_
      refine xi_if_eq D_Rd_read_50 (fun c16 => ?_) (fun c16 => ?_)
      · have h := okx_T c16 h
        exact xk_wk (w_Rd_read_b115 (by omega)  h) ⟨Or.inl rfl, Or.inl rfl, Or.inr rfl, Or.inr rfl, trivial⟩
      · have h := okx_F c16 h
        refine xi_aload_n D_Rd_read_53 rfl ?_
        refine xi_getI D_Rd_read_54 F_Rd_46 (zl_fo (g15).1 rfl) ⟨rfl, by decide⟩ ?_
        refine xj_iconst (v := 4) D_Rd_read_57 rfl ?_
        refine xi_icmp_ne D_Rd_read_58 (fun c17 => ?_) (fun c17 => ?_)
        · have h := okx_F c17 h
          refine xi_aload_n D_Rd_read_69 rfl ?_
          refine xi_getI D_Rd_read_70 F_Rd_46 (zl_fo (g15).1 rfl) ⟨rfl, by decide⟩ ?_
          refine xi_bipush (v := 6) D_Rd_read_73 rfl ?_
          refine xi_icmp_ne D_Rd_read_75 (fun c20 => ?_) (fun c20 => ?_)
          · have h := okx_F c20 h
            refine xi_aload_n D_Rd_read_86 rfl ?_
            refine xi_getI D_Rd_read_87 F_Rd_46 (zl_fo (g15).1 rfl) ⟨rfl, by decide⟩ ?_
            refine xi_bipush (v := 7) D_Rd_read_90 rfl ?_
            refine xi_icmp_ne D_Rd_read_92 (fun c23 => ?_) (fun c23 => ?_)
            · have h := okx_F c23 h
              refine xi_aload_n D_Rd_read_103 rfl ?_
              refine xj_iconst (v := 1) D_Rd_read_104 rfl ?_
              refine xj_V1 D_Rd_read_105 L_Rd_59 C_Rd_wrong Z_Rd_wrong (zl_fo (g15).1 rfl) (Nat.le_of_ble_eq_true rfl) (Nat.le_of_eq (Nat.sub_add_cancel (by omega))) (w_Rd_wrong (by omega) (okx_mono (okx_bd h) ?_))
              intro r26 s27 h
              show Xw _ _ _ _ 108 _ [_] _ _
              refine xi_istore_n (ls' := [_, _, _, _]) D_Rd_read_108 rfl (by decide) ?_
              exact w_Rd_read_b109 (by omega) hR35 h
            · have h := okx_T c23 h
              refine xi_aload_n D_Rd_read_95 rfl ?_
              refine xj_V0 D_Rd_read_96 L_Rd_56 C_Rd_readLine Z_Rd_readLine (zl_fo (g15).1 rfl) (Nat.le_of_ble_eq_true rfl) (Nat.le_of_eq (Nat.sub_add_cancel (by omega))) (w_Rd_readLine (by omega) (okx_mono (okx_bd h) ?_))
              intro r24 s25 h
              show Xw _ _ _ _ 99 _ [_] _ _
              refine xi_istore_n (ls' := [_, _, _, _]) D_Rd_read_99 rfl (by decide) ?_
              refine xi_goto D_Rd_read_100 ?_
              exact w_Rd_read_b109 (by omega) hR35 h
          · have h := okx_T c20 h
            refine xi_aload_n D_Rd_read_78 rfl ?_
            refine xj_V0 D_Rd_read_79 L_Rd_53 C_Rd_readThing Z_Rd_readThing (zl_fo (g15).1 rfl) (Nat.le_of_ble_eq_true rfl) (Nat.le_of_eq (Nat.sub_add_cancel (by omega))) (w_Rd_readThing (by omega) (okx_mono (okx_bd h) ?_))
            intro r21 s22 h
            show Xw _ _ _ _ 82 _ [_] _ _
            refine xi_istore_n (ls' := [_, _, _, _]) D_Rd_read_82 rfl (by decide) ?_
            refine xi_goto D_Rd_read_83 ?_
            exact w_Rd_read_b109 (by omega) hR35 h
        · have h := okx_T c17 h
          refine xi_aload_n D_Rd_read_61 rfl ?_
          refine xj_V0 D_Rd_read_62 L_Rd_49 C_Rd_readPerson Z_Rd_readPerson (zl_fo (g15).1 rfl) (Nat.le_of_ble_eq_true rfl) (Nat.le_of_eq (Nat.sub_add_cancel (by omega))) (w_Rd_readPerson (by omega) (okx_mono (okx_bd h) ?_))
          intro r18 s19 h
          show Xw _ _ _ _ 65 _ [_] _ _
          refine xi_istore_n (ls' := [_, _, _, _]) D_Rd_read_65 rfl (by decide) ?_
          refine xi_goto D_Rd_read_66 ?_
          exact w_Rd_read_b109 (by omega) hR35 h
noncomputable def f_Rd_read_h35 : Nat → Int32 → Int32 → Sg → Option (Int32 × Sg)
  | 0, _, _, _ => none
  | n + 1, x2, x3, s => f_Rd_read_b35 (f_Rd_read_h35 n) x2 x3 s
theorem w_Rd_read_h35 {d : Nat} {Q : Option (Option Value) → Sg → Prop} (hd : 62 ≤ d) : ∀ (n : Nat) (x2 : Int32) (x3 : Int32) (s : Sg), okx (zq_I Q) (f_Rd_read_h35 n x2 x3 s) → Xw d M_Rd_read 0 0 35 [.ref 42, .retAddr 0, .int x2, .int x3] [] s Q := by
  intro n
  induction n with
  | zero => intro x2 x3 s h; exact okx_no h
  | succ n ih => intro x2 x3 s h; exact w_Rd_read_b35 hd  ih  h
noncomputable def f_Rd_read  (s : Sg) : Option (Int32 × Sg) :=
  f_ck (zl_B s) <|
  let s2 : Sg := uR s 42 10 (some 31)
  f_ck (zl_B s2) <|
  f_ck (mR s2 42 10 = some 31) <|
  f_bd (f_To_clear 31 s2) fun r5 s6 =>
  f_ck (zl_B s6) <|
  let s8 : Sg := uI s6 42 3 0
  let s9 : Sg := uI s8 42 9 0
  let s10 : Sg := uI s9 42 8 0
  f_bd (f_Rd_take  s10) fun r11 s12 =>
  f_Rd_read_h35  zl_fl 1 0 s12
theorem w_Rd_read {s : Sg} {d : Nat} {Q : Option (Option Value) → Sg → Prop} (hd : 62 ≤ d) (h : okx (zq_I Q) (f_Rd_read  s)) : Cw d M_Rd_read [.ref 42, .ref 31] s Q := by
  refine Cw.of (by decide +kernel) (Nat.le_of_ble_eq_true rfl) ?_
  show Xw d M_Rd_read 0 0 0 [.ref 42, .ref 31, .retAddr 0, .retAddr 0] [] s _
  unfold f_Rd_read at h
  refine xi_aload_n D_Rd_read_0 rfl ?_
  refine xi_aload_n D_Rd_read_1 rfl ?_
  obtain ⟨g1, h⟩ := okx_ck h
  refine xi_putR D_Rd_read_2 F_Rd_25 (zl_fo (g1).1 rfl) ⟨rfl, by decide, rfl⟩ rfl ?_
  refine xi_aload_n D_Rd_read_5 rfl ?_
  obtain ⟨g3, h⟩ := okx_ck h
  obtain ⟨g4, h⟩ := okx_ck h
  refine xi_getR D_Rd_read_6 F_Rd_25 (zl_fo (g3).1 rfl) ⟨rfl, by decide⟩ (g4) ?_
  refine xj_V0 D_Rd_read_9 L_Rd_29 C_To_clear Z_To_clear (zl_fo (g3).1 rfl) (Nat.le_of_ble_eq_true rfl) (Nat.le_of_eq (Nat.sub_add_cancel (by omega))) (w_To_clear (by omega) (okx_mono (okx_bd h) ?_))
  intro r5 s6 h
  show Xw _ _ _ _ 12 _ [] _ _
  refine xi_aload_n D_Rd_read_12 rfl ?_
  refine xj_iconst (v := 0) D_Rd_read_13 rfl ?_
  obtain ⟨g7, h⟩ := okx_ck h
  refine xi_putI D_Rd_read_14 F_Rd_34 (zl_fo (g7).1 rfl) ⟨rfl, by decide, rfl⟩ (⟨rfl, rfl⟩) ?_
  refine xi_aload_n D_Rd_read_17 rfl ?_
  refine xj_iconst (v := 0) D_Rd_read_18 rfl ?_
  refine xi_putI D_Rd_read_19 F_Rd_37 (zl_fo (g7).1 rfl) ⟨rfl, by decide, rfl⟩ (⟨rfl, rfl⟩) ?_
  refine xi_aload_n D_Rd_read_22 rfl ?_
  refine xj_iconst (v := 0) D_Rd_read_23 rfl ?_
  refine xi_putI D_Rd_read_24 F_Rd_40 (zl_fo (g7).1 rfl) ⟨rfl, by decide, rfl⟩ (⟨rfl, rfl⟩) ?_
  refine xi_aload_n D_Rd_read_27 rfl ?_
  refine xj_V0 D_Rd_read_28 L_Rd_43 C_Rd_take Z_Rd_take (zl_fo (g7).1 rfl) (Nat.le_of_ble_eq_true rfl) (Nat.le_of_eq (Nat.sub_add_cancel (by omega))) (w_Rd_take (by omega) (okx_mono (okx_bd h) ?_))
  intro r11 s12 h
  show Xw _ _ _ _ 31 _ [] _ _
  refine xj_iconst (v := 1) D_Rd_read_31 rfl ?_
  refine xi_istore_n (ls' := [_, _, _, _]) D_Rd_read_32 rfl (by decide) ?_
  refine xj_iconst (v := 0) D_Rd_read_33 rfl ?_
  refine xi_istore_n (ls' := [_, _, _, _]) D_Rd_read_34 rfl (by decide) ?_
  exact xk_wk (w_Rd_read_h35 (by omega)  _ _ _ _ h) ⟨Or.inl rfl, Or.inr rfl, Or.inl rfl, Or.inl rfl, trivial⟩
