/-! by a program of ours (wip/whole/gen/func.py, mkall.py) out of the listing: Rd_append Rd_isDigit Rd_isLetter Rd_whoseName Rd_wrong Rd_isNewName Rd_levelOf Rd_put Rd_takeNumber Rd_tokenOf Rd_takeWord Sl_canEncode Sl_indexOfChar Sl_indexOf St_isLatin1 St_coder St_length St_indexOf_III St_indexOf_II Rd_take Rd_readJoined Rd_readPart -/
noncomputable def f_Rd_append_b70 (R3 : Int64 → Int32 → Sg → Option (Unit × Sg)) (x1 : Int64) (x3 : Int32) (s : Sg) : Option (Unit × Sg) :=
  R3 x1 (x3 + (-8)) s
theorem w_Rd_append_b70 {x1 : Int64} {x3 : Int32} {s : Sg} {d : Nat} {Q : Option (Option Value) → Sg → Prop} (hd : 1 ≤ d) {R3 : Int64 → Int32 → Sg → Option (Unit × Sg)} (hR3 : ∀ (x1 : Int64) (x3 : Int32) (s : Sg), okx (zq_V Q) (R3 x1 x3 s) → Xw d M_Rd_append 0 0 3 [.ref 42, .long x1, .retAddr 0, .int x3, .retAddr 0] [] s Q) (h : okx (zq_V Q) (f_Rd_append_b70 R3 x1 x3 s)) : Xw d M_Rd_append 0 0 70 [.ref 42, .long x1, .retAddr 0, .int x3, .retAddr 0] [] s Q := by
  unfold f_Rd_append_b70 at h
  refine xi_iinc (v := _ + (-8)) (ls' := [_, _, _, _, _]) D_Rd_append_70 rfl rfl rfl (by decide) ?_
  refine xi_goto D_Rd_append_73 ?_
  exact hR3 _ _ _ h
noncomputable def f_Rd_append_b48 (R3 : Int64 → Int32 → Sg → Option (Unit × Sg)) (x1 : Int64) (x3 : Int32) (x4 : Int32) (s : Sg) : Option (Unit × Sg) :=
  f_ck (zl_B s) <|
  f_ck (vp_in (mI s 42 2) 1000) <|
  let s10 : Sg := uI s 43 (Int32.toNatClampNeg (mI s 42 2)) (vp_nar .char ((Int32.toUInt32 x4 % 65536).toInt32))
  let s11 : Sg := uI s10 42 2 ((mI s10 42 2) + 1)
  f_Rd_append_b70 R3 x1 x3 s11
theorem w_Rd_append_b48 {x1 : Int64} {x3 : Int32} {x4 : Int32} {s : Sg} {d : Nat} {Q : Option (Option Value) → Sg → Prop} (hd : 1 ≤ d) {R3 : Int64 → Int32 → Sg → Option (Unit × Sg)} (hR3 : ∀ (x1 : Int64) (x3 : Int32) (s : Sg), okx (zq_V Q) (R3 x1 x3 s) → Xw d M_Rd_append 0 0 3 [.ref 42, .long x1, .retAddr 0, .int x3, .retAddr 0] [] s Q) (h : okx (zq_V Q) (f_Rd_append_b48 R3 x1 x3 x4 s)) : Xw d M_Rd_append 0 0 48 [.ref 42, .long x1, .retAddr 0, .int x3, .int x4] [] s Q := by
  unfold f_Rd_append_b48 at h
  refine xi_aload_n D_Rd_append_48 rfl ?_
  obtain ⟨g8, h⟩ := okx_ck h
  refine xi_getR D_Rd_append_49 F_Rd_9 (zl_fo (g8).1 rfl) ⟨rfl, by decide⟩ (zl_gr (g8).2 rfl rfl) ?_
  refine xi_aload_n D_Rd_append_52 rfl ?_
  refine xi_getI D_Rd_append_53 F_Rd_21 (zl_fo (g8).1 rfl) ⟨rfl, by decide⟩ ?_
  refine xi_iload D_Rd_append_56 rfl ?_
  refine xi_i2c D_Rd_append_58 ?_
  obtain ⟨g9, h⟩ := okx_ck h
  refine xj_cast D_Rd_append_59 (zl_fx (g8).1 rfl) (zl_ib (n := 1000) rfl (g9)) rfl ?_
  refine xi_aload_n D_Rd_append_60 rfl ?_
  refine xi_dupr D_Rd_append_61 ?_
  refine xi_getI D_Rd_append_62 F_Rd_21 (zl_fo (g8).1 rfl) ⟨rfl, by decide⟩ ?_
  refine xj_iconst (v := 1) D_Rd_append_65 rfl ?_
  refine xi_iadd D_Rd_append_66 ?_
  refine xi_putI D_Rd_append_67 F_Rd_21 (zl_fo (g8).1 rfl) ⟨rfl, by decide, rfl⟩ (⟨rfl, rfl⟩) ?_
  exact xk_wk (w_Rd_append_b70 (by omega) hR3 h) ⟨Or.inl rfl, Or.inl rfl, Or.inl rfl, Or.inl rfl, Or.inr rfl, trivial⟩
noncomputable def f_Rd_append_b3 (R3 : Int64 → Int32 → Sg → Option (Unit × Sg)) (x1 : Int64) (x3 : Int32) (s : Sg) : Option (Unit × Sg) :=
  if x3 < 0 then
    some ((), s)
  else
    let v2 : Int32 := (Int64.toInt32 ((x1 >>> (Int32.toInt64 x3 &&& 63)) &&& 255))
    f_ck (zl_B s) <|
    if 1000 ≤ (mI s 42 2) then
      f_Rd_append_b70 R3 x1 x3 s
    else
      if v2 = 10 then
        f_Rd_append_b48 R3 x1 x3 v2 s
      else
        if v2 < 32 then
          f_Rd_append_b70 R3 x1 x3 s
        else
          if 126 < v2 then
            f_Rd_append_b70 R3 x1 x3 s
          else
            f_Rd_append_b48 R3 x1 x3 v2 s
theorem w_Rd_append_b3 {x1 : Int64} {x3 : Int32} {s : Sg} {d : Nat} {Q : Option (Option Value) → Sg → Prop} (hd : 1 ≤ d) {R3 : Int64 → Int32 → Sg → Option (Unit × Sg)} (hR3 : ∀ (x1 : Int64) (x3 : Int32) (s : Sg), okx (zq_V Q) (R3 x1 x3 s) → Xw d M_Rd_append 0 0 3 [.ref 42, .long x1, .retAddr 0, .int x3, .retAddr 0] [] s Q) (h : okx (zq_V Q) (f_Rd_append_b3 R3 x1 x3 s)) : Xw d M_Rd_append 0 0 3 [.ref 42, .long x1, .retAddr 0, .int x3, .retAddr 0] [] s Q := by
  unfold f_Rd_append_b3 at h
  refine xi_iload_n D_Rd_append_3 rfl ?_
  refine xi_if_lt D_Rd_append_4 (fun c1 => ?_) (fun c1 => ?_)
  · have h := okx_T c1 h
    exact xi_return D_Rd_append_76 rfl (okx_V h)
  · have h := okx_F c1 h
    refine xi_lload_n D_Rd_append_7 rfl ?_
    refine xi_iload_n D_Rd_append_8 rfl ?_
    refine xi_lshr D_Rd_append_9 ?_
    refine xi_ldc2 D_Rd_append_10 K_Rd_19 ?_
    refine xi_land D_Rd_append_13 ?_
    refine xi_l2i D_Rd_append_14 ?_
    refine xi_istore (ls' := [_, _, _, _, _]) D_Rd_append_15 rfl (by decide) ?_
    refine xi_aload_n D_Rd_append_17 rfl ?_
    obtain ⟨g3, h⟩ := okx_ck h
    refine xi_getI D_Rd_append_18 F_Rd_21 (zl_fo (g3).1 rfl) ⟨rfl, by decide⟩ ?_
    refine xi_sipush (v := 1000) D_Rd_append_21 rfl ?_
    refine xi_icmp_ge D_Rd_append_24 (fun c4 => ?_) (fun c4 => ?_)
    · have h := okx_T c4 h
      exact xk_wk (w_Rd_append_b70 (by omega) hR3 h) ⟨Or.inl rfl, Or.inl rfl, Or.inl rfl, Or.inl rfl, Or.inr rfl, trivial⟩
    · have h := okx_F c4 h
      refine xi_iload D_Rd_append_27 rfl ?_
      refine xi_bipush (v := 10) D_Rd_append_29 rfl ?_
      refine xi_icmp_eq D_Rd_append_31 (fun c5 => ?_) (fun c5 => ?_)
      · have h := okx_T c5 h
        exact w_Rd_append_b48 (by omega) hR3 h
      · have h := okx_F c5 h
        refine xi_iload D_Rd_append_34 rfl ?_
        refine xi_bipush (v := 32) D_Rd_append_36 rfl ?_
        refine xi_icmp_lt D_Rd_append_38 (fun c6 => ?_) (fun c6 => ?_)
        · have h := okx_T c6 h
          exact xk_wk (w_Rd_append_b70 (by omega) hR3 h) ⟨Or.inl rfl, Or.inl rfl, Or.inl rfl, Or.inl rfl, Or.inr rfl, trivial⟩
        · have h := okx_F c6 h
          refine xi_iload D_Rd_append_41 rfl ?_
          refine xi_bipush (v := 126) D_Rd_append_43 rfl ?_
          refine xi_icmp_gt D_Rd_append_45 (fun c7 => ?_) (fun c7 => ?_)
          · have h := okx_T c7 h
            exact xk_wk (w_Rd_append_b70 (by omega) hR3 h) ⟨Or.inl rfl, Or.inl rfl, Or.inl rfl, Or.inl rfl, Or.inr rfl, trivial⟩
          · have h := okx_F c7 h
            exact w_Rd_append_b48 (by omega) hR3 h
noncomputable def f_Rd_append_h3 : Nat → Int64 → Int32 → Sg → Option (Unit × Sg)
  | 0, _, _, _ => none
  | n + 1, x1, x3, s => f_Rd_append_b3 (f_Rd_append_h3 n) x1 x3 s
theorem w_Rd_append_h3 {d : Nat} {Q : Option (Option Value) → Sg → Prop} (hd : 1 ≤ d) : ∀ (n : Nat) (x1 : Int64) (x3 : Int32) (s : Sg), okx (zq_V Q) (f_Rd_append_h3 n x1 x3 s) → Xw d M_Rd_append 0 0 3 [.ref 42, .long x1, .retAddr 0, .int x3, .retAddr 0] [] s Q := by
  intro n
  induction n with
  | zero => intro x1 x3 s h; exact okx_no h
  | succ n ih => intro x1 x3 s h; exact w_Rd_append_b3 hd  ih  h
noncomputable def f_Rd_append (x1 : Int64) (s : Sg) : Option (Unit × Sg) :=
  f_Rd_append_h3  zl_fl x1 56 s
theorem w_Rd_append {x1 : Int64} {s : Sg} {d : Nat} {Q : Option (Option Value) → Sg → Prop} (hd : 1 ≤ d) (h : okx (zq_V Q) (f_Rd_append x1 s)) : Cw d M_Rd_append [.ref 42, .long x1] s Q := by
  refine Cw.of (by decide +kernel) (Nat.le_of_ble_eq_true rfl) ?_
  show Xw d M_Rd_append 0 0 0 [.ref 42, .long x1, .retAddr 0, .retAddr 0, .retAddr 0] [] s _
  unfold f_Rd_append at h
  refine xi_bipush (v := 56) D_Rd_append_0 rfl ?_
  refine xi_istore_n (ls' := [_, _, _, _, _]) D_Rd_append_2 rfl (by decide) ?_
  exact w_Rd_append_h3 (by omega)  _ _ _ _ h
noncomputable def f_Rd_isDigit (x0 : Int32) (s : Sg) : Option (Int32 × Sg) :=
  if x0 < 48 then
    some (0, s)
  else
    if 57 < x0 then
      some (0, s)
    else
      some (1, s)
theorem w_Rd_isDigit {x0 : Int32} {s : Sg} {d : Nat} {Q : Option (Option Value) → Sg → Prop} (hd : 1 ≤ d) (h : okx (zq_I Q) (f_Rd_isDigit x0 s)) : Cw d M_Rd_isDigit [.int x0] s Q := by
  refine Cw.of (by decide +kernel) (Nat.le_of_ble_eq_true rfl) ?_
  show Xw d M_Rd_isDigit 0 0 0 [.int x0] [] s _
  unfold f_Rd_isDigit at h
  refine xi_iload_n D_Rd_isDigit_0 rfl ?_
  refine xi_bipush (v := 48) D_Rd_isDigit_1 rfl ?_
  refine xi_icmp_lt D_Rd_isDigit_3 (fun c1 => ?_) (fun c1 => ?_)
  · have h := okx_T c1 h
    refine xj_iconst (v := 0) D_Rd_isDigit_16 rfl ?_
    exact xi_ireturn D_Rd_isDigit_17 rfl (rfl) (okx_I h)
  · have h := okx_F c1 h
    refine xi_iload_n D_Rd_isDigit_6 rfl ?_
    refine xi_bipush (v := 57) D_Rd_isDigit_7 rfl ?_
    refine xi_icmp_gt D_Rd_isDigit_9 (fun c2 => ?_) (fun c2 => ?_)
    · have h := okx_T c2 h
      refine xj_iconst (v := 0) D_Rd_isDigit_16 rfl ?_
      exact xi_ireturn D_Rd_isDigit_17 rfl (rfl) (okx_I h)
    · have h := okx_F c2 h
      refine xj_iconst (v := 1) D_Rd_isDigit_12 rfl ?_
      refine xi_goto D_Rd_isDigit_13 ?_
      exact xi_ireturn D_Rd_isDigit_17 rfl (rfl) (okx_I h)
noncomputable def f_Rd_isLetter (x0 : Int32) (s : Sg) : Option (Int32 × Sg) :=
  if x0 < 97 then
    some (0, s)
  else
    if 122 < x0 then
      some (0, s)
    else
      some (1, s)
theorem w_Rd_isLetter {x0 : Int32} {s : Sg} {d : Nat} {Q : Option (Option Value) → Sg → Prop} (hd : 1 ≤ d) (h : okx (zq_I Q) (f_Rd_isLetter x0 s)) : Cw d M_Rd_isLetter [.int x0] s Q := by
  refine Cw.of (by decide +kernel) (Nat.le_of_ble_eq_true rfl) ?_
  show Xw d M_Rd_isLetter 0 0 0 [.int x0] [] s _
  unfold f_Rd_isLetter at h
  refine xi_iload_n D_Rd_isLetter_0 rfl ?_
  refine xi_bipush (v := 97) D_Rd_isLetter_1 rfl ?_
  refine xi_icmp_lt D_Rd_isLetter_3 (fun c1 => ?_) (fun c1 => ?_)
  · have h := okx_T c1 h
    refine xj_iconst (v := 0) D_Rd_isLetter_16 rfl ?_
    exact xi_ireturn D_Rd_isLetter_17 rfl (rfl) (okx_I h)
  · have h := okx_F c1 h
    refine xi_iload_n D_Rd_isLetter_6 rfl ?_
    refine xi_bipush (v := 122) D_Rd_isLetter_7 rfl ?_
    refine xi_icmp_gt D_Rd_isLetter_9 (fun c2 => ?_) (fun c2 => ?_)
    · have h := okx_T c2 h
      refine xj_iconst (v := 0) D_Rd_isLetter_16 rfl ?_
      exact xi_ireturn D_Rd_isLetter_17 rfl (rfl) (okx_I h)
    · have h := okx_F c2 h
      refine xj_iconst (v := 1) D_Rd_isLetter_12 rfl ?_
      refine xi_goto D_Rd_isLetter_13 ?_
      exact xi_ireturn D_Rd_isLetter_17 rfl (rfl) (okx_I h)
noncomputable def f_Rd_whoseName_b64 (x1 : Int32) (s : Sg) : Option (Int32 × Sg) :=
  some ((4 + x1), s)
theorem w_Rd_whoseName_b64 {x1 : Int32} {s : Sg} {d : Nat} {Q : Option (Option Value) → Sg → Prop} (hd : 1 ≤ d) (h : okx (zq_I Q) (f_Rd_whoseName_b64 x1 s)) : Xw d M_Rd_whoseName 0 0 64 [.retAddr 0, .int x1] [] s Q := by
  unfold f_Rd_whoseName_b64 at h
  refine xj_iconst (v := 4) D_Rd_whoseName_64 rfl ?_
  refine xi_iload_n D_Rd_whoseName_65 rfl ?_
  refine xi_iadd D_Rd_whoseName_66 ?_
  exact xi_ireturn D_Rd_whoseName_67 rfl (rfl) (okx_I h)
noncomputable def f_Rd_whoseName_b37 (R37 : Int32 → Sg → Option (Int32 × Sg)) (x1 : Int32) (s : Sg) : Option (Int32 × Sg) :=
  f_ck (zl_B s) <|
  f_ck (mR s 42 10 = some 31) <|
  if (mI s 31 1) ≤ x1 then
    some ((-1), s)
  else
    f_ck (vp_in (4 + x1) 7) <|
    if (lg_cmp (mL s 44 (Int32.toNatClampNeg (4 + x1))) (mL s 42 7)) = 0 then
      f_Rd_whoseName_b64  x1 s
    else
      R37 (x1 + 1) s
theorem w_Rd_whoseName_b37 {x1 : Int32} {s : Sg} {d : Nat} {Q : Option (Option Value) → Sg → Prop} (hd : 1 ≤ d) {R37 : Int32 → Sg → Option (Int32 × Sg)} (hR37 : ∀ (x1 : Int32) (s : Sg), okx (zq_I Q) (R37 x1 s) → Xw d M_Rd_whoseName 0 0 37 [.ref 42, .int x1] [] s Q) (h : okx (zq_I Q) (f_Rd_whoseName_b37 R37 x1 s)) : Xw d M_Rd_whoseName 0 0 37 [.ref 42, .int x1] [] s Q := by
  unfold f_Rd_whoseName_b37 at h
  refine xi_iload_n D_Rd_whoseName_37 rfl ?_
  refine xi_aload_n D_Rd_whoseName_38 rfl ?_
  obtain ⟨g6, h⟩ := okx_ck h
  obtain ⟨g7, h⟩ := okx_ck h
  refine xi_getR D_Rd_whoseName_39 F_Rd_25 (zl_fo (g6).1 rfl) ⟨rfl, by decide⟩ (g7) ?_
  refine xi_getI D_Rd_whoseName_42 F_Rd_86 (zl_fo (g6).1 rfl) ⟨rfl, by decide⟩ ?_
  refine xi_icmp_ge D_Rd_whoseName_45 (fun c8 => ?_) (fun c8 => ?_)
  · have h := okx_T c8 h
    refine xj_iconst (v := (-1)) D_Rd_whoseName_74 rfl ?_
    exact xi_ireturn D_Rd_whoseName_75 rfl (rfl) (okx_I h)
  · have h := okx_F c8 h
    refine xi_aload_n D_Rd_whoseName_48 rfl ?_
    refine xi_getR D_Rd_whoseName_49 F_Rd_15 (zl_fo (g6).1 rfl) ⟨rfl, by decide⟩ (zl_gr (g6).2 rfl rfl) ?_
    refine xj_iconst (v := 4) D_Rd_whoseName_52 rfl ?_
    refine xi_iload_n D_Rd_whoseName_53 rfl ?_
    refine xi_iadd D_Rd_whoseName_54 ?_
    obtain ⟨g9, h⟩ := okx_ck h
    refine xj_lald D_Rd_whoseName_55 (zl_fx (g6).1 rfl) (zl_ib (n := 7) rfl (g9)) ?_
    refine xi_aload_n D_Rd_whoseName_56 rfl ?_
    refine xi_getL D_Rd_whoseName_57 F_Rd_72 (zl_fo (g6).1 rfl) ⟨rfl, by decide⟩ ?_
    refine xi_lcmp D_Rd_whoseName_60 ?_
    refine xi_if_ne D_Rd_whoseName_61 (fun c10 => ?_) (fun c10 => ?_)
    · have h := okx_F c10 h
      refine xi_iinc (v := _ + 1) (ls' := [_, _]) D_Rd_whoseName_68 rfl rfl rfl (by decide) ?_
      refine xi_goto D_Rd_whoseName_71 ?_
      exact hR37 _ _ h
    · have h := okx_T c10 h
      exact xk_wk (w_Rd_whoseName_b64 (by omega)  h) ⟨Or.inr rfl, Or.inl rfl, trivial⟩
noncomputable def f_Rd_whoseName_h37 : Nat → Int32 → Sg → Option (Int32 × Sg)
  | 0, _, _ => none
  | n + 1, x1, s => f_Rd_whoseName_b37 (f_Rd_whoseName_h37 n) x1 s
theorem w_Rd_whoseName_h37 {d : Nat} {Q : Option (Option Value) → Sg → Prop} (hd : 1 ≤ d) : ∀ (n : Nat) (x1 : Int32) (s : Sg), okx (zq_I Q) (f_Rd_whoseName_h37 n x1 s) → Xw d M_Rd_whoseName 0 0 37 [.ref 42, .int x1] [] s Q := by
  intro n
  induction n with
  | zero => intro x1 s h; exact okx_no h
  | succ n ih => intro x1 s h; exact w_Rd_whoseName_b37 hd  ih  h
noncomputable def f_Rd_whoseName_b35  (s : Sg) : Option (Int32 × Sg) :=
  f_Rd_whoseName_h37  zl_fl 0 s
theorem w_Rd_whoseName_b35 {s : Sg} {d : Nat} {Q : Option (Option Value) → Sg → Prop} (hd : 1 ≤ d) (h : okx (zq_I Q) (f_Rd_whoseName_b35  s)) : Xw d M_Rd_whoseName 0 0 35 [.ref 42, .retAddr 0] [] s Q := by
  unfold f_Rd_whoseName_b35 at h
  refine xj_iconst (v := 0) D_Rd_whoseName_35 rfl ?_
  refine xi_istore_n (ls' := [_, _]) D_Rd_whoseName_36 rfl (by decide) ?_
  exact w_Rd_whoseName_h37 (by omega)  _ _ _ h
noncomputable def f_Rd_whoseName_b2 (R2 : Int32 → Sg → Option (Int32 × Sg)) (x1 : Int32) (s : Sg) : Option (Int32 × Sg) :=
  f_ck (zl_B s) <|
  f_ck (mR s 42 10 = some 31) <|
  if (mI s 31 0) ≤ x1 then
    f_Rd_whoseName_b35   s
  else
    f_ck (vp_in x1 7) <|
    if (lg_cmp (mL s 44 (Int32.toNatClampNeg x1)) (mL s 42 7)) = 0 then
      some (x1, s)
    else
      R2 (x1 + 1) s
theorem w_Rd_whoseName_b2 {x1 : Int32} {s : Sg} {d : Nat} {Q : Option (Option Value) → Sg → Prop} (hd : 1 ≤ d) {R2 : Int32 → Sg → Option (Int32 × Sg)} (hR2 : ∀ (x1 : Int32) (s : Sg), okx (zq_I Q) (R2 x1 s) → Xw d M_Rd_whoseName 0 0 2 [.ref 42, .int x1] [] s Q) (h : okx (zq_I Q) (f_Rd_whoseName_b2 R2 x1 s)) : Xw d M_Rd_whoseName 0 0 2 [.ref 42, .int x1] [] s Q := by
  unfold f_Rd_whoseName_b2 at h
  refine xi_iload_n D_Rd_whoseName_2 rfl ?_
  refine xi_aload_n D_Rd_whoseName_3 rfl ?_
  obtain ⟨g1, h⟩ := okx_ck h
  obtain ⟨g2, h⟩ := okx_ck h
  refine xi_getR D_Rd_whoseName_4 F_Rd_25 (zl_fo (g1).1 rfl) ⟨rfl, by decide⟩ (g2) ?_
  refine xi_getI D_Rd_whoseName_7 F_Rd_66 (zl_fo (g1).1 rfl) ⟨rfl, by decide⟩ ?_
  refine xi_icmp_ge D_Rd_whoseName_10 (fun c3 => ?_) (fun c3 => ?_)
  · have h := okx_T c3 h
    exact xk_wk (w_Rd_whoseName_b35 (by omega)  h) ⟨Or.inl rfl, Or.inr rfl, trivial⟩
  · have h := okx_F c3 h
    refine xi_aload_n D_Rd_whoseName_13 rfl ?_
    refine xi_getR D_Rd_whoseName_14 F_Rd_15 (zl_fo (g1).1 rfl) ⟨rfl, by decide⟩ (zl_gr (g1).2 rfl rfl) ?_
    refine xi_iload_n D_Rd_whoseName_17 rfl ?_
    obtain ⟨g4, h⟩ := okx_ck h
    refine xj_lald D_Rd_whoseName_18 (zl_fx (g1).1 rfl) (zl_ib (n := 7) rfl (g4)) ?_
    refine xi_aload_n D_Rd_whoseName_19 rfl ?_
    refine xi_getL D_Rd_whoseName_20 F_Rd_72 (zl_fo (g1).1 rfl) ⟨rfl, by decide⟩ ?_
    refine xi_lcmp D_Rd_whoseName_23 ?_
    refine xi_if_ne D_Rd_whoseName_24 (fun c5 => ?_) (fun c5 => ?_)
    · have h := okx_F c5 h
      refine xi_iinc (v := _ + 1) (ls' := [_, _]) D_Rd_whoseName_29 rfl rfl rfl (by decide) ?_
      refine xi_goto D_Rd_whoseName_32 ?_
      exact hR2 _ _ h
    · have h := okx_T c5 h
      refine xi_iload_n D_Rd_whoseName_27 rfl ?_
      exact xi_ireturn D_Rd_whoseName_28 rfl (rfl) (okx_I h)
noncomputable def f_Rd_whoseName_h2 : Nat → Int32 → Sg → Option (Int32 × Sg)
  | 0, _, _ => none
  | n + 1, x1, s => f_Rd_whoseName_b2 (f_Rd_whoseName_h2 n) x1 s
theorem w_Rd_whoseName_h2 {d : Nat} {Q : Option (Option Value) → Sg → Prop} (hd : 1 ≤ d) : ∀ (n : Nat) (x1 : Int32) (s : Sg), okx (zq_I Q) (f_Rd_whoseName_h2 n x1 s) → Xw d M_Rd_whoseName 0 0 2 [.ref 42, .int x1] [] s Q := by
  intro n
  induction n with
  | zero => intro x1 s h; exact okx_no h
  | succ n ih => intro x1 s h; exact w_Rd_whoseName_b2 hd  ih  h
noncomputable def f_Rd_whoseName  (s : Sg) : Option (Int32 × Sg) :=
  f_Rd_whoseName_h2  zl_fl 0 s
theorem w_Rd_whoseName {s : Sg} {d : Nat} {Q : Option (Option Value) → Sg → Prop} (hd : 1 ≤ d) (h : okx (zq_I Q) (f_Rd_whoseName  s)) : Cw d M_Rd_whoseName [.ref 42] s Q := by
  refine Cw.of (by decide +kernel) (Nat.le_of_ble_eq_true rfl) ?_
  show Xw d M_Rd_whoseName 0 0 0 [.ref 42, .retAddr 0] [] s _
  unfold f_Rd_whoseName at h
  refine xj_iconst (v := 0) D_Rd_whoseName_0 rfl ?_
  refine xi_istore_n (ls' := [_, _]) D_Rd_whoseName_1 rfl (by decide) ?_
  exact w_Rd_whoseName_h2 (by omega)  _ _ _ h
noncomputable def f_Rd_wrong (x1 : Int32) (s : Sg) : Option (Int32 × Sg) :=
  f_ck (zl_B s) <|
  let s2 : Sg := uI s 42 8 (x1 + (16 * (mI s 42 5)))
  some (0, s2)
theorem w_Rd_wrong {x1 : Int32} {s : Sg} {d : Nat} {Q : Option (Option Value) → Sg → Prop} (hd : 1 ≤ d) (h : okx (zq_I Q) (f_Rd_wrong x1 s)) : Cw d M_Rd_wrong [.ref 42, .int x1] s Q := by
  refine Cw.of (by decide +kernel) (Nat.le_of_ble_eq_true rfl) ?_
  show Xw d M_Rd_wrong 0 0 0 [.ref 42, .int x1] [] s _
  unfold f_Rd_wrong at h
  refine xi_aload_n D_Rd_wrong_0 rfl ?_
  refine xi_iload_n D_Rd_wrong_1 rfl ?_
  refine xi_bipush (v := 16) D_Rd_wrong_2 rfl ?_
  refine xi_aload_n D_Rd_wrong_4 rfl ?_
  obtain ⟨g1, h⟩ := okx_ck h
  refine xi_getI D_Rd_wrong_5 F_Rd_63 (zl_fo (g1).1 rfl) ⟨rfl, by decide⟩ ?_
  refine xi_imul D_Rd_wrong_8 ?_
  refine xi_iadd D_Rd_wrong_9 ?_
  refine xi_putI D_Rd_wrong_10 F_Rd_40 (zl_fo (g1).1 rfl) ⟨rfl, by decide, rfl⟩ (⟨rfl, rfl⟩) ?_
  refine xj_iconst (v := 0) D_Rd_wrong_13 rfl ?_
  exact xi_ireturn D_Rd_wrong_14 rfl (rfl) (okx_I h)
noncomputable def f_Rd_isNewName_b30  (s : Sg) : Option (Int32 × Sg) :=
  some (1, s)
theorem w_Rd_isNewName_b30 {s : Sg} {d : Nat} {Q : Option (Option Value) → Sg → Prop} (hd : 2 ≤ d) (h : okx (zq_I Q) (f_Rd_isNewName_b30  s)) : Xw d M_Rd_isNewName 0 0 30 [.retAddr 0] [] s Q := by
  unfold f_Rd_isNewName_b30 at h
  refine xj_iconst (v := 1) D_Rd_isNewName_30 rfl ?_
  refine xi_goto D_Rd_isNewName_31 ?_
  exact xi_ireturn D_Rd_isNewName_35 rfl (rfl) (okx_I h)
noncomputable def f_Rd_isNewName  (s : Sg) : Option (Int32 × Sg) :=
  f_ck (zl_B s) <|
  if (mI s 42 4) = 2 then
    f_bd (f_Rd_whoseName  s) fun r3 s4 =>
    if r3 = (-1) then
      f_Rd_isNewName_b30   s4
    else
      f_ck (zl_B s4) <|
      f_bd (f_Rd_wrong 3 s4) fun r7 s8 =>
      if r7 = 0 then
        some (0, s8)
      else
        f_Rd_isNewName_b30   s8
  else
    f_bd (f_Rd_wrong 1 s) fun r10 s11 =>
    f_ck (narrow FieldType.boolean (.int r10) = .int r10) <|
    some (r10, s11)
theorem w_Rd_isNewName {s : Sg} {d : Nat} {Q : Option (Option Value) → Sg → Prop} (hd : 2 ≤ d) (h : okx (zq_I Q) (f_Rd_isNewName  s)) : Cw d M_Rd_isNewName [.ref 42] s Q := by
  refine Cw.of (by decide +kernel) (Nat.le_of_ble_eq_true rfl) ?_
  show Xw d M_Rd_isNewName 0 0 0 [.ref 42] [] s _
  unfold f_Rd_isNewName at h
  refine xi_aload_n D_Rd_isNewName_0 rfl ?_
  obtain ⟨g1, h⟩ := okx_ck h
  refine xi_getI D_Rd_isNewName_1 F_Rd_46 (zl_fo (g1).1 rfl) ⟨rfl, by decide⟩ ?_
  refine xj_iconst (v := 2) D_Rd_isNewName_4 rfl ?_
  refine xi_icmp_eq D_Rd_isNewName_5 (fun c2 => ?_) (fun c2 => ?_)
  · have h := okx_T c2 h
    refine xi_aload_n D_Rd_isNewName_14 rfl ?_
    refine xj_V0 D_Rd_isNewName_15 L_Rd_96 C_Rd_whoseName Z_Rd_whoseName (zl_fo (g1).1 rfl) (Nat.le_of_ble_eq_true rfl) (Nat.le_of_eq (Nat.sub_add_cancel (by omega))) (w_Rd_whoseName (by omega) (okx_mono (okx_bd h) ?_))
    intro r3 s4 h
    show Xw _ _ _ _ 18 _ [_] _ _
    refine xj_iconst (v := (-1)) D_Rd_isNewName_18 rfl ?_
    refine xi_icmp_eq D_Rd_isNewName_19 (fun c5 => ?_) (fun c5 => ?_)
    · have h := okx_T c5 h
      exact xk_wk (w_Rd_isNewName_b30 (by omega)  h) ⟨Or.inr rfl, trivial⟩
    · have h := okx_F c5 h
      refine xi_aload_n D_Rd_isNewName_22 rfl ?_
      refine xj_iconst (v := 3) D_Rd_isNewName_23 rfl ?_
      obtain ⟨g6, h⟩ := okx_ck h
      refine xj_V1 D_Rd_isNewName_24 L_Rd_59 C_Rd_wrong Z_Rd_wrong (zl_fo (g6).1 rfl) (Nat.le_of_ble_eq_true rfl) (Nat.le_of_eq (Nat.sub_add_cancel (by omega))) (w_Rd_wrong (by omega) (okx_mono (okx_bd h) ?_))
      intro r7 s8 h
      show Xw _ _ _ _ 27 _ [_] _ _
      refine xi_if_eq D_Rd_isNewName_27 (fun c9 => ?_) (fun c9 => ?_)
      · have h := okx_T c9 h
        refine xj_iconst (v := 0) D_Rd_isNewName_34 rfl ?_
        exact xi_ireturn D_Rd_isNewName_35 rfl (rfl) (okx_I h)
      · have h := okx_F c9 h
        exact xk_wk (w_Rd_isNewName_b30 (by omega)  h) ⟨Or.inr rfl, trivial⟩
  · have h := okx_F c2 h
    refine xi_aload_n D_Rd_isNewName_8 rfl ?_
    refine xj_iconst (v := 1) D_Rd_isNewName_9 rfl ?_
    refine xj_V1 D_Rd_isNewName_10 L_Rd_59 C_Rd_wrong Z_Rd_wrong (zl_fo (g1).1 rfl) (Nat.le_of_ble_eq_true rfl) (Nat.le_of_eq (Nat.sub_add_cancel (by omega))) (w_Rd_wrong (by omega) (okx_mono (okx_bd h) ?_))
    intro r10 s11 h
    show Xw _ _ _ _ 13 _ [_] _ _
    obtain ⟨g12, h⟩ := okx_ck h
    exact xi_ireturn D_Rd_isNewName_13 rfl (g12) (okx_I h)
noncomputable def f_Rd_levelOf (x0 : Int32) (s : Sg) : Option (Int32 × Sg) :=
  if x0 = 10 then
    some (0, s)
  else
  if x0 = 11 then
    some (0, s)
  else
  if x0 = 42 then
    some (3, s)
  else
  if x0 = 43 then
    some (2, s)
  else
  if x0 = 45 then
    some (2, s)
  else
  if x0 = 60 then
    some (1, s)
  else
  if x0 = 61 then
    some (1, s)
  else
    some ((-1), s)
theorem w_Rd_levelOf {x0 : Int32} {s : Sg} {d : Nat} {Q : Option (Option Value) → Sg → Prop} (hd : 1 ≤ d) (h : okx (zq_I Q) (f_Rd_levelOf x0 s)) : Cw d M_Rd_levelOf [.int x0] s Q := by
  refine Cw.of (by decide +kernel) (Nat.le_of_ble_eq_true rfl) ?_
  show Xw d M_Rd_levelOf 0 0 0 [.int x0] [] s _
  unfold f_Rd_levelOf at h
  refine xi_iload_n D_Rd_levelOf_0 rfl ?_
  by_cases c1 : x0 = 10
  · have h := okx_T c1 h
    refine xi_lookup (tgt := 68) D_Rd_levelOf_1 (by decide) (by rw [c1]; decide) ?_
    refine xj_iconst (v := 0) D_Rd_levelOf_68 rfl ?_
    exact xi_ireturn D_Rd_levelOf_69 rfl (rfl) (okx_I h)
  have h := okx_F c1 h
  by_cases c2 : x0 = 11
  · have h := okx_T c2 h
    refine xi_lookup (tgt := 68) D_Rd_levelOf_1 (by decide) (by rw [c2]; decide) ?_
    refine xj_iconst (v := 0) D_Rd_levelOf_68 rfl ?_
    exact xi_ireturn D_Rd_levelOf_69 rfl (rfl) (okx_I h)
  have h := okx_F c2 h
  by_cases c3 : x0 = 42
  · have h := okx_T c3 h
    refine xi_lookup (tgt := 74) D_Rd_levelOf_1 (by decide) (by rw [c3]; decide) ?_
    refine xj_iconst (v := 3) D_Rd_levelOf_74 rfl ?_
    exact xi_ireturn D_Rd_levelOf_75 rfl (rfl) (okx_I h)
  have h := okx_F c3 h
  by_cases c4 : x0 = 43
  · have h := okx_T c4 h
    refine xi_lookup (tgt := 72) D_Rd_levelOf_1 (by decide) (by rw [c4]; decide) ?_
    refine xj_iconst (v := 2) D_Rd_levelOf_72 rfl ?_
    exact xi_ireturn D_Rd_levelOf_73 rfl (rfl) (okx_I h)
  have h := okx_F c4 h
  by_cases c5 : x0 = 45
  · have h := okx_T c5 h
    refine xi_lookup (tgt := 72) D_Rd_levelOf_1 (by decide) (by rw [c5]; decide) ?_
    refine xj_iconst (v := 2) D_Rd_levelOf_72 rfl ?_
    exact xi_ireturn D_Rd_levelOf_73 rfl (rfl) (okx_I h)
  have h := okx_F c5 h
  by_cases c6 : x0 = 60
  · have h := okx_T c6 h
    refine xi_lookup (tgt := 70) D_Rd_levelOf_1 (by decide) (by rw [c6]; decide) ?_
    refine xj_iconst (v := 1) D_Rd_levelOf_70 rfl ?_
    exact xi_ireturn D_Rd_levelOf_71 rfl (rfl) (okx_I h)
  have h := okx_F c6 h
  by_cases c7 : x0 = 61
  · have h := okx_T c7 h
    refine xi_lookup (tgt := 70) D_Rd_levelOf_1 (by decide) (by rw [c7]; decide) ?_
    refine xj_iconst (v := 1) D_Rd_levelOf_70 rfl ?_
    exact xi_ireturn D_Rd_levelOf_71 rfl (rfl) (okx_I h)
  have h := okx_F c7 h
  refine xi_lookup (tgt := 76) D_Rd_levelOf_1 (by decide) (by show (1 : Int) + Op.lookupswitch.offset [(10, 67), (11, 67), (42, 73), (43, 71), (45, 71), (60, 69), (61, 69)] 75 _ = _; rw [lv_osw c1 (by decide), lv_osw c2 (by decide), lv_osw c3 (by decide), lv_osw c4 (by decide), lv_osw c5 (by decide), lv_osw c6 (by decide), lv_osw c7 (by decide)]; rfl) ?_
  refine xj_iconst (v := (-1)) D_Rd_levelOf_76 rfl ?_
  exact xi_ireturn D_Rd_levelOf_77 rfl (rfl) (okx_I h)
noncomputable def f_Rd_put (x1 : Int32) (s : Sg) : Option (Unit × Sg) :=
  f_ck (zl_B s) <|
  if 1000 ≤ (mI s 42 9) then
    some ((), s)
  else
    f_ck (mR s 42 10 = some 31) <|
    f_ck (vp_in (mI s 42 9) 1000) <|
    let s5 : Sg := uI s 36 (Int32.toNatClampNeg (mI s 42 9)) x1
    let s6 : Sg := uI s5 42 9 ((mI s5 42 9) + 1)
    some ((), s6)
theorem w_Rd_put {x1 : Int32} {s : Sg} {d : Nat} {Q : Option (Option Value) → Sg → Prop} (hd : 1 ≤ d) (h : okx (zq_V Q) (f_Rd_put x1 s)) : Cw d M_Rd_put [.ref 42, .int x1] s Q := by
  refine Cw.of (by decide +kernel) (Nat.le_of_ble_eq_true rfl) ?_
  show Xw d M_Rd_put 0 0 0 [.ref 42, .int x1] [] s _
  unfold f_Rd_put at h
  refine xi_aload_n D_Rd_put_0 rfl ?_
  obtain ⟨g1, h⟩ := okx_ck h
  refine xi_getI D_Rd_put_1 F_Rd_37 (zl_fo (g1).1 rfl) ⟨rfl, by decide⟩ ?_
  refine xi_sipush (v := 1000) D_Rd_put_4 rfl ?_
  refine xi_icmp_ge D_Rd_put_7 (fun c2 => ?_) (fun c2 => ?_)
  · have h := okx_T c2 h
    exact xi_return D_Rd_put_33 rfl (okx_V h)
  · have h := okx_F c2 h
    refine xi_aload_n D_Rd_put_10 rfl ?_
    obtain ⟨g3, h⟩ := okx_ck h
    refine xi_getR D_Rd_put_11 F_Rd_25 (zl_fo (g1).1 rfl) ⟨rfl, by decide⟩ (g3) ?_
    refine xi_getR D_Rd_put_14 F_Rd_117 (zl_fo (g1).1 rfl) ⟨rfl, by decide⟩ (zl_gr (g1).2 rfl rfl) ?_
    refine xi_aload_n D_Rd_put_17 rfl ?_
    refine xi_getI D_Rd_put_18 F_Rd_37 (zl_fo (g1).1 rfl) ⟨rfl, by decide⟩ ?_
    refine xi_iload_n D_Rd_put_21 rfl ?_
    obtain ⟨g4, h⟩ := okx_ck h
    refine xj_iast D_Rd_put_22 (zl_fx (g1).1 rfl) (zl_ib (n := 1000) rfl (g4)) ?_
    refine xi_aload_n D_Rd_put_23 rfl ?_
    refine xi_dupr D_Rd_put_24 ?_
    refine xi_getI D_Rd_put_25 F_Rd_37 (zl_fo (g1).1 rfl) ⟨rfl, by decide⟩ ?_
    refine xj_iconst (v := 1) D_Rd_put_28 rfl ?_
    refine xi_iadd D_Rd_put_29 ?_
    refine xi_putI D_Rd_put_30 F_Rd_37 (zl_fo (g1).1 rfl) ⟨rfl, by decide, rfl⟩ (⟨rfl, rfl⟩) ?_
    exact xi_return D_Rd_put_33 rfl (okx_V h)
noncomputable def f_Rd_takeNumber_b87 (y1 : Int32) (s : Sg) : Option (Unit × Sg) :=
  f_ck (zl_B s) <|
  let s16 : Sg := uI s 42 4 y1
  some ((), s16)
theorem w_Rd_takeNumber_b87 {y1 : Int32} {s : Sg} {d : Nat} {Q : Option (Option Value) → Sg → Prop} (hd : 2 ≤ d) (h : okx (zq_V Q) (f_Rd_takeNumber_b87 y1 s)) : Xw d M_Rd_takeNumber 0 0 87 [.retAddr 0] [.int y1, .ref 42] s Q := by
  unfold f_Rd_takeNumber_b87 at h
  obtain ⟨g15, h⟩ := okx_ck h
  refine xi_putI D_Rd_takeNumber_87 F_Rd_46 (zl_fo (g15).1 rfl) ⟨rfl, by decide, rfl⟩ (⟨rfl, rfl⟩) ?_
  exact xi_return D_Rd_takeNumber_90 rfl (okx_V h)
noncomputable def f_Rd_takeNumber_b68  (s : Sg) : Option (Unit × Sg) :=
  f_ck (zl_B s) <|
  if ((mI s 42 3) - (mI s 42 5)) ≤ 4 then
    f_Rd_takeNumber_b87  3 s
  else
    f_Rd_takeNumber_b87  1 s
theorem w_Rd_takeNumber_b68 {s : Sg} {d : Nat} {Q : Option (Option Value) → Sg → Prop} (hd : 2 ≤ d) (h : okx (zq_V Q) (f_Rd_takeNumber_b68  s)) : Xw d M_Rd_takeNumber 0 0 68 [.ref 42] [] s Q := by
  unfold f_Rd_takeNumber_b68 at h
  refine xi_aload_n D_Rd_takeNumber_68 rfl ?_
  refine xi_aload_n D_Rd_takeNumber_69 rfl ?_
  obtain ⟨g13, h⟩ := okx_ck h
  refine xi_getI D_Rd_takeNumber_70 F_Rd_34 (zl_fo (g13).1 rfl) ⟨rfl, by decide⟩ ?_
  refine xi_aload_n D_Rd_takeNumber_73 rfl ?_
  refine xi_getI D_Rd_takeNumber_74 F_Rd_63 (zl_fo (g13).1 rfl) ⟨rfl, by decide⟩ ?_
  refine xi_isub D_Rd_takeNumber_77 ?_
  refine xj_iconst (v := 4) D_Rd_takeNumber_78 rfl ?_
  refine xi_icmp_le D_Rd_takeNumber_79 (fun c14 => ?_) (fun c14 => ?_)
  · have h := okx_T c14 h
    refine xj_iconst (v := 3) D_Rd_takeNumber_86 rfl ?_
    exact xk_wk (w_Rd_takeNumber_b87 (by omega)  h) ⟨Or.inr rfl, trivial⟩
  · have h := okx_F c14 h
    refine xj_iconst (v := 1) D_Rd_takeNumber_82 rfl ?_
    refine xi_goto D_Rd_takeNumber_83 ?_
    exact xk_wk (w_Rd_takeNumber_b87 (by omega)  h) ⟨Or.inr rfl, trivial⟩
noncomputable def f_Rd_takeNumber_b5 (R5 : Sg → Option (Unit × Sg))  (s : Sg) : Option (Unit × Sg) :=
  f_ck (zl_B s) <|
  if (mI s 42 2) ≤ (mI s 42 3) then
    f_Rd_takeNumber_b68   s
  else
    f_ck (vp_in (mI s 42 3) 1000) <|
    f_bd (f_Rd_isDigit (mI s 43 (Int32.toNatClampNeg (mI s 42 3))) s) fun r6 s7 =>
    if r6 = 0 then
      f_Rd_takeNumber_b68   s7
    else
      f_ck (zl_B s7) <|
      f_ck (vp_in (mI s7 42 3) 1000) <|
      let s11 : Sg := uI s7 42 6 (((mI s7 42 6) * 10) + ((mI s7 43 (Int32.toNatClampNeg (mI s7 42 3))) - 48))
      let s12 : Sg := uI s11 42 3 ((mI s11 42 3) + 1)
      R5  s12
theorem w_Rd_takeNumber_b5 {s : Sg} {d : Nat} {Q : Option (Option Value) → Sg → Prop} (hd : 2 ≤ d) {R5 : Sg → Option (Unit × Sg)} (hR5 : ∀ (s : Sg), okx (zq_V Q) (R5  s) → Xw d M_Rd_takeNumber 0 0 5 [.ref 42] [] s Q) (h : okx (zq_V Q) (f_Rd_takeNumber_b5 R5  s)) : Xw d M_Rd_takeNumber 0 0 5 [.ref 42] [] s Q := by
  unfold f_Rd_takeNumber_b5 at h
  refine xi_aload_n D_Rd_takeNumber_5 rfl ?_
  obtain ⟨g3, h⟩ := okx_ck h
  refine xi_getI D_Rd_takeNumber_6 F_Rd_34 (zl_fo (g3).1 rfl) ⟨rfl, by decide⟩ ?_
  refine xi_aload_n D_Rd_takeNumber_9 rfl ?_
  refine xi_getI D_Rd_takeNumber_10 F_Rd_21 (zl_fo (g3).1 rfl) ⟨rfl, by decide⟩ ?_
  refine xi_icmp_ge D_Rd_takeNumber_13 (fun c4 => ?_) (fun c4 => ?_)
  · have h := okx_T c4 h
    exact w_Rd_takeNumber_b68 (by omega)  h
  · have h := okx_F c4 h
    refine xi_aload_n D_Rd_takeNumber_16 rfl ?_
    refine xi_getR D_Rd_takeNumber_17 F_Rd_9 (zl_fo (g3).1 rfl) ⟨rfl, by decide⟩ (zl_gr (g3).2 rfl rfl) ?_
    refine xi_aload_n D_Rd_takeNumber_20 rfl ?_
    refine xi_getI D_Rd_takeNumber_21 F_Rd_34 (zl_fo (g3).1 rfl) ⟨rfl, by decide⟩ ?_
    obtain ⟨g5, h⟩ := okx_ck h
    refine xj_cald D_Rd_takeNumber_24 (zl_fx (g3).1 rfl) (zl_ib (n := 1000) rfl (g5)) ?_
    refine xj_S1 D_Rd_takeNumber_25 L_Rd_127 C_Rd_isDigit Z_Rd_isDigit (Nat.le_of_ble_eq_true rfl) (Nat.le_of_eq (Nat.sub_add_cancel (by omega))) (w_Rd_isDigit (by omega) (okx_mono (okx_bd h) ?_))
    intro r6 s7 h
    show Xw _ _ _ _ 28 _ [_] _ _
    refine xi_if_eq D_Rd_takeNumber_28 (fun c8 => ?_) (fun c8 => ?_)
    · have h := okx_T c8 h
      exact w_Rd_takeNumber_b68 (by omega)  h
    · have h := okx_F c8 h
      refine xi_aload_n D_Rd_takeNumber_31 rfl ?_
      refine xi_aload_n D_Rd_takeNumber_32 rfl ?_
      obtain ⟨g9, h⟩ := okx_ck h
      refine xi_getI D_Rd_takeNumber_33 F_Rd_76 (zl_fo (g9).1 rfl) ⟨rfl, by decide⟩ ?_
      refine xi_bipush (v := 10) D_Rd_takeNumber_36 rfl ?_
      refine xi_imul D_Rd_takeNumber_38 ?_
      refine xi_aload_n D_Rd_takeNumber_39 rfl ?_
      refine xi_getR D_Rd_takeNumber_40 F_Rd_9 (zl_fo (g9).1 rfl) ⟨rfl, by decide⟩ (zl_gr (g9).2 rfl rfl) ?_
      refine xi_aload_n D_Rd_takeNumber_43 rfl ?_
      refine xi_getI D_Rd_takeNumber_44 F_Rd_34 (zl_fo (g9).1 rfl) ⟨rfl, by decide⟩ ?_
      obtain ⟨g10, h⟩ := okx_ck h
      refine xj_cald D_Rd_takeNumber_47 (zl_fx (g9).1 rfl) (zl_ib (n := 1000) rfl (g10)) ?_
      refine xi_bipush (v := 48) D_Rd_takeNumber_48 rfl ?_
      refine xi_isub D_Rd_takeNumber_50 ?_
      refine xi_iadd D_Rd_takeNumber_51 ?_
      refine xi_putI D_Rd_takeNumber_52 F_Rd_76 (zl_fo (g9).1 rfl) ⟨rfl, by decide, rfl⟩ (⟨rfl, rfl⟩) ?_
      refine xi_aload_n D_Rd_takeNumber_55 rfl ?_
      refine xi_dupr D_Rd_takeNumber_56 ?_
      refine xi_getI D_Rd_takeNumber_57 F_Rd_34 (zl_fo (g9).1 rfl) ⟨rfl, by decide⟩ ?_
      refine xj_iconst (v := 1) D_Rd_takeNumber_60 rfl ?_
      refine xi_iadd D_Rd_takeNumber_61 ?_
      refine xi_putI D_Rd_takeNumber_62 F_Rd_34 (zl_fo (g9).1 rfl) ⟨rfl, by decide, rfl⟩ (⟨rfl, rfl⟩) ?_
      refine xi_goto D_Rd_takeNumber_65 ?_
      exact hR5 _ h
noncomputable def f_Rd_takeNumber_h5 : Nat → Sg → Option (Unit × Sg)
  | 0, _ => none
  | n + 1, s => f_Rd_takeNumber_b5 (f_Rd_takeNumber_h5 n)  s
theorem w_Rd_takeNumber_h5 {d : Nat} {Q : Option (Option Value) → Sg → Prop} (hd : 2 ≤ d) : ∀ (n : Nat) (s : Sg), okx (zq_V Q) (f_Rd_takeNumber_h5 n  s) → Xw d M_Rd_takeNumber 0 0 5 [.ref 42] [] s Q := by
  intro n
  induction n with
  | zero => intro  s h; exact okx_no h
  | succ n ih => intro  s h; exact w_Rd_takeNumber_b5 hd  ih  h
noncomputable def f_Rd_takeNumber  (s : Sg) : Option (Unit × Sg) :=
  f_ck (zl_B s) <|
  let s2 : Sg := uI s 42 6 0
  f_Rd_takeNumber_h5  zl_fl  s2
theorem w_Rd_takeNumber {s : Sg} {d : Nat} {Q : Option (Option Value) → Sg → Prop} (hd : 2 ≤ d) (h : okx (zq_V Q) (f_Rd_takeNumber  s)) : Cw d M_Rd_takeNumber [.ref 42] s Q := by
  refine Cw.of (by decide +kernel) (Nat.le_of_ble_eq_true rfl) ?_
  show Xw d M_Rd_takeNumber 0 0 0 [.ref 42] [] s _
  unfold f_Rd_takeNumber at h
  refine xi_aload_n D_Rd_takeNumber_0 rfl ?_
  refine xj_iconst (v := 0) D_Rd_takeNumber_1 rfl ?_
  obtain ⟨g1, h⟩ := okx_ck h
  refine xi_putI D_Rd_takeNumber_2 F_Rd_76 (zl_fo (g1).1 rfl) ⟨rfl, by decide, rfl⟩ (⟨rfl, rfl⟩) ?_
  exact w_Rd_takeNumber_h5 (by omega)  _ _ h
noncomputable def f_Rd_tokenOf (x0 : Int64) (s : Sg) : Option (Int32 × Sg) :=
  if (lg_cmp x0 123581014175598) = 0 then
    some (4, s)
  else
    if (lg_cmp x0 427071599731) = 0 then
      some (5, s)
    else
      if (lg_cmp x0 499967946343) = 0 then
        some (6, s)
      else
        if (lg_cmp x0 469785863539) = 0 then
          some (7, s)
        else
          if (lg_cmp x0 2003399784) = 0 then
            some (8, s)
          else
            if (lg_cmp x0 7237492) = 0 then
              some (9, s)
            else
              if (lg_cmp x0 6385252) = 0 then
                some (10, s)
              else
                if (lg_cmp x0 28530) = 0 then
                  some (11, s)
                else
                  some (2, s)
theorem w_Rd_tokenOf {x0 : Int64} {s : Sg} {d : Nat} {Q : Option (Option Value) → Sg → Prop} (hd : 1 ≤ d) (h : okx (zq_I Q) (f_Rd_tokenOf x0 s)) : Cw d M_Rd_tokenOf [.long x0] s Q := by
  refine Cw.of (by decide +kernel) (Nat.le_of_ble_eq_true rfl) ?_
  show Xw d M_Rd_tokenOf 0 0 0 [.long x0, .retAddr 0] [] s _
  unfold f_Rd_tokenOf at h
  refine xi_lload_n D_Rd_tokenOf_0 rfl ?_
  refine xi_ldc2 D_Rd_tokenOf_1 K_Rd_144 ?_
  refine xi_lcmp D_Rd_tokenOf_4 ?_
  refine xi_if_ne D_Rd_tokenOf_5 (fun c1 => ?_) (fun c1 => ?_)
  · have h := okx_F c1 h
    refine xi_lload_n D_Rd_tokenOf_10 rfl ?_
    refine xi_ldc2 D_Rd_tokenOf_11 K_Rd_146 ?_
    refine xi_lcmp D_Rd_tokenOf_14 ?_
    refine xi_if_ne D_Rd_tokenOf_15 (fun c2 => ?_) (fun c2 => ?_)
    · have h := okx_F c2 h
      refine xi_lload_n D_Rd_tokenOf_20 rfl ?_
      refine xi_ldc2 D_Rd_tokenOf_21 K_Rd_148 ?_
      refine xi_lcmp D_Rd_tokenOf_24 ?_
      refine xi_if_ne D_Rd_tokenOf_25 (fun c3 => ?_) (fun c3 => ?_)
      · have h := okx_F c3 h
        refine xi_lload_n D_Rd_tokenOf_31 rfl ?_
        refine xi_ldc2 D_Rd_tokenOf_32 K_Rd_150 ?_
        refine xi_lcmp D_Rd_tokenOf_35 ?_
        refine xi_if_ne D_Rd_tokenOf_36 (fun c4 => ?_) (fun c4 => ?_)
        · have h := okx_F c4 h
          refine xi_lload_n D_Rd_tokenOf_42 rfl ?_
          refine xi_ldc2 D_Rd_tokenOf_43 K_Rd_152 ?_
          refine xi_lcmp D_Rd_tokenOf_46 ?_
          refine xi_if_ne D_Rd_tokenOf_47 (fun c5 => ?_) (fun c5 => ?_)
          · have h := okx_F c5 h
            refine xi_lload_n D_Rd_tokenOf_53 rfl ?_
            refine xi_ldc2 D_Rd_tokenOf_54 K_Rd_154 ?_
            refine xi_lcmp D_Rd_tokenOf_57 ?_
            refine xi_if_ne D_Rd_tokenOf_58 (fun c6 => ?_) (fun c6 => ?_)
            · have h := okx_F c6 h
              refine xi_lload_n D_Rd_tokenOf_64 rfl ?_
              refine xi_ldc2 D_Rd_tokenOf_65 K_Rd_156 ?_
              refine xi_lcmp D_Rd_tokenOf_68 ?_
              refine xi_if_ne D_Rd_tokenOf_69 (fun c7 => ?_) (fun c7 => ?_)
              · have h := okx_F c7 h
                refine xi_lload_n D_Rd_tokenOf_75 rfl ?_
                refine xi_ldc2 D_Rd_tokenOf_76 K_Rd_158 ?_
                refine xi_lcmp D_Rd_tokenOf_79 ?_
                refine xi_if_ne D_Rd_tokenOf_80 (fun c8 => ?_) (fun c8 => ?_)
                · have h := okx_F c8 h
                  refine xj_iconst (v := 2) D_Rd_tokenOf_88 rfl ?_
                  exact xi_ireturn D_Rd_tokenOf_89 rfl (rfl) (okx_I h)
                · have h := okx_T c8 h
                  refine xi_bipush (v := 11) D_Rd_tokenOf_83 rfl ?_
                  refine xi_goto D_Rd_tokenOf_85 ?_
                  exact xi_ireturn D_Rd_tokenOf_89 rfl (rfl) (okx_I h)
              · have h := okx_T c7 h
                refine xi_bipush (v := 10) D_Rd_tokenOf_72 rfl ?_
                exact xi_ireturn D_Rd_tokenOf_74 rfl (rfl) (okx_I h)
            · have h := okx_T c6 h
              refine xi_bipush (v := 9) D_Rd_tokenOf_61 rfl ?_
              exact xi_ireturn D_Rd_tokenOf_63 rfl (rfl) (okx_I h)
          · have h := okx_T c5 h
            refine xi_bipush (v := 8) D_Rd_tokenOf_50 rfl ?_
            exact xi_ireturn D_Rd_tokenOf_52 rfl (rfl) (okx_I h)
        · have h := okx_T c4 h
          refine xi_bipush (v := 7) D_Rd_tokenOf_39 rfl ?_
          exact xi_ireturn D_Rd_tokenOf_41 rfl (rfl) (okx_I h)
      · have h := okx_T c3 h
        refine xi_bipush (v := 6) D_Rd_tokenOf_28 rfl ?_
        exact xi_ireturn D_Rd_tokenOf_30 rfl (rfl) (okx_I h)
    · have h := okx_T c2 h
      refine xj_iconst (v := 5) D_Rd_tokenOf_18 rfl ?_
      exact xi_ireturn D_Rd_tokenOf_19 rfl (rfl) (okx_I h)
  · have h := okx_T c1 h
    refine xj_iconst (v := 4) D_Rd_tokenOf_8 rfl ?_
    exact xi_ireturn D_Rd_tokenOf_9 rfl (rfl) (okx_I h)
noncomputable def f_Rd_takeWord_b92 (y1 : Int32) (s : Sg) : Option (Unit × Sg) :=
  f_ck (zl_B s) <|
  let s18 : Sg := uI s 42 4 y1
  some ((), s18)
theorem w_Rd_takeWord_b92 {y1 : Int32} {s : Sg} {d : Nat} {Q : Option (Option Value) → Sg → Prop} (hd : 2 ≤ d) (h : okx (zq_V Q) (f_Rd_takeWord_b92 y1 s)) : Xw d M_Rd_takeWord 0 0 92 [.retAddr 0] [.int y1, .ref 42] s Q := by
  unfold f_Rd_takeWord_b92 at h
  obtain ⟨g17, h⟩ := okx_ck h
  refine xi_putI D_Rd_takeWord_92 F_Rd_46 (zl_fo (g17).1 rfl) ⟨rfl, by decide, rfl⟩ (⟨rfl, rfl⟩) ?_
  exact xi_return D_Rd_takeWord_95 rfl (okx_V h)
noncomputable def f_Rd_takeWord_b66  (s : Sg) : Option (Unit × Sg) :=
  f_ck (zl_B s) <|
  if ((mI s 42 3) - (mI s 42 5)) ≤ 8 then
    f_bd (f_Rd_tokenOf (mL s 42 7) s) fun r15 s16 =>
    f_Rd_takeWord_b92  r15 s16
  else
    f_Rd_takeWord_b92  1 s
theorem w_Rd_takeWord_b66 {s : Sg} {d : Nat} {Q : Option (Option Value) → Sg → Prop} (hd : 2 ≤ d) (h : okx (zq_V Q) (f_Rd_takeWord_b66  s)) : Xw d M_Rd_takeWord 0 0 66 [.ref 42] [] s Q := by
  unfold f_Rd_takeWord_b66 at h
  refine xi_aload_n D_Rd_takeWord_66 rfl ?_
  refine xi_aload_n D_Rd_takeWord_67 rfl ?_
  obtain ⟨g13, h⟩ := okx_ck h
  refine xi_getI D_Rd_takeWord_68 F_Rd_34 (zl_fo (g13).1 rfl) ⟨rfl, by decide⟩ ?_
  refine xi_aload_n D_Rd_takeWord_71 rfl ?_
  refine xi_getI D_Rd_takeWord_72 F_Rd_63 (zl_fo (g13).1 rfl) ⟨rfl, by decide⟩ ?_
  refine xi_isub D_Rd_takeWord_75 ?_
  refine xi_bipush (v := 8) D_Rd_takeWord_76 rfl ?_
  refine xi_icmp_le D_Rd_takeWord_78 (fun c14 => ?_) (fun c14 => ?_)
  · have h := okx_T c14 h
    refine xi_aload_n D_Rd_takeWord_85 rfl ?_
    refine xi_getL D_Rd_takeWord_86 F_Rd_72 (zl_fo (g13).1 rfl) ⟨rfl, by decide⟩ ?_
    refine xj_S1 D_Rd_takeWord_89 L_Rd_140 C_Rd_tokenOf Z_Rd_tokenOf (Nat.le_of_ble_eq_true rfl) (Nat.le_of_eq (Nat.sub_add_cancel (by omega))) (w_Rd_tokenOf (by omega) (okx_mono (okx_bd h) ?_))
    intro r15 s16 h
    show Xw _ _ _ _ 92 _ [_, _] _ _
    exact xk_wk (w_Rd_takeWord_b92 (by omega)  h) ⟨Or.inr rfl, trivial⟩
  · have h := okx_F c14 h
    refine xj_iconst (v := 1) D_Rd_takeWord_81 rfl ?_
    refine xi_goto D_Rd_takeWord_82 ?_
    exact xk_wk (w_Rd_takeWord_b92 (by omega)  h) ⟨Or.inr rfl, trivial⟩
noncomputable def f_Rd_takeWord_b5 (R5 : Sg → Option (Unit × Sg))  (s : Sg) : Option (Unit × Sg) :=
  f_ck (zl_B s) <|
  if (mI s 42 2) ≤ (mI s 42 3) then
    f_Rd_takeWord_b66   s
  else
    f_ck (vp_in (mI s 42 3) 1000) <|
    f_bd (f_Rd_isLetter (mI s 43 (Int32.toNatClampNeg (mI s 42 3))) s) fun r6 s7 =>
    if r6 = 0 then
      f_Rd_takeWord_b66   s7
    else
      f_ck (zl_B s7) <|
      f_ck (vp_in (mI s7 42 3) 1000) <|
      let s11 : Sg := uL s7 42 7 (((mL s7 42 7) <<< (Int32.toInt64 8 &&& 63)) ||| (Int32.toInt64 (mI s7 43 (Int32.toNatClampNeg (mI s7 42 3)))))
      let s12 : Sg := uI s11 42 3 ((mI s11 42 3) + 1)
      R5  s12
theorem w_Rd_takeWord_b5 {s : Sg} {d : Nat} {Q : Option (Option Value) → Sg → Prop} (hd : 2 ≤ d) {R5 : Sg → Option (Unit × Sg)} (hR5 : ∀ (s : Sg), okx (zq_V Q) (R5  s) → Xw d M_Rd_takeWord 0 0 5 [.ref 42] [] s Q) (h : okx (zq_V Q) (f_Rd_takeWord_b5 R5  s)) : Xw d M_Rd_takeWord 0 0 5 [.ref 42] [] s Q := by
  unfold f_Rd_takeWord_b5 at h
  refine xi_aload_n D_Rd_takeWord_5 rfl ?_
  obtain ⟨g3, h⟩ := okx_ck h
  refine xi_getI D_Rd_takeWord_6 F_Rd_34 (zl_fo (g3).1 rfl) ⟨rfl, by decide⟩ ?_
  refine xi_aload_n D_Rd_takeWord_9 rfl ?_
  refine xi_getI D_Rd_takeWord_10 F_Rd_21 (zl_fo (g3).1 rfl) ⟨rfl, by decide⟩ ?_
  refine xi_icmp_ge D_Rd_takeWord_13 (fun c4 => ?_) (fun c4 => ?_)
  · have h := okx_T c4 h
    exact w_Rd_takeWord_b66 (by omega)  h
  · have h := okx_F c4 h
    refine xi_aload_n D_Rd_takeWord_16 rfl ?_
    refine xi_getR D_Rd_takeWord_17 F_Rd_9 (zl_fo (g3).1 rfl) ⟨rfl, by decide⟩ (zl_gr (g3).2 rfl rfl) ?_
    refine xi_aload_n D_Rd_takeWord_20 rfl ?_
    refine xi_getI D_Rd_takeWord_21 F_Rd_34 (zl_fo (g3).1 rfl) ⟨rfl, by decide⟩ ?_
    obtain ⟨g5, h⟩ := okx_ck h
    refine xj_cald D_Rd_takeWord_24 (zl_fx (g3).1 rfl) (zl_ib (n := 1000) rfl (g5)) ?_
    refine xj_S1 D_Rd_takeWord_25 L_Rd_120 C_Rd_isLetter Z_Rd_isLetter (Nat.le_of_ble_eq_true rfl) (Nat.le_of_eq (Nat.sub_add_cancel (by omega))) (w_Rd_isLetter (by omega) (okx_mono (okx_bd h) ?_))
    intro r6 s7 h
    show Xw _ _ _ _ 28 _ [_] _ _
    refine xi_if_eq D_Rd_takeWord_28 (fun c8 => ?_) (fun c8 => ?_)
    · have h := okx_T c8 h
      exact w_Rd_takeWord_b66 (by omega)  h
    · have h := okx_F c8 h
      refine xi_aload_n D_Rd_takeWord_31 rfl ?_
      refine xi_aload_n D_Rd_takeWord_32 rfl ?_
      obtain ⟨g9, h⟩ := okx_ck h
      refine xi_getL D_Rd_takeWord_33 F_Rd_72 (zl_fo (g9).1 rfl) ⟨rfl, by decide⟩ ?_
      refine xi_bipush (v := 8) D_Rd_takeWord_36 rfl ?_
      refine xi_lshl D_Rd_takeWord_38 ?_
      refine xi_aload_n D_Rd_takeWord_39 rfl ?_
      refine xi_getR D_Rd_takeWord_40 F_Rd_9 (zl_fo (g9).1 rfl) ⟨rfl, by decide⟩ (zl_gr (g9).2 rfl rfl) ?_
      refine xi_aload_n D_Rd_takeWord_43 rfl ?_
      refine xi_getI D_Rd_takeWord_44 F_Rd_34 (zl_fo (g9).1 rfl) ⟨rfl, by decide⟩ ?_
      obtain ⟨g10, h⟩ := okx_ck h
      refine xj_cald D_Rd_takeWord_47 (zl_fx (g9).1 rfl) (zl_ib (n := 1000) rfl (g10)) ?_
      refine xi_i2l D_Rd_takeWord_48 ?_
      refine xi_lor D_Rd_takeWord_49 ?_
      refine xi_putL D_Rd_takeWord_50 F_Rd_72 (zl_fo (g9).1 rfl) ⟨rfl, by decide, rfl⟩ rfl ?_
      refine xi_aload_n D_Rd_takeWord_53 rfl ?_
      refine xi_dupr D_Rd_takeWord_54 ?_
      refine xi_getI D_Rd_takeWord_55 F_Rd_34 (zl_fo (g9).1 rfl) ⟨rfl, by decide⟩ ?_
      refine xj_iconst (v := 1) D_Rd_takeWord_58 rfl ?_
      refine xi_iadd D_Rd_takeWord_59 ?_
      refine xi_putI D_Rd_takeWord_60 F_Rd_34 (zl_fo (g9).1 rfl) ⟨rfl, by decide, rfl⟩ (⟨rfl, rfl⟩) ?_
      refine xi_goto D_Rd_takeWord_63 ?_
      exact hR5 _ h
noncomputable def f_Rd_takeWord_h5 : Nat → Sg → Option (Unit × Sg)
  | 0, _ => none
  | n + 1, s => f_Rd_takeWord_b5 (f_Rd_takeWord_h5 n)  s
theorem w_Rd_takeWord_h5 {d : Nat} {Q : Option (Option Value) → Sg → Prop} (hd : 2 ≤ d) : ∀ (n : Nat) (s : Sg), okx (zq_V Q) (f_Rd_takeWord_h5 n  s) → Xw d M_Rd_takeWord 0 0 5 [.ref 42] [] s Q := by
  intro n
  induction n with
  | zero => intro  s h; exact okx_no h
  | succ n ih => intro  s h; exact w_Rd_takeWord_b5 hd  ih  h
noncomputable def f_Rd_takeWord  (s : Sg) : Option (Unit × Sg) :=
  f_ck (zl_B s) <|
  let s2 : Sg := uL s 42 7 0
  f_Rd_takeWord_h5  zl_fl  s2
theorem w_Rd_takeWord {s : Sg} {d : Nat} {Q : Option (Option Value) → Sg → Prop} (hd : 2 ≤ d) (h : okx (zq_V Q) (f_Rd_takeWord  s)) : Cw d M_Rd_takeWord [.ref 42] s Q := by
  refine Cw.of (by decide +kernel) (Nat.le_of_ble_eq_true rfl) ?_
  show Xw d M_Rd_takeWord 0 0 0 [.ref 42] [] s _
  unfold f_Rd_takeWord at h
  refine xi_aload_n D_Rd_takeWord_0 rfl ?_
  refine xj_lconst (v := 0) D_Rd_takeWord_1 rfl ?_
  obtain ⟨g1, h⟩ := okx_ck h
  refine xi_putL D_Rd_takeWord_2 F_Rd_72 (zl_fo (g1).1 rfl) ⟨rfl, by decide, rfl⟩ rfl ?_
  exact w_Rd_takeWord_h5 (by omega)  _ _ h
noncomputable def f_Sl_canEncode (x0 : Int32) (s : Sg) : Option (Int32 × Sg) :=
  if x0 < 0 then
    some (0, s)
  else
    if 255 < x0 then
      some (0, s)
    else
      some (1, s)
theorem w_Sl_canEncode {x0 : Int32} {s : Sg} {d : Nat} {Q : Option (Option Value) → Sg → Prop} (hd : 1 ≤ d) (h : okx (zq_I Q) (f_Sl_canEncode x0 s)) : Cw d M_Sl_canEncode [.int x0] s Q := by
  refine Cw.of (by decide +kernel) (Nat.le_of_ble_eq_true rfl) ?_
  show Xw d M_Sl_canEncode 0 0 0 [.int x0] [] s _
  unfold f_Sl_canEncode at h
  refine xi_iload_n D_Sl_canEncode_0 rfl ?_
  refine xi_if_lt D_Sl_canEncode_1 (fun c1 => ?_) (fun c1 => ?_)
  · have h := okx_T c1 h
    refine xj_iconst (v := 0) D_Sl_canEncode_15 rfl ?_
    exact xi_ireturn D_Sl_canEncode_16 rfl (rfl) (okx_I h)
  · have h := okx_F c1 h
    refine xi_iload_n D_Sl_canEncode_4 rfl ?_
    refine xi_sipush (v := 255) D_Sl_canEncode_5 rfl ?_
    refine xi_icmp_gt D_Sl_canEncode_8 (fun c2 => ?_) (fun c2 => ?_)
    · have h := okx_T c2 h
      refine xj_iconst (v := 0) D_Sl_canEncode_15 rfl ?_
      exact xi_ireturn D_Sl_canEncode_16 rfl (rfl) (okx_I h)
    · have h := okx_F c2 h
      refine xj_iconst (v := 1) D_Sl_canEncode_11 rfl ?_
      refine xi_goto D_Sl_canEncode_12 ?_
      exact xi_ireturn D_Sl_canEncode_16 rfl (rfl) (okx_I h)
noncomputable def f_Sl_indexOfChar_b7 (R7 : Int32 → Int32 → Int32 → Sg → Option (Int32 × Sg)) (x3 : Int32) (x4 : Int32) (x5 : Int32) (s : Sg) : Option (Int32 × Sg) :=
  if x3 ≤ x5 then
    some ((-1), s)
  else
    f_ck (vp_in x5 8) <|
    if (mI s 3 (Int32.toNatClampNeg x5)) = x4 then
      some (x5, s)
    else
      R7 x3 x4 (x5 + 1) s
theorem w_Sl_indexOfChar_b7 {x3 : Int32} {x4 : Int32} {x5 : Int32} {s : Sg} {d : Nat} {Q : Option (Option Value) → Sg → Prop} (hd : 1 ≤ d) {R7 : Int32 → Int32 → Int32 → Sg → Option (Int32 × Sg)} (hR7 : ∀ (x3 : Int32) (x4 : Int32) (x5 : Int32) (s : Sg), okx (zq_I Q) (R7 x3 x4 x5 s) → Xw d M_Sl_indexOfChar 0 0 7 [.ref 3, .retAddr 0, .retAddr 0, .int x3, .int x4, .int x5] [] s Q) (h : okx (zq_I Q) (f_Sl_indexOfChar_b7 R7 x3 x4 x5 s)) : Xw d M_Sl_indexOfChar 0 0 7 [.ref 3, .retAddr 0, .retAddr 0, .int x3, .int x4, .int x5] [] s Q := by
  unfold f_Sl_indexOfChar_b7 at h
  refine xi_iload D_Sl_indexOfChar_7 rfl ?_
  refine xi_iload_n D_Sl_indexOfChar_9 rfl ?_
  refine xi_icmp_ge D_Sl_indexOfChar_10 (fun c1 => ?_) (fun c1 => ?_)
  · have h := okx_T c1 h
    refine xj_iconst (v := (-1)) D_Sl_indexOfChar_31 rfl ?_
    exact xi_ireturn D_Sl_indexOfChar_32 rfl (rfl) (okx_I h)
  · have h := okx_F c1 h
    refine xi_aload_n D_Sl_indexOfChar_13 rfl ?_
    refine xi_iload D_Sl_indexOfChar_14 rfl ?_
    obtain ⟨g2, h⟩ := okx_ck h
    refine xi_byld D_Sl_indexOfChar_16 g2 ?_
    refine xi_iload D_Sl_indexOfChar_17 rfl ?_
    refine xi_icmp_ne D_Sl_indexOfChar_19 (fun c3 => ?_) (fun c3 => ?_)
    · have h := okx_F c3 h
      refine xi_iinc (v := _ + 1) (ls' := [_, _, _, _, _, _]) D_Sl_indexOfChar_25 rfl rfl rfl (by decide) ?_
      refine xi_goto D_Sl_indexOfChar_28 ?_
      exact hR7 _ _ _ _ h
    · have h := okx_T c3 h
      refine xi_iload D_Sl_indexOfChar_22 rfl ?_
      exact xi_ireturn D_Sl_indexOfChar_24 rfl (rfl) (okx_I h)
noncomputable def f_Sl_indexOfChar_h7 : Nat → Int32 → Int32 → Int32 → Sg → Option (Int32 × Sg)
  | 0, _, _, _, _ => none
  | n + 1, x3, x4, x5, s => f_Sl_indexOfChar_b7 (f_Sl_indexOfChar_h7 n) x3 x4 x5 s
theorem w_Sl_indexOfChar_h7 {d : Nat} {Q : Option (Option Value) → Sg → Prop} (hd : 1 ≤ d) : ∀ (n : Nat) (x3 : Int32) (x4 : Int32) (x5 : Int32) (s : Sg), okx (zq_I Q) (f_Sl_indexOfChar_h7 n x3 x4 x5 s) → Xw d M_Sl_indexOfChar 0 0 7 [.ref 3, .retAddr 0, .retAddr 0, .int x3, .int x4, .int x5] [] s Q := by
  intro n
  induction n with
  | zero => intro x3 x4 x5 s h; exact okx_no h
  | succ n ih => intro x3 x4 x5 s h; exact w_Sl_indexOfChar_b7 hd  ih  h
noncomputable def f_Sl_indexOfChar (x1 : Int32) (x2 : Int32) (x3 : Int32) (s : Sg) : Option (Int32 × Sg) :=
  f_Sl_indexOfChar_h7  zl_fl x3 ((Int32.toInt8 x1).toInt32) x2 s
theorem w_Sl_indexOfChar {x1 : Int32} {x2 : Int32} {x3 : Int32} {s : Sg} {d : Nat} {Q : Option (Option Value) → Sg → Prop} (hd : 1 ≤ d) (h : okx (zq_I Q) (f_Sl_indexOfChar x1 x2 x3 s)) : Cw d M_Sl_indexOfChar [.ref 3, .int x1, .int x2, .int x3] s Q := by
  refine Cw.of (by decide +kernel) (Nat.le_of_ble_eq_true rfl) ?_
  show Xw d M_Sl_indexOfChar 0 0 0 [.ref 3, .int x1, .int x2, .int x3, .retAddr 0, .retAddr 0] [] s _
  unfold f_Sl_indexOfChar at h
  refine xi_iload_n D_Sl_indexOfChar_0 rfl ?_
  refine xi_i2b D_Sl_indexOfChar_1 ?_
  refine xi_istore (ls' := [_, _, _, _, _, _]) D_Sl_indexOfChar_2 rfl (by decide) ?_
  refine xi_iload_n D_Sl_indexOfChar_4 rfl ?_
  refine xi_istore (ls' := [_, _, _, _, _, _]) D_Sl_indexOfChar_5 rfl (by decide) ?_
  exact xk_wk (w_Sl_indexOfChar_h7 (by omega)  _ _ _ _ _ h) ⟨Or.inl rfl, Or.inr rfl, Or.inr rfl, Or.inl rfl, Or.inl rfl, Or.inl rfl, trivial⟩
noncomputable def f_Sl_indexOf (x1 : Int32) (x2 : Int32) (x3 : Int32) (s : Sg) : Option (Int32 × Sg) :=
  f_bd (f_Sl_canEncode x1 s) fun r1 s2 =>
  if r1 = 0 then
    some ((-1), s2)
  else
    if (if x2 < (0 : Int32) then (0 : Int32) else x2) < (if (8 : Int32) < x3 then (8 : Int32) else x3) then
      f_bd (f_Sl_indexOfChar x1 (if x2 < (0 : Int32) then (0 : Int32) else x2) (if (8 : Int32) < x3 then (8 : Int32) else x3) s2) fun r5 s6 =>
      some (r5, s6)
    else
      some ((-1), s2)
theorem w_Sl_indexOf {x1 : Int32} {x2 : Int32} {x3 : Int32} {s : Sg} {d : Nat} {Q : Option (Option Value) → Sg → Prop} (hd : 2 ≤ d) (h : okx (zq_I Q) (f_Sl_indexOf x1 x2 x3 s)) : Cw d M_Sl_indexOf [.ref 3, .int x1, .int x2, .int x3] s Q := by
  refine Cw.of (by decide +kernel) (Nat.le_of_ble_eq_true rfl) ?_
  show Xw d M_Sl_indexOf 0 0 0 [.ref 3, .int x1, .int x2, .int x3] [] s _
  unfold f_Sl_indexOf at h
  refine xi_iload_n D_Sl_indexOf_0 rfl ?_
  refine xj_S1 D_Sl_indexOf_1 L_Sl_88 C_Sl_canEncode Z_Sl_canEncode (Nat.le_of_ble_eq_true rfl) (Nat.le_of_eq (Nat.sub_add_cancel (by omega))) (w_Sl_canEncode (by omega) (okx_mono (okx_bd h) ?_))
  intro r1 s2 h
  show Xw _ _ _ _ 4 _ [_] _ _
  refine xi_if_ne D_Sl_indexOf_4 (fun c3 => ?_) (fun c3 => ?_)
  · have h := okx_F c3 h
    refine xi_iload_n D_Sl_indexOf_9 rfl ?_
    refine xj_iconst (v := 0) D_Sl_indexOf_10 rfl ?_
    refine xi_maxi D_Sl_indexOf_11 L_Sl_92 ⟨by omega, Nat.le_of_ble_eq_true rfl⟩ ?_
    refine xi_istore_n (ls' := [_, _, _, _]) D_Sl_indexOf_14 rfl (by decide) ?_
    refine xi_iload_n D_Sl_indexOf_15 rfl ?_
    refine xi_aload_n D_Sl_indexOf_16 rfl ?_
    refine xi_bylen D_Sl_indexOf_17 ?_
    refine xi_mini D_Sl_indexOf_18 L_Sl_38 ⟨by omega, Nat.le_of_ble_eq_true rfl⟩ ?_
    refine xi_istore_n (ls' := [_, _, _, _]) D_Sl_indexOf_21 rfl (by decide) ?_
    refine xi_iload_n D_Sl_indexOf_22 rfl ?_
    refine xi_iload_n D_Sl_indexOf_23 rfl ?_
    refine xi_icmp_lt D_Sl_indexOf_24 (fun c4 => ?_) (fun c4 => ?_)
    · have h := okx_T c4 h
      refine xi_aload_n D_Sl_indexOf_29 rfl ?_
      refine xi_iload_n D_Sl_indexOf_30 rfl ?_
      refine xi_iload_n D_Sl_indexOf_31 rfl ?_
      refine xi_iload_n D_Sl_indexOf_32 rfl ?_
      refine xj_S4 D_Sl_indexOf_33 L_Sl_95 C_Sl_indexOfChar Z_Sl_indexOfChar (Nat.le_of_ble_eq_true rfl) (Nat.le_of_eq (Nat.sub_add_cancel (by omega))) (w_Sl_indexOfChar (by omega) (okx_mono (okx_bd h) ?_))
      intro r5 s6 h
      show Xw _ _ _ _ 36 _ [_] _ _
      exact xi_ireturn D_Sl_indexOf_36 rfl (rfl) (okx_I h)
    · have h := okx_F c4 h
      refine xj_iconst (v := (-1)) D_Sl_indexOf_27 rfl ?_
      exact xi_ireturn D_Sl_indexOf_28 rfl (rfl) (okx_I h)
  · have h := okx_T c3 h
    refine xj_iconst (v := (-1)) D_Sl_indexOf_7 rfl ?_
    exact xi_ireturn D_Sl_indexOf_8 rfl (rfl) (okx_I h)
noncomputable def f_St_isLatin1  (s : Sg) : Option (Int32 × Sg) :=
  some (1, s)
theorem w_St_isLatin1 {s : Sg} {d : Nat} {Q : Option (Option Value) → Sg → Prop} (hd : 1 ≤ d) (h : okx (zq_I Q) (f_St_isLatin1  s)) : Cw d M_St_isLatin1 [.ref 2] s Q := by
  refine Cw.of (by decide +kernel) (Nat.le_of_ble_eq_true rfl) ?_
  show Xw d M_St_isLatin1 0 0 0 [.ref 2] [] s _
  unfold f_St_isLatin1 at h
  refine xi_compact D_St_isLatin1_0 F_St_38 ?_
  refine xi_if_eq D_St_isLatin1_3 (fun h9 => absurd h9 (by decide)) (fun _ => ?_)
  refine xi_aload_n D_St_isLatin1_6 rfl ?_
  refine xi_strcod D_St_isLatin1_7 F_St_15 ?_
  refine xi_if_ne D_St_isLatin1_10 (fun h9 => absurd (by decide) h9) (fun _ => ?_)
  refine xj_iconst (v := 1) D_St_isLatin1_13 rfl ?_
  refine xi_goto D_St_isLatin1_14 ?_
  exact xi_ireturn D_St_isLatin1_18 rfl (rfl) (okx_I h)
noncomputable def f_St_coder  (s : Sg) : Option (Int32 × Sg) :=
  some (0, s)
theorem w_St_coder {s : Sg} {d : Nat} {Q : Option (Option Value) → Sg → Prop} (hd : 1 ≤ d) (h : okx (zq_I Q) (f_St_coder  s)) : Cw d M_St_coder [.ref 2] s Q := by
  refine Cw.of (by decide +kernel) (Nat.le_of_ble_eq_true rfl) ?_
  show Xw d M_St_coder 0 0 0 [.ref 2] [] s _
  unfold f_St_coder at h
  refine xi_compact D_St_coder_0 F_St_38 ?_
  refine xi_if_eq D_St_coder_3 (fun h9 => absurd h9 (by decide)) (fun _ => ?_)
  refine xi_aload_n D_St_coder_6 rfl ?_
  refine xi_strcod D_St_coder_7 F_St_15 ?_
  refine xi_goto D_St_coder_10 ?_
  exact xi_ireturn D_St_coder_14 rfl (rfl) (okx_I h)
noncomputable def f_St_length  (s : Sg) : Option (Int32 × Sg) :=
  f_bd (f_St_coder  s) fun r1 s2 =>
  some (((8 : Int32) >>> (r1 &&& 31)), s2)
theorem w_St_length {s : Sg} {d : Nat} {Q : Option (Option Value) → Sg → Prop} (hd : 2 ≤ d) (h : okx (zq_I Q) (f_St_length  s)) : Cw d M_St_length [.ref 2] s Q := by
  refine Cw.of (by decide +kernel) (Nat.le_of_ble_eq_true rfl) ?_
  show Xw d M_St_length 0 0 0 [.ref 2] [] s _
  unfold f_St_length at h
  refine xi_aload_n D_St_length_0 rfl ?_
  refine xi_strval D_St_length_1 F_St_9 ?_
  refine xi_bylen D_St_length_4 ?_
  refine xi_aload_n D_St_length_5 rfl ?_
  refine xj_VS0 D_St_length_6 L_St_335 W_St_coder N_St_coder (by decide) rfl Z_St_coder (Nat.le_of_ble_eq_true rfl) (Nat.le_of_eq (Nat.sub_add_cancel (by omega))) (w_St_coder (by omega) (okx_mono (okx_bd h) ?_))
  intro r1 s2 h
  show Xw _ _ _ _ 9 _ [_, _] _ _
  refine xi_ishr D_St_length_9 ?_
  exact xi_ireturn D_St_length_10 rfl (rfl) (okx_I h)
noncomputable def f_St_indexOf_III (x1 : Int32) (x2 : Int32) (s : Sg) : Option (Int32 × Sg) :=
  f_bd (f_St_isLatin1  s) fun r1 s2 =>
  if r1 = 0 then
    f_bd (f_St_length  s2) fun r4 s5 =>
    none
  else
    f_bd (f_St_length  s2) fun r6 s7 =>
    f_bd (f_Sl_indexOf x1 x2 r6 s7) fun r8 s9 =>
    some (r8, s9)
theorem w_St_indexOf_III {x1 : Int32} {x2 : Int32} {s : Sg} {d : Nat} {Q : Option (Option Value) → Sg → Prop} (hd : 3 ≤ d) (h : okx (zq_I Q) (f_St_indexOf_III x1 x2 s)) : Cw d M_St_indexOf_III [.ref 2, .int x1, .int x2] s Q := by
  refine Cw.of (by decide +kernel) (Nat.le_of_ble_eq_true rfl) ?_
  show Xw d M_St_indexOf_III 0 0 0 [.ref 2, .int x1, .int x2] [] s _
  unfold f_St_indexOf_III at h
  refine xi_aload_n D_St_indexOf_III_0 rfl ?_
  refine xj_VS0 D_St_indexOf_III_1 L_St_492 W_St_isLatin1 N_St_isLatin1 (by decide) rfl Z_St_isLatin1 (Nat.le_of_ble_eq_true rfl) (Nat.le_of_eq (Nat.sub_add_cancel (by omega))) (w_St_isLatin1 (by omega) (okx_mono (okx_bd h) ?_))
  intro r1 s2 h
  show Xw _ _ _ _ 4 _ [_] _ _
  refine xi_if_eq D_St_indexOf_III_4 (fun c3 => ?_) (fun c3 => ?_)
  · have h := okx_T c3 h
    refine xi_aload_n D_St_indexOf_III_23 rfl ?_
    refine xi_strval D_St_indexOf_III_24 F_St_9 ?_
    refine xi_iload_n D_St_indexOf_III_27 rfl ?_
    refine xi_iload_n D_St_indexOf_III_28 rfl ?_
    refine xi_aload_n D_St_indexOf_III_29 rfl ?_
    refine xj_VS0 D_St_indexOf_III_30 L_St_505 W_St_length N_St_length (by decide) rfl Z_St_length (Nat.le_of_ble_eq_true rfl) (Nat.le_of_eq (Nat.sub_add_cancel (by omega))) (w_St_length (by omega) (okx_mono (okx_bd h) ?_))
    intro r4 s5 h
    show Xw _ _ _ _ 33 _ [_, _, _, _] _ _
    exact okx_no h
  · have h := okx_F c3 h
    refine xi_aload_n D_St_indexOf_III_7 rfl ?_
    refine xi_strval D_St_indexOf_III_8 F_St_9 ?_
    refine xi_iload_n D_St_indexOf_III_11 rfl ?_
    refine xi_iload_n D_St_indexOf_III_12 rfl ?_
    refine xi_aload_n D_St_indexOf_III_13 rfl ?_
    refine xj_VS0 D_St_indexOf_III_14 L_St_505 W_St_length N_St_length (by decide) rfl Z_St_length (Nat.le_of_ble_eq_true rfl) (Nat.le_of_eq (Nat.sub_add_cancel (by omega))) (w_St_length (by omega) (okx_mono (okx_bd h) ?_))
    intro r6 s7 h
    show Xw _ _ _ _ 17 _ [_, _, _, _] _ _
    refine xj_S4 D_St_indexOf_III_17 L_St_637 C_Sl_indexOf Z_Sl_indexOf (Nat.le_of_ble_eq_true rfl) (Nat.le_of_eq (Nat.sub_add_cancel (by omega))) (w_Sl_indexOf (by omega) (okx_mono (okx_bd h) ?_))
    intro r8 s9 h
    show Xw _ _ _ _ 20 _ [_] _ _
    refine xi_goto D_St_indexOf_III_20 ?_
    exact xi_ireturn D_St_indexOf_III_36 rfl (rfl) (okx_I h)
noncomputable def f_St_indexOf_II (x1 : Int32) (s : Sg) : Option (Int32 × Sg) :=
  f_bd (f_St_indexOf_III x1 0 s) fun r1 s2 =>
  some (r1, s2)
theorem w_St_indexOf_II {x1 : Int32} {s : Sg} {d : Nat} {Q : Option (Option Value) → Sg → Prop} (hd : 4 ≤ d) (h : okx (zq_I Q) (f_St_indexOf_II x1 s)) : Cw d M_St_indexOf_II [.ref 2, .int x1] s Q := by
  refine Cw.of (by decide +kernel) (Nat.le_of_ble_eq_true rfl) ?_
  show Xw d M_St_indexOf_II 0 0 0 [.ref 2, .int x1] [] s _
  unfold f_St_indexOf_II at h
  refine xi_aload_n D_St_indexOf_II_0 rfl ?_
  refine xi_iload_n D_St_indexOf_II_1 rfl ?_
  refine xj_iconst (v := 0) D_St_indexOf_II_2 rfl ?_
  refine xj_VS2 D_St_indexOf_II_3 L_St_633 W_St_indexOf_III N_St_indexOf_III (by decide) rfl Z_St_indexOf_III (Nat.le_of_ble_eq_true rfl) (Nat.le_of_eq (Nat.sub_add_cancel (by omega))) (w_St_indexOf_III (by omega) (okx_mono (okx_bd h) ?_))
  intro r1 s2 h
  show Xw _ _ _ _ 6 _ [_] _ _
  exact xi_ireturn D_St_indexOf_II_6 rfl (rfl) (okx_I h)
noncomputable def f_Rd_take_b39 (R0 : Sg → Option (Unit × Sg))  (s : Sg) : Option (Unit × Sg) :=
  f_ck (zl_B s) <|
  let s8 : Sg := uI s 42 3 ((mI s 42 3) + 1)
  R0  s8
theorem w_Rd_take_b39 {s : Sg} {d : Nat} {Q : Option (Option Value) → Sg → Prop} (hd : 5 ≤ d) {R0 : Sg → Option (Unit × Sg)} (hR0 : ∀ (s : Sg), okx (zq_V Q) (R0  s) → Xw d M_Rd_take 0 0 0 [.ref 42] [] s Q) (h : okx (zq_V Q) (f_Rd_take_b39 R0  s)) : Xw d M_Rd_take 0 0 39 [.ref 42] [] s Q := by
  unfold f_Rd_take_b39 at h
  refine xi_aload_n D_Rd_take_39 rfl ?_
  refine xi_dupr D_Rd_take_40 ?_
  obtain ⟨g7, h⟩ := okx_ck h
  refine xi_getI D_Rd_take_41 F_Rd_34 (zl_fo (g7).1 rfl) ⟨rfl, by decide⟩ ?_
  refine xj_iconst (v := 1) D_Rd_take_44 rfl ?_
  refine xi_iadd D_Rd_take_45 ?_
  refine xi_putI D_Rd_take_46 F_Rd_34 (zl_fo (g7).1 rfl) ⟨rfl, by decide, rfl⟩ (⟨rfl, rfl⟩) ?_
  refine xi_goto D_Rd_take_49 ?_
  exact hR0 _ h
noncomputable def f_Rd_take_b154 (y1 : Int32) (s : Sg) : Option (Unit × Sg) :=
  f_ck (zl_B s) <|
  let s36 : Sg := uI s 42 4 y1
  let s37 : Sg := uI s36 42 3 ((mI s36 42 3) + 1)
  some ((), s37)
theorem w_Rd_take_b154 {y1 : Int32} {s : Sg} {d : Nat} {Q : Option (Option Value) → Sg → Prop} (hd : 5 ≤ d) (h : okx (zq_V Q) (f_Rd_take_b154 y1 s)) : Xw d M_Rd_take 0 0 154 [.ref 42] [.int y1, .ref 42] s Q := by
  unfold f_Rd_take_b154 at h
  obtain ⟨g35, h⟩ := okx_ck h
  refine xi_putI D_Rd_take_154 F_Rd_46 (zl_fo (g35).1 rfl) ⟨rfl, by decide, rfl⟩ (⟨rfl, rfl⟩) ?_
  refine xi_aload_n D_Rd_take_157 rfl ?_
  refine xi_dupr D_Rd_take_158 ?_
  refine xi_getI D_Rd_take_159 F_Rd_34 (zl_fo (g35).1 rfl) ⟨rfl, by decide⟩ ?_
  refine xj_iconst (v := 1) D_Rd_take_162 rfl ?_
  refine xi_iadd D_Rd_take_163 ?_
  refine xi_putI D_Rd_take_164 F_Rd_34 (zl_fo (g35).1 rfl) ⟨rfl, by decide, rfl⟩ (⟨rfl, rfl⟩) ?_
  exact xi_return D_Rd_take_167 rfl (okx_V h)
noncomputable def f_Rd_take_b52  (s : Sg) : Option (Unit × Sg) :=
  f_ck (zl_B s) <|
  let s10 : Sg := uI s 42 5 (mI s 42 3)
  if (mI s10 42 3) < (mI s10 42 2) then
    f_ck (vp_in (mI s10 42 3) 1000) <|
    f_bd (f_Rd_isLetter (mI s10 43 (Int32.toNatClampNeg (mI s10 42 3))) s10) fun r13 s14 =>
    if r13 = 0 then
      f_ck (zl_B s14) <|
      f_ck (vp_in (mI s14 42 3) 1000) <|
      f_bd (f_Rd_isDigit (mI s14 43 (Int32.toNatClampNeg (mI s14 42 3))) s14) fun r18 s19 =>
      if r18 = 0 then
        f_ck (zl_B s19) <|
        f_ck (vp_in (mI s19 42 3) 1000) <|
        f_bd (f_St_indexOf_II (mI s19 43 (Int32.toNatClampNeg (mI s19 42 3))) s19) fun r23 s24 =>
        if r23 < 0 then
          f_Rd_take_b154  1 s24
        else
          f_ck (zl_B s24) <|
          f_ck (vp_in (mI s24 42 3) 1000) <|
          f_Rd_take_b154  (mI s24 43 (Int32.toNatClampNeg (mI s24 42 3))) s24
      else
        f_ck (zl_B s19) <|
        f_bd (f_Rd_takeNumber  s19) fun r29 s30 =>
        some ((), s30)
    else
      f_ck (zl_B s14) <|
      f_bd (f_Rd_takeWord  s14) fun r32 s33 =>
      some ((), s33)
  else
    let s34 : Sg := uI s10 42 4 0
    some ((), s34)
theorem w_Rd_take_b52 {s : Sg} {d : Nat} {Q : Option (Option Value) → Sg → Prop} (hd : 5 ≤ d) (h : okx (zq_V Q) (f_Rd_take_b52  s)) : Xw d M_Rd_take 0 0 52 [.ref 42] [] s Q := by
  unfold f_Rd_take_b52 at h
  refine xi_aload_n D_Rd_take_52 rfl ?_
  refine xi_aload_n D_Rd_take_53 rfl ?_
  obtain ⟨g9, h⟩ := okx_ck h
  refine xi_getI D_Rd_take_54 F_Rd_34 (zl_fo (g9).1 rfl) ⟨rfl, by decide⟩ ?_
  refine xi_putI D_Rd_take_57 F_Rd_63 (zl_fo (g9).1 rfl) ⟨rfl, by decide, rfl⟩ (⟨rfl, rfl⟩) ?_
  refine xi_aload_n D_Rd_take_60 rfl ?_
  refine xi_getI D_Rd_take_61 F_Rd_34 (zl_fo (g9).1 rfl) ⟨rfl, by decide⟩ ?_
  refine xi_aload_n D_Rd_take_64 rfl ?_
  refine xi_getI D_Rd_take_65 F_Rd_21 (zl_fo (g9).1 rfl) ⟨rfl, by decide⟩ ?_
  refine xi_icmp_lt D_Rd_take_68 (fun c11 => ?_) (fun c11 => ?_)
  · have h := okx_T c11 h
    refine xi_aload_n D_Rd_take_79 rfl ?_
    refine xi_getR D_Rd_take_80 F_Rd_9 (zl_fo (g9).1 rfl) ⟨rfl, by decide⟩ (zl_gr (g9).2 rfl rfl) ?_
    refine xi_aload_n D_Rd_take_83 rfl ?_
    refine xi_getI D_Rd_take_84 F_Rd_34 (zl_fo (g9).1 rfl) ⟨rfl, by decide⟩ ?_
    obtain ⟨g12, h⟩ := okx_ck h
    refine xj_cald D_Rd_take_87 (zl_fx (g9).1 rfl) (zl_ib (n := 1000) rfl (g12)) ?_
    refine xj_S1 D_Rd_take_88 L_Rd_120 C_Rd_isLetter Z_Rd_isLetter (Nat.le_of_ble_eq_true rfl) (Nat.le_of_eq (Nat.sub_add_cancel (by omega))) (w_Rd_isLetter (by omega) (okx_mono (okx_bd h) ?_))
    intro r13 s14 h
    show Xw _ _ _ _ 91 _ [_] _ _
    refine xi_if_eq D_Rd_take_91 (fun c15 => ?_) (fun c15 => ?_)
    · have h := okx_T c15 h
      refine xi_aload_n D_Rd_take_101 rfl ?_
      obtain ⟨g16, h⟩ := okx_ck h
      refine xi_getR D_Rd_take_102 F_Rd_9 (zl_fo (g16).1 rfl) ⟨rfl, by decide⟩ (zl_gr (g16).2 rfl rfl) ?_
      refine xi_aload_n D_Rd_take_105 rfl ?_
      refine xi_getI D_Rd_take_106 F_Rd_34 (zl_fo (g16).1 rfl) ⟨rfl, by decide⟩ ?_
      obtain ⟨g17, h⟩ := okx_ck h
      refine xj_cald D_Rd_take_109 (zl_fx (g16).1 rfl) (zl_ib (n := 1000) rfl (g17)) ?_
      refine xj_S1 D_Rd_take_110 L_Rd_127 C_Rd_isDigit Z_Rd_isDigit (Nat.le_of_ble_eq_true rfl) (Nat.le_of_eq (Nat.sub_add_cancel (by omega))) (w_Rd_isDigit (by omega) (okx_mono (okx_bd h) ?_))
      intro r18 s19 h
      show Xw _ _ _ _ 113 _ [_] _ _
      refine xi_if_eq D_Rd_take_113 (fun c20 => ?_) (fun c20 => ?_)
      · have h := okx_T c20 h
        refine xi_aload_n D_Rd_take_123 rfl ?_
        refine xi_signs D_Rd_take_124 rfl ?_
        refine xi_aload_n D_Rd_take_126 rfl ?_
        obtain ⟨g21, h⟩ := okx_ck h
        refine xi_getR D_Rd_take_127 F_Rd_9 (zl_fo (g21).1 rfl) ⟨rfl, by decide⟩ (zl_gr (g21).2 rfl rfl) ?_
        refine xi_aload_n D_Rd_take_130 rfl ?_
        refine xi_getI D_Rd_take_131 F_Rd_34 (zl_fo (g21).1 rfl) ⟨rfl, by decide⟩ ?_
        obtain ⟨g22, h⟩ := okx_ck h
        refine xj_cald D_Rd_take_134 (zl_fx (g21).1 rfl) (zl_ib (n := 1000) rfl (g22)) ?_
        refine xj_VS1 D_Rd_take_135 L_Rd_135 W_St_indexOf_II N_St_indexOf_II (by decide) rfl Z_St_indexOf_II (Nat.le_of_ble_eq_true rfl) (Nat.le_of_eq (Nat.sub_add_cancel (by omega))) (w_St_indexOf_II (by omega) (okx_mono (okx_bd h) ?_))
        intro r23 s24 h
        show Xw _ _ _ _ 138 _ [_, _] _ _
        refine xi_if_lt D_Rd_take_138 (fun c25 => ?_) (fun c25 => ?_)
        · have h := okx_T c25 h
          refine xj_iconst (v := 1) D_Rd_take_153 rfl ?_
          exact w_Rd_take_b154 (by omega)  h
        · have h := okx_F c25 h
          refine xi_aload_n D_Rd_take_141 rfl ?_
          obtain ⟨g26, h⟩ := okx_ck h
          refine xi_getR D_Rd_take_142 F_Rd_9 (zl_fo (g26).1 rfl) ⟨rfl, by decide⟩ (zl_gr (g26).2 rfl rfl) ?_
          refine xi_aload_n D_Rd_take_145 rfl ?_
          refine xi_getI D_Rd_take_146 F_Rd_34 (zl_fo (g26).1 rfl) ⟨rfl, by decide⟩ ?_
          obtain ⟨g27, h⟩ := okx_ck h
          refine xj_cald D_Rd_take_149 (zl_fx (g26).1 rfl) (zl_ib (n := 1000) rfl (g27)) ?_
          refine xi_goto D_Rd_take_150 ?_
          exact w_Rd_take_b154 (by omega)  h
      · have h := okx_F c20 h
        refine xi_aload_n D_Rd_take_116 rfl ?_
        obtain ⟨g28, h⟩ := okx_ck h
        refine xj_V0 D_Rd_take_117 L_Rd_130 C_Rd_takeNumber Z_Rd_takeNumber (zl_fo (g28).1 rfl) (Nat.le_of_ble_eq_true rfl) (Nat.le_of_eq (Nat.sub_add_cancel (by omega))) (w_Rd_takeNumber (by omega) (okx_mono (okx_bd h) ?_))
        intro r29 s30 h
        show Xw _ _ _ _ 120 _ [] _ _
        refine xi_goto D_Rd_take_120 ?_
        exact xi_return D_Rd_take_167 rfl (okx_V h)
    · have h := okx_F c15 h
      refine xi_aload_n D_Rd_take_94 rfl ?_
      obtain ⟨g31, h⟩ := okx_ck h
      refine xj_V0 D_Rd_take_95 L_Rd_124 C_Rd_takeWord Z_Rd_takeWord (zl_fo (g31).1 rfl) (Nat.le_of_ble_eq_true rfl) (Nat.le_of_eq (Nat.sub_add_cancel (by omega))) (w_Rd_takeWord (by omega) (okx_mono (okx_bd h) ?_))
      intro r32 s33 h
      show Xw _ _ _ _ 98 _ [] _ _
      refine xi_goto D_Rd_take_98 ?_
      exact xi_return D_Rd_take_167 rfl (okx_V h)
  · have h := okx_F c11 h
    refine xi_aload_n D_Rd_take_71 rfl ?_
    refine xj_iconst (v := 0) D_Rd_take_72 rfl ?_
    refine xi_putI D_Rd_take_73 F_Rd_46 (zl_fo (g9).1 rfl) ⟨rfl, by decide, rfl⟩ (⟨rfl, rfl⟩) ?_
    refine xi_goto D_Rd_take_76 ?_
    exact xi_return D_Rd_take_167 rfl (okx_V h)
noncomputable def f_Rd_take_b0 (R0 : Sg → Option (Unit × Sg))  (s : Sg) : Option (Unit × Sg) :=
  f_ck (zl_B s) <|
  if (mI s 42 2) ≤ (mI s 42 3) then
    f_Rd_take_b52   s
  else
    f_ck (vp_in (mI s 42 3) 1000) <|
    if (mI s 43 (Int32.toNatClampNeg (mI s 42 3))) = 32 then
      f_Rd_take_b39 R0  s
    else
      f_ck (vp_in (mI s 42 3) 1000) <|
      if (mI s 43 (Int32.toNatClampNeg (mI s 42 3))) = 10 then
        f_Rd_take_b39 R0  s
      else
        f_Rd_take_b52   s
theorem w_Rd_take_b0 {s : Sg} {d : Nat} {Q : Option (Option Value) → Sg → Prop} (hd : 5 ≤ d) {R0 : Sg → Option (Unit × Sg)} (hR0 : ∀ (s : Sg), okx (zq_V Q) (R0  s) → Xw d M_Rd_take 0 0 0 [.ref 42] [] s Q) (h : okx (zq_V Q) (f_Rd_take_b0 R0  s)) : Xw d M_Rd_take 0 0 0 [.ref 42] [] s Q := by
  unfold f_Rd_take_b0 at h
  refine xi_aload_n D_Rd_take_0 rfl ?_
  obtain ⟨g1, h⟩ := okx_ck h
  refine xi_getI D_Rd_take_1 F_Rd_34 (zl_fo (g1).1 rfl) ⟨rfl, by decide⟩ ?_
  refine xi_aload_n D_Rd_take_4 rfl ?_
  refine xi_getI D_Rd_take_5 F_Rd_21 (zl_fo (g1).1 rfl) ⟨rfl, by decide⟩ ?_
  refine xi_icmp_ge D_Rd_take_8 (fun c2 => ?_) (fun c2 => ?_)
  · have h := okx_T c2 h
    exact w_Rd_take_b52 (by omega)  h
  · have h := okx_F c2 h
    refine xi_aload_n D_Rd_take_11 rfl ?_
    refine xi_getR D_Rd_take_12 F_Rd_9 (zl_fo (g1).1 rfl) ⟨rfl, by decide⟩ (zl_gr (g1).2 rfl rfl) ?_
    refine xi_aload_n D_Rd_take_15 rfl ?_
    refine xi_getI D_Rd_take_16 F_Rd_34 (zl_fo (g1).1 rfl) ⟨rfl, by decide⟩ ?_
    obtain ⟨g3, h⟩ := okx_ck h
    refine xj_cald D_Rd_take_19 (zl_fx (g1).1 rfl) (zl_ib (n := 1000) rfl (g3)) ?_
    refine xi_bipush (v := 32) D_Rd_take_20 rfl ?_
    refine xi_icmp_eq D_Rd_take_22 (fun c4 => ?_) (fun c4 => ?_)
    · have h := okx_T c4 h
      exact w_Rd_take_b39 (by omega) hR0 h
    · have h := okx_F c4 h
      refine xi_aload_n D_Rd_take_25 rfl ?_
      refine xi_getR D_Rd_take_26 F_Rd_9 (zl_fo (g1).1 rfl) ⟨rfl, by decide⟩ (zl_gr (g1).2 rfl rfl) ?_
      refine xi_aload_n D_Rd_take_29 rfl ?_
      refine xi_getI D_Rd_take_30 F_Rd_34 (zl_fo (g1).1 rfl) ⟨rfl, by decide⟩ ?_
      obtain ⟨g5, h⟩ := okx_ck h
      refine xj_cald D_Rd_take_33 (zl_fx (g1).1 rfl) (zl_ib (n := 1000) rfl (g5)) ?_
      refine xi_bipush (v := 10) D_Rd_take_34 rfl ?_
      refine xi_icmp_ne D_Rd_take_36 (fun c6 => ?_) (fun c6 => ?_)
      · have h := okx_F c6 h
        exact w_Rd_take_b52 (by omega)  h
      · have h := okx_T c6 h
        exact w_Rd_take_b39 (by omega) hR0 h
noncomputable def f_Rd_take_h0 : Nat → Sg → Option (Unit × Sg)
  | 0, _ => none
  | n + 1, s => f_Rd_take_b0 (f_Rd_take_h0 n)  s
theorem w_Rd_take_h0 {d : Nat} {Q : Option (Option Value) → Sg → Prop} (hd : 5 ≤ d) : ∀ (n : Nat) (s : Sg), okx (zq_V Q) (f_Rd_take_h0 n  s) → Xw d M_Rd_take 0 0 0 [.ref 42] [] s Q := by
  intro n
  induction n with
  | zero => intro  s h; exact okx_no h
  | succ n ih => intro  s h; exact w_Rd_take_b0 hd  ih  h
noncomputable def f_Rd_take  (s : Sg) : Option (Unit × Sg) :=
  f_Rd_take_h0  zl_fl  s
theorem w_Rd_take {s : Sg} {d : Nat} {Q : Option (Option Value) → Sg → Prop} (hd : 5 ≤ d) (h : okx (zq_V Q) (f_Rd_take  s)) : Cw d M_Rd_take [.ref 42] s Q := by
  refine Cw.of (by decide +kernel) (Nat.le_of_ble_eq_true rfl) ?_
  show Xw d M_Rd_take 0 0 0 [.ref 42] [] s _
  unfold f_Rd_take at h
  exact w_Rd_take_h0 (by omega)  _ _ h
noncomputable def f_Rd_readJoined_b40 (R40 : Int32 → Int32 → Int32 → Int32 → Sg → Option (Int32 × Sg)) (R_Rd_readJoined : Int32 → Int32 → Sg → Option (Int32 × Sg)) (R_Rd_readPart : Int32 → Sg → Option (Int32 × Sg)) (x1 : Int32) (x2 : Int32) (x3 : Int32) (x4 : Int32) (s : Sg) : Option (Int32 × Sg) :=
  if x3 ≤ x4 then
    some (1, s)
  else
    f_ck (zl_B s) <|
    f_bd (f_Rd_levelOf (mI s 42 4) s) fun r13 s14 =>
    if r13 = x1 then
      f_ck (zl_B s14) <|
      f_bd (f_Rd_take  s14) fun r17 s18 =>
      f_ck (zl_B s18) <|
      f_bd (R_Rd_readJoined (x1 + 1) x2 s18) fun r20 s21 =>
      if r20 = 0 then
        some (0, s21)
      else
        f_ck (zl_B s21) <|
        f_bd (f_Rd_put (20000 + (mI s14 42 4)) s21) fun r24 s25 =>
        R40 x1 x2 x3 (x4 + 1) s25
    else
      some (1, s14)
theorem w_Rd_readJoined_b40 {x1 : Int32} {x2 : Int32} {x3 : Int32} {x4 : Int32} {s : Sg} {d : Nat} {Q : Option (Option Value) → Sg → Prop} (hd : 20 ≤ d) {R40 : Int32 → Int32 → Int32 → Int32 → Sg → Option (Int32 × Sg)} (hR40 : ∀ (x1 : Int32) (x2 : Int32) (x3 : Int32) (x4 : Int32) (s : Sg), okx (zq_I Q) (R40 x1 x2 x3 x4 s) → Xw d M_Rd_readJoined 0 0 40 [.ref 42, .int x1, .int x2, .int x3, .int x4, .retAddr 0] [] s Q) {R_Rd_readJoined : Int32 → Int32 → Sg → Option (Int32 × Sg)} {R_Rd_readPart : Int32 → Sg → Option (Int32 × Sg)} (hR_Rd_readJoined : ∀ {x1 x2 : Int32} {s : Sg} {Q : Option (Option Value) → Sg → Prop}, 0 = 0 → okx (zq_I Q) (R_Rd_readJoined x1 x2 s) → Cw (d - 1) M_Rd_readJoined [.ref 42, .int x1, .int x2] s Q) (hR_Rd_readPart : ∀ {x1 : Int32} {s : Sg} {Q : Option (Option Value) → Sg → Prop}, 0 = 0 → okx (zq_I Q) (R_Rd_readPart x1 s) → Cw (d - 1) M_Rd_readPart [.ref 42, .int x1] s Q) (h : okx (zq_I Q) (f_Rd_readJoined_b40 R40 R_Rd_readJoined R_Rd_readPart x1 x2 x3 x4 s)) : Xw d M_Rd_readJoined 0 0 40 [.ref 42, .int x1, .int x2, .int x3, .int x4, .retAddr 0] [] s Q := by
  unfold f_Rd_readJoined_b40 at h
  refine xi_iload D_Rd_readJoined_40 rfl ?_
  refine xi_iload_n D_Rd_readJoined_42 rfl ?_
  refine xi_icmp_ge D_Rd_readJoined_43 (fun c11 => ?_) (fun c11 => ?_)
  · have h := okx_T c11 h
    refine xj_iconst (v := 1) D_Rd_readJoined_96 rfl ?_
    exact xi_ireturn D_Rd_readJoined_97 rfl (rfl) (okx_I h)
  · have h := okx_F c11 h
    refine xi_aload_n D_Rd_readJoined_46 rfl ?_
    obtain ⟨g12, h⟩ := okx_ck h
    refine xi_getI D_Rd_readJoined_47 F_Rd_46 (zl_fo (g12).1 rfl) ⟨rfl, by decide⟩ ?_
    refine xj_S1 D_Rd_readJoined_50 L_Rd_109 C_Rd_levelOf Z_Rd_levelOf (Nat.le_of_ble_eq_true rfl) (Nat.le_of_eq (Nat.sub_add_cancel (by omega))) (w_Rd_levelOf (by omega) (okx_mono (okx_bd h) ?_))
    intro r13 s14 h
    show Xw _ _ _ _ 53 _ [_] _ _
    refine xi_iload_n D_Rd_readJoined_53 rfl ?_
    refine xi_icmp_ne D_Rd_readJoined_54 (fun c15 => ?_) (fun c15 => ?_)
    · have h := okx_F c15 h
      refine xj_iconst (v := 1) D_Rd_readJoined_96 rfl ?_
      exact xi_ireturn D_Rd_readJoined_97 rfl (rfl) (okx_I h)
    · have h := okx_T c15 h
      refine xi_aload_n D_Rd_readJoined_57 rfl ?_
      obtain ⟨g16, h⟩ := okx_ck h
      refine xi_getI D_Rd_readJoined_58 F_Rd_46 (zl_fo (g16).1 rfl) ⟨rfl, by decide⟩ ?_
      refine xi_istore (ls' := [_, _, _, _, _, _]) D_Rd_readJoined_61 rfl (by decide) ?_
      refine xi_aload_n D_Rd_readJoined_63 rfl ?_
      refine xj_V0 D_Rd_readJoined_64 L_Rd_43 C_Rd_take Z_Rd_take (zl_fo (g16).1 rfl) (Nat.le_of_ble_eq_true rfl) (Nat.le_of_eq (Nat.sub_add_cancel (by omega))) (w_Rd_take (by omega) (okx_mono (okx_bd h) ?_))
      intro r17 s18 h
      show Xw _ _ _ _ 67 _ [] _ _
      refine xi_aload_n D_Rd_readJoined_67 rfl ?_
      refine xi_iload_n D_Rd_readJoined_68 rfl ?_
      refine xj_iconst (v := 1) D_Rd_readJoined_69 rfl ?_
      refine xi_iadd D_Rd_readJoined_70 ?_
      refine xi_iload_n D_Rd_readJoined_71 rfl ?_
      obtain ⟨g19, h⟩ := okx_ck h
      refine xj_V2 D_Rd_readJoined_72 L_Rd_92 C_Rd_readJoined Z_Rd_readJoined (zl_fo (g19).1 rfl) (Nat.le_of_ble_eq_true rfl) (Nat.le_of_eq (Nat.sub_add_cancel (by omega))) (hR_Rd_readJoined (by omega) (okx_mono (okx_bd h) ?_))
      intro r20 s21 h
      show Xw _ _ _ _ 75 _ [_] _ _
      refine xi_if_ne D_Rd_readJoined_75 (fun c22 => ?_) (fun c22 => ?_)
      · have h := okx_F c22 h
        refine xi_aload_n D_Rd_readJoined_80 rfl ?_
        refine xi_sipush (v := 20000) D_Rd_readJoined_81 rfl ?_
        refine xi_iload D_Rd_readJoined_84 rfl ?_
        refine xi_iadd D_Rd_readJoined_86 ?_
        obtain ⟨g23, h⟩ := okx_ck h
        refine xj_V1 D_Rd_readJoined_87 L_Rd_113 C_Rd_put Z_Rd_put (zl_fo (g23).1 rfl) (Nat.le_of_ble_eq_true rfl) (Nat.le_of_eq (Nat.sub_add_cancel (by omega))) (w_Rd_put (by omega) (okx_mono (okx_bd h) ?_))
        intro r24 s25 h
        show Xw _ _ _ _ 90 _ [] _ _
        refine xi_iinc (v := _ + 1) (ls' := [_, _, _, _, _, _]) D_Rd_readJoined_90 rfl rfl rfl (by decide) ?_
        refine xi_goto D_Rd_readJoined_93 ?_
        exact xk_wk (hR40 _ _ _ _ _ h) ⟨Or.inl rfl, Or.inl rfl, Or.inl rfl, Or.inl rfl, Or.inl rfl, Or.inr rfl, trivial⟩
      · have h := okx_T c22 h
        refine xj_iconst (v := 0) D_Rd_readJoined_78 rfl ?_
        exact xi_ireturn D_Rd_readJoined_79 rfl (rfl) (okx_I h)
noncomputable def f_Rd_readJoined_h40 (R_Rd_readJoined : Int32 → Int32 → Sg → Option (Int32 × Sg)) (R_Rd_readPart : Int32 → Sg → Option (Int32 × Sg)) : Nat → Int32 → Int32 → Int32 → Int32 → Sg → Option (Int32 × Sg)
  | 0, _, _, _, _, _ => none
  | n + 1, x1, x2, x3, x4, s => f_Rd_readJoined_b40 (f_Rd_readJoined_h40 R_Rd_readJoined R_Rd_readPart n) R_Rd_readJoined R_Rd_readPart x1 x2 x3 x4 s
theorem w_Rd_readJoined_h40 {d : Nat} {Q : Option (Option Value) → Sg → Prop} (hd : 20 ≤ d) {R_Rd_readJoined : Int32 → Int32 → Sg → Option (Int32 × Sg)} {R_Rd_readPart : Int32 → Sg → Option (Int32 × Sg)} (hR_Rd_readJoined : ∀ {x1 x2 : Int32} {s : Sg} {Q : Option (Option Value) → Sg → Prop}, 0 = 0 → okx (zq_I Q) (R_Rd_readJoined x1 x2 s) → Cw (d - 1) M_Rd_readJoined [.ref 42, .int x1, .int x2] s Q) (hR_Rd_readPart : ∀ {x1 : Int32} {s : Sg} {Q : Option (Option Value) → Sg → Prop}, 0 = 0 → okx (zq_I Q) (R_Rd_readPart x1 s) → Cw (d - 1) M_Rd_readPart [.ref 42, .int x1] s Q) : ∀ (n : Nat) (x1 : Int32) (x2 : Int32) (x3 : Int32) (x4 : Int32) (s : Sg), okx (zq_I Q) (f_Rd_readJoined_h40 R_Rd_readJoined R_Rd_readPart n x1 x2 x3 x4 s) → Xw d M_Rd_readJoined 0 0 40 [.ref 42, .int x1, .int x2, .int x3, .int x4, .retAddr 0] [] s Q := by
  intro n
  induction n with
  | zero => intro x1 x2 x3 x4 s h; exact okx_no h
  | succ n ih => intro x1 x2 x3 x4 s h; exact w_Rd_readJoined_b40 hd  ih hR_Rd_readJoined hR_Rd_readPart h
noncomputable def f_Rd_readJoined_b36 (R_Rd_readJoined : Int32 → Int32 → Sg → Option (Int32 × Sg)) (R_Rd_readPart : Int32 → Sg → Option (Int32 × Sg)) (x1 : Int32) (x2 : Int32) (y0 : Int32) (s : Sg) : Option (Int32 × Sg) :=
  f_Rd_readJoined_h40 R_Rd_readJoined R_Rd_readPart zl_fl x1 x2 y0 0 s
theorem w_Rd_readJoined_b36 {x1 : Int32} {x2 : Int32} {y0 : Int32} {s : Sg} {d : Nat} {Q : Option (Option Value) → Sg → Prop} (hd : 20 ≤ d) {R_Rd_readJoined : Int32 → Int32 → Sg → Option (Int32 × Sg)} {R_Rd_readPart : Int32 → Sg → Option (Int32 × Sg)} (hR_Rd_readJoined : ∀ {x1 x2 : Int32} {s : Sg} {Q : Option (Option Value) → Sg → Prop}, 0 = 0 → okx (zq_I Q) (R_Rd_readJoined x1 x2 s) → Cw (d - 1) M_Rd_readJoined [.ref 42, .int x1, .int x2] s Q) (hR_Rd_readPart : ∀ {x1 : Int32} {s : Sg} {Q : Option (Option Value) → Sg → Prop}, 0 = 0 → okx (zq_I Q) (R_Rd_readPart x1 s) → Cw (d - 1) M_Rd_readPart [.ref 42, .int x1] s Q) (h : okx (zq_I Q) (f_Rd_readJoined_b36 R_Rd_readJoined R_Rd_readPart x1 x2 y0 s)) : Xw d M_Rd_readJoined 0 0 36 [.ref 42, .int x1, .int x2, .retAddr 0, .retAddr 0, .retAddr 0] [.int y0] s Q := by
  unfold f_Rd_readJoined_b36 at h
  refine xi_istore_n (ls' := [_, _, _, _, _, _]) D_Rd_readJoined_36 rfl (by decide) ?_
  refine xj_iconst (v := 0) D_Rd_readJoined_37 rfl ?_
  refine xi_istore (ls' := [_, _, _, _, _, _]) D_Rd_readJoined_38 rfl (by decide) ?_
  exact w_Rd_readJoined_h40 (by omega) hR_Rd_readJoined hR_Rd_readPart _ _ _ _ _ _ h
noncomputable def f_Rd_readJoined (R_Rd_readJoined : Int32 → Int32 → Sg → Option (Int32 × Sg)) (R_Rd_readPart : Int32 → Sg → Option (Int32 × Sg)) (x1 : Int32) (x2 : Int32) (s : Sg) : Option (Int32 × Sg) :=
  if x1 < 4 then
    f_ck (zl_B s) <|
    f_bd (R_Rd_readJoined (x1 + 1) x2 s) fun r3 s4 =>
    if r3 = 0 then
      some (0, s4)
    else
      if x1 = 1 then
        f_Rd_readJoined_b36 R_Rd_readJoined R_Rd_readPart x1 x2 1 s4
      else
        f_Rd_readJoined_b36 R_Rd_readJoined R_Rd_readPart x1 x2 1000 s4
  else
    f_ck (zl_B s) <|
    f_bd (R_Rd_readPart x2 s) fun r8 s9 =>
    f_ck (narrow FieldType.boolean (.int r8) = .int r8) <|
    some (r8, s9)
theorem w_Rd_readJoined {x1 : Int32} {x2 : Int32} {s : Sg} {d : Nat} {Q : Option (Option Value) → Sg → Prop} (hd : 20 ≤ d) {R_Rd_readJoined : Int32 → Int32 → Sg → Option (Int32 × Sg)} {R_Rd_readPart : Int32 → Sg → Option (Int32 × Sg)} (hR_Rd_readJoined : ∀ {x1 x2 : Int32} {s : Sg} {Q : Option (Option Value) → Sg → Prop}, 0 = 0 → okx (zq_I Q) (R_Rd_readJoined x1 x2 s) → Cw (d - 1) M_Rd_readJoined [.ref 42, .int x1, .int x2] s Q) (hR_Rd_readPart : ∀ {x1 : Int32} {s : Sg} {Q : Option (Option Value) → Sg → Prop}, 0 = 0 → okx (zq_I Q) (R_Rd_readPart x1 s) → Cw (d - 1) M_Rd_readPart [.ref 42, .int x1] s Q) (h : okx (zq_I Q) (f_Rd_readJoined R_Rd_readJoined R_Rd_readPart x1 x2 s)) : Cw d M_Rd_readJoined [.ref 42, .int x1, .int x2] s Q := by
  refine Cw.of (by decide +kernel) (Nat.le_of_ble_eq_true rfl) ?_
  show Xw d M_Rd_readJoined 0 0 0 [.ref 42, .int x1, .int x2, .retAddr 0, .retAddr 0, .retAddr 0] [] s _
  unfold f_Rd_readJoined at h
  refine xi_iload_n D_Rd_readJoined_0 rfl ?_
  refine xj_iconst (v := 4) D_Rd_readJoined_1 rfl ?_
  refine xi_icmp_lt D_Rd_readJoined_2 (fun c1 => ?_) (fun c1 => ?_)
  · have h := okx_T c1 h
    refine xi_aload_n D_Rd_readJoined_11 rfl ?_
    refine xi_iload_n D_Rd_readJoined_12 rfl ?_
    refine xj_iconst (v := 1) D_Rd_readJoined_13 rfl ?_
    refine xi_iadd D_Rd_readJoined_14 ?_
    refine xi_iload_n D_Rd_readJoined_15 rfl ?_
    obtain ⟨g2, h⟩ := okx_ck h
    refine xj_V2 D_Rd_readJoined_16 L_Rd_92 C_Rd_readJoined Z_Rd_readJoined (zl_fo (g2).1 rfl) (Nat.le_of_ble_eq_true rfl) (Nat.le_of_eq (Nat.sub_add_cancel (by omega))) (hR_Rd_readJoined (by omega) (okx_mono (okx_bd h) ?_))
    intro r3 s4 h
    show Xw _ _ _ _ 19 _ [_] _ _
    refine xi_if_ne D_Rd_readJoined_19 (fun c5 => ?_) (fun c5 => ?_)
    · have h := okx_F c5 h
      refine xi_iload_n D_Rd_readJoined_24 rfl ?_
      refine xj_iconst (v := 1) D_Rd_readJoined_25 rfl ?_
      refine xi_icmp_ne D_Rd_readJoined_26 (fun c6 => ?_) (fun c6 => ?_)
      · have h := okx_F c6 h
        refine xi_sipush (v := 1000) D_Rd_readJoined_33 rfl ?_
        exact w_Rd_readJoined_b36 (by omega) hR_Rd_readJoined hR_Rd_readPart h
      · have h := okx_T c6 h
        refine xj_iconst (v := 1) D_Rd_readJoined_29 rfl ?_
        refine xi_goto D_Rd_readJoined_30 ?_
        exact w_Rd_readJoined_b36 (by omega) hR_Rd_readJoined hR_Rd_readPart h
    · have h := okx_T c5 h
      refine xj_iconst (v := 0) D_Rd_readJoined_22 rfl ?_
      exact xi_ireturn D_Rd_readJoined_23 rfl (rfl) (okx_I h)
  · have h := okx_F c1 h
    refine xi_aload_n D_Rd_readJoined_5 rfl ?_
    refine xi_iload_n D_Rd_readJoined_6 rfl ?_
    obtain ⟨g7, h⟩ := okx_ck h
    refine xj_V1 D_Rd_readJoined_7 L_Rd_106 C_Rd_readPart Z_Rd_readPart (zl_fo (g7).1 rfl) (Nat.le_of_ble_eq_true rfl) (Nat.le_of_eq (Nat.sub_add_cancel (by omega))) (hR_Rd_readPart (by omega) (okx_mono (okx_bd h) ?_))
    intro r8 s9 h
    show Xw _ _ _ _ 10 _ [_] _ _
    obtain ⟨g10, h⟩ := okx_ck h
    exact xi_ireturn D_Rd_readJoined_10 rfl (g10) (okx_I h)
noncomputable def f_Rd_readPart_b35 (R_Rd_readJoined : Int32 → Int32 → Sg → Option (Int32 × Sg)) (R_Rd_readPart : Int32 → Sg → Option (Int32 × Sg))  (s : Sg) : Option (Int32 × Sg) :=
  f_ck (zl_B s) <|
  f_bd (f_Rd_wrong 2 s) fun r10 s11 =>
  f_ck (narrow FieldType.boolean (.int r10) = .int r10) <|
  some (r10, s11)
theorem w_Rd_readPart_b35 {s : Sg} {d : Nat} {Q : Option (Option Value) → Sg → Prop} (hd : 20 ≤ d) {R_Rd_readJoined : Int32 → Int32 → Sg → Option (Int32 × Sg)} {R_Rd_readPart : Int32 → Sg → Option (Int32 × Sg)} (hR_Rd_readJoined : ∀ {x1 x2 : Int32} {s : Sg} {Q : Option (Option Value) → Sg → Prop}, 0 = 0 → okx (zq_I Q) (R_Rd_readJoined x1 x2 s) → Cw (d - 1) M_Rd_readJoined [.ref 42, .int x1, .int x2] s Q) (hR_Rd_readPart : ∀ {x1 : Int32} {s : Sg} {Q : Option (Option Value) → Sg → Prop}, 0 = 0 → okx (zq_I Q) (R_Rd_readPart x1 s) → Cw (d - 1) M_Rd_readPart [.ref 42, .int x1] s Q) (h : okx (zq_I Q) (f_Rd_readPart_b35 R_Rd_readJoined R_Rd_readPart  s)) : Xw d M_Rd_readPart 0 0 35 [.ref 42, .retAddr 0, .retAddr 0, .retAddr 0] [] s Q := by
  unfold f_Rd_readPart_b35 at h
  refine xi_aload_n D_Rd_readPart_35 rfl ?_
  refine xj_iconst (v := 2) D_Rd_readPart_36 rfl ?_
  obtain ⟨g9, h⟩ := okx_ck h
  refine xj_V1 D_Rd_readPart_37 L_Rd_59 C_Rd_wrong Z_Rd_wrong (zl_fo (g9).1 rfl) (Nat.le_of_ble_eq_true rfl) (Nat.le_of_eq (Nat.sub_add_cancel (by omega))) (w_Rd_wrong (by omega) (okx_mono (okx_bd h) ?_))
  intro r10 s11 h
  show Xw _ _ _ _ 40 _ [_] _ _
  obtain ⟨g12, h⟩ := okx_ck h
  exact xi_ireturn D_Rd_readPart_40 rfl (g12) (okx_I h)
noncomputable def f_Rd_readPart_b125 (R_Rd_readJoined : Int32 → Int32 → Sg → Option (Int32 × Sg)) (R_Rd_readPart : Int32 → Sg → Option (Int32 × Sg)) (y1 : Int32) (s : Sg) : Option (Int32 × Sg) :=
  f_ck (zl_B s) <|
  f_bd (f_Rd_put y1 s) fun r53 s54 =>
  f_ck (zl_B s54) <|
  f_bd (f_Rd_take  s54) fun r56 s57 =>
  some (1, s57)
theorem w_Rd_readPart_b125 {y1 : Int32} {s : Sg} {d : Nat} {Q : Option (Option Value) → Sg → Prop} (hd : 20 ≤ d) {R_Rd_readJoined : Int32 → Int32 → Sg → Option (Int32 × Sg)} {R_Rd_readPart : Int32 → Sg → Option (Int32 × Sg)} (hR_Rd_readJoined : ∀ {x1 x2 : Int32} {s : Sg} {Q : Option (Option Value) → Sg → Prop}, 0 = 0 → okx (zq_I Q) (R_Rd_readJoined x1 x2 s) → Cw (d - 1) M_Rd_readJoined [.ref 42, .int x1, .int x2] s Q) (hR_Rd_readPart : ∀ {x1 : Int32} {s : Sg} {Q : Option (Option Value) → Sg → Prop}, 0 = 0 → okx (zq_I Q) (R_Rd_readPart x1 s) → Cw (d - 1) M_Rd_readPart [.ref 42, .int x1] s Q) (h : okx (zq_I Q) (f_Rd_readPart_b125 R_Rd_readJoined R_Rd_readPart y1 s)) : Xw d M_Rd_readPart 0 0 125 [.ref 42, .retAddr 0, .retAddr 0, .retAddr 0] [.int y1, .ref 42] s Q := by
  unfold f_Rd_readPart_b125 at h
  obtain ⟨g52, h⟩ := okx_ck h
  refine xj_V1 D_Rd_readPart_125 L_Rd_113 C_Rd_put Z_Rd_put (zl_fo (g52).1 rfl) (Nat.le_of_ble_eq_true rfl) (Nat.le_of_eq (Nat.sub_add_cancel (by omega))) (w_Rd_put (by omega) (okx_mono (okx_bd h) ?_))
  intro r53 s54 h
  show Xw _ _ _ _ 128 _ [] _ _
  refine xi_aload_n D_Rd_readPart_128 rfl ?_
  obtain ⟨g55, h⟩ := okx_ck h
  refine xj_V0 D_Rd_readPart_129 L_Rd_43 C_Rd_take Z_Rd_take (zl_fo (g55).1 rfl) (Nat.le_of_ble_eq_true rfl) (Nat.le_of_eq (Nat.sub_add_cancel (by omega))) (w_Rd_take (by omega) (okx_mono (okx_bd h) ?_))
  intro r56 s57 h
  show Xw _ _ _ _ 132 _ [] _ _
  refine xj_iconst (v := 1) D_Rd_readPart_132 rfl ?_
  exact xi_ireturn D_Rd_readPart_133 rfl (rfl) (okx_I h)
noncomputable def f_Rd_readPart_b107 (R_Rd_readJoined : Int32 → Int32 → Sg → Option (Int32 × Sg)) (R_Rd_readPart : Int32 → Sg → Option (Int32 × Sg)) (x2 : Int32) (x3 : Int32) (s : Sg) : Option (Int32 × Sg) :=
  if x3 = 3 then
    f_ck (zl_B s) <|
    f_Rd_readPart_b125 R_Rd_readJoined R_Rd_readPart (mI s 42 6) s
  else
    f_Rd_readPart_b125 R_Rd_readJoined R_Rd_readPart (10000 + x2) s
theorem w_Rd_readPart_b107 {x2 : Int32} {x3 : Int32} {s : Sg} {d : Nat} {Q : Option (Option Value) → Sg → Prop} (hd : 20 ≤ d) {R_Rd_readJoined : Int32 → Int32 → Sg → Option (Int32 × Sg)} {R_Rd_readPart : Int32 → Sg → Option (Int32 × Sg)} (hR_Rd_readJoined : ∀ {x1 x2 : Int32} {s : Sg} {Q : Option (Option Value) → Sg → Prop}, 0 = 0 → okx (zq_I Q) (R_Rd_readJoined x1 x2 s) → Cw (d - 1) M_Rd_readJoined [.ref 42, .int x1, .int x2] s Q) (hR_Rd_readPart : ∀ {x1 : Int32} {s : Sg} {Q : Option (Option Value) → Sg → Prop}, 0 = 0 → okx (zq_I Q) (R_Rd_readPart x1 s) → Cw (d - 1) M_Rd_readPart [.ref 42, .int x1] s Q) (h : okx (zq_I Q) (f_Rd_readPart_b107 R_Rd_readJoined R_Rd_readPart x2 x3 s)) : Xw d M_Rd_readPart 0 0 107 [.ref 42, .retAddr 0, .int x2, .int x3] [] s Q := by
  unfold f_Rd_readPart_b107 at h
  refine xi_aload_n D_Rd_readPart_107 rfl ?_
  refine xi_iload_n D_Rd_readPart_108 rfl ?_
  refine xj_iconst (v := 3) D_Rd_readPart_109 rfl ?_
  refine xi_icmp_ne D_Rd_readPart_110 (fun c50 => ?_) (fun c50 => ?_)
  · have h := okx_F c50 h
    refine xi_sipush (v := 10000) D_Rd_readPart_120 rfl ?_
    refine xi_iload_n D_Rd_readPart_123 rfl ?_
    refine xi_iadd D_Rd_readPart_124 ?_
    exact xk_wk (w_Rd_readPart_b125 (by omega) hR_Rd_readJoined hR_Rd_readPart h) ⟨Or.inl rfl, Or.inl rfl, Or.inr rfl, Or.inr rfl, trivial⟩
  · have h := okx_T c50 h
    refine xi_aload_n D_Rd_readPart_113 rfl ?_
    obtain ⟨g51, h⟩ := okx_ck h
    refine xi_getI D_Rd_readPart_114 F_Rd_76 (zl_fo (g51).1 rfl) ⟨rfl, by decide⟩ ?_
    refine xi_goto D_Rd_readPart_117 ?_
    exact xk_wk (w_Rd_readPart_b125 (by omega) hR_Rd_readJoined hR_Rd_readPart h) ⟨Or.inl rfl, Or.inl rfl, Or.inr rfl, Or.inr rfl, trivial⟩
noncomputable def f_Rd_readPart_b81 (R_Rd_readJoined : Int32 → Int32 → Sg → Option (Int32 × Sg)) (R_Rd_readPart : Int32 → Sg → Option (Int32 × Sg)) (x1 : Int32) (x2 : Int32) (s : Sg) : Option (Int32 × Sg) :=
  if x1 < 5 then
    f_ck (zl_B s) <|
    if (mI s 42 4) = 2 then
      f_Rd_readPart_b107 R_Rd_readJoined R_Rd_readPart x2 (mI s 42 4) s
    else
      if (mI s 42 4) = 3 then
        f_Rd_readPart_b107 R_Rd_readJoined R_Rd_readPart x2 (mI s 42 4) s
      else
        f_bd (f_Rd_take  s) fun r25 s26 =>
        if (mI s 42 4) = 9 then
          f_ck (zl_B s26) <|
          f_bd (R_Rd_readPart (x1 + 1) s26) fun r29 s30 =>
          if r29 = 0 then
            some (0, s30)
          else
            f_ck (zl_B s30) <|
            f_bd (f_Rd_put 20009 s30) fun r33 s34 =>
            some (1, s34)
        else
          f_ck (zl_B s26) <|
          f_bd (R_Rd_readJoined 0 (x1 + 1) s26) fun r36 s37 =>
          if r36 = 0 then
            some (0, s37)
          else
            f_ck (zl_B s37) <|
            if (mI s37 42 4) = 41 then
              f_bd (f_Rd_take  s37) fun r41 s42 =>
              some (1, s42)
            else
              f_bd (f_Rd_wrong 1 s37) fun r43 s44 =>
              f_ck (narrow FieldType.boolean (.int r43) = .int r43) <|
              some (r43, s44)
  else
    f_ck (zl_B s) <|
    f_bd (f_Rd_wrong 5 s) fun r47 s48 =>
    f_ck (narrow FieldType.boolean (.int r47) = .int r47) <|
    some (r47, s48)
theorem w_Rd_readPart_b81 {x1 : Int32} {x2 : Int32} {s : Sg} {d : Nat} {Q : Option (Option Value) → Sg → Prop} (hd : 20 ≤ d) {R_Rd_readJoined : Int32 → Int32 → Sg → Option (Int32 × Sg)} {R_Rd_readPart : Int32 → Sg → Option (Int32 × Sg)} (hR_Rd_readJoined : ∀ {x1 x2 : Int32} {s : Sg} {Q : Option (Option Value) → Sg → Prop}, 0 = 0 → okx (zq_I Q) (R_Rd_readJoined x1 x2 s) → Cw (d - 1) M_Rd_readJoined [.ref 42, .int x1, .int x2] s Q) (hR_Rd_readPart : ∀ {x1 : Int32} {s : Sg} {Q : Option (Option Value) → Sg → Prop}, 0 = 0 → okx (zq_I Q) (R_Rd_readPart x1 s) → Cw (d - 1) M_Rd_readPart [.ref 42, .int x1] s Q) (h : okx (zq_I Q) (f_Rd_readPart_b81 R_Rd_readJoined R_Rd_readPart x1 x2 s)) : Xw d M_Rd_readPart 0 0 81 [.ref 42, .int x1, .int x2, .retAddr 0] [] s Q := by
  unfold f_Rd_readPart_b81 at h
  refine xi_iload_n D_Rd_readPart_81 rfl ?_
  refine xj_iconst (v := 5) D_Rd_readPart_82 rfl ?_
  refine xi_icmp_lt D_Rd_readPart_83 (fun c21 => ?_) (fun c21 => ?_)
  · have h := okx_T c21 h
    refine xi_aload_n D_Rd_readPart_92 rfl ?_
    obtain ⟨g22, h⟩ := okx_ck h
    refine xi_getI D_Rd_readPart_93 F_Rd_46 (zl_fo (g22).1 rfl) ⟨rfl, by decide⟩ ?_
    refine xi_istore_n (ls' := [_, _, _, _]) D_Rd_readPart_96 rfl (by decide) ?_
    refine xi_iload_n D_Rd_readPart_97 rfl ?_
    refine xj_iconst (v := 2) D_Rd_readPart_98 rfl ?_
    refine xi_icmp_eq D_Rd_readPart_99 (fun c23 => ?_) (fun c23 => ?_)
    · have h := okx_T c23 h
      exact xk_wk (w_Rd_readPart_b107 (by omega) hR_Rd_readJoined hR_Rd_readPart h) ⟨Or.inl rfl, Or.inr rfl, Or.inl rfl, Or.inl rfl, trivial⟩
    · have h := okx_F c23 h
      refine xi_iload_n D_Rd_readPart_102 rfl ?_
      refine xj_iconst (v := 3) D_Rd_readPart_103 rfl ?_
      refine xi_icmp_ne D_Rd_readPart_104 (fun c24 => ?_) (fun c24 => ?_)
      · have h := okx_F c24 h
        refine xi_aload_n D_Rd_readPart_134 rfl ?_
        refine xj_V0 D_Rd_readPart_135 L_Rd_43 C_Rd_take Z_Rd_take (zl_fo (g22).1 rfl) (Nat.le_of_ble_eq_true rfl) (Nat.le_of_eq (Nat.sub_add_cancel (by omega))) (w_Rd_take (by omega) (okx_mono (okx_bd h) ?_))
        intro r25 s26 h
        show Xw _ _ _ _ 138 _ [] _ _
        refine xi_iload_n D_Rd_readPart_138 rfl ?_
        refine xi_bipush (v := 9) D_Rd_readPart_139 rfl ?_
        refine xi_icmp_ne D_Rd_readPart_141 (fun c27 => ?_) (fun c27 => ?_)
        · have h := okx_F c27 h
          refine xi_aload_n D_Rd_readPart_165 rfl ?_
          refine xj_iconst (v := 0) D_Rd_readPart_166 rfl ?_
          refine xi_iload_n D_Rd_readPart_167 rfl ?_
          refine xj_iconst (v := 1) D_Rd_readPart_168 rfl ?_
          refine xi_iadd D_Rd_readPart_169 ?_
          obtain ⟨g35, h⟩ := okx_ck h
          refine xj_V2 D_Rd_readPart_170 L_Rd_92 C_Rd_readJoined Z_Rd_readJoined (zl_fo (g35).1 rfl) (Nat.le_of_ble_eq_true rfl) (Nat.le_of_eq (Nat.sub_add_cancel (by omega))) (hR_Rd_readJoined (by omega) (okx_mono (okx_bd h) ?_))
          intro r36 s37 h
          show Xw _ _ _ _ 173 _ [_] _ _
          refine xi_if_ne D_Rd_readPart_173 (fun c38 => ?_) (fun c38 => ?_)
          · have h := okx_F c38 h
            refine xi_aload_n D_Rd_readPart_178 rfl ?_
            obtain ⟨g39, h⟩ := okx_ck h
            refine xi_getI D_Rd_readPart_179 F_Rd_46 (zl_fo (g39).1 rfl) ⟨rfl, by decide⟩ ?_
            refine xi_bipush (v := 41) D_Rd_readPart_182 rfl ?_
            refine xi_icmp_eq D_Rd_readPart_184 (fun c40 => ?_) (fun c40 => ?_)
            · have h := okx_T c40 h
              refine xi_aload_n D_Rd_readPart_193 rfl ?_
              refine xj_V0 D_Rd_readPart_194 L_Rd_43 C_Rd_take Z_Rd_take (zl_fo (g39).1 rfl) (Nat.le_of_ble_eq_true rfl) (Nat.le_of_eq (Nat.sub_add_cancel (by omega))) (w_Rd_take (by omega) (okx_mono (okx_bd h) ?_))
              intro r41 s42 h
              show Xw _ _ _ _ 197 _ [] _ _
              refine xj_iconst (v := 1) D_Rd_readPart_197 rfl ?_
              exact xi_ireturn D_Rd_readPart_198 rfl (rfl) (okx_I h)
            · have h := okx_F c40 h
              refine xi_aload_n D_Rd_readPart_187 rfl ?_
              refine xj_iconst (v := 1) D_Rd_readPart_188 rfl ?_
              refine xj_V1 D_Rd_readPart_189 L_Rd_59 C_Rd_wrong Z_Rd_wrong (zl_fo (g39).1 rfl) (Nat.le_of_ble_eq_true rfl) (Nat.le_of_eq (Nat.sub_add_cancel (by omega))) (w_Rd_wrong (by omega) (okx_mono (okx_bd h) ?_))
              intro r43 s44 h
              show Xw _ _ _ _ 192 _ [_] _ _
              obtain ⟨g45, h⟩ := okx_ck h
              exact xi_ireturn D_Rd_readPart_192 rfl (g45) (okx_I h)
          · have h := okx_T c38 h
            refine xj_iconst (v := 0) D_Rd_readPart_176 rfl ?_
            exact xi_ireturn D_Rd_readPart_177 rfl (rfl) (okx_I h)
        · have h := okx_T c27 h
          refine xi_aload_n D_Rd_readPart_144 rfl ?_
          refine xi_iload_n D_Rd_readPart_145 rfl ?_
          refine xj_iconst (v := 1) D_Rd_readPart_146 rfl ?_
          refine xi_iadd D_Rd_readPart_147 ?_
          obtain ⟨g28, h⟩ := okx_ck h
          refine xj_V1 D_Rd_readPart_148 L_Rd_106 C_Rd_readPart Z_Rd_readPart (zl_fo (g28).1 rfl) (Nat.le_of_ble_eq_true rfl) (Nat.le_of_eq (Nat.sub_add_cancel (by omega))) (hR_Rd_readPart (by omega) (okx_mono (okx_bd h) ?_))
          intro r29 s30 h
          show Xw _ _ _ _ 151 _ [_] _ _
          refine xi_if_ne D_Rd_readPart_151 (fun c31 => ?_) (fun c31 => ?_)
          · have h := okx_F c31 h
            refine xi_aload_n D_Rd_readPart_156 rfl ?_
            refine xi_sipush (v := 20009) D_Rd_readPart_157 rfl ?_
            obtain ⟨g32, h⟩ := okx_ck h
            refine xj_V1 D_Rd_readPart_160 L_Rd_113 C_Rd_put Z_Rd_put (zl_fo (g32).1 rfl) (Nat.le_of_ble_eq_true rfl) (Nat.le_of_eq (Nat.sub_add_cancel (by omega))) (w_Rd_put (by omega) (okx_mono (okx_bd h) ?_))
            intro r33 s34 h
            show Xw _ _ _ _ 163 _ [] _ _
            refine xj_iconst (v := 1) D_Rd_readPart_163 rfl ?_
            exact xi_ireturn D_Rd_readPart_164 rfl (rfl) (okx_I h)
          · have h := okx_T c31 h
            refine xj_iconst (v := 0) D_Rd_readPart_154 rfl ?_
            exact xi_ireturn D_Rd_readPart_155 rfl (rfl) (okx_I h)
      · have h := okx_T c24 h
        exact xk_wk (w_Rd_readPart_b107 (by omega) hR_Rd_readJoined hR_Rd_readPart h) ⟨Or.inl rfl, Or.inr rfl, Or.inl rfl, Or.inl rfl, trivial⟩
  · have h := okx_F c21 h
    refine xi_aload_n D_Rd_readPart_86 rfl ?_
    refine xj_iconst (v := 5) D_Rd_readPart_87 rfl ?_
    obtain ⟨g46, h⟩ := okx_ck h
    refine xj_V1 D_Rd_readPart_88 L_Rd_59 C_Rd_wrong Z_Rd_wrong (zl_fo (g46).1 rfl) (Nat.le_of_ble_eq_true rfl) (Nat.le_of_eq (Nat.sub_add_cancel (by omega))) (w_Rd_wrong (by omega) (okx_mono (okx_bd h) ?_))
    intro r47 s48 h
    show Xw _ _ _ _ 91 _ [_] _ _
    obtain ⟨g49, h⟩ := okx_ck h
    exact xi_ireturn D_Rd_readPart_91 rfl (g49) (okx_I h)
noncomputable def f_Rd_readPart_b41 (R_Rd_readJoined : Int32 → Int32 → Sg → Option (Int32 × Sg)) (R_Rd_readPart : Int32 → Sg → Option (Int32 × Sg)) (x1 : Int32) (x2 : Int32) (s : Sg) : Option (Int32 × Sg) :=
  f_ck (zl_B s) <|
  if (mI s 42 4) = 2 then
    f_Rd_readPart_b81 R_Rd_readJoined R_Rd_readPart x1 x2 s
  else
    if (mI s 42 4) = 3 then
      f_Rd_readPart_b81 R_Rd_readJoined R_Rd_readPart x1 x2 s
    else
      if (mI s 42 4) = 9 then
        f_Rd_readPart_b81 R_Rd_readJoined R_Rd_readPart x1 x2 s
      else
        if (mI s 42 4) = 40 then
          f_Rd_readPart_b81 R_Rd_readJoined R_Rd_readPart x1 x2 s
        else
          f_bd (f_Rd_wrong 1 s) fun r18 s19 =>
          f_ck (narrow FieldType.boolean (.int r18) = .int r18) <|
          some (r18, s19)
theorem w_Rd_readPart_b41 {x1 : Int32} {x2 : Int32} {s : Sg} {d : Nat} {Q : Option (Option Value) → Sg → Prop} (hd : 20 ≤ d) {R_Rd_readJoined : Int32 → Int32 → Sg → Option (Int32 × Sg)} {R_Rd_readPart : Int32 → Sg → Option (Int32 × Sg)} (hR_Rd_readJoined : ∀ {x1 x2 : Int32} {s : Sg} {Q : Option (Option Value) → Sg → Prop}, 0 = 0 → okx (zq_I Q) (R_Rd_readJoined x1 x2 s) → Cw (d - 1) M_Rd_readJoined [.ref 42, .int x1, .int x2] s Q) (hR_Rd_readPart : ∀ {x1 : Int32} {s : Sg} {Q : Option (Option Value) → Sg → Prop}, 0 = 0 → okx (zq_I Q) (R_Rd_readPart x1 s) → Cw (d - 1) M_Rd_readPart [.ref 42, .int x1] s Q) (h : okx (zq_I Q) (f_Rd_readPart_b41 R_Rd_readJoined R_Rd_readPart x1 x2 s)) : Xw d M_Rd_readPart 0 0 41 [.ref 42, .int x1, .int x2, .retAddr 0] [] s Q := by
  unfold f_Rd_readPart_b41 at h
  refine xi_aload_n D_Rd_readPart_41 rfl ?_
  obtain ⟨g13, h⟩ := okx_ck h
  refine xi_getI D_Rd_readPart_42 F_Rd_46 (zl_fo (g13).1 rfl) ⟨rfl, by decide⟩ ?_
  refine xj_iconst (v := 2) D_Rd_readPart_45 rfl ?_
  refine xi_icmp_eq D_Rd_readPart_46 (fun c14 => ?_) (fun c14 => ?_)
  · have h := okx_T c14 h
    exact w_Rd_readPart_b81 (by omega) hR_Rd_readJoined hR_Rd_readPart h
  · have h := okx_F c14 h
    refine xi_aload_n D_Rd_readPart_49 rfl ?_
    refine xi_getI D_Rd_readPart_50 F_Rd_46 (zl_fo (g13).1 rfl) ⟨rfl, by decide⟩ ?_
    refine xj_iconst (v := 3) D_Rd_readPart_53 rfl ?_
    refine xi_icmp_eq D_Rd_readPart_54 (fun c15 => ?_) (fun c15 => ?_)
    · have h := okx_T c15 h
      exact w_Rd_readPart_b81 (by omega) hR_Rd_readJoined hR_Rd_readPart h
    · have h := okx_F c15 h
      refine xi_aload_n D_Rd_readPart_57 rfl ?_
      refine xi_getI D_Rd_readPart_58 F_Rd_46 (zl_fo (g13).1 rfl) ⟨rfl, by decide⟩ ?_
      refine xi_bipush (v := 9) D_Rd_readPart_61 rfl ?_
      refine xi_icmp_eq D_Rd_readPart_63 (fun c16 => ?_) (fun c16 => ?_)
      · have h := okx_T c16 h
        exact w_Rd_readPart_b81 (by omega) hR_Rd_readJoined hR_Rd_readPart h
      · have h := okx_F c16 h
        refine xi_aload_n D_Rd_readPart_66 rfl ?_
        refine xi_getI D_Rd_readPart_67 F_Rd_46 (zl_fo (g13).1 rfl) ⟨rfl, by decide⟩ ?_
        refine xi_bipush (v := 40) D_Rd_readPart_70 rfl ?_
        refine xi_icmp_eq D_Rd_readPart_72 (fun c17 => ?_) (fun c17 => ?_)
        · have h := okx_T c17 h
          exact w_Rd_readPart_b81 (by omega) hR_Rd_readJoined hR_Rd_readPart h
        · have h := okx_F c17 h
          refine xi_aload_n D_Rd_readPart_75 rfl ?_
          refine xj_iconst (v := 1) D_Rd_readPart_76 rfl ?_
          refine xj_V1 D_Rd_readPart_77 L_Rd_59 C_Rd_wrong Z_Rd_wrong (zl_fo (g13).1 rfl) (Nat.le_of_ble_eq_true rfl) (Nat.le_of_eq (Nat.sub_add_cancel (by omega))) (w_Rd_wrong (by omega) (okx_mono (okx_bd h) ?_))
          intro r18 s19 h
          show Xw _ _ _ _ 80 _ [_] _ _
          obtain ⟨g20, h⟩ := okx_ck h
          exact xi_ireturn D_Rd_readPart_80 rfl (g20) (okx_I h)
noncomputable def f_Rd_readPart_b16 (R_Rd_readJoined : Int32 → Int32 → Sg → Option (Int32 × Sg)) (R_Rd_readPart : Int32 → Sg → Option (Int32 × Sg)) (x1 : Int32) (y0 : Int32) (s : Sg) : Option (Int32 × Sg) :=
  f_ck (zl_B s) <|
  if (mI s 42 4) = 2 then
    if y0 = (-1) then
      f_Rd_readPart_b35 R_Rd_readJoined R_Rd_readPart  s
    else
      if y0 < 4 then
        f_Rd_readPart_b41 R_Rd_readJoined R_Rd_readPart x1 y0 s
      else
        f_Rd_readPart_b35 R_Rd_readJoined R_Rd_readPart  s
  else
    f_Rd_readPart_b41 R_Rd_readJoined R_Rd_readPart x1 y0 s
theorem w_Rd_readPart_b16 {x1 : Int32} {y0 : Int32} {s : Sg} {d : Nat} {Q : Option (Option Value) → Sg → Prop} (hd : 20 ≤ d) {R_Rd_readJoined : Int32 → Int32 → Sg → Option (Int32 × Sg)} {R_Rd_readPart : Int32 → Sg → Option (Int32 × Sg)} (hR_Rd_readJoined : ∀ {x1 x2 : Int32} {s : Sg} {Q : Option (Option Value) → Sg → Prop}, 0 = 0 → okx (zq_I Q) (R_Rd_readJoined x1 x2 s) → Cw (d - 1) M_Rd_readJoined [.ref 42, .int x1, .int x2] s Q) (hR_Rd_readPart : ∀ {x1 : Int32} {s : Sg} {Q : Option (Option Value) → Sg → Prop}, 0 = 0 → okx (zq_I Q) (R_Rd_readPart x1 s) → Cw (d - 1) M_Rd_readPart [.ref 42, .int x1] s Q) (h : okx (zq_I Q) (f_Rd_readPart_b16 R_Rd_readJoined R_Rd_readPart x1 y0 s)) : Xw d M_Rd_readPart 0 0 16 [.ref 42, .int x1, .retAddr 0, .retAddr 0] [.int y0] s Q := by
  unfold f_Rd_readPart_b16 at h
  refine xi_istore_n (ls' := [_, _, _, _]) D_Rd_readPart_16 rfl (by decide) ?_
  refine xi_aload_n D_Rd_readPart_17 rfl ?_
  obtain ⟨g5, h⟩ := okx_ck h
  refine xi_getI D_Rd_readPart_18 F_Rd_46 (zl_fo (g5).1 rfl) ⟨rfl, by decide⟩ ?_
  refine xj_iconst (v := 2) D_Rd_readPart_21 rfl ?_
  refine xi_icmp_ne D_Rd_readPart_22 (fun c6 => ?_) (fun c6 => ?_)
  · have h := okx_F c6 h
    exact w_Rd_readPart_b41 (by omega) hR_Rd_readJoined hR_Rd_readPart h
  · have h := okx_T c6 h
    refine xi_iload_n D_Rd_readPart_25 rfl ?_
    refine xj_iconst (v := (-1)) D_Rd_readPart_26 rfl ?_
    refine xi_icmp_eq D_Rd_readPart_27 (fun c7 => ?_) (fun c7 => ?_)
    · have h := okx_T c7 h
      exact xk_wk (w_Rd_readPart_b35 (by omega) hR_Rd_readJoined hR_Rd_readPart h) ⟨Or.inl rfl, Or.inr rfl, Or.inr rfl, Or.inl rfl, trivial⟩
    · have h := okx_F c7 h
      refine xi_iload_n D_Rd_readPart_30 rfl ?_
      refine xj_iconst (v := 4) D_Rd_readPart_31 rfl ?_
      refine xi_icmp_lt D_Rd_readPart_32 (fun c8 => ?_) (fun c8 => ?_)
      · have h := okx_T c8 h
        exact w_Rd_readPart_b41 (by omega) hR_Rd_readJoined hR_Rd_readPart h
      · have h := okx_F c8 h
        exact xk_wk (w_Rd_readPart_b35 (by omega) hR_Rd_readJoined hR_Rd_readPart h) ⟨Or.inl rfl, Or.inr rfl, Or.inr rfl, Or.inl rfl, trivial⟩
noncomputable def f_Rd_readPart (R_Rd_readJoined : Int32 → Int32 → Sg → Option (Int32 × Sg)) (R_Rd_readPart : Int32 → Sg → Option (Int32 × Sg)) (x1 : Int32) (s : Sg) : Option (Int32 × Sg) :=
  f_ck (zl_B s) <|
  if (mI s 42 4) = 2 then
    f_bd (f_Rd_whoseName  s) fun r3 s4 =>
    f_Rd_readPart_b16 R_Rd_readJoined R_Rd_readPart x1 r3 s4
  else
    f_Rd_readPart_b16 R_Rd_readJoined R_Rd_readPart x1 (-1) s
theorem w_Rd_readPart {x1 : Int32} {s : Sg} {d : Nat} {Q : Option (Option Value) → Sg → Prop} (hd : 20 ≤ d) {R_Rd_readJoined : Int32 → Int32 → Sg → Option (Int32 × Sg)} {R_Rd_readPart : Int32 → Sg → Option (Int32 × Sg)} (hR_Rd_readJoined : ∀ {x1 x2 : Int32} {s : Sg} {Q : Option (Option Value) → Sg → Prop}, 0 = 0 → okx (zq_I Q) (R_Rd_readJoined x1 x2 s) → Cw (d - 1) M_Rd_readJoined [.ref 42, .int x1, .int x2] s Q) (hR_Rd_readPart : ∀ {x1 : Int32} {s : Sg} {Q : Option (Option Value) → Sg → Prop}, 0 = 0 → okx (zq_I Q) (R_Rd_readPart x1 s) → Cw (d - 1) M_Rd_readPart [.ref 42, .int x1] s Q) (h : okx (zq_I Q) (f_Rd_readPart R_Rd_readJoined R_Rd_readPart x1 s)) : Cw d M_Rd_readPart [.ref 42, .int x1] s Q := by
  refine Cw.of (by decide +kernel) (Nat.le_of_ble_eq_true rfl) ?_
  show Xw d M_Rd_readPart 0 0 0 [.ref 42, .int x1, .retAddr 0, .retAddr 0] [] s _
  unfold f_Rd_readPart at h
  refine xi_aload_n D_Rd_readPart_0 rfl ?_
  obtain ⟨g1, h⟩ := okx_ck h
  refine xi_getI D_Rd_readPart_1 F_Rd_46 (zl_fo (g1).1 rfl) ⟨rfl, by decide⟩ ?_
  refine xj_iconst (v := 2) D_Rd_readPart_4 rfl ?_
  refine xi_icmp_ne D_Rd_readPart_5 (fun c2 => ?_) (fun c2 => ?_)
  · have h := okx_F c2 h
    refine xj_iconst (v := (-1)) D_Rd_readPart_15 rfl ?_
    exact w_Rd_readPart_b16 (by omega) hR_Rd_readJoined hR_Rd_readPart h
  · have h := okx_T c2 h
    refine xi_aload_n D_Rd_readPart_8 rfl ?_
    refine xj_V0 D_Rd_readPart_9 L_Rd_96 C_Rd_whoseName Z_Rd_whoseName (zl_fo (g1).1 rfl) (Nat.le_of_ble_eq_true rfl) (Nat.le_of_eq (Nat.sub_add_cancel (by omega))) (w_Rd_whoseName (by omega) (okx_mono (okx_bd h) ?_))
    intro r3 s4 h
    show Xw _ _ _ _ 12 _ [_] _ _
    refine xi_goto D_Rd_readPart_12 ?_
    exact w_Rd_readPart_b16 (by omega) hR_Rd_readJoined hR_Rd_readPart h
