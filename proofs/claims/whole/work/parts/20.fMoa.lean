/-! by a program of ours (wip/whole/gen/func.py, mkall.py) out of the listing: Mo_stepOf Mo_isPains Mo_worthOf Mo_adds Mo_isThing Mo_apart Mo_bits Mo_hasBy Mo_makesBy Mo_orders Mo_shareBy Mo_shareIn Mo_isBought Mo_isPaid Mo_hasOf -/
noncomputable def f_Mo_stepOf (x1 : Int32) (x2 : Int32) (s : Sg) : Option (Int32 × Sg) :=
  some (((x1 >>> ((2 * x2) &&& 31)) &&& 3), s)
theorem w_Mo_stepOf {x1 : Int32} {x2 : Int32} {s : Sg} {d : Nat} {Q : Option (Option Value) → Sg → Prop} (hd : 1 ≤ d) (h : okx (zq_I Q) (f_Mo_stepOf x1 x2 s)) : Cw d M_Mo_stepOf [.ref 46, .int x1, .int x2] s Q := by
  refine Cw.of (by decide +kernel) (Nat.le_of_ble_eq_true rfl) ?_
  show Xw d M_Mo_stepOf 0 0 0 [.ref 46, .int x1, .int x2] [] s _
  unfold f_Mo_stepOf at h
  refine xi_iload_n D_Mo_stepOf_0 rfl ?_
  refine xj_iconst (v := 2) D_Mo_stepOf_1 rfl ?_
  refine xi_iload_n D_Mo_stepOf_2 rfl ?_
  refine xi_imul D_Mo_stepOf_3 ?_
  refine xi_ishr D_Mo_stepOf_4 ?_
  refine xj_iconst (v := 3) D_Mo_stepOf_5 rfl ?_
  refine xi_iand D_Mo_stepOf_6 ?_
  exact xi_ireturn D_Mo_stepOf_7 rfl (rfl) (okx_I h)
noncomputable def f_Mo_isPains_b20 (R20 : Int32 → Int32 → Sg → Option (Int32 × Sg)) (x1 : Int32) (x2 : Int32) (s : Sg) : Option (Int32 × Sg) :=
  f_ck (zl_B s) <|
  if (mI s 46 10) ≤ x2 then
    some (1, s)
  else
    f_bd (f_Mo_stepOf x1 x2 s) fun r6 s7 =>
    f_ck (zl_B s7) <|
    f_ck (vp_in x2 8) <|
    if r6 ≤ (mI s7 49 (Int32.toNatClampNeg x2)) then
      R20 x1 (x2 + 1) s7
    else
      some (0, s7)
theorem w_Mo_isPains_b20 {x1 : Int32} {x2 : Int32} {s : Sg} {d : Nat} {Q : Option (Option Value) → Sg → Prop} (hd : 2 ≤ d) {R20 : Int32 → Int32 → Sg → Option (Int32 × Sg)} (hR20 : ∀ (x1 : Int32) (x2 : Int32) (s : Sg), okx (zq_I Q) (R20 x1 x2 s) → Xw d M_Mo_isPains 0 0 20 [.ref 46, .int x1, .int x2] [] s Q) (h : okx (zq_I Q) (f_Mo_isPains_b20 R20 x1 x2 s)) : Xw d M_Mo_isPains 0 0 20 [.ref 46, .int x1, .int x2] [] s Q := by
  unfold f_Mo_isPains_b20 at h
  refine xi_iload_n D_Mo_isPains_20 rfl ?_
  refine xi_aload_n D_Mo_isPains_21 rfl ?_
  obtain ⟨g4, h⟩ := okx_ck h
  refine xi_getI D_Mo_isPains_22 F_Mo_234 (zl_fo (g4).1 rfl) ⟨rfl, by decide⟩ ?_
  refine xi_icmp_ge D_Mo_isPains_25 (fun c5 => ?_) (fun c5 => ?_)
  · have h := okx_T c5 h
    refine xj_iconst (v := 1) D_Mo_isPains_51 rfl ?_
    exact xi_ireturn D_Mo_isPains_52 rfl (rfl) (okx_I h)
  · have h := okx_F c5 h
    refine xi_aload_n D_Mo_isPains_28 rfl ?_
    refine xi_iload_n D_Mo_isPains_29 rfl ?_
    refine xi_iload_n D_Mo_isPains_30 rfl ?_
    refine xj_V2 D_Mo_isPains_31 L_Mo_237 C_Mo_stepOf Z_Mo_stepOf (zl_fo (g4).1 rfl) (Nat.le_of_ble_eq_true rfl) (Nat.le_of_eq (Nat.sub_add_cancel (by omega))) (w_Mo_stepOf (by omega) (okx_mono (okx_bd h) ?_))
    intro r6 s7 h
    show Xw _ _ _ _ 34 _ [_] _ _
    refine xi_aload_n D_Mo_isPains_34 rfl ?_
    obtain ⟨g8, h⟩ := okx_ck h
    refine xi_getR D_Mo_isPains_35 F_Mo_17 (zl_fo (g8).1 rfl) ⟨rfl, by decide⟩ (zl_gr (g8).2 rfl rfl) ?_
    refine xi_iload_n D_Mo_isPains_38 rfl ?_
    obtain ⟨g9, h⟩ := okx_ck h
    refine xj_iald D_Mo_isPains_39 (zl_fx (g8).1 rfl) (zl_ib (n := 8) rfl (g9)) ?_
    refine xi_icmp_le D_Mo_isPains_40 (fun c10 => ?_) (fun c10 => ?_)
    · have h := okx_T c10 h
      refine xi_iinc (v := _ + 1) (ls' := [_, _, _]) D_Mo_isPains_45 rfl rfl rfl (by decide) ?_
      refine xi_goto D_Mo_isPains_48 ?_
      exact hR20 _ _ _ h
    · have h := okx_F c10 h
      refine xj_iconst (v := 0) D_Mo_isPains_43 rfl ?_
      exact xi_ireturn D_Mo_isPains_44 rfl (rfl) (okx_I h)
noncomputable def f_Mo_isPains_h20 : Nat → Int32 → Int32 → Sg → Option (Int32 × Sg)
  | 0, _, _, _ => none
  | n + 1, x1, x2, s => f_Mo_isPains_b20 (f_Mo_isPains_h20 n) x1 x2 s
theorem w_Mo_isPains_h20 {d : Nat} {Q : Option (Option Value) → Sg → Prop} (hd : 2 ≤ d) : ∀ (n : Nat) (x1 : Int32) (x2 : Int32) (s : Sg), okx (zq_I Q) (f_Mo_isPains_h20 n x1 x2 s) → Xw d M_Mo_isPains 0 0 20 [.ref 46, .int x1, .int x2] [] s Q := by
  intro n
  induction n with
  | zero => intro x1 x2 s h; exact okx_no h
  | succ n ih => intro x1 x2 s h; exact w_Mo_isPains_b20 hd  ih  h
noncomputable def f_Mo_isPains (x1 : Int32) (s : Sg) : Option (Int32 × Sg) :=
  if x1 < 0 then
    some (0, s)
  else
    f_ck (zl_B s) <|
    if x1 < ((1 : Int32) <<< ((2 * (mI s 46 10)) &&& 31)) then
      f_Mo_isPains_h20  zl_fl x1 0 s
    else
      some (0, s)
theorem w_Mo_isPains {x1 : Int32} {s : Sg} {d : Nat} {Q : Option (Option Value) → Sg → Prop} (hd : 2 ≤ d) (h : okx (zq_I Q) (f_Mo_isPains x1 s)) : Cw d M_Mo_isPains [.ref 46, .int x1] s Q := by
  refine Cw.of (by decide +kernel) (Nat.le_of_ble_eq_true rfl) ?_
  show Xw d M_Mo_isPains 0 0 0 [.ref 46, .int x1, .retAddr 0] [] s _
  unfold f_Mo_isPains at h
  refine xi_iload_n D_Mo_isPains_0 rfl ?_
  refine xi_if_lt D_Mo_isPains_1 (fun c1 => ?_) (fun c1 => ?_)
  · have h := okx_T c1 h
    refine xj_iconst (v := 0) D_Mo_isPains_16 rfl ?_
    exact xi_ireturn D_Mo_isPains_17 rfl (rfl) (okx_I h)
  · have h := okx_F c1 h
    refine xi_iload_n D_Mo_isPains_4 rfl ?_
    refine xj_iconst (v := 1) D_Mo_isPains_5 rfl ?_
    refine xj_iconst (v := 2) D_Mo_isPains_6 rfl ?_
    refine xi_aload_n D_Mo_isPains_7 rfl ?_
    obtain ⟨g2, h⟩ := okx_ck h
    refine xi_getI D_Mo_isPains_8 F_Mo_234 (zl_fo (g2).1 rfl) ⟨rfl, by decide⟩ ?_
    refine xi_imul D_Mo_isPains_11 ?_
    refine xi_ishl D_Mo_isPains_12 ?_
    refine xi_icmp_lt D_Mo_isPains_13 (fun c3 => ?_) (fun c3 => ?_)
    · have h := okx_T c3 h
      refine xj_iconst (v := 0) D_Mo_isPains_18 rfl ?_
      refine xi_istore_n (ls' := [_, _, _]) D_Mo_isPains_19 rfl (by decide) ?_
      exact w_Mo_isPains_h20 (by omega)  _ _ _ _ h
    · have h := okx_F c3 h
      refine xj_iconst (v := 0) D_Mo_isPains_16 rfl ?_
      exact xi_ireturn D_Mo_isPains_17 rfl (rfl) (okx_I h)
noncomputable def f_Mo_worthOf_b102 (R6 : Int32 → Int32 → Int32 → Int64 → Int32 → Sg → Option (Int32 × Sg)) (x1 : Int32) (x2 : Int32) (x3 : Int32) (x4 : Int64) (x6 : Int32) (s : Sg) : Option (Int32 × Sg) :=
  R6 x1 x2 x3 x4 (x6 + 1) s
theorem w_Mo_worthOf_b102 {x1 : Int32} {x2 : Int32} {x3 : Int32} {x4 : Int64} {x6 : Int32} {s : Sg} {d : Nat} {Q : Option (Option Value) → Sg → Prop} (hd : 2 ≤ d) {R6 : Int32 → Int32 → Int32 → Int64 → Int32 → Sg → Option (Int32 × Sg)} (hR6 : ∀ (x1 : Int32) (x2 : Int32) (x3 : Int32) (x4 : Int64) (x6 : Int32) (s : Sg), okx (zq_I Q) (R6 x1 x2 x3 x4 x6 s) → Xw d M_Mo_worthOf 0 0 6 [.ref 46, .int x1, .int x2, .int x3, .long x4, .retAddr 0, .int x6, .retAddr 0, .retAddr 0] [] s Q) (h : okx (zq_I Q) (f_Mo_worthOf_b102 R6 x1 x2 x3 x4 x6 s)) : Xw d M_Mo_worthOf 0 0 102 [.ref 46, .int x1, .int x2, .int x3, .long x4, .retAddr 0, .int x6, .retAddr 0, .retAddr 0] [] s Q := by
  unfold f_Mo_worthOf_b102 at h
  refine xi_iinc (v := _ + 1) (ls' := [_, _, _, _, _, _, _, _, _]) D_Mo_worthOf_102 rfl rfl rfl (by decide) ?_
  refine xi_goto D_Mo_worthOf_105 ?_
  exact hR6 _ _ _ _ _ _ h
noncomputable def f_Mo_worthOf_b99 (R6 : Int32 → Int32 → Int32 → Int64 → Int32 → Sg → Option (Int32 × Sg)) (x1 : Int32) (x2 : Int32) (x3 : Int32) (x6 : Int32) (y0 : Int64) (y1 : Int64) (s : Sg) : Option (Int32 × Sg) :=
  f_Mo_worthOf_b102 R6 x1 x2 x3 (y0 + y1) x6 s
theorem w_Mo_worthOf_b99 {x1 : Int32} {x2 : Int32} {x3 : Int32} {x6 : Int32} {y0 : Int64} {y1 : Int64} {s : Sg} {d : Nat} {Q : Option (Option Value) → Sg → Prop} (hd : 2 ≤ d) {R6 : Int32 → Int32 → Int32 → Int64 → Int32 → Sg → Option (Int32 × Sg)} (hR6 : ∀ (x1 : Int32) (x2 : Int32) (x3 : Int32) (x4 : Int64) (x6 : Int32) (s : Sg), okx (zq_I Q) (R6 x1 x2 x3 x4 x6 s) → Xw d M_Mo_worthOf 0 0 6 [.ref 46, .int x1, .int x2, .int x3, .long x4, .retAddr 0, .int x6, .retAddr 0, .retAddr 0] [] s Q) (h : okx (zq_I Q) (f_Mo_worthOf_b99 R6 x1 x2 x3 x6 y0 y1 s)) : Xw d M_Mo_worthOf 0 0 99 [.ref 46, .int x1, .int x2, .int x3, .retAddr 0, .retAddr 0, .int x6, .retAddr 0, .retAddr 0] [.long y1, .long y0] s Q := by
  unfold f_Mo_worthOf_b99 at h
  refine xi_ladd D_Mo_worthOf_99 ?_
  refine xi_lstore (ls' := [_, _, _, _, _, _, _, _, _]) D_Mo_worthOf_100 rfl (by decide) ?_
  exact w_Mo_worthOf_b102 (by omega) hR6 h
noncomputable def f_Mo_worthOf_b97 (R6 : Int32 → Int32 → Int32 → Int64 → Int32 → Sg → Option (Int32 × Sg)) (x1 : Int32) (x2 : Int32) (x3 : Int32) (x6 : Int32) (x7 : Int64) (y0 : Int64) (s : Sg) : Option (Int32 × Sg) :=
  f_Mo_worthOf_b99 R6 x1 x2 x3 x6 y0 x7 s
theorem w_Mo_worthOf_b97 {x1 : Int32} {x2 : Int32} {x3 : Int32} {x6 : Int32} {x7 : Int64} {y0 : Int64} {s : Sg} {d : Nat} {Q : Option (Option Value) → Sg → Prop} (hd : 2 ≤ d) {R6 : Int32 → Int32 → Int32 → Int64 → Int32 → Sg → Option (Int32 × Sg)} (hR6 : ∀ (x1 : Int32) (x2 : Int32) (x3 : Int32) (x4 : Int64) (x6 : Int32) (s : Sg), okx (zq_I Q) (R6 x1 x2 x3 x4 x6 s) → Xw d M_Mo_worthOf 0 0 6 [.ref 46, .int x1, .int x2, .int x3, .long x4, .retAddr 0, .int x6, .retAddr 0, .retAddr 0] [] s Q) (h : okx (zq_I Q) (f_Mo_worthOf_b97 R6 x1 x2 x3 x6 x7 y0 s)) : Xw d M_Mo_worthOf 0 0 97 [.ref 46, .int x1, .int x2, .int x3, .retAddr 0, .retAddr 0, .int x6, .long x7, .retAddr 0] [.long y0] s Q := by
  unfold f_Mo_worthOf_b97 at h
  refine xi_lload D_Mo_worthOf_97 rfl ?_
  exact xk_wk (w_Mo_worthOf_b99 (by omega) hR6 h) ⟨Or.inl rfl, Or.inl rfl, Or.inl rfl, Or.inl rfl, Or.inl rfl, Or.inl rfl, Or.inl rfl, Or.inr rfl, Or.inl rfl, trivial⟩
noncomputable def f_Mo_worthOf_b108 (x4 : Int64) (s : Sg) : Option (Int32 × Sg) :=
  let v11 : Int64 := (if x4 < (99999 : Int64) then x4 else (99999 : Int64))
  some ((Int64.toInt32 (if v11 < ((-99999) : Int64) then ((-99999) : Int64) else v11)), s)
theorem w_Mo_worthOf_b108 {x4 : Int64} {s : Sg} {d : Nat} {Q : Option (Option Value) → Sg → Prop} (hd : 2 ≤ d) (h : okx (zq_I Q) (f_Mo_worthOf_b108 x4 s)) : Xw d M_Mo_worthOf 0 0 108 [.retAddr 0, .retAddr 0, .retAddr 0, .retAddr 0, .long x4, .retAddr 0, .retAddr 0, .retAddr 0, .retAddr 0] [] s Q := by
  unfold f_Mo_worthOf_b108 at h
  refine xi_ldc2 D_Mo_worthOf_108 K_Mo_280 ?_
  refine xi_ldc2 D_Mo_worthOf_111 K_Mo_282 ?_
  refine xi_lload D_Mo_worthOf_114 rfl ?_
  refine xi_minl D_Mo_worthOf_116 L_Mo_284 ⟨by omega, Nat.le_of_ble_eq_true rfl⟩ ?_
  refine xi_maxl D_Mo_worthOf_119 L_Mo_290 ⟨by omega, Nat.le_of_ble_eq_true rfl⟩ ?_
  refine xi_l2i D_Mo_worthOf_122 ?_
  exact xi_ireturn D_Mo_worthOf_123 rfl (rfl) (okx_I h)
noncomputable def f_Mo_worthOf_b6 (R6 : Int32 → Int32 → Int32 → Int64 → Int32 → Sg → Option (Int32 × Sg)) (x1 : Int32) (x2 : Int32) (x3 : Int32) (x4 : Int64) (x6 : Int32) (s : Sg) : Option (Int32 × Sg) :=
  f_ck (zl_B s) <|
  if (mI s 46 12) ≤ x6 then
    f_Mo_worthOf_b108  x4 s
  else
    f_ck (vp_in x6 16) <|
    if ((mI s 51 (Int32.toNatClampNeg x6)) &&& (x1 ^^^ (-1))) = 0 then
      f_ck (vp_in x6 16) <|
      if ((mI s 52 (Int32.toNatClampNeg x6)) &&& (x2 ^^^ (-1))) = 0 then
        f_ck (vp_in ((256 * x6) + x3) 2048) <|
        let v8 : Int64 := (Int32.toInt64 (mI s 68 (Int32.toNatClampNeg ((256 * x6) + x3))))
        if (mI s 46 39) = 10 then
          f_Mo_worthOf_b97 R6 x1 x2 x3 x6 v8 x4 s
        else
          if x6 = (mI s 46 38) then
            f_Mo_worthOf_b99 R6 x1 x2 x3 x6 x4 ((v8 * (Int32.toInt64 (mI s 46 39))) / 10) s
          else
            f_Mo_worthOf_b97 R6 x1 x2 x3 x6 v8 x4 s
      else
        f_Mo_worthOf_b102 R6 x1 x2 x3 x4 x6 s
    else
      f_Mo_worthOf_b102 R6 x1 x2 x3 x4 x6 s
theorem w_Mo_worthOf_b6 {x1 : Int32} {x2 : Int32} {x3 : Int32} {x4 : Int64} {x6 : Int32} {s : Sg} {d : Nat} {Q : Option (Option Value) → Sg → Prop} (hd : 2 ≤ d) {R6 : Int32 → Int32 → Int32 → Int64 → Int32 → Sg → Option (Int32 × Sg)} (hR6 : ∀ (x1 : Int32) (x2 : Int32) (x3 : Int32) (x4 : Int64) (x6 : Int32) (s : Sg), okx (zq_I Q) (R6 x1 x2 x3 x4 x6 s) → Xw d M_Mo_worthOf 0 0 6 [.ref 46, .int x1, .int x2, .int x3, .long x4, .retAddr 0, .int x6, .retAddr 0, .retAddr 0] [] s Q) (h : okx (zq_I Q) (f_Mo_worthOf_b6 R6 x1 x2 x3 x4 x6 s)) : Xw d M_Mo_worthOf 0 0 6 [.ref 46, .int x1, .int x2, .int x3, .long x4, .retAddr 0, .int x6, .retAddr 0, .retAddr 0] [] s Q := by
  unfold f_Mo_worthOf_b6 at h
  refine xi_iload D_Mo_worthOf_6 rfl ?_
  refine xi_aload_n D_Mo_worthOf_8 rfl ?_
  obtain ⟨g1, h⟩ := okx_ck h
  refine xi_getI D_Mo_worthOf_9 F_Mo_241 (zl_fo (g1).1 rfl) ⟨rfl, by decide⟩ ?_
  refine xi_icmp_ge D_Mo_worthOf_12 (fun c2 => ?_) (fun c2 => ?_)
  · have h := okx_T c2 h
    exact xk_wk (w_Mo_worthOf_b108 (by omega)  h) ⟨Or.inr rfl, Or.inr rfl, Or.inr rfl, Or.inr rfl, Or.inl rfl, Or.inl rfl, Or.inr rfl, Or.inl rfl, Or.inl rfl, trivial⟩
  · have h := okx_F c2 h
    refine xi_aload_n D_Mo_worthOf_15 rfl ?_
    refine xi_getR D_Mo_worthOf_16 F_Mo_23 (zl_fo (g1).1 rfl) ⟨rfl, by decide⟩ (zl_gr (g1).2 rfl rfl) ?_
    refine xi_iload D_Mo_worthOf_19 rfl ?_
    obtain ⟨g3, h⟩ := okx_ck h
    refine xj_iald D_Mo_worthOf_21 (zl_fx (g1).1 rfl) (zl_ib (n := 16) rfl (g3)) ?_
    refine xi_iload_n D_Mo_worthOf_22 rfl ?_
    refine xj_iconst (v := (-1)) D_Mo_worthOf_23 rfl ?_
    refine xi_ixor D_Mo_worthOf_24 ?_
    refine xi_iand D_Mo_worthOf_25 ?_
    refine xi_if_ne D_Mo_worthOf_26 (fun c4 => ?_) (fun c4 => ?_)
    · have h := okx_F c4 h
      exact w_Mo_worthOf_b102 (by omega) hR6 h
    · have h := okx_T c4 h
      refine xi_aload_n D_Mo_worthOf_29 rfl ?_
      refine xi_getR D_Mo_worthOf_30 F_Mo_26 (zl_fo (g1).1 rfl) ⟨rfl, by decide⟩ (zl_gr (g1).2 rfl rfl) ?_
      refine xi_iload D_Mo_worthOf_33 rfl ?_
      obtain ⟨g5, h⟩ := okx_ck h
      refine xj_iald D_Mo_worthOf_35 (zl_fx (g1).1 rfl) (zl_ib (n := 16) rfl (g5)) ?_
      refine xi_iload_n D_Mo_worthOf_36 rfl ?_
      refine xj_iconst (v := (-1)) D_Mo_worthOf_37 rfl ?_
      refine xi_ixor D_Mo_worthOf_38 ?_
      refine xi_iand D_Mo_worthOf_39 ?_
      refine xi_if_eq D_Mo_worthOf_40 (fun c6 => ?_) (fun c6 => ?_)
      · have h := okx_T c6 h
        refine xi_aload_n D_Mo_worthOf_46 rfl ?_
        refine xi_getR D_Mo_worthOf_47 F_Mo_75 (zl_fo (g1).1 rfl) ⟨rfl, by decide⟩ (zl_gr (g1).2 rfl rfl) ?_
        refine xi_sipush (v := 256) D_Mo_worthOf_50 rfl ?_
        refine xi_iload D_Mo_worthOf_53 rfl ?_
        refine xi_imul D_Mo_worthOf_55 ?_
        refine xi_iload_n D_Mo_worthOf_56 rfl ?_
        refine xi_iadd D_Mo_worthOf_57 ?_
        obtain ⟨g7, h⟩ := okx_ck h
        refine xj_iald D_Mo_worthOf_58 (zl_fx (g1).1 rfl) (zl_ib (n := 2048) rfl (g7)) ?_
        refine xi_i2l D_Mo_worthOf_59 ?_
        refine xi_lstore (ls' := [_, _, _, _, _, _, _, _, _]) D_Mo_worthOf_60 rfl (by decide) ?_
        refine xi_lload D_Mo_worthOf_62 rfl ?_
        refine xi_aload_n D_Mo_worthOf_64 rfl ?_
        refine xi_getI D_Mo_worthOf_65 F_Mo_272 (zl_fo (g1).1 rfl) ⟨rfl, by decide⟩ ?_
        refine xi_bipush (v := 10) D_Mo_worthOf_68 rfl ?_
        refine xi_icmp_eq D_Mo_worthOf_70 (fun c9 => ?_) (fun c9 => ?_)
        · have h := okx_T c9 h
          exact xk_wk (w_Mo_worthOf_b97 (by omega) hR6 h) ⟨Or.inl rfl, Or.inl rfl, Or.inl rfl, Or.inl rfl, Or.inr rfl, Or.inl rfl, Or.inl rfl, Or.inl rfl, Or.inl rfl, trivial⟩
        · have h := okx_F c9 h
          refine xi_iload D_Mo_worthOf_73 rfl ?_
          refine xi_aload_n D_Mo_worthOf_75 rfl ?_
          refine xi_getI D_Mo_worthOf_76 F_Mo_275 (zl_fo (g1).1 rfl) ⟨rfl, by decide⟩ ?_
          refine xi_icmp_ne D_Mo_worthOf_79 (fun c10 => ?_) (fun c10 => ?_)
          · have h := okx_F c10 h
            exact xk_wk (w_Mo_worthOf_b97 (by omega) hR6 h) ⟨Or.inl rfl, Or.inl rfl, Or.inl rfl, Or.inl rfl, Or.inr rfl, Or.inl rfl, Or.inl rfl, Or.inl rfl, Or.inl rfl, trivial⟩
          · have h := okx_T c10 h
            refine xi_lload D_Mo_worthOf_82 rfl ?_
            refine xi_aload_n D_Mo_worthOf_84 rfl ?_
            refine xi_getI D_Mo_worthOf_85 F_Mo_272 (zl_fo (g1).1 rfl) ⟨rfl, by decide⟩ ?_
            refine xi_i2l D_Mo_worthOf_88 ?_
            refine xi_lmul D_Mo_worthOf_89 ?_
            refine xi_ldc2 D_Mo_worthOf_90 K_Mo_278 ?_
            refine xi_ldiv D_Mo_worthOf_93 (by decide) ?_
            refine xi_goto D_Mo_worthOf_94 ?_
            exact xk_wk (w_Mo_worthOf_b99 (by omega) hR6 h) ⟨Or.inl rfl, Or.inl rfl, Or.inl rfl, Or.inl rfl, Or.inr rfl, Or.inl rfl, Or.inl rfl, Or.inr rfl, Or.inl rfl, trivial⟩
      · have h := okx_F c6 h
        refine xi_goto D_Mo_worthOf_43 ?_
        exact w_Mo_worthOf_b102 (by omega) hR6 h
noncomputable def f_Mo_worthOf_h6 : Nat → Int32 → Int32 → Int32 → Int64 → Int32 → Sg → Option (Int32 × Sg)
  | 0, _, _, _, _, _, _ => none
  | n + 1, x1, x2, x3, x4, x6, s => f_Mo_worthOf_b6 (f_Mo_worthOf_h6 n) x1 x2 x3 x4 x6 s
theorem w_Mo_worthOf_h6 {d : Nat} {Q : Option (Option Value) → Sg → Prop} (hd : 2 ≤ d) : ∀ (n : Nat) (x1 : Int32) (x2 : Int32) (x3 : Int32) (x4 : Int64) (x6 : Int32) (s : Sg), okx (zq_I Q) (f_Mo_worthOf_h6 n x1 x2 x3 x4 x6 s) → Xw d M_Mo_worthOf 0 0 6 [.ref 46, .int x1, .int x2, .int x3, .long x4, .retAddr 0, .int x6, .retAddr 0, .retAddr 0] [] s Q := by
  intro n
  induction n with
  | zero => intro x1 x2 x3 x4 x6 s h; exact okx_no h
  | succ n ih => intro x1 x2 x3 x4 x6 s h; exact w_Mo_worthOf_b6 hd  ih  h
noncomputable def f_Mo_worthOf (x1 : Int32) (x2 : Int32) (x3 : Int32) (s : Sg) : Option (Int32 × Sg) :=
  f_Mo_worthOf_h6  zl_fl x1 x2 x3 0 0 s
theorem w_Mo_worthOf {x1 : Int32} {x2 : Int32} {x3 : Int32} {s : Sg} {d : Nat} {Q : Option (Option Value) → Sg → Prop} (hd : 2 ≤ d) (h : okx (zq_I Q) (f_Mo_worthOf x1 x2 x3 s)) : Cw d M_Mo_worthOf [.ref 46, .int x1, .int x2, .int x3] s Q := by
  refine Cw.of (by decide +kernel) (Nat.le_of_ble_eq_true rfl) ?_
  show Xw d M_Mo_worthOf 0 0 0 [.ref 46, .int x1, .int x2, .int x3, .retAddr 0, .retAddr 0, .retAddr 0, .retAddr 0, .retAddr 0] [] s _
  unfold f_Mo_worthOf at h
  refine xj_lconst (v := 0) D_Mo_worthOf_0 rfl ?_
  refine xi_lstore (ls' := [_, _, _, _, _, _, _, _, _]) D_Mo_worthOf_1 rfl (by decide) ?_
  refine xj_iconst (v := 0) D_Mo_worthOf_3 rfl ?_
  refine xi_istore (ls' := [_, _, _, _, _, _, _, _, _]) D_Mo_worthOf_4 rfl (by decide) ?_
  exact w_Mo_worthOf_h6 (by omega)  _ _ _ _ _ _ _ h
noncomputable def f_Mo_adds_b101 (R2 : Int32 → Int32 → Int32 → Sg → Option (Int32 × Sg)) (R15 : Int32 → Int32 → Int32 → Int32 → Sg → Option (Int32 × Sg)) (R52 : Int32 → Int32 → Int32 → Int32 → Int32 → Sg → Option (Int32 × Sg)) (x1 : Int32) (x2 : Int32) (x3 : Int32) (x4 : Int32) (x5 : Int32) (s : Sg) : Option (Int32 × Sg) :=
  R52 x1 x2 x3 x4 (x5 + 1) s
theorem w_Mo_adds_b101 {x1 : Int32} {x2 : Int32} {x3 : Int32} {x4 : Int32} {x5 : Int32} {s : Sg} {d : Nat} {Q : Option (Option Value) → Sg → Prop} (hd : 3 ≤ d) {R2 : Int32 → Int32 → Int32 → Sg → Option (Int32 × Sg)} {R15 : Int32 → Int32 → Int32 → Int32 → Sg → Option (Int32 × Sg)} {R52 : Int32 → Int32 → Int32 → Int32 → Int32 → Sg → Option (Int32 × Sg)} (hR2 : ∀ (x1 : Int32) (x2 : Int32) (x3 : Int32) (s : Sg), okx (zq_I Q) (R2 x1 x2 x3 s) → Xw d M_Mo_adds 0 0 2 [.ref 46, .int x1, .int x2, .int x3, .retAddr 0, .retAddr 0] [] s Q) (hR15 : ∀ (x1 : Int32) (x2 : Int32) (x3 : Int32) (x4 : Int32) (s : Sg), okx (zq_I Q) (R15 x1 x2 x3 x4 s) → Xw d M_Mo_adds 0 0 15 [.ref 46, .int x1, .int x2, .int x3, .int x4, .retAddr 0] [] s Q) (hR52 : ∀ (x1 : Int32) (x2 : Int32) (x3 : Int32) (x4 : Int32) (x5 : Int32) (s : Sg), okx (zq_I Q) (R52 x1 x2 x3 x4 x5 s) → Xw d M_Mo_adds 0 0 52 [.ref 46, .int x1, .int x2, .int x3, .int x4, .int x5] [] s Q) (h : okx (zq_I Q) (f_Mo_adds_b101 R2 R15 R52 x1 x2 x3 x4 x5 s)) : Xw d M_Mo_adds 0 0 101 [.ref 46, .int x1, .int x2, .int x3, .int x4, .int x5] [] s Q := by
  unfold f_Mo_adds_b101 at h
  refine xi_iinc (v := _ + 1) (ls' := [_, _, _, _, _, _]) D_Mo_adds_101 rfl rfl rfl (by decide) ?_
  refine xi_goto D_Mo_adds_104 ?_
  exact hR52 _ _ _ _ _ _ h
noncomputable def f_Mo_adds_b107 (R2 : Int32 → Int32 → Int32 → Sg → Option (Int32 × Sg)) (R15 : Int32 → Int32 → Int32 → Int32 → Sg → Option (Int32 × Sg)) (x1 : Int32) (x2 : Int32) (x3 : Int32) (x4 : Int32) (s : Sg) : Option (Int32 × Sg) :=
  R15 x1 x2 x3 (x4 + 1) s
theorem w_Mo_adds_b107 {x1 : Int32} {x2 : Int32} {x3 : Int32} {x4 : Int32} {s : Sg} {d : Nat} {Q : Option (Option Value) → Sg → Prop} (hd : 3 ≤ d) {R2 : Int32 → Int32 → Int32 → Sg → Option (Int32 × Sg)} {R15 : Int32 → Int32 → Int32 → Int32 → Sg → Option (Int32 × Sg)} (hR2 : ∀ (x1 : Int32) (x2 : Int32) (x3 : Int32) (s : Sg), okx (zq_I Q) (R2 x1 x2 x3 s) → Xw d M_Mo_adds 0 0 2 [.ref 46, .int x1, .int x2, .int x3, .retAddr 0, .retAddr 0] [] s Q) (hR15 : ∀ (x1 : Int32) (x2 : Int32) (x3 : Int32) (x4 : Int32) (s : Sg), okx (zq_I Q) (R15 x1 x2 x3 x4 s) → Xw d M_Mo_adds 0 0 15 [.ref 46, .int x1, .int x2, .int x3, .int x4, .retAddr 0] [] s Q) (h : okx (zq_I Q) (f_Mo_adds_b107 R2 R15 x1 x2 x3 x4 s)) : Xw d M_Mo_adds 0 0 107 [.ref 46, .int x1, .int x2, .int x3, .int x4, .retAddr 0] [] s Q := by
  unfold f_Mo_adds_b107 at h
  refine xi_iinc (v := _ + 1) (ls' := [_, _, _, _, _, _]) D_Mo_adds_107 rfl rfl rfl (by decide) ?_
  refine xi_goto D_Mo_adds_110 ?_
  exact hR15 _ _ _ _ _ h
noncomputable def f_Mo_adds_b52 (R2 : Int32 → Int32 → Int32 → Sg → Option (Int32 × Sg)) (R15 : Int32 → Int32 → Int32 → Int32 → Sg → Option (Int32 × Sg)) (R52 : Int32 → Int32 → Int32 → Int32 → Int32 → Sg → Option (Int32 × Sg)) (x1 : Int32) (x2 : Int32) (x3 : Int32) (x4 : Int32) (x5 : Int32) (s : Sg) : Option (Int32 × Sg) :=
  f_ck (zl_B s) <|
  if ((1 : Int32) <<< ((2 * (mI s 46 10)) &&& 31)) ≤ x5 then
    f_Mo_adds_b107 R2 R15 x1 x2 x3 x4 s
  else
    f_bd (f_Mo_isPains x5 s) fun r9 s10 =>
    if r9 = 0 then
      f_Mo_adds_b101 R2 R15 R52 x1 x2 x3 x4 x5 s10
    else
      f_ck (zl_B s10) <|
      f_bd (f_Mo_worthOf x3 (x4 ||| ((1 : Int32) <<< (x1 &&& 31))) x5 s10) fun r13 s14 =>
      f_ck (zl_B s14) <|
      f_bd (f_Mo_worthOf x3 x4 x5 s14) fun r16 s17 =>
      if r13 ≤ r16 then
        f_Mo_adds_b101 R2 R15 R52 x1 x2 x3 x4 x5 s17
      else
        some (1, s17)
theorem w_Mo_adds_b52 {x1 : Int32} {x2 : Int32} {x3 : Int32} {x4 : Int32} {x5 : Int32} {s : Sg} {d : Nat} {Q : Option (Option Value) → Sg → Prop} (hd : 3 ≤ d) {R2 : Int32 → Int32 → Int32 → Sg → Option (Int32 × Sg)} {R15 : Int32 → Int32 → Int32 → Int32 → Sg → Option (Int32 × Sg)} {R52 : Int32 → Int32 → Int32 → Int32 → Int32 → Sg → Option (Int32 × Sg)} (hR2 : ∀ (x1 : Int32) (x2 : Int32) (x3 : Int32) (s : Sg), okx (zq_I Q) (R2 x1 x2 x3 s) → Xw d M_Mo_adds 0 0 2 [.ref 46, .int x1, .int x2, .int x3, .retAddr 0, .retAddr 0] [] s Q) (hR15 : ∀ (x1 : Int32) (x2 : Int32) (x3 : Int32) (x4 : Int32) (s : Sg), okx (zq_I Q) (R15 x1 x2 x3 x4 s) → Xw d M_Mo_adds 0 0 15 [.ref 46, .int x1, .int x2, .int x3, .int x4, .retAddr 0] [] s Q) (hR52 : ∀ (x1 : Int32) (x2 : Int32) (x3 : Int32) (x4 : Int32) (x5 : Int32) (s : Sg), okx (zq_I Q) (R52 x1 x2 x3 x4 x5 s) → Xw d M_Mo_adds 0 0 52 [.ref 46, .int x1, .int x2, .int x3, .int x4, .int x5] [] s Q) (h : okx (zq_I Q) (f_Mo_adds_b52 R2 R15 R52 x1 x2 x3 x4 x5 s)) : Xw d M_Mo_adds 0 0 52 [.ref 46, .int x1, .int x2, .int x3, .int x4, .int x5] [] s Q := by
  unfold f_Mo_adds_b52 at h
  refine xi_iload D_Mo_adds_52 rfl ?_
  refine xj_iconst (v := 1) D_Mo_adds_54 rfl ?_
  refine xj_iconst (v := 2) D_Mo_adds_55 rfl ?_
  refine xi_aload_n D_Mo_adds_56 rfl ?_
  obtain ⟨g7, h⟩ := okx_ck h
  refine xi_getI D_Mo_adds_57 F_Mo_234 (zl_fo (g7).1 rfl) ⟨rfl, by decide⟩ ?_
  refine xi_imul D_Mo_adds_60 ?_
  refine xi_ishl D_Mo_adds_61 ?_
  refine xi_icmp_ge D_Mo_adds_62 (fun c8 => ?_) (fun c8 => ?_)
  · have h := okx_T c8 h
    exact xk_wk (w_Mo_adds_b107 (by omega) hR2 hR15 h) ⟨Or.inl rfl, Or.inl rfl, Or.inl rfl, Or.inl rfl, Or.inl rfl, Or.inr rfl, trivial⟩
  · have h := okx_F c8 h
    refine xi_aload_n D_Mo_adds_65 rfl ?_
    refine xi_iload D_Mo_adds_66 rfl ?_
    refine xj_V1 D_Mo_adds_68 L_Mo_296 C_Mo_isPains Z_Mo_isPains (zl_fo (g7).1 rfl) (Nat.le_of_ble_eq_true rfl) (Nat.le_of_eq (Nat.sub_add_cancel (by omega))) (w_Mo_isPains (by omega) (okx_mono (okx_bd h) ?_))
    intro r9 s10 h
    show Xw _ _ _ _ 71 _ [_] _ _
    refine xi_if_eq D_Mo_adds_71 (fun c11 => ?_) (fun c11 => ?_)
    · have h := okx_T c11 h
      exact w_Mo_adds_b101 (by omega) hR2 hR15 hR52 h
    · have h := okx_F c11 h
      refine xi_aload_n D_Mo_adds_74 rfl ?_
      refine xi_iload_n D_Mo_adds_75 rfl ?_
      refine xi_iload D_Mo_adds_76 rfl ?_
      refine xj_iconst (v := 1) D_Mo_adds_78 rfl ?_
      refine xi_iload_n D_Mo_adds_79 rfl ?_
      refine xi_ishl D_Mo_adds_80 ?_
      refine xi_ior D_Mo_adds_81 ?_
      refine xi_iload D_Mo_adds_82 rfl ?_
      obtain ⟨g12, h⟩ := okx_ck h
      refine xj_V3 D_Mo_adds_84 L_Mo_299 C_Mo_worthOf Z_Mo_worthOf (zl_fo (g12).1 rfl) (Nat.le_of_ble_eq_true rfl) (Nat.le_of_eq (Nat.sub_add_cancel (by omega))) (w_Mo_worthOf (by omega) (okx_mono (okx_bd h) ?_))
      intro r13 s14 h
      show Xw _ _ _ _ 87 _ [_] _ _
      refine xi_aload_n D_Mo_adds_87 rfl ?_
      refine xi_iload_n D_Mo_adds_88 rfl ?_
      refine xi_iload D_Mo_adds_89 rfl ?_
      refine xi_iload D_Mo_adds_91 rfl ?_
      obtain ⟨g15, h⟩ := okx_ck h
      refine xj_V3 D_Mo_adds_93 L_Mo_299 C_Mo_worthOf Z_Mo_worthOf (zl_fo (g15).1 rfl) (Nat.le_of_ble_eq_true rfl) (Nat.le_of_eq (Nat.sub_add_cancel (by omega))) (w_Mo_worthOf (by omega) (okx_mono (okx_bd h) ?_))
      intro r16 s17 h
      show Xw _ _ _ _ 96 _ [_, _] _ _
      refine xi_icmp_le D_Mo_adds_96 (fun c18 => ?_) (fun c18 => ?_)
      · have h := okx_T c18 h
        exact w_Mo_adds_b101 (by omega) hR2 hR15 hR52 h
      · have h := okx_F c18 h
        refine xj_iconst (v := 1) D_Mo_adds_99 rfl ?_
        exact xi_ireturn D_Mo_adds_100 rfl (rfl) (okx_I h)
noncomputable def f_Mo_adds_h52 (R2 : Int32 → Int32 → Int32 → Sg → Option (Int32 × Sg)) (R15 : Int32 → Int32 → Int32 → Int32 → Sg → Option (Int32 × Sg)) : Nat → Int32 → Int32 → Int32 → Int32 → Int32 → Sg → Option (Int32 × Sg)
  | 0, _, _, _, _, _, _ => none
  | n + 1, x1, x2, x3, x4, x5, s => f_Mo_adds_b52 R2 R15 (f_Mo_adds_h52 R2 R15 n) x1 x2 x3 x4 x5 s
theorem w_Mo_adds_h52 {d : Nat} {Q : Option (Option Value) → Sg → Prop} (hd : 3 ≤ d) {R2 : Int32 → Int32 → Int32 → Sg → Option (Int32 × Sg)} {R15 : Int32 → Int32 → Int32 → Int32 → Sg → Option (Int32 × Sg)} (hR2 : ∀ (x1 : Int32) (x2 : Int32) (x3 : Int32) (s : Sg), okx (zq_I Q) (R2 x1 x2 x3 s) → Xw d M_Mo_adds 0 0 2 [.ref 46, .int x1, .int x2, .int x3, .retAddr 0, .retAddr 0] [] s Q) (hR15 : ∀ (x1 : Int32) (x2 : Int32) (x3 : Int32) (x4 : Int32) (s : Sg), okx (zq_I Q) (R15 x1 x2 x3 x4 s) → Xw d M_Mo_adds 0 0 15 [.ref 46, .int x1, .int x2, .int x3, .int x4, .retAddr 0] [] s Q) : ∀ (n : Nat) (x1 : Int32) (x2 : Int32) (x3 : Int32) (x4 : Int32) (x5 : Int32) (s : Sg), okx (zq_I Q) (f_Mo_adds_h52 R2 R15 n x1 x2 x3 x4 x5 s) → Xw d M_Mo_adds 0 0 52 [.ref 46, .int x1, .int x2, .int x3, .int x4, .int x5] [] s Q := by
  intro n
  induction n with
  | zero => intro x1 x2 x3 x4 x5 s h; exact okx_no h
  | succ n ih => intro x1 x2 x3 x4 x5 s h; exact w_Mo_adds_b52 hd hR2 hR15 ih  h
noncomputable def f_Mo_adds_b113 (R2 : Int32 → Int32 → Int32 → Sg → Option (Int32 × Sg)) (x1 : Int32) (x2 : Int32) (x3 : Int32) (s : Sg) : Option (Int32 × Sg) :=
  R2 x1 x2 (x3 + 1) s
theorem w_Mo_adds_b113 {x1 : Int32} {x2 : Int32} {x3 : Int32} {s : Sg} {d : Nat} {Q : Option (Option Value) → Sg → Prop} (hd : 3 ≤ d) {R2 : Int32 → Int32 → Int32 → Sg → Option (Int32 × Sg)} (hR2 : ∀ (x1 : Int32) (x2 : Int32) (x3 : Int32) (s : Sg), okx (zq_I Q) (R2 x1 x2 x3 s) → Xw d M_Mo_adds 0 0 2 [.ref 46, .int x1, .int x2, .int x3, .retAddr 0, .retAddr 0] [] s Q) (h : okx (zq_I Q) (f_Mo_adds_b113 R2 x1 x2 x3 s)) : Xw d M_Mo_adds 0 0 113 [.ref 46, .int x1, .int x2, .int x3, .retAddr 0, .retAddr 0] [] s Q := by
  unfold f_Mo_adds_b113 at h
  refine xi_iinc (v := _ + 1) (ls' := [_, _, _, _, _, _]) D_Mo_adds_113 rfl rfl rfl (by decide) ?_
  refine xi_goto D_Mo_adds_116 ?_
  exact hR2 _ _ _ _ h
noncomputable def f_Mo_adds_b15 (R2 : Int32 → Int32 → Int32 → Sg → Option (Int32 × Sg)) (R15 : Int32 → Int32 → Int32 → Int32 → Sg → Option (Int32 × Sg)) (x1 : Int32) (x2 : Int32) (x3 : Int32) (x4 : Int32) (s : Sg) : Option (Int32 × Sg) :=
  f_ck (zl_B s) <|
  if ((1 : Int32) <<< ((mI s 46 11) &&& 31)) ≤ x4 then
    f_Mo_adds_b113 R2 x1 x2 x3 s
  else
    if ((x4 >>> (x1 &&& 31)) &&& 1) = 1 then
      f_Mo_adds_b107 R2 R15 x1 x2 x3 x4 s
    else
      if ((x4 >>> (x2 &&& 31)) &&& 1) = 1 then
        f_Mo_adds_b107 R2 R15 x1 x2 x3 x4 s
      else
        f_Mo_adds_h52 R2 R15 zl_fl x1 x2 x3 x4 0 s
theorem w_Mo_adds_b15 {x1 : Int32} {x2 : Int32} {x3 : Int32} {x4 : Int32} {s : Sg} {d : Nat} {Q : Option (Option Value) → Sg → Prop} (hd : 3 ≤ d) {R2 : Int32 → Int32 → Int32 → Sg → Option (Int32 × Sg)} {R15 : Int32 → Int32 → Int32 → Int32 → Sg → Option (Int32 × Sg)} (hR2 : ∀ (x1 : Int32) (x2 : Int32) (x3 : Int32) (s : Sg), okx (zq_I Q) (R2 x1 x2 x3 s) → Xw d M_Mo_adds 0 0 2 [.ref 46, .int x1, .int x2, .int x3, .retAddr 0, .retAddr 0] [] s Q) (hR15 : ∀ (x1 : Int32) (x2 : Int32) (x3 : Int32) (x4 : Int32) (s : Sg), okx (zq_I Q) (R15 x1 x2 x3 x4 s) → Xw d M_Mo_adds 0 0 15 [.ref 46, .int x1, .int x2, .int x3, .int x4, .retAddr 0] [] s Q) (h : okx (zq_I Q) (f_Mo_adds_b15 R2 R15 x1 x2 x3 x4 s)) : Xw d M_Mo_adds 0 0 15 [.ref 46, .int x1, .int x2, .int x3, .int x4, .retAddr 0] [] s Q := by
  unfold f_Mo_adds_b15 at h
  refine xi_iload D_Mo_adds_15 rfl ?_
  refine xj_iconst (v := 1) D_Mo_adds_17 rfl ?_
  refine xi_aload_n D_Mo_adds_18 rfl ?_
  obtain ⟨g3, h⟩ := okx_ck h
  refine xi_getI D_Mo_adds_19 F_Mo_259 (zl_fo (g3).1 rfl) ⟨rfl, by decide⟩ ?_
  refine xi_ishl D_Mo_adds_22 ?_
  refine xi_icmp_ge D_Mo_adds_23 (fun c4 => ?_) (fun c4 => ?_)
  · have h := okx_T c4 h
    exact xk_wk (w_Mo_adds_b113 (by omega) hR2 h) ⟨Or.inl rfl, Or.inl rfl, Or.inl rfl, Or.inl rfl, Or.inr rfl, Or.inl rfl, trivial⟩
  · have h := okx_F c4 h
    refine xi_iload D_Mo_adds_26 rfl ?_
    refine xi_iload_n D_Mo_adds_28 rfl ?_
    refine xi_ishr D_Mo_adds_29 ?_
    refine xj_iconst (v := 1) D_Mo_adds_30 rfl ?_
    refine xi_iand D_Mo_adds_31 ?_
    refine xj_iconst (v := 1) D_Mo_adds_32 rfl ?_
    refine xi_icmp_eq D_Mo_adds_33 (fun c5 => ?_) (fun c5 => ?_)
    · have h := okx_T c5 h
      exact w_Mo_adds_b107 (by omega) hR2 hR15 h
    · have h := okx_F c5 h
      refine xi_iload D_Mo_adds_36 rfl ?_
      refine xi_iload_n D_Mo_adds_38 rfl ?_
      refine xi_ishr D_Mo_adds_39 ?_
      refine xj_iconst (v := 1) D_Mo_adds_40 rfl ?_
      refine xi_iand D_Mo_adds_41 ?_
      refine xj_iconst (v := 1) D_Mo_adds_42 rfl ?_
      refine xi_icmp_ne D_Mo_adds_43 (fun c6 => ?_) (fun c6 => ?_)
      · have h := okx_F c6 h
        refine xj_iconst (v := 0) D_Mo_adds_49 rfl ?_
        refine xi_istore (ls' := [_, _, _, _, _, _]) D_Mo_adds_50 rfl (by decide) ?_
        exact w_Mo_adds_h52 (by omega) hR2 hR15 _ _ _ _ _ _ _ h
      · have h := okx_T c6 h
        refine xi_goto D_Mo_adds_46 ?_
        exact w_Mo_adds_b107 (by omega) hR2 hR15 h
noncomputable def f_Mo_adds_h15 (R2 : Int32 → Int32 → Int32 → Sg → Option (Int32 × Sg)) : Nat → Int32 → Int32 → Int32 → Int32 → Sg → Option (Int32 × Sg)
  | 0, _, _, _, _, _ => none
  | n + 1, x1, x2, x3, x4, s => f_Mo_adds_b15 R2 (f_Mo_adds_h15 R2 n) x1 x2 x3 x4 s
theorem w_Mo_adds_h15 {d : Nat} {Q : Option (Option Value) → Sg → Prop} (hd : 3 ≤ d) {R2 : Int32 → Int32 → Int32 → Sg → Option (Int32 × Sg)} (hR2 : ∀ (x1 : Int32) (x2 : Int32) (x3 : Int32) (s : Sg), okx (zq_I Q) (R2 x1 x2 x3 s) → Xw d M_Mo_adds 0 0 2 [.ref 46, .int x1, .int x2, .int x3, .retAddr 0, .retAddr 0] [] s Q) : ∀ (n : Nat) (x1 : Int32) (x2 : Int32) (x3 : Int32) (x4 : Int32) (s : Sg), okx (zq_I Q) (f_Mo_adds_h15 R2 n x1 x2 x3 x4 s) → Xw d M_Mo_adds 0 0 15 [.ref 46, .int x1, .int x2, .int x3, .int x4, .retAddr 0] [] s Q := by
  intro n
  induction n with
  | zero => intro x1 x2 x3 x4 s h; exact okx_no h
  | succ n ih => intro x1 x2 x3 x4 s h; exact w_Mo_adds_b15 hd hR2 ih  h
noncomputable def f_Mo_adds_b2 (R2 : Int32 → Int32 → Int32 → Sg → Option (Int32 × Sg)) (x1 : Int32) (x2 : Int32) (x3 : Int32) (s : Sg) : Option (Int32 × Sg) :=
  f_ck (zl_B s) <|
  if ((1 : Int32) <<< ((mI s 46 10) &&& 31)) ≤ x3 then
    some (0, s)
  else
    f_Mo_adds_h15 R2 zl_fl x1 x2 x3 0 s
theorem w_Mo_adds_b2 {x1 : Int32} {x2 : Int32} {x3 : Int32} {s : Sg} {d : Nat} {Q : Option (Option Value) → Sg → Prop} (hd : 3 ≤ d) {R2 : Int32 → Int32 → Int32 → Sg → Option (Int32 × Sg)} (hR2 : ∀ (x1 : Int32) (x2 : Int32) (x3 : Int32) (s : Sg), okx (zq_I Q) (R2 x1 x2 x3 s) → Xw d M_Mo_adds 0 0 2 [.ref 46, .int x1, .int x2, .int x3, .retAddr 0, .retAddr 0] [] s Q) (h : okx (zq_I Q) (f_Mo_adds_b2 R2 x1 x2 x3 s)) : Xw d M_Mo_adds 0 0 2 [.ref 46, .int x1, .int x2, .int x3, .retAddr 0, .retAddr 0] [] s Q := by
  unfold f_Mo_adds_b2 at h
  refine xi_iload_n D_Mo_adds_2 rfl ?_
  refine xj_iconst (v := 1) D_Mo_adds_3 rfl ?_
  refine xi_aload_n D_Mo_adds_4 rfl ?_
  obtain ⟨g1, h⟩ := okx_ck h
  refine xi_getI D_Mo_adds_5 F_Mo_234 (zl_fo (g1).1 rfl) ⟨rfl, by decide⟩ ?_
  refine xi_ishl D_Mo_adds_8 ?_
  refine xi_icmp_ge D_Mo_adds_9 (fun c2 => ?_) (fun c2 => ?_)
  · have h := okx_T c2 h
    refine xj_iconst (v := 0) D_Mo_adds_119 rfl ?_
    exact xi_ireturn D_Mo_adds_120 rfl (rfl) (okx_I h)
  · have h := okx_F c2 h
    refine xj_iconst (v := 0) D_Mo_adds_12 rfl ?_
    refine xi_istore (ls' := [_, _, _, _, _, _]) D_Mo_adds_13 rfl (by decide) ?_
    exact w_Mo_adds_h15 (by omega) hR2 _ _ _ _ _ _ h
noncomputable def f_Mo_adds_h2 : Nat → Int32 → Int32 → Int32 → Sg → Option (Int32 × Sg)
  | 0, _, _, _, _ => none
  | n + 1, x1, x2, x3, s => f_Mo_adds_b2 (f_Mo_adds_h2 n) x1 x2 x3 s
theorem w_Mo_adds_h2 {d : Nat} {Q : Option (Option Value) → Sg → Prop} (hd : 3 ≤ d) : ∀ (n : Nat) (x1 : Int32) (x2 : Int32) (x3 : Int32) (s : Sg), okx (zq_I Q) (f_Mo_adds_h2 n x1 x2 x3 s) → Xw d M_Mo_adds 0 0 2 [.ref 46, .int x1, .int x2, .int x3, .retAddr 0, .retAddr 0] [] s Q := by
  intro n
  induction n with
  | zero => intro x1 x2 x3 s h; exact okx_no h
  | succ n ih => intro x1 x2 x3 s h; exact w_Mo_adds_b2 hd  ih  h
noncomputable def f_Mo_adds (x1 : Int32) (x2 : Int32) (s : Sg) : Option (Int32 × Sg) :=
  f_Mo_adds_h2  zl_fl x1 x2 0 s
theorem w_Mo_adds {x1 : Int32} {x2 : Int32} {s : Sg} {d : Nat} {Q : Option (Option Value) → Sg → Prop} (hd : 3 ≤ d) (h : okx (zq_I Q) (f_Mo_adds x1 x2 s)) : Cw d M_Mo_adds [.ref 46, .int x1, .int x2] s Q := by
  refine Cw.of (by decide +kernel) (Nat.le_of_ble_eq_true rfl) ?_
  show Xw d M_Mo_adds 0 0 0 [.ref 46, .int x1, .int x2, .retAddr 0, .retAddr 0, .retAddr 0] [] s _
  unfold f_Mo_adds at h
  refine xj_iconst (v := 0) D_Mo_adds_0 rfl ?_
  refine xi_istore_n (ls' := [_, _, _, _, _, _]) D_Mo_adds_1 rfl (by decide) ?_
  exact w_Mo_adds_h2 (by omega)  _ _ _ _ _ h
noncomputable def f_Mo_isThing (x1 : Int32) (s : Sg) : Option (Int32 × Sg) :=
  if x1 < 0 then
    some (0, s)
  else
    f_ck (zl_B s) <|
    if (mI s 46 11) ≤ x1 then
      some (0, s)
    else
      some (1, s)
theorem w_Mo_isThing {x1 : Int32} {s : Sg} {d : Nat} {Q : Option (Option Value) → Sg → Prop} (hd : 1 ≤ d) (h : okx (zq_I Q) (f_Mo_isThing x1 s)) : Cw d M_Mo_isThing [.ref 46, .int x1] s Q := by
  refine Cw.of (by decide +kernel) (Nat.le_of_ble_eq_true rfl) ?_
  show Xw d M_Mo_isThing 0 0 0 [.ref 46, .int x1] [] s _
  unfold f_Mo_isThing at h
  refine xi_iload_n D_Mo_isThing_0 rfl ?_
  refine xi_if_lt D_Mo_isThing_1 (fun c1 => ?_) (fun c1 => ?_)
  · have h := okx_T c1 h
    refine xj_iconst (v := 0) D_Mo_isThing_16 rfl ?_
    exact xi_ireturn D_Mo_isThing_17 rfl (rfl) (okx_I h)
  · have h := okx_F c1 h
    refine xi_iload_n D_Mo_isThing_4 rfl ?_
    refine xi_aload_n D_Mo_isThing_5 rfl ?_
    obtain ⟨g2, h⟩ := okx_ck h
    refine xi_getI D_Mo_isThing_6 F_Mo_259 (zl_fo (g2).1 rfl) ⟨rfl, by decide⟩ ?_
    refine xi_icmp_ge D_Mo_isThing_9 (fun c3 => ?_) (fun c3 => ?_)
    · have h := okx_T c3 h
      refine xj_iconst (v := 0) D_Mo_isThing_16 rfl ?_
      exact xi_ireturn D_Mo_isThing_17 rfl (rfl) (okx_I h)
    · have h := okx_F c3 h
      refine xj_iconst (v := 1) D_Mo_isThing_12 rfl ?_
      refine xi_goto D_Mo_isThing_13 ?_
      exact xi_ireturn D_Mo_isThing_17 rfl (rfl) (okx_I h)
noncomputable def f_Mo_apart_b52  (s : Sg) : Option (Int32 × Sg) :=
  some (0, s)
theorem w_Mo_apart_b52 {s : Sg} {d : Nat} {Q : Option (Option Value) → Sg → Prop} (hd : 4 ≤ d) (h : okx (zq_I Q) (f_Mo_apart_b52  s)) : Xw d M_Mo_apart 0 0 52 [.retAddr 0, .retAddr 0, .retAddr 0] [] s Q := by
  unfold f_Mo_apart_b52 at h
  refine xj_iconst (v := 0) D_Mo_apart_52 rfl ?_
  refine xi_goto D_Mo_apart_53 ?_
  exact xi_ireturn D_Mo_apart_57 rfl (rfl) (okx_I h)
noncomputable def f_Mo_apart (x1 : Int32) (x2 : Int32) (s : Sg) : Option (Int32 × Sg) :=
  f_ck (zl_B s) <|
  let s2 : Sg := uI s 46 0 0
  let s3 : Sg := uI s2 46 39 10
  f_bd (f_Mo_isThing x1 s3) fun r4 s5 =>
  if r4 = 0 then
    some ((-1), s5)
  else
    f_ck (zl_B s5) <|
    f_bd (f_Mo_isThing x2 s5) fun r8 s9 =>
    if r8 = 0 then
      some ((-1), s9)
    else
      if x1 = x2 then
        some ((-1), s9)
      else
        f_ck (zl_B s9) <|
        f_bd (f_Mo_adds x1 x2 s9) fun r13 s14 =>
        if r13 = 0 then
          f_ck (zl_B s14) <|
          f_bd (f_Mo_adds x2 x1 s14) fun r17 s18 =>
          if r17 = 0 then
            some (1, s18)
          else
            f_Mo_apart_b52   s18
        else
          f_Mo_apart_b52   s14
theorem w_Mo_apart {x1 : Int32} {x2 : Int32} {s : Sg} {d : Nat} {Q : Option (Option Value) → Sg → Prop} (hd : 4 ≤ d) (h : okx (zq_I Q) (f_Mo_apart x1 x2 s)) : Cw d M_Mo_apart [.ref 46, .int x1, .int x2] s Q := by
  refine Cw.of (by decide +kernel) (Nat.le_of_ble_eq_true rfl) ?_
  show Xw d M_Mo_apart 0 0 0 [.ref 46, .int x1, .int x2] [] s _
  unfold f_Mo_apart at h
  refine xi_aload_n D_Mo_apart_0 rfl ?_
  refine xj_iconst (v := 0) D_Mo_apart_1 rfl ?_
  obtain ⟨g1, h⟩ := okx_ck h
  refine xi_putI D_Mo_apart_2 F_Mo_114 (zl_fo (g1).1 rfl) ⟨rfl, by decide, rfl⟩ (⟨rfl, rfl⟩) ?_
  refine xi_aload_n D_Mo_apart_5 rfl ?_
  refine xi_bipush (v := 10) D_Mo_apart_6 rfl ?_
  refine xi_putI D_Mo_apart_8 F_Mo_272 (zl_fo (g1).1 rfl) ⟨rfl, by decide, rfl⟩ (⟨rfl, rfl⟩) ?_
  refine xi_aload_n D_Mo_apart_11 rfl ?_
  refine xi_iload_n D_Mo_apart_12 rfl ?_
  refine xj_V1 D_Mo_apart_13 L_Mo_303 C_Mo_isThing Z_Mo_isThing (zl_fo (g1).1 rfl) (Nat.le_of_ble_eq_true rfl) (Nat.le_of_eq (Nat.sub_add_cancel (by omega))) (w_Mo_isThing (by omega) (okx_mono (okx_bd h) ?_))
  intro r4 s5 h
  show Xw _ _ _ _ 16 _ [_] _ _
  refine xi_if_eq D_Mo_apart_16 (fun c6 => ?_) (fun c6 => ?_)
  · have h := okx_T c6 h
    refine xj_iconst (v := (-1)) D_Mo_apart_32 rfl ?_
    exact xi_ireturn D_Mo_apart_33 rfl (rfl) (okx_I h)
  · have h := okx_F c6 h
    refine xi_aload_n D_Mo_apart_19 rfl ?_
    refine xi_iload_n D_Mo_apart_20 rfl ?_
    obtain ⟨g7, h⟩ := okx_ck h
    refine xj_V1 D_Mo_apart_21 L_Mo_303 C_Mo_isThing Z_Mo_isThing (zl_fo (g7).1 rfl) (Nat.le_of_ble_eq_true rfl) (Nat.le_of_eq (Nat.sub_add_cancel (by omega))) (w_Mo_isThing (by omega) (okx_mono (okx_bd h) ?_))
    intro r8 s9 h
    show Xw _ _ _ _ 24 _ [_] _ _
    refine xi_if_eq D_Mo_apart_24 (fun c10 => ?_) (fun c10 => ?_)
    · have h := okx_T c10 h
      refine xj_iconst (v := (-1)) D_Mo_apart_32 rfl ?_
      exact xi_ireturn D_Mo_apart_33 rfl (rfl) (okx_I h)
    · have h := okx_F c10 h
      refine xi_iload_n D_Mo_apart_27 rfl ?_
      refine xi_iload_n D_Mo_apart_28 rfl ?_
      refine xi_icmp_ne D_Mo_apart_29 (fun c11 => ?_) (fun c11 => ?_)
      · have h := okx_F c11 h
        refine xi_aload_n D_Mo_apart_34 rfl ?_
        refine xi_iload_n D_Mo_apart_35 rfl ?_
        refine xi_iload_n D_Mo_apart_36 rfl ?_
        obtain ⟨g12, h⟩ := okx_ck h
        refine xj_V2 D_Mo_apart_37 L_Mo_418 C_Mo_adds Z_Mo_adds (zl_fo (g12).1 rfl) (Nat.le_of_ble_eq_true rfl) (Nat.le_of_eq (Nat.sub_add_cancel (by omega))) (w_Mo_adds (by omega) (okx_mono (okx_bd h) ?_))
        intro r13 s14 h
        show Xw _ _ _ _ 40 _ [_] _ _
        refine xi_if_ne D_Mo_apart_40 (fun c15 => ?_) (fun c15 => ?_)
        · have h := okx_F c15 h
          exact xk_wk (w_Mo_apart_b52 (by omega)  h) ⟨Or.inr rfl, Or.inr rfl, Or.inr rfl, trivial⟩
        · have h := okx_T c15 h
          refine xi_aload_n D_Mo_apart_43 rfl ?_
          refine xi_iload_n D_Mo_apart_44 rfl ?_
          refine xi_iload_n D_Mo_apart_45 rfl ?_
          obtain ⟨g16, h⟩ := okx_ck h
          refine xj_V2 D_Mo_apart_46 L_Mo_418 C_Mo_adds Z_Mo_adds (zl_fo (g16).1 rfl) (Nat.le_of_ble_eq_true rfl) (Nat.le_of_eq (Nat.sub_add_cancel (by omega))) (w_Mo_adds (by omega) (okx_mono (okx_bd h) ?_))
          intro r17 s18 h
          show Xw _ _ _ _ 49 _ [_] _ _
          refine xi_if_eq D_Mo_apart_49 (fun c19 => ?_) (fun c19 => ?_)
          · have h := okx_T c19 h
            refine xj_iconst (v := 1) D_Mo_apart_56 rfl ?_
            exact xi_ireturn D_Mo_apart_57 rfl (rfl) (okx_I h)
          · have h := okx_F c19 h
            exact xk_wk (w_Mo_apart_b52 (by omega)  h) ⟨Or.inr rfl, Or.inr rfl, Or.inr rfl, trivial⟩
      · have h := okx_T c11 h
        refine xj_iconst (v := (-1)) D_Mo_apart_32 rfl ?_
        exact xi_ireturn D_Mo_apart_33 rfl (rfl) (okx_I h)
noncomputable def f_Mo_bits_b4 (R4 : Int32 → Int32 → Int32 → Sg → Option (Int32 × Sg)) (x0 : Int32) (x1 : Int32) (x2 : Int32) (s : Sg) : Option (Int32 × Sg) :=
  if 8 ≤ x2 then
    some (x1, s)
  else
    R4 x0 (x1 + ((x0 >>> (x2 &&& 31)) &&& 1)) (x2 + 1) s
theorem w_Mo_bits_b4 {x0 : Int32} {x1 : Int32} {x2 : Int32} {s : Sg} {d : Nat} {Q : Option (Option Value) → Sg → Prop} (hd : 1 ≤ d) {R4 : Int32 → Int32 → Int32 → Sg → Option (Int32 × Sg)} (hR4 : ∀ (x0 : Int32) (x1 : Int32) (x2 : Int32) (s : Sg), okx (zq_I Q) (R4 x0 x1 x2 s) → Xw d M_Mo_bits 0 0 4 [.int x0, .int x1, .int x2] [] s Q) (h : okx (zq_I Q) (f_Mo_bits_b4 R4 x0 x1 x2 s)) : Xw d M_Mo_bits 0 0 4 [.int x0, .int x1, .int x2] [] s Q := by
  unfold f_Mo_bits_b4 at h
  refine xi_iload_n D_Mo_bits_4 rfl ?_
  refine xi_bipush (v := 8) D_Mo_bits_5 rfl ?_
  refine xi_icmp_ge D_Mo_bits_7 (fun c1 => ?_) (fun c1 => ?_)
  · have h := okx_T c1 h
    refine xi_iload_n D_Mo_bits_24 rfl ?_
    exact xi_ireturn D_Mo_bits_25 rfl (rfl) (okx_I h)
  · have h := okx_F c1 h
    refine xi_iload_n D_Mo_bits_10 rfl ?_
    refine xi_iload_n D_Mo_bits_11 rfl ?_
    refine xi_iload_n D_Mo_bits_12 rfl ?_
    refine xi_ishr D_Mo_bits_13 ?_
    refine xj_iconst (v := 1) D_Mo_bits_14 rfl ?_
    refine xi_iand D_Mo_bits_15 ?_
    refine xi_iadd D_Mo_bits_16 ?_
    refine xi_istore_n (ls' := [_, _, _]) D_Mo_bits_17 rfl (by decide) ?_
    refine xi_iinc (v := _ + 1) (ls' := [_, _, _]) D_Mo_bits_18 rfl rfl rfl (by decide) ?_
    refine xi_goto D_Mo_bits_21 ?_
    exact hR4 _ _ _ _ h
noncomputable def f_Mo_bits_h4 : Nat → Int32 → Int32 → Int32 → Sg → Option (Int32 × Sg)
  | 0, _, _, _, _ => none
  | n + 1, x0, x1, x2, s => f_Mo_bits_b4 (f_Mo_bits_h4 n) x0 x1 x2 s
theorem w_Mo_bits_h4 {d : Nat} {Q : Option (Option Value) → Sg → Prop} (hd : 1 ≤ d) : ∀ (n : Nat) (x0 : Int32) (x1 : Int32) (x2 : Int32) (s : Sg), okx (zq_I Q) (f_Mo_bits_h4 n x0 x1 x2 s) → Xw d M_Mo_bits 0 0 4 [.int x0, .int x1, .int x2] [] s Q := by
  intro n
  induction n with
  | zero => intro x0 x1 x2 s h; exact okx_no h
  | succ n ih => intro x0 x1 x2 s h; exact w_Mo_bits_b4 hd  ih  h
noncomputable def f_Mo_bits (x0 : Int32) (s : Sg) : Option (Int32 × Sg) :=
  f_Mo_bits_h4  zl_fl x0 0 0 s
theorem w_Mo_bits {x0 : Int32} {s : Sg} {d : Nat} {Q : Option (Option Value) → Sg → Prop} (hd : 1 ≤ d) (h : okx (zq_I Q) (f_Mo_bits x0 s)) : Cw d M_Mo_bits [.int x0] s Q := by
  refine Cw.of (by decide +kernel) (Nat.le_of_ble_eq_true rfl) ?_
  show Xw d M_Mo_bits 0 0 0 [.int x0, .retAddr 0, .retAddr 0] [] s _
  unfold f_Mo_bits at h
  refine xj_iconst (v := 0) D_Mo_bits_0 rfl ?_
  refine xi_istore_n (ls' := [_, _, _]) D_Mo_bits_1 rfl (by decide) ?_
  refine xj_iconst (v := 0) D_Mo_bits_2 rfl ?_
  refine xi_istore_n (ls' := [_, _, _]) D_Mo_bits_3 rfl (by decide) ?_
  exact w_Mo_bits_h4 (by omega)  _ _ _ _ _ h
noncomputable def f_Mo_hasBy_b93 (R5 : Int32 → Int32 → Int32 → Int32 → Sg → Option (Int32 × Sg)) (x1 : Int32) (x2 : Int32) (x4 : Int32) (y0 : Int32) (y1 : Int32) (s : Sg) : Option (Int32 × Sg) :=
  R5 x1 x2 (y0 ||| y1) (x4 + 1) s
theorem w_Mo_hasBy_b93 {x1 : Int32} {x2 : Int32} {x4 : Int32} {y0 : Int32} {y1 : Int32} {s : Sg} {d : Nat} {Q : Option (Option Value) → Sg → Prop} (hd : 2 ≤ d) {R5 : Int32 → Int32 → Int32 → Int32 → Sg → Option (Int32 × Sg)} (hR5 : ∀ (x1 : Int32) (x2 : Int32) (x3 : Int32) (x4 : Int32) (s : Sg), okx (zq_I Q) (R5 x1 x2 x3 x4 s) → Xw d M_Mo_hasBy 0 0 5 [.ref 46, .int x1, .int x2, .int x3, .int x4, .retAddr 0] [] s Q) (h : okx (zq_I Q) (f_Mo_hasBy_b93 R5 x1 x2 x4 y0 y1 s)) : Xw d M_Mo_hasBy 0 0 93 [.ref 46, .int x1, .int x2, .retAddr 0, .int x4, .retAddr 0] [.int y1, .int y0] s Q := by
  unfold f_Mo_hasBy_b93 at h
  refine xi_ior D_Mo_hasBy_93 ?_
  refine xi_istore_n (ls' := [_, _, _, _, _, _]) D_Mo_hasBy_94 rfl (by decide) ?_
  refine xi_iinc (v := _ + 1) (ls' := [_, _, _, _, _, _]) D_Mo_hasBy_95 rfl rfl rfl (by decide) ?_
  refine xi_goto D_Mo_hasBy_98 ?_
  exact hR5 _ _ _ _ _ h
noncomputable def f_Mo_hasBy_b77 (R5 : Int32 → Int32 → Int32 → Int32 → Sg → Option (Int32 × Sg)) (x1 : Int32) (x2 : Int32) (x3 : Int32) (x4 : Int32) (y0 : Int32) (s : Sg) : Option (Int32 × Sg) :=
  if y0 = 0 then
    f_Mo_hasBy_b93 R5 x1 x2 x4 x3 0 s
  else
    f_Mo_hasBy_b93 R5 x1 x2 x4 x3 ((1 : Int32) <<< (x4 &&& 31)) s
theorem w_Mo_hasBy_b77 {x1 : Int32} {x2 : Int32} {x3 : Int32} {x4 : Int32} {y0 : Int32} {s : Sg} {d : Nat} {Q : Option (Option Value) → Sg → Prop} (hd : 2 ≤ d) {R5 : Int32 → Int32 → Int32 → Int32 → Sg → Option (Int32 × Sg)} (hR5 : ∀ (x1 : Int32) (x2 : Int32) (x3 : Int32) (x4 : Int32) (s : Sg), okx (zq_I Q) (R5 x1 x2 x3 x4 s) → Xw d M_Mo_hasBy 0 0 5 [.ref 46, .int x1, .int x2, .int x3, .int x4, .retAddr 0] [] s Q) (h : okx (zq_I Q) (f_Mo_hasBy_b77 R5 x1 x2 x3 x4 y0 s)) : Xw d M_Mo_hasBy 0 0 77 [.ref 46, .int x1, .int x2, .int x3, .int x4, .retAddr 0] [.int y0] s Q := by
  unfold f_Mo_hasBy_b77 at h
  refine xi_istore (ls' := [_, _, _, _, _, _]) D_Mo_hasBy_77 rfl (by decide) ?_
  refine xi_iload_n D_Mo_hasBy_79 rfl ?_
  refine xi_iload D_Mo_hasBy_80 rfl ?_
  refine xi_if_eq D_Mo_hasBy_82 (fun c12 => ?_) (fun c12 => ?_)
  · have h := okx_T c12 h
    refine xj_iconst (v := 0) D_Mo_hasBy_92 rfl ?_
    exact xk_wk (w_Mo_hasBy_b93 (by omega) hR5 h) ⟨Or.inl rfl, Or.inl rfl, Or.inl rfl, Or.inr rfl, Or.inl rfl, Or.inr rfl, trivial⟩
  · have h := okx_F c12 h
    refine xj_iconst (v := 1) D_Mo_hasBy_85 rfl ?_
    refine xi_iload D_Mo_hasBy_86 rfl ?_
    refine xi_ishl D_Mo_hasBy_88 ?_
    refine xi_goto D_Mo_hasBy_89 ?_
    exact xk_wk (w_Mo_hasBy_b93 (by omega) hR5 h) ⟨Or.inl rfl, Or.inl rfl, Or.inl rfl, Or.inr rfl, Or.inl rfl, Or.inr rfl, trivial⟩
noncomputable def f_Mo_hasBy_b5 (R5 : Int32 → Int32 → Int32 → Int32 → Sg → Option (Int32 × Sg)) (x1 : Int32) (x2 : Int32) (x3 : Int32) (x4 : Int32) (s : Sg) : Option (Int32 × Sg) :=
  f_ck (zl_B s) <|
  if (mI s 46 11) ≤ x4 then
    some (x3, s)
  else
    f_ck (vp_in (x1 + x4) 12) <|
    if (mI s 74 (Int32.toNatClampNeg (x1 + x4))) = 0 then
      if x2 = (((1 : Int32) <<< ((mI s 46 10) &&& 31)) - 1) then
        f_Mo_hasBy_b77 R5 x1 x2 x3 x4 1 s
      else
        f_Mo_hasBy_b77 R5 x1 x2 x3 x4 0 s
    else
      f_ck (vp_in (x1 + x4) 12) <|
      f_bd (f_Mo_bits (x2 &&& (mI s 74 (Int32.toNatClampNeg (x1 + x4)))) s) fun r7 s8 =>
      f_ck (zl_B s8) <|
      f_ck (vp_in (x1 + x4) 12) <|
      if r7 < (mI s8 75 (Int32.toNatClampNeg (x1 + x4))) then
        f_Mo_hasBy_b77 R5 x1 x2 x3 x4 0 s8
      else
        f_Mo_hasBy_b77 R5 x1 x2 x3 x4 1 s8
theorem w_Mo_hasBy_b5 {x1 : Int32} {x2 : Int32} {x3 : Int32} {x4 : Int32} {s : Sg} {d : Nat} {Q : Option (Option Value) → Sg → Prop} (hd : 2 ≤ d) {R5 : Int32 → Int32 → Int32 → Int32 → Sg → Option (Int32 × Sg)} (hR5 : ∀ (x1 : Int32) (x2 : Int32) (x3 : Int32) (x4 : Int32) (s : Sg), okx (zq_I Q) (R5 x1 x2 x3 x4 s) → Xw d M_Mo_hasBy 0 0 5 [.ref 46, .int x1, .int x2, .int x3, .int x4, .retAddr 0] [] s Q) (h : okx (zq_I Q) (f_Mo_hasBy_b5 R5 x1 x2 x3 x4 s)) : Xw d M_Mo_hasBy 0 0 5 [.ref 46, .int x1, .int x2, .int x3, .int x4, .retAddr 0] [] s Q := by
  unfold f_Mo_hasBy_b5 at h
  refine xi_iload D_Mo_hasBy_5 rfl ?_
  refine xi_aload_n D_Mo_hasBy_7 rfl ?_
  obtain ⟨g1, h⟩ := okx_ck h
  refine xi_getI D_Mo_hasBy_8 F_Mo_259 (zl_fo (g1).1 rfl) ⟨rfl, by decide⟩ ?_
  refine xi_icmp_ge D_Mo_hasBy_11 (fun c2 => ?_) (fun c2 => ?_)
  · have h := okx_T c2 h
    refine xi_iload_n D_Mo_hasBy_101 rfl ?_
    exact xi_ireturn D_Mo_hasBy_102 rfl (rfl) (okx_I h)
  · have h := okx_F c2 h
    refine xi_aload_n D_Mo_hasBy_14 rfl ?_
    refine xi_getR D_Mo_hasBy_15 F_Mo_93 (zl_fo (g1).1 rfl) ⟨rfl, by decide⟩ (zl_gr (g1).2 rfl rfl) ?_
    refine xi_iload_n D_Mo_hasBy_18 rfl ?_
    refine xi_iload D_Mo_hasBy_19 rfl ?_
    refine xi_iadd D_Mo_hasBy_21 ?_
    obtain ⟨g3, h⟩ := okx_ck h
    refine xj_iald D_Mo_hasBy_22 (zl_fx (g1).1 rfl) (zl_ib (n := 12) rfl (g3)) ?_
    refine xi_if_ne D_Mo_hasBy_23 (fun c4 => ?_) (fun c4 => ?_)
    · have h := okx_F c4 h
      refine xi_iload_n D_Mo_hasBy_46 rfl ?_
      refine xi_aload_n D_Mo_hasBy_47 rfl ?_
      refine xi_getR D_Mo_hasBy_48 F_Mo_93 (zl_fo (g1).1 rfl) ⟨rfl, by decide⟩ (zl_gr (g1).2 rfl rfl) ?_
      refine xi_iload_n D_Mo_hasBy_51 rfl ?_
      refine xi_iload D_Mo_hasBy_52 rfl ?_
      refine xi_iadd D_Mo_hasBy_54 ?_
      obtain ⟨g6, h⟩ := okx_ck h
      refine xj_iald D_Mo_hasBy_55 (zl_fx (g1).1 rfl) (zl_ib (n := 12) rfl (g6)) ?_
      refine xi_iand D_Mo_hasBy_56 ?_
      refine xj_S1 D_Mo_hasBy_57 L_Mo_306 C_Mo_bits Z_Mo_bits (Nat.le_of_ble_eq_true rfl) (Nat.le_of_eq (Nat.sub_add_cancel (by omega))) (w_Mo_bits (by omega) (okx_mono (okx_bd h) ?_))
      intro r7 s8 h
      show Xw _ _ _ _ 60 _ [_] _ _
      refine xi_aload_n D_Mo_hasBy_60 rfl ?_
      obtain ⟨g9, h⟩ := okx_ck h
      refine xi_getR D_Mo_hasBy_61 F_Mo_96 (zl_fo (g9).1 rfl) ⟨rfl, by decide⟩ (zl_gr (g9).2 rfl rfl) ?_
      refine xi_iload_n D_Mo_hasBy_64 rfl ?_
      refine xi_iload D_Mo_hasBy_65 rfl ?_
      refine xi_iadd D_Mo_hasBy_67 ?_
      obtain ⟨g10, h⟩ := okx_ck h
      refine xj_iald D_Mo_hasBy_68 (zl_fx (g9).1 rfl) (zl_ib (n := 12) rfl (g10)) ?_
      refine xi_icmp_lt D_Mo_hasBy_69 (fun c11 => ?_) (fun c11 => ?_)
      · have h := okx_T c11 h
        refine xj_iconst (v := 0) D_Mo_hasBy_76 rfl ?_
        exact w_Mo_hasBy_b77 (by omega) hR5 h
      · have h := okx_F c11 h
        refine xj_iconst (v := 1) D_Mo_hasBy_72 rfl ?_
        refine xi_goto D_Mo_hasBy_73 ?_
        exact w_Mo_hasBy_b77 (by omega) hR5 h
    · have h := okx_T c4 h
      refine xi_iload_n D_Mo_hasBy_26 rfl ?_
      refine xj_iconst (v := 1) D_Mo_hasBy_27 rfl ?_
      refine xi_aload_n D_Mo_hasBy_28 rfl ?_
      refine xi_getI D_Mo_hasBy_29 F_Mo_234 (zl_fo (g1).1 rfl) ⟨rfl, by decide⟩ ?_
      refine xi_ishl D_Mo_hasBy_32 ?_
      refine xj_iconst (v := 1) D_Mo_hasBy_33 rfl ?_
      refine xi_isub D_Mo_hasBy_34 ?_
      refine xi_icmp_ne D_Mo_hasBy_35 (fun c5 => ?_) (fun c5 => ?_)
      · have h := okx_F c5 h
        refine xj_iconst (v := 0) D_Mo_hasBy_42 rfl ?_
        refine xi_goto D_Mo_hasBy_43 ?_
        exact w_Mo_hasBy_b77 (by omega) hR5 h
      · have h := okx_T c5 h
        refine xj_iconst (v := 1) D_Mo_hasBy_38 rfl ?_
        refine xi_goto D_Mo_hasBy_39 ?_
        exact w_Mo_hasBy_b77 (by omega) hR5 h
noncomputable def f_Mo_hasBy_h5 : Nat → Int32 → Int32 → Int32 → Int32 → Sg → Option (Int32 × Sg)
  | 0, _, _, _, _, _ => none
  | n + 1, x1, x2, x3, x4, s => f_Mo_hasBy_b5 (f_Mo_hasBy_h5 n) x1 x2 x3 x4 s
theorem w_Mo_hasBy_h5 {d : Nat} {Q : Option (Option Value) → Sg → Prop} (hd : 2 ≤ d) : ∀ (n : Nat) (x1 : Int32) (x2 : Int32) (x3 : Int32) (x4 : Int32) (s : Sg), okx (zq_I Q) (f_Mo_hasBy_h5 n x1 x2 x3 x4 s) → Xw d M_Mo_hasBy 0 0 5 [.ref 46, .int x1, .int x2, .int x3, .int x4, .retAddr 0] [] s Q := by
  intro n
  induction n with
  | zero => intro x1 x2 x3 x4 s h; exact okx_no h
  | succ n ih => intro x1 x2 x3 x4 s h; exact w_Mo_hasBy_b5 hd  ih  h
noncomputable def f_Mo_hasBy (x1 : Int32) (x2 : Int32) (s : Sg) : Option (Int32 × Sg) :=
  f_Mo_hasBy_h5  zl_fl x1 x2 0 0 s
theorem w_Mo_hasBy {x1 : Int32} {x2 : Int32} {s : Sg} {d : Nat} {Q : Option (Option Value) → Sg → Prop} (hd : 2 ≤ d) (h : okx (zq_I Q) (f_Mo_hasBy x1 x2 s)) : Cw d M_Mo_hasBy [.ref 46, .int x1, .int x2] s Q := by
  refine Cw.of (by decide +kernel) (Nat.le_of_ble_eq_true rfl) ?_
  show Xw d M_Mo_hasBy 0 0 0 [.ref 46, .int x1, .int x2, .retAddr 0, .retAddr 0, .retAddr 0] [] s _
  unfold f_Mo_hasBy at h
  refine xj_iconst (v := 0) D_Mo_hasBy_0 rfl ?_
  refine xi_istore_n (ls' := [_, _, _, _, _, _]) D_Mo_hasBy_1 rfl (by decide) ?_
  refine xj_iconst (v := 0) D_Mo_hasBy_2 rfl ?_
  refine xi_istore (ls' := [_, _, _, _, _, _]) D_Mo_hasBy_3 rfl (by decide) ?_
  exact w_Mo_hasBy_h5 (by omega)  _ _ _ _ _ _ h
noncomputable def f_Mo_makesBy (x1 : Int32) (x2 : Int32) (x3 : Int32) (s : Sg) : Option (Int32 × Sg) :=
  f_ck (zl_B s) <|
  f_bd (f_Mo_hasBy x1 x2 s) fun r2 s3 =>
  f_ck (zl_B s3) <|
  f_bd (f_Mo_worthOf x2 r2 x3 s3) fun r5 s6 =>
  some (r5, s6)
theorem w_Mo_makesBy {x1 : Int32} {x2 : Int32} {x3 : Int32} {s : Sg} {d : Nat} {Q : Option (Option Value) → Sg → Prop} (hd : 3 ≤ d) (h : okx (zq_I Q) (f_Mo_makesBy x1 x2 x3 s)) : Cw d M_Mo_makesBy [.ref 46, .int x1, .int x2, .int x3] s Q := by
  refine Cw.of (by decide +kernel) (Nat.le_of_ble_eq_true rfl) ?_
  show Xw d M_Mo_makesBy 0 0 0 [.ref 46, .int x1, .int x2, .int x3] [] s _
  unfold f_Mo_makesBy at h
  refine xi_aload_n D_Mo_makesBy_0 rfl ?_
  refine xi_iload_n D_Mo_makesBy_1 rfl ?_
  refine xi_aload_n D_Mo_makesBy_2 rfl ?_
  refine xi_iload_n D_Mo_makesBy_3 rfl ?_
  refine xi_iload_n D_Mo_makesBy_4 rfl ?_
  obtain ⟨g1, h⟩ := okx_ck h
  refine xj_V2 D_Mo_makesBy_5 L_Mo_316 C_Mo_hasBy Z_Mo_hasBy (zl_fo (g1).1 rfl) (Nat.le_of_ble_eq_true rfl) (Nat.le_of_eq (Nat.sub_add_cancel (by omega))) (w_Mo_hasBy (by omega) (okx_mono (okx_bd h) ?_))
  intro r2 s3 h
  show Xw _ _ _ _ 8 _ [_, _, _] _ _
  refine xi_iload_n D_Mo_makesBy_8 rfl ?_
  obtain ⟨g4, h⟩ := okx_ck h
  refine xj_V3 D_Mo_makesBy_9 L_Mo_299 C_Mo_worthOf Z_Mo_worthOf (zl_fo (g4).1 rfl) (Nat.le_of_ble_eq_true rfl) (Nat.le_of_eq (Nat.sub_add_cancel (by omega))) (w_Mo_worthOf (by omega) (okx_mono (okx_bd h) ?_))
  intro r5 s6 h
  show Xw _ _ _ _ 12 _ [_] _ _
  exact xi_ireturn D_Mo_makesBy_12 rfl (rfl) (okx_I h)
noncomputable def f_Mo_orders (x0 : Int32) (s : Sg) : Option (Int32 × Sg) :=
  if 2 ≤ x0 then
    if x0 = 2 then
      some (2, s)
    else
      if x0 = 3 then
        some (6, s)
      else
        some (24, s)
  else
    some (1, s)
theorem w_Mo_orders {x0 : Int32} {s : Sg} {d : Nat} {Q : Option (Option Value) → Sg → Prop} (hd : 1 ≤ d) (h : okx (zq_I Q) (f_Mo_orders x0 s)) : Cw d M_Mo_orders [.int x0] s Q := by
  refine Cw.of (by decide +kernel) (Nat.le_of_ble_eq_true rfl) ?_
  show Xw d M_Mo_orders 0 0 0 [.int x0] [] s _
  unfold f_Mo_orders at h
  refine xi_iload_n D_Mo_orders_0 rfl ?_
  refine xj_iconst (v := 2) D_Mo_orders_1 rfl ?_
  refine xi_icmp_ge D_Mo_orders_2 (fun c1 => ?_) (fun c1 => ?_)
  · have h := okx_T c1 h
    refine xi_iload_n D_Mo_orders_9 rfl ?_
    refine xj_iconst (v := 2) D_Mo_orders_10 rfl ?_
    refine xi_icmp_ne D_Mo_orders_11 (fun c2 => ?_) (fun c2 => ?_)
    · have h := okx_F c2 h
      refine xi_iload_n D_Mo_orders_18 rfl ?_
      refine xj_iconst (v := 3) D_Mo_orders_19 rfl ?_
      refine xi_icmp_ne D_Mo_orders_20 (fun c3 => ?_) (fun c3 => ?_)
      · have h := okx_F c3 h
        refine xi_bipush (v := 24) D_Mo_orders_28 rfl ?_
        exact xi_ireturn D_Mo_orders_30 rfl (rfl) (okx_I h)
      · have h := okx_T c3 h
        refine xi_bipush (v := 6) D_Mo_orders_23 rfl ?_
        refine xi_goto D_Mo_orders_25 ?_
        exact xi_ireturn D_Mo_orders_30 rfl (rfl) (okx_I h)
    · have h := okx_T c2 h
      refine xj_iconst (v := 2) D_Mo_orders_14 rfl ?_
      refine xi_goto D_Mo_orders_15 ?_
      exact xi_ireturn D_Mo_orders_30 rfl (rfl) (okx_I h)
  · have h := okx_F c1 h
    refine xj_iconst (v := 1) D_Mo_orders_5 rfl ?_
    refine xi_goto D_Mo_orders_6 ?_
    exact xi_ireturn D_Mo_orders_30 rfl (rfl) (okx_I h)
noncomputable def f_Mo_shareBy_b112 (R34 : Int32 → Int32 → Int32 → Int32 → Int64 → Int32 → Sg → Option (Int64 × Sg)) (x1 : Int32) (x2 : Int32) (x3 : Int32) (x4 : Int32) (x6 : Int64) (x8 : Int32) (s : Sg) : Option (Int64 × Sg) :=
  R34 x1 x2 x3 x4 x6 (x8 + 1) s
theorem w_Mo_shareBy_b112 {x1 : Int32} {x2 : Int32} {x3 : Int32} {x4 : Int32} {x6 : Int64} {x8 : Int32} {s : Sg} {d : Nat} {Q : Option (Option Value) → Sg → Prop} (hd : 4 ≤ d) {R34 : Int32 → Int32 → Int32 → Int32 → Int64 → Int32 → Sg → Option (Int64 × Sg)} (hR34 : ∀ (x1 : Int32) (x2 : Int32) (x3 : Int32) (x4 : Int32) (x6 : Int64) (x8 : Int32) (s : Sg), okx (zq_L Q) (R34 x1 x2 x3 x4 x6 x8 s) → Xw d M_Mo_shareBy 0 0 34 [.ref 46, .int x1, .int x2, .int x3, .int x4, .retAddr 0, .long x6, .retAddr 0, .int x8, .retAddr 0, .retAddr 0] [] s Q) (h : okx (zq_L Q) (f_Mo_shareBy_b112 R34 x1 x2 x3 x4 x6 x8 s)) : Xw d M_Mo_shareBy 0 0 112 [.ref 46, .int x1, .int x2, .int x3, .int x4, .retAddr 0, .long x6, .retAddr 0, .int x8, .retAddr 0, .retAddr 0] [] s Q := by
  unfold f_Mo_shareBy_b112 at h
  refine xi_iinc (v := _ + 1) (ls' := [_, _, _, _, _, _, _, _, _, _, _]) D_Mo_shareBy_112 rfl rfl rfl (by decide) ?_
  refine xi_goto D_Mo_shareBy_115 ?_
  exact hR34 _ _ _ _ _ _ _ h
noncomputable def f_Mo_shareBy_b118 (x6 : Int64) (s : Sg) : Option (Int64 × Sg) :=
  f_ck (zl_B s) <|
  f_bd (f_Mo_orders (mI s 46 10) s) fun r25 s26 =>
  f_ck (¬ r25 = 0) <|
  some ((x6 * (Int32.toInt64 (24 / r25))), s26)
theorem w_Mo_shareBy_b118 {x6 : Int64} {s : Sg} {d : Nat} {Q : Option (Option Value) → Sg → Prop} (hd : 4 ≤ d) (h : okx (zq_L Q) (f_Mo_shareBy_b118 x6 s)) : Xw d M_Mo_shareBy 0 0 118 [.ref 46, .retAddr 0, .retAddr 0, .retAddr 0, .retAddr 0, .retAddr 0, .long x6, .retAddr 0, .retAddr 0, .retAddr 0, .retAddr 0] [] s Q := by
  unfold f_Mo_shareBy_b118 at h
  refine xi_lload D_Mo_shareBy_118 rfl ?_
  refine xi_bipush (v := 24) D_Mo_shareBy_120 rfl ?_
  refine xi_aload_n D_Mo_shareBy_122 rfl ?_
  obtain ⟨g24, h⟩ := okx_ck h
  refine xi_getI D_Mo_shareBy_123 F_Mo_234 (zl_fo (g24).1 rfl) ⟨rfl, by decide⟩ ?_
  refine xj_S1 D_Mo_shareBy_126 L_Mo_331 C_Mo_orders Z_Mo_orders (Nat.le_of_ble_eq_true rfl) (Nat.le_of_eq (Nat.sub_add_cancel (by omega))) (w_Mo_orders (by omega) (okx_mono (okx_bd h) ?_))
  intro r25 s26 h
  show Xw _ _ _ _ 129 _ [_, _, _] _ _
  obtain ⟨g27, h⟩ := okx_ck h
  refine xi_idiv D_Mo_shareBy_129 g27 ?_
  refine xi_i2l D_Mo_shareBy_130 ?_
  refine xi_lmul D_Mo_shareBy_131 ?_
  exact xi_lreturn D_Mo_shareBy_132 rfl (okx_L h)
noncomputable def f_Mo_shareBy_b34 (R34 : Int32 → Int32 → Int32 → Int32 → Int64 → Int32 → Sg → Option (Int64 × Sg)) (x1 : Int32) (x2 : Int32) (x3 : Int32) (x4 : Int32) (x6 : Int64) (x8 : Int32) (s : Sg) : Option (Int64 × Sg) :=
  if x4 < x8 then
    f_Mo_shareBy_b118  x6 s
  else
    if ((x8 >>> (x2 &&& 31)) &&& 1) = 1 then
      f_Mo_shareBy_b112 R34 x1 x2 x3 x4 x6 x8 s
    else
      f_ck (zl_B s) <|
      f_bd (f_Mo_makesBy x1 (x8 ||| ((1 : Int32) <<< (x2 &&& 31))) x3 s) fun r9 s10 =>
      f_ck (zl_B s10) <|
      f_bd (f_Mo_makesBy x1 x8 x3 s10) fun r12 s13 =>
      f_bd (f_Mo_bits x8 s13) fun r14 s15 =>
      f_bd (f_Mo_orders r14 s15) fun r16 s17 =>
      f_ck (zl_B s17) <|
      f_bd (f_Mo_bits x8 s17) fun r19 s20 =>
      f_bd (f_Mo_orders (((mI s17 46 10) - 1) - r19) s20) fun r21 s22 =>
      let v23 : Int64 := (x6 + (((Int32.toInt64 (r9 - r12)) * (Int32.toInt64 r16)) * (Int32.toInt64 r21)))
      f_Mo_shareBy_b112 R34 x1 x2 x3 x4 v23 x8 s22
theorem w_Mo_shareBy_b34 {x1 : Int32} {x2 : Int32} {x3 : Int32} {x4 : Int32} {x6 : Int64} {x8 : Int32} {s : Sg} {d : Nat} {Q : Option (Option Value) → Sg → Prop} (hd : 4 ≤ d) {R34 : Int32 → Int32 → Int32 → Int32 → Int64 → Int32 → Sg → Option (Int64 × Sg)} (hR34 : ∀ (x1 : Int32) (x2 : Int32) (x3 : Int32) (x4 : Int32) (x6 : Int64) (x8 : Int32) (s : Sg), okx (zq_L Q) (R34 x1 x2 x3 x4 x6 x8 s) → Xw d M_Mo_shareBy 0 0 34 [.ref 46, .int x1, .int x2, .int x3, .int x4, .retAddr 0, .long x6, .retAddr 0, .int x8, .retAddr 0, .retAddr 0] [] s Q) (h : okx (zq_L Q) (f_Mo_shareBy_b34 R34 x1 x2 x3 x4 x6 x8 s)) : Xw d M_Mo_shareBy 0 0 34 [.ref 46, .int x1, .int x2, .int x3, .int x4, .retAddr 0, .long x6, .retAddr 0, .int x8, .retAddr 0, .retAddr 0] [] s Q := by
  unfold f_Mo_shareBy_b34 at h
  refine xi_iload D_Mo_shareBy_34 rfl ?_
  refine xi_iload D_Mo_shareBy_36 rfl ?_
  refine xi_icmp_gt D_Mo_shareBy_38 (fun c6 => ?_) (fun c6 => ?_)
  · have h := okx_T c6 h
    exact xk_wk (w_Mo_shareBy_b118 (by omega)  h) ⟨Or.inl rfl, Or.inr rfl, Or.inr rfl, Or.inr rfl, Or.inr rfl, Or.inl rfl, Or.inl rfl, Or.inl rfl, Or.inr rfl, Or.inl rfl, Or.inl rfl, trivial⟩
  · have h := okx_F c6 h
    refine xi_iload D_Mo_shareBy_41 rfl ?_
    refine xi_iload_n D_Mo_shareBy_43 rfl ?_
    refine xi_ishr D_Mo_shareBy_44 ?_
    refine xj_iconst (v := 1) D_Mo_shareBy_45 rfl ?_
    refine xi_iand D_Mo_shareBy_46 ?_
    refine xj_iconst (v := 1) D_Mo_shareBy_47 rfl ?_
    refine xi_icmp_ne D_Mo_shareBy_48 (fun c7 => ?_) (fun c7 => ?_)
    · have h := okx_F c7 h
      refine xi_aload_n D_Mo_shareBy_54 rfl ?_
      refine xi_iload_n D_Mo_shareBy_55 rfl ?_
      refine xi_iload D_Mo_shareBy_56 rfl ?_
      refine xj_iconst (v := 1) D_Mo_shareBy_58 rfl ?_
      refine xi_iload_n D_Mo_shareBy_59 rfl ?_
      refine xi_ishl D_Mo_shareBy_60 ?_
      refine xi_ior D_Mo_shareBy_61 ?_
      refine xi_iload_n D_Mo_shareBy_62 rfl ?_
      obtain ⟨g8, h⟩ := okx_ck h
      refine xj_V3 D_Mo_shareBy_63 L_Mo_328 C_Mo_makesBy Z_Mo_makesBy (zl_fo (g8).1 rfl) (Nat.le_of_ble_eq_true rfl) (Nat.le_of_eq (Nat.sub_add_cancel (by omega))) (w_Mo_makesBy (by omega) (okx_mono (okx_bd h) ?_))
      intro r9 s10 h
      show Xw _ _ _ _ 66 _ [_] _ _
      refine xi_aload_n D_Mo_shareBy_66 rfl ?_
      refine xi_iload_n D_Mo_shareBy_67 rfl ?_
      refine xi_iload D_Mo_shareBy_68 rfl ?_
      refine xi_iload_n D_Mo_shareBy_70 rfl ?_
      obtain ⟨g11, h⟩ := okx_ck h
      refine xj_V3 D_Mo_shareBy_71 L_Mo_328 C_Mo_makesBy Z_Mo_makesBy (zl_fo (g11).1 rfl) (Nat.le_of_ble_eq_true rfl) (Nat.le_of_eq (Nat.sub_add_cancel (by omega))) (w_Mo_makesBy (by omega) (okx_mono (okx_bd h) ?_))
      intro r12 s13 h
      show Xw _ _ _ _ 74 _ [_, _] _ _
      refine xi_isub D_Mo_shareBy_74 ?_
      refine xi_i2l D_Mo_shareBy_75 ?_
      refine xi_lstore (ls' := [_, _, _, _, _, _, _, _, _, _, _]) D_Mo_shareBy_76 rfl (by decide) ?_
      refine xi_lload D_Mo_shareBy_78 rfl ?_
      refine xi_lload D_Mo_shareBy_80 rfl ?_
      refine xi_iload D_Mo_shareBy_82 rfl ?_
      refine xj_S1 D_Mo_shareBy_84 L_Mo_306 C_Mo_bits Z_Mo_bits (Nat.le_of_ble_eq_true rfl) (Nat.le_of_eq (Nat.sub_add_cancel (by omega))) (w_Mo_bits (by omega) (okx_mono (okx_bd h) ?_))
      intro r14 s15 h
      show Xw _ _ _ _ 87 _ [_, _, _] _ _
      refine xj_S1 D_Mo_shareBy_87 L_Mo_331 C_Mo_orders Z_Mo_orders (Nat.le_of_ble_eq_true rfl) (Nat.le_of_eq (Nat.sub_add_cancel (by omega))) (w_Mo_orders (by omega) (okx_mono (okx_bd h) ?_))
      intro r16 s17 h
      show Xw _ _ _ _ 90 _ [_, _, _] _ _
      refine xi_i2l D_Mo_shareBy_90 ?_
      refine xi_lmul D_Mo_shareBy_91 ?_
      refine xi_aload_n D_Mo_shareBy_92 rfl ?_
      obtain ⟨g18, h⟩ := okx_ck h
      refine xi_getI D_Mo_shareBy_93 F_Mo_234 (zl_fo (g18).1 rfl) ⟨rfl, by decide⟩ ?_
      refine xj_iconst (v := 1) D_Mo_shareBy_96 rfl ?_
      refine xi_isub D_Mo_shareBy_97 ?_
      refine xi_iload D_Mo_shareBy_98 rfl ?_
      refine xj_S1 D_Mo_shareBy_100 L_Mo_306 C_Mo_bits Z_Mo_bits (Nat.le_of_ble_eq_true rfl) (Nat.le_of_eq (Nat.sub_add_cancel (by omega))) (w_Mo_bits (by omega) (okx_mono (okx_bd h) ?_))
      intro r19 s20 h
      show Xw _ _ _ _ 103 _ [_, _, _, _] _ _
      refine xi_isub D_Mo_shareBy_103 ?_
      refine xj_S1 D_Mo_shareBy_104 L_Mo_331 C_Mo_orders Z_Mo_orders (Nat.le_of_ble_eq_true rfl) (Nat.le_of_eq (Nat.sub_add_cancel (by omega))) (w_Mo_orders (by omega) (okx_mono (okx_bd h) ?_))
      intro r21 s22 h
      show Xw _ _ _ _ 107 _ [_, _, _] _ _
      refine xi_i2l D_Mo_shareBy_107 ?_
      refine xi_lmul D_Mo_shareBy_108 ?_
      refine xi_ladd D_Mo_shareBy_109 ?_
      refine xi_lstore (ls' := [_, _, _, _, _, _, _, _, _, _, _]) D_Mo_shareBy_110 rfl (by decide) ?_
      exact xk_wk (w_Mo_shareBy_b112 (by omega) hR34 h) ⟨Or.inl rfl, Or.inl rfl, Or.inl rfl, Or.inl rfl, Or.inl rfl, Or.inl rfl, Or.inl rfl, Or.inl rfl, Or.inl rfl, Or.inr rfl, Or.inl rfl, trivial⟩
    · have h := okx_T c7 h
      refine xi_goto D_Mo_shareBy_51 ?_
      exact w_Mo_shareBy_b112 (by omega) hR34 h
noncomputable def f_Mo_shareBy_h34 : Nat → Int32 → Int32 → Int32 → Int32 → Int64 → Int32 → Sg → Option (Int64 × Sg)
  | 0, _, _, _, _, _, _, _ => none
  | n + 1, x1, x2, x3, x4, x6, x8, s => f_Mo_shareBy_b34 (f_Mo_shareBy_h34 n) x1 x2 x3 x4 x6 x8 s
theorem w_Mo_shareBy_h34 {d : Nat} {Q : Option (Option Value) → Sg → Prop} (hd : 4 ≤ d) : ∀ (n : Nat) (x1 : Int32) (x2 : Int32) (x3 : Int32) (x4 : Int32) (x6 : Int64) (x8 : Int32) (s : Sg), okx (zq_L Q) (f_Mo_shareBy_h34 n x1 x2 x3 x4 x6 x8 s) → Xw d M_Mo_shareBy 0 0 34 [.ref 46, .int x1, .int x2, .int x3, .int x4, .retAddr 0, .long x6, .retAddr 0, .int x8, .retAddr 0, .retAddr 0] [] s Q := by
  intro n
  induction n with
  | zero => intro x1 x2 x3 x4 x6 x8 s h; exact okx_no h
  | succ n ih => intro x1 x2 x3 x4 x6 x8 s h; exact w_Mo_shareBy_b34 hd  ih  h
noncomputable def f_Mo_shareBy_b232 (y0 : Int64) (y1 : Int64) (s : Sg) : Option (Int64 × Sg) :=
  some ((y0 * y1), s)
theorem w_Mo_shareBy_b232 {y0 : Int64} {y1 : Int64} {s : Sg} {d : Nat} {Q : Option (Option Value) → Sg → Prop} (hd : 4 ≤ d) (h : okx (zq_L Q) (f_Mo_shareBy_b232 y0 y1 s)) : Xw d M_Mo_shareBy 0 0 232 [.retAddr 0, .retAddr 0, .retAddr 0, .retAddr 0, .retAddr 0, .retAddr 0, .retAddr 0, .retAddr 0, .retAddr 0, .retAddr 0, .retAddr 0] [.long y1, .long y0] s Q := by
  unfold f_Mo_shareBy_b232 at h
  refine xi_lmul D_Mo_shareBy_232 ?_
  exact xi_lreturn D_Mo_shareBy_233 rfl (okx_L h)
noncomputable def f_Mo_shareBy_b167 (x1 : Int32) (x2 : Int32) (x3 : Int32) (x4 : Int32) (x5 : Int32) (x6 : Int64) (s : Sg) : Option (Int64 × Sg) :=
  f_ck (zl_B s) <|
  f_bd (f_Mo_makesBy x1 x4 x3 s) fun r33 s34 =>
  f_ck (zl_B s34) <|
  if (mI s34 46 46) = 1 then
    f_ck (¬ (mI s34 46 10) = 0) <|
    some ((((24 : Int64) * (Int32.toInt64 x5)) + (((Int32.toInt64 r33) - x6) * (Int32.toInt64 (24 / (mI s34 46 10))))), s34)
  else
    if x2 = (mI s34 46 47) then
      f_Mo_shareBy_b232  24 ((Int32.toInt64 x5) + ((Int32.toInt64 r33) - x6)) s34
    else
      f_Mo_shareBy_b232  24 (Int32.toInt64 x5) s34
theorem w_Mo_shareBy_b167 {x1 : Int32} {x2 : Int32} {x3 : Int32} {x4 : Int32} {x5 : Int32} {x6 : Int64} {s : Sg} {d : Nat} {Q : Option (Option Value) → Sg → Prop} (hd : 4 ≤ d) (h : okx (zq_L Q) (f_Mo_shareBy_b167 x1 x2 x3 x4 x5 x6 s)) : Xw d M_Mo_shareBy 0 0 167 [.ref 46, .int x1, .int x2, .int x3, .int x4, .int x5, .long x6, .retAddr 0, .retAddr 0, .retAddr 0, .retAddr 0] [] s Q := by
  unfold f_Mo_shareBy_b167 at h
  refine xi_aload_n D_Mo_shareBy_167 rfl ?_
  refine xi_iload_n D_Mo_shareBy_168 rfl ?_
  refine xi_iload D_Mo_shareBy_169 rfl ?_
  refine xi_iload_n D_Mo_shareBy_171 rfl ?_
  obtain ⟨g32, h⟩ := okx_ck h
  refine xj_V3 D_Mo_shareBy_172 L_Mo_328 C_Mo_makesBy Z_Mo_makesBy (zl_fo (g32).1 rfl) (Nat.le_of_ble_eq_true rfl) (Nat.le_of_eq (Nat.sub_add_cancel (by omega))) (w_Mo_makesBy (by omega) (okx_mono (okx_bd h) ?_))
  intro r33 s34 h
  show Xw _ _ _ _ 175 _ [_] _ _
  refine xi_i2l D_Mo_shareBy_175 ?_
  refine xi_lload D_Mo_shareBy_176 rfl ?_
  refine xi_lsub D_Mo_shareBy_178 ?_
  refine xi_lstore (ls' := [_, _, _, _, _, _, _, _, _, _, _]) D_Mo_shareBy_179 rfl (by decide) ?_
  refine xi_aload_n D_Mo_shareBy_181 rfl ?_
  obtain ⟨g35, h⟩ := okx_ck h
  refine xi_getI D_Mo_shareBy_182 F_Mo_247 (zl_fo (g35).1 rfl) ⟨rfl, by decide⟩ ?_
  refine xj_iconst (v := 1) D_Mo_shareBy_185 rfl ?_
  refine xi_icmp_ne D_Mo_shareBy_186 (fun c36 => ?_) (fun c36 => ?_)
  · have h := okx_F c36 h
    refine xi_ldc2 D_Mo_shareBy_209 K_Mo_334 ?_
    refine xi_iload_n D_Mo_shareBy_212 rfl ?_
    refine xi_aload_n D_Mo_shareBy_213 rfl ?_
    refine xi_getI D_Mo_shareBy_214 F_Mo_250 (zl_fo (g35).1 rfl) ⟨rfl, by decide⟩ ?_
    refine xi_icmp_ne D_Mo_shareBy_217 (fun c38 => ?_) (fun c38 => ?_)
    · have h := okx_F c38 h
      refine xi_iload D_Mo_shareBy_229 rfl ?_
      refine xi_i2l D_Mo_shareBy_231 ?_
      exact xk_wk (w_Mo_shareBy_b232 (by omega)  h) ⟨Or.inr rfl, Or.inr rfl, Or.inr rfl, Or.inr rfl, Or.inr rfl, Or.inr rfl, Or.inr rfl, Or.inl rfl, Or.inr rfl, Or.inl rfl, Or.inl rfl, trivial⟩
    · have h := okx_T c38 h
      refine xi_iload D_Mo_shareBy_220 rfl ?_
      refine xi_i2l D_Mo_shareBy_222 ?_
      refine xi_lload D_Mo_shareBy_223 rfl ?_
      refine xi_ladd D_Mo_shareBy_225 ?_
      refine xi_goto D_Mo_shareBy_226 ?_
      exact xk_wk (w_Mo_shareBy_b232 (by omega)  h) ⟨Or.inr rfl, Or.inr rfl, Or.inr rfl, Or.inr rfl, Or.inr rfl, Or.inr rfl, Or.inr rfl, Or.inl rfl, Or.inr rfl, Or.inl rfl, Or.inl rfl, trivial⟩
  · have h := okx_T c36 h
    refine xi_ldc2 D_Mo_shareBy_189 K_Mo_334 ?_
    refine xi_iload D_Mo_shareBy_192 rfl ?_
    refine xi_i2l D_Mo_shareBy_194 ?_
    refine xi_lmul D_Mo_shareBy_195 ?_
    refine xi_lload D_Mo_shareBy_196 rfl ?_
    refine xi_bipush (v := 24) D_Mo_shareBy_198 rfl ?_
    refine xi_aload_n D_Mo_shareBy_200 rfl ?_
    refine xi_getI D_Mo_shareBy_201 F_Mo_234 (zl_fo (g35).1 rfl) ⟨rfl, by decide⟩ ?_
    obtain ⟨g37, h⟩ := okx_ck h
    refine xi_idiv D_Mo_shareBy_204 g37 ?_
    refine xi_i2l D_Mo_shareBy_205 ?_
    refine xi_lmul D_Mo_shareBy_206 ?_
    refine xi_ladd D_Mo_shareBy_207 ?_
    exact xi_lreturn D_Mo_shareBy_208 rfl (okx_L h)
noncomputable def f_Mo_shareBy_b136 (R136 : Int32 → Int32 → Int32 → Int32 → Int32 → Int64 → Int32 → Sg → Option (Int64 × Sg)) (x1 : Int32) (x2 : Int32) (x3 : Int32) (x4 : Int32) (x5 : Int32) (x6 : Int64) (x8 : Int32) (s : Sg) : Option (Int64 × Sg) :=
  f_ck (zl_B s) <|
  if (mI s 46 10) ≤ x8 then
    f_Mo_shareBy_b167  x1 x2 x3 x4 x5 x6 s
  else
    f_bd (f_Mo_makesBy x1 ((1 : Int32) <<< (x8 &&& 31)) x3 s) fun r30 s31 =>
    R136 x1 x2 x3 x4 x5 (x6 + (Int32.toInt64 r30)) (x8 + 1) s31
theorem w_Mo_shareBy_b136 {x1 : Int32} {x2 : Int32} {x3 : Int32} {x4 : Int32} {x5 : Int32} {x6 : Int64} {x8 : Int32} {s : Sg} {d : Nat} {Q : Option (Option Value) → Sg → Prop} (hd : 4 ≤ d) {R136 : Int32 → Int32 → Int32 → Int32 → Int32 → Int64 → Int32 → Sg → Option (Int64 × Sg)} (hR136 : ∀ (x1 : Int32) (x2 : Int32) (x3 : Int32) (x4 : Int32) (x5 : Int32) (x6 : Int64) (x8 : Int32) (s : Sg), okx (zq_L Q) (R136 x1 x2 x3 x4 x5 x6 x8 s) → Xw d M_Mo_shareBy 0 0 136 [.ref 46, .int x1, .int x2, .int x3, .int x4, .int x5, .long x6, .retAddr 0, .int x8, .retAddr 0, .retAddr 0] [] s Q) (h : okx (zq_L Q) (f_Mo_shareBy_b136 R136 x1 x2 x3 x4 x5 x6 x8 s)) : Xw d M_Mo_shareBy 0 0 136 [.ref 46, .int x1, .int x2, .int x3, .int x4, .int x5, .long x6, .retAddr 0, .int x8, .retAddr 0, .retAddr 0] [] s Q := by
  unfold f_Mo_shareBy_b136 at h
  refine xi_iload D_Mo_shareBy_136 rfl ?_
  refine xi_aload_n D_Mo_shareBy_138 rfl ?_
  obtain ⟨g28, h⟩ := okx_ck h
  refine xi_getI D_Mo_shareBy_139 F_Mo_234 (zl_fo (g28).1 rfl) ⟨rfl, by decide⟩ ?_
  refine xi_icmp_ge D_Mo_shareBy_142 (fun c29 => ?_) (fun c29 => ?_)
  · have h := okx_T c29 h
    exact xk_wk (w_Mo_shareBy_b167 (by omega)  h) ⟨Or.inl rfl, Or.inl rfl, Or.inl rfl, Or.inl rfl, Or.inl rfl, Or.inl rfl, Or.inl rfl, Or.inl rfl, Or.inr rfl, Or.inl rfl, Or.inl rfl, trivial⟩
  · have h := okx_F c29 h
    refine xi_lload D_Mo_shareBy_145 rfl ?_
    refine xi_aload_n D_Mo_shareBy_147 rfl ?_
    refine xi_iload_n D_Mo_shareBy_148 rfl ?_
    refine xj_iconst (v := 1) D_Mo_shareBy_149 rfl ?_
    refine xi_iload D_Mo_shareBy_150 rfl ?_
    refine xi_ishl D_Mo_shareBy_152 ?_
    refine xi_iload_n D_Mo_shareBy_153 rfl ?_
    refine xj_V3 D_Mo_shareBy_154 L_Mo_328 C_Mo_makesBy Z_Mo_makesBy (zl_fo (g28).1 rfl) (Nat.le_of_ble_eq_true rfl) (Nat.le_of_eq (Nat.sub_add_cancel (by omega))) (w_Mo_makesBy (by omega) (okx_mono (okx_bd h) ?_))
    intro r30 s31 h
    show Xw _ _ _ _ 157 _ [_, _] _ _
    refine xi_i2l D_Mo_shareBy_157 ?_
    refine xi_ladd D_Mo_shareBy_158 ?_
    refine xi_lstore (ls' := [_, _, _, _, _, _, _, _, _, _, _]) D_Mo_shareBy_159 rfl (by decide) ?_
    refine xi_iinc (v := _ + 1) (ls' := [_, _, _, _, _, _, _, _, _, _, _]) D_Mo_shareBy_161 rfl rfl rfl (by decide) ?_
    refine xi_goto D_Mo_shareBy_164 ?_
    exact hR136 _ _ _ _ _ _ _ _ h
noncomputable def f_Mo_shareBy_h136 : Nat → Int32 → Int32 → Int32 → Int32 → Int32 → Int64 → Int32 → Sg → Option (Int64 × Sg)
  | 0, _, _, _, _, _, _, _, _ => none
  | n + 1, x1, x2, x3, x4, x5, x6, x8, s => f_Mo_shareBy_b136 (f_Mo_shareBy_h136 n) x1 x2 x3 x4 x5 x6 x8 s
theorem w_Mo_shareBy_h136 {d : Nat} {Q : Option (Option Value) → Sg → Prop} (hd : 4 ≤ d) : ∀ (n : Nat) (x1 : Int32) (x2 : Int32) (x3 : Int32) (x4 : Int32) (x5 : Int32) (x6 : Int64) (x8 : Int32) (s : Sg), okx (zq_L Q) (f_Mo_shareBy_h136 n x1 x2 x3 x4 x5 x6 x8 s) → Xw d M_Mo_shareBy 0 0 136 [.ref 46, .int x1, .int x2, .int x3, .int x4, .int x5, .long x6, .retAddr 0, .int x8, .retAddr 0, .retAddr 0] [] s Q := by
  intro n
  induction n with
  | zero => intro x1 x2 x3 x4 x5 x6 x8 s h; exact okx_no h
  | succ n ih => intro x1 x2 x3 x4 x5 x6 x8 s h; exact w_Mo_shareBy_b136 hd  ih  h
noncomputable def f_Mo_shareBy (x1 : Int32) (x2 : Int32) (x3 : Int32) (s : Sg) : Option (Int64 × Sg) :=
  f_ck (zl_B s) <|
  f_bd (f_Mo_makesBy x1 ((1 : Int32) <<< (x2 &&& 31)) x3 s) fun r2 s3 =>
  f_ck (zl_B s3) <|
  if (mI s3 46 46) = 0 then
    f_Mo_shareBy_h34  zl_fl x1 x2 x3 (((1 : Int32) <<< ((mI s 46 10) &&& 31)) - 1) 0 0 s3
  else
    f_Mo_shareBy_h136  zl_fl x1 x2 x3 (((1 : Int32) <<< ((mI s 46 10) &&& 31)) - 1) r2 0 0 s3
theorem w_Mo_shareBy {x1 : Int32} {x2 : Int32} {x3 : Int32} {s : Sg} {d : Nat} {Q : Option (Option Value) → Sg → Prop} (hd : 4 ≤ d) (h : okx (zq_L Q) (f_Mo_shareBy x1 x2 x3 s)) : Cw d M_Mo_shareBy [.ref 46, .int x1, .int x2, .int x3] s Q := by
  refine Cw.of (by decide +kernel) (Nat.le_of_ble_eq_true rfl) ?_
  show Xw d M_Mo_shareBy 0 0 0 [.ref 46, .int x1, .int x2, .int x3, .retAddr 0, .retAddr 0, .retAddr 0, .retAddr 0, .retAddr 0, .retAddr 0, .retAddr 0] [] s _
  unfold f_Mo_shareBy at h
  refine xj_iconst (v := 1) D_Mo_shareBy_0 rfl ?_
  refine xi_aload_n D_Mo_shareBy_1 rfl ?_
  obtain ⟨g1, h⟩ := okx_ck h
  refine xi_getI D_Mo_shareBy_2 F_Mo_234 (zl_fo (g1).1 rfl) ⟨rfl, by decide⟩ ?_
  refine xi_ishl D_Mo_shareBy_5 ?_
  refine xj_iconst (v := 1) D_Mo_shareBy_6 rfl ?_
  refine xi_isub D_Mo_shareBy_7 ?_
  refine xi_istore (ls' := [_, _, _, _, _, _, _, _, _, _, _]) D_Mo_shareBy_8 rfl (by decide) ?_
  refine xi_aload_n D_Mo_shareBy_10 rfl ?_
  refine xi_iload_n D_Mo_shareBy_11 rfl ?_
  refine xj_iconst (v := 1) D_Mo_shareBy_12 rfl ?_
  refine xi_iload_n D_Mo_shareBy_13 rfl ?_
  refine xi_ishl D_Mo_shareBy_14 ?_
  refine xi_iload_n D_Mo_shareBy_15 rfl ?_
  refine xj_V3 D_Mo_shareBy_16 L_Mo_328 C_Mo_makesBy Z_Mo_makesBy (zl_fo (g1).1 rfl) (Nat.le_of_ble_eq_true rfl) (Nat.le_of_eq (Nat.sub_add_cancel (by omega))) (w_Mo_makesBy (by omega) (okx_mono (okx_bd h) ?_))
  intro r2 s3 h
  show Xw _ _ _ _ 19 _ [_] _ _
  refine xi_istore (ls' := [_, _, _, _, _, _, _, _, _, _, _]) D_Mo_shareBy_19 rfl (by decide) ?_
  refine xj_lconst (v := 0) D_Mo_shareBy_21 rfl ?_
  refine xi_lstore (ls' := [_, _, _, _, _, _, _, _, _, _, _]) D_Mo_shareBy_22 rfl (by decide) ?_
  refine xi_aload_n D_Mo_shareBy_24 rfl ?_
  obtain ⟨g4, h⟩ := okx_ck h
  refine xi_getI D_Mo_shareBy_25 F_Mo_247 (zl_fo (g4).1 rfl) ⟨rfl, by decide⟩ ?_
  refine xi_if_ne D_Mo_shareBy_28 (fun c5 => ?_) (fun c5 => ?_)
  · have h := okx_F c5 h
    refine xj_iconst (v := 0) D_Mo_shareBy_133 rfl ?_
    refine xi_istore (ls' := [_, _, _, _, _, _, _, _, _, _, _]) D_Mo_shareBy_134 rfl (by decide) ?_
    exact w_Mo_shareBy_h136 (by omega)  _ _ _ _ _ _ _ _ _ h
  · have h := okx_T c5 h
    refine xj_iconst (v := 0) D_Mo_shareBy_31 rfl ?_
    refine xi_istore (ls' := [_, _, _, _, _, _, _, _, _, _, _]) D_Mo_shareBy_32 rfl (by decide) ?_
    exact xk_wk (w_Mo_shareBy_h34 (by omega)  _ _ _ _ _ _ _ _ h) ⟨Or.inl rfl, Or.inl rfl, Or.inl rfl, Or.inl rfl, Or.inl rfl, Or.inr rfl, Or.inl rfl, Or.inl rfl, Or.inl rfl, Or.inl rfl, Or.inl rfl, trivial⟩
noncomputable def f_Mo_shareIn (x1 : Int32) (x2 : Int32) (x3 : Int32) (s : Sg) : Option (Int64 × Sg) :=
  f_ck (zl_B s) <|
  f_bd (f_Mo_shareBy x1 x2 x3 s) fun r2 s3 =>
  f_ck (zl_B s3) <|
  f_bd (f_Mo_shareBy (x1 + 3) x2 x3 s3) fun r5 s6 =>
  some ((((Int32.toInt64 (10 - (mI s 46 45))) * r2) + ((Int32.toInt64 (mI s3 46 45)) * r5)), s6)
theorem w_Mo_shareIn {x1 : Int32} {x2 : Int32} {x3 : Int32} {s : Sg} {d : Nat} {Q : Option (Option Value) → Sg → Prop} (hd : 5 ≤ d) (h : okx (zq_L Q) (f_Mo_shareIn x1 x2 x3 s)) : Cw d M_Mo_shareIn [.ref 46, .int x1, .int x2, .int x3] s Q := by
  refine Cw.of (by decide +kernel) (Nat.le_of_ble_eq_true rfl) ?_
  show Xw d M_Mo_shareIn 0 0 0 [.ref 46, .int x1, .int x2, .int x3] [] s _
  unfold f_Mo_shareIn at h
  refine xi_bipush (v := 10) D_Mo_shareIn_0 rfl ?_
  refine xi_aload_n D_Mo_shareIn_2 rfl ?_
  obtain ⟨g1, h⟩ := okx_ck h
  refine xi_getI D_Mo_shareIn_3 F_Mo_253 (zl_fo (g1).1 rfl) ⟨rfl, by decide⟩ ?_
  refine xi_isub D_Mo_shareIn_6 ?_
  refine xi_i2l D_Mo_shareIn_7 ?_
  refine xi_aload_n D_Mo_shareIn_8 rfl ?_
  refine xi_iload_n D_Mo_shareIn_9 rfl ?_
  refine xi_iload_n D_Mo_shareIn_10 rfl ?_
  refine xi_iload_n D_Mo_shareIn_11 rfl ?_
  refine xj_V3 D_Mo_shareIn_12 L_Mo_336 C_Mo_shareBy Z_Mo_shareBy (zl_fo (g1).1 rfl) (Nat.le_of_ble_eq_true rfl) (Nat.le_of_eq (Nat.sub_add_cancel (by omega))) (w_Mo_shareBy (by omega) (okx_mono (okx_bd h) ?_))
  intro r2 s3 h
  show Xw _ _ _ _ 15 _ [_, _] _ _
  refine xi_lmul D_Mo_shareIn_15 ?_
  refine xi_aload_n D_Mo_shareIn_16 rfl ?_
  obtain ⟨g4, h⟩ := okx_ck h
  refine xi_getI D_Mo_shareIn_17 F_Mo_253 (zl_fo (g4).1 rfl) ⟨rfl, by decide⟩ ?_
  refine xi_i2l D_Mo_shareIn_20 ?_
  refine xi_aload_n D_Mo_shareIn_21 rfl ?_
  refine xi_iload_n D_Mo_shareIn_22 rfl ?_
  refine xj_iconst (v := 3) D_Mo_shareIn_23 rfl ?_
  refine xi_iadd D_Mo_shareIn_24 ?_
  refine xi_iload_n D_Mo_shareIn_25 rfl ?_
  refine xi_iload_n D_Mo_shareIn_26 rfl ?_
  refine xj_V3 D_Mo_shareIn_27 L_Mo_336 C_Mo_shareBy Z_Mo_shareBy (zl_fo (g4).1 rfl) (Nat.le_of_ble_eq_true rfl) (Nat.le_of_eq (Nat.sub_add_cancel (by omega))) (w_Mo_shareBy (by omega) (okx_mono (okx_bd h) ?_))
  intro r5 s6 h
  show Xw _ _ _ _ 30 _ [_, _, _] _ _
  refine xi_lmul D_Mo_shareIn_30 ?_
  refine xi_ladd D_Mo_shareIn_31 ?_
  exact xi_lreturn D_Mo_shareIn_32 rfl (okx_L h)
noncomputable def f_Mo_isBought_b36 (x1 : Int32) (y0 : Int64) (s : Sg) : Option (Int32 × Sg) :=
  f_ck (zl_B s) <|
  f_bd (f_Mo_shareIn 6 (mI s 46 51) x1 s) fun r8 s9 =>
  f_ck (zl_B s9) <|
  f_bd (f_Mo_shareIn 0 (mI s9 46 51) x1 s9) fun r11 s12 =>
  if (lg_cmp ((r8 - (mL s9 46 53)) + y0) r11) ≤ 0 then
    some (0, s12)
  else
    some (1, s12)
theorem w_Mo_isBought_b36 {x1 : Int32} {y0 : Int64} {s : Sg} {d : Nat} {Q : Option (Option Value) → Sg → Prop} (hd : 6 ≤ d) (h : okx (zq_I Q) (f_Mo_isBought_b36 x1 y0 s)) : Xw d M_Mo_isBought 0 0 36 [.ref 46, .int x1, .retAddr 0, .retAddr 0, .retAddr 0] [.long y0] s Q := by
  unfold f_Mo_isBought_b36 at h
  refine xi_lstore_n (ls' := [_, _, _, _, _]) D_Mo_isBought_36 rfl (by decide) ?_
  refine xi_aload_n D_Mo_isBought_37 rfl ?_
  refine xi_bipush (v := 6) D_Mo_isBought_38 rfl ?_
  refine xi_aload_n D_Mo_isBought_40 rfl ?_
  obtain ⟨g7, h⟩ := okx_ck h
  refine xi_getI D_Mo_isBought_41 F_Mo_352 (zl_fo (g7).1 rfl) ⟨rfl, by decide⟩ ?_
  refine xi_iload_n D_Mo_isBought_44 rfl ?_
  refine xj_V3 D_Mo_isBought_45 L_Mo_340 C_Mo_shareIn Z_Mo_shareIn (zl_fo (g7).1 rfl) (Nat.le_of_ble_eq_true rfl) (Nat.le_of_eq (Nat.sub_add_cancel (by omega))) (w_Mo_shareIn (by omega) (okx_mono (okx_bd h) ?_))
  intro r8 s9 h
  show Xw _ _ _ _ 48 _ [_] _ _
  refine xi_aload_n D_Mo_isBought_48 rfl ?_
  obtain ⟨g10, h⟩ := okx_ck h
  refine xi_getL D_Mo_isBought_49 F_Mo_355 (zl_fo (g10).1 rfl) ⟨rfl, by decide⟩ ?_
  refine xi_lsub D_Mo_isBought_52 ?_
  refine xi_lload_n D_Mo_isBought_53 rfl ?_
  refine xi_ladd D_Mo_isBought_54 ?_
  refine xi_aload_n D_Mo_isBought_55 rfl ?_
  refine xj_iconst (v := 0) D_Mo_isBought_56 rfl ?_
  refine xi_aload_n D_Mo_isBought_57 rfl ?_
  refine xi_getI D_Mo_isBought_58 F_Mo_352 (zl_fo (g10).1 rfl) ⟨rfl, by decide⟩ ?_
  refine xi_iload_n D_Mo_isBought_61 rfl ?_
  refine xj_V3 D_Mo_isBought_62 L_Mo_340 C_Mo_shareIn Z_Mo_shareIn (zl_fo (g10).1 rfl) (Nat.le_of_ble_eq_true rfl) (Nat.le_of_eq (Nat.sub_add_cancel (by omega))) (w_Mo_shareIn (by omega) (okx_mono (okx_bd h) ?_))
  intro r11 s12 h
  show Xw _ _ _ _ 65 _ [_, _] _ _
  refine xi_lcmp D_Mo_isBought_65 ?_
  refine xi_if_le D_Mo_isBought_66 (fun c13 => ?_) (fun c13 => ?_)
  · have h := okx_T c13 h
    refine xj_iconst (v := 0) D_Mo_isBought_73 rfl ?_
    exact xi_ireturn D_Mo_isBought_74 rfl (rfl) (okx_I h)
  · have h := okx_F c13 h
    refine xj_iconst (v := 1) D_Mo_isBought_69 rfl ?_
    refine xi_goto D_Mo_isBought_70 ?_
    exact xi_ireturn D_Mo_isBought_74 rfl (rfl) (okx_I h)
noncomputable def f_Mo_isBought (x1 : Int32) (s : Sg) : Option (Int32 × Sg) :=
  f_ck (zl_B s) <|
  f_ck (vp_in (mI s 46 52) 3) <|
  if (((mI s 69 (Int32.toNatClampNeg (mI s 46 52))) >>> ((mI s 46 51) &&& 31)) &&& 1) = 1 then
    f_bd (f_Mo_bits (mI s 69 (Int32.toNatClampNeg (mI s 46 52))) s) fun r4 s5 =>
    f_ck (¬ (Int32.toInt64 r4) = 0) <|
    f_Mo_isBought_b36  x1 ((mL s 46 53) / (Int32.toInt64 r4)) s5
  else
    f_Mo_isBought_b36  x1 0 s
theorem w_Mo_isBought {x1 : Int32} {s : Sg} {d : Nat} {Q : Option (Option Value) → Sg → Prop} (hd : 6 ≤ d) (h : okx (zq_I Q) (f_Mo_isBought x1 s)) : Cw d M_Mo_isBought [.ref 46, .int x1] s Q := by
  refine Cw.of (by decide +kernel) (Nat.le_of_ble_eq_true rfl) ?_
  show Xw d M_Mo_isBought 0 0 0 [.ref 46, .int x1, .retAddr 0, .retAddr 0, .retAddr 0] [] s _
  unfold f_Mo_isBought at h
  refine xi_aload_n D_Mo_isBought_0 rfl ?_
  obtain ⟨g1, h⟩ := okx_ck h
  refine xi_getR D_Mo_isBought_1 F_Mo_78 (zl_fo (g1).1 rfl) ⟨rfl, by decide⟩ (zl_gr (g1).2 rfl rfl) ?_
  refine xi_aload_n D_Mo_isBought_4 rfl ?_
  refine xi_getI D_Mo_isBought_5 F_Mo_349 (zl_fo (g1).1 rfl) ⟨rfl, by decide⟩ ?_
  obtain ⟨g2, h⟩ := okx_ck h
  refine xj_iald D_Mo_isBought_8 (zl_fx (g1).1 rfl) (zl_ib (n := 3) rfl (g2)) ?_
  refine xi_istore_n (ls' := [_, _, _, _, _]) D_Mo_isBought_9 rfl (by decide) ?_
  refine xi_iload_n D_Mo_isBought_10 rfl ?_
  refine xi_aload_n D_Mo_isBought_11 rfl ?_
  refine xi_getI D_Mo_isBought_12 F_Mo_352 (zl_fo (g1).1 rfl) ⟨rfl, by decide⟩ ?_
  refine xi_ishr D_Mo_isBought_15 ?_
  refine xj_iconst (v := 1) D_Mo_isBought_16 rfl ?_
  refine xi_iand D_Mo_isBought_17 ?_
  refine xj_iconst (v := 1) D_Mo_isBought_18 rfl ?_
  refine xi_icmp_ne D_Mo_isBought_19 (fun c3 => ?_) (fun c3 => ?_)
  · have h := okx_F c3 h
    refine xj_lconst (v := 0) D_Mo_isBought_35 rfl ?_
    exact xk_wk (w_Mo_isBought_b36 (by omega)  h) ⟨Or.inl rfl, Or.inl rfl, Or.inr rfl, Or.inl rfl, Or.inl rfl, trivial⟩
  · have h := okx_T c3 h
    refine xi_aload_n D_Mo_isBought_22 rfl ?_
    refine xi_getL D_Mo_isBought_23 F_Mo_355 (zl_fo (g1).1 rfl) ⟨rfl, by decide⟩ ?_
    refine xi_iload_n D_Mo_isBought_26 rfl ?_
    refine xj_S1 D_Mo_isBought_27 L_Mo_306 C_Mo_bits Z_Mo_bits (Nat.le_of_ble_eq_true rfl) (Nat.le_of_eq (Nat.sub_add_cancel (by omega))) (w_Mo_bits (by omega) (okx_mono (okx_bd h) ?_))
    intro r4 s5 h
    show Xw _ _ _ _ 30 _ [_, _] _ _
    refine xi_i2l D_Mo_isBought_30 ?_
    obtain ⟨g6, h⟩ := okx_ck h
    refine xi_ldiv D_Mo_isBought_31 g6 ?_
    refine xi_goto D_Mo_isBought_32 ?_
    exact xk_wk (w_Mo_isBought_b36 (by omega)  h) ⟨Or.inl rfl, Or.inl rfl, Or.inr rfl, Or.inl rfl, Or.inl rfl, trivial⟩
noncomputable def f_Mo_isPaid (x1 : Int32) (s : Sg) : Option (Int32 × Sg) :=
  f_ck (zl_B s) <|
  f_bd (f_Mo_shareIn 0 (mI s 46 51) x1 s) fun r2 s3 =>
  f_ck (zl_B s3) <|
  if (lg_cmp r2 (mL s3 46 53)) < 0 then
    some (0, s3)
  else
    some (1, s3)
theorem w_Mo_isPaid {x1 : Int32} {s : Sg} {d : Nat} {Q : Option (Option Value) → Sg → Prop} (hd : 6 ≤ d) (h : okx (zq_I Q) (f_Mo_isPaid x1 s)) : Cw d M_Mo_isPaid [.ref 46, .int x1] s Q := by
  refine Cw.of (by decide +kernel) (Nat.le_of_ble_eq_true rfl) ?_
  show Xw d M_Mo_isPaid 0 0 0 [.ref 46, .int x1] [] s _
  unfold f_Mo_isPaid at h
  refine xi_aload_n D_Mo_isPaid_0 rfl ?_
  refine xj_iconst (v := 0) D_Mo_isPaid_1 rfl ?_
  refine xi_aload_n D_Mo_isPaid_2 rfl ?_
  obtain ⟨g1, h⟩ := okx_ck h
  refine xi_getI D_Mo_isPaid_3 F_Mo_352 (zl_fo (g1).1 rfl) ⟨rfl, by decide⟩ ?_
  refine xi_iload_n D_Mo_isPaid_6 rfl ?_
  refine xj_V3 D_Mo_isPaid_7 L_Mo_340 C_Mo_shareIn Z_Mo_shareIn (zl_fo (g1).1 rfl) (Nat.le_of_ble_eq_true rfl) (Nat.le_of_eq (Nat.sub_add_cancel (by omega))) (w_Mo_shareIn (by omega) (okx_mono (okx_bd h) ?_))
  intro r2 s3 h
  show Xw _ _ _ _ 10 _ [_] _ _
  refine xi_aload_n D_Mo_isPaid_10 rfl ?_
  obtain ⟨g4, h⟩ := okx_ck h
  refine xi_getL D_Mo_isPaid_11 F_Mo_355 (zl_fo (g4).1 rfl) ⟨rfl, by decide⟩ ?_
  refine xi_lcmp D_Mo_isPaid_14 ?_
  refine xi_if_lt D_Mo_isPaid_15 (fun c5 => ?_) (fun c5 => ?_)
  · have h := okx_T c5 h
    refine xj_iconst (v := 0) D_Mo_isPaid_22 rfl ?_
    exact xi_ireturn D_Mo_isPaid_23 rfl (rfl) (okx_I h)
  · have h := okx_F c5 h
    refine xj_iconst (v := 1) D_Mo_isPaid_18 rfl ?_
    refine xi_goto D_Mo_isPaid_19 ?_
    exact xi_ireturn D_Mo_isPaid_23 rfl (rfl) (okx_I h)
noncomputable def f_Mo_hasOf_b102 (x3 : Int64) (y0 : Int64) (y1 : Int64) (s : Sg) : Option (Int64 × Sg) :=
  some (((y0 - y1) - x3), s)
theorem w_Mo_hasOf_b102 {x3 : Int64} {y0 : Int64} {y1 : Int64} {s : Sg} {d : Nat} {Q : Option (Option Value) → Sg → Prop} (hd : 7 ≤ d) (h : okx (zq_L Q) (f_Mo_hasOf_b102 x3 y0 y1 s)) : Xw d M_Mo_hasOf 0 0 102 [.retAddr 0, .retAddr 0, .retAddr 0, .long x3, .retAddr 0, .retAddr 0, .retAddr 0, .retAddr 0] [.long y1, .long y0] s Q := by
  unfold f_Mo_hasOf_b102 at h
  refine xi_lsub D_Mo_hasOf_102 ?_
  refine xi_lload_n D_Mo_hasOf_103 rfl ?_
  refine xi_lsub D_Mo_hasOf_104 ?_
  exact xi_lreturn D_Mo_hasOf_105 rfl (okx_L h)
noncomputable def f_Mo_hasOf_b73 (x1 : Int32) (x2 : Int32) (x3 : Int64) (y0 : Int64) (s : Sg) : Option (Int64 × Sg) :=
  f_ck (zl_B s) <|
  f_bd (f_Mo_shareIn 6 x1 x2 s) fun r18 s19 =>
  f_ck (zl_B s19) <|
  if x1 = (mI s19 46 51) then
    f_Mo_hasOf_b102  x3 (r18 + y0) (mL s19 46 53) s19
  else
    f_Mo_hasOf_b102  x3 (r18 + y0) 0 s19
theorem w_Mo_hasOf_b73 {x1 : Int32} {x2 : Int32} {x3 : Int64} {y0 : Int64} {s : Sg} {d : Nat} {Q : Option (Option Value) → Sg → Prop} (hd : 7 ≤ d) (h : okx (zq_L Q) (f_Mo_hasOf_b73 x1 x2 x3 y0 s)) : Xw d M_Mo_hasOf 0 0 73 [.ref 46, .int x1, .int x2, .long x3, .retAddr 0, .retAddr 0, .retAddr 0, .retAddr 0] [.long y0] s Q := by
  unfold f_Mo_hasOf_b73 at h
  refine xi_lstore (ls' := [_, _, _, _, _, _, _, _]) D_Mo_hasOf_73 rfl (by decide) ?_
  refine xi_aload_n D_Mo_hasOf_75 rfl ?_
  refine xi_bipush (v := 6) D_Mo_hasOf_76 rfl ?_
  refine xi_iload_n D_Mo_hasOf_78 rfl ?_
  refine xi_iload_n D_Mo_hasOf_79 rfl ?_
  obtain ⟨g17, h⟩ := okx_ck h
  refine xj_V3 D_Mo_hasOf_80 L_Mo_340 C_Mo_shareIn Z_Mo_shareIn (zl_fo (g17).1 rfl) (Nat.le_of_ble_eq_true rfl) (Nat.le_of_eq (Nat.sub_add_cancel (by omega))) (w_Mo_shareIn (by omega) (okx_mono (okx_bd h) ?_))
  intro r18 s19 h
  show Xw _ _ _ _ 83 _ [_] _ _
  refine xi_lload D_Mo_hasOf_83 rfl ?_
  refine xi_ladd D_Mo_hasOf_85 ?_
  refine xi_iload_n D_Mo_hasOf_86 rfl ?_
  refine xi_aload_n D_Mo_hasOf_87 rfl ?_
  obtain ⟨g20, h⟩ := okx_ck h
  refine xi_getI D_Mo_hasOf_88 F_Mo_352 (zl_fo (g20).1 rfl) ⟨rfl, by decide⟩ ?_
  refine xi_icmp_ne D_Mo_hasOf_91 (fun c21 => ?_) (fun c21 => ?_)
  · have h := okx_F c21 h
    refine xj_lconst (v := 0) D_Mo_hasOf_101 rfl ?_
    exact xk_wk (w_Mo_hasOf_b102 (by omega)  h) ⟨Or.inr rfl, Or.inr rfl, Or.inr rfl, Or.inl rfl, Or.inl rfl, Or.inl rfl, Or.inr rfl, Or.inl rfl, trivial⟩
  · have h := okx_T c21 h
    refine xi_aload_n D_Mo_hasOf_94 rfl ?_
    refine xi_getL D_Mo_hasOf_95 F_Mo_355 (zl_fo (g20).1 rfl) ⟨rfl, by decide⟩ ?_
    refine xi_goto D_Mo_hasOf_98 ?_
    exact xk_wk (w_Mo_hasOf_b102 (by omega)  h) ⟨Or.inr rfl, Or.inr rfl, Or.inr rfl, Or.inl rfl, Or.inl rfl, Or.inl rfl, Or.inr rfl, Or.inl rfl, trivial⟩
noncomputable def f_Mo_hasOf_b145 (x3 : Int64) (y0 : Int64) (y1 : Int64) (s : Sg) : Option (Int64 × Sg) :=
  some (((y0 - y1) - x3), s)
theorem w_Mo_hasOf_b145 {x3 : Int64} {y0 : Int64} {y1 : Int64} {s : Sg} {d : Nat} {Q : Option (Option Value) → Sg → Prop} (hd : 7 ≤ d) (h : okx (zq_L Q) (f_Mo_hasOf_b145 x3 y0 y1 s)) : Xw d M_Mo_hasOf 0 0 145 [.retAddr 0, .retAddr 0, .retAddr 0, .long x3, .retAddr 0, .retAddr 0, .retAddr 0, .retAddr 0] [.long y1, .long y0] s Q := by
  unfold f_Mo_hasOf_b145 at h
  refine xi_lsub D_Mo_hasOf_145 ?_
  refine xi_lload_n D_Mo_hasOf_146 rfl ?_
  refine xi_lsub D_Mo_hasOf_147 ?_
  refine xi_goto D_Mo_hasOf_148 ?_
  exact xi_lreturn D_Mo_hasOf_161 rfl (okx_L h)
noncomputable def f_Mo_hasOf_b106 (x1 : Int32) (x2 : Int32) (x3 : Int64) (s : Sg) : Option (Int64 × Sg) :=
  f_ck (zl_B s) <|
  if (mI s 46 50) = 2 then
    f_bd (f_Mo_isPaid x2 s) fun r24 s25 =>
    if r24 = 0 then
      f_ck (zl_B s25) <|
      f_bd (f_Mo_shareIn 6 x1 x2 s25) fun r28 s29 =>
      some ((r28 - x3), s29)
    else
      f_ck (zl_B s25) <|
      f_bd (f_Mo_shareIn 0 x1 x2 s25) fun r31 s32 =>
      f_ck (zl_B s32) <|
      if x1 = (mI s32 46 51) then
        f_Mo_hasOf_b145  x3 r31 (mL s32 46 53) s32
      else
        f_Mo_hasOf_b145  x3 r31 0 s32
  else
    f_bd (f_Mo_shareIn 0 x1 x2 s) fun r35 s36 =>
    some ((r35 - x3), s36)
theorem w_Mo_hasOf_b106 {x1 : Int32} {x2 : Int32} {x3 : Int64} {s : Sg} {d : Nat} {Q : Option (Option Value) → Sg → Prop} (hd : 7 ≤ d) (h : okx (zq_L Q) (f_Mo_hasOf_b106 x1 x2 x3 s)) : Xw d M_Mo_hasOf 0 0 106 [.ref 46, .int x1, .int x2, .long x3, .retAddr 0, .retAddr 0, .retAddr 0, .retAddr 0] [] s Q := by
  unfold f_Mo_hasOf_b106 at h
  refine xi_aload_n D_Mo_hasOf_106 rfl ?_
  obtain ⟨g22, h⟩ := okx_ck h
  refine xi_getI D_Mo_hasOf_107 F_Mo_319 (zl_fo (g22).1 rfl) ⟨rfl, by decide⟩ ?_
  refine xj_iconst (v := 2) D_Mo_hasOf_110 rfl ?_
  refine xi_icmp_ne D_Mo_hasOf_111 (fun c23 => ?_) (fun c23 => ?_)
  · have h := okx_F c23 h
    refine xi_aload_n D_Mo_hasOf_162 rfl ?_
    refine xj_iconst (v := 0) D_Mo_hasOf_163 rfl ?_
    refine xi_iload_n D_Mo_hasOf_164 rfl ?_
    refine xi_iload_n D_Mo_hasOf_165 rfl ?_
    refine xj_V3 D_Mo_hasOf_166 L_Mo_340 C_Mo_shareIn Z_Mo_shareIn (zl_fo (g22).1 rfl) (Nat.le_of_ble_eq_true rfl) (Nat.le_of_eq (Nat.sub_add_cancel (by omega))) (w_Mo_shareIn (by omega) (okx_mono (okx_bd h) ?_))
    intro r35 s36 h
    show Xw _ _ _ _ 169 _ [_] _ _
    refine xi_lload_n D_Mo_hasOf_169 rfl ?_
    refine xi_lsub D_Mo_hasOf_170 ?_
    exact xi_lreturn D_Mo_hasOf_171 rfl (okx_L h)
  · have h := okx_T c23 h
    refine xi_aload_n D_Mo_hasOf_114 rfl ?_
    refine xi_iload_n D_Mo_hasOf_115 rfl ?_
    refine xj_V1 D_Mo_hasOf_116 L_Mo_361 C_Mo_isPaid Z_Mo_isPaid (zl_fo (g22).1 rfl) (Nat.le_of_ble_eq_true rfl) (Nat.le_of_eq (Nat.sub_add_cancel (by omega))) (w_Mo_isPaid (by omega) (okx_mono (okx_bd h) ?_))
    intro r24 s25 h
    show Xw _ _ _ _ 119 _ [_] _ _
    refine xi_if_eq D_Mo_hasOf_119 (fun c26 => ?_) (fun c26 => ?_)
    · have h := okx_T c26 h
      refine xi_aload_n D_Mo_hasOf_151 rfl ?_
      refine xi_bipush (v := 6) D_Mo_hasOf_152 rfl ?_
      refine xi_iload_n D_Mo_hasOf_154 rfl ?_
      refine xi_iload_n D_Mo_hasOf_155 rfl ?_
      obtain ⟨g27, h⟩ := okx_ck h
      refine xj_V3 D_Mo_hasOf_156 L_Mo_340 C_Mo_shareIn Z_Mo_shareIn (zl_fo (g27).1 rfl) (Nat.le_of_ble_eq_true rfl) (Nat.le_of_eq (Nat.sub_add_cancel (by omega))) (w_Mo_shareIn (by omega) (okx_mono (okx_bd h) ?_))
      intro r28 s29 h
      show Xw _ _ _ _ 159 _ [_] _ _
      refine xi_lload_n D_Mo_hasOf_159 rfl ?_
      refine xi_lsub D_Mo_hasOf_160 ?_
      exact xi_lreturn D_Mo_hasOf_161 rfl (okx_L h)
    · have h := okx_F c26 h
      refine xi_aload_n D_Mo_hasOf_122 rfl ?_
      refine xj_iconst (v := 0) D_Mo_hasOf_123 rfl ?_
      refine xi_iload_n D_Mo_hasOf_124 rfl ?_
      refine xi_iload_n D_Mo_hasOf_125 rfl ?_
      obtain ⟨g30, h⟩ := okx_ck h
      refine xj_V3 D_Mo_hasOf_126 L_Mo_340 C_Mo_shareIn Z_Mo_shareIn (zl_fo (g30).1 rfl) (Nat.le_of_ble_eq_true rfl) (Nat.le_of_eq (Nat.sub_add_cancel (by omega))) (w_Mo_shareIn (by omega) (okx_mono (okx_bd h) ?_))
      intro r31 s32 h
      show Xw _ _ _ _ 129 _ [_] _ _
      refine xi_iload_n D_Mo_hasOf_129 rfl ?_
      refine xi_aload_n D_Mo_hasOf_130 rfl ?_
      obtain ⟨g33, h⟩ := okx_ck h
      refine xi_getI D_Mo_hasOf_131 F_Mo_352 (zl_fo (g33).1 rfl) ⟨rfl, by decide⟩ ?_
      refine xi_icmp_ne D_Mo_hasOf_134 (fun c34 => ?_) (fun c34 => ?_)
      · have h := okx_F c34 h
        refine xj_lconst (v := 0) D_Mo_hasOf_144 rfl ?_
        exact xk_wk (w_Mo_hasOf_b145 (by omega)  h) ⟨Or.inr rfl, Or.inr rfl, Or.inr rfl, Or.inl rfl, Or.inl rfl, Or.inl rfl, Or.inl rfl, Or.inl rfl, trivial⟩
      · have h := okx_T c34 h
        refine xi_aload_n D_Mo_hasOf_137 rfl ?_
        refine xi_getL D_Mo_hasOf_138 F_Mo_355 (zl_fo (g33).1 rfl) ⟨rfl, by decide⟩ ?_
        refine xi_goto D_Mo_hasOf_141 ?_
        exact xk_wk (w_Mo_hasOf_b145 (by omega)  h) ⟨Or.inr rfl, Or.inr rfl, Or.inr rfl, Or.inl rfl, Or.inl rfl, Or.inl rfl, Or.inl rfl, Or.inl rfl, trivial⟩
noncomputable def f_Mo_hasOf (x1 : Int32) (x2 : Int32) (s : Sg) : Option (Int64 × Sg) :=
  f_ck (zl_B s) <|
  f_bd (f_Mo_stepOf x2 x1 s) fun r2 s3 =>
  f_ck (zl_B s3) <|
  f_ck (vp_in ((4 * x1) + r2) 32) <|
  let v6 : Int64 := ((240 : Int64) * (Int32.toInt64 (mI s3 50 (Int32.toNatClampNeg ((4 * x1) + r2)))))
  if (mI s3 46 50) = 1 then
    f_bd (f_Mo_isBought x2 s3) fun r8 s9 =>
    if r8 = 0 then
      f_Mo_hasOf_b106  x1 x2 v6 s9
    else
      f_ck (zl_B s9) <|
      f_ck (vp_in (mI s9 46 52) 3) <|
      if (((mI s9 69 (Int32.toNatClampNeg (mI s9 46 52))) >>> (x1 &&& 31)) &&& 1) = 1 then
        f_bd (f_Mo_bits (mI s9 69 (Int32.toNatClampNeg (mI s9 46 52))) s9) fun r14 s15 =>
        f_ck (¬ (Int32.toInt64 r14) = 0) <|
        f_Mo_hasOf_b73  x1 x2 v6 ((mL s9 46 53) / (Int32.toInt64 r14)) s15
      else
        f_Mo_hasOf_b73  x1 x2 v6 0 s9
  else
    f_Mo_hasOf_b106  x1 x2 v6 s3
theorem w_Mo_hasOf {x1 : Int32} {x2 : Int32} {s : Sg} {d : Nat} {Q : Option (Option Value) → Sg → Prop} (hd : 7 ≤ d) (h : okx (zq_L Q) (f_Mo_hasOf x1 x2 s)) : Cw d M_Mo_hasOf [.ref 46, .int x1, .int x2] s Q := by
  refine Cw.of (by decide +kernel) (Nat.le_of_ble_eq_true rfl) ?_
  show Xw d M_Mo_hasOf 0 0 0 [.ref 46, .int x1, .int x2, .retAddr 0, .retAddr 0, .retAddr 0, .retAddr 0, .retAddr 0] [] s _
  unfold f_Mo_hasOf at h
  refine xi_ldc2 D_Mo_hasOf_0 K_Mo_343 ?_
  refine xi_aload_n D_Mo_hasOf_3 rfl ?_
  obtain ⟨g1, h⟩ := okx_ck h
  refine xi_getR D_Mo_hasOf_4 F_Mo_20 (zl_fo (g1).1 rfl) ⟨rfl, by decide⟩ (zl_gr (g1).2 rfl rfl) ?_
  refine xj_iconst (v := 4) D_Mo_hasOf_7 rfl ?_
  refine xi_iload_n D_Mo_hasOf_8 rfl ?_
  refine xi_imul D_Mo_hasOf_9 ?_
  refine xi_aload_n D_Mo_hasOf_10 rfl ?_
  refine xi_iload_n D_Mo_hasOf_11 rfl ?_
  refine xi_iload_n D_Mo_hasOf_12 rfl ?_
  refine xj_V2 D_Mo_hasOf_13 L_Mo_237 C_Mo_stepOf Z_Mo_stepOf (zl_fo (g1).1 rfl) (Nat.le_of_ble_eq_true rfl) (Nat.le_of_eq (Nat.sub_add_cancel (by omega))) (w_Mo_stepOf (by omega) (okx_mono (okx_bd h) ?_))
  intro r2 s3 h
  show Xw _ _ _ _ 16 _ [_, _, _, _] _ _
  refine xi_iadd D_Mo_hasOf_16 ?_
  obtain ⟨g4, h⟩ := okx_ck h
  obtain ⟨g5, h⟩ := okx_ck h
  refine xj_iald D_Mo_hasOf_17 (zl_fx (g4).1 rfl) (zl_ib (n := 32) rfl (g5)) ?_
  refine xi_i2l D_Mo_hasOf_18 ?_
  refine xi_lmul D_Mo_hasOf_19 ?_
  refine xi_lstore_n (ls' := [_, _, _, _, _, _, _, _]) D_Mo_hasOf_20 rfl (by decide) ?_
  refine xi_aload_n D_Mo_hasOf_21 rfl ?_
  refine xi_getI D_Mo_hasOf_22 F_Mo_319 (zl_fo (g4).1 rfl) ⟨rfl, by decide⟩ ?_
  refine xj_iconst (v := 1) D_Mo_hasOf_25 rfl ?_
  refine xi_icmp_ne D_Mo_hasOf_26 (fun c7 => ?_) (fun c7 => ?_)
  · have h := okx_F c7 h
    exact w_Mo_hasOf_b106 (by omega)  h
  · have h := okx_T c7 h
    refine xi_aload_n D_Mo_hasOf_29 rfl ?_
    refine xi_iload_n D_Mo_hasOf_30 rfl ?_
    refine xj_V1 D_Mo_hasOf_31 L_Mo_358 C_Mo_isBought Z_Mo_isBought (zl_fo (g4).1 rfl) (Nat.le_of_ble_eq_true rfl) (Nat.le_of_eq (Nat.sub_add_cancel (by omega))) (w_Mo_isBought (by omega) (okx_mono (okx_bd h) ?_))
    intro r8 s9 h
    show Xw _ _ _ _ 34 _ [_] _ _
    refine xi_if_eq D_Mo_hasOf_34 (fun c10 => ?_) (fun c10 => ?_)
    · have h := okx_T c10 h
      exact w_Mo_hasOf_b106 (by omega)  h
    · have h := okx_F c10 h
      refine xi_aload_n D_Mo_hasOf_37 rfl ?_
      obtain ⟨g11, h⟩ := okx_ck h
      refine xi_getR D_Mo_hasOf_38 F_Mo_78 (zl_fo (g11).1 rfl) ⟨rfl, by decide⟩ (zl_gr (g11).2 rfl rfl) ?_
      refine xi_aload_n D_Mo_hasOf_41 rfl ?_
      refine xi_getI D_Mo_hasOf_42 F_Mo_349 (zl_fo (g11).1 rfl) ⟨rfl, by decide⟩ ?_
      obtain ⟨g12, h⟩ := okx_ck h
      refine xj_iald D_Mo_hasOf_45 (zl_fx (g11).1 rfl) (zl_ib (n := 3) rfl (g12)) ?_
      refine xi_istore (ls' := [_, _, _, _, _, _, _, _]) D_Mo_hasOf_46 rfl (by decide) ?_
      refine xi_iload D_Mo_hasOf_48 rfl ?_
      refine xi_iload_n D_Mo_hasOf_50 rfl ?_
      refine xi_ishr D_Mo_hasOf_51 ?_
      refine xj_iconst (v := 1) D_Mo_hasOf_52 rfl ?_
      refine xi_iand D_Mo_hasOf_53 ?_
      refine xj_iconst (v := 1) D_Mo_hasOf_54 rfl ?_
      refine xi_icmp_ne D_Mo_hasOf_55 (fun c13 => ?_) (fun c13 => ?_)
      · have h := okx_F c13 h
        refine xj_lconst (v := 0) D_Mo_hasOf_72 rfl ?_
        exact xk_wk (w_Mo_hasOf_b73 (by omega)  h) ⟨Or.inl rfl, Or.inl rfl, Or.inl rfl, Or.inl rfl, Or.inl rfl, Or.inr rfl, Or.inl rfl, Or.inl rfl, trivial⟩
      · have h := okx_T c13 h
        refine xi_aload_n D_Mo_hasOf_58 rfl ?_
        refine xi_getL D_Mo_hasOf_59 F_Mo_355 (zl_fo (g11).1 rfl) ⟨rfl, by decide⟩ ?_
        refine xi_iload D_Mo_hasOf_62 rfl ?_
        refine xj_S1 D_Mo_hasOf_64 L_Mo_306 C_Mo_bits Z_Mo_bits (Nat.le_of_ble_eq_true rfl) (Nat.le_of_eq (Nat.sub_add_cancel (by omega))) (w_Mo_bits (by omega) (okx_mono (okx_bd h) ?_))
        intro r14 s15 h
        show Xw _ _ _ _ 67 _ [_, _] _ _
        refine xi_i2l D_Mo_hasOf_67 ?_
        obtain ⟨g16, h⟩ := okx_ck h
        refine xi_ldiv D_Mo_hasOf_68 g16 ?_
        refine xi_goto D_Mo_hasOf_69 ?_
        exact xk_wk (w_Mo_hasOf_b73 (by omega)  h) ⟨Or.inl rfl, Or.inl rfl, Or.inl rfl, Or.inl rfl, Or.inl rfl, Or.inr rfl, Or.inl rfl, Or.inl rfl, trivial⟩
