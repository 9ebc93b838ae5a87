/-! by a program of ours (wip/whole/gen/func.py, mkf.py) out of the listing: Mo_within Mo_stepOf Mo_isPerson Mo_isThing Mo_isPains Mo_areThem Mo_bits Mo_cost -/
noncomputable def f_Mo_within (x0 : Int32) (x1 : Int32) (x2 : Int32) (s : Sg) : Option (Int32 × Sg) :=
  if x0 < x1 then
    some (0, s)
  else
    if x2 < x0 then
      some (0, s)
    else
      some (1, s)
theorem w_Mo_within {x0 : Int32} {x1 : Int32} {x2 : Int32} {s : Sg} {d : Nat} {Q : Option (Option Value) → Sg → Prop} (hd : 1 ≤ d) (h : okx (zq_I Q) (f_Mo_within x0 x1 x2 s)) : Cw d M_Mo_within [.int x0, .int x1, .int x2] s Q := by
  refine Cw.of (by decide +kernel) (Nat.le_of_ble_eq_true rfl) ?_
  show Xw d M_Mo_within 0 0 0 [.int x0, .int x1, .int x2] [] s _
  unfold f_Mo_within at h
  refine xi_iload_n D_Mo_within_0 rfl ?_
  refine xi_iload_n D_Mo_within_1 rfl ?_
  refine xi_icmp_lt D_Mo_within_2 (fun c1 => ?_) (fun c1 => ?_)
  · have h := okx_T c1 h
    refine xj_iconst (v := 0) D_Mo_within_14 rfl ?_
    exact xi_ireturn D_Mo_within_15 rfl (rfl) (okx_I h)
  · have h := okx_F c1 h
    refine xi_iload_n D_Mo_within_5 rfl ?_
    refine xi_iload_n D_Mo_within_6 rfl ?_
    refine xi_icmp_gt D_Mo_within_7 (fun c2 => ?_) (fun c2 => ?_)
    · have h := okx_T c2 h
      refine xj_iconst (v := 0) D_Mo_within_14 rfl ?_
      exact xi_ireturn D_Mo_within_15 rfl (rfl) (okx_I h)
    · have h := okx_F c2 h
      refine xj_iconst (v := 1) D_Mo_within_10 rfl ?_
      refine xi_goto D_Mo_within_11 ?_
      exact xi_ireturn D_Mo_within_15 rfl (rfl) (okx_I h)
noncomputable def f_Mo_stepOf (x1 : Int32) (x2 : Int32) (s : Sg) : Option (Int32 × Sg) :=
  some (((x1 >>> ((2 * x2) &&& 31)) &&& 3), s)
theorem w_Mo_stepOf {x1 : Int32} {x2 : Int32} {s : Sg} {d : Nat} {Q : Option (Option Value) → Sg → Prop} (hd : 1 ≤ d) (h : okx (zq_I Q) (f_Mo_stepOf x1 x2 s)) : Cw d M_Mo_stepOf [.ref 46, .int x1, .int x2] s Q := by
  refine Cw.of (by decide +kernel) (Nat.le_of_ble_eq_true rfl) ?_
  show Xw d M_Mo_stepOf 0 0 0 [.ref 46, .int x1, .int x2] [] s _
  unfold f_Mo_stepOf at h
  refine xi_iload_n D_Mo_stepOf_0 rfl ?_
  refine xj_iconst (v := 2) D_Mo_stepOf_1 rfl ?_
  refine xi_iload_n D_Mo_stepOf_2 rfl ?_
  refine xi_imul D_Mo_stepOf_3 ?_
  refine xi_ishr D_Mo_stepOf_4 ?_
  refine xj_iconst (v := 3) D_Mo_stepOf_5 rfl ?_
  refine xi_iand D_Mo_stepOf_6 ?_
  exact xi_ireturn D_Mo_stepOf_7 rfl (rfl) (okx_I h)
noncomputable def f_Mo_isPerson (x1 : Int32) (s : Sg) : Option (Int32 × Sg) :=
  if x1 < 0 then
    some (0, s)
  else
    f_ck (zl_B s) <|
    if (mI s 46 10) ≤ x1 then
      some (0, s)
    else
      some (1, s)
theorem w_Mo_isPerson {x1 : Int32} {s : Sg} {d : Nat} {Q : Option (Option Value) → Sg → Prop} (hd : 1 ≤ d) (h : okx (zq_I Q) (f_Mo_isPerson x1 s)) : Cw d M_Mo_isPerson [.ref 46, .int x1] s Q := by
  refine Cw.of (by decide +kernel) (Nat.le_of_ble_eq_true rfl) ?_
  show Xw d M_Mo_isPerson 0 0 0 [.ref 46, .int x1] [] s _
  unfold f_Mo_isPerson at h
  refine xi_iload_n D_Mo_isPerson_0 rfl ?_
  refine xi_if_lt D_Mo_isPerson_1 (fun c1 => ?_) (fun c1 => ?_)
  · have h := okx_T c1 h
    refine xj_iconst (v := 0) D_Mo_isPerson_16 rfl ?_
    exact xi_ireturn D_Mo_isPerson_17 rfl (rfl) (okx_I h)
  · have h := okx_F c1 h
    refine xi_iload_n D_Mo_isPerson_4 rfl ?_
    refine xi_aload_n D_Mo_isPerson_5 rfl ?_
    obtain ⟨g2, h⟩ := okx_ck h
    refine xi_getI D_Mo_isPerson_6 F_Mo_234 (zl_fo (g2).1 rfl) ⟨rfl, by decide⟩ ?_
    refine xi_icmp_ge D_Mo_isPerson_9 (fun c3 => ?_) (fun c3 => ?_)
    · have h := okx_T c3 h
      refine xj_iconst (v := 0) D_Mo_isPerson_16 rfl ?_
      exact xi_ireturn D_Mo_isPerson_17 rfl (rfl) (okx_I h)
    · have h := okx_F c3 h
      refine xj_iconst (v := 1) D_Mo_isPerson_12 rfl ?_
      refine xi_goto D_Mo_isPerson_13 ?_
      exact xi_ireturn D_Mo_isPerson_17 rfl (rfl) (okx_I h)
noncomputable def f_Mo_isThing (x1 : Int32) (s : Sg) : Option (Int32 × Sg) :=
  if x1 < 0 then
    some (0, s)
  else
    f_ck (zl_B s) <|
    if (mI s 46 11) ≤ x1 then
      some (0, s)
    else
      some (1, s)
theorem w_Mo_isThing {x1 : Int32} {s : Sg} {d : Nat} {Q : Option (Option Value) → Sg → Prop} (hd : 1 ≤ d) (h : okx (zq_I Q) (f_Mo_isThing x1 s)) : Cw d M_Mo_isThing [.ref 46, .int x1] s Q := by
  refine Cw.of (by decide +kernel) (Nat.le_of_ble_eq_true rfl) ?_
  show Xw d M_Mo_isThing 0 0 0 [.ref 46, .int x1] [] s _
  unfold f_Mo_isThing at h
  refine xi_iload_n D_Mo_isThing_0 rfl ?_
  refine xi_if_lt D_Mo_isThing_1 (fun c1 => ?_) (fun c1 => ?_)
  · have h := okx_T c1 h
    refine xj_iconst (v := 0) D_Mo_isThing_16 rfl ?_
    exact xi_ireturn D_Mo_isThing_17 rfl (rfl) (okx_I h)
  · have h := okx_F c1 h
    refine xi_iload_n D_Mo_isThing_4 rfl ?_
    refine xi_aload_n D_Mo_isThing_5 rfl ?_
    obtain ⟨g2, h⟩ := okx_ck h
    refine xi_getI D_Mo_isThing_6 F_Mo_259 (zl_fo (g2).1 rfl) ⟨rfl, by decide⟩ ?_
    refine xi_icmp_ge D_Mo_isThing_9 (fun c3 => ?_) (fun c3 => ?_)
    · have h := okx_T c3 h
      refine xj_iconst (v := 0) D_Mo_isThing_16 rfl ?_
      exact xi_ireturn D_Mo_isThing_17 rfl (rfl) (okx_I h)
    · have h := okx_F c3 h
      refine xj_iconst (v := 1) D_Mo_isThing_12 rfl ?_
      refine xi_goto D_Mo_isThing_13 ?_
      exact xi_ireturn D_Mo_isThing_17 rfl (rfl) (okx_I h)
noncomputable def f_Mo_isPains_b20 (R20 : Int32 → Int32 → Sg → Option (Int32 × Sg)) (x1 : Int32) (x2 : Int32) (s : Sg) : Option (Int32 × Sg) :=
  f_ck (zl_B s) <|
  if (mI s 46 10) ≤ x2 then
    some (1, s)
  else
    f_bd (f_Mo_stepOf x1 x2 s) fun r6 s7 =>
    f_ck (zl_B s7) <|
    f_ck (vp_in x2 8) <|
    if r6 ≤ (mI s7 49 (Int32.toNatClampNeg x2)) then
      R20 x1 (x2 + 1) s7
    else
      some (0, s7)
theorem w_Mo_isPains_b20 {x1 : Int32} {x2 : Int32} {s : Sg} {d : Nat} {Q : Option (Option Value) → Sg → Prop} (hd : 2 ≤ d) {R20 : Int32 → Int32 → Sg → Option (Int32 × Sg)} (hR20 : ∀ (x1 : Int32) (x2 : Int32) (s : Sg), okx (zq_I Q) (R20 x1 x2 s) → Xw d M_Mo_isPains 0 0 20 [.ref 46, .int x1, .int x2] [] s Q) (h : okx (zq_I Q) (f_Mo_isPains_b20 R20 x1 x2 s)) : Xw d M_Mo_isPains 0 0 20 [.ref 46, .int x1, .int x2] [] s Q := by
  unfold f_Mo_isPains_b20 at h
  refine xi_iload_n D_Mo_isPains_20 rfl ?_
  refine xi_aload_n D_Mo_isPains_21 rfl ?_
  obtain ⟨g4, h⟩ := okx_ck h
  refine xi_getI D_Mo_isPains_22 F_Mo_234 (zl_fo (g4).1 rfl) ⟨rfl, by decide⟩ ?_
  refine xi_icmp_ge D_Mo_isPains_25 (fun c5 => ?_) (fun c5 => ?_)
  · have h := okx_T c5 h
    refine xj_iconst (v := 1) D_Mo_isPains_51 rfl ?_
    exact xi_ireturn D_Mo_isPains_52 rfl (rfl) (okx_I h)
  · have h := okx_F c5 h
    refine xi_aload_n D_Mo_isPains_28 rfl ?_
    refine xi_iload_n D_Mo_isPains_29 rfl ?_
    refine xi_iload_n D_Mo_isPains_30 rfl ?_
    refine xj_V2 D_Mo_isPains_31 L_Mo_237 C_Mo_stepOf Z_Mo_stepOf (zl_fo (g4).1 rfl) (Nat.le_of_ble_eq_true rfl) (Nat.le_of_eq (Nat.sub_add_cancel (by omega))) (w_Mo_stepOf (by omega) (okx_mono (okx_bd h) ?_))
    intro r6 s7 h
    show Xw _ _ _ _ 34 _ [_] _ _
    refine xi_aload_n D_Mo_isPains_34 rfl ?_
    obtain ⟨g8, h⟩ := okx_ck h
    refine xi_getR D_Mo_isPains_35 F_Mo_17 (zl_fo (g8).1 rfl) ⟨rfl, by decide⟩ (zl_gr (g8).2 rfl rfl) ?_
    refine xi_iload_n D_Mo_isPains_38 rfl ?_
    obtain ⟨g9, h⟩ := okx_ck h
    refine xj_iald D_Mo_isPains_39 (zl_fx (g8).1 rfl) (zl_ib (n := 8) rfl (g9)) ?_
    refine xi_icmp_le D_Mo_isPains_40 (fun c10 => ?_) (fun c10 => ?_)
    · have h := okx_T c10 h
      refine xi_iinc (v := _ + 1) (ls' := [_, _, _]) D_Mo_isPains_45 rfl rfl rfl (by decide) ?_
      refine xi_goto D_Mo_isPains_48 ?_
      exact hR20 _ _ _ h
    · have h := okx_F c10 h
      refine xj_iconst (v := 0) D_Mo_isPains_43 rfl ?_
      exact xi_ireturn D_Mo_isPains_44 rfl (rfl) (okx_I h)
noncomputable def f_Mo_isPains_h20 : Nat → Int32 → Int32 → Sg → Option (Int32 × Sg)
  | 0, _, _, _ => none
  | n + 1, x1, x2, s => f_Mo_isPains_b20 (f_Mo_isPains_h20 n) x1 x2 s
theorem w_Mo_isPains_h20 {d : Nat} {Q : Option (Option Value) → Sg → Prop} (hd : 2 ≤ d) : ∀ (n : Nat) (x1 : Int32) (x2 : Int32) (s : Sg), okx (zq_I Q) (f_Mo_isPains_h20 n x1 x2 s) → Xw d M_Mo_isPains 0 0 20 [.ref 46, .int x1, .int x2] [] s Q := by
  intro n
  induction n with
  | zero => intro x1 x2 s h; exact okx_no h
  | succ n ih => intro x1 x2 s h; exact w_Mo_isPains_b20 hd  ih  h
noncomputable def f_Mo_isPains (x1 : Int32) (s : Sg) : Option (Int32 × Sg) :=
  if x1 < 0 then
    some (0, s)
  else
    f_ck (zl_B s) <|
    if x1 < ((1 : Int32) <<< ((2 * (mI s 46 10)) &&& 31)) then
      f_Mo_isPains_h20  zl_fl x1 0 s
    else
      some (0, s)
theorem w_Mo_isPains {x1 : Int32} {s : Sg} {d : Nat} {Q : Option (Option Value) → Sg → Prop} (hd : 2 ≤ d) (h : okx (zq_I Q) (f_Mo_isPains x1 s)) : Cw d M_Mo_isPains [.ref 46, .int x1] s Q := by
  refine Cw.of (by decide +kernel) (Nat.le_of_ble_eq_true rfl) ?_
  show Xw d M_Mo_isPains 0 0 0 [.ref 46, .int x1, .retAddr 0] [] s _
  unfold f_Mo_isPains at h
  refine xi_iload_n D_Mo_isPains_0 rfl ?_
  refine xi_if_lt D_Mo_isPains_1 (fun c1 => ?_) (fun c1 => ?_)
  · have h := okx_T c1 h
    refine xj_iconst (v := 0) D_Mo_isPains_16 rfl ?_
    exact xi_ireturn D_Mo_isPains_17 rfl (rfl) (okx_I h)
  · have h := okx_F c1 h
    refine xi_iload_n D_Mo_isPains_4 rfl ?_
    refine xj_iconst (v := 1) D_Mo_isPains_5 rfl ?_
    refine xj_iconst (v := 2) D_Mo_isPains_6 rfl ?_
    refine xi_aload_n D_Mo_isPains_7 rfl ?_
    obtain ⟨g2, h⟩ := okx_ck h
    refine xi_getI D_Mo_isPains_8 F_Mo_234 (zl_fo (g2).1 rfl) ⟨rfl, by decide⟩ ?_
    refine xi_imul D_Mo_isPains_11 ?_
    refine xi_ishl D_Mo_isPains_12 ?_
    refine xi_icmp_lt D_Mo_isPains_13 (fun c3 => ?_) (fun c3 => ?_)
    · have h := okx_T c3 h
      refine xj_iconst (v := 0) D_Mo_isPains_18 rfl ?_
      refine xi_istore_n (ls' := [_, _, _]) D_Mo_isPains_19 rfl (by decide) ?_
      exact w_Mo_isPains_h20 (by omega)  _ _ _ _ h
    · have h := okx_F c3 h
      refine xj_iconst (v := 0) D_Mo_isPains_16 rfl ?_
      exact xi_ireturn D_Mo_isPains_17 rfl (rfl) (okx_I h)
noncomputable def f_Mo_areThem (x1 : Int32) (s : Sg) : Option (Int32 × Sg) :=
  if x1 < 0 then
    some (0, s)
  else
    f_ck (zl_B s) <|
    if ((1 : Int32) <<< ((mI s 46 10) &&& 31)) ≤ x1 then
      some (0, s)
    else
      some (1, s)
theorem w_Mo_areThem {x1 : Int32} {s : Sg} {d : Nat} {Q : Option (Option Value) → Sg → Prop} (hd : 1 ≤ d) (h : okx (zq_I Q) (f_Mo_areThem x1 s)) : Cw d M_Mo_areThem [.ref 46, .int x1] s Q := by
  refine Cw.of (by decide +kernel) (Nat.le_of_ble_eq_true rfl) ?_
  show Xw d M_Mo_areThem 0 0 0 [.ref 46, .int x1] [] s _
  unfold f_Mo_areThem at h
  refine xi_iload_n D_Mo_areThem_0 rfl ?_
  refine xi_if_lt D_Mo_areThem_1 (fun c1 => ?_) (fun c1 => ?_)
  · have h := okx_T c1 h
    refine xj_iconst (v := 0) D_Mo_areThem_18 rfl ?_
    exact xi_ireturn D_Mo_areThem_19 rfl (rfl) (okx_I h)
  · have h := okx_F c1 h
    refine xi_iload_n D_Mo_areThem_4 rfl ?_
    refine xj_iconst (v := 1) D_Mo_areThem_5 rfl ?_
    refine xi_aload_n D_Mo_areThem_6 rfl ?_
    obtain ⟨g2, h⟩ := okx_ck h
    refine xi_getI D_Mo_areThem_7 F_Mo_234 (zl_fo (g2).1 rfl) ⟨rfl, by decide⟩ ?_
    refine xi_ishl D_Mo_areThem_10 ?_
    refine xi_icmp_ge D_Mo_areThem_11 (fun c3 => ?_) (fun c3 => ?_)
    · have h := okx_T c3 h
      refine xj_iconst (v := 0) D_Mo_areThem_18 rfl ?_
      exact xi_ireturn D_Mo_areThem_19 rfl (rfl) (okx_I h)
    · have h := okx_F c3 h
      refine xj_iconst (v := 1) D_Mo_areThem_14 rfl ?_
      refine xi_goto D_Mo_areThem_15 ?_
      exact xi_ireturn D_Mo_areThem_19 rfl (rfl) (okx_I h)
noncomputable def f_Mo_bits_b4 (R4 : Int32 → Int32 → Int32 → Sg → Option (Int32 × Sg)) (x0 : Int32) (x1 : Int32) (x2 : Int32) (s : Sg) : Option (Int32 × Sg) :=
  if 8 ≤ x2 then
    some (x1, s)
  else
    R4 x0 (x1 + ((x0 >>> (x2 &&& 31)) &&& 1)) (x2 + 1) s
theorem w_Mo_bits_b4 {x0 : Int32} {x1 : Int32} {x2 : Int32} {s : Sg} {d : Nat} {Q : Option (Option Value) → Sg → Prop} (hd : 1 ≤ d) {R4 : Int32 → Int32 → Int32 → Sg → Option (Int32 × Sg)} (hR4 : ∀ (x0 : Int32) (x1 : Int32) (x2 : Int32) (s : Sg), okx (zq_I Q) (R4 x0 x1 x2 s) → Xw d M_Mo_bits 0 0 4 [.int x0, .int x1, .int x2] [] s Q) (h : okx (zq_I Q) (f_Mo_bits_b4 R4 x0 x1 x2 s)) : Xw d M_Mo_bits 0 0 4 [.int x0, .int x1, .int x2] [] s Q := by
  unfold f_Mo_bits_b4 at h
  refine xi_iload_n D_Mo_bits_4 rfl ?_
  refine xi_bipush (v := 8) D_Mo_bits_5 rfl ?_
  refine xi_icmp_ge D_Mo_bits_7 (fun c1 => ?_) (fun c1 => ?_)
  · have h := okx_T c1 h
    refine xi_iload_n D_Mo_bits_24 rfl ?_
    exact xi_ireturn D_Mo_bits_25 rfl (rfl) (okx_I h)
  · have h := okx_F c1 h
    refine xi_iload_n D_Mo_bits_10 rfl ?_
    refine xi_iload_n D_Mo_bits_11 rfl ?_
    refine xi_iload_n D_Mo_bits_12 rfl ?_
    refine xi_ishr D_Mo_bits_13 ?_
    refine xj_iconst (v := 1) D_Mo_bits_14 rfl ?_
    refine xi_iand D_Mo_bits_15 ?_
    refine xi_iadd D_Mo_bits_16 ?_
    refine xi_istore_n (ls' := [_, _, _]) D_Mo_bits_17 rfl (by decide) ?_
    refine xi_iinc (v := _ + 1) (ls' := [_, _, _]) D_Mo_bits_18 rfl rfl rfl (by decide) ?_
    refine xi_goto D_Mo_bits_21 ?_
    exact hR4 _ _ _ _ h
noncomputable def f_Mo_bits_h4 : Nat → Int32 → Int32 → Int32 → Sg → Option (Int32 × Sg)
  | 0, _, _, _, _ => none
  | n + 1, x0, x1, x2, s => f_Mo_bits_b4 (f_Mo_bits_h4 n) x0 x1 x2 s
theorem w_Mo_bits_h4 {d : Nat} {Q : Option (Option Value) → Sg → Prop} (hd : 1 ≤ d) : ∀ (n : Nat) (x0 : Int32) (x1 : Int32) (x2 : Int32) (s : Sg), okx (zq_I Q) (f_Mo_bits_h4 n x0 x1 x2 s) → Xw d M_Mo_bits 0 0 4 [.int x0, .int x1, .int x2] [] s Q := by
  intro n
  induction n with
  | zero => intro x0 x1 x2 s h; exact okx_no h
  | succ n ih => intro x0 x1 x2 s h; exact w_Mo_bits_b4 hd  ih  h
noncomputable def f_Mo_bits (x0 : Int32) (s : Sg) : Option (Int32 × Sg) :=
  f_Mo_bits_h4  zl_fl x0 0 0 s
theorem w_Mo_bits {x0 : Int32} {s : Sg} {d : Nat} {Q : Option (Option Value) → Sg → Prop} (hd : 1 ≤ d) (h : okx (zq_I Q) (f_Mo_bits x0 s)) : Cw d M_Mo_bits [.int x0] s Q := by
  refine Cw.of (by decide +kernel) (Nat.le_of_ble_eq_true rfl) ?_
  show Xw d M_Mo_bits 0 0 0 [.int x0, .retAddr 0, .retAddr 0] [] s _
  unfold f_Mo_bits at h
  refine xj_iconst (v := 0) D_Mo_bits_0 rfl ?_
  refine xi_istore_n (ls' := [_, _, _]) D_Mo_bits_1 rfl (by decide) ?_
  refine xj_iconst (v := 0) D_Mo_bits_2 rfl ?_
  refine xi_istore_n (ls' := [_, _, _]) D_Mo_bits_3 rfl (by decide) ?_
  exact w_Mo_bits_h4 (by omega)  _ _ _ _ _ h
noncomputable def f_Mo_cost (x1 : Int32) (x2 : Int32) (s : Sg) : Option (Int32 × Sg) :=
  f_ck (zl_B s) <|
  let s2 : Sg := uI s 46 0 0
  f_bd (f_Mo_isPerson x1 s2) fun r3 s4 =>
  if r3 = 0 then
    some ((-1), s4)
  else
    f_ck (zl_B s4) <|
    f_ck (vp_in x1 8) <|
    f_bd (f_Mo_within x2 0 (mI s4 49 (Int32.toNatClampNeg x1)) s4) fun r8 s9 =>
    if r8 = 0 then
      some ((-1), s9)
    else
      f_ck (zl_B s9) <|
      f_ck (vp_in ((4 * x1) + x2) 32) <|
      some ((mI s9 50 (Int32.toNatClampNeg ((4 * x1) + x2))), s9)
theorem w_Mo_cost {x1 : Int32} {x2 : Int32} {s : Sg} {d : Nat} {Q : Option (Option Value) → Sg → Prop} (hd : 2 ≤ d) (h : okx (zq_I Q) (f_Mo_cost x1 x2 s)) : Cw d M_Mo_cost [.ref 46, .int x1, .int x2] s Q := by
  refine Cw.of (by decide +kernel) (Nat.le_of_ble_eq_true rfl) ?_
  show Xw d M_Mo_cost 0 0 0 [.ref 46, .int x1, .int x2] [] s _
  unfold f_Mo_cost at h
  refine xi_aload_n D_Mo_cost_0 rfl ?_
  refine xj_iconst (v := 0) D_Mo_cost_1 rfl ?_
  obtain ⟨g1, h⟩ := okx_ck h
  refine xi_putI D_Mo_cost_2 F_Mo_114 (zl_fo (g1).1 rfl) ⟨rfl, by decide, rfl⟩ (⟨rfl, rfl⟩) ?_
  refine xi_aload_n D_Mo_cost_5 rfl ?_
  refine xi_iload_n D_Mo_cost_6 rfl ?_
  refine xj_V1 D_Mo_cost_7 L_Mo_265 C_Mo_isPerson Z_Mo_isPerson (zl_fo (g1).1 rfl) (Nat.le_of_ble_eq_true rfl) (Nat.le_of_eq (Nat.sub_add_cancel (by omega))) (w_Mo_isPerson (by omega) (okx_mono (okx_bd h) ?_))
  intro r3 s4 h
  show Xw _ _ _ _ 10 _ [_] _ _
  refine xi_if_eq D_Mo_cost_10 (fun c5 => ?_) (fun c5 => ?_)
  · have h := okx_T c5 h
    refine xj_iconst (v := (-1)) D_Mo_cost_40 rfl ?_
    exact xi_ireturn D_Mo_cost_41 rfl (rfl) (okx_I h)
  · have h := okx_F c5 h
    refine xi_iload_n D_Mo_cost_13 rfl ?_
    refine xj_iconst (v := 0) D_Mo_cost_14 rfl ?_
    refine xi_aload_n D_Mo_cost_15 rfl ?_
    obtain ⟨g6, h⟩ := okx_ck h
    refine xi_getR D_Mo_cost_16 F_Mo_17 (zl_fo (g6).1 rfl) ⟨rfl, by decide⟩ (zl_gr (g6).2 rfl rfl) ?_
    refine xi_iload_n D_Mo_cost_19 rfl ?_
    obtain ⟨g7, h⟩ := okx_ck h
    refine xj_iald D_Mo_cost_20 (zl_fx (g6).1 rfl) (zl_ib (n := 8) rfl (g7)) ?_
    refine xj_S3 D_Mo_cost_21 L_Mo_268 C_Mo_within Z_Mo_within (Nat.le_of_ble_eq_true rfl) (Nat.le_of_eq (Nat.sub_add_cancel (by omega))) (w_Mo_within (by omega) (okx_mono (okx_bd h) ?_))
    intro r8 s9 h
    show Xw _ _ _ _ 24 _ [_] _ _
    refine xi_if_eq D_Mo_cost_24 (fun c10 => ?_) (fun c10 => ?_)
    · have h := okx_T c10 h
      refine xj_iconst (v := (-1)) D_Mo_cost_40 rfl ?_
      exact xi_ireturn D_Mo_cost_41 rfl (rfl) (okx_I h)
    · have h := okx_F c10 h
      refine xi_aload_n D_Mo_cost_27 rfl ?_
      obtain ⟨g11, h⟩ := okx_ck h
      refine xi_getR D_Mo_cost_28 F_Mo_20 (zl_fo (g11).1 rfl) ⟨rfl, by decide⟩ (zl_gr (g11).2 rfl rfl) ?_
      refine xj_iconst (v := 4) D_Mo_cost_31 rfl ?_
      refine xi_iload_n D_Mo_cost_32 rfl ?_
      refine xi_imul D_Mo_cost_33 ?_
      refine xi_iload_n D_Mo_cost_34 rfl ?_
      refine xi_iadd D_Mo_cost_35 ?_
      obtain ⟨g12, h⟩ := okx_ck h
      refine xj_iald D_Mo_cost_36 (zl_fx (g11).1 rfl) (zl_ib (n := 32) rfl (g12)) ?_
      refine xi_goto D_Mo_cost_37 ?_
      exact xi_ireturn D_Mo_cost_41 rfl (rfl) (okx_I h)
