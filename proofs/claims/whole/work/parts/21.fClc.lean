/-! by a program of ours (wip/whole/gen/func.py, mkall.py) out of the listing: Wo_scale Wo_forget -/
noncomputable def f_Wo_scale (x1 : Int32) (x2 : Int32) (s : Sg) : Option (Unit × Sg) :=
  f_ck (zl_B s) <|
  let s2 : Sg := uI s 6 6 x1
  let s3 : Sg := uI s2 6 7 x2
  let s4 : Sg := uI s3 6 5 ((mI s3 6 5) + 1)
  some ((), s4)
theorem w_Wo_scale {x1 : Int32} {x2 : Int32} {s : Sg} {d : Nat} {Q : Option (Option Value) → Sg → Prop} (hd : 1 ≤ d) (h : okx (zq_V Q) (f_Wo_scale x1 x2 s)) : Cw d M_Wo_scale [.ref 6, .int x1, .int x2] s Q := by
  refine Cw.of (by decide +kernel) (Nat.le_of_ble_eq_true rfl) ?_
  show Xw d M_Wo_scale 0 0 0 [.ref 6, .int x1, .int x2] [] s _
  unfold f_Wo_scale at h
  refine xi_aload_n D_Wo_scale_0 rfl ?_
  refine xi_iload_n D_Wo_scale_1 rfl ?_
  obtain ⟨g1, h⟩ := okx_ck h
  refine xi_putI D_Wo_scale_2 F_Wo_37 (zl_fo (g1).1 rfl) ⟨rfl, by decide, rfl⟩ (⟨rfl, rfl⟩) ?_
  refine xi_aload_n D_Wo_scale_5 rfl ?_
  refine xi_iload_n D_Wo_scale_6 rfl ?_
  refine xi_putI D_Wo_scale_7 F_Wo_40 (zl_fo (g1).1 rfl) ⟨rfl, by decide, rfl⟩ (⟨rfl, rfl⟩) ?_
  refine xi_aload_n D_Wo_scale_10 rfl ?_
  refine xi_dupr D_Wo_scale_11 ?_
  refine xi_getI D_Wo_scale_12 F_Wo_33 (zl_fo (g1).1 rfl) ⟨rfl, by decide⟩ ?_
  refine xj_iconst (v := 1) D_Wo_scale_15 rfl ?_
  refine xi_iadd D_Wo_scale_16 ?_
  refine xi_putI D_Wo_scale_17 F_Wo_33 (zl_fo (g1).1 rfl) ⟨rfl, by decide, rfl⟩ (⟨rfl, rfl⟩) ?_
  exact xi_return D_Wo_scale_20 rfl (okx_V h)
noncomputable def f_Wo_forget  (s : Sg) : Option (Unit × Sg) :=
  f_ck (zl_B s) <|
  let s2 : Sg := uI s 6 5 ((mI s 6 5) + 1)
  some ((), s2)
theorem w_Wo_forget {s : Sg} {d : Nat} {Q : Option (Option Value) → Sg → Prop} (hd : 1 ≤ d) (h : okx (zq_V Q) (f_Wo_forget  s)) : Cw d M_Wo_forget [.ref 6] s Q := by
  refine Cw.of (by decide +kernel) (Nat.le_of_ble_eq_true rfl) ?_
  show Xw d M_Wo_forget 0 0 0 [.ref 6] [] s _
  unfold f_Wo_forget at h
  refine xi_aload_n D_Wo_forget_0 rfl ?_
  refine xi_dupr D_Wo_forget_1 ?_
  obtain ⟨g1, h⟩ := okx_ck h
  refine xi_getI D_Wo_forget_2 F_Wo_33 (zl_fo (g1).1 rfl) ⟨rfl, by decide⟩ ?_
  refine xj_iconst (v := 1) D_Wo_forget_5 rfl ?_
  refine xi_iadd D_Wo_forget_6 ?_
  refine xi_putI D_Wo_forget_7 F_Wo_33 (zl_fo (g1).1 rfl) ⟨rfl, by decide, rfl⟩ (⟨rfl, rfl⟩) ?_
  exact xi_return D_Wo_forget_10 rfl (okx_V h)
