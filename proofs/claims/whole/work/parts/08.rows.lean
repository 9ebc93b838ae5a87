def Dc (M : MD) (pc : Nat) (i : Instr) (n pc' : Nat) : Prop := decode M.2.1 pc = .ok (i, n) ∧ pc + n = pc'
def Dj (M : MD) (pc : Nat) (i : Instr) (off : Int) (n pc' tgt : Nat) : Prop := decode M.2.1 pc = .ok (i, n) ∧ pc + n = pc' ∧ (pc : Int) + off = (tgt : Int)
section
variable {d : Nat} {M : MD} {mc ms pc pc' tgt : Nat} {ls ls' r : List Value} {s : Sg} {Q : Option (Option Value) → Sg → Prop}
theorem xi_iconst {n : Int} (hd : Dc M pc (.iconst n) 1 pc') (k : Xw d M mc ms pc' ls (.int (Int32.ofInt n) :: r) s Q) : Xw d M mc ms pc ls (r) s Q := by
  obtain ⟨hd, rfl⟩ := hd
  intro w ρ0 s0 p l e R st m args below meth c H locs cells slots Qr ρ lr S E Dy
  obtain ⟨D0, hb, hL, hw, hs⟩ := Dy
  exact lv_iconst S.1 S.2.1 hd rfl (k w ρ0 s0 p l e R st m args below meth c H locs cells slots Qr ρ lr S E ⟨D0, hb, hL, hw, zl_wi hs⟩)
theorem xi_bipush {n : Int} {v : Int32} (hd : Dc M pc (.bipush n) 2 pc') (hv : (Int8.ofInt n).toInt32 = v) (k : Xw d M mc ms pc' ls (.int v :: r) s Q) : Xw d M mc ms pc ls (r) s Q := by
  obtain ⟨hd, rfl⟩ := hd
  intro w ρ0 s0 p l e R st m args below meth c H locs cells slots Qr ρ lr S E Dy
  obtain ⟨D0, hb, hL, hw, hs⟩ := Dy
  exact lv_bipush S.1 S.2.1 hd hv (k w ρ0 s0 p l e R st m args below meth c H locs cells slots Qr ρ lr S E ⟨D0, hb, hL, hw, zl_wi hs⟩)
theorem xi_sipush {n : Int} {v : Int32} (hd : Dc M pc (.sipush n) 3 pc') (hv : (Int16.ofInt n).toInt32 = v) (k : Xw d M mc ms pc' ls (.int v :: r) s Q) : Xw d M mc ms pc ls (r) s Q := by
  obtain ⟨hd, rfl⟩ := hd
  intro w ρ0 s0 p l e R st m args below meth c H locs cells slots Qr ρ lr S E Dy
  obtain ⟨D0, hb, hL, hw, hs⟩ := Dy
  exact lv_sipush S.1 S.2.1 hd hv (k w ρ0 s0 p l e R st m args below meth c H locs cells slots Qr ρ lr S E ⟨D0, hb, hL, hw, zl_wi hs⟩)
theorem xi_lconst {n : Fin 2} (hd : Dc M pc (.lconst n) 1 pc') (k : Xw d M mc ms pc' ls (.long (Int64.ofNat (n : Nat)) :: r) s Q) : Xw d M mc ms pc ls (r) s Q := by
  obtain ⟨hd, rfl⟩ := hd
  intro w ρ0 s0 p l e R st m args below meth c H locs cells slots Qr ρ lr S E Dy
  obtain ⟨D0, hb, hL, hw, hs⟩ := Dy
  exact lv_lconst S.1 S.2.1 hd rfl (k w ρ0 s0 p l e R st m args below meth c H locs cells slots Qr ρ lr S E ⟨D0, hb, hL, hw, zl_wl hs⟩)
theorem xi_ldc {i : Nat} {v : Int32} (hd : Dc M pc (.ldc i) 2 pc') (hc : Cond.constant M.1.cls i v ∈ zn_G) (k : Xw d M mc ms pc' ls (.int v :: r) s Q) : Xw d M mc ms pc ls (r) s Q := by
  obtain ⟨hd, rfl⟩ := hd
  intro w ρ0 s0 p l e R st m args below meth c H locs cells slots Qr ρ lr S E Dy
  obtain ⟨D0, hb, hL, hw, hs⟩ := Dy
  exact lv_ldc S.1 S.2.1 S.2.2.2.2.1 (S.2.2.2.2.2.1 _ hc) hd (k w ρ0 s0 p l e R st m args below meth c H locs cells slots Qr ρ lr S E ⟨D0, hb, hL, hw, zl_wi hs⟩)
theorem xi_ldcw {i : Nat} {v : Int32} (hd : Dc M pc (.ldc_w i) 3 pc') (hc : Cond.constant M.1.cls i v ∈ zn_G) (k : Xw d M mc ms pc' ls (.int v :: r) s Q) : Xw d M mc ms pc ls (r) s Q := by
  obtain ⟨hd, rfl⟩ := hd
  intro w ρ0 s0 p l e R st m args below meth c H locs cells slots Qr ρ lr S E Dy
  obtain ⟨D0, hb, hL, hw, hs⟩ := Dy
  exact lv_ldcw S.1 S.2.1 S.2.2.2.2.1 (S.2.2.2.2.2.1 _ hc) hd (k w ρ0 s0 p l e R st m args below meth c H locs cells slots Qr ρ lr S E ⟨D0, hb, hL, hw, zl_wi hs⟩)
theorem xi_ldc2 {i : Nat} {v : Int64} (hd : Dc M pc (.ldc2_w i) 3 pc') (hc : Cond.constantLong M.1.cls i v ∈ zn_G) (k : Xw d M mc ms pc' ls (.long v :: r) s Q) : Xw d M mc ms pc ls (r) s Q := by
  obtain ⟨hd, rfl⟩ := hd
  intro w ρ0 s0 p l e R st m args below meth c H locs cells slots Qr ρ lr S E Dy
  obtain ⟨D0, hb, hL, hw, hs⟩ := Dy
  exact lv_ldc2 S.1 S.2.1 S.2.2.2.2.1 (S.2.2.2.2.2.1 _ hc) hd (k w ρ0 s0 p l e R st m args below meth c H locs cells slots Qr ρ lr S E ⟨D0, hb, hL, hw, zl_wl hs⟩)
theorem xi_iload_n {k : Fin 4} {x : Int32} (hd : Dc M pc (.iload_n k) 1 pc') (hl : ls[(k : Nat)]? = some (.int x)) (kk : Xw d M mc ms pc' ls (.int x :: r) s Q) : Xw d M mc ms pc ls (r) s Q := by
  obtain ⟨hd, rfl⟩ := hd
  intro w ρ0 s0 p l e R st m args below meth c H locs cells slots Qr ρ lr S E Dy
  obtain ⟨D0, hb, hL, hw, hs⟩ := Dy
  have hl9 : lr[(k : Nat)]? = some (.val (.int x)) := hL.2.2.2 _ _ hl (fun h => by cases h)
  exact lv_iload_n S.1 S.2.1 hd rfl hl9 (kk w ρ0 s0 p l e R st m args below meth c H locs cells slots Qr ρ lr S E ⟨D0, hb, hL, hw, zl_wi hs⟩)
theorem xi_iload {i : Nat} {x : Int32} (hd : Dc M pc (.iload i) 2 pc') (hl : ls[i]? = some (.int x)) (k : Xw d M mc ms pc' ls (.int x :: r) s Q) : Xw d M mc ms pc ls (r) s Q := by
  obtain ⟨hd, rfl⟩ := hd
  intro w ρ0 s0 p l e R st m args below meth c H locs cells slots Qr ρ lr S E Dy
  obtain ⟨D0, hb, hL, hw, hs⟩ := Dy
  have hl9 : lr[i]? = some (.val (.int x)) := hL.2.2.2 _ _ hl (fun h => by cases h)
  exact lv_iload S.1 S.2.1 hd hl9 (k w ρ0 s0 p l e R st m args below meth c H locs cells slots Qr ρ lr S E ⟨D0, hb, hL, hw, zl_wi hs⟩)
theorem xi_lload_n {k : Fin 4} {x : Int64} (hd : Dc M pc (.lload_n k) 1 pc') (hl : ls[(k : Nat)]? = some (.long x)) (kk : Xw d M mc ms pc' ls (.long x :: r) s Q) : Xw d M mc ms pc ls (r) s Q := by
  obtain ⟨hd, rfl⟩ := hd
  intro w ρ0 s0 p l e R st m args below meth c H locs cells slots Qr ρ lr S E Dy
  obtain ⟨D0, hb, hL, hw, hs⟩ := Dy
  have hl9 : lr[(k : Nat)]? = some (.val (.long x)) := hL.2.2.2 _ _ hl (fun h => by cases h)
  exact lv_lload_n S.1 S.2.1 hd rfl hl9 (kk w ρ0 s0 p l e R st m args below meth c H locs cells slots Qr ρ lr S E ⟨D0, hb, hL, hw, zl_wl hs⟩)
theorem xi_lload {i : Nat} {x : Int64} (hd : Dc M pc (.lload i) 2 pc') (hl : ls[i]? = some (.long x)) (k : Xw d M mc ms pc' ls (.long x :: r) s Q) : Xw d M mc ms pc ls (r) s Q := by
  obtain ⟨hd, rfl⟩ := hd
  intro w ρ0 s0 p l e R st m args below meth c H locs cells slots Qr ρ lr S E Dy
  obtain ⟨D0, hb, hL, hw, hs⟩ := Dy
  have hl9 : lr[i]? = some (.val (.long x)) := hL.2.2.2 _ _ hl (fun h => by cases h)
  exact lv_lload S.1 S.2.1 hd hl9 (k w ρ0 s0 p l e R st m args below meth c H locs cells slots Qr ρ lr S E ⟨D0, hb, hL, hw, zl_wl hs⟩)
theorem xi_aload_n {k : Fin 4} {x : Nat} (hd : Dc M pc (.aload_n k) 1 pc') (hl : ls[(k : Nat)]? = some (.ref x)) (kk : Xw d M mc ms pc' ls (.ref x :: r) s Q) : Xw d M mc ms pc ls (r) s Q := by
  obtain ⟨hd, rfl⟩ := hd
  intro w ρ0 s0 p l e R st m args below meth c H locs cells slots Qr ρ lr S E Dy
  obtain ⟨D0, hb, hL, hw, hs⟩ := Dy
  have hl9 : lr[(k : Nat)]? = some (.val (.ref (ρ x))) := hL.2.2.2 _ _ hl (fun h => by cases h)
  exact lv_aload_n S.1 S.2.1 hd rfl hl9 (kk w ρ0 s0 p l e R st m args below meth c H locs cells slots Qr ρ lr S E ⟨D0, hb, hL, hw, zl_wc (hw _ (List.mem_of_getElem? hl)) hs⟩)
theorem xi_aload {i : Nat} {x : Nat} (hd : Dc M pc (.aload i) 2 pc') (hl : ls[i]? = some (.ref x)) (k : Xw d M mc ms pc' ls (.ref x :: r) s Q) : Xw d M mc ms pc ls (r) s Q := by
  obtain ⟨hd, rfl⟩ := hd
  intro w ρ0 s0 p l e R st m args below meth c H locs cells slots Qr ρ lr S E Dy
  obtain ⟨D0, hb, hL, hw, hs⟩ := Dy
  have hl9 : lr[i]? = some (.val (.ref (ρ x))) := hL.2.2.2 _ _ hl (fun h => by cases h)
  exact lv_aload S.1 S.2.1 hd hl9 (k w ρ0 s0 p l e R st m args below meth c H locs cells slots Qr ρ lr S E ⟨D0, hb, hL, hw, zl_wc (hw _ (List.mem_of_getElem? hl)) hs⟩)
theorem xi_istore_n {k : Fin 4} {x : Int32} (hd : Dc M pc (.istore_n k) 1 pc') (hs9 : zl_s1 ls (k : Nat) (.int x) = ls') (hi : (k : Nat) < M.2.2.1) (kk : Xw d M mc ms pc' ls' (r) s Q) : Xw d M mc ms pc ls (.int x :: r) s Q := by
  obtain ⟨hd, rfl⟩ := hd
  subst hs9
  intro w ρ0 s0 p l e R st m args below meth c H locs cells slots Qr ρ lr S E Dy
  obtain ⟨D0, hb, hL, hw, hs⟩ := Dy
  exact lv_istore_n S.1 S.2.1 hd rfl hL.has hi rfl (fun lr9 h9 => kk w ρ0 s0 p l e R st m args below meth c H locs cells slots Qr ρ lr9 S E ⟨D0, hb, zl_st1 hL hi h9, zl_s1_wf hw (zl_wh hs), zl_wt hs⟩)
theorem xi_istore {i : Nat} {x : Int32} (hd : Dc M pc (.istore i) 2 pc') (hs9 : zl_s1 ls i (.int x) = ls') (hi : i < M.2.2.1) (kk : Xw d M mc ms pc' ls' (r) s Q) : Xw d M mc ms pc ls (.int x :: r) s Q := by
  obtain ⟨hd, rfl⟩ := hd
  subst hs9
  intro w ρ0 s0 p l e R st m args below meth c H locs cells slots Qr ρ lr S E Dy
  obtain ⟨D0, hb, hL, hw, hs⟩ := Dy
  exact lv_istore S.1 S.2.1 hd hL.has hi rfl (fun lr9 h9 => kk w ρ0 s0 p l e R st m args below meth c H locs cells slots Qr ρ lr9 S E ⟨D0, hb, zl_st1 hL hi h9, zl_s1_wf hw (zl_wh hs), zl_wt hs⟩)
theorem xi_lstore_n {k : Fin 4} {x : Int64} (hd : Dc M pc (.lstore_n k) 1 pc') (hs9 : zl_s2 ls (k : Nat) (.long x) = ls') (hi : (k : Nat) + 1 < M.2.2.1) (kk : Xw d M mc ms pc' ls' (r) s Q) : Xw d M mc ms pc ls (.long x :: r) s Q := by
  obtain ⟨hd, rfl⟩ := hd
  subst hs9
  intro w ρ0 s0 p l e R st m args below meth c H locs cells slots Qr ρ lr S E Dy
  obtain ⟨D0, hb, hL, hw, hs⟩ := Dy
  exact lv_lstore_n S.1 S.2.1 hd rfl hL.has hi rfl (fun lr9 h9 => kk w ρ0 s0 p l e R st m args below meth c H locs cells slots Qr ρ lr9 S E ⟨D0, hb, zl_st2 hL hi h9, zl_s2_wf hw (zl_wh hs), zl_wt hs⟩)
theorem xi_lstore {i : Nat} {x : Int64} (hd : Dc M pc (.lstore i) 2 pc') (hs9 : zl_s2 ls i (.long x) = ls') (hi : i + 1 < M.2.2.1) (kk : Xw d M mc ms pc' ls' (r) s Q) : Xw d M mc ms pc ls (.long x :: r) s Q := by
  obtain ⟨hd, rfl⟩ := hd
  subst hs9
  intro w ρ0 s0 p l e R st m args below meth c H locs cells slots Qr ρ lr S E Dy
  obtain ⟨D0, hb, hL, hw, hs⟩ := Dy
  exact lv_lstore S.1 S.2.1 hd hL.has hi rfl (fun lr9 h9 => kk w ρ0 s0 p l e R st m args below meth c H locs cells slots Qr ρ lr9 S E ⟨D0, hb, zl_st2 hL hi h9, zl_s2_wf hw (zl_wh hs), zl_wt hs⟩)
theorem xi_astore_n {k : Fin 4} {x : Nat} (hd : Dc M pc (.astore_n k) 1 pc') (hs9 : zl_s1 ls (k : Nat) (.ref x) = ls') (hi : (k : Nat) < M.2.2.1) (kk : Xw d M mc ms pc' ls' (r) s Q) : Xw d M mc ms pc ls (.ref x :: r) s Q := by
  obtain ⟨hd, rfl⟩ := hd
  subst hs9
  intro w ρ0 s0 p l e R st m args below meth c H locs cells slots Qr ρ lr S E Dy
  obtain ⟨D0, hb, hL, hw, hs⟩ := Dy
  exact lv_astore_n S.1 S.2.1 hd rfl hL.has hi rfl (fun lr9 h9 => kk w ρ0 s0 p l e R st m args below meth c H locs cells slots Qr ρ lr9 S E ⟨D0, hb, zl_st1 hL hi h9, zl_s1_wf hw (zl_wh hs), zl_wt hs⟩)
theorem xi_astore {i : Nat} {x : Nat} (hd : Dc M pc (.astore i) 2 pc') (hs9 : zl_s1 ls i (.ref x) = ls') (hi : i < M.2.2.1) (kk : Xw d M mc ms pc' ls' (r) s Q) : Xw d M mc ms pc ls (.ref x :: r) s Q := by
  obtain ⟨hd, rfl⟩ := hd
  subst hs9
  intro w ρ0 s0 p l e R st m args below meth c H locs cells slots Qr ρ lr S E Dy
  obtain ⟨D0, hb, hL, hw, hs⟩ := Dy
  exact lv_astore S.1 S.2.1 hd hL.has hi rfl (fun lr9 h9 => kk w ρ0 s0 p l e R st m args below meth c H locs cells slots Qr ρ lr9 S E ⟨D0, hb, zl_st1 hL hi h9, zl_s1_wf hw (zl_wh hs), zl_wt hs⟩)
theorem zl_has_mono {l : Array Slot} {n : Nat} {a b : List (Nat × Value)} (h : lv_has l n a) (hb : ∀ q ∈ b, q ∈ a) : lv_has l n b := ⟨h.1, h.2.1, fun q hq => h.2.2 q (hb q hq)⟩
theorem xi_iinc {i : Nat} {n : Int} {x v : Int32} (hd : Dc M pc (.iinc i n) 3 pc') (hl : ls[i]? = some (.int x)) (hv : x + Int32.ofInt n = v) (hs9 : zl_s1 ls i (.int v) = ls') (hi : i < M.2.2.1) (kk : Xw d M mc ms pc' ls' r s Q) : Xw d M mc ms pc ls r s Q := by
  obtain ⟨hd, rfl⟩ := hd
  subst hs9
  intro w ρ0 s0 p l e R st m args below meth c H locs cells slots Qr ρ lr S E Dy
  obtain ⟨D0, hb, hL, hw, hs⟩ := Dy
  have hx : lv_has lr M.2.2.1 ((i, .int x) :: zl_lp ρ 0 ls) := ⟨hL.1, hL.2.1, fun q hq => (List.mem_cons.mp hq).elim (fun e => by rw [e]; exact hL.2.2.2 i _ hl (fun h => by cases h)) (hL.has.2.2 q)⟩
  refine lv_iinc S.1 S.2.1 hd hx (k := 0) rfl hv hi rfl (fun lr9 h9 => kk w ρ0 s0 p l e R st m args below meth c H locs cells slots Qr ρ lr9 S E ⟨D0, hb, zl_st1 hL hi (zl_has_mono h9 (fun q hq => ?_)), zl_s1_wf hw trivial, hs⟩)
  rcases List.mem_cons.mp hq with rfl | hq
  · exact List.mem_cons_self
  · exact List.mem_cons_of_mem _ (List.mem_filter.mpr ⟨List.mem_cons_of_mem _ (List.mem_filter.mp hq).1, (List.mem_filter.mp hq).2⟩)
theorem xi_iadd {x y : Int32} (hd : Dc M pc .iadd 1 pc') (k : Xw d M mc ms pc' ls (.int (x + y) :: r) s Q) : Xw d M mc ms pc ls (.int y :: .int x :: r) s Q := by
  obtain ⟨hd, rfl⟩ := hd
  intro w ρ0 s0 p l e R st m args below meth c H locs cells slots Qr ρ lr S E Dy
  obtain ⟨D0, hb, hL, hw, hs⟩ := Dy
  exact lv_iadd S.1 S.2.1 hd (k w ρ0 s0 p l e R st m args below meth c H locs cells slots Qr ρ lr S E ⟨D0, hb, hL, hw, zl_wi (zl_wt (zl_wt hs))⟩)
theorem xi_isub {x y : Int32} (hd : Dc M pc .isub 1 pc') (k : Xw d M mc ms pc' ls (.int (x - y) :: r) s Q) : Xw d M mc ms pc ls (.int y :: .int x :: r) s Q := by
  obtain ⟨hd, rfl⟩ := hd
  intro w ρ0 s0 p l e R st m args below meth c H locs cells slots Qr ρ lr S E Dy
  obtain ⟨D0, hb, hL, hw, hs⟩ := Dy
  exact lv_isub S.1 S.2.1 hd (k w ρ0 s0 p l e R st m args below meth c H locs cells slots Qr ρ lr S E ⟨D0, hb, hL, hw, zl_wi (zl_wt (zl_wt hs))⟩)
theorem xi_imul {x y : Int32} (hd : Dc M pc .imul 1 pc') (k : Xw d M mc ms pc' ls (.int (x * y) :: r) s Q) : Xw d M mc ms pc ls (.int y :: .int x :: r) s Q := by
  obtain ⟨hd, rfl⟩ := hd
  intro w ρ0 s0 p l e R st m args below meth c H locs cells slots Qr ρ lr S E Dy
  obtain ⟨D0, hb, hL, hw, hs⟩ := Dy
  exact lv_imul S.1 S.2.1 hd (k w ρ0 s0 p l e R st m args below meth c H locs cells slots Qr ρ lr S E ⟨D0, hb, hL, hw, zl_wi (zl_wt (zl_wt hs))⟩)
theorem xi_iand {x y : Int32} (hd : Dc M pc .iand 1 pc') (k : Xw d M mc ms pc' ls (.int (x &&& y) :: r) s Q) : Xw d M mc ms pc ls (.int y :: .int x :: r) s Q := by
  obtain ⟨hd, rfl⟩ := hd
  intro w ρ0 s0 p l e R st m args below meth c H locs cells slots Qr ρ lr S E Dy
  obtain ⟨D0, hb, hL, hw, hs⟩ := Dy
  exact lv_iand S.1 S.2.1 hd (k w ρ0 s0 p l e R st m args below meth c H locs cells slots Qr ρ lr S E ⟨D0, hb, hL, hw, zl_wi (zl_wt (zl_wt hs))⟩)
theorem xi_ior {x y : Int32} (hd : Dc M pc .ior 1 pc') (k : Xw d M mc ms pc' ls (.int (x ||| y) :: r) s Q) : Xw d M mc ms pc ls (.int y :: .int x :: r) s Q := by
  obtain ⟨hd, rfl⟩ := hd
  intro w ρ0 s0 p l e R st m args below meth c H locs cells slots Qr ρ lr S E Dy
  obtain ⟨D0, hb, hL, hw, hs⟩ := Dy
  exact lv_ior S.1 S.2.1 hd (k w ρ0 s0 p l e R st m args below meth c H locs cells slots Qr ρ lr S E ⟨D0, hb, hL, hw, zl_wi (zl_wt (zl_wt hs))⟩)
theorem xi_ixor {x y : Int32} (hd : Dc M pc .ixor 1 pc') (k : Xw d M mc ms pc' ls (.int (x ^^^ y) :: r) s Q) : Xw d M mc ms pc ls (.int y :: .int x :: r) s Q := by
  obtain ⟨hd, rfl⟩ := hd
  intro w ρ0 s0 p l e R st m args below meth c H locs cells slots Qr ρ lr S E Dy
  obtain ⟨D0, hb, hL, hw, hs⟩ := Dy
  exact lv_ixor S.1 S.2.1 hd (k w ρ0 s0 p l e R st m args below meth c H locs cells slots Qr ρ lr S E ⟨D0, hb, hL, hw, zl_wi (zl_wt (zl_wt hs))⟩)
theorem xi_ishl {x y : Int32} (hd : Dc M pc .ishl 1 pc') (k : Xw d M mc ms pc' ls (.int (x <<< (y &&& 31)) :: r) s Q) : Xw d M mc ms pc ls (.int y :: .int x :: r) s Q := by
  obtain ⟨hd, rfl⟩ := hd
  intro w ρ0 s0 p l e R st m args below meth c H locs cells slots Qr ρ lr S E Dy
  obtain ⟨D0, hb, hL, hw, hs⟩ := Dy
  exact lv_ishl S.1 S.2.1 hd (k w ρ0 s0 p l e R st m args below meth c H locs cells slots Qr ρ lr S E ⟨D0, hb, hL, hw, zl_wi (zl_wt (zl_wt hs))⟩)
theorem xi_ishr {x y : Int32} (hd : Dc M pc .ishr 1 pc') (k : Xw d M mc ms pc' ls (.int (x >>> (y &&& 31)) :: r) s Q) : Xw d M mc ms pc ls (.int y :: .int x :: r) s Q := by
  obtain ⟨hd, rfl⟩ := hd
  intro w ρ0 s0 p l e R st m args below meth c H locs cells slots Qr ρ lr S E Dy
  obtain ⟨D0, hb, hL, hw, hs⟩ := Dy
  exact lv_ishr S.1 S.2.1 hd (k w ρ0 s0 p l e R st m args below meth c H locs cells slots Qr ρ lr S E ⟨D0, hb, hL, hw, zl_wi (zl_wt (zl_wt hs))⟩)
theorem xi_idiv {x y : Int32} (hd : Dc M pc .idiv 1 pc') (hne : ¬ y = 0) (k : Xw d M mc ms pc' ls (.int (x / y) :: r) s Q) : Xw d M mc ms pc ls (.int y :: .int x :: r) s Q := by
  obtain ⟨hd, rfl⟩ := hd
  intro w ρ0 s0 p l e R st m args below meth c H locs cells slots Qr ρ lr S E Dy
  obtain ⟨D0, hb, hL, hw, hs⟩ := Dy
  exact lv_idiv S.1 S.2.1 hd hne (k w ρ0 s0 p l e R st m args below meth c H locs cells slots Qr ρ lr S E ⟨D0, hb, hL, hw, zl_wi (zl_wt (zl_wt hs))⟩)
theorem xi_irem {x y : Int32} (hd : Dc M pc .irem 1 pc') (hne : ¬ y = 0) (k : Xw d M mc ms pc' ls (.int (x - x / y * y) :: r) s Q) : Xw d M mc ms pc ls (.int y :: .int x :: r) s Q := by
  obtain ⟨hd, rfl⟩ := hd
  intro w ρ0 s0 p l e R st m args below meth c H locs cells slots Qr ρ lr S E Dy
  obtain ⟨D0, hb, hL, hw, hs⟩ := Dy
  exact lv_irem S.1 S.2.1 hd hne (k w ρ0 s0 p l e R st m args below meth c H locs cells slots Qr ρ lr S E ⟨D0, hb, hL, hw, zl_wi (zl_wt (zl_wt hs))⟩)
theorem xi_ineg {x : Int32} (hd : Dc M pc .ineg 1 pc') (k : Xw d M mc ms pc' ls (.int (-x) :: r) s Q) : Xw d M mc ms pc ls (.int x :: r) s Q := by
  obtain ⟨hd, rfl⟩ := hd
  intro w ρ0 s0 p l e R st m args below meth c H locs cells slots Qr ρ lr S E Dy
  obtain ⟨D0, hb, hL, hw, hs⟩ := Dy
  exact lv_ineg S.1 S.2.1 hd (k w ρ0 s0 p l e R st m args below meth c H locs cells slots Qr ρ lr S E ⟨D0, hb, hL, hw, zl_wi (zl_wt hs)⟩)
theorem xi_iushr {x y : Int32} (hd : Dc M pc .iushr 1 pc') (k : Xw d M mc ms pc' ls (.int ((x.toUInt32 >>> (y.toUInt32 &&& Int32.toUInt32 31)).toInt32) :: r) s Q) : Xw d M mc ms pc ls (.int y :: .int x :: r) s Q := by
  obtain ⟨hd, rfl⟩ := hd
  intro w ρ0 s0 p l e R st m args below meth c H locs cells slots Qr ρ lr S E Dy
  obtain ⟨D0, hb, hL, hw, hs⟩ := Dy
  exact lv_iushr S.1 S.2.1 hd rfl (k w ρ0 s0 p l e R st m args below meth c H locs cells slots Qr ρ lr S E ⟨D0, hb, hL, hw, zl_wi (zl_wt (zl_wt hs))⟩)
theorem xi_ladd {x y : Int64} (hd : Dc M pc .ladd 1 pc') (k : Xw d M mc ms pc' ls (.long (x + y) :: r) s Q) : Xw d M mc ms pc ls (.long y :: .long x :: r) s Q := by
  obtain ⟨hd, rfl⟩ := hd
  intro w ρ0 s0 p l e R st m args below meth c H locs cells slots Qr ρ lr S E Dy
  obtain ⟨D0, hb, hL, hw, hs⟩ := Dy
  exact lv_ladd S.1 S.2.1 hd (k w ρ0 s0 p l e R st m args below meth c H locs cells slots Qr ρ lr S E ⟨D0, hb, hL, hw, zl_wl (zl_wt (zl_wt hs))⟩)
theorem xi_lsub {x y : Int64} (hd : Dc M pc .lsub 1 pc') (k : Xw d M mc ms pc' ls (.long (x - y) :: r) s Q) : Xw d M mc ms pc ls (.long y :: .long x :: r) s Q := by
  obtain ⟨hd, rfl⟩ := hd
  intro w ρ0 s0 p l e R st m args below meth c H locs cells slots Qr ρ lr S E Dy
  obtain ⟨D0, hb, hL, hw, hs⟩ := Dy
  exact lv_lsub S.1 S.2.1 hd (k w ρ0 s0 p l e R st m args below meth c H locs cells slots Qr ρ lr S E ⟨D0, hb, hL, hw, zl_wl (zl_wt (zl_wt hs))⟩)
theorem xi_lmul {x y : Int64} (hd : Dc M pc .lmul 1 pc') (k : Xw d M mc ms pc' ls (.long (x * y) :: r) s Q) : Xw d M mc ms pc ls (.long y :: .long x :: r) s Q := by
  obtain ⟨hd, rfl⟩ := hd
  intro w ρ0 s0 p l e R st m args below meth c H locs cells slots Qr ρ lr S E Dy
  obtain ⟨D0, hb, hL, hw, hs⟩ := Dy
  exact lv_lmul S.1 S.2.1 hd (k w ρ0 s0 p l e R st m args below meth c H locs cells slots Qr ρ lr S E ⟨D0, hb, hL, hw, zl_wl (zl_wt (zl_wt hs))⟩)
theorem xi_land {x y : Int64} (hd : Dc M pc .land 1 pc') (k : Xw d M mc ms pc' ls (.long (x &&& y) :: r) s Q) : Xw d M mc ms pc ls (.long y :: .long x :: r) s Q := by
  obtain ⟨hd, rfl⟩ := hd
  intro w ρ0 s0 p l e R st m args below meth c H locs cells slots Qr ρ lr S E Dy
  obtain ⟨D0, hb, hL, hw, hs⟩ := Dy
  exact lv_land S.1 S.2.1 hd (k w ρ0 s0 p l e R st m args below meth c H locs cells slots Qr ρ lr S E ⟨D0, hb, hL, hw, zl_wl (zl_wt (zl_wt hs))⟩)
theorem xi_lor {x y : Int64} (hd : Dc M pc .lor 1 pc') (k : Xw d M mc ms pc' ls (.long (x ||| y) :: r) s Q) : Xw d M mc ms pc ls (.long y :: .long x :: r) s Q := by
  obtain ⟨hd, rfl⟩ := hd
  intro w ρ0 s0 p l e R st m args below meth c H locs cells slots Qr ρ lr S E Dy
  obtain ⟨D0, hb, hL, hw, hs⟩ := Dy
  exact lv_lor S.1 S.2.1 hd (k w ρ0 s0 p l e R st m args below meth c H locs cells slots Qr ρ lr S E ⟨D0, hb, hL, hw, zl_wl (zl_wt (zl_wt hs))⟩)
theorem xi_lxor {x y : Int64} (hd : Dc M pc .lxor 1 pc') (k : Xw d M mc ms pc' ls (.long (x ^^^ y) :: r) s Q) : Xw d M mc ms pc ls (.long y :: .long x :: r) s Q := by
  obtain ⟨hd, rfl⟩ := hd
  intro w ρ0 s0 p l e R st m args below meth c H locs cells slots Qr ρ lr S E Dy
  obtain ⟨D0, hb, hL, hw, hs⟩ := Dy
  exact lv_lxor S.1 S.2.1 hd (k w ρ0 s0 p l e R st m args below meth c H locs cells slots Qr ρ lr S E ⟨D0, hb, hL, hw, zl_wl (zl_wt (zl_wt hs))⟩)
theorem xi_ldiv {x y : Int64} (hd : Dc M pc .ldiv 1 pc') (hne : ¬ y = 0) (k : Xw d M mc ms pc' ls (.long (x / y) :: r) s Q) : Xw d M mc ms pc ls (.long y :: .long x :: r) s Q := by
  obtain ⟨hd, rfl⟩ := hd
  intro w ρ0 s0 p l e R st m args below meth c H locs cells slots Qr ρ lr S E Dy
  obtain ⟨D0, hb, hL, hw, hs⟩ := Dy
  exact lv_ldiv S.1 S.2.1 hd hne (k w ρ0 s0 p l e R st m args below meth c H locs cells slots Qr ρ lr S E ⟨D0, hb, hL, hw, zl_wl (zl_wt (zl_wt hs))⟩)
theorem xi_lrem {x y : Int64} (hd : Dc M pc .lrem 1 pc') (hne : ¬ y = 0) (k : Xw d M mc ms pc' ls (.long (x - x / y * y) :: r) s Q) : Xw d M mc ms pc ls (.long y :: .long x :: r) s Q := by
  obtain ⟨hd, rfl⟩ := hd
  intro w ρ0 s0 p l e R st m args below meth c H locs cells slots Qr ρ lr S E Dy
  obtain ⟨D0, hb, hL, hw, hs⟩ := Dy
  exact lv_lrem S.1 S.2.1 hd hne (k w ρ0 s0 p l e R st m args below meth c H locs cells slots Qr ρ lr S E ⟨D0, hb, hL, hw, zl_wl (zl_wt (zl_wt hs))⟩)
theorem xi_lneg {x : Int64} (hd : Dc M pc .lneg 1 pc') (k : Xw d M mc ms pc' ls (.long (-x) :: r) s Q) : Xw d M mc ms pc ls (.long x :: r) s Q := by
  obtain ⟨hd, rfl⟩ := hd
  intro w ρ0 s0 p l e R st m args below meth c H locs cells slots Qr ρ lr S E Dy
  obtain ⟨D0, hb, hL, hw, hs⟩ := Dy
  exact lv_lneg S.1 S.2.1 hd (k w ρ0 s0 p l e R st m args below meth c H locs cells slots Qr ρ lr S E ⟨D0, hb, hL, hw, zl_wl (zl_wt hs)⟩)
theorem xi_lshl {x : Int64} {y : Int32} (hd : Dc M pc .lshl 1 pc') (k : Xw d M mc ms pc' ls (.long (x <<< (y.toInt64 &&& 63)) :: r) s Q) : Xw d M mc ms pc ls (.int y :: .long x :: r) s Q := by
  obtain ⟨hd, rfl⟩ := hd
  intro w ρ0 s0 p l e R st m args below meth c H locs cells slots Qr ρ lr S E Dy
  obtain ⟨D0, hb, hL, hw, hs⟩ := Dy
  exact lv_lshl S.1 S.2.1 hd rfl (k w ρ0 s0 p l e R st m args below meth c H locs cells slots Qr ρ lr S E ⟨D0, hb, hL, hw, zl_wl (zl_wt (zl_wt hs))⟩)
theorem xi_lshr {x : Int64} {y : Int32} (hd : Dc M pc .lshr 1 pc') (k : Xw d M mc ms pc' ls (.long (x >>> (y.toInt64 &&& 63)) :: r) s Q) : Xw d M mc ms pc ls (.int y :: .long x :: r) s Q := by
  obtain ⟨hd, rfl⟩ := hd
  intro w ρ0 s0 p l e R st m args below meth c H locs cells slots Qr ρ lr S E Dy
  obtain ⟨D0, hb, hL, hw, hs⟩ := Dy
  exact lv_lshr S.1 S.2.1 hd rfl (k w ρ0 s0 p l e R st m args below meth c H locs cells slots Qr ρ lr S E ⟨D0, hb, hL, hw, zl_wl (zl_wt (zl_wt hs))⟩)
theorem xi_lushr {x : Int64} {y : Int32} (hd : Dc M pc .lushr 1 pc') (k : Xw d M mc ms pc' ls (.long ((x.toUInt64 >>> (y.toInt64.toUInt64 &&& Int64.toUInt64 63)).toInt64) :: r) s Q) : Xw d M mc ms pc ls (.int y :: .long x :: r) s Q := by
  obtain ⟨hd, rfl⟩ := hd
  intro w ρ0 s0 p l e R st m args below meth c H locs cells slots Qr ρ lr S E Dy
  obtain ⟨D0, hb, hL, hw, hs⟩ := Dy
  exact lv_lushr S.1 S.2.1 hd rfl (k w ρ0 s0 p l e R st m args below meth c H locs cells slots Qr ρ lr S E ⟨D0, hb, hL, hw, zl_wl (zl_wt (zl_wt hs))⟩)
theorem xi_i2l {x : Int32} (hd : Dc M pc .i2l 1 pc') (k : Xw d M mc ms pc' ls (.long x.toInt64 :: r) s Q) : Xw d M mc ms pc ls (.int x :: r) s Q := by
  obtain ⟨hd, rfl⟩ := hd
  intro w ρ0 s0 p l e R st m args below meth c H locs cells slots Qr ρ lr S E Dy
  obtain ⟨D0, hb, hL, hw, hs⟩ := Dy
  exact lv_i2l S.1 S.2.1 hd rfl (k w ρ0 s0 p l e R st m args below meth c H locs cells slots Qr ρ lr S E ⟨D0, hb, hL, hw, zl_wl (zl_wt hs)⟩)
theorem xi_l2i {x : Int64} (hd : Dc M pc .l2i 1 pc') (k : Xw d M mc ms pc' ls (.int x.toInt32 :: r) s Q) : Xw d M mc ms pc ls (.long x :: r) s Q := by
  obtain ⟨hd, rfl⟩ := hd
  intro w ρ0 s0 p l e R st m args below meth c H locs cells slots Qr ρ lr S E Dy
  obtain ⟨D0, hb, hL, hw, hs⟩ := Dy
  exact lv_l2i S.1 S.2.1 hd rfl (k w ρ0 s0 p l e R st m args below meth c H locs cells slots Qr ρ lr S E ⟨D0, hb, hL, hw, zl_wi (zl_wt hs)⟩)
theorem xi_i2c {x : Int32} (hd : Dc M pc .i2c 1 pc') (k : Xw d M mc ms pc' ls (.int ((x.toUInt32 % 65536).toInt32) :: r) s Q) : Xw d M mc ms pc ls (.int x :: r) s Q := by
  obtain ⟨hd, rfl⟩ := hd
  intro w ρ0 s0 p l e R st m args below meth c H locs cells slots Qr ρ lr S E Dy
  obtain ⟨D0, hb, hL, hw, hs⟩ := Dy
  exact lv_i2c S.1 S.2.1 hd rfl (k w ρ0 s0 p l e R st m args below meth c H locs cells slots Qr ρ lr S E ⟨D0, hb, hL, hw, zl_wi (zl_wt hs)⟩)
theorem xi_i2b {x : Int32} (hd : Dc M pc .i2b 1 pc') (k : Xw d M mc ms pc' ls (.int x.toInt8.toInt32 :: r) s Q) : Xw d M mc ms pc ls (.int x :: r) s Q := by
  obtain ⟨hd, rfl⟩ := hd
  intro w ρ0 s0 p l e R st m args below meth c H locs cells slots Qr ρ lr S E Dy
  obtain ⟨D0, hb, hL, hw, hs⟩ := Dy
  exact lv_i2b S.1 S.2.1 hd rfl (k w ρ0 s0 p l e R st m args below meth c H locs cells slots Qr ρ lr S E ⟨D0, hb, hL, hw, zl_wi (zl_wt hs)⟩)
theorem xi_lcmp {x y : Int64} (hd : Dc M pc .lcmp 1 pc') (k : Xw d M mc ms pc' ls (.int (lg_cmp x y) :: r) s Q) : Xw d M mc ms pc ls (.long y :: .long x :: r) s Q := by
  obtain ⟨hd, rfl⟩ := hd
  intro w ρ0 s0 p l e R st m args below meth c H locs cells slots Qr ρ lr S E Dy
  obtain ⟨D0, hb, hL, hw, hs⟩ := Dy
  exact W.lcmp S.1 S.2.1 hd (k w ρ0 s0 p l e R st m args below meth c H locs cells slots Qr ρ lr S E ⟨D0, hb, hL, hw, zl_wi (zl_wt (zl_wt hs))⟩)
theorem xi_dupi {x : Int32} (hd : Dc M pc .dup 1 pc') (k : Xw d M mc ms pc' ls (.int x :: .int x :: r) s Q) : Xw d M mc ms pc ls (.int x :: r) s Q := by
  obtain ⟨hd, rfl⟩ := hd
  intro w ρ0 s0 p l e R st m args below meth c H locs cells slots Qr ρ lr S E Dy
  obtain ⟨D0, hb, hL, hw, hs⟩ := Dy
  exact lv_dup S.1 S.2.1 hd rfl (k w ρ0 s0 p l e R st m args below meth c H locs cells slots Qr ρ lr S E ⟨D0, hb, hL, hw, zl_wi hs⟩)
theorem xi_dupr {x : Nat} (hd : Dc M pc .dup 1 pc') (k : Xw d M mc ms pc' ls (.ref x :: .ref x :: r) s Q) : Xw d M mc ms pc ls (.ref x :: r) s Q := by
  obtain ⟨hd, rfl⟩ := hd
  intro w ρ0 s0 p l e R st m args below meth c H locs cells slots Qr ρ lr S E Dy
  obtain ⟨D0, hb, hL, hw, hs⟩ := Dy
  exact lv_dup S.1 S.2.1 hd rfl (k w ρ0 s0 p l e R st m args below meth c H locs cells slots Qr ρ lr S E ⟨D0, hb, hL, hw, zl_wc (zl_wh hs) hs⟩)
theorem xi_dup2 {x : Int32} {y : Nat} (hd : Dc M pc .dup2 1 pc') (k : Xw d M mc ms pc' ls (.int x :: .ref y :: .int x :: .ref y :: r) s Q) : Xw d M mc ms pc ls (.int x :: .ref y :: r) s Q := by
  obtain ⟨hd, rfl⟩ := hd
  intro w ρ0 s0 p l e R st m args below meth c H locs cells slots Qr ρ lr S E Dy
  obtain ⟨D0, hb, hL, hw, hs⟩ := Dy
  exact lv_dup2_11 S.1 S.2.1 hd rfl rfl (k w ρ0 s0 p l e R st m args below meth c H locs cells slots Qr ρ lr S E ⟨D0, hb, hL, hw, zl_wi (zl_wc (zl_wh (zl_wt hs)) hs)⟩)
theorem xi_popi {x : Int32} (hd : Dc M pc .pop 1 pc') (k : Xw d M mc ms pc' ls (r) s Q) : Xw d M mc ms pc ls (.int x :: r) s Q := by
  obtain ⟨hd, rfl⟩ := hd
  intro w ρ0 s0 p l e R st m args below meth c H locs cells slots Qr ρ lr S E Dy
  obtain ⟨D0, hb, hL, hw, hs⟩ := Dy
  exact lv_pop S.1 S.2.1 hd rfl (k w ρ0 s0 p l e R st m args below meth c H locs cells slots Qr ρ lr S E ⟨D0, hb, hL, hw, zl_wt hs⟩)
theorem xi_if_eq {x : Int32} {off : Int} (hd : Dj M pc (.ifCond .eq off) off 3 pc' tgt) (kt : x = 0 → Xw d M mc ms tgt ls (r) s Q) (kf : ¬ (x = 0) → Xw d M mc ms pc' ls (r) s Q) : Xw d M mc ms pc ls (.int x :: r) s Q := by
  obtain ⟨hd, rfl, ht⟩ := hd
  intro w ρ0 s0 p l e R st m args below meth c H locs cells slots Qr ρ lr S E Dy
  obtain ⟨D0, hb, hL, hw, hs⟩ := Dy
  exact lv_if_eq S.1 S.2.1 hd ht (fun h => kt h w ρ0 s0 p l e R st m args below meth c H locs cells slots Qr ρ lr S E ⟨D0, hb, hL, hw, zl_wt hs⟩) (fun h => kf h w ρ0 s0 p l e R st m args below meth c H locs cells slots Qr ρ lr S E ⟨D0, hb, hL, hw, zl_wt hs⟩)
theorem xi_if_ne {x : Int32} {off : Int} (hd : Dj M pc (.ifCond .ne off) off 3 pc' tgt) (kt : ¬ x = 0 → Xw d M mc ms tgt ls (r) s Q) (kf : x = 0 → Xw d M mc ms pc' ls (r) s Q) : Xw d M mc ms pc ls (.int x :: r) s Q := by
  obtain ⟨hd, rfl, ht⟩ := hd
  intro w ρ0 s0 p l e R st m args below meth c H locs cells slots Qr ρ lr S E Dy
  obtain ⟨D0, hb, hL, hw, hs⟩ := Dy
  exact lv_if_ne S.1 S.2.1 hd ht (fun h => kt h w ρ0 s0 p l e R st m args below meth c H locs cells slots Qr ρ lr S E ⟨D0, hb, hL, hw, zl_wt hs⟩) (fun h => kf h w ρ0 s0 p l e R st m args below meth c H locs cells slots Qr ρ lr S E ⟨D0, hb, hL, hw, zl_wt hs⟩)
theorem xi_if_lt {x : Int32} {off : Int} (hd : Dj M pc (.ifCond .lt off) off 3 pc' tgt) (kt : x < 0 → Xw d M mc ms tgt ls (r) s Q) (kf : ¬ (x < 0) → Xw d M mc ms pc' ls (r) s Q) : Xw d M mc ms pc ls (.int x :: r) s Q := by
  obtain ⟨hd, rfl, ht⟩ := hd
  intro w ρ0 s0 p l e R st m args below meth c H locs cells slots Qr ρ lr S E Dy
  obtain ⟨D0, hb, hL, hw, hs⟩ := Dy
  exact lv_if_lt S.1 S.2.1 hd ht (fun h => kt h w ρ0 s0 p l e R st m args below meth c H locs cells slots Qr ρ lr S E ⟨D0, hb, hL, hw, zl_wt hs⟩) (fun h => kf h w ρ0 s0 p l e R st m args below meth c H locs cells slots Qr ρ lr S E ⟨D0, hb, hL, hw, zl_wt hs⟩)
theorem xi_if_ge {x : Int32} {off : Int} (hd : Dj M pc (.ifCond .ge off) off 3 pc' tgt) (kt : 0 ≤ x → Xw d M mc ms tgt ls (r) s Q) (kf : ¬ (0 ≤ x) → Xw d M mc ms pc' ls (r) s Q) : Xw d M mc ms pc ls (.int x :: r) s Q := by
  obtain ⟨hd, rfl, ht⟩ := hd
  intro w ρ0 s0 p l e R st m args below meth c H locs cells slots Qr ρ lr S E Dy
  obtain ⟨D0, hb, hL, hw, hs⟩ := Dy
  exact lv_if_ge S.1 S.2.1 hd ht (fun h => kt h w ρ0 s0 p l e R st m args below meth c H locs cells slots Qr ρ lr S E ⟨D0, hb, hL, hw, zl_wt hs⟩) (fun h => kf h w ρ0 s0 p l e R st m args below meth c H locs cells slots Qr ρ lr S E ⟨D0, hb, hL, hw, zl_wt hs⟩)
theorem xi_if_gt {x : Int32} {off : Int} (hd : Dj M pc (.ifCond .gt off) off 3 pc' tgt) (kt : 0 < x → Xw d M mc ms tgt ls (r) s Q) (kf : ¬ (0 < x) → Xw d M mc ms pc' ls (r) s Q) : Xw d M mc ms pc ls (.int x :: r) s Q := by
  obtain ⟨hd, rfl, ht⟩ := hd
  intro w ρ0 s0 p l e R st m args below meth c H locs cells slots Qr ρ lr S E Dy
  obtain ⟨D0, hb, hL, hw, hs⟩ := Dy
  exact lv_if_gt S.1 S.2.1 hd ht (fun h => kt h w ρ0 s0 p l e R st m args below meth c H locs cells slots Qr ρ lr S E ⟨D0, hb, hL, hw, zl_wt hs⟩) (fun h => kf h w ρ0 s0 p l e R st m args below meth c H locs cells slots Qr ρ lr S E ⟨D0, hb, hL, hw, zl_wt hs⟩)
theorem xi_if_le {x : Int32} {off : Int} (hd : Dj M pc (.ifCond .le off) off 3 pc' tgt) (kt : x ≤ 0 → Xw d M mc ms tgt ls (r) s Q) (kf : ¬ (x ≤ 0) → Xw d M mc ms pc' ls (r) s Q) : Xw d M mc ms pc ls (.int x :: r) s Q := by
  obtain ⟨hd, rfl, ht⟩ := hd
  intro w ρ0 s0 p l e R st m args below meth c H locs cells slots Qr ρ lr S E Dy
  obtain ⟨D0, hb, hL, hw, hs⟩ := Dy
  exact lv_if_le S.1 S.2.1 hd ht (fun h => kt h w ρ0 s0 p l e R st m args below meth c H locs cells slots Qr ρ lr S E ⟨D0, hb, hL, hw, zl_wt hs⟩) (fun h => kf h w ρ0 s0 p l e R st m args below meth c H locs cells slots Qr ρ lr S E ⟨D0, hb, hL, hw, zl_wt hs⟩)
theorem xi_icmp_eq {x y : Int32} {off : Int} (hd : Dj M pc (.if_icmp .eq off) off 3 pc' tgt) (kt : x = y → Xw d M mc ms tgt ls (r) s Q) (kf : ¬ (x = y) → Xw d M mc ms pc' ls (r) s Q) : Xw d M mc ms pc ls (.int y :: .int x :: r) s Q := by
  obtain ⟨hd, rfl, ht⟩ := hd
  intro w ρ0 s0 p l e R st m args below meth c H locs cells slots Qr ρ lr S E Dy
  obtain ⟨D0, hb, hL, hw, hs⟩ := Dy
  exact lv_icmp_eq S.1 S.2.1 hd ht (fun h => kt h w ρ0 s0 p l e R st m args below meth c H locs cells slots Qr ρ lr S E ⟨D0, hb, hL, hw, zl_wt (zl_wt hs)⟩) (fun h => kf h w ρ0 s0 p l e R st m args below meth c H locs cells slots Qr ρ lr S E ⟨D0, hb, hL, hw, zl_wt (zl_wt hs)⟩)
theorem xi_icmp_ne {x y : Int32} {off : Int} (hd : Dj M pc (.if_icmp .ne off) off 3 pc' tgt) (kt : ¬ x = y → Xw d M mc ms tgt ls (r) s Q) (kf : x = y → Xw d M mc ms pc' ls (r) s Q) : Xw d M mc ms pc ls (.int y :: .int x :: r) s Q := by
  obtain ⟨hd, rfl, ht⟩ := hd
  intro w ρ0 s0 p l e R st m args below meth c H locs cells slots Qr ρ lr S E Dy
  obtain ⟨D0, hb, hL, hw, hs⟩ := Dy
  exact lv_icmp_ne S.1 S.2.1 hd ht (fun h => kt h w ρ0 s0 p l e R st m args below meth c H locs cells slots Qr ρ lr S E ⟨D0, hb, hL, hw, zl_wt (zl_wt hs)⟩) (fun h => kf h w ρ0 s0 p l e R st m args below meth c H locs cells slots Qr ρ lr S E ⟨D0, hb, hL, hw, zl_wt (zl_wt hs)⟩)
theorem xi_icmp_lt {x y : Int32} {off : Int} (hd : Dj M pc (.if_icmp .lt off) off 3 pc' tgt) (kt : x < y → Xw d M mc ms tgt ls (r) s Q) (kf : ¬ (x < y) → Xw d M mc ms pc' ls (r) s Q) : Xw d M mc ms pc ls (.int y :: .int x :: r) s Q := by
  obtain ⟨hd, rfl, ht⟩ := hd
  intro w ρ0 s0 p l e R st m args below meth c H locs cells slots Qr ρ lr S E Dy
  obtain ⟨D0, hb, hL, hw, hs⟩ := Dy
  exact lv_icmp_lt S.1 S.2.1 hd ht (fun h => kt h w ρ0 s0 p l e R st m args below meth c H locs cells slots Qr ρ lr S E ⟨D0, hb, hL, hw, zl_wt (zl_wt hs)⟩) (fun h => kf h w ρ0 s0 p l e R st m args below meth c H locs cells slots Qr ρ lr S E ⟨D0, hb, hL, hw, zl_wt (zl_wt hs)⟩)
theorem xi_icmp_ge {x y : Int32} {off : Int} (hd : Dj M pc (.if_icmp .ge off) off 3 pc' tgt) (kt : y ≤ x → Xw d M mc ms tgt ls (r) s Q) (kf : ¬ (y ≤ x) → Xw d M mc ms pc' ls (r) s Q) : Xw d M mc ms pc ls (.int y :: .int x :: r) s Q := by
  obtain ⟨hd, rfl, ht⟩ := hd
  intro w ρ0 s0 p l e R st m args below meth c H locs cells slots Qr ρ lr S E Dy
  obtain ⟨D0, hb, hL, hw, hs⟩ := Dy
  exact lv_icmp_ge S.1 S.2.1 hd ht (fun h => kt h w ρ0 s0 p l e R st m args below meth c H locs cells slots Qr ρ lr S E ⟨D0, hb, hL, hw, zl_wt (zl_wt hs)⟩) (fun h => kf h w ρ0 s0 p l e R st m args below meth c H locs cells slots Qr ρ lr S E ⟨D0, hb, hL, hw, zl_wt (zl_wt hs)⟩)
theorem xi_icmp_gt {x y : Int32} {off : Int} (hd : Dj M pc (.if_icmp .gt off) off 3 pc' tgt) (kt : y < x → Xw d M mc ms tgt ls (r) s Q) (kf : ¬ (y < x) → Xw d M mc ms pc' ls (r) s Q) : Xw d M mc ms pc ls (.int y :: .int x :: r) s Q := by
  obtain ⟨hd, rfl, ht⟩ := hd
  intro w ρ0 s0 p l e R st m args below meth c H locs cells slots Qr ρ lr S E Dy
  obtain ⟨D0, hb, hL, hw, hs⟩ := Dy
  exact lv_icmp_gt S.1 S.2.1 hd ht (fun h => kt h w ρ0 s0 p l e R st m args below meth c H locs cells slots Qr ρ lr S E ⟨D0, hb, hL, hw, zl_wt (zl_wt hs)⟩) (fun h => kf h w ρ0 s0 p l e R st m args below meth c H locs cells slots Qr ρ lr S E ⟨D0, hb, hL, hw, zl_wt (zl_wt hs)⟩)
theorem xi_icmp_le {x y : Int32} {off : Int} (hd : Dj M pc (.if_icmp .le off) off 3 pc' tgt) (kt : x ≤ y → Xw d M mc ms tgt ls (r) s Q) (kf : ¬ (x ≤ y) → Xw d M mc ms pc' ls (r) s Q) : Xw d M mc ms pc ls (.int y :: .int x :: r) s Q := by
  obtain ⟨hd, rfl, ht⟩ := hd
  intro w ρ0 s0 p l e R st m args below meth c H locs cells slots Qr ρ lr S E Dy
  obtain ⟨D0, hb, hL, hw, hs⟩ := Dy
  exact lv_icmp_le S.1 S.2.1 hd ht (fun h => kt h w ρ0 s0 p l e R st m args below meth c H locs cells slots Qr ρ lr S E ⟨D0, hb, hL, hw, zl_wt (zl_wt hs)⟩) (fun h => kf h w ρ0 s0 p l e R st m args below meth c H locs cells slots Qr ρ lr S E ⟨D0, hb, hL, hw, zl_wt (zl_wt hs)⟩)
theorem xi_goto {off : Int} (hd : Dj M pc (.goto off) off 3 pc' tgt) (k : Xw d M mc ms tgt ls (r) s Q) : Xw d M mc ms pc ls (r) s Q := by
  obtain ⟨hd, rfl, ht⟩ := hd
  intro w ρ0 s0 p l e R st m args below meth c H locs cells slots Qr ρ lr S E Dy
  exact lv_goto S.1 S.2.1 hd ht (k w ρ0 s0 p l e R st m args below meth c H locs cells slots Qr ρ lr S E Dy)
theorem xi_ifnonnull {x : Nat} {off : Int} (hd : Dj M pc (.ifnonnull off) off 3 pc' tgt) (k : Xw d M mc ms tgt ls (r) s Q) : Xw d M mc ms pc ls (.ref x :: r) s Q := by
  obtain ⟨hd, rfl, ht⟩ := hd
  intro w ρ0 s0 p l e R st m args below meth c H locs cells slots Qr ρ lr S E Dy
  obtain ⟨D0, hb, hL, hw, hs⟩ := Dy
  exact lv_ifnonnull S.1 S.2.1 hd ht (k w ρ0 s0 p l e R st m args below meth c H locs cells slots Qr ρ lr S E ⟨D0, hb, hL, hw, zl_wt hs⟩)
theorem xi_ifnonnullN {off : Int} (hd : Dj M pc (.ifnonnull off) off 3 pc' tgt) (k : Xw d M mc ms pc' ls (r) s Q) : Xw d M mc ms pc ls (.null :: r) s Q := by
  obtain ⟨hd, rfl, ht⟩ := hd
  intro w ρ0 s0 p l e R st m args below meth c H locs cells slots Qr ρ lr S E Dy
  obtain ⟨D0, hb, hL, hw, hs⟩ := Dy
  exact lv_ifnonnullN S.1 S.2.1 hd (k w ρ0 s0 p l e R st m args below meth c H locs cells slots Qr ρ lr S E ⟨D0, hb, hL, hw, zl_wt hs⟩)
theorem xi_ifnull {x : Nat} {off : Int} (hd : Dj M pc (.ifnull off) off 3 pc' tgt) (k : Xw d M mc ms pc' ls (r) s Q) : Xw d M mc ms pc ls (.ref x :: r) s Q := by
  obtain ⟨hd, rfl, ht⟩ := hd
  intro w ρ0 s0 p l e R st m args below meth c H locs cells slots Qr ρ lr S E Dy
  obtain ⟨D0, hb, hL, hw, hs⟩ := Dy
  exact lv_ifnull S.1 S.2.1 hd (k w ρ0 s0 p l e R st m args below meth c H locs cells slots Qr ρ lr S E ⟨D0, hb, hL, hw, zl_wt hs⟩)
theorem xi_ifnullN {off : Int} (hd : Dj M pc (.ifnull off) off 3 pc' tgt) (k : Xw d M mc ms tgt ls (r) s Q) : Xw d M mc ms pc ls (.null :: r) s Q := by
  obtain ⟨hd, rfl, ht⟩ := hd
  intro w ρ0 s0 p l e R st m args below meth c H locs cells slots Qr ρ lr S E Dy
  obtain ⟨D0, hb, hL, hw, hs⟩ := Dy
  exact lv_ifnullN S.1 S.2.1 hd ht (k w ρ0 s0 p l e R st m args below meth c H locs cells slots Qr ρ lr S E ⟨D0, hb, hL, hw, zl_wt hs⟩)
theorem xi_lookup {dflt : Int} {ps : Array (Int × Int)} {len : Nat} {x : Int32} (hd : decode M.2.1 pc = .ok (.lookupswitch dflt ps, len)) (hp : (ps.toList.zip (ps.toList.drop 1)).all (fun (a, next) => a.1 < next.1) = true) (ht : (pc : Int) + Op.lookupswitch.offset ps.toList dflt x.toInt = (tgt : Int)) (k : Xw d M mc ms tgt ls r s Q) : Xw d M mc ms pc ls (.int x :: r) s Q := by
  intro w ρ0 s0 p l e R st m args below meth c H locs cells slots Qr ρ lr S E Dy
  obtain ⟨D0, hb, hL, hw, hs⟩ := Dy
  exact lv_lookup S.1 S.2.1 hd hp rfl ht (k w ρ0 s0 p l e R st m args below meth c H locs cells slots Qr ρ lr S E ⟨D0, hb, hL, hw, zl_wt hs⟩)
theorem xi_tableOut {dflt lo hi : Int} {offs : Array Int} {len : Nat} {x : Int32} (hd : decode M.2.1 pc = .ok (.tableswitch dflt lo hi offs, len)) (h : x.toInt < lo ∨ hi < x.toInt) (ht : (pc : Int) + dflt = (tgt : Int)) (k : Xw d M mc ms tgt ls r s Q) : Xw d M mc ms pc ls (.int x :: r) s Q := by
  intro w ρ0 s0 p l e R st m args below meth c H locs cells slots Qr ρ lr S E Dy
  obtain ⟨D0, hb, hL, hw, hs⟩ := Dy
  exact lv_tableOut S.1 S.2.1 hd h ht (k w ρ0 s0 p l e R st m args below meth c H locs cells slots Qr ρ lr S E ⟨D0, hb, hL, hw, zl_wt hs⟩)
theorem xi_tableIn {dflt lo hi : Int} {offs : Array Int} {len : Nat} {x : Int32} {off : Int} (hd : decode M.2.1 pc = .ok (.tableswitch dflt lo hi offs, len)) (h1 : ¬ x.toInt < lo) (h2 : ¬ hi < x.toInt) (ho : offs[(x.toInt - lo).toNat]? = some off) (ht : (pc : Int) + off = (tgt : Int)) (k : Xw d M mc ms tgt ls r s Q) : Xw d M mc ms pc ls (.int x :: r) s Q := by
  intro w ρ0 s0 p l e R st m args below meth c H locs cells slots Qr ρ lr S E Dy
  obtain ⟨D0, hb, hL, hw, hs⟩ := Dy
  exact lv_tableIn S.1 S.2.1 hd h1 h2 ho ht (k w ρ0 s0 p l e R st m args below meth c H locs cells slots Qr ρ lr S E ⟨D0, hb, hL, hw, zl_wt hs⟩)
theorem xi_ireturn {x : Int32} {ty : FieldType} (hd : Dc M pc .ireturn 1 pc') (hr : M.2.2.2.1 = some ty) (hn : narrow ty (.int x) = .int x) (k : Q (some (some (.int x))) s) : Xw d M mc ms pc ls [.int x] s Q := by
  intro w ρ0 s0 p l e R st m args below meth c H locs cells slots Qr ρ lr S E Dy
  exact E.1 (some (.int x)) s ρ pc .ireturn lr H locs cells slots k (Or.inr (Or.inl ⟨x, ty, rfl, rfl, hr, hn⟩)) hd.1 Dy.1
theorem xi_lreturn {x : Int64} (hd : Dc M pc .lreturn 1 pc') (hr : M.2.2.2.1 = some .long) (k : Q (some (some (.long x))) s) : Xw d M mc ms pc ls [.long x] s Q := by
  intro w ρ0 s0 p l e R st m args below meth c H locs cells slots Qr ρ lr S E Dy
  exact E.1 (some (.long x)) s ρ pc .lreturn lr H locs cells slots k (Or.inr (Or.inr ⟨x, rfl, rfl, hr⟩)) hd.1 Dy.1
theorem xi_return (hd : Dc M pc .return_ 1 pc') (hr : M.2.2.2.1 = none) (k : Q (some none) s) : Xw d M mc ms pc ls [] s Q := by
  intro w ρ0 s0 p l e R st m args below meth c H locs cells slots Qr ρ lr S E Dy
  exact E.1 none s ρ pc .return_ lr H locs cells slots k (Or.inl ⟨rfl, rfl, hr⟩) hd.1 Dy.1
theorem xi_throw (h : zl_Thr M pc) (hd8 : 8 ≤ d) (hm : 1 ≤ mc ∧ 6 ≤ ms) (k : Q none s) : Xw d M mc ms pc ls [] s Q := by
  intro w ρ0 s0 p l e R st m args below meth c H locs cells slots Qr ρ lr S E Dy
  obtain ⟨D0, hb, hL, hw, hs⟩ := Dy
  have h9 := S.2.2.2.2.2.2.2.1
  exact E.2.1 s ρ pc lr [] H locs cells slots k h (hL.1.trans S.2.2.2.1.symm) (by decide) (by omega) (by omega) (by omega) (by omega) D0
/-- less may be made than was told -/
theorem xi_less {mc9 ms9 : Nat} (h1 : mc9 ≤ mc) (h2 : ms9 ≤ ms) {stk : List Value} (k : Xw d M mc9 ms9 pc ls stk s Q) : Xw d M mc ms pc ls stk s Q := by
  intro w ρ0 s0 p l e R st m args below meth c H locs cells slots Qr ρ lr S E Dy
  obtain ⟨D0, hb, hL, hw, hs⟩ := Dy
  exact k w ρ0 s0 p l e R st m args below meth c H locs cells slots Qr ρ lr S E ⟨D0, ⟨by omega, by omega⟩, hL, hw, hs⟩
theorem xi_getI {a idx k j : Nat} (hd : Dc M pc (.getfield idx) 3 pc') (hf : zn_Fl M.1.cls idx k j) (ha : zl_at s a k) (ht : zn_ft k j = 0 ∧ j < zn_N k) (kk : Xw d M mc ms pc' ls (.int (mI s a j) :: r) s Q) : Xw d M mc ms pc ls (.ref a :: r) s Q := by
  obtain ⟨hd, rfl⟩ := hd
  intro w ρ0 s0 p l e R st m args below meth c H locs cells slots Qr ρ lr S E Dy
  obtain ⟨D0, hb, hL, hw, hs⟩ := Dy
  refine zl_get S.1 S.2.1 S.2.2.2.2.2.1 S.2.2.2.2.1 S.2.2.2.2.2.2.2.2.1 D0.1 hf ha ht.2 hd ?_
  have e9 : zl_cv ρ s (zn_ft k j) a j = .int (mI s a j) := by unfold zl_cv; rw [if_pos ht.1]
  rw [e9]
  exact kk w ρ0 s0 p l e R st m args below meth c H locs cells slots Qr ρ lr S E ⟨D0, hb, hL, hw, zl_wi (zl_wt hs)⟩
theorem xi_getL {a idx k j : Nat} (hd : Dc M pc (.getfield idx) 3 pc') (hf : zn_Fl M.1.cls idx k j) (ha : zl_at s a k) (ht : zn_ft k j = 1 ∧ j < zn_N k) (kk : Xw d M mc ms pc' ls (.long (mL s a j) :: r) s Q) : Xw d M mc ms pc ls (.ref a :: r) s Q := by
  obtain ⟨hd, rfl⟩ := hd
  intro w ρ0 s0 p l e R st m args below meth c H locs cells slots Qr ρ lr S E Dy
  obtain ⟨D0, hb, hL, hw, hs⟩ := Dy
  refine zl_get S.1 S.2.1 S.2.2.2.2.2.1 S.2.2.2.2.1 S.2.2.2.2.2.2.2.2.1 D0.1 hf ha ht.2 hd ?_
  have e9 : zl_cv ρ s (zn_ft k j) a j = .long (mL s a j) := by unfold zl_cv; rw [ht.1]; rfl
  rw [e9]
  exact kk w ρ0 s0 p l e R st m args below meth c H locs cells slots Qr ρ lr S E ⟨D0, hb, hL, hw, zl_wl (zl_wt hs)⟩
theorem xi_getR {a idx k j b : Nat} (hd : Dc M pc (.getfield idx) 3 pc') (hf : zn_Fl M.1.cls idx k j) (ha : zl_at s a k) (ht : zn_ft k j = 2 ∧ j < zn_N k) (hr : mR s a j = some b) (kk : Xw d M mc ms pc' ls (.ref b :: r) s Q) : Xw d M mc ms pc ls (.ref a :: r) s Q := by
  obtain ⟨hd, rfl⟩ := hd
  intro w ρ0 s0 p l e R st m args below meth c H locs cells slots Qr ρ lr S E Dy
  obtain ⟨D0, hb, hL, hw, hs⟩ := Dy
  refine zl_get S.1 S.2.1 S.2.2.2.2.2.1 S.2.2.2.2.1 S.2.2.2.2.2.2.2.2.1 D0.1 hf ha ht.2 hd ?_
  have e9 : zl_cv ρ s (zn_ft k j) a j = .ref (ρ b) := by unfold zl_cv; rw [ht.1, hr]; rfl
  rw [e9]
  exact kk w ρ0 s0 p l e R st m args below meth c H locs cells slots Qr ρ lr S E ⟨D0, hb, hL, hw, zl_wc (D0.1.2.2.2 a j b ha.1 ha.2.1 hr) (zl_wt hs)⟩
theorem xi_putI {a idx k j : Nat} {x : Int32} (hd : Dc M pc (.putfield idx) 3 pc') (hf : zn_Fl M.1.cls idx k j) (ha : zl_at s a k) (ht : zn_ft k j = 0 ∧ j < zn_N k ∧ (zn_F k j).2.2.2 = false) (hn : narrow (zn_ty k j) (.int x) = .int x ∧ fits (zn_ty k j) (.int x) = true) (kk : Xw d M mc ms pc' ls (r) (uI s a j x) Q) : Xw d M mc ms pc ls (.int x :: .ref a :: r) s Q := by
  obtain ⟨hd, rfl⟩ := hd
  intro w ρ0 s0 p l e R st m args below meth c H locs cells slots Qr ρ lr S E Dy
  obtain ⟨D0, hb, hL, hw, hs⟩ := Dy
  exact zl_put S.1 S.2.1 S.2.2.2.2.2.1 S.2.2.2.2.1 S.2.2.2.2.2.2.2.2.1 D0 (s' := uI s a j x) hf ha ht.2.1 (Or.inl ht.2.2) hn.1 hn.2 (zl_cvI _ _ _ _ _ _ ht.1) (fun i hi => zl_cvIo _ _ _ _ _ _ _ hi) rfl (zl_uI_o _ _ _ _) (fun j9 b9 h9 => D0.1.2.2.2 a j9 b9 ha.1 ha.2.1 h9) hd (fun H9 locs9 D9 => kk w ρ0 s0 p l e R st m args below meth c H9 locs9 cells slots Qr ρ lr S E ⟨D9, hb, hL, hw, zl_wt (zl_wt hs)⟩)
theorem xi_putL {a idx k j : Nat} {x : Int64} (hd : Dc M pc (.putfield idx) 3 pc') (hf : zn_Fl M.1.cls idx k j) (ha : zl_at s a k) (ht : zn_ft k j = 1 ∧ j < zn_N k ∧ (zn_F k j).2.2.2 = false) (hn : zn_ty k j = .long) (kk : Xw d M mc ms pc' ls (r) (uL s a j x) Q) : Xw d M mc ms pc ls (.long x :: .ref a :: r) s Q := by
  obtain ⟨hd, rfl⟩ := hd
  intro w ρ0 s0 p l e R st m args below meth c H locs cells slots Qr ρ lr S E Dy
  obtain ⟨D0, hb, hL, hw, hs⟩ := Dy
  exact zl_put S.1 S.2.1 S.2.2.2.2.2.1 S.2.2.2.2.1 S.2.2.2.2.2.2.2.2.1 D0 (s' := uL s a j x) hf ha ht.2.1 (Or.inl ht.2.2) (by rw [hn]; rfl) (by rw [hn]; rfl) (zl_cvL _ _ _ _ _ _ ht.1) (fun i hi => zl_cvLo _ _ _ _ _ _ _ hi) rfl (zl_uL_o _ _ _ _) (fun j9 b9 h9 => D0.1.2.2.2 a j9 b9 ha.1 ha.2.1 h9) hd (fun H9 locs9 D9 => kk w ρ0 s0 p l e R st m args below meth c H9 locs9 cells slots Qr ρ lr S E ⟨D9, hb, hL, hw, zl_wt (zl_wt hs)⟩)
theorem zl_uR_wf {s : Sg} {a j x n : Nat} (h : ∀ j b, mR s a j = some b → b < n) (hx : x < n) : ∀ j9 b9, mR (uR s a j (some x)) a j9 = some b9 → b9 < n := by
  intro j9 b9 h9
  by_cases e : j9 = j
  · subst e
    rw [show mR (uR s a j9 (some x)) a j9 = some x from zl_up_at _ _ _ _] at h9
    cases h9; exact hx
  · rw [show mR (uR s a j (some x)) a j9 = mR s a j9 from zl_up_ne _ _ fun q => e q.2] at h9
    exact h j9 b9 h9
theorem zl_ref {ty : FieldType} (h : fits ty .null = true) {x : Nat} : narrow ty (.ref x) = .ref x ∧ fits ty (.ref x) = true := by
  cases ty <;> first | exact ⟨rfl, rfl⟩ | exact absurd h Bool.false_ne_true
theorem xi_putR {a idx k j : Nat} {x : Nat} (hd : Dc M pc (.putfield idx) 3 pc') (hf : zn_Fl M.1.cls idx k j) (ha : zl_at s a k) (ht : zn_ft k j = 2 ∧ j < zn_N k ∧ (zn_F k j).2.2.2 = false) (hn : fits (zn_ty k j) .null = true) (kk : Xw d M mc ms pc' ls (r) (uR s a j (some x)) Q) : Xw d M mc ms pc ls (.ref x :: .ref a :: r) s Q := by
  obtain ⟨hd, rfl⟩ := hd
  intro w ρ0 s0 p l e R st m args below meth c H locs cells slots Qr ρ lr S E Dy
  obtain ⟨D0, hb, hL, hw, hs⟩ := Dy
  exact zl_put S.1 S.2.1 S.2.2.2.2.2.1 S.2.2.2.2.1 S.2.2.2.2.2.2.2.2.1 D0 (s' := uR s a j (some x)) hf ha ht.2.1 (Or.inl ht.2.2) (zl_ref hn).1 (zl_ref hn).2 (zl_cvR _ _ _ _ _ _ ht.1) (fun i hi => zl_cvRo _ _ _ _ _ _ _ hi) rfl (zl_uR_o _ _ _ _) (zl_uR_wf (fun j9 b9 h9 => D0.1.2.2.2 a j9 b9 ha.1 ha.2.1 h9) (zl_wh hs)) hd (fun H9 locs9 D9 => kk w ρ0 s0 p l e R st m args below meth c H9 locs9 cells slots Qr ρ lr S E ⟨D9, hb, hL, hw, zl_wt (zl_wt hs)⟩)
theorem xi_putF {a idx k j x : Nat} (hd : Dc M pc (.putfield idx) 3 pc') (hf : zn_Fl M.1.cls idx k j) (ha : zl_at s a k) (ht : zn_ft k j = 2 ∧ j < zn_N k) (hi : M.1.name = "<init>" ∧ zn_R k = M.1.cls) (hn : fits (zn_ty k j) .null = true) (kk : Xw d M mc ms pc' ls r (uR s a j (some x)) Q) : Xw d M mc ms pc ls (.ref x :: .ref a :: r) s Q := by
  obtain ⟨hd, rfl⟩ := hd
  intro w ρ0 s0 p l e R st m args below meth c H locs cells slots Qr ρ lr S E Dy
  obtain ⟨D0, hb, hL, hw, hs⟩ := Dy
  exact zl_put S.1 S.2.1 S.2.2.2.2.2.1 S.2.2.2.2.1 S.2.2.2.2.2.2.2.2.1 D0 (s' := uR s a j (some x)) hf ha ht.2 (Or.inr ⟨S.2.2.2.2.2.2.2.2.2.2.2.1 hi.1, hi.2⟩) (zl_ref hn).1 (zl_ref hn).2 (zl_cvR _ _ _ _ _ _ ht.1) (fun i hi => zl_cvRo _ _ _ _ _ _ _ hi) rfl (zl_uR_o _ _ _ _) (zl_uR_wf (fun j9 b9 h9 => D0.1.2.2.2 a j9 b9 ha.1 ha.2.1 h9) (zl_wh hs)) hd (fun H9 locs9 D9 => kk w ρ0 s0 p l e R st m args below meth c H9 locs9 cells slots Qr ρ lr S E ⟨D9, hb, hL, hw, zl_wt (zl_wt hs)⟩)
theorem xi_iald {a n : Nat} {i : Int32} (hd : Dc M pc .iaload 1 pc') (ha : zl_ar s a 10 n) (hin : vp_in i n) (kk : Xw d M mc ms pc' ls (.int (mI s a i.toNatClampNeg) :: r) s Q) : Xw d M mc ms pc ls (.int i :: .ref a :: r) s Q := by
  obtain ⟨hd, rfl⟩ := hd
  intro w ρ0 s0 p l e R st m args below meth c H locs cells slots Qr ρ lr S E Dy
  obtain ⟨D0, hb, hL, hw, hs⟩ := Dy
  obtain ⟨hc, hof⟩ := zl_arr S.2.2.2.2.2.2.2.2.1 D0.1 ha
  exact W.iald (v := .int (mI s a i.toNatClampNeg)) S.1 S.2.1 hc (hof _ _) (fun q => by cases q) (zl_inb hin) (arrV_read _ _ (zl_inl hin)) rfl rfl hd (kk w ρ0 s0 p l e R st m args below meth c H locs cells slots Qr ρ lr S E ⟨D0, hb, hL, hw, zl_wi (zl_wt (zl_wt hs))⟩)
theorem xi_lald {a n : Nat} {i : Int32} (hd : Dc M pc .laload 1 pc') (ha : zl_ar s a 11 n) (hin : vp_in i n) (kk : Xw d M mc ms pc' ls (.long (mL s a i.toNatClampNeg) :: r) s Q) : Xw d M mc ms pc ls (.int i :: .ref a :: r) s Q := by
  obtain ⟨hd, rfl⟩ := hd
  intro w ρ0 s0 p l e R st m args below meth c H locs cells slots Qr ρ lr S E Dy
  obtain ⟨D0, hb, hL, hw, hs⟩ := Dy
  obtain ⟨hc, hof⟩ := zl_arr S.2.2.2.2.2.2.2.2.1 D0.1 ha
  exact W.lald (v := .long (mL s a i.toNatClampNeg)) S.1 S.2.1 hc (hof _ _) (fun q => by cases q) (zl_inb hin) (arrV_read _ _ (zl_inl hin)) rfl rfl hd (kk w ρ0 s0 p l e R st m args below meth c H locs cells slots Qr ρ lr S E ⟨D0, hb, hL, hw, zl_wl (zl_wt (zl_wt hs))⟩)
theorem xi_cald {a n : Nat} {i : Int32} (hd : Dc M pc .caload 1 pc') (ha : zl_ar s a 12 n) (hin : vp_in i n) (kk : Xw d M mc ms pc' ls (.int (mI s a i.toNatClampNeg) :: r) s Q) : Xw d M mc ms pc ls (.int i :: .ref a :: r) s Q := by
  obtain ⟨hd, rfl⟩ := hd
  intro w ρ0 s0 p l e R st m args below meth c H locs cells slots Qr ρ lr S E Dy
  obtain ⟨D0, hb, hL, hw, hs⟩ := Dy
  obtain ⟨hc, hof⟩ := zl_arr S.2.2.2.2.2.2.2.2.1 D0.1 ha
  exact W.cald (v := .int (mI s a i.toNatClampNeg)) S.1 S.2.1 hc (hof _ _) (fun q => by cases q) (zl_inb hin) (arrV_read _ _ (zl_inl hin)) rfl rfl hd (kk w ρ0 s0 p l e R st m args below meth c H locs cells slots Qr ρ lr S E ⟨D0, hb, hL, hw, zl_wi (zl_wt (zl_wt hs))⟩)
theorem xi_zald {a n : Nat} {i : Int32} (hd : Dc M pc .baload 1 pc') (ha : zl_ar s a 13 n) (hin : vp_in i n) (kk : Xw d M mc ms pc' ls (.int (mI s a i.toNatClampNeg) :: r) s Q) : Xw d M mc ms pc ls (.int i :: .ref a :: r) s Q := by
  obtain ⟨hd, rfl⟩ := hd
  intro w ρ0 s0 p l e R st m args below meth c H locs cells slots Qr ρ lr S E Dy
  obtain ⟨D0, hb, hL, hw, hs⟩ := Dy
  obtain ⟨hc, hof⟩ := zl_arr S.2.2.2.2.2.2.2.2.1 D0.1 ha
  exact W.zald (v := .int (mI s a i.toNatClampNeg)) S.1 S.2.1 hc (hof _ _) (fun q => by cases q) (zl_inb hin) (arrV_read _ _ (zl_inl hin)) rfl rfl hd (kk w ρ0 s0 p l e R st m args below meth c H locs cells slots Qr ρ lr S E ⟨D0, hb, hL, hw, zl_wi (zl_wt (zl_wt hs))⟩)
theorem xi_aald {a n b : Nat} {i : Int32} (hd : Dc M pc .aaload 1 pc') (ha : zl_ar s a 14 n) (hin : vp_in i n) (hr : mR s a i.toNatClampNeg = some b) (kk : Xw d M mc ms pc' ls (.ref b :: r) s Q) : Xw d M mc ms pc ls (.int i :: .ref a :: r) s Q := by
  obtain ⟨hd, rfl⟩ := hd
  intro w ρ0 s0 p l e R st m args below meth c H locs cells slots Qr ρ lr S E Dy
  obtain ⟨D0, hb, hL, hw, hs⟩ := Dy
  obtain ⟨hc, hof⟩ := zl_arr S.2.2.2.2.2.2.2.2.1 D0.1 ha
  refine W.aald (v := .ref (ρ b)) S.1 S.2.1 hc (hof _ _) rfl (fun q => by cases q) (zl_inb hin) ((arrV_read _ _ (zl_inl hin)).trans ?_) rfl rfl hd (kk w ρ0 s0 p l e R st m args below meth c H locs cells slots Qr ρ lr S E ⟨D0, hb, hL, hw, zl_wc (D0.1.2.2.2 a _ b ha.1 ha.2.1 hr) (zl_wt (zl_wt hs))⟩)
  show some (zl_cv ρ s 2 a i.toNatClampNeg) = _
  unfold zl_cv; rw [hr]; rfl
theorem xi_aaldN {a n : Nat} {i : Int32} (hd : Dc M pc .aaload 1 pc') (ha : zl_ar s a 14 n) (hin : vp_in i n) (hr : mR s a i.toNatClampNeg = none) (kk : Xw d M mc ms pc' ls (.null :: r) s Q) : Xw d M mc ms pc ls (.int i :: .ref a :: r) s Q := by
  obtain ⟨hd, rfl⟩ := hd
  intro w ρ0 s0 p l e R st m args below meth c H locs cells slots Qr ρ lr S E Dy
  obtain ⟨D0, hb, hL, hw, hs⟩ := Dy
  obtain ⟨hc, hof⟩ := zl_arr S.2.2.2.2.2.2.2.2.1 D0.1 ha
  refine W.aald (v := .null) S.1 S.2.1 hc (hof _ _) rfl (fun q => by cases q) (zl_inb hin) ((arrV_read _ _ (zl_inl hin)).trans ?_) rfl rfl hd (kk w ρ0 s0 p l e R st m args below meth c H locs cells slots Qr ρ lr S E ⟨D0, hb, hL, hw, zl_wc trivial (zl_wt (zl_wt hs))⟩)
  show some (zl_cv ρ s 2 a i.toNatClampNeg) = _
  unfold zl_cv; rw [hr]; rfl
theorem xi_astoreN {i : Nat} (hd : Dc M pc (.astore i) 2 pc') (hs9 : zl_s1 ls i .null = ls') (hi : i < M.2.2.1) (kk : Xw d M mc ms pc' ls' r s Q) : Xw d M mc ms pc ls (.null :: r) s Q := by
  obtain ⟨hd, rfl⟩ := hd
  subst hs9
  intro w ρ0 s0 p l e R st m args below meth c H locs cells slots Qr ρ lr S E Dy
  obtain ⟨D0, hb, hL, hw, hs⟩ := Dy
  exact lv_astoreN S.1 S.2.1 hd hL.has hi rfl (fun lr9 h9 => kk w ρ0 s0 p l e R st m args below meth c H locs cells slots Qr ρ lr9 S E ⟨D0, hb, zl_st1 (v := .null) hL hi h9, zl_s1_wf hw trivial, zl_wt hs⟩)
theorem xi_aload_nN {k : Fin 4} (hd : Dc M pc (.aload_n k) 1 pc') (hl : ls[(k : Nat)]? = some .null) (kk : Xw d M mc ms pc' ls (.null :: r) s Q) : Xw d M mc ms pc ls r s Q := by
  obtain ⟨hd, rfl⟩ := hd
  intro w ρ0 s0 p l e R st m args below meth c H locs cells slots Qr ρ lr S E Dy
  obtain ⟨D0, hb, hL, hw, hs⟩ := Dy
  exact lv_aload_nN S.1 S.2.1 hd rfl (hL.2.2.2 _ _ hl (fun h => by cases h)) (kk w ρ0 s0 p l e R st m args below meth c H locs cells slots Qr ρ lr S E ⟨D0, hb, hL, hw, zl_wc trivial hs⟩)
theorem xi_astore_nN {k : Fin 4} (hd : Dc M pc (.astore_n k) 1 pc') (hs9 : zl_s1 ls (k : Nat) .null = ls') (hi : (k : Nat) < M.2.2.1) (kk : Xw d M mc ms pc' ls' r s Q) : Xw d M mc ms pc ls (.null :: r) s Q := by
  obtain ⟨hd, rfl⟩ := hd
  subst hs9
  intro w ρ0 s0 p l e R st m args below meth c H locs cells slots Qr ρ lr S E Dy
  obtain ⟨D0, hb, hL, hw, hs⟩ := Dy
  exact lv_astore_nN S.1 S.2.1 hd rfl hL.has hi rfl (fun lr9 h9 => kk w ρ0 s0 p l e R st m args below meth c H locs cells slots Qr ρ lr9 S E ⟨D0, hb, zl_st1 (v := .null) hL hi h9, zl_s1_wf hw trivial, zl_wt hs⟩)
theorem xi_aloadN {i : Nat} (hd : Dc M pc (.aload i) 2 pc') (hl : ls[i]? = some .null) (kk : Xw d M mc ms pc' ls (.null :: r) s Q) : Xw d M mc ms pc ls r s Q := by
  obtain ⟨hd, rfl⟩ := hd
  intro w ρ0 s0 p l e R st m args below meth c H locs cells slots Qr ρ lr S E Dy
  obtain ⟨D0, hb, hL, hw, hs⟩ := Dy
  exact lv_aloadN S.1 S.2.1 hd (hL.2.2.2 _ _ hl (fun h => by cases h)) (kk w ρ0 s0 p l e R st m args below meth c H locs cells slots Qr ρ lr S E ⟨D0, hb, hL, hw, zl_wc trivial hs⟩)
theorem xi_iast {a n : Nat} {i : Int32} {x : Int32} (hd : Dc M pc .iastore 1 pc') (ha : zl_ar s a 10 n) (hin : vp_in i n) (kk : Xw d M mc ms pc' ls (r) (uI s a i.toNatClampNeg x) Q) : Xw d M mc ms pc ls (.int x :: .int i :: .ref a :: r) s Q := by
  obtain ⟨hd, rfl⟩ := hd
  intro w ρ0 s0 p l e R st m args below meth c H locs cells slots Qr ρ lr S E Dy
  obtain ⟨D0, hb, hL, hw, hs⟩ := Dy
  obtain ⟨hc, hof⟩ := zl_arr S.2.2.2.2.2.2.2.2.1 D0.1 ha
  exact W.iast S.1 S.2.1 hc (hof _ _) (fun q => by cases q) (zl_inb hin) rfl rfl hd (fun H9 e1 e2 e3 => kk w ρ0 s0 p l e R st m args below meth c H9 _ cells slots Qr ρ lr S E ⟨zl_arrput (s' := uI s a i.toNatClampNeg x) D0 ha e1 e2 e3 (zl_cvI _ _ _ _ _ _ rfl) (fun i9 hi => zl_cvIo _ _ _ _ _ _ _ hi) rfl (zl_uI_o _ _ _ _) (fun j9 b9 h9 => D0.1.2.2.2 a j9 b9 ha.1 ha.2.1 h9), hb, hL, hw, zl_wt (zl_wt (zl_wt hs))⟩)
theorem xi_last {a n : Nat} {i : Int32} {x : Int64} (hd : Dc M pc .lastore 1 pc') (ha : zl_ar s a 11 n) (hin : vp_in i n) (kk : Xw d M mc ms pc' ls (r) (uL s a i.toNatClampNeg x) Q) : Xw d M mc ms pc ls (.long x :: .int i :: .ref a :: r) s Q := by
  obtain ⟨hd, rfl⟩ := hd
  intro w ρ0 s0 p l e R st m args below meth c H locs cells slots Qr ρ lr S E Dy
  obtain ⟨D0, hb, hL, hw, hs⟩ := Dy
  obtain ⟨hc, hof⟩ := zl_arr S.2.2.2.2.2.2.2.2.1 D0.1 ha
  exact W.last S.1 S.2.1 hc (hof _ _) (fun q => by cases q) (zl_inb hin) rfl rfl hd (fun H9 e1 e2 e3 => kk w ρ0 s0 p l e R st m args below meth c H9 _ cells slots Qr ρ lr S E ⟨zl_arrput (s' := uL s a i.toNatClampNeg x) D0 ha e1 e2 e3 (zl_cvL _ _ _ _ _ _ rfl) (fun i9 hi => zl_cvLo _ _ _ _ _ _ _ hi) rfl (zl_uL_o _ _ _ _) (fun j9 b9 h9 => D0.1.2.2.2 a j9 b9 ha.1 ha.2.1 h9), hb, hL, hw, zl_wt (zl_wt (zl_wt hs))⟩)
theorem xi_cast {a n : Nat} {i : Int32} {x : Int32} (hd : Dc M pc .castore 1 pc') (ha : zl_ar s a 12 n) (hin : vp_in i n) (kk : Xw d M mc ms pc' ls (r) (uI s a i.toNatClampNeg (vp_nar .char x)) Q) : Xw d M mc ms pc ls (.int x :: .int i :: .ref a :: r) s Q := by
  obtain ⟨hd, rfl⟩ := hd
  intro w ρ0 s0 p l e R st m args below meth c H locs cells slots Qr ρ lr S E Dy
  obtain ⟨D0, hb, hL, hw, hs⟩ := Dy
  obtain ⟨hc, hof⟩ := zl_arr S.2.2.2.2.2.2.2.2.1 D0.1 ha
  exact W.cast S.1 S.2.1 hc (hof _ _) (fun q => by cases q) (zl_inb hin) rfl rfl hd (fun H9 e1 e2 e3 => kk w ρ0 s0 p l e R st m args below meth c H9 _ cells slots Qr ρ lr S E ⟨zl_arrput (s' := uI s a i.toNatClampNeg (vp_nar .char x)) D0 ha e1 e2 e3 (zl_cvI _ _ _ _ _ _ rfl) (fun i9 hi => zl_cvIo _ _ _ _ _ _ _ hi) rfl (zl_uI_o _ _ _ _) (fun j9 b9 h9 => D0.1.2.2.2 a j9 b9 ha.1 ha.2.1 h9), hb, hL, hw, zl_wt (zl_wt (zl_wt hs))⟩)
theorem xi_zast {a n : Nat} {i : Int32} {x : Int32} (hd : Dc M pc .bastore 1 pc') (ha : zl_ar s a 13 n) (hin : vp_in i n) (kk : Xw d M mc ms pc' ls (r) (uI s a i.toNatClampNeg (vp_nar .boolean x)) Q) : Xw d M mc ms pc ls (.int x :: .int i :: .ref a :: r) s Q := by
  obtain ⟨hd, rfl⟩ := hd
  intro w ρ0 s0 p l e R st m args below meth c H locs cells slots Qr ρ lr S E Dy
  obtain ⟨D0, hb, hL, hw, hs⟩ := Dy
  obtain ⟨hc, hof⟩ := zl_arr S.2.2.2.2.2.2.2.2.1 D0.1 ha
  exact W.zast S.1 S.2.1 hc (hof _ _) (fun q => by cases q) (zl_inb hin) rfl rfl hd (fun H9 e1 e2 e3 => kk w ρ0 s0 p l e R st m args below meth c H9 _ cells slots Qr ρ lr S E ⟨zl_arrput (s' := uI s a i.toNatClampNeg (vp_nar .boolean x)) D0 ha e1 e2 e3 (zl_cvI _ _ _ _ _ _ rfl) (fun i9 hi => zl_cvIo _ _ _ _ _ _ _ hi) rfl (zl_uI_o _ _ _ _) (fun j9 b9 h9 => D0.1.2.2.2 a j9 b9 ha.1 ha.2.1 h9), hb, hL, hw, zl_wt (zl_wt (zl_wt hs))⟩)
theorem xi_aast {a n b : Nat} {i : Int32} (hd : Dc M pc .aastore 1 pc') (ha : zl_ar s a 14 n) (hb9 : zl_at s b 2) (hin : vp_in i n) (kk : Xw d M mc ms pc' ls r (uR s a i.toNatClampNeg (some b)) Q) : Xw d M mc ms pc ls (.ref b :: .int i :: .ref a :: r) s Q := by
  obtain ⟨hd, rfl⟩ := hd
  intro w ρ0 s0 p l e R st m args below meth c H locs cells slots Qr ρ lr S E Dy
  obtain ⟨D0, hb, hL, hw, hs⟩ := Dy
  have RS := S.2.2.2.2.2.2.2.2.1
  obtain ⟨hc, hof⟩ := zl_arr RS D0.1 ha
  have hv := (D0.1.2.1 b hb9.1 hb9.2.1).1
  unfold zl_cell at hv
  rw [hb9.2.2.1, if_pos (by decide)] at hv
  obtain ⟨cellV, g1, g2, g3, -⟩ := hv
  have hcls := (RS.1 2 (by decide)).2
  obtain ⟨kA, comp, k1, k2, k3, -⟩ := (RS.2.1 14 (by decide) (by decide)).2
  have hcomp : comp = w.1.1 2 := Option.some.inj (k3.symm.trans hcls.1)
  subst hcomp
  obtain ⟨kC, hkC, -⟩ := hcls.2
  refine W.aast S.1 S.2.1 hc (fun q h => by cases h) (fun h => by cases h) k1 k2 rfl hkC ⟨fun q => hin (Or.inl q), by rw [arrV_size]; exact zl_inl hin⟩ g1 (fun q h => by rw [g3] at h; cases h) (by rw [g2]; exact hkC) (by rw [g2]; exact va_assign hcls) rfl rfl hd fun H9 e1 e2 e3 => ?_
  exact kk w ρ0 s0 p l e R st m args below meth c H9 _ cells slots Qr ρ lr S E ⟨zl_arrput (s' := uR s a i.toNatClampNeg (some b)) D0 ha e1 e2 e3 (zl_cvR _ _ _ _ _ _ rfl) (fun i9 hi => zl_cvRo _ _ _ _ _ _ _ hi) rfl (zl_uR_o _ _ _ _) (zl_uR_wf (fun j9 b9 h9 => D0.1.2.2.2 a j9 b9 ha.1 ha.2.1 h9) hb9.2.1), hb, hL, hw, zl_wt (zl_wt (zl_wt hs))⟩
theorem zl_ext.ro {w : Om} {ρ0 ρ : Nat → Nat} {s0 : Sg} {st : State} {H : Heap} {locs : List Loc} (hx : zl_ext ρ0 s0 ρ s) (hR : zl_RO w ρ0 s0.1 st st.heap) (hS : va_S (zl_A w) st.heap H locs) : zl_RO w ρ s.1 st H := (hR.kept hS.1 hS.2.1).congr (fun a ha => hx.2.1 a (Nat.lt_of_lt_of_le ha hx.2.2.2)) (fun a j ha => hx.2.2.1 a j ha)
/-- the script -/
theorem xi_sld {i : Int32} (hd : Dc M pc .iaload 1 pc') (hin : vp_in i (mI s 0 4000).toNatClampNeg) (kk : Xw d M mc ms pc' ls (.int (mI s 0 i.toNatClampNeg) :: r) s Q) : Xw d M mc ms pc ls (.int i :: .ref 0 :: r) s Q := by
  obtain ⟨hd, rfl⟩ := hd
  intro w ρ0 s0 p l e R st m args below meth c H locs cells slots Qr ρ lr S E Dy
  obtain ⟨D0, hb, hL, hw, hs⟩ := Dy
  have hO := D0.2.2.1.ro S.2.2.2.2.2.2.2.2.2.1 D0.2.1
  obtain ⟨⟨⟨scr, h1, h2, h3, h4, h5⟩, -, -, hq9⟩, -⟩ := hO
  have hL9 : (mI s 0 4000).toNatClampNeg ≤ w.2.2.2 := Nat.le_of_eq hq9.symm
  have hlt := zl_inl hin
  exact W.iald (v := .int (mI s 0 i.toNatClampNeg)) S.1 S.2.1 h1 h2 h3 (by rw [h4]; exact fun q => q.elim (fun q => hin (Or.inl q)) (fun q => absurd hlt (Nat.not_lt.mpr (Nat.le_trans hL9 q)))) (h5 _ (Nat.lt_of_lt_of_le hlt hL9)) rfl rfl hd (kk w ρ0 s0 p l e R st m args below meth c H locs cells slots Qr ρ lr S E ⟨D0, hb, hL, hw, zl_wi (zl_wt (zl_wt hs))⟩)
theorem xi_slen (hd : Dc M pc .arraylength 1 pc') (hn : ¬ mI s 0 4000 < 0) (kk : Xw d M mc ms pc' ls (.int (mI s 0 4000) :: r) s Q) : Xw d M mc ms pc ls (.ref 0 :: r) s Q := by
  obtain ⟨hd, rfl⟩ := hd
  intro w ρ0 s0 p l e R st m args below meth c H locs cells slots Qr ρ lr S E Dy
  obtain ⟨D0, hb, hL, hw, hs⟩ := Dy
  have hO := D0.2.2.1.ro S.2.2.2.2.2.2.2.2.2.1 D0.2.1
  obtain ⟨⟨⟨scr, h1, h2, h3, h4, h5⟩, -, -, hq9⟩, -⟩ := hO
  have e9 : scr.slots.size.toInt32 = mI s 0 4000 := by
    rw [h4, hq9]
    show Int32.ofNat (Int32.toNatClampNeg (mI s 0 4000)) = mI s 0 4000
    rw [Int32.lt_iff_toInt_lt] at hn
    apply Int32.toInt_inj.mp
    have h31 := Int32.toInt_lt (mI s 0 4000)
    have h0 : ¬ (mI s 0 4000).toInt < 0 := hn
    rw [Int32.toInt_ofNat_of_lt (by show (mI s 0 4000).toInt.toNat < 2 ^ 31; omega)]
    show (((mI s 0 4000).toInt.toNat : Nat) : Int) = _
    omega
  exact W.alen (n := mI s 0 4000) S.1 S.2.1 h1 h2 e9 rfl rfl hd (kk w ρ0 s0 p l e R st m args below meth c H locs cells slots Qr ρ lr S E ⟨D0, hb, hL, hw, zl_wi (zl_wt hs)⟩)
/-- the table of orders -/
theorem xi_old {i : Int32} (hd : Dc M pc .iaload 1 pc') (hin : vp_in i 16) (kk : Xw d M mc ms pc' ls (.int (mI s 1 i.toNatClampNeg) :: r) s Q) : Xw d M mc ms pc ls (.int i :: .ref 1 :: r) s Q := by
  obtain ⟨hd, rfl⟩ := hd
  intro w ρ0 s0 p l e R st m args below meth c H locs cells slots Qr ρ lr S E Dy
  obtain ⟨D0, hb, hL, hw, hs⟩ := Dy
  have hO := D0.2.2.1.ro S.2.2.2.2.2.2.2.2.2.1 D0.2.1
  obtain ⟨-, ⟨cell, h1, h2, h3, h4, h5, h6, h7⟩, -⟩ := hO
  have hlt := zl_inl hin
  exact W.iald (v := .int (mI s 1 i.toNatClampNeg)) S.1 S.2.1 h1 h2 h3 (fun q => q.elim (fun q => hin (Or.inl q)) (fun q => absurd hlt (Nat.not_lt.mpr (Nat.le_trans h4 q)))) (h6 _ hlt) rfl rfl hd (kk w ρ0 s0 p l e R st m args below meth c H locs cells slots Qr ρ lr S E ⟨D0, hb, hL, hw, zl_wi (zl_wt (zl_wt hs))⟩)
/-- the bytes of the text of signs -/
theorem xi_byld {i : Int32} (hd : Dc M pc .baload 1 pc') (hin : vp_in i 8) (kk : Xw d M mc ms pc' ls (.int (mI s 3 i.toNatClampNeg) :: r) s Q) : Xw d M mc ms pc ls (.int i :: .ref 3 :: r) s Q := by
  obtain ⟨hd, rfl⟩ := hd
  intro w ρ0 s0 p l e R st m args below meth c H locs cells slots Qr ρ lr S E Dy
  obtain ⟨D0, hb, hL, hw, hs⟩ := Dy
  have hO := D0.2.2.1.ro S.2.2.2.2.2.2.2.2.2.1 D0.2.1
  obtain ⟨-, -, -, -, -, -, ⟨cell, h1, h2, h3, h4, h5, h6, h7⟩, -⟩ := hO
  have hlt := zl_inl hin
  exact W.bald (v := .int (mI s 3 i.toNatClampNeg)) S.1 S.2.1 h1 h2 h3 (fun q => q.elim (fun q => hin (Or.inl q)) (fun q => absurd hlt (Nat.not_lt.mpr (Nat.le_trans h4 q)))) (h6 _ hlt) rfl rfl hd (kk w ρ0 s0 p l e R st m args below meth c H locs cells slots Qr ρ lr S E ⟨D0, hb, hL, hw, zl_wi (zl_wt (zl_wt hs))⟩)
theorem xi_bylen (hd : Dc M pc .arraylength 1 pc') (kk : Xw d M mc ms pc' ls (.int 8 :: r) s Q) : Xw d M mc ms pc ls (.ref 3 :: r) s Q := by
  obtain ⟨hd, rfl⟩ := hd
  intro w ρ0 s0 p l e R st m args below meth c H locs cells slots Qr ρ lr S E Dy
  obtain ⟨D0, hb, hL, hw, hs⟩ := Dy
  have hO := D0.2.2.1.ro S.2.2.2.2.2.2.2.2.2.1 D0.2.1
  obtain ⟨-, -, -, -, -, -, ⟨cell, h1, h2, h3, h4, h5, h6, h7⟩, -⟩ := hO
  exact W.alen (n := 8) S.1 S.2.1 h1 h2 h5 rfl rfl hd (kk w ρ0 s0 p l e R st m args below meth c H locs cells slots Qr ρ lr S E ⟨D0, hb, hL, hw, zl_wi (zl_wt hs)⟩)
theorem xi_orders {idx : Nat} (hd : Dc M pc (.getstatic idx) 3 pc') (hf : Cond.fieldLink M.1.cls idx "WhoseKiln$Turns" "ORDERS" "[I" ∈ zn_G) (kk : Xw d M mc ms pc' ls (.ref 1 :: r) s Q) : Xw d M mc ms pc ls r s Q := by
  obtain ⟨hd, rfl⟩ := hd
  intro w ρ0 s0 p l e R st m args below meth c H locs cells slots Qr ρ lr S E Dy
  obtain ⟨D0, hb, hL, hw, hs⟩ := Dy
  have hO := D0.2.2.1.ro S.2.2.2.2.2.2.2.2.2.1 D0.2.1
  obtain ⟨-, -, ⟨cf, kf, fi, f, a, cell, h1, h2, h3, h4, h5, h6, h7, h8⟩, -⟩ := hO
  exact W.gets S.1 S.2.1 S.2.2.2.2.1 (S.2.2.2.2.2.1 _ hf) h1 h2 h3 h4 h5 (fun e => by rw [e] at h6; cases h6) h7 rfl hd (kk w ρ0 s0 p l e R st m args below meth c H locs cells slots Qr ρ lr S E ⟨D0, hb, hL, hw, zl_wc (Nat.lt_of_lt_of_le (by decide) (Nat.le_trans D0.2.2.1.2.2.2 D0.2.2.1.1)) hs⟩)
theorem xi_compact {idx : Nat} (hd : Dc M pc (.getstatic idx) 3 pc') (hf : Cond.fieldLink M.1.cls idx "java/lang/String" "COMPACT_STRINGS" "Z" ∈ zn_G) (kk : Xw d M mc ms pc' ls (.int 1 :: r) s Q) : Xw d M mc ms pc ls r s Q := by
  obtain ⟨hd, rfl⟩ := hd
  intro w ρ0 s0 p l e R st m args below meth c H locs cells slots Qr ρ lr S E Dy
  obtain ⟨D0, hb, hL, hw, hs⟩ := Dy
  have hO := D0.2.2.1.ro S.2.2.2.2.2.2.2.2.2.1 D0.2.1
  obtain ⟨-, -, -, -, -, -, -, ⟨cf, kf, fi, f, a, cell, h1, h2, h3, h4, h5, h6, h7, h8⟩, -⟩ := hO
  exact W.gets S.1 S.2.1 S.2.2.2.2.1 (S.2.2.2.2.2.1 _ hf) h1 h2 h3 h4 h5 (fun e => by rw [e] at h6; cases h6) h7 rfl hd (kk w ρ0 s0 p l e R st m args below meth c H locs cells slots Qr ρ lr S E ⟨D0, hb, hL, hw, zl_wi hs⟩)
theorem xi_strval {idx : Nat} (hd : Dc M pc (.getfield idx) 3 pc') (hf : Cond.fieldLink M.1.cls idx "java/lang/String" "value" "[B" ∈ zn_G) (kk : Xw d M mc ms pc' ls (.ref 3 :: r) s Q) : Xw d M mc ms pc ls (.ref 2 :: r) s Q := by
  obtain ⟨hd, rfl⟩ := hd
  intro w ρ0 s0 p l e R st m args below meth c H locs cells slots Qr ρ lr S E Dy
  obtain ⟨D0, hb, hL, hw, hs⟩ := Dy
  have hO := D0.2.2.1.ro S.2.2.2.2.2.2.2.2.2.1 D0.2.1
  obtain ⟨-, -, -, -, -, ⟨cf, k, fi, f, cell, h1, h2, h3, h4, h5, h6⟩, -⟩ := hO
  exact W.getf S.1 S.2.1 S.2.2.2.2.1 (S.2.2.2.2.2.1 _ hf) h1 h2 h3 h4 h5 rfl rfl hd (kk w ρ0 s0 p l e R st m args below meth c H locs cells slots Qr ρ lr S E ⟨D0, hb, hL, hw, zl_wc (Nat.lt_of_lt_of_le (by decide) (Nat.le_trans D0.2.2.1.2.2.2 D0.2.2.1.1)) (zl_wt hs)⟩)
theorem xi_strcod {idx : Nat} (hd : Dc M pc (.getfield idx) 3 pc') (hf : Cond.fieldLink M.1.cls idx "java/lang/String" "coder" "B" ∈ zn_G) (kk : Xw d M mc ms pc' ls (.int 0 :: r) s Q) : Xw d M mc ms pc ls (.ref 2 :: r) s Q := by
  obtain ⟨hd, rfl⟩ := hd
  intro w ρ0 s0 p l e R st m args below meth c H locs cells slots Qr ρ lr S E Dy
  obtain ⟨D0, hb, hL, hw, hs⟩ := Dy
  have hO := D0.2.2.1.ro S.2.2.2.2.2.2.2.2.2.1 D0.2.1
  obtain ⟨-, -, -, -, ⟨cf, k, fi, f, cell, h1, h2, h3, h4, h5, h6⟩, -⟩ := hO
  exact W.getf S.1 S.2.1 S.2.2.2.2.1 (S.2.2.2.2.2.1 _ hf) h1 h2 h3 h4 h5 rfl rfl hd (kk w ρ0 s0 p l e R st m args below meth c H locs cells slots Qr ρ lr S E ⟨D0, hb, hL, hw, zl_wi (zl_wt hs)⟩)
theorem xi_signs (hd : Dc M pc (.ldc 133) 2 pc') (hc : M.1.cls = "WhoseKiln$Reader") (kk : Xw d M mc ms pc' ls (.ref 2 :: r) s Q) : Xw d M mc ms pc ls r s Q := by
  obtain ⟨hd, rfl⟩ := hd
  intro w ρ0 s0 p l e R st m args below meth c H locs cells slots Qr ρ lr S E Dy
  obtain ⟨D0, hb, hL, hw, hs⟩ := Dy
  have h4 : 2 < mN s0 := Nat.lt_of_lt_of_le (by decide) D0.2.2.1.2.2.2
  have hR := S.2.2.2.2.2.2.2.2.1.2.2.2.2.2
  rw [← D0.2.2.1.2.1 2 h4] at hR
  exact va_ldcS S.1 S.2.1 (by rw [← hc]; exact S.2.2.2.2.1) hR hd (kk w ρ0 s0 p l e R st m args below meth c H locs cells slots Qr ρ lr S E ⟨D0, hb, hL, hw, zl_wc (Nat.lt_of_lt_of_le h4 D0.2.2.1.1) hs⟩)
end
