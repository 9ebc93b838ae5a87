section
variable {d : Nat} {M : MD} {mc ms pc pc' tgt : Nat} {ls ls' r : List Value} {s : Sg} {Q : Option (Option Value) → Sg → Prop}
def zl_rn (ρ : Nat → Nat) (n x : Nat) : Nat → Nat := fun a => if a = n then x else ρ a
theorem zl_rn_lt {ρ : Nat → Nat} {n x : Nat} : ∀ a, a < n → zl_rn ρ n x a = ρ a := fun a h => if_neg (Nat.ne_of_lt h)
theorem zl_rn_at {ρ : Nat → Nat} {n x : Nat} : zl_rn ρ n x n = x := if_pos rfl
theorem zl_uN_o (s : Sg) {b : Nat} (hb : b ≠ mN s) (j : Nat) : mI (uN s) b j = mI s b j ∧ mL (uN s) b j = mL s b j ∧ mR (uN s) b j = mR s b j := ⟨if_neg hb, if_neg hb, if_neg hb⟩
theorem zl_uN_n (s : Sg) (j : Nat) : mI (uN s) (mN s) j = 0 ∧ mL (uN s) (mN s) j = 0 ∧ mR (uN s) (mN s) j = none := ⟨if_pos rfl, if_pos rfl, if_pos rfl⟩
theorem zl_cell.lt {w : Om} {ρ : Nat → Nat} {a : Nat} {H : Heap} (h : zl_cell w ρ s a H) : ρ a < H.size := by
  unfold zl_cell at h
  split at h
  · obtain ⟨cell, q1, -⟩ := h
    exact (Array.getElem?_eq_some_iff.mp q1).1
  · exact (Array.getElem?_eq_some_iff.mp h).1
theorem zl_cell.ext {w : Om} {ρ ρ' : Nat → Nat} {s' : Sg} {a n : Nat} {H H' : Heap} (h : zl_cell w ρ s a H) (hH : H'[ρ a]? = H[ρ a]?) (ha : ρ' a = ρ a) (hr : ∀ b, b < n → ρ' b = ρ b) (hw : ∀ j b, mR s a j = some b → b < n) (h1 : ∀ j, mI s' a j = mI s a j) (h2 : ∀ j, mL s' a j = mL s a j) (h3 : ∀ j, mR s' a j = mR s a j) : zl_cell w ρ' s' a H' := by
  have e : ∀ t j, zl_cv ρ' s' t a j = zl_cv ρ s t a j := fun t j => by
    unfold zl_cv
    rw [h1, h2, h3]
    cases hm : mR s a j with
    | none => rfl
    | some b =>
      have h9 : zl_ro ρ' (some b) = zl_ro ρ (some b) := congrArg Value.ref (hr b (hw j b hm))
      rw [h9]
  unfold zl_cell at h ⊢
  rw [ha]
  split
  · next hk =>
    rw [if_pos hk] at h
    exact (h.kept hH).to fun k _ => (e _ k).symm
  · next hk =>
    rw [if_neg hk] at h
    rw [hH, h]
    congr 2
    exact funext fun j => (e _ j).symm
theorem zl_own.new {w : Om} {ρ : Nat → Nat} {H H1 : Heap} (h : zl_own w ρ s H) (hz : H1.size = H.size + 1) (ho : ∀ q, q < H.size → H1[q]? = H[q]?) (hc : zl_cell w (zl_rn ρ (mN s) H.size) (uN s) (mN s) H1) : zl_own w (zl_rn ρ (mN s) H.size) (uN s) H1 := by
  have hN : mN (uN s) = mN s + 1 := rfl
  refine ⟨by rw [hz]; exact Nat.le_succ_of_le h.1, fun b h1 h2 => ?_, fun a b h1 h2 h3 h4 h5 => ?_, fun a j b h1 h2 h3 => ?_⟩
  · by_cases hb : b = mN s
    · subst hb
      exact ⟨hc, by rw [zl_rn_at]; exact h.1⟩
    · have hlt : b < mN s := by omega
      obtain ⟨g1, g2⟩ := h.2.1 b h1 hlt
      exact ⟨g1.ext (ho _ g1.lt) (zl_rn_lt b hlt) (fun c hc => zl_rn_lt c hc) (fun j c hj => h.2.2.2 b j c h1 hlt hj) (fun j => (zl_uN_o s hb j).1) (fun j => (zl_uN_o s hb j).2.1) (fun j => (zl_uN_o s hb j).2.2), by rw [zl_rn_lt b hlt]; exact g2⟩
  · by_cases ha : a = mN s <;> by_cases hb : b = mN s
    · rw [ha, hb]
    · have hlt : b < mN s := by omega
      rw [ha, zl_rn_at, zl_rn_lt b hlt] at h5
      have := (h.2.1 b h3 hlt).1.lt
      omega
    · have hlt : a < mN s := by omega
      rw [hb, zl_rn_at, zl_rn_lt a hlt] at h5
      have := (h.2.1 a h1 hlt).1.lt
      omega
    · rw [zl_rn_lt a (by omega), zl_rn_lt b (by omega)] at h5
      exact h.2.2.1 a b h1 (by omega) h3 (by omega) h5
  · by_cases ha : a = mN s
    · rw [ha, (zl_uN_n s j).2.2] at h3; cases h3
    · rw [(zl_uN_o s ha j).2.2] at h3
      have := h.2.2.2 a j b h1 (by omega) h3
      omega
theorem zl_D0.new {w : Om} {ρ0 ρ : Nat → Nat} {s0 : Sg} {R : Room} {st : State} {H H1 : Heap} {locs : List Loc} {cells slots k : Nat} (h : zl_D0 w ρ0 s0 ρ s R st H locs cells slots) (hz : H1.size = H.size + 1) (ho : ∀ q, q < H.size → H1[q]? = H[q]?) (hc : zl_cell w (zl_rn ρ (mN s) H.size) (uN s) (mN s) H1) (h1 : cells + 1 ≤ R.cells) (h2 : slots + k ≤ R.slots) : zl_D0 w ρ0 s0 (zl_rn ρ (mN s) H.size) (uN s) R st H1 locs (cells + 1) (slots + k) :=
  ⟨h.1.new hz ho hc, ⟨Nat.le_trans h.2.1.1 (by omega), fun x a b => (ho x (Nat.lt_of_lt_of_le a h.2.1.1)).trans (h.2.1.2.1 x a b), h.2.1.2.2⟩, h.2.2.1.trans ⟨Nat.le_succ _, fun a ha => zl_rn_lt a ha, fun a j ha => (zl_uN_o s (by have := h.2.2.1.2.2.2; have := h.2.2.1.1; omega) j).1, Nat.le_trans h.2.2.1.2.2.2 h.2.2.1.1⟩, h1, h2⟩
theorem xi_new {idx k : Nat} (hd : Dc M pc (.new idx) 3 pc') (hcl : Cond.classLink M.1.cls idx (zn_R k) ∈ zn_G) (hin : Cond.instantiable (zn_R k) (zn_N k) ∈ zn_G) (hini : Cond.initialized (zn_R k) ∈ zn_G) (hk : k < 7) (hsh : (zn_SH (mN s)).1 = k) (hm : 1 ≤ mc ∧ zn_N k ≤ ms)
    (kk : Xw d M (mc - 1) (ms - zn_N k) pc' ls (.ref (mN s) :: r) (uN s) Q) : Xw d M mc ms pc ls r s Q := by
  obtain ⟨hd, rfl⟩ := hd
  intro w ρ0 s0 p l e R st m args below meth c H locs cells slots Qr ρ lr S E Dy
  obtain ⟨D0, hb, hL, hw, hs⟩ := Dy
  have hts := S.2.2.2.2.2.1
  have hKn := S.2.2.2.2.2.2.2.2.1.1 k hk
  refine W.newcK S.1 S.2.1 S.2.2.2.2.1 (hts _ hcl) (hts _ hin) (hts _ hini) rfl hd (by omega) (by omega) hKn.2.1 rfl fun H1 kC hkC e1 z1 o1 => ?_
  have hcell : zl_cell w (zl_rn ρ (mN s) H.size) (uN s) (mN s) H1 := by
    unfold zl_cell
    rw [hsh, if_pos hk, zl_rn_at]
    refine (u_born (zn_ty k) hts (zn_lays k hk) hKn hkC e1 (zn_ty_ok k hk)).to fun j hj => ?_
    rw [zn_ty_df k hk j hj]
    unfold zl_cv
    rw [(zl_uN_n s j).1, (zl_uN_n s j).2.1, (zl_uN_n s j).2.2]
    rfl
  have k9 := kk w ρ0 s0 p l e R st m args below meth c H1 locs (cells + 1) (slots + zn_N k) Qr (zl_rn ρ (mN s) H.size) lr S E ⟨D0.new z1 o1 hcell (by omega) (by omega), ⟨by omega, by omega⟩, hL.ext (fun a ha => zl_rn_lt a ha) hw, zl_wfs.mono (Nat.le_succ _) hw, zl_wc (Nat.lt_succ_self _) (zl_wfs.mono (Nat.le_succ _) hs)⟩
  have e2 : (Value.ref (mN s) :: r).map (zl_rv (zl_rn ρ (mN s) H.size)) = .ref H.size :: r.map (zl_rv ρ) := by
    rw [List.map_cons, zl_map_ext (fun a ha => zl_rn_lt a ha) hs]
    show Value.ref (zl_rn ρ (mN s) H.size (mN s)) :: _ = _
    rw [zl_rn_at]
  rw [e2] at k9
  exact k9
theorem xi_newa {atype : ArrayType} {k n : Nat} {i : Int32} (hd : Dc M pc (.newarray atype) 2 pc') (hty : newarray.typeOf atype = zn_kty k) (hac : Cond.arrayClass (newarray.typeOf atype) ∈ zn_G) (hk : 10 ≤ k ∧ k < 14) (hn : ¬ i < 0 ∧ i.toNatClampNeg = n ∧ n ≤ 40000) (hsh : zn_SH (mN s) = (k, n)) (hm : 1 ≤ mc ∧ n ≤ ms)
    (kk : Xw d M (mc - 1) (ms - n) pc' ls (.ref (mN s) :: r) (uN s) Q) : Xw d M mc ms pc ls (.int i :: r) s Q := by
  obtain ⟨hd, rfl⟩ := hd
  intro w ρ0 s0 p l e R st m args below meth c H locs cells slots Qr ρ lr S E Dy
  obtain ⟨D0, hb, hL, hw, hs⟩ := Dy
  have hts := S.2.2.2.2.2.1
  have hra := (S.2.2.2.2.2.2.2.2.1.2.1 k hk.1 (by omega)).2
  have hcb : n * componentBytes (newarray.typeOf atype) ≤ 536870912 := by
    have : componentBytes (newarray.typeOf atype) ≤ 8 := by cases atype <;> decide
    exact Nat.le_trans (Nat.mul_le_mul hn.2.2 this) (by decide)
  refine va_newaK S.1 S.2.1 (hts _ hac) rfl hd rfl hn.1 hn.2.1 hcb (by omega) (by omega) rfl fun H1 cA e1 z1 o1 hAr hNm => ?_
  have hcA : cA = w.2.1 k := by
    rw [hty] at hNm
    have h4 : k = 10 ∨ k = 11 ∨ k = 12 ∨ k = 13 := by omega
    rcases h4 with rfl | rfl | rfl | rfl <;> exact Option.some.inj (hNm.symm.trans hra)
  have hdf : defaultValue (newarray.typeOf atype) = (if zn_kt k = 0 then .int 0 else if zn_kt k = 1 then .long 0 else .null) := by
    rw [hty]
    have h4 : k = 10 ∨ k = 11 ∨ k = 12 ∨ k = 13 := by omega
    rcases h4 with rfl | rfl | rfl | rfl <;> rfl
  have hcell : zl_cell w (zl_rn ρ (mN s) H.size) (uN s) (mN s) H1 := by
    unfold zl_cell
    rw [hsh, if_neg (show ¬ k < 7 by omega), zl_rn_at, e1, hcA]
    congr 2
    funext j
    rw [hdf]
    unfold zl_cv
    rw [(zl_uN_n s j).1, (zl_uN_n s j).2.1, (zl_uN_n s j).2.2]
    rfl
  have k9 := kk w ρ0 s0 p l e R st m args below meth c H1 locs (cells + 1) (slots + n) Qr (zl_rn ρ (mN s) H.size) lr S E ⟨D0.new z1 o1 hcell (by omega) (by omega), ⟨by omega, by omega⟩, hL.ext (fun a ha => zl_rn_lt a ha) hw, zl_wfs.mono (Nat.le_succ _) hw, zl_wc (Nat.lt_succ_self _) (zl_wfs.mono (Nat.le_succ _) (zl_wt hs))⟩
  have e2 : (Value.ref (mN s) :: r).map (zl_rv (zl_rn ρ (mN s) H.size)) = .ref H.size :: r.map (zl_rv ρ) := by
    rw [List.map_cons, zl_map_ext (fun a ha => zl_rn_lt a ha) (zl_wt hs)]
    show Value.ref (zl_rn ρ (mN s) H.size (mN s)) :: _ = _
    rw [zl_rn_at]
  rw [e2] at k9
  exact k9
theorem xi_newq {idx n : Nat} {i : Int32} (hd : Dc M pc (.anewarray idx) 3 pc') (hcl : Cond.classLink M.1.cls idx "WhoseKiln$Told" ∈ zn_G) (hn : ¬ i < 0 ∧ i.toNatClampNeg = n ∧ n ≤ 40000) (hsh : zn_SH (mN s) = (14, n)) (hm : 1 ≤ mc ∧ n ≤ ms)
    (kk : Xw d M (mc - 1) (ms - n) pc' ls (.ref (mN s) :: r) (uN s) Q) : Xw d M mc ms pc ls (.int i :: r) s Q := by
  obtain ⟨hd, rfl⟩ := hd
  intro w ρ0 s0 p l e R st m args below meth c H locs cells slots Qr ρ lr S E Dy
  obtain ⟨D0, hb, hL, hw, hs⟩ := Dy
  have hts := S.2.2.2.2.2.1
  have RS := S.2.2.2.2.2.2.2.2.1
  obtain ⟨kA9, comp9, -, -, -, hra⟩ := (RS.2.1 14 (by decide) (by decide)).2
  refine W.anew S.1 S.2.1 S.2.2.2.2.1 (hts _ hcl) (va_AO.use RS.2.2.2.2.1) rfl hd rfl hn.1 (by rw [hn.2.1]; omega) (by omega) (by rw [hn.2.1]; omega) fun cA kA comp f1 f2 f3 f4 => ?_
  generalize hH1 : H.push ({ cls := cA, slots := Array.replicate i.toNatClampNeg .null, vm := .none } : Cell) = H1
  have z1 : H1.size = H.size + 1 := by rw [← hH1, Array.size_push]
  have e1 : H1[H.size]? = some (arrV cA i.toNatClampNeg (fun _ => .null)) := by rw [← hH1, Array.getElem?_push_size, ← arrV_new]
  have o1 : ∀ q : Nat, q < H.size → H1[q]? = H[q]? := fun q hq => by rw [← hH1, Array.getElem?_push, if_neg (Nat.ne_of_lt hq)]
  have hcA : cA = w.2.1 14 := Option.some.inj (f1.symm.trans hra)
  have hcell : zl_cell w (zl_rn ρ (mN s) H.size) (uN s) (mN s) H1 := by
    unfold zl_cell
    rw [hsh, if_neg (show ¬ (14 : Nat) < 7 by decide), zl_rn_at, e1, hcA, hn.2.1]
    congr 2
    funext j
    unfold zl_cv
    rw [(zl_uN_n s j).1, (zl_uN_n s j).2.1, (zl_uN_n s j).2.2]
    rfl
  have k9 := kk w ρ0 s0 p l e R st m args below meth c H1 locs (cells + 1) (slots + n) Qr (zl_rn ρ (mN s) H.size) lr S E ⟨D0.new z1 o1 hcell (by omega) (by omega), ⟨by omega, by omega⟩, hL.ext (fun a ha => zl_rn_lt a ha) hw, zl_wfs.mono (Nat.le_succ _) hw, zl_wc (Nat.lt_succ_self _) (zl_wfs.mono (Nat.le_succ _) (zl_wt hs))⟩
  have e2 : (Value.ref (mN s) :: r).map (zl_rv (zl_rn ρ (mN s) H.size)) = .ref H.size :: r.map (zl_rv ρ) := by
    rw [List.map_cons, zl_map_ext (fun a ha => zl_rn_lt a ha) (zl_wt hs)]
    show Value.ref (zl_rn ρ (mN s) H.size (mN s)) :: _ = _
    rw [zl_rn_at]
  rw [e2] at k9
  rw [hn.2.1]
  exact k9
theorem xi_objInit {idx b : Nat} (hd : Dc M pc (.invokespecial idx) 3 pc') (hl : Cond.methodLink M.1.cls idx Lib.objectInit ∈ zn_G) (hd1 : 1 ≤ d ∧ (r.map fun v => v.category).sum ≤ 8) (kk : Xw d M mc ms pc' ls r s Q) : Xw d M mc ms pc ls (.ref b :: r) s Q := by
  obtain ⟨hd, rfl⟩ := hd
  intro w ρ0 s0 p l e R st m args below meth c H locs cells slots Qr ρ lr S E Dy
  obtain ⟨D0, hb, hL, hw, hs⟩ := Dy
  have hts := S.2.2.2.2.2.1
  have hrm := S.2.2.2.2.2.2.2.1
  exact W.objInit S.1 S.2.1 S.2.2.2.2.1 (hts _ hl) (hts _ (zn_in 26 (by decide +kernel) rfl)) (hts _ (zn_in 27 (by decide +kernel) rfl)) rfl (hL.1.trans S.2.2.2.1.symm) rfl hd (by omega) (by rw [zl_catsum]; show 2 * 0 + _ + 12 ≤ _; omega) (kk w ρ0 s0 p l e R st m args below meth c H locs cells slots Qr ρ lr S E ⟨D0, hb, hL, hw, zl_wt hs⟩)
theorem zl_math : Cond.static Lib.Math.max.name ∈ zn_G ∧ Cond.static Lib.Math.min.name ∈ zn_G ∧ Cond.static Lib.MathLoose.max_long.x ∈ zn_G ∧ Cond.static Lib.MathLoose.min_long.x ∈ zn_G ∧ Cond.initialized "java/lang/Math" ∈ zn_G ∧ Cond.code Lib.Math.max.name Lib.Math.max.code 2 (some .int) ∈ zn_G ∧ Cond.code Lib.Math.min.name Lib.Math.min.code 2 (some .int) ∈ zn_G ∧ Cond.code Lib.MathLoose.max_long.x Lib.MathLoose.max_long.code 4 (some .long) ∈ zn_G ∧ Cond.code Lib.MathLoose.min_long.x Lib.MathLoose.min_long.code 4 (some .long) ∈ zn_G := by
  have h : ([Cond.static Lib.Math.max.name, Cond.static Lib.Math.min.name, Cond.static Lib.MathLoose.max_long.x, Cond.static Lib.MathLoose.min_long.x, Cond.initialized "java/lang/Math", Cond.code Lib.Math.max.name Lib.Math.max.code 2 (some .int), Cond.code Lib.Math.min.name Lib.Math.min.code 2 (some .int), Cond.code Lib.MathLoose.max_long.x Lib.MathLoose.max_long.code 4 (some .long), Cond.code Lib.MathLoose.min_long.x Lib.MathLoose.min_long.code 4 (some .long)] : List Cond).all (fun x => decide (x ∈ tables_1) && goodWord x) = true := by decide +kernel
  have k : ∀ x ∈ ([Cond.static Lib.Math.max.name, Cond.static Lib.Math.min.name, Cond.static Lib.MathLoose.max_long.x, Cond.static Lib.MathLoose.min_long.x, Cond.initialized "java/lang/Math", Cond.code Lib.Math.max.name Lib.Math.max.code 2 (some .int), Cond.code Lib.Math.min.name Lib.Math.min.code 2 (some .int), Cond.code Lib.MathLoose.max_long.x Lib.MathLoose.max_long.code 4 (some .long), Cond.code Lib.MathLoose.min_long.x Lib.MathLoose.min_long.code 4 (some .long)] : List Cond), x ∈ zn_G := fun x hx => by
    have h1 := List.all_eq_true.mp h x hx
    simp only [Bool.and_eq_true, decide_eq_true_eq] at h1
    exact List.mem_filter.mpr ⟨List.mem_append_right _ h1.1, h1.2⟩
  exact ⟨k _ (by simp), k _ (by simp), k _ (by simp), k _ (by simp), k _ (by simp), k _ (by simp), k _ (by simp), k _ (by simp), k _ (by simp)⟩
theorem xi_maxi {idx : Nat} {x y : Int32} (hd : Dc M pc (.invokestatic idx) 3 pc') (hl : Cond.methodLink M.1.cls idx Lib.Math.max.name ∈ zn_G) (hd1 : 1 ≤ d ∧ (r.map fun v => v.category).sum ≤ 8) (kk : Xw d M mc ms pc' ls (.int (if x < y then y else x) :: r) s Q) : Xw d M mc ms pc ls (.int y :: .int x :: r) s Q := by
  obtain ⟨hd, rfl⟩ := hd
  intro w ρ0 s0 p l e R st m args below meth c H locs cells slots Qr ρ lr S E Dy
  obtain ⟨D0, hb, hL, hw, hs⟩ := Dy
  have hts := S.2.2.2.2.2.1
  have hrm := S.2.2.2.2.2.2.2.1
  exact va_mmax S.1 S.2.1 (S.2.2.2.1.trans hL.1.symm) S.2.2.2.2.1 (hts _ hl) (hts _ zl_math.1) (hts _ zl_math.2.2.2.2.1) (hts _ zl_math.2.2.2.2.2.1) (by omega) (by rw [zl_catsum]; omega) (by omega) (by omega) hd (kk w ρ0 s0 p l e R st m args below meth c H locs cells slots Qr ρ lr S E ⟨D0, hb, hL, hw, zl_wi (zl_wt (zl_wt hs))⟩)
theorem xi_mini {idx : Nat} {x y : Int32} (hd : Dc M pc (.invokestatic idx) 3 pc') (hl : Cond.methodLink M.1.cls idx Lib.Math.min.name ∈ zn_G) (hd1 : 1 ≤ d ∧ (r.map fun v => v.category).sum ≤ 8) (kk : Xw d M mc ms pc' ls (.int (if y < x then y else x) :: r) s Q) : Xw d M mc ms pc ls (.int y :: .int x :: r) s Q := by
  obtain ⟨hd, rfl⟩ := hd
  intro w ρ0 s0 p l e R st m args below meth c H locs cells slots Qr ρ lr S E Dy
  obtain ⟨D0, hb, hL, hw, hs⟩ := Dy
  have hts := S.2.2.2.2.2.1
  have hrm := S.2.2.2.2.2.2.2.1
  exact va_mmin S.1 S.2.1 (S.2.2.2.1.trans hL.1.symm) S.2.2.2.2.1 (hts _ hl) (hts _ zl_math.2.1) (hts _ zl_math.2.2.2.2.1) (hts _ zl_math.2.2.2.2.2.2.1) (by omega) (by rw [zl_catsum]; omega) (by omega) (by omega) hd (kk w ρ0 s0 p l e R st m args below meth c H locs cells slots Qr ρ lr S E ⟨D0, hb, hL, hw, zl_wi (zl_wt (zl_wt hs))⟩)
theorem xi_maxl {idx : Nat} {x y : Int64} (hd : Dc M pc (.invokestatic idx) 3 pc') (hl : Cond.methodLink M.1.cls idx Lib.MathLoose.max_long.x ∈ zn_G) (hd1 : 1 ≤ d ∧ (r.map fun v => v.category).sum ≤ 8) (kk : Xw d M mc ms pc' ls (.long (if y < x then x else y) :: r) s Q) : Xw d M mc ms pc ls (.long y :: .long x :: r) s Q := by
  obtain ⟨hd, rfl⟩ := hd
  intro w ρ0 s0 p l e R st m args below meth c H locs cells slots Qr ρ lr S E Dy
  obtain ⟨D0, hb, hL, hw, hs⟩ := Dy
  have hts := S.2.2.2.2.2.1
  have hrm := S.2.2.2.2.2.2.2.1
  exact va_mmax_long S.1 S.2.1 (S.2.2.2.1.trans hL.1.symm) S.2.2.2.2.1 (hts _ hl) (hts _ zl_math.2.2.1) (hts _ zl_math.2.2.2.2.1) (hts _ zl_math.2.2.2.2.2.2.2.1) (by omega) (by rw [zl_catsum]; omega) (by omega) (by omega) hd (kk w ρ0 s0 p l e R st m args below meth c H locs cells slots Qr ρ lr S E ⟨D0, hb, hL, hw, zl_wl (zl_wt (zl_wt hs))⟩)
theorem xi_minl {idx : Nat} {x y : Int64} (hd : Dc M pc (.invokestatic idx) 3 pc') (hl : Cond.methodLink M.1.cls idx Lib.MathLoose.min_long.x ∈ zn_G) (hd1 : 1 ≤ d ∧ (r.map fun v => v.category).sum ≤ 8) (kk : Xw d M mc ms pc' ls (.long (if y < x then y else x) :: r) s Q) : Xw d M mc ms pc ls (.long y :: .long x :: r) s Q := by
  obtain ⟨hd, rfl⟩ := hd
  intro w ρ0 s0 p l e R st m args below meth c H locs cells slots Qr ρ lr S E Dy
  obtain ⟨D0, hb, hL, hw, hs⟩ := Dy
  have hts := S.2.2.2.2.2.1
  have hrm := S.2.2.2.2.2.2.2.1
  exact va_mmin_long S.1 S.2.1 (S.2.2.2.1.trans hL.1.symm) S.2.2.2.2.1 (hts _ hl) (hts _ zl_math.2.2.2.1) (hts _ zl_math.2.2.2.2.1) (hts _ zl_math.2.2.2.2.2.2.2.2) (by omega) (by rw [zl_catsum]; omega) (by omega) (by omega) hd (kk w ρ0 s0 p l e R st m args below meth c H locs cells slots Qr ρ lr S E ⟨D0, hb, hL, hw, zl_wl (zl_wt (zl_wt hs))⟩)
end
