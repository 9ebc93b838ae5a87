/-! the rows in the forms in which the programs of ours write them -/
section
variable {d : Nat} {M : MD} {mc ms pc pc' tgt : Nat} {ls ls' r : List Value} {s : Sg} {Q : Option (Option Value) → Sg → Prop}
def zl_ok (s : Sg) (a k : Nat) : Prop := zl_ar s a k (zn_SH a).2
theorem zl_fx {a k : Nat} (hn : 81 ≤ mN s) (h : (decide (4 ≤ a) && decide (a < 81) && decide ((zn_SH a).1 = k) && decide (10 ≤ k) && decide (k < 15)) = true) : zl_ok s a k := by
  simp only [Bool.and_eq_true, decide_eq_true_eq] at h
  obtain ⟨⟨⟨⟨h1, h2⟩, h3⟩, h4⟩, h5⟩ := h
  exact ⟨h1, Nat.lt_of_lt_of_le h2 hn, by rw [← h3], h4, h5⟩
theorem zl_fo {a k : Nat} (hn : 81 ≤ mN s) (h : (decide (4 ≤ a) && decide (a < 81) && decide ((zn_SH a).1 = k) && decide (k < 7)) = true) : zl_at s a k := by
  simp only [Bool.and_eq_true, decide_eq_true_eq] at h
  obtain ⟨⟨⟨h1, h2⟩, h3⟩, h4⟩ := h
  exact ⟨h1, Nat.lt_of_lt_of_le h2 hn, h3, h4⟩
/-- the references that stand from the constructors on -/
def zl_Gr (f : Nat → Nat → Option Nat) : Prop := ∀ a j b, a < 81 → zn_FR a j = some b → f a j = some b
theorem zl_gr (h : zl_Gr s.2.2.1) {a j b : Nat} (ha : decide (a < 81) = true) (hb : zn_FR a j = some b) : mR s a j = some b := h a j b (of_decide_eq_true ha) hb
theorem zl_ib {a n : Nat} {i : Int32} (hn : (zn_SH a).2 = n) (h : vp_in i n) : vp_in i (zn_SH a).2 := by rw [hn]; exact h
theorem xj_iconst {n : Int} {v : Int32} (hd : Dc M pc (.iconst n) 1 pc') (hv : Int32.ofInt n = v) (k : Xw d M mc ms pc' ls (.int v :: r) s Q) : Xw d M mc ms pc ls r s Q := xi_iconst hd (by rw [hv]; exact k)
theorem xj_lconst {n : Fin 2} {v : Int64} (hd : Dc M pc (.lconst n) 1 pc') (hv : Int64.ofNat (n : Nat) = v) (k : Xw d M mc ms pc' ls (.long v :: r) s Q) : Xw d M mc ms pc ls r s Q := xi_lconst hd (by rw [hv]; exact k)
theorem xj_iald {a : Nat} {i : Int32} (hd : Dc M pc .iaload 1 pc') (ha : zl_ok s a 10) (hin : vp_in i (zn_SH a).2) (kk : Xw d M mc ms pc' ls (.int (mI s a i.toNatClampNeg) :: r) s Q) : Xw d M mc ms pc ls (.int i :: .ref a :: r) s Q := xi_iald hd ha hin kk
theorem xj_lald {a : Nat} {i : Int32} (hd : Dc M pc .laload 1 pc') (ha : zl_ok s a 11) (hin : vp_in i (zn_SH a).2) (kk : Xw d M mc ms pc' ls (.long (mL s a i.toNatClampNeg) :: r) s Q) : Xw d M mc ms pc ls (.int i :: .ref a :: r) s Q := xi_lald hd ha hin kk
theorem xj_cald {a : Nat} {i : Int32} (hd : Dc M pc .caload 1 pc') (ha : zl_ok s a 12) (hin : vp_in i (zn_SH a).2) (kk : Xw d M mc ms pc' ls (.int (mI s a i.toNatClampNeg) :: r) s Q) : Xw d M mc ms pc ls (.int i :: .ref a :: r) s Q := xi_cald hd ha hin kk
theorem xj_zald {a : Nat} {i : Int32} (hd : Dc M pc .baload 1 pc') (ha : zl_ok s a 13) (hin : vp_in i (zn_SH a).2) (kk : Xw d M mc ms pc' ls (.int (mI s a i.toNatClampNeg) :: r) s Q) : Xw d M mc ms pc ls (.int i :: .ref a :: r) s Q := xi_zald hd ha hin kk
theorem xj_iast {a : Nat} {i : Int32} {x : Int32} (hd : Dc M pc .iastore 1 pc') (ha : zl_ok s a 10) (hin : vp_in i (zn_SH a).2) (kk : Xw d M mc ms pc' ls r (uI s a i.toNatClampNeg x) Q) : Xw d M mc ms pc ls (.int x :: .int i :: .ref a :: r) s Q := xi_iast hd ha hin kk
theorem xj_last {a : Nat} {i : Int32} {x : Int64} (hd : Dc M pc .lastore 1 pc') (ha : zl_ok s a 11) (hin : vp_in i (zn_SH a).2) (kk : Xw d M mc ms pc' ls r (uL s a i.toNatClampNeg x) Q) : Xw d M mc ms pc ls (.long x :: .int i :: .ref a :: r) s Q := xi_last hd ha hin kk
theorem xj_cast {a : Nat} {i : Int32} {x y : Int32} (hd : Dc M pc .castore 1 pc') (ha : zl_ok s a 12) (hin : vp_in i (zn_SH a).2) (hx : vp_nar .char x = y) (kk : Xw d M mc ms pc' ls r (uI s a i.toNatClampNeg y) Q) : Xw d M mc ms pc ls (.int x :: .int i :: .ref a :: r) s Q := xi_cast hd ha hin (by rw [hx]; exact kk)
theorem xj_zast {a : Nat} {i : Int32} {x y : Int32} (hd : Dc M pc .bastore 1 pc') (ha : zl_ok s a 13) (hin : vp_in i (zn_SH a).2) (hx : vp_nar .boolean x = y) (kk : Xw d M mc ms pc' ls r (uI s a i.toNatClampNeg y) Q) : Xw d M mc ms pc ls (.int x :: .int i :: .ref a :: r) s Q := xi_zast hd ha hin (by rw [hx]; exact kk)
theorem zl_Kz {M' : MD} (hz : zn_Z M') : zl_K d M (mc - M'.2.2.2.2.1) (ms - M'.2.2.2.2.2.1) pc ls r Q = zl_K d M mc ms pc ls r Q := by rw [hz.1, hz.2, Nat.sub_zero, Nat.sub_zero]
theorem xj_V (as : List Value) {M' : MD} {idx b k d' : Nat} (hd : Dc M pc (.invokevirtual idx) 3 pc') (hL9 : zn_Ml M.1.cls idx M') (hC : zn_CI M' as.length k) (hz : zn_Z M') (hb9 : zl_at s b k) (hro : (r.map fun v => v.category).sum ≤ 8) (hdd : d' + 1 ≤ d)
    (kk : Cw d' M' (.ref b :: as) s (zl_K d M mc ms pc' ls r Q)) : Xw d M mc ms pc ls (as.reverse ++ .ref b :: r) s Q :=
  xi_V as hd hL9 hC.1 hC.2.1 ⟨hb9, hC.2.2.2⟩ ⟨hro, hC.2.2.1, hdd, by rw [hz.1]; exact Nat.zero_le _, by rw [hz.2]; exact Nat.zero_le _⟩ (by rw [zl_Kz hz]; exact kk)
theorem xj_S (as : List Value) {M' : MD} {idx d' : Nat} (hd : Dc M pc (.invokestatic idx) 3 pc') (hL9 : zn_Ml M.1.cls idx M') (hC : zn_CS M' as.length) (hz : zn_Z M') (hro : (r.map fun v => v.category).sum ≤ 8) (hdd : d' + 1 ≤ d)
    (kk : Cw d' M' as s (zl_K d M mc ms pc' ls r Q)) : Xw d M mc ms pc ls (as.reverse ++ r) s Q :=
  xi_S as hd hL9 hC.1 hC.2.1 ⟨hro, hC.2.2, hdd, by rw [hz.1]; exact Nat.zero_le _, by rw [hz.2]; exact Nat.zero_le _⟩ (by rw [zl_Kz hz]; exact kk)
theorem xj_SN (as : List Value) {M' : MD} {idx d' : Nat} (hd : Dc M pc (.invokestatic idx) 3 pc') (hL9 : zn_Mx M.1.cls idx M') (hC : zn_CS M' as.length) (hz : zn_Z M') (hro : (r.map fun v => v.category).sum ≤ 8) (hdd : d' + 1 ≤ d)
    (kk : Cw d' M' as s (fun o s' => o ≠ none ∧ zl_K d M mc ms pc' ls r Q o s')) : Xw d M mc ms pc ls (as.reverse ++ r) s Q :=
  xi_SN as hd hL9 hC.1 hC.2.1 ⟨hro, hC.2.2, hdd, by rw [hz.1]; exact Nat.zero_le _, by rw [hz.2]; exact Nat.zero_le _⟩ (by simp only [zl_Kz hz]; exact kk)
theorem xj_V0 {M' : MD} {idx b k d' : Nat} (hd : Dc M pc (.invokevirtual idx) 3 pc') (hL9 : zn_Ml M.1.cls idx M') (hC : zn_CI M' 0 k) (hz : zn_Z M') (hb9 : zl_at s b k) (hro : (r.map fun v => v.category).sum ≤ 8) (hdd : d' + 1 ≤ d) (kk : Cw d' M' [.ref b] s (zl_K d M mc ms pc' ls r Q)) : Xw d M mc ms pc ls (.ref b :: r) s Q := xj_V [] hd hL9 hC hz hb9 hro hdd kk
theorem xj_V1 {M' : MD} {idx b k d' : Nat} {x1 : Value} (hd : Dc M pc (.invokevirtual idx) 3 pc') (hL9 : zn_Ml M.1.cls idx M') (hC : zn_CI M' 1 k) (hz : zn_Z M') (hb9 : zl_at s b k) (hro : (r.map fun v => v.category).sum ≤ 8) (hdd : d' + 1 ≤ d) (kk : Cw d' M' [.ref b, x1] s (zl_K d M mc ms pc' ls r Q)) : Xw d M mc ms pc ls (x1 :: .ref b :: r) s Q := xj_V [x1] hd hL9 hC hz hb9 hro hdd kk
theorem xj_V2 {M' : MD} {idx b k d' : Nat} {x1 x2 : Value} (hd : Dc M pc (.invokevirtual idx) 3 pc') (hL9 : zn_Ml M.1.cls idx M') (hC : zn_CI M' 2 k) (hz : zn_Z M') (hb9 : zl_at s b k) (hro : (r.map fun v => v.category).sum ≤ 8) (hdd : d' + 1 ≤ d) (kk : Cw d' M' [.ref b, x1, x2] s (zl_K d M mc ms pc' ls r Q)) : Xw d M mc ms pc ls (x2 :: x1 :: .ref b :: r) s Q := xj_V [x1, x2] hd hL9 hC hz hb9 hro hdd kk
theorem xj_V3 {M' : MD} {idx b k d' : Nat} {x1 x2 x3 : Value} (hd : Dc M pc (.invokevirtual idx) 3 pc') (hL9 : zn_Ml M.1.cls idx M') (hC : zn_CI M' 3 k) (hz : zn_Z M') (hb9 : zl_at s b k) (hro : (r.map fun v => v.category).sum ≤ 8) (hdd : d' + 1 ≤ d) (kk : Cw d' M' [.ref b, x1, x2, x3] s (zl_K d M mc ms pc' ls r Q)) : Xw d M mc ms pc ls (x3 :: x2 :: x1 :: .ref b :: r) s Q := xj_V [x1, x2, x3] hd hL9 hC hz hb9 hro hdd kk
theorem xj_V4 {M' : MD} {idx b k d' : Nat} {x1 x2 x3 x4 : Value} (hd : Dc M pc (.invokevirtual idx) 3 pc') (hL9 : zn_Ml M.1.cls idx M') (hC : zn_CI M' 4 k) (hz : zn_Z M') (hb9 : zl_at s b k) (hro : (r.map fun v => v.category).sum ≤ 8) (hdd : d' + 1 ≤ d) (kk : Cw d' M' [.ref b, x1, x2, x3, x4] s (zl_K d M mc ms pc' ls r Q)) : Xw d M mc ms pc ls (x4 :: x3 :: x2 :: x1 :: .ref b :: r) s Q := xj_V [x1, x2, x3, x4] hd hL9 hC hz hb9 hro hdd kk
theorem xj_S1 {M' : MD} {idx d' : Nat} {x1 : Value} (hd : Dc M pc (.invokestatic idx) 3 pc') (hL9 : zn_Ml M.1.cls idx M') (hC : zn_CS M' 1) (hz : zn_Z M') (hro : (r.map fun v => v.category).sum ≤ 8) (hdd : d' + 1 ≤ d) (kk : Cw d' M' [x1] s (zl_K d M mc ms pc' ls r Q)) : Xw d M mc ms pc ls (x1 :: r) s Q := xj_S [x1] hd hL9 hC hz hro hdd kk
theorem xj_S2 {M' : MD} {idx d' : Nat} {x1 x2 : Value} (hd : Dc M pc (.invokestatic idx) 3 pc') (hL9 : zn_Ml M.1.cls idx M') (hC : zn_CS M' 2) (hz : zn_Z M') (hro : (r.map fun v => v.category).sum ≤ 8) (hdd : d' + 1 ≤ d) (kk : Cw d' M' [x1, x2] s (zl_K d M mc ms pc' ls r Q)) : Xw d M mc ms pc ls (x2 :: x1 :: r) s Q := xj_S [x1, x2] hd hL9 hC hz hro hdd kk
theorem xj_S3 {M' : MD} {idx d' : Nat} {x1 x2 x3 : Value} (hd : Dc M pc (.invokestatic idx) 3 pc') (hL9 : zn_Ml M.1.cls idx M') (hC : zn_CS M' 3) (hz : zn_Z M') (hro : (r.map fun v => v.category).sum ≤ 8) (hdd : d' + 1 ≤ d) (kk : Cw d' M' [x1, x2, x3] s (zl_K d M mc ms pc' ls r Q)) : Xw d M mc ms pc ls (x3 :: x2 :: x1 :: r) s Q := xj_S [x1, x2, x3] hd hL9 hC hz hro hdd kk
theorem xj_S4 {M' : MD} {idx d' : Nat} {x1 x2 x3 x4 : Value} (hd : Dc M pc (.invokestatic idx) 3 pc') (hL9 : zn_Ml M.1.cls idx M') (hC : zn_CS M' 4) (hz : zn_Z M') (hro : (r.map fun v => v.category).sum ≤ 8) (hdd : d' + 1 ≤ d) (kk : Cw d' M' [x1, x2, x3, x4] s (zl_K d M mc ms pc' ls r Q)) : Xw d M mc ms pc ls (x4 :: x3 :: x2 :: x1 :: r) s Q := xj_S [x1, x2, x3, x4] hd hL9 hC hz hro hdd kk
theorem xj_SN2 {M' : MD} {idx d' : Nat} {x1 x2 : Value} (hd : Dc M pc (.invokestatic idx) 3 pc') (hL9 : zn_Mx M.1.cls idx M') (hC : zn_CS M' 2) (hz : zn_Z M') (hro : (r.map fun v => v.category).sum ≤ 8) (hdd : d' + 1 ≤ d) (kk : Cw d' M' [x1, x2] s (fun o s' => o ≠ none ∧ zl_K d M mc ms pc' ls r Q o s')) : Xw d M mc ms pc ls (x2 :: x1 :: r) s Q := xj_SN [x1, x2] hd hL9 hC hz hro hdd kk
theorem zl_q {x y : Int32} (h : Q (some (some (.int y))) s) (e : x = y) : Q (some (some (.int x))) s := e ▸ h
theorem zl_ql {x y : Int64} (h : Q (some (some (.long y))) s) (e : x = y) : Q (some (some (.long x))) s := e ▸ h
end
