/-! functions over the memory: none where a read or a call leaves what it may -/
section
noncomputable def f_ck {α : Type} (c : Prop) (k : Option α) : Option α := @ite _ c (Classical.propDecidable c) k none
def f_bd {α β : Type} (x : Option (α × Sg)) (k : α → Sg → Option β) : Option β := match x with
  | none => none
  | some p => k p.1 p.2
def f_mt {α β : Type} (o : Option α) (n : β) (k : α → β) : β := match o with
  | none => n
  | some a => k a
def zl_fl : Nat := 4096
def okx {α : Type} (P : α → Sg → Prop) (x : Option (α × Sg)) : Prop := ∃ (r : α) (s : Sg), x = some (r, s) ∧ P r s
def zq_I (Q : Option (Option Value) → Sg → Prop) : Int32 → Sg → Prop := fun r s => Q (some (some (.int r))) s
def zq_L (Q : Option (Option Value) → Sg → Prop) : Int64 → Sg → Prop := fun r s => Q (some (some (.long r))) s
def zq_V (Q : Option (Option Value) → Sg → Prop) : Unit → Sg → Prop := fun _ s => Q (some none) s
def zq_TI (Q : Option (Option Value) → Sg → Prop) : Option Int32 → Sg → Prop := fun r s => match r with
  | none => Q none s
  | some x => Q (some (some (.int x))) s
def zq_TL (Q : Option (Option Value) → Sg → Prop) : Option Int64 → Sg → Prop := fun r s => match r with
  | none => Q none s
  | some x => Q (some (some (.long x))) s
variable {α β : Type} {P P' : α → Sg → Prop} {c : Prop} {k : Option (α × Sg)} {s : Sg}
theorem okx_ck (h : okx P (f_ck c k)) : c ∧ okx P k := by
  unfold f_ck at h
  by_cases hc : c
  · rw [if_pos hc] at h; exact ⟨hc, h⟩
  · rw [if_neg hc] at h; obtain ⟨_, _, h, _⟩ := h; cases h
theorem okx_bd {x : Option (β × Sg)} {f : β → Sg → Option (α × Sg)} (h : okx P (f_bd x f)) : okx (fun r s => okx P (f r s)) x := by
  cases x with
  | none => obtain ⟨_, _, h, _⟩ := h; cases h
  | some p => exact ⟨p.1, p.2, rfl, h⟩
theorem okx_mono {x : Option (α × Sg)} (h : okx P x) (i : ∀ r s, P r s → P' r s) : okx P' x := by
  obtain ⟨r, s, h1, h2⟩ := h
  exact ⟨r, s, h1, i r s h2⟩
theorem okx_T {i : Decidable c} {a b : Option (α × Sg)} (hc : c) (h : okx P (@ite _ c i a b)) : okx P a := by rw [if_pos hc] at h; exact h
theorem okx_F {i : Decidable c} {a b : Option (α × Sg)} (hc : ¬ c) (h : okx P (@ite _ c i a b)) : okx P b := by rw [if_neg hc] at h; exact h
theorem okx_some {r : α} (h : okx P (some (r, s))) : P r s := by
  obtain ⟨r', s', h1, h2⟩ := h
  cases h1
  exact h2
theorem okx_I {Q : Option (Option Value) → Sg → Prop} {r : Int32} (h : okx (zq_I Q) (some (r, s))) : Q (some (some (.int r))) s := (okx_some h : zq_I Q _ s)
theorem okx_L {Q : Option (Option Value) → Sg → Prop} {r : Int64} (h : okx (zq_L Q) (some (r, s))) : Q (some (some (.long r))) s := (okx_some h : zq_L Q _ s)
theorem okx_V {Q : Option (Option Value) → Sg → Prop} {r : Unit} (h : okx (zq_V Q) (some (r, s))) : Q (some none) s := (okx_some h : zq_V Q _ s)
theorem okx_TI {Q : Option (Option Value) → Sg → Prop} {r : Int32} (h : okx (zq_TI Q) (some (some r, s))) : Q (some (some (.int r))) s := (okx_some h : zq_TI Q _ s)
theorem okx_TL {Q : Option (Option Value) → Sg → Prop} {r : Int64} (h : okx (zq_TL Q) (some (some r, s))) : Q (some (some (.long r))) s := (okx_some h : zq_TL Q _ s)
theorem okx_NTI {Q : Option (Option Value) → Sg → Prop} (h : okx (zq_TI Q) (some (none, s))) : Q none s := (okx_some h : zq_TI Q _ s)
theorem okx_NTL {Q : Option (Option Value) → Sg → Prop} (h : okx (zq_TL Q) (some (none, s))) : Q none s := (okx_some h : zq_TL Q _ s)
theorem okx_no {C : Prop} (h : okx P none) : C := by
  obtain ⟨_, _, h, _⟩ := h
  cases h
theorem okx_mt {o : Option β} {n : Option (α × Sg)} {f : β → Option (α × Sg)} (h : okx P (f_mt o n f)) : (o = none ∧ okx P n) ∨ ∃ b, o = some b ∧ okx P (f b) := by
  cases o with
  | none => exact Or.inl ⟨rfl, h⟩
  | some b => exact Or.inr ⟨b, rfl, h⟩
/-- what is known at both ends of a run of ours -/
def zl_B (s : Sg) : Prop := 81 ≤ mN s ∧ zl_Gr s.2.2.1
theorem zl_vin {i : Int32} {n : Nat} (h : (!decide (i < 0) && decide (i.toNatClampNeg < n)) = true) : vp_in i n := by
  simp only [Bool.and_eq_true, Bool.not_eq_true', decide_eq_false_iff_not, decide_eq_true_eq] at h
  exact fun h9 => h9.elim (fun h1 => h.1 h1) (fun h2 => Nat.not_lt.mpr h2 h.2)
def zl_wk : List Value → List Value → Prop
  | [], [] => True
  | a :: r, b :: r' => (b = a ∨ b = .retAddr 0) ∧ zl_wk r r'
  | [], _ :: _ => False
  | _ :: _, [] => False
theorem zl_wk_len : ∀ {a b : List Value}, zl_wk a b → b.length = a.length := by
  intro a
  induction a with
  | nil =>
    intro b h
    cases b with
    | nil => rfl
    | cons => exact h.elim
  | cons x r ih =>
    intro b h
    cases b with
    | nil => exact h.elim
    | cons y r' => simp [ih h.2]
theorem zl_wk_at : ∀ {a b : List Value}, zl_wk a b → ∀ (i : Nat) (v : Value), b[i]? = some v → v ≠ .retAddr 0 → a[i]? = some v := by
  intro a
  induction a with
  | nil =>
    intro b h i v hv
    cases b with
    | nil => cases hv
    | cons => exact h.elim
  | cons x r ih =>
    intro b h i v hv hn
    cases b with
    | nil => exact h.elim
    | cons y r' =>
      cases i with
      | zero =>
        simp only [List.getElem?_cons_zero] at hv ⊢
        rcases h.1 with e | e
        · rw [← e]; exact hv
        · cases hv; exact absurd e hn
      | succ j =>
        simp only [List.getElem?_cons_succ] at hv ⊢
        exact ih h.2 j v hv hn
theorem zl_wk_mem {n : Nat} : ∀ {a b : List Value}, zl_wk a b → (∀ v ∈ a, zl_wf n v) → ∀ v ∈ b, zl_wf n v := by
  intro a b h ha v hv
  obtain ⟨i, hi⟩ := List.getElem?_of_mem hv
  by_cases hn : v = .retAddr 0
  · rw [hn]; trivial
  · exact ha v (List.mem_of_getElem? (zl_wk_at h i v hi hn))
end
section
variable {d : Nat} {M : MD} {mc ms pc pc' tgt : Nat} {ls ls' r : List Value} {s : Sg} {Q : Option (Option Value) → Sg → Prop}
/-- some of the locals are forgotten -/
theorem xk_wk {stk : List Value} (k : Xw d M mc ms pc ls' stk s Q) (h : zl_wk ls ls') : Xw d M mc ms pc ls stk s Q := by
  intro w ρ0 s0 p l e R st m args below meth c H locs cells slots Qr ρ lr S E Dy
  obtain ⟨D0, hb, hL, hw, hs⟩ := Dy
  exact k w ρ0 s0 p l e R st m args below meth c H locs cells slots Qr ρ lr S E ⟨D0, hb, ⟨hL.1, hL.2.1, (zl_wk_len h).trans hL.2.2.1, fun i v h1 h2 => hL.2.2.2 i v (zl_wk_at h i v h1 h2) h2⟩, zl_wk_mem h hw, hs⟩
theorem xi_arlen {a k n : Nat} {v : Int32} (hd : Dc M pc .arraylength 1 pc') (ha : zl_ar s a k n) (hv : Int32.ofNat n = v) (kk : Xw d M mc ms pc' ls (.int v :: r) s Q) : Xw d M mc ms pc ls (.ref a :: r) s Q := by
  obtain ⟨hd, rfl⟩ := hd
  intro w ρ0 s0 p l e R st m args below meth c H locs cells slots Qr ρ lr S E Dy
  obtain ⟨D0, hb, hL, hw, hs⟩ := Dy
  obtain ⟨hc, hof⟩ := zl_arr S.2.2.2.2.2.2.2.2.1 D0.1 ha
  exact W.alen (n := v) S.1 S.2.1 hc (hof _ _) (by rw [arrV_size, ← hv]) rfl rfl hd (kk w ρ0 s0 p l e R st m args below meth c H locs cells slots Qr ρ lr S E ⟨D0, hb, hL, hw, zl_wi (zl_wt hs)⟩)
/-- a method of the one text -/
theorem xi_VS (as : List Value) {M' : MD} {idx d' : Nat} (hd : Dc M pc (.invokevirtual idx) 3 pc') (hL9 : zn_Ml M.1.cls idx M') (hW9 : zn_MI M') (hN : zn_na M' as.length) (hcn : M'.1.cls = "java/lang/String") (hroom : (r.map fun v => v.category).sum ≤ 8 ∧ M'.2.2.1 ≤ 40 ∧ d' + 1 ≤ d ∧ M'.2.2.2.2.1 ≤ mc ∧ M'.2.2.2.2.2.1 ≤ ms)
    (kk : Cw d' M' (.ref 2 :: as) s (zl_K d M (mc - M'.2.2.2.2.1) (ms - M'.2.2.2.2.2.1) pc' ls r Q)) : Xw d M mc ms pc ls (as.reverse ++ .ref 2 :: r) s Q := by
  obtain ⟨hd, rfl⟩ := hd
  intro w ρ0 s0 p l e R st m args below meth c H locs cells slots Qr ρ lr S E Dy
  obtain ⟨hro, hml, hdd, hmc, hms⟩ := hroom
  obtain ⟨D0, hb, hL, hw, hs⟩ := Dy
  have hs9 : (∀ x ∈ as, zl_wf (mN s) x) ∧ zl_wf (mN s) (.ref 2) ∧ ∀ x ∈ r, zl_wf (mN s) x := ⟨fun x hx => hs x (List.mem_append_left _ (List.mem_reverse.mpr hx)), hs _ (List.mem_append_right _ List.mem_cons_self), fun x hx => hs x (List.mem_append_right _ (List.mem_cons_of_mem _ hx))⟩
  have hts := S.2.2.2.2.2.1
  have hrm := S.2.2.2.2.2.2.2.1
  obtain ⟨hh, i1, i2, i3, i4, i5⟩ := hW9
  have cw : CallW R st args M.1.cls M'.1.cls idx M'.1 M'.2.1 M'.2.2.1 M'.2.2.2.1 (md_ws M') (zl_rm d' M') M'.2.2.2.2.1 M'.2.2.2.2.2.1 as.length :=
    cwV as.length hts (zl_goodIn4 (fun x hx => by
      simp only [List.mem_cons, List.not_mem_nil, or_false] at hx
      rcases hx with rfl | rfl | rfl | rfl
      · exact hL9
      · exact i1
      · exact i2
      · exact i3) (zl_goodIn hh i4)) (zl_mdws hh) rfl rfl ⟨rfl, i5.1, i5.2, hN⟩ ⟨by show d' + 1 ≤ R.frames; omega, by show 8 + (M'.2.2.1 + 11) + 60 * d' ≤ R.locals; omega⟩
  have hO := D0.2.2.1.ro S.2.2.2.2.2.2.2.2.2.1 D0.2.1
  obtain ⟨-, -, -, ⟨cell, g1, g2, g3, -⟩, -⟩ := hO
  have hp : PreV st H M'.1.cls (ρ 2) (zl_Pc w ρ (.ref 2 :: as) s) (as.map (zl_rv ρ)) := ⟨zl_blind, ⟨cell, g1, g2, by rw [hcn]; exact g3⟩, zl_start S D0 (as := .ref 2 :: as) (zl_wc hs9.2.1 hs9.1)⟩
  have run := vx_runV (e := e) (below := below) (meth := meth) (locs := locs) (cells := cells) (slots := slots) (rest := r.map (zl_rv ρ)) (g := F0 m pc lr ((as.reverse ++ .ref 2 :: r).map (zl_rv ρ))) ⟨S.1, S.2.1, S.2.2.2.1, S.2.2.2.2.1, hts⟩ (kk l S.2.2.2.2.2.2.2.2.2.2.1 w ρ) cw hp rfl (by simp) hL.1 (by simp [zl_rv]) (by rw [zl_catsum]; show 2 * 0 + _ ≤ 8; omega) hd ⟨by omega, by omega⟩
  exact zl_behind (as := .ref 2 :: as) E S ⟨D0, hb, hL, hw, hs9.2.2⟩ ⟨hmc, hms⟩ run
theorem xj_VS (as : List Value) {M' : MD} {idx d' : Nat} (hd : Dc M pc (.invokevirtual idx) 3 pc') (hL9 : zn_Ml M.1.cls idx M') (hW9 : zn_MI M') (hN : zn_na M' as.length) (h40 : M'.2.2.1 ≤ 40) (hcn : M'.1.cls = "java/lang/String") (hz : zn_Z M') (hro : (r.map fun v => v.category).sum ≤ 8) (hdd : d' + 1 ≤ d)
    (kk : Cw d' M' (.ref 2 :: as) s (zl_K d M mc ms pc' ls r Q)) : Xw d M mc ms pc ls (as.reverse ++ .ref 2 :: r) s Q :=
  xi_VS as hd hL9 hW9 hN hcn ⟨hro, h40, hdd, by rw [hz.1]; exact Nat.zero_le _, by rw [hz.2]; exact Nat.zero_le _⟩ (by rw [zl_Kz hz]; exact kk)
theorem xj_VS0 {M' : MD} {idx d' : Nat} (hd : Dc M pc (.invokevirtual idx) 3 pc') (hL9 : zn_Ml M.1.cls idx M') (hW9 : zn_MI M') (hN : zn_na M' 0) (h40 : M'.2.2.1 ≤ 40) (hcn : M'.1.cls = "java/lang/String") (hz : zn_Z M') (hro : (r.map fun v => v.category).sum ≤ 8) (hdd : d' + 1 ≤ d) (kk : Cw d' M' [.ref 2] s (zl_K d M mc ms pc' ls r Q)) : Xw d M mc ms pc ls (.ref 2 :: r) s Q := xj_VS [] hd hL9 hW9 hN h40 hcn hz hro hdd kk
theorem xj_VS1 {M' : MD} {idx d' : Nat} {x1 : Value} (hd : Dc M pc (.invokevirtual idx) 3 pc') (hL9 : zn_Ml M.1.cls idx M') (hW9 : zn_MI M') (hN : zn_na M' 1) (h40 : M'.2.2.1 ≤ 40) (hcn : M'.1.cls = "java/lang/String") (hz : zn_Z M') (hro : (r.map fun v => v.category).sum ≤ 8) (hdd : d' + 1 ≤ d) (kk : Cw d' M' [.ref 2, x1] s (zl_K d M mc ms pc' ls r Q)) : Xw d M mc ms pc ls (x1 :: .ref 2 :: r) s Q := xj_VS [x1] hd hL9 hW9 hN h40 hcn hz hro hdd kk
theorem xj_VS2 {M' : MD} {idx d' : Nat} {x1 x2 : Value} (hd : Dc M pc (.invokevirtual idx) 3 pc') (hL9 : zn_Ml M.1.cls idx M') (hW9 : zn_MI M') (hN : zn_na M' 2) (h40 : M'.2.2.1 ≤ 40) (hcn : M'.1.cls = "java/lang/String") (hz : zn_Z M') (hro : (r.map fun v => v.category).sum ≤ 8) (hdd : d' + 1 ≤ d) (kk : Cw d' M' [.ref 2, x1, x2] s (zl_K d M mc ms pc' ls r Q)) : Xw d M mc ms pc ls (x2 :: x1 :: .ref 2 :: r) s Q := xj_VS [x1, x2] hd hL9 hW9 hN h40 hcn hz hro hdd kk
theorem xj_S0 {M' : MD} {idx d' : Nat} (hd : Dc M pc (.invokestatic idx) 3 pc') (hL9 : zn_Ml M.1.cls idx M') (hC : zn_CS M' 0) (hz : zn_Z M') (hro : (r.map fun v => v.category).sum ≤ 8) (hdd : d' + 1 ≤ d) (kk : Cw d' M' [] s (zl_K d M mc ms pc' ls r Q)) : Xw d M mc ms pc ls r s Q := xj_S [] hd hL9 hC hz hro hdd kk
end
