section
variable {d : Nat} {M : MD} {mc ms pc pc' tgt : Nat} {ls ls' r : List Value} {s : Sg} {Q : Option (Option Value) → Sg → Prop}
/-- what a caller goes on with: after a return with the value, after a throw it throws too -/
def zl_K (d : Nat) (M : MD) (mc ms pc : Nat) (ls r : List Value) (Q : Option (Option Value) → Sg → Prop) : Option (Option Value) → Sg → Prop := fun o s' => match o with
  | some v => Xw d M mc ms pc ls (v.toList ++ r) s' Q
  | none => M.2.2.2.2.2.2 = [] ∧ Q none s'
theorem zl_goodIn {M' : MD} (h : M'.2.2.2.2.2.2 = []) (hc : Cond.code M'.1 M'.2.1 M'.2.2.1 M'.2.2.2.1 ∈ zn_G) : GoodIn zn_G (md_ws M') := by
  intro x hx
  unfold md_ws at hx
  rw [if_pos h] at hx
  rcases List.mem_cons.mp hx with rfl | hx
  · exact zn_good _ hc
  · exact zn_good _ hx
theorem zl_goodInW {M' : MD} (h : M'.2.2.2.2.2.2 ≠ []) (hc : Cond.codeWith M'.1 M'.2.1 M'.2.2.1 M'.2.2.2.1 M'.2.2.2.2.2.2 ∈ zn_G) : GoodIn zn_G (md_ws M') := by
  intro x hx
  unfold md_ws at hx
  rw [if_neg h] at hx
  rcases List.mem_cons.mp hx with rfl | hx
  · exact zn_good _ hc
  · exact zn_good _ hx
theorem zl_goodIn4 {L ws : List Cond} (h : ∀ x ∈ L, x ∈ zn_G) (hw : GoodIn zn_G ws) : GoodIn zn_G (L ++ ws) := by
  intro x hx
  rcases List.mem_append.mp hx with hx | hx
  · exact zn_good _ (h x hx)
  · exact hw _ hx
theorem zl_mdws {M' : MD} (h : M'.2.2.2.2.2.2 = []) : md_ws M' = Cond.code M'.1 M'.2.1 M'.2.2.1 M'.2.2.2.1 :: zn_G := by unfold md_ws; rw [if_pos h]
theorem zl_mdwsW {M' : MD} (h : M'.2.2.2.2.2.2 ≠ []) : md_ws M' = Cond.codeWith M'.1 M'.2.1 M'.2.2.1 M'.2.2.2.1 M'.2.2.2.2.2.2 :: zn_G := by unfold md_ws; rw [if_neg h]
section
variable {w : Om} {ρ0 ρ : Nat → Nat} {s0 : Sg} {p : Program} {l : Launch} {e : Env} {R : Room} {st : State} {m : MethodId} {args : Array Value} {below : List Frame} {meth : Method} {c : Code} {H : Heap} {locs : List Loc} {cells slots : Nat} {Qr : State → Prop} {lr : Array Slot}
/-- the callee's start -/
theorem zl_start (S : zl_St d M w ρ0 s0 p l R st m args meth c) (D0 : zl_D0 w ρ0 s0 ρ s R st H locs cells slots) {as : List Value} (ha : ∀ x ∈ as, zl_wf (mN s) x) : ∀ U : State, U.heap = H → st.WarmedH U.vm → zl_Pc w ρ as s (as.map (zl_rv ρ)).toArray U := by
  intro U hU hW
  have h4 : 4 ≤ mN s := Nat.le_trans D0.2.2.1.2.2.2 D0.2.2.1.1
  have hO := D0.2.2.1.ro S.2.2.2.2.2.2.2.2.2.1 D0.2.1
  have hR := S.2.2.2.2.2.2.2.2.1
  rw [← D0.2.2.1.2.1 2 (Nat.lt_of_lt_of_le (by decide) D0.2.2.1.2.2.2)] at hR
  exact ⟨rfl, ha, h4, hR.warm hW, by rw [hU]; exact hO.moved hW.alike, by rw [hU]; exact D0.1⟩
/-- behind the callee -/
theorem zl_behind {M' : MD} {as stk : List Value} (E : zl_End M w ρ0 s0 p l e R st m args below meth c Q Qr) (S : zl_St d M w ρ0 s0 p l R st m args meth c) (Dy : zl_Dy M mc ms ls r w ρ0 s0 ρ s R st H locs cells slots lr)
    (hm : M'.2.2.2.2.1 ≤ mc ∧ M'.2.2.2.2.2.1 ≤ ms)
    (hr : vx_Run p l e R st m args below meth c H locs cells slots M'.2.2.2.2.1 M'.2.2.2.2.2.1 (F0 m pc lr stk) (r.map (zl_rv ρ)) (zl_Qc w ρ s (zl_K d M (mc - M'.2.2.2.2.1) (ms - M'.2.2.2.2.2.1) (pc + 3) ls r Q) (as.map (zl_rv ρ)).toArray) (zl_XC w ρ s (zl_K d M (mc - M'.2.2.2.2.1) (ms - M'.2.2.2.2.2.1) (pc + 3) ls r Q)) (zl_A w)) :
    W p l e R st m args below meth c H locs cells slots Qr (F0 m pc lr stk) := by
  obtain ⟨D0, hb, hL, hw, hs⟩ := Dy
  intro T hT X
  rcases hr T hT X with ⟨v, st₀, t, T', L, h0, X', hLf, e1, e2, ⟨⟨v', s', ρ', ho, hQ, hwf, hext, hown⟩, hF⟩, go⟩ | ⟨q, st₀, t, T', L, E9, ce, h0, X', hLf, e1, e2, ⟨rfl, ⟨s', ρ', hQ, hext, hown⟩, hF⟩, hce, hcv, hcl, go⟩
  · have hv : v = v'.map (zl_rv ρ') := by
      injection ho
    obtain ⟨k1, k2, k3⟩ := vx_keep h0 e1 D0.2.1 (fun _ _ h => h) (fun _ h => h) hLf hF
    have k := hQ w ρ0 s0 p l e R st m args below meth c T'.heap (locs ++ L) (cells + M'.2.2.2.2.1) (slots + M'.2.2.2.2.2.1) Qr ρ' lr S E ⟨⟨by rw [e1]; exact hown, k3, D0.2.2.1.trans hext, by omega, by omega⟩, ⟨by omega, by omega⟩, hL.ext hext.2.1 hw, zl_wfs.mono hext.1 hw, fun x hx => ?_⟩
    · obtain ⟨t2, a1, b1⟩ := k T' rfl X'
      refine ⟨t2, go t2 ?_, b1⟩
      rw [List.map_append, zl_map_ext hext.2.1 hs] at a1
      rw [hv]
      cases v' <;> exact a1
    · rcases List.mem_append.mp hx with hx | hx
      · cases v' with
        | none => cases hx
        | some y => rw [List.mem_singleton.mp hx]; exact hwf y rfl
      · exact (hs x hx).mono hext.1
  · obtain ⟨k1, k2, k3⟩ := vx_keep h0 e1 D0.2.1 (fun _ _ h => h) (fun _ h => h) hLf hF
    obtain ⟨hh, hQ⟩ := hQ
    have k := E.2.2 s' ρ' pc lr (r.map (zl_rv ρ)) T'.heap (locs ++ L) (cells + M'.2.2.2.2.1) (slots + M'.2.2.2.2.2.1) q ce hQ (by rw [e1]; exact hce) hcv hcl hh ⟨by rw [e1]; exact hown, k3, D0.2.2.1.trans hext, by omega, by omega⟩
    obtain ⟨t2, a1, b1⟩ := k T' rfl X'
    exact ⟨t2, go.trans a1, b1⟩
end
theorem zl_catsum (ρ : Nat → Nat) (r : List Value) : ((r.map (zl_rv ρ)).map fun v => v.category).sum = (r.map fun v => v.category).sum := by
  rw [List.map_map]
  congr 1
  exact List.map_congr_left fun v _ => zl_rv_cat ρ v
/-- a method of an own object -/
theorem xi_V (as : List Value) {M' : MD} {idx b k d' : Nat} (hd : Dc M pc (.invokevirtual idx) 3 pc') (hL9 : zn_Ml M.1.cls idx M') (hW9 : zn_MI M') (hN : zn_na M' as.length) (hb9 : zl_at s b k ∧ zn_R k = M'.1.cls) (hroom : (r.map fun v => v.category).sum ≤ 8 ∧ M'.2.2.1 ≤ 40 ∧ d' + 1 ≤ d ∧ M'.2.2.2.2.1 ≤ mc ∧ M'.2.2.2.2.2.1 ≤ ms)
    (kk : Cw d' M' (.ref b :: as) s (zl_K d M (mc - M'.2.2.2.2.1) (ms - M'.2.2.2.2.2.1) pc' ls r Q)) : Xw d M mc ms pc ls (as.reverse ++ .ref b :: r) s Q := by
  obtain ⟨hd, rfl⟩ := hd
  intro w ρ0 s0 p l e R st m args below meth c H locs cells slots Qr ρ lr S E Dy
  obtain ⟨hro, hml, hdd, hmc, hms⟩ := hroom
  obtain ⟨D0, hb, hL, hw, hs⟩ := Dy
  have hs9 : (∀ x ∈ as, zl_wf (mN s) x) ∧ zl_wf (mN s) (.ref b) ∧ ∀ x ∈ r, zl_wf (mN s) x := ⟨fun x hx => hs x (List.mem_append_left _ (List.mem_reverse.mpr hx)), hs _ (List.mem_append_right _ List.mem_cons_self), fun x hx => hs x (List.mem_append_right _ (List.mem_cons_of_mem _ hx))⟩
  have hts := S.2.2.2.2.2.1
  have hrm := S.2.2.2.2.2.2.2.1
  obtain ⟨hh, i1, i2, i3, i4, i5⟩ := hW9
  have cw : CallW R st args M.1.cls M'.1.cls idx M'.1 M'.2.1 M'.2.2.1 M'.2.2.2.1 (md_ws M') (zl_rm d' M') M'.2.2.2.2.1 M'.2.2.2.2.2.1 as.length :=
    cwV as.length hts (zl_goodIn4 (fun x hx => by
      simp only [List.mem_cons, List.not_mem_nil, or_false] at hx
      rcases hx with rfl | rfl | rfl | rfl
      · exact hL9
      · exact i1
      · exact i2
      · exact i3) (zl_goodIn hh i4)) (zl_mdws hh) rfl rfl ⟨rfl, i5.1, i5.2, hN⟩ ⟨by show d' + 1 ≤ R.frames; omega, by show 8 + (M'.2.2.1 + 11) + 60 * d' ≤ R.locals; omega⟩
  have hcell := (D0.1.2.1 b hb9.1.1 hb9.1.2.1).1
  unfold zl_cell at hcell
  rw [hb9.1.2.2.1, if_pos hb9.1.2.2.2] at hcell
  obtain ⟨cell, g1, g2, g3, -⟩ := hcell
  have hcls := (S.2.2.2.2.2.2.2.2.1.1 k hb9.1.2.2.2).2.1
  have hp : PreV st H M'.1.cls (ρ b) (zl_Pc w ρ (.ref b :: as) s) (as.map (zl_rv ρ)) := ⟨zl_blind, ⟨cell, g1, by rw [g3]; rfl, by rw [← hb9.2, g2]; exact hcls⟩, zl_start S D0 (as := .ref b :: as) (zl_wc hs9.2.1 hs9.1)⟩
  have run := vx_runV (e := e) (below := below) (meth := meth) (locs := locs) (cells := cells) (slots := slots) (rest := r.map (zl_rv ρ)) (g := F0 m pc lr ((as.reverse ++ .ref b :: r).map (zl_rv ρ))) ⟨S.1, S.2.1, S.2.2.2.1, S.2.2.2.2.1, hts⟩ (kk l S.2.2.2.2.2.2.2.2.2.2.1 w ρ) cw hp rfl (by simp) hL.1 (by simp [zl_rv]) (by rw [zl_catsum]; show 2 * 0 + _ ≤ 8; omega) hd ⟨by omega, by omega⟩
  exact zl_behind (as := .ref b :: as) E S ⟨D0, hb, hL, hw, hs9.2.2⟩ ⟨hmc, hms⟩ run
/-- a static method -/
theorem xi_S (as : List Value) {M' : MD} {idx d' : Nat} (hd : Dc M pc (.invokestatic idx) 3 pc') (hL9 : zn_Ml M.1.cls idx M') (hW9 : zn_MS M') (hN : zn_na M' as.length) (hroom : (r.map fun v => v.category).sum ≤ 8 ∧ M'.2.2.1 ≤ 40 ∧ d' + 1 ≤ d ∧ M'.2.2.2.2.1 ≤ mc ∧ M'.2.2.2.2.2.1 ≤ ms)
    (kk : Cw d' M' as s (zl_K d M (mc - M'.2.2.2.2.1) (ms - M'.2.2.2.2.2.1) pc' ls r Q)) : Xw d M mc ms pc ls (as.reverse ++ r) s Q := by
  obtain ⟨hd, rfl⟩ := hd
  intro w ρ0 s0 p l e R st m args below meth c H locs cells slots Qr ρ lr S E Dy
  obtain ⟨hro, hml, hdd, hmc, hms⟩ := hroom
  obtain ⟨D0, hb, hL, hw, hs⟩ := Dy
  have hs9 : (∀ x ∈ as, zl_wf (mN s) x) ∧ ∀ x ∈ r, zl_wf (mN s) x := ⟨fun x hx => hs x (List.mem_append_left _ (List.mem_reverse.mpr hx)), fun x hx => hs x (List.mem_append_right _ hx)⟩
  have hts := S.2.2.2.2.2.1
  have hrm := S.2.2.2.2.2.2.2.1
  obtain ⟨hh, i1, i3, i4, i5⟩ := hW9
  have cw := va_cwS (R := R) (s := st) (args := args) (own := M.1.cls) (index := idx) (y := M'.1) (rm := zl_rm d' M') (mc := M'.2.2.2.2.1) (ms := M'.2.2.2.2.2.1) as.length hts (zl_goodIn4 (fun x hx => by
      simp only [List.mem_cons, List.not_mem_nil, or_false] at hx
      rcases hx with rfl | rfl | rfl
      · exact hL9
      · exact i1
      · exact i3) (zl_goodIn hh i4)) (zl_mdws hh) rfl rfl ⟨i5.1, i5.2, hN⟩ ⟨by show d' + 1 ≤ R.frames; omega, by show 8 + (M'.2.2.1 + 11) + 60 * d' ≤ R.locals; omega⟩
  have hp : PreS st H (zl_Pc w ρ as s) (as.map (zl_rv ρ)) := ⟨zl_blind, zl_start S D0 hs9.1⟩
  have run := vx_runS (e := e) (below := below) (meth := meth) (locs := locs) (cells := cells) (slots := slots) (rest := r.map (zl_rv ρ)) (g := F0 m pc lr ((as.reverse ++ r).map (zl_rv ρ))) ⟨S.1, S.2.1, S.2.2.2.1, S.2.2.2.2.1, hts⟩ (kk l S.2.2.2.2.2.2.2.2.2.2.1 w ρ) cw hp rfl (by simp) hL.1 (by simp) (by rw [zl_catsum]; show 2 * 0 + _ ≤ 8; omega) hd ⟨by omega, by omega⟩
  exact zl_behind (as := as) E S ⟨D0, hb, hL, hw, hs9.2⟩ ⟨hmc, hms⟩ run
/-- a private static method of a nest mate (it throws nothing) -/
theorem xi_SN (as : List Value) {M' : MD} {idx d' : Nat} (hd : Dc M pc (.invokestatic idx) 3 pc') (hL9 : zn_Mx M.1.cls idx M') (hW9 : zn_MS M') (hN : zn_na M' as.length) (hroom : (r.map fun v => v.category).sum ≤ 8 ∧ M'.2.2.1 ≤ 40 ∧ d' + 1 ≤ d ∧ M'.2.2.2.2.1 ≤ mc ∧ M'.2.2.2.2.2.1 ≤ ms)
    (kk : Cw d' M' as s (fun o s' => o ≠ none ∧ zl_K d M (mc - M'.2.2.2.2.1) (ms - M'.2.2.2.2.2.1) pc' ls r Q o s')) : Xw d M mc ms pc ls (as.reverse ++ r) s Q := by
  obtain ⟨hd, rfl⟩ := hd
  intro w ρ0 s0 p l e R st m args below meth c H locs cells slots Qr ρ lr S E Dy
  obtain ⟨hro, hml, hdd, hmc, hms⟩ := hroom
  obtain ⟨D0, hb, hL, hw, hs⟩ := Dy
  have hs9 : (∀ x ∈ as, zl_wf (mN s) x) ∧ ∀ x ∈ r, zl_wf (mN s) x := ⟨fun x hx => hs x (List.mem_append_left _ (List.mem_reverse.mpr hx)), fun x hx => hs x (List.mem_append_right _ hx)⟩
  have hts := S.2.2.2.2.2.1
  have hrm := S.2.2.2.2.2.2.2.1
  obtain ⟨hh, i1, i3, i4, i5⟩ := hW9
  have cw := va_cnB (R := R) (s := st) (args := args) (own := M.1.cls) (host := "WhoseKiln") (index := idx) (y := M'.1) (rm := zl_rm d' M') (mc := M'.2.2.2.2.1) (ms := M'.2.2.2.2.2.1) as.length hts (zl_goodIn hh i4) (zl_mdws hh) rfl rfl (S.2.2.2.2.2.2.2.2.1.2.2.1 _ hL9) (hts _ i3) ⟨i5.1, i5.2, hN⟩ ⟨by show d' + 1 ≤ R.frames; omega, by show 8 + (M'.2.2.1 + 11) + 60 * d' ≤ R.locals; omega⟩
  have hp : PreS st H (zl_Pc w ρ as s) (as.map (zl_rv ρ)) := ⟨zl_blind, zl_start S D0 hs9.1⟩
  have run := va_runSN (e := e) (below := below) (meth := meth) (locs := locs) (cells := cells) (slots := slots) (rest := r.map (zl_rv ρ)) (g := F0 m pc lr ((as.reverse ++ r).map (zl_rv ρ))) ⟨S.1, S.2.1, S.2.2.2.1, S.2.2.2.2.1, hts⟩ (Cw.met kk (fun s' h => h.1 rfl) S.2.2.2.2.2.2.2.2.2.2.1 w ρ) ⟨cw, hts _ i1, trivial⟩ hp rfl (by simp) hL.1 (by simp) (by rw [zl_catsum]; show 2 * 0 + _ ≤ 8; omega) hd ⟨by omega, by omega⟩
  refine zl_behind (as := as) E S ⟨D0, hb, hL, hw, hs9.2⟩ ⟨hmc, hms⟩ (fun T hT X => ?_)
  obtain ⟨v, st₀, t, T', L, h0, X', hLf, e1, e2, ⟨⟨v', s', ρ', ho, hQ, hwf, hext, hown⟩, hF⟩, go⟩ := run T hT X
  exact Or.inl ⟨v, st₀, t, T', L, h0, X', hLf, e1, e2, ⟨⟨v', s', ρ', ho, hQ.2, hwf, hext, hown⟩, hF⟩, go⟩
/-- a constructor -/
theorem xi_I {M' : MD} {idx b d' : Nat} (hd : Dc M pc (.invokespecial idx) 3 pc') (hL9 : zn_Ml M.1.cls idx M') (hW9 : zn_MN M') (hN : zn_na M' 0) (hroom : (r.map fun v => v.category).sum ≤ 8 ∧ M'.2.2.1 ≤ 40 ∧ d' + 1 ≤ d ∧ M'.2.2.2.2.1 ≤ mc ∧ M'.2.2.2.2.2.1 ≤ ms)
    (kk : Cw d' M' [.ref b] s (zl_K d M (mc - M'.2.2.2.2.1) (ms - M'.2.2.2.2.2.1) pc' ls r Q)) : Xw d M mc ms pc ls (.ref b :: r) s Q := by
  obtain ⟨hd, rfl⟩ := hd
  intro w ρ0 s0 p l e R st m args below meth c H locs cells slots Qr ρ lr S E Dy
  obtain ⟨hro, hml, hdd, hmc, hms⟩ := hroom
  obtain ⟨D0, hb, hL, hw, hs⟩ := Dy
  have hts := S.2.2.2.2.2.1
  have hrm := S.2.2.2.2.2.2.2.1
  obtain ⟨hh, i1, i2, irt, i3, i4, i5⟩ := hW9
  have hmw := zl_mdws hh
  rw [irt] at hmw
  have cw := cwI (R := R) (s := st) (args := args) (own := M.1.cls) (index := idx) (y := M'.1) (rm := zl_rm d' M') (mc := M'.2.2.2.2.1) (ms := M'.2.2.2.2.2.1) 0 hts (zl_goodIn hh i4) hmw rfl rfl (hts _ i3) (hts _ hL9) (hts _ i1) i2 ⟨i5.1, i5.2, hN⟩ ⟨by show d' + 1 ≤ R.frames; omega, by show 8 + (M'.2.2.1 + 11) + 60 * d' ≤ R.locals; omega⟩
  have hp : PreS st H (zl_Pc w ρ [.ref b] s) (.ref (ρ b) :: []) := ⟨zl_blind, zl_start S D0 (as := [.ref b]) (zl_wc (zl_wh hs) (fun v hv => by cases hv))⟩
  have run := vx_runI (e := e) (below := below) (meth := meth) (locs := locs) (cells := cells) (slots := slots) (rest := r.map (zl_rv ρ)) (g := F0 m pc lr ((.ref b :: r).map (zl_rv ρ))) ⟨S.1, S.2.1, S.2.2.2.1, S.2.2.2.2.1, hts⟩ (kk l S.2.2.2.2.2.2.2.2.2.2.1 w ρ) cw hp rfl rfl hL.1 rfl (by rw [zl_catsum]; show 2 * 0 + _ ≤ 8; omega) hd ⟨by omega, by omega⟩
  exact zl_behind (as := [.ref b]) E S ⟨D0, hb, hL, hw, zl_wt hs⟩ ⟨hmc, hms⟩ run
/-- a private constructor of a nest mate -/
theorem xi_IN {M' : MD} {idx b d' : Nat} (hd : Dc M pc (.invokespecial idx) 3 pc') (hL9 : zn_Mx M.1.cls idx M') (hW9 : zn_MN M') (hN : zn_na M' 0) (hroom : (r.map fun v => v.category).sum ≤ 8 ∧ M'.2.2.1 ≤ 40 ∧ d' + 1 ≤ d ∧ M'.2.2.2.2.1 ≤ mc ∧ M'.2.2.2.2.2.1 ≤ ms)
    (kk : Cw d' M' [.ref b] s (zl_K d M (mc - M'.2.2.2.2.1) (ms - M'.2.2.2.2.2.1) pc' ls r Q)) : Xw d M mc ms pc ls (.ref b :: r) s Q := by
  obtain ⟨hd, rfl⟩ := hd
  intro w ρ0 s0 p l e R st m args below meth c H locs cells slots Qr ρ lr S E Dy
  obtain ⟨hro, hml, hdd, hmc, hms⟩ := hroom
  obtain ⟨D0, hb, hL, hw, hs⟩ := Dy
  have hts := S.2.2.2.2.2.1
  have hrm := S.2.2.2.2.2.2.2.1
  obtain ⟨hh, i1, i2, irt, i3, i4, i5⟩ := hW9
  have hmw := zl_mdws hh
  rw [irt] at hmw
  have cw := va_cnB (R := R) (s := st) (args := args) (own := M.1.cls) (host := "WhoseKiln") (index := idx) (y := M'.1) (rm := zl_rm d' M') (mc := M'.2.2.2.2.1) (ms := M'.2.2.2.2.2.1) 0 hts (zl_goodIn hh i4) hmw rfl rfl (S.2.2.2.2.2.2.2.2.1.2.2.1 _ hL9) (hts _ i3) ⟨i5.1, i5.2, hN⟩ ⟨by show d' + 1 ≤ R.frames; omega, by show 8 + (M'.2.2.1 + 11) + 60 * d' ≤ R.locals; omega⟩
  have hp : PreS st H (zl_Pc w ρ [.ref b] s) (.ref (ρ b) :: []) := ⟨zl_blind, zl_start S D0 (as := [.ref b]) (zl_wc (zl_wh hs) (fun v hv => by cases hv))⟩
  have run := vx_runIN (e := e) (below := below) (meth := meth) (locs := locs) (cells := cells) (slots := slots) (rest := r.map (zl_rv ρ)) (g := F0 m pc lr ((.ref b :: r).map (zl_rv ρ))) ⟨S.1, S.2.1, S.2.2.2.1, S.2.2.2.2.1, hts⟩ (kk l S.2.2.2.2.2.2.2.2.2.2.1 w ρ) ⟨cw, i2, hts _ i1⟩ hp rfl rfl hL.1 rfl (by rw [zl_catsum]; show 2 * 0 + _ ≤ 8; omega) hd ⟨by omega, by omega⟩
  exact zl_behind (as := [.ref b]) E S ⟨D0, hb, hL, hw, zl_wt hs⟩ ⟨hmc, hms⟩ run
end
