section
variable {d : Nat} {M : MD} {mc ms pc pc' tgt : Nat} {ls ls' r : List Value} {s : Sg} {Q : Option (Option Value) → Sg → Prop}
/-- the first n places of an array, copied -/
def uC (s : Sg) (a0 a n : Nat) : Sg := (fun b j => if b = a ∧ j < n then s.1 a0 j else s.1 b j, s.2)
theorem zl_uC_o (s : Sg) (a0 a n : Nat) : ∀ b, b ≠ a → ∀ j, mI (uC s a0 a n) b j = mI s b j ∧ mL (uC s a0 a n) b j = mL s b j ∧ mR (uC s a0 a n) b j = mR s b j := fun b hb j => ⟨if_neg fun h => hb h.1, rfl, rfl⟩
theorem zl_copyw : Cond.native arraycopyName ∈ zn_G ∧ Cond.static arraycopyName ∈ zn_G ∧ Cond.initialized "java/lang/System" ∈ zn_G := ⟨zn_in 469 (by decide +kernel) rfl, zn_in 468 (by decide +kernel) rfl, zn_in 14 (by decide +kernel) rfl⟩
set_option maxHeartbeats 1000000 in
theorem xi_copy {idx a0 a n0 n1 n : Nat} {i : Int32} (hd : Dc M pc (.invokestatic idx) 3 pc') (hl : Cond.methodLink M.1.cls idx arraycopyName ∈ zn_G) (ha0 : zl_ar s a0 10 n0) (ha : zl_ar s a 10 n1) (hn : ¬ i < 0 ∧ i.toNatClampNeg = n ∧ n ≤ n0 ∧ n ≤ n1) (hd1 : 1 ≤ d ∧ (r.map fun v => v.category).sum ≤ 8)
    (kk : Xw d M mc ms pc' ls r (uC s a0 a n) Q) : Xw d M mc ms pc ls (.int i :: .int 0 :: .ref a :: .int 0 :: .ref a0 :: r) s Q := by
  obtain ⟨hd, rfl⟩ := hd
  obtain ⟨hn0, rfl, hn1, hn2⟩ := hn
  intro w ρ0 s0 p l e R st m args below meth c H locs cells slots Qr ρ lr S E Dy
  obtain ⟨D0, hb, hL, hw, hs⟩ := Dy
  have hts := S.2.2.2.2.2.1
  have hrm := S.2.2.2.2.2.2.2.1
  have RS := S.2.2.2.2.2.2.2.2.1
  obtain ⟨hc0, hof0⟩ := zl_arr RS D0.1 ha0
  obtain ⟨hc1, hof1⟩ := zl_arr RS D0.1 ha
  have e0 : (fun j => zl_cv ρ s (zn_kt 10) a0 j) = fun j => Value.int (mI s a0 j) := rfl
  have e1 : (fun j => zl_cv ρ s (zn_kt 10) a j) = fun j => Value.int (mI s a j) := rfl
  rw [e0] at hc0
  rw [e1] at hc1
  intro T hT X
  obtain ⟨-, k0, hk0, cm0, hkk0⟩ := hof0 n0 (fun j => .int (mI s a0 j))
  obtain ⟨-, k1, hk1, cm1, hkk1⟩ := hof1 n1 (fun j => .int (mI s a j))
  have nn : i.toInt = (i.toNatClampNeg : Int) := by
    have hz0 : (0 : Int) ≤ i.toInt := by
      have := Int32.not_lt.mp hn0
      simpa using Int32.le_iff_toInt_le.mp this
    show i.toInt = ((i.toInt.toNat : Nat) : Int)
    omega
  obtain ⟨vm', X', step⟩ := X.arraycopy S.1 S.2.2.2.2.1 (hts _ hl) (hts _ zl_copyw.1) (hts _ zl_copyw.2.1) (hts _ zl_copyw.2.2) (src := ρ a0) (dst := ρ a) (cs := arrV (w.2.1 10) n0 (fun j => .int (mI s a0 j))) (cd := arrV (w.2.1 10) n1 (fun j => .int (mI s a j))) (srcPos := 0) (destPos := 0) (n := i) (by rw [hT]; exact hc0) (by rw [hT]; exact hc1)
    (fun _ h => by cases h) (fun _ h => by cases h) (fun h => by cases h) (fun h => by cases h) hk0 hk1 hkk0 hkk1 (by decide) (by decide) (by decide) hn0
    (by rw [nn, arrV_size]; show ¬ (0 : Int) + _ > _; omega)
    (by rw [nn, arrV_size]; show ¬ (0 : Int) + _ > _; omega)
    (fun vm₁ _ j hj => by
      have e : (arrV (w.2.1 10) n0 (fun j => Value.int (mI s a0 j))).slots.getD ((0 : Int32).toNatClampNeg + j) .null = .int (mI s a0 ((0 : Int32).toNatClampNeg + j)) := by
        rw [Array.getD_eq_getD_getElem?, arrV_read _ _ (by show (0 : Int32).toNatClampNeg + j < n0; have : (0 : Int32).toNatClampNeg = 0 := rfl; omega)]
        rfl
      refine ⟨?_, ?_⟩
      · rw [e]; rfl
      · rw [e]; exact trivial)
    (g := F0 m pc lr (.int i :: .int 0 :: .ref (ρ a) :: .int 0 :: .ref (ρ a0) :: r.map (zl_rv ρ))) rfl (by rw [S.2.2.2.1]; exact hL.1) (rest := r.map (zl_rv ρ)) rfl (by rw [S.2.1]; exact hd) (by omega)
    (by
      show 2 * 0 + _ + _ ≤ _
      rw [zl_catsum]
      have : nativeFrameWords "java/lang/System" "arraycopy" 5 + 11 ≤ 20 := by decide
      omega)
  have ec : copied (arrV (w.2.1 10) n0 (fun j => Value.int (mI s a0 j))) (arrV (w.2.1 10) n1 (fun j => Value.int (mI s a j))) 0 0 i = arrV (w.2.1 10) n1 (fun j => .int (va_cpy (mI s a0) (mI s a) 0 0 i.toNatClampNeg j)) := va_copied (fun z => .int z) (w.2.1 10) (w.2.1 10) (mI s a0) (mI s a) (by show (0 : Int32).toNatClampNeg + _ ≤ _; have : (0 : Int32).toNatClampNeg = 0 := rfl; omega)
  rw [ec] at X' step
  have hlt : ρ a < H.size := (Array.getElem?_eq_some_iff.mp hc1).1
  have hheap : ((T.setVm vm').setCell (ρ a) (arrV (w.2.1 10) n1 (fun j => .int (va_cpy (mI s a0) (mI s a) 0 0 i.toNatClampNeg j)))).heap = H.setIfInBounds (ρ a) (arrV (w.2.1 10) n1 (fun j => .int (va_cpy (mI s a0) (mI s a) 0 0 i.toNatClampNeg j))) := by rw [← hT]; rfl
  have oq : ∀ q : Nat, q ≠ ρ a → (H.setIfInBounds (ρ a) (arrV (w.2.1 10) n1 (fun j => .int (va_cpy (mI s a0) (mI s a) 0 0 i.toNatClampNeg j))))[q]? = H[q]? := fun q hq => by simp [Array.getElem?_setIfInBounds, Ne.symm hq]
  have hz : (H.setIfInBounds (ρ a) (arrV (w.2.1 10) n1 (fun j => .int (va_cpy (mI s a0) (mI s a) 0 0 i.toNatClampNeg j)))).size = H.size := by simp
  have ecell : zl_cell w ρ (uC s a0 a i.toNatClampNeg) a (H.setIfInBounds (ρ a) (arrV (w.2.1 10) n1 (fun j => .int (va_cpy (mI s a0) (mI s a) 0 0 i.toNatClampNeg j)))) := by
    unfold zl_cell
    rw [ha.2.2.1, if_neg (show ¬ (10 : Nat) < 7 by decide)]
    have h9 : (H.setIfInBounds (ρ a) (arrV (w.2.1 10) n1 (fun j => .int (va_cpy (mI s a0) (mI s a) 0 0 i.toNatClampNeg j))))[ρ a]? = some (arrV (w.2.1 10) n1 (fun j => .int (va_cpy (mI s a0) (mI s a) 0 0 i.toNatClampNeg j))) := by simp [Array.getElem?_setIfInBounds, hlt]
    rw [h9]
    congr 2
    funext j
    show Value.int _ = Value.int _
    congr 1
    show (if 0 ≤ j ∧ j < 0 + i.toNatClampNeg then mI s a0 (0 + (j - 0)) else mI s a j) = (if a = a ∧ j < i.toNatClampNeg then s.1 a0 j else s.1 a j)
    by_cases h : j < i.toNatClampNeg
    · rw [if_pos ⟨Nat.zero_le _, by omega⟩, if_pos ⟨rfl, h⟩, Nat.zero_add, Nat.sub_zero]; rfl
    · rw [if_neg (by omega), if_neg (by omega)]; rfl
  have hA := (D0.1.2.1 a ha.1 ha.2.1).2
  obtain ⟨t, a1, b1⟩ := kk w ρ0 s0 p l e R st m args below meth c _ _ cells slots Qr ρ lr S E
    ⟨⟨D0.1.upd (s' := uC s a0 a i.toNatClampNeg) ⟨ha.1, ha.2.1⟩ rfl hz oq ecell (zl_uC_o _ _ _ _) (fun j9 b9 h9 => D0.1.2.2.2 a j9 b9 ha.1 ha.2.1 h9),
      ⟨by rw [hz]; exact D0.2.1.1, fun q g1 g2 => by
        rw [oq q (fun e => g2 (by rw [e]; exact hA))]
        exact D0.2.1.2.1 q g1 g2, fun q hq => by
        rcases List.mem_append.mp hq with h | h
        · exact D0.2.1.2.2 q h
        · obtain ⟨z, -, hz⟩ := List.mem_map.mp h
          rw [← hz]
          exact hA⟩,
      ⟨D0.2.2.1.1, D0.2.2.1.2.1, fun b j hb => (zl_uC_o s a0 a _ b (fun e => by have := ha.1; omega) j).1.trans (D0.2.2.1.2.2.1 b j hb), D0.2.2.1.2.2.2⟩, D0.2.2.2⟩, hb, hL, hw, zl_wt (zl_wt (zl_wt (zl_wt (zl_wt hs))))⟩ _ hheap X'
  exact ⟨t, step t a1, b1⟩
theorem zl_stU {ρ : Nat → Nat} {nL : Nat} {l l' : Array Slot} {i : Nat} {x : Value} (h : zl_L ρ nL ls l) (hi : i < nL) (h' : lv_has l' nL ((i, x) :: (zl_lp ρ 0 ls).filter (fun q => !(q.1 == i) && !(q.1 + 1 == i && q.2.category == 2)))) : zl_L ρ nL (zl_s1 ls i (.retAddr 0)) l' := by
  refine ⟨h'.1, h'.2.1, by simp [zl_s1, zl_clr_len, h.2.2.1], fun j x hx hn => ?_⟩
  unfold zl_s1 at hx
  rw [List.getElem?_set] at hx
  split at hx
  · split at hx
    · cases hx; exact absurd rfl hn
    · cases hx
  · next hij =>
    obtain ⟨h1, h2⟩ := zl_clr_at hx hn
    refine h'.2.2 (j, zl_rv ρ x) (List.mem_cons_of_mem _ (List.mem_filter.mpr ⟨(zl_lp_mem ls 0 _).mpr ⟨j, x, h1, hn, by rw [Nat.zero_add]⟩, ?_⟩))
    simp only [zl_rv_cat, Bool.and_eq_true, Bool.not_eq_true', beq_eq_false_iff_ne, Bool.and_eq_false_iff]
    refine ⟨fun e => hij e.symm, ?_⟩
    by_cases e : j + 1 = i
    · exact Or.inr (h2 e)
    · exact Or.inl e
theorem zl_castw : Cond.castable zl_NSE zl_NSE ∈ zl_dec := List.mem_cons_self
/-- a call whose throw is caught by this method's own row; the handler keeps it in a local -/
theorem xi_VT (as : List Value) {M' : MD} {idx b k d' i to hp ct hp' n9 : Nat} {ins : Instr} (hd : Dc M pc (.invokevirtual idx) 3 pc') (hL9 : zn_Ml M.1.cls idx M') (hW9 : zn_MI M') (hN : zn_na M' as.length) (hb9 : zl_at s b k ∧ zn_R k = M'.1.cls) (hroom : (r.map fun v => v.category).sum ≤ 8 ∧ M'.2.2.1 ≤ 40 ∧ d' + 1 ≤ d ∧ M'.2.2.2.2.1 ≤ mc ∧ M'.2.2.2.2.2.1 ≤ ms)
    (hh9 : M.2.2.2.2.2.2 = [(0, to, hp, ct)]) (hpc : pc < to) (hct : ct ≠ 0) (hcl9 : Cond.classLink M.1.cls ct zl_NSE ∈ zn_G) (hst : Dc M hp ins n9 hp') (hins : (ins = .astore i ∧ n9 = 2) ∨ (∃ k9 : Fin 4, ins = .astore_n k9 ∧ (k9 : Nat) = i ∧ n9 = 1)) (hi : i < M.2.2.1)
    (kk : Cw d' M' (.ref b :: as) s (fun o s' => match o with | some v => Xw d M (mc - M'.2.2.2.2.1) (ms - M'.2.2.2.2.2.1) pc' ls (v.toList ++ r) s' Q | none => Xw d M (mc - M'.2.2.2.2.1) (ms - M'.2.2.2.2.2.1) hp' (zl_s1 ls i (.retAddr 0)) [] s' Q)) : Xw d M mc ms pc ls (as.reverse ++ .ref b :: r) s Q := by
  obtain ⟨hd, rfl⟩ := hd
  obtain ⟨hst, rfl⟩ := hst
  intro w ρ0 s0 p l e R st m args below meth c H locs cells slots Qr ρ lr S E Dy
  obtain ⟨hro, hml, hdd, hmc, hms⟩ := hroom
  obtain ⟨D0, hb, hL, hw, hs⟩ := Dy
  have hs9 : (∀ x ∈ as, zl_wf (mN s) x) ∧ zl_wf (mN s) (.ref b) ∧ ∀ x ∈ r, zl_wf (mN s) x := ⟨fun x hx => hs x (List.mem_append_left _ (List.mem_reverse.mpr hx)), hs _ (List.mem_append_right _ List.mem_cons_self), fun x hx => hs x (List.mem_append_right _ (List.mem_cons_of_mem _ hx))⟩
  have hts := S.2.2.2.2.2.1
  have hrm := S.2.2.2.2.2.2.2.1
  obtain ⟨hh, i1, i2, i3, i4, i5⟩ := hW9
  have cw : CallW R st args M.1.cls M'.1.cls idx M'.1 M'.2.1 M'.2.2.1 M'.2.2.2.1 (md_ws M') (zl_rm d' M') M'.2.2.2.2.1 M'.2.2.2.2.2.1 as.length :=
    cwV as.length hts (zl_goodIn4 (fun x hx => by
      simp only [List.mem_cons, List.not_mem_nil, or_false] at hx
      rcases hx with rfl | rfl | rfl | rfl
      · exact hL9
      · exact i1
      · exact i2
      · exact i3) (zl_goodIn hh i4)) (zl_mdws hh) rfl rfl ⟨rfl, i5.1, i5.2, hN⟩ ⟨by show d' + 1 ≤ R.frames; omega, by show 8 + (M'.2.2.1 + 11) + 60 * d' ≤ R.locals; omega⟩
  have hcell := (D0.1.2.1 b hb9.1.1 hb9.1.2.1).1
  unfold zl_cell at hcell
  rw [hb9.1.2.2.1, if_pos hb9.1.2.2.2] at hcell
  obtain ⟨cell, g1, g2, g3, -⟩ := hcell
  have hcls := (S.2.2.2.2.2.2.2.2.1.1 k hb9.1.2.2.2).2.1
  have hpre : PreV st H M'.1.cls (ρ b) (zl_Pc w ρ (.ref b :: as) s) (as.map (zl_rv ρ)) := ⟨zl_blind, ⟨cell, g1, by rw [g3]; rfl, by rw [← hb9.2, g2]; exact hcls⟩, zl_start S D0 (as := .ref b :: as) (zl_wc hs9.2.1 hs9.1)⟩
  have run := vx_runV (e := e) (below := below) (meth := meth) (locs := locs) (cells := cells) (slots := slots) (rest := r.map (zl_rv ρ)) (g := F0 m pc lr ((as.reverse ++ .ref b :: r).map (zl_rv ρ))) ⟨S.1, S.2.1, S.2.2.2.1, S.2.2.2.2.1, hts⟩ (kk l S.2.2.2.2.2.2.2.2.2.2.1 w ρ) cw hpre rfl (by simp) hL.1 (by simp [zl_rv]) (by rw [zl_catsum]; show 2 * 0 + _ ≤ 8; omega) hd ⟨by omega, by omega⟩
  intro T hT X
  rcases run T hT X with ⟨v, st₀, t, T', L, h0, X', hLf, e1, e2, ⟨⟨v', s', ρ', ho, hQ, hwf, hext, hown⟩, hF⟩, go⟩ | ⟨q, st₀, t, T', L, E9, ce, h0, X', hLf, e1, e2, ⟨rfl, ⟨s', ρ', hQ, hext, hown⟩, hF⟩, hce, hcv, hcl, go⟩
  · have hv : v = v'.map (zl_rv ρ') := by
      injection ho
    obtain ⟨k1, k2, k3⟩ := vx_keep h0 e1 D0.2.1 (fun _ _ h => h) (fun _ h => h) hLf hF
    have k := hQ w ρ0 s0 p l e R st m args below meth c T'.heap (locs ++ L) (cells + M'.2.2.2.2.1) (slots + M'.2.2.2.2.2.1) Qr ρ' lr S E ⟨⟨by rw [e1]; exact hown, k3, D0.2.2.1.trans hext, by omega, by omega⟩, ⟨by omega, by omega⟩, hL.ext hext.2.1 hw, zl_wfs.mono hext.1 hw, fun x hx => ?_⟩
    · obtain ⟨t2, a1, b1⟩ := k T' rfl X'
      refine ⟨t2, go t2 ?_, b1⟩
      rw [List.map_append, zl_map_ext hext.2.1 hs9.2.2] at a1
      rw [hv]
      cases v' <;> exact a1
    · rcases List.mem_append.mp hx with hx | hx
      · cases v' with
        | none => cases hx
        | some y => rw [List.mem_singleton.mp hx]; exact hwf y rfl
      · exact (hs9.2.2 x hx).mono hext.1
  · obtain ⟨k1, k2, k3⟩ := vx_keep h0 e1 D0.2.1 (fun _ _ h => h) (fun _ h => h) hLf hF
    have htab : c.exceptionTable.toList = [] ++ (⟨0, to, hp, ct⟩ : ExceptionTableEntry) :: [] := by
      rw [S.2.2.2.2.2.2.2.2.2.2.2.2 (by rw [hh9]; exact fun h => by cases h), hh9]; rfl
    have hlast : W p l e R st m args below meth c T'.heap (locs ++ L) (cells + M'.2.2.2.2.1) (slots + M'.2.2.2.2.2.1) Qr (F0 m hp lr [.ref q]) := by
      have kx : ∀ lr9 : Array Slot, lv_has lr9 M.2.2.1 ((i, .ref q) :: (zl_lp ρ 0 ls).filter (fun q => !(q.1 == i) && !(q.1 + 1 == i && q.2.category == 2))) → W p l e R st m args below meth c T'.heap (locs ++ L) (cells + M'.2.2.2.2.1) (slots + M'.2.2.2.2.2.1) Qr (F0 m (hp + n9) lr9 []) := fun lr9 h9 =>
        hQ w ρ0 s0 p l e R st m args below meth c T'.heap (locs ++ L) (cells + M'.2.2.2.2.1) (slots + M'.2.2.2.2.2.1) Qr ρ' lr9 S E ⟨⟨by rw [e1]; exact hown, k3, D0.2.2.1.trans hext, by omega, by omega⟩, ⟨by omega, by omega⟩, (zl_stU hL hi h9).ext hext.2.1 (zl_s1_wf hw trivial), zl_wfs.mono hext.1 (zl_s1_wf hw trivial), fun x hx => by cases hx⟩
      rcases hins with ⟨rfl, rfl⟩ | ⟨k9, rfl, hk9, rfl⟩
      · exact lv_astore S.1 S.2.1 hst hL.has hi rfl kx
      · exact lv_astore_n S.1 S.2.1 hst hk9 hL.has hi rfl kx
    have kW := vx_catch (rest := r.map (zl_rv ρ)) (pc := pc) S.2.2.2.2.1 [] (⟨0, to, hp, ct⟩ : ExceptionTableEntry) [] htab (fun z hz => by cases hz) (by show (decide (0 ≤ pc) && decide (pc < to)) = true; simp [hpc]) hct (hts _ hcl9) ((S.2.2.2.2.2.2.2.2.1.2.2.2.1 _ zl_castw).use rfl) (by rw [e1]; exact hce) hcv hcl hlast
    obtain ⟨t2, a1, b1⟩ := kW T' rfl X'
    exact ⟨t2, go.trans a1, b1⟩
end
