/-! the class at rest, and what it looks at -/
section
variable {V W : Vw} {s : Sg}
theorem LO_of (hW : WV V) {r : Nat} {o n : Nat → Int32} (he : eqW V W) (hl : laid W r o n 3) (ho : ∀ t, t < 3 → is_n (o t) 15 ∧ is_n (n t) 4) : LO W r := by
  have h16 : 2 ^ pN V - 1 ≤ 15 := by have := p2_le hW.1.2; omega
  intro t ht
  obtain ⟨l1, l2, l3, l4⟩ := hl t ht
  obtain ⟨o1, o2⟩ := ho t ht
  obtain ⟨-, -, k3, k4, -⟩ := hW.2.2.2.2.2.2.1 t ht
  have e71 : W 71 t = V 71 t := he 71 t rfl
  have e72 : W 72 t = V 72 t := he 72 t rfl
  rw [l1, l2, l3, l4]
  refine ⟨o1, o2, ?_, ?_, rfl, rfl⟩
  · split
    · exact o1
    · rw [e71]; exact k3
  · split
    · exact o2
    · rw [e72]; exact k4
theorem CV_eqW {e c : Nat → Int32} (h : CV V e c) (he : eqW V W) : CV W e c := by
  unfold CV at h ⊢
  rw [eqW_kN he, eqW_pN he]
  intro l hl q hq s hb h1 h2
  rw [he 68 _ rfl]
  exact h l hl q hq s hb h1 h2
theorem TV_eqW {g : Nat → Nat → Int32} (h : TV V g) (he : eqW V W) : TV W g := by
  obtain ⟨h1, h2, h3, h4, h5, h6⟩ := h
  refine ⟨?_, ?_, ?_, ?_, ?_, CV_eqW h6 he⟩
  · rw [he 46 10 rfl, he 46 11 rfl, he 46 12 rfl, he 46 46 rfl, he 46 47 rfl, he 46 45 rfl]; exact h1
  · rw [eqW_pN he]; intro p hp; rw [he 49 p rfl]; exact h2 p hp
  · intro k hk; rw [he 50 k rfl]; exact h3 k hk
  · rw [eqW_kN he]; intro l hl; rw [he 51 l rfl, he 52 l rfl]; exact h4 l hl
  · intro t ht; rw [he 69 t rfl, he 70 t rfl, he 71 t rfl, he 72 t rfl, he 73 t rfl]; exact h5 t ht
theorem RWr_cg {X : Vw} (e : eqT W X) (h : RWr W s) : RWr X s := by
  intro q hq h18 t ht u hu
  rw [cg_pN e] at hq hu
  rw [cg_tN e] at ht
  rw [cg_sWo e]
  exact h q hq h18 t ht u hu
/-- from the world as it is to another one that is asked about -/
theorem KT.to {X : Vw} (h : KT W s) (hw : eqW W X) (h39 : X 46 39 = W 46 39) (h38 : W 46 39 = 10 ∨ X 46 38 = W 46 38) : KT X s := by
  obtain ⟨⟨b, w, t, h7, h6, h4, ho⟩, hr, hg⟩ := h
  refine ⟨⟨b, WV_eqW w hw, TV_eqW t hw, by rw [h39]; exact h7, ?_, by rw [h39]; exact h4, ho⟩, RWr_cg (eqT_of (eqW.rf W) hw h39 h38) hr, hg⟩
  rw [h39]
  rcases h6 with h6 | h6
  · exact Or.inl h6
  · rcases h38 with h38 | h38
    · exact Or.inl h38
    · exact Or.inr (h6.trans h38.symm)
/-- what a look may write -/
def KY (s s' : Sg) : Prop := mN s' = mN s ∧ s'.2.2.1 = s.2.2.1 ∧ ∀ b k, ¬ (22 ≤ b ∧ b ≤ 30) → b ≠ 5 → mI s' b k = mI s b k ∧ mL s' b k = mL s b k
theorem KY.rf (s : Sg) : KY s s := ⟨rfl, rfl, fun _ _ _ _ => ⟨rfl, rfl⟩⟩
theorem KY.trans {s0 s1 s2 : Sg} (h : KY s0 s1) (k : KY s1 s2) : KY s0 s2 := ⟨k.1.trans h.1, k.2.1.trans h.2.1, fun b j hb hc => ⟨((k.2.2 b j hb hc).1).trans (h.2.2 b j hb hc).1, ((k.2.2 b j hb hc).2).trans (h.2.2 b j hb hc).2⟩⟩
theorem KY.u5 (s : Sg) (k : Nat) (x : Int32) : KY s (uI s 5 k x) := ⟨rfl, rfl, fun b j hb hc => ⟨zl_up_ne _ _ (fun e => by omega), rfl⟩⟩
theorem KS.y {a : Nat} {s s' : Sg} (h : KS a s s') (ha : a = 21 ∨ a = 26) : KY s s' := ⟨h.1, h.2.1, fun b k hb _ => h.2.2 b k (by omega)⟩
theorem KY.g {s s' : Sg} (h : KY s s') : KG s s' := ⟨h.1, h.2.1, fun b k hb => (h.2.2 b k (by omega) (by omega)).1⟩
theorem k_lookAtAsked (h : KT W s) (hO : LO W 0) (hL : LA W s 21 0) : ∃ s', f_Tu_lookAtAsked s = some ((), s') ∧ KT W s' ∧ KA W s' 21 0 ∧ mI s' 5 4 = 0 ∧ KY s s' ∧ (∀ b k, 26 ≤ b → b ≤ 30 → mI s' b k = mI s b k) ∧ (∀ k, k ≠ 4 → mI s' 5 k = mI s 5 k) := by
  have y1 := KY.u5 s 4 0
  have h1 := h.gf y1.g
  obtain ⟨s2, e2, a2, f2, -, -⟩ := k_settle h1.1 (Or.inl rfl) hO (fun t ht => ⟨(mI_ne _ _ (by omega)).trans (hL t ht).1, (mI_ne _ _ (by omega)).trans (hL t ht).2⟩)
  have y2 := f2.y (Or.inl rfl)
  refine ⟨s2, ?_, h1.gf y2.g, a2, ?_, y1.trans y2, fun b k h26 h30 => ?_, fun k hk => ?_⟩
  · unfold f_Tu_lookAtAsked
    rw [f_ck_of h.1.b]
    exact rn_bd e2 rfl
  · rw [(f2.2.2 5 4 (by omega)).1, mI_at]
  · rw [(f2.2.2 b k (by omega)).1, mI_ne _ _ (by omega)]
  · rw [(f2.2.2 5 k (by omega)).1, mI_ne _ _ (by omega)]
theorem k_lookAsIs (h : KT W s) (hO : LO W 0) (hL : ∀ t, t < 3 → W 74 (0 + t) = W 69 t ∧ W 75 (0 + t) = W 70 t) : ∃ s', f_Tu_lookAsIs s = some ((), s') ∧ KT W s' ∧ KA W s' 21 0 ∧ mI s' 5 4 = 0 ∧ KY s s' ∧ (∀ b k, 26 ≤ b → b ≤ 30 → mI s' b k = mI s b k) ∧ (∀ k, k ≠ 4 → mI s' 5 k = mI s 5 k) := by
  obtain ⟨s1, e1, f1, g1⟩ := k_copy (a := 21) h.1.b (Or.inl rfl)
  have y1 := f1.y (Or.inl rfl)
  have h1 := h.gf y1.g
  obtain ⟨s2, e2, h2, a2, z2, y2, k2, k3⟩ := k_lookAtAsked h1 hO (fun t ht9 => by
    have ht : t < 3 := by have := h.1.t3; omega
    rw [(g1 t ht).1, (g1 t ht).2, h.1.ow ht, h.1.ne ht, (hL t ht).1, (hL t ht).2]
    exact ⟨rfl, rfl⟩)
  refine ⟨s2, ?_, h2, a2, z2, y1.trans y2, fun b k h26 h30 => (k2 b k h26 h30).trans (f1.2.2 b k (by omega)).1, fun k hk => (k3 k hk).trans (f1.2.2 5 k (by omega)).1⟩
  unfold f_Tu_lookAsIs
  rw [f_ck_of h.1.b, f_bd_of e1, f_ck_of h1.1.b, f_bd_of e2]
theorem ask_LO (hW : WV V) : LO (askW V) 0 := LO_of hW kW_eq kW_la0 (fun t ht => own_lim hW t ht)
theorem k_lookAsk (hW : WV V) (h : KT (askW V) s) : ∃ s', f_Tu_lookAsIs s = some ((), s') ∧ LK (askW V) s' ∧ KY s s' := by
  obtain ⟨s1, e1, h1, a1, z1, y1, -⟩ := k_lookAsIs h (ask_LO hW) (fun t ht => by
    have h9 := (kW_la0 (V := V) (tm := 10) (ln := 0) (md := 0) (pe := 0) (th := 0) (su := 0) (o := fun t => V 69 t) (n := fun t => V 70 t) (o6 := fun _ => 0) (n6 := fun _ => 0)) t ht
    exact ⟨h9.1.trans (kW_no (a := 69) rfl).symm, h9.2.1.trans (kW_no (a := 70) rfl).symm⟩)
  exact ⟨s1, e1, ⟨h1, a1, z1.trans kW_50.symm, Or.inl kW_50⟩, y1⟩
/-- a deal is looked at -/
theorem k_lookDeal (hW : WV V) (h : KT (askW V) s) {th pe : Nat} (hth : th < tN V) (hpe : pe < pN V) {su ow md : Int32} (how : is_n ow 15) (hmd : md = 1 ∨ md = 2) (hsu : is_n su 9999) :
    ∃ s', f_Tu_lookAtDeal (nI th) ow (nI pe) su s = some ((), s') ∧ LK (dlW V md pe th su ow) (uI s' 5 4 md) ∧ KY s s' ∧ zl_B s' := by
  have ht3 := hW.2.1.2
  have h0 : KT (dlW V md pe th su ow) s := h.to (X := dlW V md pe th su ow) (fun b j hb => (kW_no hb).trans (kW_no hb).symm) rfl (Or.inl rfl)
  have lim : ∀ t, t < 3 → is_n (updF (fun t => V 69 t) th ow t) 15 ∧ is_n (updF (fun t => V 70 t) th 1 t) 4 := by
    intro t ht
    have := own_lim hW t ht
    unfold updF
    split
    · exact ⟨how, ⟨1, by decide, rfl⟩⟩
    · exact this
  have hO0 : LO (dlW V md pe th su ow) 0 := LO_of hW kW_eq kW_la0 (fun t ht => own_lim hW t ht)
  have hO6 : LO (dlW V md pe th su ow) 6 := LO_of hW kW_eq kW_la6 lim
  have la0 : laid (dlW V md pe th su ow) 0 (fun t => V 69 t) (fun t => V 70 t) 3 := kW_la0
  have la6 : laid (dlW V md pe th su ow) 6 (updF (fun t => V 69 t) th ow) (updF (fun t => V 70 t) th 1) 3 := kW_la6
  obtain ⟨s1, e1, h1, a1, z1, y1, -, -⟩ := k_lookAsIs h0 hO0 (fun t ht => ⟨(la0 t ht).1.trans (kW_no (a := 69) rfl).symm, (la0 t ht).2.1.trans (kW_no (a := 70) rfl).symm⟩)
  obtain ⟨s2, e2, f2, g2⟩ := k_copy (a := 26) h1.1.b (Or.inr rfl)
  have h2 := h1.gf (f2.g (Or.inr rfl))
  have f3 := KS.gv (a := 26) (t := th) s2 ow 1
  have h3 := h2.gf (f3.g (Or.inr rfl))
  have e3 := k_give (a := 26) (t := th) h2.1.b (Or.inr rfl) (by omega) ow 1
  have L3 : LA (dlW V md pe th su ow) (uI (uI s2 (26 + 1) th ow) (26 + 2) th 1) 26 6 := by
    intro t ht9
    have ht : t < 3 := by have := h3.1.t3; omega
    rw [(la6 t ht).1, (la6 t ht).2.1]
    unfold updF
    by_cases e : t = th
    · rw [if_pos e, if_pos e, e, mI_at, mI_ne _ _ (by omega), mI_at]; exact ⟨rfl, rfl⟩
    · rw [if_neg e, if_neg e, mI_ne _ _ (by omega), mI_ne _ _ (by omega), mI_ne _ _ (by omega), mI_ne _ _ (by omega), (g2 t ht).1, (g2 t ht).2, h1.1.ow ht, h1.1.ne ht]
      exact ⟨kW_no (a := 69) rfl, kW_no (a := 70) rfl⟩
  obtain ⟨s4, e4, a4, f4, -, -⟩ := k_settle h3.1 (Or.inr rfl) hO6 L3
  have h4 := h3.gf (f4.g (Or.inr rfl))
  have fA := (f2.trans f3).trans f4
  have y4 := y1.trans (fA.y (Or.inr rfl))
  have y5 := ((y4.trans (KY.u5 s4 5 (nI th))).trans (KY.u5 _ 6 (nI pe))).trans (KY.u5 _ 7 su)
  have y6 := ((KY.u5 s4 5 (nI th)).trans (KY.u5 _ 6 (nI pe))).trans (KY.u5 _ 7 su)
  have y7 := y6.trans (KY.u5 _ 4 md)
  have h7 := h4.gf y7.g
  refine ⟨_, ?_, ⟨h7, ?_, ?_, Or.inr ⟨hmd, ?_, ⟨?_, ?_, ?_⟩, hsu, ⟨pe, rfl, ?_⟩, ⟨th, rfl, ?_⟩⟩⟩, y5, (h4.gf y6.g).1.b⟩
  · unfold f_Tu_lookAtDeal
    simp only [f_ck_of h.1.b, f_bd_of e1, f_ck_of h1.1.b, f_bd_of e2, f_ck_of h2.1.b, f_bd_of e3, f_ck_of h3.1.b, f_bd_of e4, f_ck_of h4.1.b]
  · intro u hu
    rw [mI_ne _ _ (by omega), mI_ne _ _ (by omega), mI_ne _ _ (by omega), mI_ne _ _ (by omega), mI_ne _ _ (by omega), mI_ne _ _ (by omega), mI_ne _ _ (by omega), mI_ne _ _ (by omega), (fA.2.2 (21 + 3) u (by omega)).1, (fA.2.2 (21 + 4) u (by omega)).1]
    exact a1 u hu
  · exact mI_at _ _ _ _
  · intro u hu
    rw [mI_ne _ _ (by omega), mI_ne _ _ (by omega), mI_ne _ _ (by omega), mI_ne _ _ (by omega), mI_ne _ _ (by omega), mI_ne _ _ (by omega), mI_ne _ _ (by omega), mI_ne _ _ (by omega)]
    exact a4 u hu
  · rw [mI_ne _ _ (by decide), mI_ne _ _ (by decide), mI_ne _ _ (by decide), mI_at]; rfl
  · rw [mI_ne _ _ (by decide), mI_ne _ _ (by decide), mI_at]; rfl
  · rw [mI_ne _ _ (by decide), mI_at]; rfl
  · rw [eqW_pN (V' := dlW V md pe th su ow) kW_eq]; exact hpe
  · rw [eqW_tN (V' := dlW V md pe th su ow) kW_eq]; exact hth
end
