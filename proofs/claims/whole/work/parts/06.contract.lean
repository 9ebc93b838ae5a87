section
theorem zl_at0_in : ((vx_at0 "WhoseKiln" 93 zl_NSE zl_names).filter goodWord).all (fun x => decide (x ∈ tables_1)) = true := by decide +kernel
theorem zl_at0_ot : (Cond.classLink "WhoseKiln" 91 zl_NSE :: Cond.initialized zl_NSE :: vx_at0 "WhoseKiln" 93 zl_NSE zl_names).all vx_ot = true := by decide +kernel
theorem zl_nse_link : Cond.classLink "WhoseKiln" 91 zl_NSE ∈ zn_G := zn_in 772 (by decide +kernel) rfl
theorem zl_nse_ini : Cond.initialized zl_NSE ∈ zn_G := zn_in 18 (by decide +kernel) rfl
theorem zl_dec_tab : zl_dec.all Cond.onTables = true := by decide +kernel
theorem zl_at0_before {args : Array Value} {st : State} (hts : ∀ x ∈ zn_G, x.before args st = true) (hd : ∀ c ∈ zl_dec, va_Nw c st) : ∀ x ∈ vx_at0 "WhoseKiln" 93 zl_NSE zl_names, x.before args st = true := by
  refine vx_hat (B := zl_dec) (fun x hx => ?_) (fun x hx => List.mem_cons_of_mem _ hx) (fun x hx => (hd x hx).use (List.all_eq_true.mp zl_dec_tab x hx))
  have h1 := List.all_eq_true.mp zl_at0_in x hx
  exact hts x (List.mem_filter.mpr ⟨List.mem_append_right _ (by simpa using h1), (List.mem_filter.mp hx).2⟩)
set_option maxHeartbeats 4000000 in
theorem zl_core {d : Nat} {M : MD} {as : List Value} {s : Sg} {Q : Option (Option Value) → Sg → Prop} {w : Om} {ρ : Nat → Nat} {p : Program} {l : Launch} {e : Env} {st : State} {m : MethodId} {args : Array Value} {below : List Frame} {meth : Method} {c : Code} {s₁ : State}
    (B : BodyLoose p l M.1 (headSpec (md_ws M) (zl_rm d M)) M.2.1 M.2.2.1 M.2.2.2.1 e st m args below meth c s₁) (hml : c.maxLocals = M.2.2.1) (htab : zl_tab M.2.2.2.2.2.2 c) (hP : zl_Pc w ρ as s args st) (hl : l.stackTraces = false)
    (hlen : (zl_lay as).length ≤ M.2.2.1) (k : Xw d M M.2.2.2.2.1 M.2.2.2.2.2.1 0 (zl_en as M.2.2.1) [] s Q) :
    W p l e (zl_rm d M) st m args below meth c st.heap [] 0 0 (vx_MQ below (zl_Qc w ρ s Q) (zl_XC w ρ s Q) args st M.2.2.2.2.1 M.2.2.2.2.2.1 (zl_A w)) (entryFrame m args M.2.2.1) := by
  obtain ⟨rfl, hwf, h4, hRS, hRO, hown⟩ := hP
  have hts0 := atoms_spec (ws := md_ws M) B.pre
  have hts : ∀ x ∈ zn_G, x.before (as.map (zl_rv ρ)).toArray st = true := fun x hx => hts0 x (List.mem_cons_of_mem _ hx)
  rw [lg_entry_eq]
  refine k w ρ s p l e (zl_rm d M) st m _ below meth c st.heap [] 0 0 _ ρ _ ⟨B.exec, B.bytes, B.returns, hml, findClass_of_methodNamed B.named, hts, B.notSynchronized, ⟨Nat.le_refl _, Nat.le_refl _⟩, hRS, hRO, hl, (fun h9 => (name_of_methodNamed B.named B.method).1.trans h9), htab.2⟩ ⟨?_, ?_, ?_⟩ ⟨⟨hown, va_S.rf, zl_ext.rf h4, Nat.zero_le _, Nat.zero_le _⟩, ⟨Nat.le_of_eq (Nat.zero_add _), Nat.le_of_eq (Nat.zero_add _)⟩, zl_entry ρ as hlen, zl_en_wf hwf, fun v hv => by cases hv⟩
  · intro v s' ρ' pc ins lr H locs cells slots hQ hret hdg hD
    obtain ⟨hown', hS, hext, hc, hs⟩ := hD
    have hF : ∀ q ∈ locs, zl_A w q.base := hS.2.2
    rcases hret with ⟨rfl, rfl, hrt⟩ | ⟨x, ty, rfl, rfl, hrt, hn⟩ | ⟨x, rfl, rfl, hrt⟩
    · exact W.widen hc hs (vx_ret (W.vret B.exec B.bytes (B.returns.trans hrt) (fun t ht hW => ⟨⟨none, s', ρ', rfl, hQ, (fun x h => by cases h), hext, by rw [ht]; exact hown'⟩, hS.F ht⟩) hF hdg B.notSynchronized))
    · exact W.widen hc hs (vx_ret (W.zret B.exec B.bytes (B.returns.trans hrt) hn (fun t ht hW => ⟨⟨some (.int x), s', ρ', rfl, hQ, (fun y h => by cases h; trivial), hext, by rw [ht]; exact hown'⟩, hS.F ht⟩) hF hdg B.notSynchronized))
    · exact W.widen hc hs (vx_ret (W.lret B.exec B.bytes (B.returns.trans hrt) (fun t ht hW => ⟨⟨some (.long x), s', ρ', rfl, hQ, (fun y h => by cases h; trivial), hext, by rw [ht]; exact hown'⟩, hS.F ht⟩) hF hdg B.notSynchronized))
  · intro s' ρ' pc lr rest H locs cells slots hQ hT hsz hcat hc1 hs1 hfr hlo hD
    obtain ⟨hown', hS, hext, hc, hs⟩ := hD
    obtain ⟨hcls, hhh, d0, d3, d4, d7⟩ := hT
    have hown9 := findClass_of_methodNamed B.named
    rw [hcls] at hown9
    have hRO' := hRO
    obtain ⟨-, -, -, -, -, -, -, -, hU, hN⟩ := hRO'
    refine vx_throw0 (own := "WhoseKiln") (cls := zl_NSE) (names := zl_names) (ik := 91) (ic := 93) (A := zl_A w) B.exec B.bytes hl hown9 (by decide +kernel) (by decide +kernel) (hts _ zl_nse_link) (hts _ zl_nse_ini) (zl_at0_before hts hRS.2.2.2.1) (fun x hx => List.all_eq_true.mp zl_at0_ot x hx) hU hN hS hsz d0 d3 d4 d7 (fun x hx => absurd (htab.1 hhh x hx) not_false) ?_ ?_ hc1 hs1 B.notSynchronized ?_ hS.2.2 ?_ ?_
    · show 2 + 3 < (zl_rm d M).frames
      omega
    · show _ + (13 * (2 + 1) + 42) ≤ _
      omega
    · intro t hal hz hq
      refine ⟨rfl, ⟨s', ρ', hQ, hext, ?_⟩, ⟨Nat.le_trans hS.1 hz, fun q h1 h2 => (hq q (Nat.lt_of_lt_of_le h1 hS.1)).trans (hS.2.1 q h1 h2)⟩⟩
      refine ⟨Nat.le_trans hown'.1 hz, fun a h1 h2 => ⟨?_, (hown'.2.1 a h1 h2).2⟩, hown'.2.2.1, hown'.2.2.2⟩
      have h9 := (hown'.2.1 a h1 h2).1
      unfold zl_cell at h9 ⊢
      split
      · next hk =>
        rw [if_pos hk] at h9
        obtain ⟨cell, q1, q2⟩ := h9
        exact ⟨cell, by rw [hq _ (Array.getElem?_eq_some_iff.mp q1).1]; exact q1, q2⟩
      · next hk =>
        rw [if_neg hk] at h9
        rw [hq _ (Array.getElem?_eq_some_iff.mp h9).1]
        exact h9
    · exact hc1
    · exact hs1
  · intro s' ρ' pc lr rest H locs cells slots q ce hQ hce hcv hcl hhh hD
    obtain ⟨hown', hS, hext, hc, hs⟩ := hD
    exact vx_out (E := zl_NSE) (ce := ce) (fun x hx => absurd (htab.1 hhh x hx) not_false) B.notSynchronized hce hcv hcl (fun t ht hal => ⟨rfl, ⟨s', ρ', hQ, hext, by rw [ht]; exact hown'⟩, hS.F ht⟩) hS.2.2 hc hs
theorem Cw.of {d : Nat} {M : MD} {as : List Value} {s : Sg} {Q : Option (Option Value) → Sg → Prop} (hpl : plainName M.1.cls = true) (hlen : (zl_lay as).length ≤ M.2.2.1) (k : Xw d M M.2.2.2.2.1 M.2.2.2.2.2.1 0 (zl_en as M.2.2.1) [] s Q) : Cw d M as s Q := by
  intro l hl w ρ
  by_cases hh : M.2.2.2.2.2.2 = []
  · refine vx_ofW (cc := M.2.1) (maxL := M.2.2.1) (ret := M.2.2.2.1) (ws' := zn_G) hpl (by unfold md_ws; rw [if_pos hh]) ?_
    intro p e st m args below meth c s₁ B hml ht hP
    exact zl_core B hml ⟨fun _ => ht, fun h => absurd hh h⟩ hP hl hlen k
  · have hw : md_ws M = Cond.codeWith M.1 M.2.1 M.2.2.1 M.2.2.2.1 M.2.2.2.2.2.2 :: zn_G := by unfold md_ws; rw [if_neg hh]
    refine vx_ofWH (cc := M.2.1) (maxL := M.2.2.1) (ret := M.2.2.2.1) (hh := M.2.2.2.2.2.2) (ws' := zn_G) hpl hw ?_
    intro p e st m args below meth c s₁ B hml hP
    have ht := vx_table (x := M.1) B (atoms_spec (ws := md_ws M) B.pre _ (by rw [hw]; exact List.mem_cons_self))
    exact zl_core B hml ⟨fun h => absurd h hh, fun _ => ht⟩ hP hl hlen k
end
