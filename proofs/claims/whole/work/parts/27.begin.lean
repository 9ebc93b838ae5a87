/-! from the kit's start to the function of the law (rows of the skeleton among them) -/
def R_law : String := "WhoseKilnLaw"
def lw_P (b : Addr) (xs : List Int32) (args : Array Value) (s : State) : Prop := args = #[.ref b] ∧ s.IntsAt b xs ∧ xs.length ≤ 3584 ∧ (Jvm.Cond.and given_1 narrow_1).before args s = true
def lw_Q (_ : Array Value) (s : State) (o : Outcome) (t : State) : Prop := o = .returned (some (.int 1)) ∧ Framed s o t [] 601024 7293034
def lw_Z (below : List Frame) (a : Array Value) (s : State) : State → Prop := fun t => ∃ o, t.status = .running ∧ Ended t below o ∧ lw_Q a s o t
/-- the law's own end, with 1 on the stack, nothing written that was there before, its room as the claim has it -/
theorem lw_ret {p : Program} {l : Launch} {e : Env} {s : State} {m : MethodId} {below : List Frame} {meth : Method} {c : Code} {b : Nat} (hx : p.tables.exec = Jvm.exec) (hb : c.code = code) (hr : meth.sig.returnType = ret) (hlocks : meth.locks = false) {pc : Nat} {H : Heap} {ls : Array Slot} (hdg : decode code pc = .ok (.ireturn, 1)) : W p l e room_1 s m #[Value.ref b] below meth c H [] 601024 7293034 (lw_Z below #[Value.ref b] s) (F0 m pc ls [.int 1]) := by
  intro T hT X
  obtain ⟨fs, hret, hrun, hended, hW, hframe⟩ := X.leave (v := some (.int 1)) (hlocks := hlocks) (fun h => by rw [hr] at h; cases h)
  have hmeth' : T.vm.method? m = some meth := X.method'
  refine ⟨T.setFrames fs, ?_, .returned (some (.int 1)), hrun, hended, rfl, ⟨_, rfl⟩, hW, hframe⟩
  jvm_step X.here [X.here.top, hx, hb, hdg, hmeth', hr, ret, narrow_b1]
  (try refine ⟨rfl, ?_⟩); (try refine ⟨rfl, ?_⟩)
  first | (intro acts; rw [hret _ acts rfl rfl rfl]) | rw [hret _ _ rfl rfl rfl]
  exact Steps.refl _
/-- what holds at the law's entry: the machine, the code, the tables' words (any of lw_tbl by 'hts w (by decide +kernel)'), the script of L ints xs at the cell b, what the Statement gives of the start (any of its parts by flat_of_before) -/
def lw_At (p : Program) (s : State) (m : MethodId) (meth : Method) (c : Code) (b L : Nat) (xs : Nat → Int32) : Prop :=
  p.tables.exec = Jvm.exec ∧ c.code = code ∧ meth.sig.returnType = ret ∧ c.maxLocals = 8 ∧ s.vm.findClass R_law = some m.cls ∧ (∀ w ∈ lw_tbl, w.before #[Value.ref b] s = true) ∧ va_X b L xs s s.heap ∧ b < s.heap.size ∧ meth.locks = false ∧ (Jvm.Cond.and given_1 narrow_1).before #[Value.ref b] s = true
section
def zs_or (j : Nat) : Int32 := ([24, 0, 0, 0, 12, 12, 0, 0, 8, 4, 8, 0, 6, 2, 2, 6] : List Int32).getD j 0
def zs_by (j : Nat) : Int32 := ([40, 41, 60, 61, 43, 45, 42, 59] : List Int32).getD j 0
/-- the memory at the law's start -/
def zs_0 (L : Nat) (xs : Nat → Int32) : Sg := (fun a j => if a = 0 then (if j = 4000 then nI L else xs j) else if a = 1 then zs_or j else if a = 3 then zs_by j else 0, fun _ _ => 0, fun _ _ => none, 4)
def zs_oT : Term := .static "WhoseKiln$Turns" "ORDERS" "[I"
def zs_sT : Term := .string "WhoseKiln$Reader" 133
def zs_vT : Term := .field zs_sT "java/lang/String" "value" "[B"
variable {s : State} {b : Nat}
theorem zs_cls (hG : ∀ x ∈ zn_G, x.before #[Value.ref b] s = true) : ∃ D : va_G, ∀ k, k < 7 → u_Kn s (zn_R k) (zn_F k) (zn_N k) (D.1 k) (D.2 k) := by
  have h1 : ∀ k, k < 7 → ∃ (cC : ClassId) (iS : Nat → Nat), u_Kn s (zn_R k) (zn_F k) (zn_N k) cC iS := by
    intro k hk
    have hin : Cond.instantiable (zn_R k) (zn_N k) ∈ zn_G := by
      have : k = 0 ∨ k = 1 ∨ k = 2 ∨ k = 3 ∨ k = 4 ∨ k = 5 ∨ k = 6 := by omega
      rcases this with rfl | rfl | rfl | rfl | rfl | rfl | rfl
      · exact T_Ow.1
      · exact T_Rd.1
      · exact T_To.1
      · exact T_Tu.1
      · exact T_Wo.1
      · exact T_Wk.1
      · exact T_Mo.1
    exact u_known hG (zn_lays k hk) (hG _ hin)
  have h0 : ∀ k, ∃ q : ClassId × (Nat → Nat), k < 7 → u_Kn s (zn_R k) (zn_F k) (zn_N k) q.1 q.2 := by
    intro k
    by_cases hk : k < 7
    · obtain ⟨c, i, h⟩ := h1 k hk
      exact ⟨(c, i), fun _ => h⟩
    · obtain ⟨c, i, h⟩ := h1 0 (by decide)
      exact ⟨(c, i), fun h => absurd h hk⟩
  obtain ⟨f, hf⟩ := Classical.axiomOfChoice h0
  exact ⟨(fun k => (f k).1, fun k => (f k).2), hf⟩
theorem zs_arr (hG : ∀ x ∈ zn_G, x.before #[Value.ref b] s = true) (hO : va_AO "WhoseKiln$Told" s) : ∃ A : Nat → ClassId, ∀ k, 10 ≤ k → k < 15 → ArrOfT s (A k) (zn_kty k) ∧ va_RA s (A k) (zn_kty k) := by
  have h1 : ∀ k, 10 ≤ k → k < 15 → ∃ cA : ClassId, ArrOfT s cA (zn_kty k) ∧ va_RA s cA (zn_kty k) := by
    intro k hk hk2
    have : k = 10 ∨ k = 11 ∨ k = 12 ∨ k = 13 ∨ k = 14 := by omega
    rcases this with rfl | rfl | rfl | rfl | rfl
    · obtain ⟨cA, kA, comp, h1, h2, h3⟩ := Cond.arrayClass_spec (hG _ T_int)
      exact ⟨cA, fun N z => ⟨(fun k h => by cases h), kA, h2, comp, h3⟩, h1⟩
    · obtain ⟨cA, kA, comp, h1, h2, h3⟩ := Cond.arrayClass_spec (hG _ T_long)
      exact ⟨cA, fun N z => ⟨(fun k h => by cases h), kA, h2, comp, h3⟩, h1⟩
    · obtain ⟨cA, kA, comp, h1, h2, h3⟩ := Cond.arrayClass_spec (hG _ T_char)
      exact ⟨cA, fun N z => ⟨(fun k h => by cases h), kA, h2, comp, h3⟩, h1⟩
    · obtain ⟨cA, kA, comp, h1, h2, h3⟩ := Cond.arrayClass_spec (hG _ T_boolean)
      exact ⟨cA, fun N z => ⟨(fun k h => by cases h), kA, h2, comp, h3⟩, h1⟩
    · obtain ⟨comp, c, k, h1, h2, h3, h4, h5⟩ := Cond.arrayOver_spec hO
      exact ⟨c, fun N z => ⟨(fun k h => by cases h), k, h3, comp, h4⟩, k, comp, h3, h4, h1, h5⟩
  have h0 : ∀ k, ∃ q : ClassId, 10 ≤ k → k < 15 → ArrOfT s q (zn_kty k) ∧ va_RA s q (zn_kty k) := by
    intro k
    by_cases hk : 10 ≤ k ∧ k < 15
    · obtain ⟨c, h⟩ := h1 k hk.1 hk.2
      exact ⟨c, fun _ _ => h⟩
    · obtain ⟨c, h⟩ := h1 10 (by decide) (by decide)
      exact ⟨c, fun h9 h8 => absurd ⟨h9, h8⟩ hk⟩
  obtain ⟨f, hf⟩ := Classical.axiomOfChoice h0
  exact ⟨f, hf⟩
theorem zs_words : (zn_nest ++ zl_dec).all (fun c => decide (c ∈ lw_tbl) && c.onTables) = true := by decide +kernel
theorem zs_nw (hts : ∀ w ∈ lw_tbl, w.before #[Value.ref b] s = true) {c : Cond} (h : c ∈ zn_nest ++ zl_dec) : va_Nw c s := by
  have h1 := List.all_eq_true.mp zs_words c h
  simp only [Bool.and_eq_true, decide_eq_true_eq] at h1
  exact va_Nw.of h1.2 (hts _ h1.1)
end
section
variable {s : State} {b : Nat}
theorem zs_ro (hts : ∀ w ∈ lw_tbl, w.before #[Value.ref b] s = true) (hs : ∀ c ∈ flatC (Jvm.Cond.and given_1 narrow_1), c.before #[Value.ref b] s = true) {L : Nat} {xs : Nat → Int32} (hL : L ≤ 3584) (hX : va_X b L xs s s.heap) (hb : b < s.heap.size) (D : va_G) (A : Nat → ClassId) :
    ∃ ρ : Nat → Nat, ρ 0 = b ∧ zl_RO (D, A, s.heap.size, L) ρ (zs_0 L xs).1 s s.heap ∧ vk_R "WhoseKiln$Reader" 133 "()<=+-*;" (ρ 2) s := by
  have hA : ∀ a : Nat, a < s.heap.size → ¬ zl_A (D, A, s.heap.size, L) a := fun a h h2 => Nat.not_le.mpr h h2
  obtain ⟨t1, ht1, hT1⟩ := va_Tof (s := s) (args := #[Value.ref b]) (tm := zs_oT) (ty := .int) (N := 16) (f := fun j => .int (zs_or j)) (A := zl_A (D, A, s.heap.size, L)) (by decide) (hs _ (by decide +kernel)) (va_eqt (hs _ (by decide +kernel))) (fun j hj => by
    have : j = 0 ∨ j = 1 ∨ j = 2 ∨ j = 3 ∨ j = 4 ∨ j = 5 ∨ j = 6 ∨ j = 7 ∨ j = 8 ∨ j = 9 ∨ j = 10 ∨ j = 11 ∨ j = 12 ∨ j = 13 ∨ j = 14 ∨ j = 15 := by omega
    rcases this with rfl | rfl | rfl | rfl | rfl | rfl | rfl | rfl | rfl | rfl | rfl | rfl | rfl | rfl | rfl | rfl <;> exact va_eqt (hs _ (by decide +kernel))) hA
  have hZ1 := va_Zref (s := s) (args := #[Value.ref b]) (C := "WhoseKiln$Turns") (n := "ORDERS") (d := "[I") (A := zl_A (D, A, s.heap.size, L)) (hts _ (by decide +kernel)) (hts _ (by decide +kernel)) ht1 hA
  obtain ⟨adK, adV, hS, hev⟩ := vk_Sof (s := s) (args := #[Value.ref b]) (N := 1) (tm := fun _ => zs_sT) (len := [8]) (byt := [[40, 41, 60, 61, 43, 45, 42, 59]]) (A := zl_A (D, A, s.heap.size, L)) (fun i hi => by
      have : i = 0 := by omega
      subst this; decide) (fun i hi => hs _ (by decide +kernel)) (fun i hi => hs _ (by decide +kernel)) (fun i hi => hs _ (by decide +kernel)) (fun i hi => by
      have : i = 0 := by omega
      subst this
      exact hs _ (by decide +kernel)) (fun i hi j hj => by
      have : i = 0 := by omega
      subst this
      have hj8 : j < 8 := hj
      have : j = 0 ∨ j = 1 ∨ j = 2 ∨ j = 3 ∨ j = 4 ∨ j = 5 ∨ j = 6 ∨ j = 7 := by omega
      rcases this with rfl | rfl | rfl | rfl | rfl | rfl | rfl | rfl <;> exact hs _ (by decide +kernel)) (fun i j hi hj h => absurd (by omega : i = j) h) hA
  obtain ⟨o1, o2, o3, o4⟩ := hS.1 0 (by decide)
  refine ⟨fun a => if a = 0 then b else if a = 1 then t1 else if a = 2 then adK 0 else adV 0, rfl, ⟨⟨?_, ?_, ?_, ?_⟩, hT1, hZ1, o1, o2, o3, o4, ?_, ?_, ?_⟩, ?_⟩
  · obtain ⟨scr, h1, h2, h3, h4, h5⟩ := hX
    refine ⟨scr, h1, h2, h3, h4, fun j hj => ?_⟩
    have hj9 : j < L := hj
    rw [h5 j hj]
    show some (Value.int (xs j)) = some (Value.int (if j = 4000 then nI L else xs j))
    rw [if_neg (by omega)]
  · exact hb
  · exact hb
  · show L = (nI L).toNatClampNeg
    exact (nI_clamp (by omega)).symm
  · exact va_Zof (s := s) (args := #[Value.ref b]) (hts _ (by decide +kernel)) (hts _ (by decide +kernel)) (va_eqt (hs _ (by decide +kernel))) hA
  · exact vx_Zqof (s := s) (args := #[Value.ref b]) (hts _ (by decide +kernel)) (hts _ (by decide +kernel)) (hs _ (by decide +kernel)) hA
  · exact vx_Zqof (s := s) (args := #[Value.ref b]) (hts _ (by decide +kernel)) (hts _ (by decide +kernel)) (hs _ (by decide +kernel)) hA
  · exact vk_R.of (A := #[Value.ref b]) (hts _ (by decide +kernel)) (by
      have := hev 0 (by decide)
      exact this)
end
/-- the law's walk out of the function of the law -/
theorem zl_begin {p : Program} {e : Env} {s : State} {m : MethodId} {below : List Frame} {meth : Method} {c : Code} (l : Launch) (hflags : l.flags = flags0) {b L : Nat} {xs : Nat → Int32} (hL : L ≤ 3584) (C0 : lw_At p s m meth c b L xs) (hp : okx (fun (r : Int32) (_ : Sg) => r = 1) (f_La_law (zs_0 L xs))) :
    W p l e room_1 s m #[Value.ref b] below meth c s.heap [] 0 0 (lw_Z below #[Value.ref b] s) (entryFrame m ([Value.ref b] : List Value).toArray 8) := by
  obtain ⟨hexec, hbd, hret, hml, hown, hts, hX, hbl, hlk, hgv⟩ := C0
  have hs := flat_of_before _ hgv
  have hG : ∀ x ∈ zn_G, x.before #[Value.ref b] s = true := fun x hx => hts x (List.mem_filter.mp hx).1
  have hO : va_AO "WhoseKiln$Told" s := va_AO.of (hts _ (by decide +kernel : Cond.arrayOver (.object "WhoseKiln$Told") ∈ lw_tbl))
  obtain ⟨D, hD⟩ := zs_cls hG
  obtain ⟨A, hAr⟩ := zs_arr hG hO
  obtain ⟨ρ, hρ, hRO, hR⟩ := zs_ro hts hs hL hX hbl D A
  have hl : l.stackTraces = false := by unfold Launch.stackTraces; rw [hflags]; decide
  subst hρ
  have hx := w_La_law (d := 100) (Q := fun o _ => o = some (some (.int 1))) (by decide) (okx_mono hp (fun r s9 h => by show some (some (Value.int r)) = some (some (Value.int 1)); rw [h]))
  show W p l e room_1 s m #[Value.ref (ρ 0)] below meth c s.heap [] 0 0 (lw_Z below #[Value.ref (ρ 0)] s) (entryFrame m (([Value.ref 0].map (zl_rv ρ)).toArray) 8)
  rw [lg_entry_eq]
  refine hx (D, A, s.heap.size, L) ρ (zs_0 L xs) p l e room_1 s m #[Value.ref (ρ 0)] below meth c s.heap [] 0 0 (lw_Z below #[Value.ref (ρ 0)] s) ρ _
    ⟨hexec, hbd, hret, hml, hown, hG, hlk, ⟨by decide, by decide⟩, ⟨hD, hAr, fun c hc => zs_nw hts (List.mem_append_left _ hc), fun c hc => zs_nw hts (List.mem_append_right _ hc), hO, hR⟩, hRO, hl, (fun h9 => absurd h9 (by decide)), (fun h9 => absurd rfl h9)⟩ ⟨?_, ?_, ?_⟩ ⟨⟨⟨Nat.le_refl _, ?_, ?_, ?_⟩, va_S.rf, zl_ext.rf (Nat.le_refl 4), Nat.zero_le _, Nat.zero_le _⟩, ⟨by decide, by decide⟩, zl_entry ρ [.ref 0] (nL := 8) (by decide), (show ∀ v ∈ zl_en [.ref 0] 8, zl_wf 4 v from zl_en_wf fun x hx => by
      simp only [List.mem_cons, List.not_mem_nil, or_false] at hx
      subst hx
      show 0 < 4
      decide), fun v hv => by cases hv⟩
  · intro v s' ρ' pc ins lr H locs cells slots hQ hr hdg hD9
    obtain ⟨hown', hS, hext, hc, hs9⟩ := hD9
    cases hQ
    rcases hr with ⟨-, h, -⟩ | ⟨x, ty, rfl, h, -, -⟩ | ⟨x, -, h, -⟩
    · cases h
    · exact va_forget hS.2.2 (W.widen hc hs9 (lw_ret hexec hbd hret hlk hdg))
    · cases h
  · intro s' ρ' pc lr rest H locs cells slots hQ
    cases hQ
  · intro s' ρ' pc lr rest H locs cells slots q ce hQ
    cases hQ
  · intro a h1 h2
    exact absurd h2 (Nat.not_lt.mpr h1)
  · intro a b9 h1 h2
    exact absurd h2 (Nat.not_lt.mpr h1)
  · intro a j b9 h1 h2
    exact absurd h2 (Nat.not_lt.mpr h1)
