/-! from the kit's start to the function of the law (rows of the skeleton among them) -/
def R_law : String := "WhoseKilnLaw"
def lw_P (b : Addr) (xs : List Int32) (args : Array Value) (s : State) : Prop := args = #[.ref b] ∧ s.IntsAt b xs ∧ xs.length ≤ 3584 ∧ (Jvm.Cond.and given_1 narrow_1).before args s = true
def lw_Q (_ : Array Value) (s : State) (o : Outcome) (t : State) : Prop := o = .returned (some (.int 1)) ∧ Framed s o t [] 601024 7293034
def lw_Z (below : List Frame) (a : Array Value) (s : State) : State → Prop := fun t => ∃ o, t.status = .running ∧ Ended t below o ∧ lw_Q a s o t
/-- the law's own end, with 1 on the stack, nothing written that was there before, its room as the claim has it -/
theorem lw_ret {p : Program} {l : Launch} {e : Env} {s : State} {m : MethodId} {below : List Frame} {meth : Method} {c : Code} {b : Nat} (hx : p.tables.exec = Jvm.exec) (hb : c.code = code) (hr : meth.sig.returnType = ret) (hlocks : meth.locks = false) {pc : Nat} {H : Heap} {ls : Array Slot} (hdg : decode code pc = .ok (.ireturn, 1)) : W p l e room_1 s m #[Value.ref b] below meth c H [] 601024 7293034 (lw_Z below #[Value.ref b] s) (F0 m pc ls [.int 1]) := by
  intro T hT X
  obtain ⟨fs, hret, hrun, hended, hW, hframe⟩ := X.leave (v := some (.int 1)) (hlocks := hlocks) (fun h => by rw [hr] at h; cases h)
  have hmeth' : T.vm.method? m = some meth := X.method'
  refine ⟨T.setFrames fs, ?_, .returned (some (.int 1)), hrun, hended, rfl, ⟨_, rfl⟩, hW, hframe⟩
  jvm_step X.here [X.here.top, hx, hb, hdg, hmeth', hr, ret, narrow_b1]
  (try refine ⟨rfl, ?_⟩); (try refine ⟨rfl, ?_⟩)
  first | (intro acts; rw [hret _ acts rfl rfl rfl]) | rw [hret _ _ rfl rfl rfl]
  exact Steps.refl _
/-- what holds at the law's entry: the machine, the code, the tables' words (any of lw_tbl by 'hts w (by decide +kernel)'), the script of L ints xs at the cell b, what the Statement gives of the start (any of its parts by flat_of_before) -/
def lw_At (p : Program) (s : State) (m : MethodId) (meth : Method) (c : Code) (b L : Nat) (xs : Nat → Int32) : Prop :=
  p.tables.exec = Jvm.exec ∧ c.code = code ∧ meth.sig.returnType = ret ∧ c.maxLocals = 8 ∧ s.vm.findClass R_law = some m.cls ∧ (∀ w ∈ lw_tbl, w.before #[Value.ref b] s = true) ∧ va_X b L xs s s.heap ∧ b < s.heap.size ∧ meth.locks = false ∧ (Jvm.Cond.and given_1 narrow_1).before #[Value.ref b] s = true
section
def zs_or (j : Nat) : Int32 := ([24, 0, 0, 0, 12, 12, 0, 0, 8, 4, 8, 0, 6, 2, 2, 6] : List Int32).getD j 0
def zs_by (j : Nat) : Int32 := ([40, 41, 60, 61, 43, 45, 42, 59] : List Int32).getD j 0
/-- the memory at the law's start -/
def zs_0 (L : Nat) (xs : Nat → Int32) : Sg := (fun a j => if a = 0 then (if j = 4000 then nI L else xs j) else if a = 1 then zs_or j else if a = 3 then zs_by j else 0, fun _ _ => 0, fun _ _ => none, 4)
def zs_oT : Term := .static "WhoseKiln$Turns" "ORDERS" "[I"
def zs_sT : Term := .string "WhoseKiln$Reader" 133
def zs_vT : Term := .field zs_sT "java/lang/String" "value" "[B"
variable {s : State} {b : Nat}
theorem zs_cls (hG : ∀ x ∈ zn_G, x.before #[Value.ref b] s = true) : ∃ D : va_G, ∀ k, k < 7 → u_Kn s (zn_R k) (zn_F k) (zn_N k) (D.1 k) (D.2 k) := by
  have h1 : ∀ k, k < 7 → ∃ (cC : ClassId) (iS : Nat → Nat), u_Kn s (zn_R k) (zn_F k) (zn_N k) cC iS := by
    intro k hk
    have hin : Cond.instantiable (zn_R k) (zn_N k) ∈ zn_G := by
      have : k = 0 ∨ k = 1 ∨ k = 2 ∨ k = 3 ∨ k = 4 ∨ k = 5 ∨ k = 6 := by omega
      rcases this with rfl | rfl | rfl | rfl | rfl | rfl | rfl
      · exact T_Ow.1
      · exact T_Rd.1
      · exact T_To.1
      · exact T_Tu.1
      · exact T_Wo.1
      · exact T_Wk.1
      · exact T_Mo.1
    exact u_known hG (zn_lays k hk) (hG _ hin)
  have h0 : ∀ k, ∃ q : ClassId × (Nat → Nat), k < 7 → u_Kn s (zn_R k) (zn_F k) (zn_N k) q.1 q.2 := by
    intro k
    by_cases hk : k < 7
    · obtain ⟨c, i, h⟩ := h1 k hk
      exact ⟨(c, i), fun _ => h⟩
    · obtain ⟨c, i, h⟩ := h1 0 (by decide)
      exact ⟨(c, i), fun h => absurd h hk⟩
  obtain ⟨f, hf⟩ := Classical.axiomOfChoice h0
  exact ⟨(fun k => (f k).1, fun k => (f k).2), hf⟩
theorem zs_arr (hG : ∀ x ∈ zn_G, x.before #[Value.ref b] s = true) (hO : va_AO "WhoseKiln$Told" s) : ∃ A : Nat → ClassId, ∀ k, 10 ≤ k → k < 15 → ArrOfT s (A k) (zn_kty k) ∧ va_RA s (A k) (zn_kty k) := by
  have h1 : ∀ k, 10 ≤ k → k < 15 → ∃ cA : ClassId, ArrOfT s cA (zn_kty k) ∧ va_RA s cA (zn_kty k) := by
    intro k hk hk2
    have : k = 10 ∨ k = 11 ∨ k = 12 ∨ k = 13 ∨ k = 14 := by omega
    rcases this with rfl | rfl | rfl | rfl | rfl
    · obtain ⟨cA, kA, comp, h1, h2, h3⟩ := Cond.arrayClass_spec (hG _ T_int)
      exact ⟨cA, fun N z => ⟨fun k h => by cases h, kA, h2, comp, h3⟩, h1⟩
    · obtain ⟨cA, kA, comp, h1, h2, h3⟩ := Cond.arrayClass_spec (hG _ T_long)
      exact ⟨cA, fun N z => ⟨fun k h => by cases h, kA, h2, comp, h3⟩, h1⟩
    · obtain ⟨cA, kA, comp, h1, h2, h3⟩ := Cond.arrayClass_spec (hG _ T_char)
      exact ⟨cA, fun N z => ⟨fun k h => by cases h, kA, h2, comp, h3⟩, h1⟩
    · obtain ⟨cA, kA, comp, h1, h2, h3⟩ := Cond.arrayClass_spec (hG _ T_boolean)
      exact ⟨cA, fun N z => ⟨fun k h => by cases h, kA, h2, comp, h3⟩, h1⟩
    · obtain ⟨comp, c, k, h1, h2, h3, h4, h5⟩ := Cond.arrayOver_spec hO
      exact ⟨c, fun N z => ⟨fun k h => by cases h, k, h3, comp, h4⟩, k, comp, h3, h4, h1, h5⟩
  have h0 : ∀ k, ∃ q : ClassId, 10 ≤ k → k < 15 → ArrOfT s q (zn_kty k) ∧ va_RA s q (zn_kty k) := by
    intro k
    by_cases hk : 10 ≤ k ∧ k < 15
    · obtain ⟨c, h⟩ := h1 k hk.1 hk.2
      exact ⟨c, fun _ _ => h⟩
    · obtain ⟨c, h⟩ := h1 10 (by decide) (by decide)
      exact ⟨c, fun h9 h8 => absurd ⟨h9, h8⟩ hk⟩
  obtain ⟨f, hf⟩ := Classical.axiomOfChoice h0
  exact ⟨f, hf⟩
theorem zs_words : (zn_nest ++ zl_dec).all (fun c => decide (c ∈ lw_tbl) && c.onTables) = true := by decide +kernel
theorem zs_nw (hts : ∀ w ∈ lw_tbl, w.before #[Value.ref b] s = true) {c : Cond} (h : c ∈ zn_nest ++ zl_dec) : va_Nw c s := by
  have h1 := List.all_eq_true.mp zs_words c h
  simp only [Bool.and_eq_true, decide_eq_true_eq] at h1
  exact va_Nw.of h1.2 (hts _ h1.1)
end
