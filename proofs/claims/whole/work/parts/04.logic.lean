/-! the memory of the systems at addresses of our own: 0 the script, 1 the table of orders, 2 the text of signs, 3 its bytes, 4.. what the law's run makes -/
section
abbrev Sg : Type := (Nat → Nat → Int32) × (Nat → Nat → Int64) × (Nat → Nat → Option Nat) × Nat
def mI (s : Sg) (a k : Nat) : Int32 := s.1 a k
def mL (s : Sg) (a k : Nat) : Int64 := s.2.1 a k
def mR (s : Sg) (a k : Nat) : Option Nat := s.2.2.1 a k
def mN (s : Sg) : Nat := s.2.2.2
def zl_up {α : Type} (f : Nat → Nat → α) (a k : Nat) (x : α) : Nat → Nat → α := fun b j => if b = a ∧ j = k then x else f b j
def uI (s : Sg) (a k : Nat) (x : Int32) : Sg := (zl_up s.1 a k x, s.2)
def uL (s : Sg) (a k : Nat) (x : Int64) : Sg := (s.1, zl_up s.2.1 a k x, s.2.2)
def uR (s : Sg) (a k : Nat) (x : Option Nat) : Sg := (s.1, s.2.1, zl_up s.2.2.1 a k x, s.2.2.2)
/-- a new cell -/
def uN (s : Sg) : Sg := (fun a j => if a = s.2.2.2 then 0 else s.1 a j, fun a j => if a = s.2.2.2 then 0 else s.2.1 a j, fun a j => if a = s.2.2.2 then none else s.2.2.1 a j, s.2.2.2 + 1)
def zl_rv (ρ : Nat → Nat) (v : Value) : Value := match v with
  | .ref a => .ref (ρ a)
  | x => x
def zl_ro (ρ : Nat → Nat) (r : Option Nat) : Value := match r with
  | none => .null
  | some b => .ref (ρ b)
def zl_wf (n : Nat) (v : Value) : Prop := match v with
  | .ref a => a < n
  | _ => True
def zl_cv (ρ : Nat → Nat) (s : Sg) (t a j : Nat) : Value := if t = 0 then .int (mI s a j) else if t = 1 then .long (mL s a j) else zl_ro ρ (mR s a j)
/-- classes, array classes, the least address that is the run's own, the script's length -/
abbrev Om : Type := va_G × (Nat → ClassId) × Nat × Nat
def zl_A (w : Om) : Nat → Prop := fun q => w.2.2.1 ≤ q
def zl_cell (w : Om) (ρ : Nat → Nat) (s : Sg) (a : Nat) (H : Heap) : Prop :=
  if (zn_SH a).1 < 7 then t_OB (ρ a) (w.1.1 (zn_SH a).1) (zn_N (zn_SH a).1) (w.1.2 (zn_SH a).1) H (fun j => zl_cv ρ s (zn_ft (zn_SH a).1 j) a j)
  else H[ρ a]? = some (arrV (w.2.1 (zn_SH a).1) (zn_SH a).2 (fun j => zl_cv ρ s (zn_kt (zn_SH a).1) a j))
def zl_own (w : Om) (ρ : Nat → Nat) (s : Sg) (H : Heap) : Prop :=
  w.2.2.1 ≤ H.size ∧ (∀ a, 4 ≤ a → a < mN s → zl_cell w ρ s a H ∧ w.2.2.1 ≤ ρ a) ∧ (∀ a b, 4 ≤ a → a < mN s → 4 ≤ b → b < mN s → ρ a = ρ b → a = b) ∧ (∀ a j b, 4 ≤ a → a < mN s → mR s a j = some b → b < mN s)
def zl_NSE : String := "java/util/NoSuchElementException"
def zl_names : List String := ["java/lang/RuntimeException", "java/lang/Exception"]
/-- the words of a throw that the tables' lists don't keep by themselves -/
def zl_dec : List Cond := (Cond.castable zl_NSE zl_NSE) :: (vx_at0 "WhoseKiln" 93 zl_NSE zl_names).filter (fun w => !goodWord w)
def zl_RS (w : Om) (q2 : Nat) (U : State) : Prop :=
  (∀ k, k < 7 → u_Kn U (zn_R k) (zn_F k) (zn_N k) (w.1.1 k) (w.1.2 k)) ∧ (∀ k, 10 ≤ k → k < 15 → ArrOfT U (w.2.1 k) (zn_kty k) ∧ va_RA U (w.2.1 k) (zn_kty k)) ∧
  (∀ c ∈ zn_nest, va_Nw c U) ∧ (∀ c ∈ zl_dec, va_Nw c U) ∧ va_AO "WhoseKiln$Told" U ∧ vk_R "WhoseKiln$Reader" 133 "()<=+-*;" q2 U
def zl_RO (w : Om) (ρ : Nat → Nat) (f : Nat → Nat → Int32) (U : State) (H : Heap) : Prop :=
  (va_X (ρ 0) w.2.2.2 (f 0) U H ∧ ρ 0 < w.2.2.1 ∧ ρ 0 < H.size ∧ w.2.2.2 = (f 0 4000).toNatClampNeg) ∧ va_T .int (ρ 1) 16 (fun j => .int (f 1 j)) (zl_A w) U H ∧ va_Z "WhoseKiln$Turns" "ORDERS" "[I" (.ref (ρ 1)) (zl_A w) U H ∧
  va_O "java/lang/String" (ρ 2) (zl_A w) U H ∧ va_OF "java/lang/String" "coder" "B" (.int 0) (ρ 2) (zl_A w) U H ∧ va_OF "java/lang/String" "value" "[B" (.ref (ρ 3)) (ρ 2) (zl_A w) U H ∧
  va_T .byte (ρ 3) 8 (fun j => .int (f 3 j)) (zl_A w) U H ∧ va_Z "java/lang/String" "COMPACT_STRINGS" "Z" (.int 1) (zl_A w) U H ∧
  vx_Zq Bundle.tN "UNASSIGNED_STACK" Bundle.steD (zl_A w) U H ∧ vx_Zq Bundle.tN "SUPPRESSED_SENTINEL" Bundle.listD (zl_A w) U H
theorem zl_nest_warm {s U : State} (hW : s.WarmedH U.vm) (h : ∀ c ∈ zn_nest, va_Nw c s) : ∀ c ∈ zn_nest, va_Nw c U := by
  intro c hc
  have h1 := h c hc
  simp only [zn_nest, List.mem_cons, List.not_mem_nil, or_false] at hc
  rcases hc with rfl | rfl | rfl | rfl | rfl | rfl <;> exact va_Nw.warmM hW h1
def zl_isDC (c : Cond) : Bool := match c with
  | .declares _ => true
  | .castable _ _ => true
  | _ => false
theorem zl_dec_ok : zl_dec.all zl_isDC = true := by decide +kernel
theorem zl_dec_warm {s U : State} (hW : s.WarmedH U.vm) (h : ∀ c ∈ zl_dec, va_Nw c s) : ∀ c ∈ zl_dec, va_Nw c U := by
  intro c hc
  have h1 := h c hc
  have h2 := List.all_eq_true.mp zl_dec_ok c hc
  cases c <;> first | exact va_Nw.warmD hW h1 | exact va_Nw.warmC hW h1 | exact absurd h2 Bool.false_ne_true
theorem zl_RS.warm {w : Om} {q2 : Nat} {s U : State} (hW : s.WarmedH U.vm) (h : zl_RS w q2 s) : zl_RS w q2 U :=
  ⟨fun k hk => u_Kn_moved hW.alike (h.1 k hk), fun k h1 h2 => ⟨arrOfT_moved hW.alike (h.2.1 k h1 h2).1, (h.2.1 k h1 h2).2.moved hW.alike⟩, zl_nest_warm hW h.2.2.1, zl_dec_warm hW h.2.2.2.1, va_AO.moved hW.alike h.2.2.2.2.1, vk_R.warm hW h.2.2.2.2.2⟩
theorem zl_RO.moved {w : Om} {ρ : Nat → Nat} {f : Nat → Nat → Int32} {s U : State} {H : Heap} (hvm : s.vm.Alike U.vm) (h : zl_RO w ρ f s H) : zl_RO w ρ f U H := by
  obtain ⟨⟨h1, h1b, h1c⟩, h2, h3, h4, h5, h6, h7, h8, h9, h10⟩ := h
  exact ⟨⟨va_X.moved hvm h1, h1b, h1c⟩, va_T.moved hvm h2, va_Z.moved hvm h3, va_O.moved hvm h4, va_OF.moved hvm h5, va_OF.moved hvm h6, va_T.moved hvm h7, va_Z.moved hvm h8, vx_Zq.moved hvm h9, vx_Zq.moved hvm h10⟩
theorem zl_RO.kept {w : Om} {ρ : Nat → Nat} {f : Nat → Nat → Int32} {s : State} {H H1 : Heap} (h : zl_RO w ρ f s H) (hz : H.size ≤ H1.size) (hq : ∀ q : Nat, q < H.size → ¬ zl_A w q → H1[q]? = H[q]?) : zl_RO w ρ f s H1 := by
  obtain ⟨⟨h1, h1b, h1c, h1d⟩, h2, h3, h4, h5, h6, h7, h8, h9, h10⟩ := h
  exact ⟨⟨va_X.kept h1 (hq _ h1c (Nat.not_le.mpr h1b)), h1b, Nat.lt_of_lt_of_le h1c hz, h1d⟩, h2.kept hq, h3.kept hq, h4.kept hq, h5.kept hq, h6.kept hq, h7.kept hq, h8.kept hq, vx_Zq.kept h9 hq, vx_Zq.kept h10 hq⟩
theorem zl_RO.congr {w : Om} {ρ ρ' : Nat → Nat} {f g : Nat → Nat → Int32} {s : State} {H : Heap} (h : zl_RO w ρ f s H) (h1 : ∀ a, a < 4 → ρ' a = ρ a) (h2 : ∀ a j, a < 4 → g a j = f a j) : zl_RO w ρ' g s H := by
  have e0 : g 0 = f 0 := funext fun j => h2 0 j (by decide)
  have e1 : g 1 = f 1 := funext fun j => h2 1 j (by decide)
  have e3 : g 3 = f 3 := funext fun j => h2 3 j (by decide)
  unfold zl_RO at h ⊢
  rw [h1 0 (by decide), h1 1 (by decide), h1 2 (by decide), h1 3 (by decide), e0, e1, e3]
  exact h
def zl_ext (ρ0 : Nat → Nat) (s0 : Sg) (ρ : Nat → Nat) (s : Sg) : Prop := mN s0 ≤ mN s ∧ (∀ a, a < mN s0 → ρ a = ρ0 a) ∧ (∀ a j, a < 4 → mI s a j = mI s0 a j) ∧ 4 ≤ mN s0
theorem zl_ext.rf {ρ : Nat → Nat} {s : Sg} (h : 4 ≤ mN s) : zl_ext ρ s ρ s := ⟨Nat.le_refl _, fun _ _ => rfl, fun _ _ _ => rfl, h⟩
theorem zl_ext.trans {ρ0 ρ1 ρ2 : Nat → Nat} {s0 s1 s2 : Sg} (h : zl_ext ρ0 s0 ρ1 s1) (k : zl_ext ρ1 s1 ρ2 s2) : zl_ext ρ0 s0 ρ2 s2 :=
  ⟨Nat.le_trans h.1 k.1, fun a ha => (k.2.1 a (Nat.lt_of_lt_of_le ha h.1)).trans (h.2.1 a ha), fun a j ha => (k.2.2.1 a j ha).trans (h.2.2.1 a j ha), h.2.2.2⟩
def zl_D0 (w : Om) (ρ0 : Nat → Nat) (s0 : Sg) (ρ : Nat → Nat) (s : Sg) (R : Room) (st : State) (H : Heap) (locs : List Loc) (cells slots : Nat) : Prop :=
  zl_own w ρ s H ∧ va_S (zl_A w) st.heap H locs ∧ zl_ext ρ0 s0 ρ s ∧ cells ≤ R.cells ∧ slots ≤ R.slots
def zl_L (ρ : Nat → Nat) (nL : Nat) (ls : List Value) (l : Array Slot) : Prop := l.size = nL ∧ lv_wf l ∧ ls.length = nL ∧ ∀ (i : Nat) (v : Value), ls[i]? = some v → v ≠ .retAddr 0 → l[i]? = some (.val (zl_rv ρ v))
def zl_Dy (M : MD) (mc ms : Nat) (ls stk : List Value) (w : Om) (ρ0 : Nat → Nat) (s0 : Sg) (ρ : Nat → Nat) (s : Sg) (R : Room) (st : State) (H : Heap) (locs : List Loc) (cells slots : Nat) (lr : Array Slot) : Prop :=
  zl_D0 w ρ0 s0 ρ s R st H locs cells slots ∧ (cells + mc ≤ R.cells ∧ slots + ms ≤ R.slots) ∧ zl_L ρ M.2.2.1 ls lr ∧ (∀ v ∈ ls, zl_wf (mN s) v) ∧ (∀ v ∈ stk, zl_wf (mN s) v)
def zl_tab (hh : List (Nat × Nat × Nat × Nat)) (c : Code) : Prop := (hh = [] → ∀ x ∈ c.exceptionTable.toList, False) ∧ (hh ≠ [] → c.exceptionTable.toList = tableOf hh)
def zl_St (d : Nat) (M : MD) (w : Om) (ρ0 : Nat → Nat) (s0 : Sg) (p : Program) (l : Launch) (R : Room) (st : State) (m : MethodId) (args : Array Value) (meth : Method) (c : Code) : Prop :=
  p.tables.exec = Jvm.exec ∧ c.code = M.2.1 ∧ meth.sig.returnType = M.2.2.2.1 ∧ c.maxLocals = M.2.2.1 ∧ st.vm.findClass M.1.cls = some m.cls ∧ (∀ x ∈ zn_G, x.before args st = true) ∧ meth.locks = false ∧ (d ≤ R.frames ∧ 60 * d ≤ R.locals) ∧
  zl_RS w (ρ0 2) st ∧ zl_RO w ρ0 s0.1 st st.heap ∧ l.stackTraces = false ∧ (M.1.name = "<init>" → meth.name = "<init>") ∧ (M.2.2.2.2.2.2 ≠ [] → c.exceptionTable.toList = tableOf M.2.2.2.2.2.2)
def zl_Ret (ins : Instr) (v : Option Value) (rt : Option FieldType) : Prop := (ins = .return_ ∧ v = none ∧ rt = none) ∨ (∃ (x : Int32) (ty : FieldType), ins = .ireturn ∧ v = some (.int x) ∧ rt = some ty ∧ narrow ty (.int x) = .int x) ∨ (∃ x : Int64, ins = .lreturn ∧ v = some (.long x) ∧ rt = some .long)
def zl_Thr (M : MD) (pc : Nat) : Prop := M.1.cls = "WhoseKiln" ∧ M.2.2.2.2.2.2 = [] ∧ decode M.2.1 pc = .ok (.new 91, 3) ∧ decode M.2.1 (pc + 3) = .ok (.dup, 1) ∧ decode M.2.1 (pc + 4) = .ok (.invokespecial 93, 3) ∧ decode M.2.1 (pc + 7) = .ok (.athrow, 1)
def zl_End (M : MD) (w : Om) (ρ0 : Nat → Nat) (s0 : Sg) (p : Program) (l : Launch) (e : Env) (R : Room) (st : State) (m : MethodId) (args : Array Value) (below : List Frame) (meth : Method) (c : Code) (Q : Option (Option Value) → Sg → Prop) (Qr : State → Prop) : Prop :=
  (∀ (v : Option Value) (s : Sg) (ρ : Nat → Nat) (pc : Nat) (ins : Instr) (lr : Array Slot) (H : Heap) (locs : List Loc) (cells slots : Nat), Q (some v) s → zl_Ret ins v M.2.2.2.1 → decode M.2.1 pc = .ok (ins, 1) → zl_D0 w ρ0 s0 ρ s R st H locs cells slots →
    W p l e R st m args below meth c H locs cells slots Qr (F0 m pc lr (v.toList.map (zl_rv ρ)))) ∧
  (∀ (s : Sg) (ρ : Nat → Nat) (pc : Nat) (lr : Array Slot) (rest : List Value) (H : Heap) (locs : List Loc) (cells slots : Nat), Q none s → zl_Thr M pc → lr.size = c.maxLocals → (rest.map fun v => v.category).sum ≤ 8 → cells + 1 ≤ R.cells → slots + 6 ≤ R.slots → 8 ≤ R.frames → 480 ≤ R.locals → zl_D0 w ρ0 s0 ρ s R st H locs cells slots →
    W p l e R st m args below meth c H locs cells slots Qr (F0 m pc lr rest)) ∧
  (∀ (s : Sg) (ρ : Nat → Nat) (pc : Nat) (lr : Array Slot) (rest : List Value) (H : Heap) (locs : List Loc) (cells slots : Nat) (q : Addr) (ce : Cell), Q none s → H[q]? = some ce → ce.vm = .none → st.vm.findClass zl_NSE = some ce.cls → M.2.2.2.2.2.2 = [] → zl_D0 w ρ0 s0 ρ s R st H locs cells slots →
    vx_W p l e R st m args below meth c H locs cells slots Qr (F0 m pc lr rest) q)
/-- from the point pc of the method M, with these locals, this stack, this memory, it comes to an end with Q; mc cells, ms slots may be made, d frames are left -/
def Xw (d : Nat) (M : MD) (mc ms pc : Nat) (ls stk : List Value) (s : Sg) (Q : Option (Option Value) → Sg → Prop) : Prop :=
  ∀ (w : Om) (ρ0 : Nat → Nat) (s0 : Sg) (p : Program) (l : Launch) (e : Env) (R : Room) (st : State) (m : MethodId) (args : Array Value) (below : List Frame) (meth : Method) (c : Code) (H : Heap) (locs : List Loc) (cells slots : Nat) (Qr : State → Prop) (ρ : Nat → Nat) (lr : Array Slot),
    zl_St d M w ρ0 s0 p l R st m args meth c → zl_End M w ρ0 s0 p l e R st m args below meth c Q Qr → zl_Dy M mc ms ls stk w ρ0 s0 ρ s R st H locs cells slots lr →
    W p l e R st m args below meth c H locs cells slots Qr (F0 m pc lr (stk.map (zl_rv ρ)))
def zl_rm (d : Nat) (M : MD) : Room := { frames := d, cells := M.2.2.2.2.1, slots := M.2.2.2.2.2.1, locals := 60 * d }
def zl_Pc (w : Om) (ρ : Nat → Nat) (as : List Value) (s : Sg) : Array Value → State → Prop := fun v U => v = (as.map (zl_rv ρ)).toArray ∧ (∀ x ∈ as, zl_wf (mN s) x) ∧ 4 ≤ mN s ∧ zl_RS w (ρ 2) U ∧ zl_RO w ρ s.1 U U.heap ∧ zl_own w ρ s U.heap
def zl_Qc (w : Om) (ρ : Nat → Nat) (s : Sg) (Q : Option (Option Value) → Sg → Prop) : Array Value → State → Outcome → State → Prop := fun _ u o t =>
  (∃ (v : Option Value) (s' : Sg) (ρ' : Nat → Nat), o = .returned (v.map (zl_rv ρ')) ∧ Q (some v) s' ∧ (∀ x, v = some x → zl_wf (mN s') x) ∧ zl_ext ρ s ρ' s' ∧ zl_own w ρ' s' t.heap) ∧ va_F (zl_A w) u t
def zl_XC (w : Om) (ρ : Nat → Nat) (s : Sg) (Q : Option (Option Value) → Sg → Prop) : String → State → State → Prop := fun E u t =>
  E = zl_NSE ∧ (∃ (s' : Sg) (ρ' : Nat → Nat), Q none s' ∧ zl_ext ρ s ρ' s' ∧ zl_own w ρ' s' t.heap) ∧ va_F (zl_A w) u t
/-- a call of the method M with these arguments in this memory: it returns (some) or throws (none), and then Q holds -/
def Cw (d : Nat) (M : MD) (as : List Value) (s : Sg) (Q : Option (Option Value) → Sg → Prop) : Prop :=
  ∀ (l : Launch), l.stackTraces = false → ∀ (w : Om) (ρ : Nat → Nat), vx_Met l M.1 (md_ws M) (zl_rm d M) (zl_Pc w ρ as s) (zl_Qc w ρ s Q) (zl_XC w ρ s Q) M.2.2.2.2.1 M.2.2.2.2.2.1 (zl_A w)
theorem Cw.mono {d : Nat} {M : MD} {as : List Value} {s : Sg} {Q Q' : Option (Option Value) → Sg → Prop} (h : Cw d M as s Q) (hQ : ∀ o s', Q o s' → Q' o s') : Cw d M as s Q' := by
  intro l hl w ρ p e ha hc hk st m args below hf happ hP hK
  obtain ⟨n, o, h1, h2, h3, h4⟩ := h l hl w ρ p e ha hc hk st m args below hf happ hP hK
  refine ⟨n, o, h1, h2, h3, ?_⟩
  rcases h4 with ⟨⟨⟨v, s', ρ', a1, a2, a3⟩, a4⟩, a5⟩ | ⟨q, b1, E, ce, L, ⟨c1, ⟨s', ρ', c2, c3⟩, c4⟩, b2⟩
  · exact Or.inl ⟨⟨⟨v, s', ρ', a1, hQ _ _ a2, a3⟩, a4⟩, a5⟩
  · exact Or.inr ⟨q, b1, E, ce, L, ⟨c1, ⟨s', ρ', hQ _ _ c2, c3⟩, c4⟩, b2⟩
/-- the plain contract, where nothing is thrown -/
theorem Cw.met {d : Nat} {M : MD} {as : List Value} {s : Sg} {Q : Option (Option Value) → Sg → Prop} (h : Cw d M as s Q) (hQ : ∀ s', ¬ Q none s') {l : Launch} (hl : l.stackTraces = false) (w : Om) (ρ : Nat → Nat) : Met l M.1 (md_ws M) (zl_rm d M) (zl_Pc w ρ as s) (zl_Qc w ρ s Q) M.2.2.2.2.1 M.2.2.2.2.2.1 (zl_A w) := by
  intro p e ha hc hk st m args below hf happ hP hK
  obtain ⟨n, o, h1, h2, h3, h4⟩ := h l hl w ρ p e ha hc hk st m args below hf happ hP hK
  refine ⟨n, o, h1, h2, h3, ?_⟩
  rcases h4 with h4 | ⟨q, b1, E, ce, L, ⟨c1, ⟨s', ρ', c2, c3⟩, c4⟩, b2⟩
  · exact h4
  · exact absurd c2 (hQ _)
theorem zl_blind {w : Om} {ρ : Nat → Nat} {as : List Value} {s : Sg} : FrameBlind (zl_Pc w ρ as s) := fun a U g mk h =>
  ⟨h.1, h.2.1, h.2.2.1, zl_RS.warm (s := U) (U := U.calling g mk a) (State.WarmedH.refl U) h.2.2.2.1, zl_RO.moved (s := U) (U := U.calling g mk a) (Vm.Alike.refl U.vm) h.2.2.2.2.1, h.2.2.2.2.2⟩
end
