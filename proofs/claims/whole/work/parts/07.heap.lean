section
def zl_at (s : Sg) (a k : Nat) : Prop := 4 ≤ a ∧ a < mN s ∧ (zn_SH a).1 = k ∧ k < 7
def zl_ar (s : Sg) (a k n : Nat) : Prop := 4 ≤ a ∧ a < mN s ∧ zn_SH a = (k, n) ∧ 10 ≤ k ∧ k < 15
theorem zl_cell.congr {w : Om} {ρ : Nat → Nat} {s s' : Sg} {a : Nat} {H H' : Heap} (h : zl_cell w ρ s a H) (hH : H'[ρ a]? = H[ρ a]?) (h1 : ∀ j, mI s' a j = mI s a j) (h2 : ∀ j, mL s' a j = mL s a j) (h3 : ∀ j, mR s' a j = mR s a j) : zl_cell w ρ s' a H' := by
  have e : ∀ t j, zl_cv ρ s' t a j = zl_cv ρ s t a j := fun t j => by unfold zl_cv; rw [h1, h2, h3]
  unfold zl_cell at h ⊢
  split
  · next hk =>
    rw [if_pos hk] at h
    exact (h.kept hH).to fun k _ => (e _ k).symm
  · next hk =>
    rw [if_neg hk] at h
    rw [hH, h]
    congr 2
    exact funext fun j => (e _ j).symm
/-- one own cell has changed -/
theorem zl_own.upd {w : Om} {ρ : Nat → Nat} {s s' : Sg} {a : Nat} {H H' : Heap} (h : zl_own w ρ s H) (ha : 4 ≤ a ∧ a < mN s) (hn : mN s' = mN s) (hz : H'.size = H.size) (ho : ∀ q, q ≠ ρ a → H'[q]? = H[q]?) (hc : zl_cell w ρ s' a H')
    (hs : ∀ b, b ≠ a → ∀ j, mI s' b j = mI s b j ∧ mL s' b j = mL s b j ∧ mR s' b j = mR s b j) (hr : ∀ j b, mR s' a j = some b → b < mN s) : zl_own w ρ s' H' := by
  refine ⟨by rw [hz]; exact h.1, fun b h1 h2 => ?_, fun b c h1 h2 h3 h4 => h.2.2.1 b c h1 (hn ▸ h2) h3 (hn ▸ h4), fun b j c h1 h2 h3 => ?_⟩
  · rw [hn] at h2
    refine ⟨?_, (h.2.1 b h1 h2).2⟩
    by_cases hba : b = a
    · rw [hba]; exact hc
    · exact (h.2.1 b h1 h2).1.congr (ho _ fun e => hba (h.2.2.1 b a h1 h2 ha.1 ha.2 e)) (fun j => (hs b hba j).1) (fun j => (hs b hba j).2.1) (fun j => (hs b hba j).2.2)
  · rw [hn] at h2 ⊢
    by_cases hba : b = a
    · rw [hba] at h3; exact hr j c h3
    · rw [(hs b hba j).2.2] at h3
      exact h.2.2.2 b j c h1 h2 h3
theorem zl_D0.upd {w : Om} {ρ0 ρ : Nat → Nat} {s0 s s' : Sg} {R : Room} {st : State} {a j : Nat} {H H' : Heap} {locs : List Loc} {cells slots : Nat} (h : zl_D0 w ρ0 s0 ρ s R st H locs cells slots) (ha : 4 ≤ a ∧ a < mN s) (hn : mN s' = mN s) (hz : H'.size = H.size) (ho : ∀ q, q ≠ ρ a → H'[q]? = H[q]?) (hc : zl_cell w ρ s' a H')
    (hs : ∀ b, b ≠ a → ∀ j, mI s' b j = mI s b j ∧ mL s' b j = mL s b j ∧ mR s' b j = mR s b j) (hr : ∀ j b, mR s' a j = some b → b < mN s) : zl_D0 w ρ0 s0 ρ s' R st H' (locs ++ [⟨ρ a, j⟩]) cells slots :=
  ⟨h.1.upd ha hn hz ho hc hs hr, h.2.1.put hz ho (h.1.2.1 a ha.1 ha.2).2, ⟨by rw [hn]; exact h.2.2.1.1, h.2.2.1.2.1, fun b j hb => ((hs b (fun e => by omega) j).1).trans (h.2.2.1.2.2.1 b j hb), h.2.2.1.2.2.2⟩, h.2.2.2⟩
section
variable {p : Program} {l : Launch} {e : Env} {R : Room} {st : State} {m : MethodId} {args : Array Value} {below : List Frame} {meth : Method} {c : Code} {H : Heap} {locs : List Loc} {cells slots : Nat} {Qr : State → Prop}
variable {w : Om} {ρ : Nat → Nat} {s : Sg} {cc : ByteArray} {own : String} {pc : Nat} {lr : Array Slot} {rest : List Value}
theorem zl_get (hexec : p.tables.exec = Jvm.exec) (hb : c.code = cc) (hts : ∀ x ∈ zn_G, x.before args st = true) (hown : st.vm.findClass own = some m.cls) {q2 : Nat} (hR : zl_RS w q2 st) (hO : zl_own w ρ s H) {a idx k j : Nat} (hf : zn_Fl own idx k j) (ha : zl_at s a k) (hj : j < zn_N k) (hdg : decode cc pc = .ok (.getfield idx, 3))
    (kk : W p l e R st m args below meth c H locs cells slots Qr (F0 m (pc + 3) lr (zl_cv ρ s (zn_ft k j) a j :: rest))) : W p l e R st m args below meth c H locs cells slots Qr (F0 m pc lr (.ref (ρ a) :: rest)) := by
  obtain ⟨h4, hn, hk, hk7⟩ := ha
  have hc := (hO.2.1 a h4 hn).1
  unfold zl_cell at hc
  rw [hk, if_pos hk7] at hc
  obtain ⟨cell, q1, q2, q3, q4⟩ := hc
  obtain ⟨hS, hfc, kC, hkC, hkind⟩ := hR.1 k hk7
  obtain ⟨cf, kf, fi, f, hi, hsl⟩ := hS j hj
  refine W.getf hexec hb hown (hts _ hf) hi (u_facts hfc hkC (u_lays hts (zn_lays k hk7) hj) hi).1 q1 (by rw [q3]; exact fun h => by cases h) (v := zl_cv ρ s (zn_ft k j) a j) ?_ rfl rfl hdg kk
  rw [hsl]
  exact q4 j hj
theorem zl_apart (hts : ∀ x ∈ zn_G, x.before args st = true) {q2 : Nat} (hR : zl_RS w q2 st) {k : Nat} (hk : k < 7) : ∀ x y, x < zn_N k → y < zn_N k → x ≠ y → (w.1.2 k) x ≠ (w.1.2 k) y := by
  intro x y hx hy hne
  obtain ⟨hS, -⟩ := hR.1 k hk
  obtain ⟨_, _, _, fa, hia, ea⟩ := hS x hx
  obtain ⟨_, _, _, fb, hib, eb⟩ := hS y hy
  rw [← ea, ← eb]
  refine u_apart (u_lays hts (zn_lays k hk) hx) (u_lays hts (zn_lays k hk) hy) hia hib ?_
  rw [(State.fieldFound?_type hia (zn_ty_ok k hk x hx)).1, (State.fieldFound?_type hib (zn_ty_ok k hk y hy)).1]
  exact zn_nm k hk x hx y hy hne
theorem zl_put (hexec : p.tables.exec = Jvm.exec) (hb : c.code = cc) (hts : ∀ x ∈ zn_G, x.before args st = true) (hown : st.vm.findClass own = some m.cls) {q2 : Nat} (hR : zl_RS w q2 st) {ρ0 : Nat → Nat} {s0 s' : Sg} (hD : zl_D0 w ρ0 s0 ρ s R st H locs cells slots) {a idx k j : Nat} (hf : zn_Fl own idx k j) (ha : zl_at s a k) (hj : j < zn_N k) (hfin : (zn_F k j).2.2.2 = false ∨ (meth.name = "<init>" ∧ zn_R k = own)) {v : Value}
    (hn : narrow (zn_ty k j) v = v) (hfit : fits (zn_ty k j) v = true) (hv : zl_cv ρ s' (zn_ft k j) a j = v) (hsame : ∀ i, i ≠ j → zl_cv ρ s' (zn_ft k i) a i = zl_cv ρ s (zn_ft k i) a i) (hnn : mN s' = mN s)
    (hs : ∀ b, b ≠ a → ∀ j, mI s' b j = mI s b j ∧ mL s' b j = mL s b j ∧ mR s' b j = mR s b j) (hr : ∀ j b, mR s' a j = some b → b < mN s) (hdg : decode cc pc = .ok (.putfield idx, 3))
    (kk : ∀ (H' : Heap) (locs' : List Loc), zl_D0 w ρ0 s0 ρ s' R st H' locs' cells slots → W p l e R st m args below meth c H' locs' cells slots Qr (F0 m (pc + 3) lr rest)) : W p l e R st m args below meth c H locs cells slots Qr (F0 m pc lr (v :: .ref (ρ a) :: rest)) := by
  obtain ⟨h4, hna, hk, hk7⟩ := ha
  have hc := (hD.1.2.1 a h4 hna).1
  unfold zl_cell at hc
  rw [hk, if_pos hk7] at hc
  obtain ⟨cell, q1, q2, q3, q4⟩ := hc
  obtain ⟨hS, hfc, kC, hkC, hkind⟩ := hR.1 k hk7
  obtain ⟨cf, kf, fi, f, hi, hsl⟩ := hS j hj
  have hst := (u_facts hfc hkC (u_lays hts (zn_lays k hk7) hj) hi).1
  have hap := zl_apart hts hR hk7
  have hnew : ∀ H' : Heap, H'[ρ a]? = some (cell.setSlot f.slot v) → zl_cell w ρ s' a H' := by
    intro H' e1
    unfold zl_cell
    rw [hk, if_pos hk7]
    rw [hsl] at e1
    refine t_OB.to (V := updV (fun i => zl_cv ρ s (zn_ft k i) a i) j v) ⟨_, e1, q2, q3, t_set q4 hap hj v⟩ (fun i _ => ?_)
    by_cases hij : i = j
    · subst hij; simp [updV, hv]
    · simp [updV, hij, hsame i hij]
  have hlay := hts _ (zn_lays k hk7 _ (u_in_lay hj))
  unfold u_lay at hlay
  rcases hfin with hfin | ⟨hin, hdecl⟩
  · rw [if_neg (by rw [hfin]; decide)] at hlay
    have h6 := u_store hfc hkC hkind hlay hi (zn_ty_ok k hk7 j hj) hn hfit
    refine W.putK hexec hb (f := f) ⟨hown, hts _ hf, ⟨_, _, _, hi⟩, hst⟩ (by rw [q2]; exact h6) q1 q3 (by rw [hsl]; exact k2_hasslot (q4 j hj)) rfl rfl hdg fun H' e1 e2 e3 => ?_
    exact kk H' _ (hD.upd ⟨h4, hna⟩ hnn e2 e3 (hnew H' e1) hs hr)
  · by_cases hfl : (zn_F k j).2.2.2 = true
    · rw [if_pos hfl] at hlay
      have hcf : m.cls = cf := by
        obtain ⟨_, _, c', _, _, _, -, -, hf', -, -, -, hown2, -⟩ := Cond.laysFinal_spec hlay
        have e1 : c' = cf := by have := hi.symm.trans hf'; simp at this; exact this.1.symm
        rw [show (zn_F k j).1 = own from hdecl] at hown2
        rw [← e1]; exact Option.some.inj (hown.symm.trans hown2)
      have h6 := u_fits hfc hkC hkind (Or.inr hlay) hi (zn_ty_ok k hk7 j hj) hn hfit
      refine W.putFinK hexec hb hown (hts _ hf) hi hst hcf hin (by rw [q2]; exact h6) q1 q3 (by rw [hsl]; exact k2_hasslot (q4 j hj)) rfl rfl hdg fun H' e1 e2 e3 => ?_
      exact kk H' _ (hD.upd ⟨h4, hna⟩ hnn e2 e3 (hnew H' e1) hs hr)
    · rw [if_neg hfl] at hlay
      have h6 := u_store hfc hkC hkind hlay hi (zn_ty_ok k hk7 j hj) hn hfit
      refine W.putK hexec hb (f := f) ⟨hown, hts _ hf, ⟨_, _, _, hi⟩, hst⟩ (by rw [q2]; exact h6) q1 q3 (by rw [hsl]; exact k2_hasslot (q4 j hj)) rfl rfl hdg fun H' e1 e2 e3 => ?_
      exact kk H' _ (hD.upd ⟨h4, hna⟩ hnn e2 e3 (hnew H' e1) hs hr)
/-- an own array's cell -/
theorem zl_arr {q2 : Nat} (hR : zl_RS w q2 st) (hO : zl_own w ρ s H) {a k n : Nat} (ha : zl_ar s a k n) : H[ρ a]? = some (arrV (w.2.1 k) n (fun j => zl_cv ρ s (zn_kt k) a j)) ∧ (∀ N z, st.isArrayOf (arrV (w.2.1 k) N z) (zn_kty k)) := by
  obtain ⟨h4, hn, hk, hk1, hk2⟩ := ha
  have hc := (hO.2.1 a h4 hn).1
  unfold zl_cell at hc
  rw [hk, if_neg (Nat.not_lt.mpr (Nat.le_trans (by decide) hk1))] at hc
  exact ⟨hc, (hR.2.1 k hk1 hk2).1⟩
theorem zl_inb {k n : Nat} {i : Int32} {w : Om} {f : Nat → Value} (h : vp_in i n) : ¬ (i < 0 ∨ (arrV (w.2.1 k) n f).slots.size ≤ i.toNatClampNeg) := by rw [arrV_size]; exact h
theorem zl_inl {n : Nat} {i : Int32} (h : vp_in i n) : i.toNatClampNeg < n := Nat.not_le.mp fun q => h (Or.inr q)
/-- a place of an own array was written -/
theorem zl_arrput {ρ0 : Nat → Nat} {s0 s' : Sg} (hD : zl_D0 w ρ0 s0 ρ s R st H locs cells slots) {a k n j : Nat} (ha : zl_ar s a k n) {v : Value} {H' : Heap} (e1 : H'[ρ a]? = some ((arrV (w.2.1 k) n (fun j => zl_cv ρ s (zn_kt k) a j)).setSlot j v)) (e2 : H'.size = H.size) (e3 : ∀ q, q ≠ ρ a → H'[q]? = H[q]?)
    (hv : zl_cv ρ s' (zn_kt k) a j = v) (hsame : ∀ i, i ≠ j → zl_cv ρ s' (zn_kt k) a i = zl_cv ρ s (zn_kt k) a i) (hnn : mN s' = mN s)
    (hs : ∀ b, b ≠ a → ∀ j, mI s' b j = mI s b j ∧ mL s' b j = mL s b j ∧ mR s' b j = mR s b j) (hr : ∀ j b, mR s' a j = some b → b < mN s) : zl_D0 w ρ0 s0 ρ s' R st H' (locs ++ [⟨ρ a, j⟩]) cells slots := by
  obtain ⟨h4, hn, hk, hk1, hk2⟩ := ha
  refine hD.upd ⟨h4, hn⟩ hnn e2 e3 ?_ hs hr
  unfold zl_cell
  rw [hk, if_neg (Nat.not_lt.mpr (Nat.le_trans (by decide) hk1)), e1, arrV_store]
  congr 2
  funext i
  by_cases hij : i = j
  · subst hij; simp [updV, hv]
  · simp [updV, hij, hsame i hij]
end
theorem zl_up_at {α : Type} (f : Nat → Nat → α) (a k : Nat) (x : α) : zl_up f a k x a k = x := by simp [zl_up]
theorem zl_up_ne {α : Type} (f : Nat → Nat → α) {a k b j : Nat} (x : α) (h : ¬ (b = a ∧ j = k)) : zl_up f a k x b j = f b j := by simp [zl_up, h]
theorem zl_uI_o (s : Sg) (a k : Nat) (x : Int32) : ∀ b, b ≠ a → ∀ j, mI (uI s a k x) b j = mI s b j ∧ mL (uI s a k x) b j = mL s b j ∧ mR (uI s a k x) b j = mR s b j := fun b hb j => ⟨zl_up_ne _ _ fun h => hb h.1, rfl, rfl⟩
theorem zl_uL_o (s : Sg) (a k : Nat) (x : Int64) : ∀ b, b ≠ a → ∀ j, mI (uL s a k x) b j = mI s b j ∧ mL (uL s a k x) b j = mL s b j ∧ mR (uL s a k x) b j = mR s b j := fun b hb j => ⟨rfl, zl_up_ne _ _ fun h => hb h.1, rfl⟩
theorem zl_uR_o (s : Sg) (a k : Nat) (x : Option Nat) : ∀ b, b ≠ a → ∀ j, mI (uR s a k x) b j = mI s b j ∧ mL (uR s a k x) b j = mL s b j ∧ mR (uR s a k x) b j = mR s b j := fun b hb j => ⟨rfl, rfl, zl_up_ne _ _ fun h => hb h.1⟩
theorem zl_cvI (ρ : Nat → Nat) (s : Sg) (a k : Nat) (x : Int32) (t : Nat) (ht : t = 0) : zl_cv ρ (uI s a k x) t a k = .int x := by subst ht; simp [zl_cv, mI, uI, zl_up_at]
theorem zl_cvL (ρ : Nat → Nat) (s : Sg) (a k : Nat) (x : Int64) (t : Nat) (ht : t = 1) : zl_cv ρ (uL s a k x) t a k = .long x := by subst ht; simp [zl_cv, mL, uL, zl_up_at]
theorem zl_cvR (ρ : Nat → Nat) (s : Sg) (a k : Nat) (x : Option Nat) (t : Nat) (ht : t = 2) : zl_cv ρ (uR s a k x) t a k = zl_ro ρ x := by subst ht; simp [zl_cv, mR, uR, zl_up_at]
theorem zl_cvIo (ρ : Nat → Nat) (s : Sg) (a k : Nat) (x : Int32) (t i : Nat) (h : i ≠ k) : zl_cv ρ (uI s a k x) t a i = zl_cv ρ s t a i := by
  have h1 : mI (uI s a k x) a i = mI s a i := zl_up_ne _ _ fun e => h e.2
  unfold zl_cv; rw [h1]; rfl
theorem zl_cvLo (ρ : Nat → Nat) (s : Sg) (a k : Nat) (x : Int64) (t i : Nat) (h : i ≠ k) : zl_cv ρ (uL s a k x) t a i = zl_cv ρ s t a i := by
  have h1 : mL (uL s a k x) a i = mL s a i := zl_up_ne _ _ fun e => h e.2
  unfold zl_cv; rw [h1]; rfl
theorem zl_cvRo (ρ : Nat → Nat) (s : Sg) (a k : Nat) (x : Option Nat) (t i : Nat) (h : i ≠ k) : zl_cv ρ (uR s a k x) t a i = zl_cv ρ s t a i := by
  have h1 : mR (uR s a k x) a i = mR s a i := zl_up_ne _ _ fun e => h e.2
  unfold zl_cv; rw [h1]; rfl
end
