/-! reading the functions over the memory -/
section
theorem f_ck_of {α : Type} {c : Prop} {k : Option α} (h : c) : f_ck c k = k := by unfold f_ck; rw [if_pos h]
theorem f_bd_of {α β : Type} {x : Option (α × Sg)} {r : α} {s : Sg} {k : α → Sg → Option β} (h : x = some (r, s)) : f_bd x k = k r s := by rw [h]; rfl
variable {α β : Type} {r : β} {s : Sg} {c : Prop} {z : Option (β × Sg)}
theorem rn_ck {k : Option (β × Sg)} (h : c) (e : k = z) : f_ck c k = z := (f_ck_of h).trans e
theorem rn_bd {x : Option (α × Sg)} {r1 : α} {s1 : Sg} {k : α → Sg → Option (β × Sg)} (h : x = some (r1, s1)) (e : k r1 s1 = z) : f_bd x k = z := (f_bd_of h).trans e
theorem rn_T {i : Decidable c} {a b : Option (β × Sg)} (h : c) (e : a = z) : (@ite _ c i a b) = z := by rw [if_pos h]; exact e
theorem rn_F {i : Decidable c} {a b : Option (β × Sg)} (h : ¬ c) (e : b = z) : (@ite _ c i a b) = z := by rw [if_neg h]; exact e
theorem zl_fl_lt {n : Nat} (h : n < 4096) : n < zl_fl := h
end
/-! what the systems are about: a world V as ints at the model's own addresses (46: scalars, 49 steps, 50 costs, 51 52 lines, 68 values, 69 .. 73 ownings, 74 75 what is laid) -/
section
abbrev Vw : Type := Nat → Nat → Int32
def pN (V : Vw) : Nat := (V 46 10).toNatClampNeg
def tN (V : Vw) : Nat := (V 46 11).toNatClampNeg
def kN (V : Vw) : Nat := (V 46 12).toNatClampNeg
def sN (V : Vw) (p : Nat) : Nat := (V 49 p).toNatClampNeg
def is_n (x : Int32) (m : Nat) : Prop := ∃ k : Nat, k ≤ m ∧ x = nI k
def WV (V : Vw) : Prop :=
  (V 46 10 = nI (pN V) ∧ pN V ≤ 4) ∧ (V 46 11 = nI (tN V) ∧ tN V ≤ 3) ∧ (V 46 12 = nI (kN V) ∧ kN V ≤ 8) ∧
  (∀ p, p < pN V → V 49 p = nI (sN V p) ∧ 1 ≤ sN V p ∧ sN V p ≤ 3) ∧ (∀ k, k < 16 → is_n (V 50 k) 999) ∧
  (∀ k, k < kN V → is_n (V 51 k) 15 ∧ is_n (V 52 k) 7) ∧
  (∀ t, t < 3 → is_n (V 69 t) (2 ^ pN V - 1) ∧ is_n (V 70 t) 4 ∧ is_n (V 71 t) 15 ∧ is_n (V 72 t) 4 ∧ (V 73 t = 0 ∨ V 73 t = 1)) ∧
  is_n (V 46 45) 10 ∧ is_n (V 46 46) 2 ∧ is_n (V 46 47) 3
def lgM (a k : Nat) : Bool := (a == 46 && (k == 1 || k == 10 || k == 11 || k == 12 || k == 38 || k == 39 || k == 45 || k == 46 || k == 47 || k == 50 || k == 51 || k == 52)) || (a == 49 && decide (k < 4)) || (a == 50 && decide (k < 32)) || ((a == 51 || a == 52) && decide (k < 8)) || (decide (68 ≤ a) && decide (a ≤ 77)) || a == 47 || a == 79
/-- the model's memory holds the world V; of a right or a pledge the sum V 46 53 -/
def RM (V : Vw) (s : Sg) : Prop := 81 ≤ mN s ∧ zl_Gr s.2.2.1 ∧ WV V ∧ (∀ a k, lgM a k = true → mI s a k = V a k) ∧ mL s 46 53 = 240 * (V 46 53).toInt64
variable {V : Vw} {s : Sg}
theorem RM.n (h : RM V s) : 81 ≤ mN s := h.1
theorem RM.g (h : RM V s) : zl_Gr s.2.2.1 := h.2.1
theorem RM.w (h : RM V s) : WV V := h.2.2.1
theorem RM.e (h : RM V s) (a k : Nat) (hk : lgM a k = true) : mI s a k = V a k := h.2.2.2.1 a k hk
theorem RM.b (h : RM V s) : zl_B s := ⟨h.1, h.2.1⟩
theorem RM.pe (h : RM V s) : mI s 46 10 = nI (pN V) := (h.e 46 10 rfl).trans h.w.1.1
theorem RM.th (h : RM V s) : mI s 46 11 = nI (tN V) := (h.e 46 11 rfl).trans h.w.2.1.1
theorem RM.li (h : RM V s) : mI s 46 12 = nI (kN V) := (h.e 46 12 rfl).trans h.w.2.2.1.1
theorem RM.p4 (h : RM V s) : pN V ≤ 4 := h.w.1.2
theorem RM.t3 (h : RM V s) : tN V ≤ 3 := h.w.2.1.2
theorem RM.k8 (h : RM V s) : kN V ≤ 8 := h.w.2.2.1.2
theorem RM.st (h : RM V s) {p : Nat} (hp : p < pN V) : mI s 49 p = nI (sN V p) := (h.e 49 p (by have := h.p4; simp [lgM]; omega)).trans (h.w.2.2.2.1 p hp).1
theorem RM.co (h : RM V s) {k : Nat} (hk : k < 16) : mI s 50 k = V 50 k := h.e 50 k (by simp [lgM]; omega)
theorem RM.lp (h : RM V s) {k : Nat} (hk : k < 8) : mI s 51 k = V 51 k := h.e 51 k (by simp [lgM]; omega)
theorem RM.lt (h : RM V s) {k : Nat} (hk : k < 8) : mI s 52 k = V 52 k := h.e 52 k (by simp [lgM]; omega)
theorem RM.ar (h : RM V s) (a : Nat) {k : Nat} (ha : (decide (68 ≤ a) && decide (a ≤ 77)) = true) : mI s a k = V a k := h.e a k (by simp only [lgM, ha, Bool.or_true, Bool.true_or])
/-- a place that isn't the world's was written -/
theorem RM.sc (h : RM V s) (a k : Nat) (x : Int32) (hs : lgM a k = false) : RM V (uI s a k x) := by
  refine ⟨h.1, h.2.1, h.2.2.1, fun b j hb => ?_, h.2.2.2.2⟩
  refine (zl_up_ne _ _ fun e => ?_).trans (h.e b j hb)
  rw [e.1, e.2, hs] at hb
  cases hb
/-- .. a place of the world was -/
def vU (V : Vw) (a k : Nat) (x : Int32) : Vw := fun b j => if b = a ∧ j = k then x else V b j
theorem vU_at (V : Vw) (a k : Nat) (x : Int32) : vU V a k x a k = x := by simp [vU]
theorem vU_ne (V : Vw) {a k b j : Nat} (x : Int32) (h : ¬ (b = a ∧ j = k)) : vU V a k x b j = V b j := by simp [vU, h]
theorem RM.lw (h : RM V s) (a k : Nat) (x : Int32) (hw : WV (vU V a k x)) (h53 : ¬ (46 = a ∧ 53 = k)) : RM (vU V a k x) (uI s a k x) := by
  refine ⟨h.1, h.2.1, hw, fun b j hb => ?_, ?_⟩
  · by_cases e : b = a ∧ j = k
    · rw [e.1, e.2, vU_at]; exact zl_up_at _ _ _ _
    · rw [vU_ne _ _ e]
      exact (zl_up_ne _ _ e).trans (h.e b j hb)
  · rw [vU_ne _ _ h53]; exact h.2.2.2.2
/-! steps and pains -/
def sStep (q p : Nat) : Nat := q / 4 ^ p % 4
def sAll (f : Nat → Bool) : Nat → Nat → Bool
  | 0, _ => true
  | k + 1, j => f j && sAll f k (j + 1)
theorem sAll_iff {f : Nat → Bool} : ∀ {k j : Nat}, sAll f k j = true ↔ ∀ p, j ≤ p → p < j + k → f p = true := by
  intro k
  induction k with
  | zero => intro j; exact ⟨fun _ p h1 h2 => absurd h2 (by omega), fun _ => rfl⟩
  | succ k ih =>
    intro j
    show (f j && sAll f k (j + 1)) = true ↔ _
    rw [Bool.and_eq_true, ih]
    constructor
    · rintro ⟨h1, h2⟩ p hp hq
      by_cases e : p = j
      · rw [e]; exact h1
      · exact h2 p (by omega) (by omega)
    · intro h
      exact ⟨h j (Nat.le_refl _) (by omega), fun p hp hq => h p (by omega) (by omega)⟩
/-- PAINS that are rows of steps -/
def vpa (V : Vw) (q : Nat) : Bool := decide (q < 4 ^ pN V) && sAll (fun p => decide (sStep q p ≤ sN V p)) (pN V) 0
def xpa (V : Vw) (x : Int32) : Bool := !decide (x < 0) && vpa V x.toNatClampNeg
theorem vpa_lt {q : Nat} (h : vpa V q = true) : q < 4 ^ pN V := by
  simp only [vpa, Bool.and_eq_true, decide_eq_true_eq] at h
  exact h.1
theorem vpa_st {q : Nat} (h : vpa V q = true) {p : Nat} (hp : p < pN V) : sStep q p ≤ sN V p := by
  simp only [vpa, Bool.and_eq_true, decide_eq_true_eq] at h
  simpa using sAll_iff.mp h.2 p (Nat.zero_le _) (by omega)
def xb (x : Int32) (n : Nat) : Bool := !decide (x < 0) && !decide (nI n ≤ x)
theorem xb_t {x : Int32} {n : Nat} (h : xb x n = true) (hn : n < 2 ^ 31) : ∃ j : Nat, j < n ∧ x = nI j := by
  simp only [xb, Bool.and_eq_true, Bool.not_eq_true', decide_eq_false_iff_not] at h
  obtain ⟨j, hj, rfl⟩ := nI_of h.1
  exact ⟨j, Nat.lt_of_not_le fun h9 => h.2 (nI_le h9 hj), rfl⟩
theorem xb_nI {j n : Nat} (h : j < n) (hn : n < 2 ^ 31) : xb (nI j) n = true := by
  simp only [xb, Bool.and_eq_true, Bool.not_eq_true', decide_eq_false_iff_not]
  exact ⟨nI_pos (by omega), nI_ge h hn⟩
theorem p4_le {k : Nat} (h : k ≤ 4) : 4 ^ k ≤ 256 := by
  have : k = 0 ∨ k = 1 ∨ k = 2 ∨ k = 3 ∨ k = 4 := by omega
  rcases this with rfl | rfl | rfl | rfl | rfl <;> decide
theorem p2_le {k : Nat} (h : k ≤ 4) : 2 ^ k ≤ 16 := by
  have : k = 0 ∨ k = 1 ∨ k = 2 ∨ k = 3 ∨ k = 4 := by omega
  rcases this with rfl | rfl | rfl | rfl | rfl <;> decide
theorem step_bits {q p : Nat} (hq : q < 256) (hp : p < 4) : (nI q >>> ((2 * nI p) &&& 31)) &&& 3 = nI (sStep q p) := by
  have h4 : p = 0 ∨ p = 1 ∨ p = 2 ∨ p = 3 := by omega
  have e : ∀ k : Nat, nI (q / 2 ^ k) &&& 3 = nI (q / 2 ^ k % 4) := fun k => pk_andN (Nat.lt_of_le_of_lt (Nat.div_le_self _ _) (by omega)) 2 (by decide)
  unfold sStep
  rcases h4 with rfl | rfl | rfl | rfl
  · rw [show (2 * nI 0) &&& 31 = 0 by decide, pk_shrN (by omega) _ 0 (by decide), e]
  · rw [show (2 * nI 1) &&& 31 = 2 by decide, pk_shrN (by omega) _ 2 (by decide), e]
  · rw [show (2 * nI 2) &&& 31 = 4 by decide, pk_shrN (by omega) _ 4 (by decide), e]
  · rw [show (2 * nI 3) &&& 31 = 6 by decide, pk_shrN (by omega) _ 6 (by decide), e]
theorem shl_2p : ∀ p, p ≤ 4 → (1 : Int32) <<< ((2 * nI p) &&& 31) = nI (4 ^ p) := by decide +kernel
theorem shl_p : ∀ p, p ≤ 7 → (1 : Int32) <<< (nI p &&& 31) = nI (2 ^ p) := by decide +kernel
end
