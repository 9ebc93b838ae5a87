/-! what a set has, and makes: the model -/
section
def cN (V : Vw) (a k : Nat) : Nat := (V a k).toNatClampNeg
theorem is_n_at {x : Int32} {m : Nat} (h : is_n x m) (hm : m < 2 ^ 31) : x = nI x.toNatClampNeg ∧ x.toNatClampNeg ≤ m := by
  obtain ⟨k, hk, rfl⟩ := h
  rw [nI_clamp (by omega)]
  exact ⟨rfl, hk⟩
def hold (ow nd u pn : Nat) : Bool := if ow = 0 then decide (u + 1 = 2 ^ pn) else decide (nd ≤ sBits (u &&& ow))
def sHo (V : Vw) (r u t : Nat) : Bool := hold (cN V 74 (r + t)) (cN V 75 (r + t)) u (pN V)
def sHasL (V : Vw) (r u : Nat) : Nat → Nat → Nat → Nat
  | 0, _, a => a
  | k + 1, t, a => sHasL V r u k (t + 1) (a ||| (if sHo V r u t = true then 2 ^ t else 0))
def sHas (V : Vw) (r u : Nat) : Nat := sHasL V r u (tN V) 0 0
def sMk (V : Vw) (r u q : Nat) : Int32 := sWo V (nI u) (nI (sHas V r u)) q
def CX (V : Vw) (r : Nat) : Prop := ∀ t, t < tN V → is_n (V 74 (r + t)) 15 ∧ is_n (V 75 (r + t)) 4
variable {V : Vw} {s : Sg}
theorem m_hasBy_h (h : RM V s) {r u : Nat} (hr : r ≤ 9) (hu : u < 16) (hC : CX V r) : ∀ (k t n a : Nat), t + k = tN V → k < n → f_Mo_hasBy_h5 n (nI r) (nI u) (nI a) (nI t) s = some (nI (sHasL V r u k t a), s) := by
  have ht3 := h.t3
  have hp4 := h.p4
  intro k
  induction k with
  | zero =>
    intro t n a ht hn
    obtain ⟨n, rfl⟩ : ∃ m, n = m + 1 := ⟨n - 1, by omega⟩
    show f_Mo_hasBy_b5 _ _ _ _ _ _ = _
    unfold f_Mo_hasBy_b5
    refine rn_ck h.b (rn_T ?_ rfl)
    rw [h.th]; exact nI_le (by omega) (by omega)
  | succ k ih =>
    intro t n a ht hn
    obtain ⟨n, rfl⟩ : ∃ m, n = m + 1 := ⟨n - 1, by omega⟩
    have i12 : vp_in (nI (r + t)) 12 := vp_in_nI (by omega) (by decide)
    have r74 : mI s 74 (r + t) = V 74 (r + t) := h.ar 74 rfl
    have r75 : mI s 75 (r + t) = V 75 (r + t) := h.ar 75 rfl
    obtain ⟨e1, l1⟩ := is_n_at (hC t (by omega)).1 (by decide)
    obtain ⟨e2, l2⟩ := is_n_at (hC t (by omega)).2 (by decide)
    have h16 : 1 ≤ 2 ^ pN V ∧ 2 ^ pN V ≤ 16 := ⟨Nat.one_le_two_pow, p2_le hp4⟩
    have hi : ∀ b : Bool, f_Mo_hasBy_b77 (f_Mo_hasBy_h5 n) (nI r) (nI u) (nI a) (nI t) (if b = true then 1 else 0) s = some (nI (sHasL V r u k (t + 1) (a ||| (if b = true then 2 ^ t else 0))), s) := by
      intro b
      unfold f_Mo_hasBy_b77 f_Mo_hasBy_b93
      cases b with
      | false =>
        rw [if_pos (by rfl), nI_1, show (0 : Int32) = nI 0 from rfl, nI_or]
        exact ih (t + 1) n _ (by omega) (by omega)
      | true =>
        rw [if_neg (by decide), nI_1, shl_p t (by omega), nI_or]
        exact ih (t + 1) n _ (by omega) (by omega)
    show f_Mo_hasBy_b5 _ _ _ _ _ _ = some (nI (sHasL V r u k (t + 1) (a ||| (if sHo V r u t = true then 2 ^ t else 0))), s)
    rw [← hi (sHo V r u t)]
    unfold f_Mo_hasBy_b5
    refine rn_ck h.b (rn_F ?_ ?_)
    · rw [h.th]; exact nI_ge (by omega) (by omega)
    rw [nI_add, f_ck_of i12, nI_clamp (by omega), r74]
    unfold sHo hold cN
    by_cases c1 : V 74 (r + t) = 0
    · rw [if_pos c1, h.pe, shl_p _ (by omega)]
      have e3 : (V 74 (r + t)).toNatClampNeg = 0 := by rw [c1]; rfl
      rw [if_pos e3]
      have e4 : nI (2 ^ pN V) - 1 = nI (2 ^ pN V - 1) := by
        obtain ⟨m, hm⟩ : ∃ m, 2 ^ pN V = m + 1 := ⟨2 ^ pN V - 1, by omega⟩
        rw [hm, nI_pred]; rfl
      rw [e4]
      by_cases c2 : u + 1 = 2 ^ pN V
      · rw [if_pos (by rw [show 2 ^ pN V - 1 = u by omega]), if_pos (by simpa using c2)]
      · rw [if_neg (fun h9 => c2 (by have := (nI_eq (by omega) (by omega)).mp h9; omega)), if_neg (by simpa using c2)]
    · rw [if_neg c1, f_ck_of i12]
      have e3 : ¬ (V 74 (r + t)).toNatClampNeg = 0 := fun h9 => c1 (by rw [e1, h9]; rfl)
      rw [if_neg e3, e1, nI_clamp (by omega), nI_and]
      have hw : u &&& (V 74 (r + t)).toNatClampNeg < 16 := Nat.lt_of_le_of_lt Nat.and_le_left hu
      refine rn_bd (m_bits (by omega)) (rn_ck h.b (rn_ck i12 ?_))
      rw [r75, e2, nI_clamp (by omega)]
      have hb8 : ∀ m, sBits m < 9 := fun m => by unfold sBits; omega
      have hb9 := hb8 (u &&& (V 74 (r + t)).toNatClampNeg)
      by_cases c2 : (V 75 (r + t)).toNatClampNeg ≤ sBits (u &&& (V 74 (r + t)).toNatClampNeg)
      · rw [if_neg (fun h9 => absurd ((nI_ltI (by omega) (by omega)).mp h9) (by omega)), if_pos (by simpa using c2)]
      · rw [if_pos ((nI_ltI (by omega) (by omega)).mpr (by omega)), if_neg (by simpa using c2)]
theorem m_hasBy (h : RM V s) {r u : Nat} (hr : r ≤ 9) (hu : u < 16) (hC : CX V r) : f_Mo_hasBy (nI r) (nI u) s = some (nI (sHas V r u), s) := by
  unfold f_Mo_hasBy
  have ht3 := h.t3
  exact m_hasBy_h h hr hu hC (tN V) 0 zl_fl 0 (by omega) (zl_fl_lt (by omega))
theorem m_makesBy (h : RM V s) {r u q : Nat} (hr : r ≤ 9) (hu : u < 16) (hq : q < 256) (hC : CX V r) : f_Mo_makesBy (nI r) (nI u) (nI q) s = some (sMk V r u q, s) := by
  unfold f_Mo_makesBy
  exact rn_ck h.b (rn_bd (m_hasBy h hr hu hC) (rn_ck h.b (rn_bd (m_worthOf h hq _ _) rfl)))
end
