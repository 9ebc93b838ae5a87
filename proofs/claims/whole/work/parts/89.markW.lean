/-! mark: the worlds -/
section
variable {V V' W W' : Vw} {s s' : Sg}
theorem kp_s {i a k : Nat} (hi : i < 2105) (h : (a, k) = kp i) : (a = 46 ∧ ((10 ≤ k ∧ k ≤ 12) ∨ (45 ≤ k ∧ k ≤ 47))) ∨ (a = 49 ∧ k < 4) ∨ (a = 50 ∧ k < 16) ∨ (a = 51 ∧ k < 8) ∨ (a = 52 ∧ k < 8) ∨ ((69 ≤ a ∧ a ≤ 73) ∧ k < 3) ∨ (a = 68 ∧ k < 2048) := by
  have h1 := congrArg Prod.fst h
  have h2 := congrArg Prod.snd h
  unfold kp at h1 h2
  repeat' split at h1
  all_goals simp only [*, if_true, if_false] at h1 h2
  all_goals omega
theorem kp_z {a k : Nat} (h : (a = 46 ∧ ((10 ≤ k ∧ k ≤ 12) ∨ (45 ≤ k ∧ k ≤ 47))) ∨ (a = 49 ∧ k < 4) ∨ (a = 50 ∧ k < 16) ∨ (a = 51 ∧ k < 8) ∨ (a = 52 ∧ k < 8) ∨ ((69 ≤ a ∧ a ≤ 73) ∧ k < 3) ∨ (a = 68 ∧ k < 2048)) : ∃ i, i < 2105 ∧ kp i = (a, k) := by
  rcases h with ⟨rfl, h | h⟩ | ⟨rfl, h⟩ | ⟨rfl, h⟩ | ⟨rfl, h⟩ | ⟨rfl, h⟩ | ⟨ha, h⟩ | ⟨rfl, h⟩
  · refine ⟨k - 10, by omega, ?_⟩
    unfold kp
    rw [if_pos (by omega), show 10 + (k - 10) = k by omega]
  · refine ⟨k - 42, by omega, ?_⟩
    unfold kp
    rw [if_neg (by omega), if_pos (by omega), show 42 + (k - 42) = k by omega]
  · refine ⟨6 + k, by omega, ?_⟩
    unfold kp
    rw [if_neg (by omega), if_neg (by omega), if_pos (by omega), show 6 + k - 6 = k by omega]
  · refine ⟨10 + k, by omega, ?_⟩
    unfold kp
    rw [if_neg (by omega), if_neg (by omega), if_neg (by omega), if_pos (by omega), show 10 + k - 10 = k by omega]
  · refine ⟨26 + k, by omega, ?_⟩
    unfold kp
    rw [if_neg (by omega), if_neg (by omega), if_neg (by omega), if_neg (by omega), if_pos (by omega), show 26 + k - 26 = k by omega]
  · refine ⟨34 + k, by omega, ?_⟩
    unfold kp
    rw [if_neg (by omega), if_neg (by omega), if_neg (by omega), if_neg (by omega), if_neg (by omega), if_pos (by omega), show 34 + k - 34 = k by omega]
  · exact ⟨42 + 3 * (a - 69) + k, by omega, kp_o ha h rfl⟩
  · refine ⟨57 + k, by omega, ?_⟩
    unfold kp
    rw [if_neg (by omega), if_neg (by omega), if_neg (by omega), if_neg (by omega), if_neg (by omega), if_neg (by omega), if_neg (by omega), show 57 + k - 57 = k by omega]
/-- two worlds alike in what is told -/
def tE (V V' : Vw) : Prop := ∀ i, i < 2105 → V' (kp i).1 (kp i).2 = V (kp i).1 (kp i).2
theorem tE.a (h : tE V V') {a k : Nat} (hk : (a = 46 ∧ ((10 ≤ k ∧ k ≤ 12) ∨ (45 ≤ k ∧ k ≤ 47))) ∨ (a = 49 ∧ k < 4) ∨ (a = 50 ∧ k < 16) ∨ (a = 51 ∧ k < 8) ∨ (a = 52 ∧ k < 8) ∨ ((69 ≤ a ∧ a ≤ 73) ∧ k < 3) ∨ (a = 68 ∧ k < 2048)) : V' a k = V a k := by
  obtain ⟨i, hi, e⟩ := kp_z hk
  have := h i hi
  rw [e] at this
  exact this
theorem te_pN (h : tE V V') : pN V' = pN V := by unfold pN; rw [h.a (a := 46) (k := 10) (by omega)]
theorem te_tN (h : tE V V') : tN V' = tN V := by unfold tN; rw [h.a (a := 46) (k := 11) (by omega)]
theorem te_kN (h : tE V V') : kN V' = kN V := by unfold kN; rw [h.a (a := 46) (k := 12) (by omega)]
theorem WV_tE (h : tE V V') (hW : WV V) : WV V' := by
  have hp4 := hW.1.2
  have hk8 : kN V ≤ 8 := hW.2.2.1.2
  obtain ⟨a1, a2, a3, a4, a5, a6, a7, a8, a9, a10⟩ := hW
  unfold WV
  rw [te_pN h, te_tN h, te_kN h, h.a (a := 46) (k := 10) (by omega), h.a (a := 46) (k := 11) (by omega), h.a (a := 46) (k := 12) (by omega), h.a (a := 46) (k := 45) (by omega), h.a (a := 46) (k := 46) (by omega), h.a (a := 46) (k := 47) (by omega)]
  refine ⟨a1, a2, a3, fun p hp => ?_, fun k hk => ?_, fun k hk => ?_, fun t ht => ?_, a8, a9, a10⟩
  · have e := h.a (a := 49) (k := p) (by omega)
    have := a4 p hp
    unfold sN at this ⊢
    rw [e]; exact this
  · rw [h.a (a := 50) (k := k) (by omega)]; exact a5 k hk
  · rw [h.a (a := 51) (k := k) (by omega), h.a (a := 52) (k := k) (by omega)]; exact a6 k hk
  · rw [h.a (a := 69) (k := t) (by omega), h.a (a := 70) (k := t) (by omega), h.a (a := 71) (k := t) (by omega), h.a (a := 72) (k := t) (by omega), h.a (a := 73) (k := t) (by omega)]; exact a7 t ht
theorem TV_tE (h : tE V V') (hW : WV V) {g : Nat → Nat → Int32} (t : TV V g) : TV V' g := by
  have hp4 : pN V ≤ 4 := hW.1.2
  have hk8 : kN V ≤ 8 := hW.2.2.1.2
  have h256 := p4_le hp4
  obtain ⟨a1, a2, a3, a4, a5, a6⟩ := t
  unfold TV
  rw [h.a (a := 46) (k := 10) (by omega), h.a (a := 46) (k := 11) (by omega), h.a (a := 46) (k := 12) (by omega), h.a (a := 46) (k := 45) (by omega), h.a (a := 46) (k := 46) (by omega), h.a (a := 46) (k := 47) (by omega), te_pN h, te_kN h]
  refine ⟨a1, fun p hp => ?_, fun k hk => ?_, fun k hk => ?_, fun t ht => ?_, ?_⟩
  · rw [h.a (a := 49) (k := p) (by omega)]; exact a2 p hp
  · rw [h.a (a := 50) (k := k) (by omega)]; exact a3 k hk
  · rw [h.a (a := 51) (k := k) (by omega), h.a (a := 52) (k := k) (by omega)]; exact a4 k hk
  · rw [h.a (a := 69) (k := t) (by omega), h.a (a := 70) (k := t) (by omega), h.a (a := 71) (k := t) (by omega), h.a (a := 72) (k := t) (by omega), h.a (a := 73) (k := t) (by omega)]; exact a5 t ht
  · unfold CV
    rw [te_pN h, te_kN h]
    intro l hl q hq s1 hb h1 h2
    rw [h.a (a := 68) (k := 256 * l + q) (by omega)]
    exact a6 l hl q hq s1 hb h1 h2
theorem mk_kp (V : Vw) (m : Nat) {i : Nat} (hi : i < 2105) : mkW V m (kp i).1 (kp i).2 = V (km m i).1 (km m i).2 := by
  by_cases c0 : i < 3
  · obtain rfl | rfl | rfl : i = 0 ∨ i = 1 ∨ i = 2 := by omega
    · rfl
    · rfl
    · rfl
  by_cases c1 : i < 6
  · obtain rfl | rfl | rfl : i = 3 ∨ i = 4 ∨ i = 5 := by omega
    · rfl
    · rfl
    · rfl
  by_cases c9 : i < 57
  · have ek : km m i = (77, 140 * m + i) := by unfold km; rw [if_pos c9]
    rw [ek]
    by_cases c2 : i < 10
    · have e : kp i = (49, i - 6) := by unfold kp; rw [if_neg c0, if_neg c1, if_pos c2]
      rw [e]
      show mkW V m 49 (i - 6) = V 77 (140 * m + i)
      unfold mkW
      rw [if_neg (by omega), if_neg (by omega), if_neg (by omega), if_neg (by omega), if_neg (by omega), if_neg (by omega), if_pos (by omega), show 140 * m + 6 + (i - 6) = 140 * m + i by omega]
    by_cases c3 : i < 26
    · have e : kp i = (50, i - 10) := by unfold kp; rw [if_neg c0, if_neg c1, if_neg c2, if_pos c3]
      rw [e]
      show mkW V m 50 (i - 10) = V 77 (140 * m + i)
      unfold mkW
      rw [if_neg (by omega), if_neg (by omega), if_neg (by omega), if_neg (by omega), if_neg (by omega), if_neg (by omega), if_neg (by omega), if_pos (by omega), show 140 * m + 10 + (i - 10) = 140 * m + i by omega]
    by_cases c4 : i < 34
    · have e : kp i = (51, i - 26) := by unfold kp; rw [if_neg c0, if_neg c1, if_neg c2, if_neg c3, if_pos c4]
      rw [e]
      show mkW V m 51 (i - 26) = V 77 (140 * m + i)
      unfold mkW
      rw [if_neg (by omega), if_neg (by omega), if_neg (by omega), if_neg (by omega), if_neg (by omega), if_neg (by omega), if_neg (by omega), if_neg (by omega), if_pos (by omega), show 140 * m + 26 + (i - 26) = 140 * m + i by omega]
    by_cases c5 : i < 42
    · have e : kp i = (52, i - 34) := by unfold kp; rw [if_neg c0, if_neg c1, if_neg c2, if_neg c3, if_neg c4, if_pos c5]
      rw [e]
      show mkW V m 52 (i - 34) = V 77 (140 * m + i)
      unfold mkW
      rw [if_neg (by omega), if_neg (by omega), if_neg (by omega), if_neg (by omega), if_neg (by omega), if_neg (by omega), if_neg (by omega), if_neg (by omega), if_neg (by omega), if_pos (by omega), show 140 * m + 34 + (i - 34) = 140 * m + i by omega]
    · have e : kp i = (69 + (i - 42) / 3, (i - 42) % 3) := by unfold kp; rw [if_neg c0, if_neg c1, if_neg c2, if_neg c3, if_neg c4, if_neg c5, if_pos c9]
      rw [e]
      show mkW V m (69 + (i - 42) / 3) ((i - 42) % 3) = V 77 (140 * m + i)
      unfold mkW
      rw [if_neg (by omega), if_neg (by omega), if_neg (by omega), if_neg (by omega), if_neg (by omega), if_neg (by omega), if_neg (by omega), if_neg (by omega), if_neg (by omega), if_neg (by omega), if_pos (by omega), show 140 * m + 42 + 3 * (69 + (i - 42) / 3 - 69) + (i - 42) % 3 = 140 * m + i by omega]
  · have ek : km m i = (79, 2048 * m + (i - 57)) := by unfold km; rw [if_neg c9]
    have e : kp i = (68, i - 57) := by unfold kp; rw [if_neg c0, if_neg c1, if_neg (by omega), if_neg (by omega), if_neg (by omega), if_neg (by omega), if_neg c9]
    rw [ek, e]
    show mkW V m 68 (i - 57) = V 79 (2048 * m + (i - 57))
    unfold mkW
    rw [if_neg (by omega), if_neg (by omega), if_neg (by omega), if_neg (by omega), if_neg (by omega), if_neg (by omega), if_neg (by omega), if_neg (by omega), if_neg (by omega), if_neg (by omega), if_neg (by omega), if_pos (by omega)]
theorem mkW_x {m : Nat} (h7 : ∀ j, 140 * m ≤ j → j < 140 * m + 57 → V' 77 j = V 77 j) (h9 : ∀ j, 2048 * m ≤ j → j < 2048 * m + 2048 → V' 79 j = V 79 j) : mkW V' m = mkW V m := by
  funext a k
  unfold mkW
  rw [h7 (140 * m) (by omega) (by omega), h7 (140 * m + 1) (by omega) (by omega), h7 (140 * m + 2) (by omega) (by omega), h7 (140 * m + 3) (by omega) (by omega), h7 (140 * m + 4) (by omega) (by omega), h7 (140 * m + 5) (by omega) (by omega)]
  by_cases c1 : a = 49 ∧ k < 4
  · rw [h7 (140 * m + 6 + k) (by omega) (by omega), if_pos c1, if_pos c1]
  · rw [if_neg c1, if_neg c1]
    by_cases c2 : a = 50 ∧ k < 16
    · rw [h7 (140 * m + 10 + k) (by omega) (by omega), if_pos c2, if_pos c2]
    · rw [if_neg c2, if_neg c2]
      by_cases c3 : a = 51 ∧ k < 8
      · rw [h7 (140 * m + 26 + k) (by omega) (by omega), if_pos c3, if_pos c3]
      · rw [if_neg c3, if_neg c3]
        by_cases c4 : a = 52 ∧ k < 8
        · rw [h7 (140 * m + 34 + k) (by omega) (by omega), if_pos c4, if_pos c4]
        · rw [if_neg c4, if_neg c4]
          by_cases c5 : (69 ≤ a ∧ a ≤ 73) ∧ k < 3
          · rw [h7 (140 * m + 42 + 3 * (a - 69) + k) (by omega) (by omega), if_pos c5, if_pos c5]
          · rw [if_neg c5, if_neg c5]
            by_cases c6 : a = 68 ∧ k < 2048
            · rw [h9 (2048 * m + k) (by omega) (by omega)]
            · rw [if_neg c6, if_neg c6]
end
/-! .. the model's call -/
section
variable {V V' : Vw} {s s' : Sg} {i L : Nat} {P : Int32 → Sg → Prop}
theorem wi_m {m : Nat} (hm : m < 4) : wi (nI m) 0 3 = true := by
  have : m = 0 ∨ m = 1 ∨ m = 2 ∨ m = 3 := by omega
  rcases this with rfl | rfl | rfl | rfl <;> decide
theorem m_b29 {m : Nat} {x2 : Int32} (hm : m < 4) (hb : zl_B s) (h : h01 x2 m s) : ∃ s1, f_Mo_mark_b29 (nI m) x2 s = some (1, uI s1 76 m 1) ∧ zl_B s1 ∧ MV x2 m s s1 (fun _ => True) := by
  obtain ⟨_, s1, e, h1⟩ := m_moves hm hb h
  refine ⟨s1, ?_, h1.b hb, h1⟩
  unfold f_Mo_mark_b29
  refine ck_t hb ((f_bd_of e).trans (ck_t (h1.b hb) (ck_t (vp_in_nI hm (by decide)) ?_)))
  rw [nI_clamp (by omega)]
  rfl
theorem mark_out {V : Vw} {s : Sg} {x y : Int32} (hc : wi x 0 3 = false) : f_Wk_mark x y s = some (0, s) ∧ ∀ s1, RM V s1 → QM V s1 (f_Mo_mark x y s1) 0 0 := by
  constructor
  · unfold f_Wk_mark
    rw [f_bd_of (k_isWithin (s := s) x 3), hc, if_neg (show ¬ (false = true) by decide), if_pos rfl]
  · intro s1 h1
    obtain ⟨h2, f2, t2⟩ := h1.no
    refine ⟨_, V, ?_, h2, f2, fun _ _ _ => rfl, t2⟩
    unfold f_Mo_mark
    refine ck_t h1.b ((f_bd_of (m_wi (s := uI s1 46 0 0) x 0 3)).trans ?_)
    rw [hc, if_neg (show ¬ (false = true) by decide), if_pos rfl]
theorem wi_of {x : Int32} (hc : wi x 0 3 = true) : ∃ m, m < 4 ∧ x = nI m := by
  unfold wi at hc
  simp only [Bool.and_eq_true, Bool.not_eq_true', decide_eq_false_iff_not] at hc
  obtain ⟨j, hj, rfl⟩ := nI_of hc.1
  refine ⟨j, Nat.lt_of_not_le fun h9 => hc.2 ?_, rfl⟩
  exact nI_lt (a := 3) (b := j) (by omega) (by omega)
end
