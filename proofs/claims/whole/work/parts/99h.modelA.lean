/-! works: the model reads lines, and a text -/
section
variable {s s' s1 s2 : Sg} {T : Nat → Nat} {n c : Nat} {e : Nm} {τ : Tok} {z : Ps}
theorem bt_lo : ∀ w, w < 128 → ∀ i, i < 4 → (w % 16 &&& 2 ^ i = 0 ↔ ¬ w / 2 ^ i % 2 = 1) ∧ (¬ w / 2 ^ i % 2 = 1 → w % 16 ||| 2 ^ i = (w + 2 ^ i) % 16 ∧ (w + 2 ^ i) / 16 = w / 16) := by decide +kernel
theorem bt_hi : ∀ w, w < 128 → ∀ i, i < 3 → (w / 16 &&& 2 ^ i = 0 ↔ ¬ w / 2 ^ (4 + i) % 2 = 1) ∧ (¬ w / 2 ^ (4 + i) % 2 = 1 → w / 16 ||| 2 ^ i = (w + 2 ^ (4 + i)) / 16 ∧ (w + 2 ^ (4 + i)) % 16 = w % 16) := by decide +kernel
def nmA (l a k : Nat) : Prop := nAx a k ∨ ((a = 51 ∨ a = 52) ∧ k = 8 + l)
theorem fr_qN {l : Nat} (f : FR (nmA l) nBx s s') : FR qA qB s s' := f.mo (fun a k h => by unfold nmA nAx at h; unfold qA; omega) (fun a k h => Or.inl h)
theorem fr_nm {l : Nat} (f : FR nAx nBx s s') : FR (nmA l) nBx s s' := f.mo (fun a k h => Or.inl h) (fun _ _ h => h)
theorem m_nms {l : Nat} (hl : l < 8) (hn : NmOK e) (hnn : n ≤ 1000) : ∀ (f w : Nat) (τ : Tok) (s : Sg) (F : Nat), n + 1 ≤ f + τ.st → f < F → w < 128 → ME T n e c τ s → TG T n τ → mI s 51 (8 + l) = nI (w % 16) → mI s 52 (8 + l) = nI (w / 16) → match pNms (tkn T n) e f w τ with
    | .error y => ∃ s', f_Mo_readsLine_h70 F (nI (8 + l)) s = some (0, s') ∧ FR qA qB s s' ∧ (∀ k, mI s' 50 k = mI s 50 k) ∧ mI s' 46 9 = nI y
    | .ok r => (r.1 = 0 ∧ ∃ s', f_Mo_readsLine_h70 F (nI (8 + l)) s = some (0, s') ∧ FR qA qB s s' ∧ (∀ k, mI s' 50 k = mI s 50 k) ∧ mI s' 46 9 = nI (1 + 16 * r.2.st)) ∨ (¬ r.1 = 0 ∧ ∃ s', f_Mo_readsLine_h70 F (nI (8 + l)) s = f_Mo_readsLine_b204 s' ∧ FR (nmA l) nBx s s' ∧ ME T n e c r.2 s' ∧ mI s' 51 (8 + l) = nI (r.1 % 16) ∧ mI s' 52 (8 + l) = nI (r.1 / 16)) := by
  intro f
  induction f with
  | zero => intro w τ s F hf hF hw h ht; have := ht.st.1; exact absurd hf (by omega)
  | succ f ih =>
    intro w τ s F hf hF hw h ht h51 h52
    obtain ⟨F, rfl⟩ : ∃ g, F = g + 1 := ⟨F - 1, by omega⟩
    have hb := h.1.b
    have hst := ht.st
    have hn1 := hn.1
    have v16 : vp_in (nI (8 + l)) 16 := vp_in_nI (by omega) (by decide)
    have ed : (nI (8 + l)).toNatClampNeg = 8 + l := nI_clamp (by omega)
    have h70 : f_Mo_readsLine_h70 (F + 1) (nI (8 + l)) s = f_Mo_readsLine_b70 (f_Mo_readsLine_h70 F) (nI (8 + l)) s := rfl
    unfold f_Mo_readsLine_b70 at h70
    rw [f_ck_of hb, f_bd_of (me_name h ht)] at h70
    have h93 : f_Mo_readsLine_b93 (f_Mo_readsLine_h70 F) (nI (8 + l)) s = f_Mo_readsLine_b93 (f_Mo_readsLine_h70 F) (nI (8 + l)) s := rfl
    unfold f_Mo_readsLine_b93 at h93
    have hfr : ∀ {k : Nat} {t : Sg}, FR (mE 0 0 c) nBx s t → mI t 50 k = mI s 50 k := fun ft => ft.2.1 50 _ (by unfold mE; omega)
    unfold pNms
    by_cases c2 : τ.k = 2
    · rw [if_pos c2]
      have hlt := hst.2.1 (by omega)
      rw [if_pos c2, if_neg (show ¬ (1 : Int32) = 0 by decide)] at h70
      unfold f_Mo_readsLine_b93 at h70
      rw [f_ck_of hb, f_bd_of (me_name h ht), if_pos c2, if_neg (show ¬ (1 : Int32) = 0 by decide), f_ck_of hb, f_bd_of (me_who h ht hn c2)] at h70
      cases hi : who e τ.pw with
      | none =>
        rw [hi, if_neg (show ¬ (0 : Int32) ≤ whI none by decide)] at h70
        obtain ⟨s2, e2, f2, z2⟩ := me_failN h 0 0 2
        refine ⟨s2, ?_, fr_qE f2, fun k => hfr f2, z2⟩
        rw [h70]
        unfold f_Mo_readsLine_b115
        rw [f_ck_of hb]
        exact e2
      | some i =>
        have hib := who_b hn hi
        rw [hi, show whI (some i) = nI i from rfl, if_pos (show (0 : Int32) ≤ nI i from nI_le (a := 0) (Nat.zero_le _) (by omega))] at h70
        show match (if w / 2 ^ i % 2 = 1 then .error (3 + 16 * τ.st) else pNms (tkn T n) e f (w + 2 ^ i) (tkn T n τ.en) : Except Nat (Nat × Tok)) with
          | .error y => ∃ s', f_Mo_readsLine_h70 (F + 1) (nI (8 + l)) s = some (0, s') ∧ FR qA qB s s' ∧ (∀ k, mI s' 50 k = mI s 50 k) ∧ mI s' 46 9 = nI y
          | .ok r => (r.1 = 0 ∧ ∃ s', f_Mo_readsLine_h70 (F + 1) (nI (8 + l)) s = some (0, s') ∧ FR qA qB s s' ∧ (∀ k, mI s' 50 k = mI s 50 k) ∧ mI s' 46 9 = nI (1 + 16 * r.2.st)) ∨ (¬ r.1 = 0 ∧ ∃ s', f_Mo_readsLine_h70 (F + 1) (nI (8 + l)) s = f_Mo_readsLine_b204 s' ∧ FR (nmA l) nBx s s' ∧ ME T n e c r.2 s' ∧ mI s' 51 (8 + l) = nI (r.1 % 16) ∧ mI s' 52 (8 + l) = nI (r.1 / 16))
        have h163 : ∃ s', f_Mo_readsLine_b163 s = some (0, s') ∧ FR qA qB s s' ∧ (∀ k, mI s' 50 k = mI s 50 k) ∧ mI s' 46 9 = nI (3 + 16 * τ.st) := by
          obtain ⟨s2, e2, f2, z2⟩ := me_failN h 0 0 3
          refine ⟨s2, ?_, fr_qE f2, fun k => hfr f2, z2⟩
          unfold f_Mo_readsLine_b163
          rw [f_ck_of hb]
          exact e2
        -- what a bit that is set now comes to
        have go : ∀ (a x : Nat) (hax : (a = 51 ∨ a = 52)), (∀ j, j = 51 ∨ j = 52 → mI (uI s a (8 + l) (nI x)) j (8 + l) = nI (if j = 51 then (w + 2 ^ i) % 16 else (w + 2 ^ i) / 16)) → ¬ w / 2 ^ i % 2 = 1 → f_Mo_readsLine_h70 (F + 1) (nI (8 + l)) s = f_Mo_readsLine_b197 (f_Mo_readsLine_h70 F) (nI (8 + l)) (uI s a (8 + l) (nI x)) → match pNms (tkn T n) e f (w + 2 ^ i) (tkn T n τ.en) with
          | .error y => ∃ s', f_Mo_readsLine_h70 (F + 1) (nI (8 + l)) s = some (0, s') ∧ FR qA qB s s' ∧ (∀ k, mI s' 50 k = mI s 50 k) ∧ mI s' 46 9 = nI y
          | .ok r => (r.1 = 0 ∧ ∃ s', f_Mo_readsLine_h70 (F + 1) (nI (8 + l)) s = some (0, s') ∧ FR qA qB s s' ∧ (∀ k, mI s' 50 k = mI s 50 k) ∧ mI s' 46 9 = nI (1 + 16 * r.2.st)) ∨ (¬ r.1 = 0 ∧ ∃ s', f_Mo_readsLine_h70 (F + 1) (nI (8 + l)) s = f_Mo_readsLine_b204 s' ∧ FR (nmA l) nBx s s' ∧ ME T n e c r.2 s' ∧ mI s' 51 (8 + l) = nI (r.1 % 16) ∧ mI s' 52 (8 + l) = nI (r.1 / 16)) := by
          intro a x hax hv cb hgo
          have f1 : FR (nmA l) nBx s (uI s a (8 + l) (nI x)) := fr_uI s _ (Or.inr ⟨hax, rfl⟩)
          have f1' : FR (fun a _ => a = 51 ∨ a = 52) NoL s (uI s a (8 + l) (nI x)) := fr_uI s _ hax
          have h1 := h.f f1' (fun a k g => by have g' : a = 51 ∨ a = 52 := g; omega) (fun _ _ g => g)
          obtain ⟨s2, e2, f2, h2⟩ := me_next h1 ht
          have v51 : mI s2 51 (8 + l) = nI ((w + 2 ^ i) % 16) := (f2.2.1 51 _ (by unfold nAx; omega)).trans ((hv 51 (Or.inl rfl)).trans (by rw [if_pos rfl]))
          have v52 : mI s2 52 (8 + l) = nI ((w + 2 ^ i) / 16) := (f2.2.1 52 _ (by unfold nAx; omega)).trans ((hv 52 (Or.inr rfl)).trans (by rw [if_neg (by decide)]))
          have hgo' : f_Mo_readsLine_h70 (F + 1) (nI (8 + l)) s = f_Mo_readsLine_h70 F (nI (8 + l)) s2 := by
            rw [hgo]
            unfold f_Mo_readsLine_b197
            rw [f_ck_of h1.1.b, f_bd_of e2]
          have hh := ih (w + 2 ^ i) _ s2 F (by omega) (by omega) (bt_ad w hw i (by omega) cb).1 h2 ht.tk v51 v52
          have h50 : ∀ k, mI s2 50 k = mI s 50 k := fun k => ((fr_nm f2 : FR (nmA l) nBx _ s2).2.1 50 k (by unfold nmA nAx; omega)).trans (f1.2.1 50 k (by unfold nmA nAx; omega))
          cases hr : pNms (tkn T n) e f (w + 2 ^ i) (tkn T n τ.en) with
          | error y =>
            rw [hr] at hh
            obtain ⟨s3, e3, f3, y3, z3⟩ := hh
            exact ⟨s3, hgo'.trans e3, (fr_qN (f1.tr (fr_nm f2))).tr f3, fun k => (y3 k).trans (h50 k), z3⟩
          | ok r =>
            rw [hr] at hh
            rcases hh with ⟨r0, s3, e3, f3, y3, z3⟩ | ⟨r0, s3, e3, f3, z3⟩
            · exact Or.inl ⟨r0, s3, hgo'.trans e3, (fr_qN (f1.tr (fr_nm f2))).tr f3, fun k => (y3 k).trans (h50 k), z3⟩
            · exact Or.inr ⟨r0, s3, hgo'.trans e3, (f1.tr (fr_nm f2)).tr f3, z3⟩
        by_cases c4 : i < 4
        · obtain ⟨b1, b2⟩ := bt_lo w hw i c4
          rw [if_neg (show ¬ (4 : Int32) ≤ nI i from nI_ge (b := 4) c4 (by decide)), shl_p i (by omega)] at h70
          unfold f_Mo_readsLine_b137 f_Mo_readsLine_b158 at h70
          have hlt2 : w % 16 &&& 2 ^ i < 2 ^ 31 := Nat.lt_of_le_of_lt Nat.and_le_left (by omega)
          rw [if_neg (show ¬ (4 : Int32) ≤ nI i from nI_ge (b := 4) c4 (by decide)), f_ck_of hb, f_ck_of v16, ed, h51, nI_and, if_neg (show ¬ (4 : Int32) ≤ nI i from nI_ge (b := 4) c4 (by decide)), f_ck_of hb, f_ck_of v16, f_ck_of v16, nI_or] at h70
          by_cases cb : w / 2 ^ i % 2 = 1
          · rw [if_pos cb]
            rw [if_neg (show ¬ nI (w % 16 &&& 2 ^ i) ≤ 0 from fun q => (b1.mp (by have := (nI_leI (b := 0) hlt2 (by decide)).mp q; omega)) cb)] at h70
            obtain ⟨s2, e2, r2⟩ := h163
            exact ⟨s2, h70.trans e2, r2⟩
          · rw [if_neg cb]
            rw [if_pos (show nI (w % 16 &&& 2 ^ i) ≤ 0 by rw [b1.mpr cb]; decide)] at h70
            refine go 51 _ (Or.inl rfl) (fun j hj => ?_) cb h70
            rcases hj with rfl | rfl
            · rw [mI_at, if_pos rfl, (b2 cb).1]
            · rw [mI_ne _ _ (by omega), if_neg (by decide), (b2 cb).2]; exact h52
        · obtain ⟨j, rfl⟩ : ∃ j, i = 4 + j := ⟨i - 4, by omega⟩
          obtain ⟨b1, b2⟩ := bt_hi w hw j (by omega)
          have e4 : nI (4 + j) - 4 = nI j := nI_sub 4 j
          have p4 : (4 : Int32) ≤ nI (4 + j) := nI_le (a := 4) (by omega) (by omega)
          rw [if_pos p4, e4, shl_p j (by omega)] at h70
          unfold f_Mo_readsLine_b137 f_Mo_readsLine_b158 at h70
          have hlt2 : w / 16 &&& 2 ^ j < 2 ^ 31 := Nat.lt_of_le_of_lt Nat.and_le_left (by omega)
          rw [if_pos p4, f_ck_of hb, f_ck_of v16, ed, h52, nI_and, if_pos p4, f_ck_of hb, f_ck_of v16, f_ck_of v16, nI_or] at h70
          by_cases cb : w / 2 ^ (4 + j) % 2 = 1
          · rw [if_pos cb]
            rw [if_neg (show ¬ nI (w / 16 &&& 2 ^ j) ≤ 0 from fun q => (b1.mp (by have := (nI_leI (b := 0) hlt2 (by decide)).mp q; omega)) cb)] at h70
            obtain ⟨s2, e2, r2⟩ := h163
            exact ⟨s2, h70.trans e2, r2⟩
          · rw [if_neg cb]
            rw [if_pos (show nI (w / 16 &&& 2 ^ j) ≤ 0 by rw [b1.mpr cb]; decide)] at h70
            refine go 52 _ (Or.inr rfl) (fun j2 hj => ?_) cb h70
            rcases hj with rfl | rfl
            · rw [mI_ne _ _ (by omega), if_pos rfl, (b2 cb).2]; exact h51
            · rw [mI_at, if_neg (by decide), (b2 cb).1]
    · rw [if_neg c2]
      rw [if_neg c2, if_pos rfl, f_ck_of hb, f_ck_of v16, f_ck_of v16, ed, h51, h52, nI_add] at h70
      by_cases w0 : w = 0
      · left
        refine ⟨w0, ?_⟩
        rw [if_pos (show nI (w % 16 + w / 16) = 0 by rw [w0]; rfl)] at h70
        unfold f_Mo_readsLine_b93 at h70
        rw [f_ck_of hb, f_bd_of (me_name h ht), if_neg c2, if_pos rfl] at h70
        obtain ⟨s2, e2, f2, z2⟩ := me_failN h 0 0 1
        refine ⟨s2, ?_, fr_qE f2, fun k => hfr f2, z2⟩
        rw [h70]
        unfold f_Mo_readsLine_b100
        rw [f_ck_of hb]
        exact e2
      · right
        refine ⟨w0, s, ?_, FR.rf _ _ _, h, h51, h52⟩
        rw [h70, if_neg (nI_ne0 (by omega) (by omega))]
theorem m_linR (h : MS T n z τ s) (hg : PG T n z τ) (hk : τ.k ≠ 0) : mRs T n s (pLine (tkn T n) z τ) (f_Mo_readsLine s) := by
  obtain ⟨h, hc, ho⟩ := h
  have hn := hg.1
  have ht := hg.2.2.2.2.2.2
  have hln := hg.2.2.2.1
  have hpos := hg.2.2.2.2.2.1
  have hnn := h.1.2.1
  unfold f_Mo_readsLine pLine
  rw [f_ck_of h.1.b, ho.1]
  by_cases c4 : z.ln < 8
  · have e8 : (8 : Int32) + nI z.ln = nI (8 + z.ln) := nI_add 8 _
    have v16 : vp_in (nI (8 + z.ln)) 16 := vp_in_nI (by omega) (by decide)
    have ed : (nI (8 + z.ln)).toNatClampNeg = 8 + z.ln := nI_clamp (by omega)
    rw [if_neg (show ¬ nI z.ln = 8 from nI_neq (b := 8) (by omega) (by decide) (by omega)), if_pos c4, e8]
    obtain ⟨s1, e1, f1, h1⟩ := me_next h ht
    have t1 := ht.tk
    have hc1 := hc.cc f1
    have ho1 := ho.cc f1
    have st1 := ht.st.2.2
    rw [f_bd_of e1, f_ck_of h1.1.b, f_ck_of v16, ed, h1.2.2.2]
    have f2' : FR (fun a k => a = 53 ∧ k = 8 + z.ln) NoL s1 (uI s1 53 (8 + z.ln) (nI (1000 + mps z.la z.ln))) := fr_uI s1 _ ⟨rfl, rfl⟩
    have f2 : FR qA qB s1 (uI s1 53 (8 + z.ln) (nI (1000 + mps z.la z.ln))) := fr_uI s1 _ (Or.inr (Or.inr (Or.inr (Or.inl ⟨⟨by decide, by decide⟩, by omega⟩))))
    have h2 := h1.f f2' (fun a k g => by have := g.1; omega) (fun _ _ g => g)
    have hc2 : MC z.cst (uI s1 53 (8 + z.ln) (nI (1000 + mps z.la z.ln))) := hc1.f f2' (fun k g => by have := g.1; omega)
    have ho2 : MO z (uI s1 53 (8 + z.ln) (nI (1000 + mps z.la z.ln))) := ho1.f f2' (fun g => by have := g.1; omega) (fun k _ g => by have := g.1; omega) (fun a k _ _ hk g => by have := g.2; omega) (fun k _ g => by have := g.1; omega)
    have q53 : mI (uI s1 53 (8 + z.ln) (nI (1000 + mps z.la z.ln))) 53 (8 + z.ln) = nI (1000 + mps z.la z.ln) := mI_at _ _ _ _
    generalize uI s1 53 (8 + z.ln) (nI (1000 + mps z.la z.ln)) = s2 at *
    have f02 : FR qA qB s s2 := (fr_qC f1).tr f2
    -- the sum
    have f3' : FR (fun a k => a = 57 ∧ k = 0) NoL s2 (uI s2 57 0 0) := fr_uI s2 _ ⟨rfl, rfl⟩
    have h3 := h2.f f3' (fun a k g => by have := g.1; omega) (fun _ _ g => g)
    have er : f_Mo_reads s2 = f_Mo_reads_h11 zl_fl (nI 0) 1 (uI s2 57 0 0) := by
      unfold f_Mo_reads
      rw [f_ck_of h2.1.b]
      rfl
    have hE := (mEt (T := T) (n := n) hn 40).1 0 0 _ (uI s2 57 0 0) _ zl_fl (by decide) (by decide) (by decide) h3 t1 (by omega) rfl (fun _ => mI_at _ _ _ _) (by rw [zl_4096]; omega)
    have hgG := (pE_G (T := T) (n := n) (e := z.e) 40).1 0 0 _ t1
    have hlv := fun r => pE_L (T := T) (e := z.e) hnn 40 0 0 (tkn T n τ.en) r t1
    have hc3 : MC z.cst (uI s2 57 0 0) := hc2.f f3' (fun k g => by have := g.1; omega)
    have ho3 : MO z (uI s2 57 0 0) := ho2.f f3' (fun g => by have := g.1; omega) (fun k _ g => by have := g.1; omega) (fun a k _ _ hk g => by have := g.1; omega) (fun k _ g => by have := g.1; omega)
    have f03 : FR qA qB s (uI s2 57 0 0) := f02.tr (fr_uI s2 _ (by unfold qA; omega))
    have q53b : mI (uI s2 57 0 0) 53 (8 + z.ln) = nI (1000 + mps z.la z.ln) := (mI_ne _ _ (by omega)).trans q53
    generalize uI s2 57 0 0 = s3 at *
    cases hr : (pE (tkn T n) z.e 40).1 0 0 (tkn T n τ.en) with
    | error y =>
      rw [hr] at hE
      obtain ⟨s4, e4, f4, z4⟩ := hE
      refine ⟨s4, ?_, f03.tr (fr_qE f4), z4, hc3.ee f4⟩
      refine (f_bd_of (er.trans e4)).trans ?_
      rw [if_pos rfl]
    | ok r =>
      have hlr := hlv r hr
      rw [hr] at hE hgG
      obtain ⟨F4, s4, hF4, e4, f4, h4, cd4, x4⟩ := hE
      obtain ⟨g1, g2, g3⟩ := hgG
      have g4 := g1.st.1
      have hc4 := hc3.ee f4
      have ho4 := ho3.ee f4
      have f04 : FR qA qB s s4 := f03.tr (fr_qE f4)
      have q53c : mI s4 53 (8 + z.ln) = nI (1000 + mps z.la z.ln) := (f4.2.1 53 _ (by unfold mE; omega)).trans q53b
      obtain ⟨F4, rfl⟩ : ∃ g, F4 = g + 1 := ⟨F4 - 1, by omega⟩
      show mRs T n s (pLin1 (tkn T n) z r) _
      unfold pLin1
      rcases m_end h4 g1 ⟨hlr 0 (by omega) (by omega) (by omega), hlr 2 (by omega) (by omega) (by omega), hlr 3 (by omega) (by omega) (by omega)⟩ (by decide : 0 < 7) (fun q => by
          rcases x4 (by omega) with ⟨_, w⟩ | w
          · exact absurd q w
          · rw [w]; decide) (by omega) F4 0 with ⟨-, q, -⟩ | ⟨k8, -, s5, e5, f5, h5⟩ | ⟨-, n8, s5, e5, f5, z5⟩
      · exact absurd q (Nat.lt_irrefl _)
      · rw [if_pos k8]
        refine mRs_eq (f_bd_of (er.trans (e4.trans e5))) ?_
        have hc5 := hc4.ee f5
        have ho5 : MO z s5 := ho4.f f5 (by unfold mE; omega) (fun k _ => by unfold mE; omega) (fun a k h1 h2 _ => by unfold mE; omega) (fun k hk => by unfold mE; omega)
        have f05 : FR qA qB s s5 := f04.tr (fr_qE f5)
        have cd5 : HC s5 55 (1000 + mps z.la z.ln) r.1.2.1 := HC_cg (fun k hk => f5.2.1 55 _ (by unfold mE; omega)) cd4
        have q53d : mI s5 53 (8 + z.ln) = nI (1000 + mps z.la z.ln) := (f5.2.1 53 _ (by unfold mE; omega)).trans q53c
        have t5 := g1.tk
        rw [if_neg (show ¬ (1 : Int32) = 0 by decide), f_ck_of h5.1.b, f_ck_of v16, h5.2.2.2]
        have f6' : FR (fun a k => (51 ≤ a ∧ a ≤ 54) ∧ k = 8 + z.ln) NoL s5 (uI (uI (uI s5 54 (8 + z.ln) (nI (1000 + (mps z.la z.ln + r.1.2.1.length)))) 51 (8 + z.ln) 0) 52 (8 + z.ln) 0) := ((fr_uI s5 _ ⟨⟨by decide, by decide⟩, rfl⟩).tr (fr_uI _ _ ⟨⟨by decide, by decide⟩, rfl⟩)).tr (fr_uI _ _ ⟨⟨by decide, by decide⟩, rfl⟩)
        have f6 : FR qA qB s5 (uI (uI (uI s5 54 (8 + z.ln) (nI (1000 + (mps z.la z.ln + r.1.2.1.length)))) 51 (8 + z.ln) 0) 52 (8 + z.ln) 0) := f6'.mo (fun a k g => by have g' : (51 ≤ a ∧ a ≤ 54) ∧ k = 8 + z.ln := g; unfold qA; omega) (fun _ _ g => absurd g (fun q => q))
        have h6 := h5.f f6' (fun a k g => by have g' : (51 ≤ a ∧ a ≤ 54) ∧ k = 8 + z.ln := g; omega) (fun _ _ g => g)
        have hc6 : MC z.cst (uI (uI (uI s5 54 (8 + z.ln) (nI (1000 + (mps z.la z.ln + r.1.2.1.length)))) 51 (8 + z.ln) 0) 52 (8 + z.ln) 0) := hc5.f f6' (fun k g => by have g' : (51 ≤ 50 ∧ 50 ≤ 54) ∧ k = 8 + z.ln := g; omega)
        have ho6 : MO z (uI (uI (uI s5 54 (8 + z.ln) (nI (1000 + (mps z.la z.ln + r.1.2.1.length)))) 51 (8 + z.ln) 0) 52 (8 + z.ln) 0) := ho5.f f6' (fun g => by have g' : (51 ≤ 46 ∧ 46 ≤ 54) ∧ 24 = 8 + z.ln := g; omega) (fun k _ g => by have g' : (51 ≤ 49 ∧ 49 ≤ 54) ∧ 4 + k = 8 + z.ln := g; omega) (fun a k _ _ hk g => by have g' : (51 ≤ a ∧ a ≤ 54) ∧ 8 + k = 8 + z.ln := g; omega) (fun k _ g => by have g' : (51 ≤ 55 ∧ 55 ≤ 54) ∧ k = 8 + z.ln := g; omega)
        have p51 : mI (uI (uI (uI s5 54 (8 + z.ln) (nI (1000 + (mps z.la z.ln + r.1.2.1.length)))) 51 (8 + z.ln) 0) 52 (8 + z.ln) 0) 51 (8 + z.ln) = nI (0 % 16) := by rw [mI_ne _ _ (by omega)]; exact mI_at _ _ _ _
        have p52 : mI (uI (uI (uI s5 54 (8 + z.ln) (nI (1000 + (mps z.la z.ln + r.1.2.1.length)))) 51 (8 + z.ln) 0) 52 (8 + z.ln) 0) 52 (8 + z.ln) = nI (0 / 16) := mI_at _ _ _ _
        have p53 : mI (uI (uI (uI s5 54 (8 + z.ln) (nI (1000 + (mps z.la z.ln + r.1.2.1.length)))) 51 (8 + z.ln) 0) 52 (8 + z.ln) 0) 53 (8 + z.ln) = nI (1000 + mps z.la z.ln) := by rw [mI_ne _ _ (by omega), mI_ne _ _ (by omega), mI_ne _ _ (by omega)]; exact q53d
        have p54 : mI (uI (uI (uI s5 54 (8 + z.ln) (nI (1000 + (mps z.la z.ln + r.1.2.1.length)))) 51 (8 + z.ln) 0) 52 (8 + z.ln) 0) 54 (8 + z.ln) = nI (1000 + (mps z.la z.ln + r.1.2.1.length)) := by rw [mI_ne _ _ (by omega), mI_ne _ _ (by omega)]; exact mI_at _ _ _ _
        have cd6 : HC (uI (uI (uI s5 54 (8 + z.ln) (nI (1000 + (mps z.la z.ln + r.1.2.1.length)))) 51 (8 + z.ln) 0) 52 (8 + z.ln) 0) 55 (1000 + mps z.la z.ln) r.1.2.1 := HC_cg (fun k hk => f6'.2.1 55 _ (fun g => by have g' : (51 ≤ 55 ∧ 55 ≤ 54) ∧ 1000 + mps z.la z.ln + k = 8 + z.ln := g; omega)) cd5
        refine mRs_eq (show _ = f_Mo_readsLine_h70 zl_fl (nI (8 + z.ln)) (uI (uI (uI s5 54 (8 + z.ln) (nI (1000 + (mps z.la z.ln + r.1.2.1.length)))) 51 (8 + z.ln) 0) 52 (8 + z.ln) 0) from (f_ck_of v16).trans (f_ck_of v16)) ?_
        generalize uI (uI (uI s5 54 (8 + z.ln) (nI (1000 + (mps z.la z.ln + r.1.2.1.length)))) 51 (8 + z.ln) 0) 52 (8 + z.ln) 0 = s6 at *
        have f06 : FR qA qB s s6 := f05.tr f6
        have hN := m_nms (T := T) (n := n) (e := z.e) c4 hn hnn 1001 0 _ s6 zl_fl (by omega) (by rw [zl_4096]; omega) (by decide) h6 t5 p51 p52
        have hNG := pNms_G (T := T) (n := n) hn 1001 0 _ t5 (by decide)
        have hcq : ∀ t : Sg, (∀ k, mI t 50 k = mI s6 50 k) → MC z.cst t := fun t ht k hk => (ht _).trans (hc6 k hk)
        cases hr2 : pNms (tkn T n) z.e 1001 0 (tkn T n r.2.en) with
        | error y =>
          rw [hr2] at hN
          obtain ⟨s7, e7, f7, y7, z7⟩ := hN
          exact ⟨s7, e7, f06.tr f7, z7, hcq s7 y7⟩
        | ok r2 =>
          rw [hr2] at hN hNG
          obtain ⟨k1, k2, k3⟩ := hNG
          show mRs T n s (pLinE (tkn T n) z r.1 r2) _
          unfold pLinE
          rcases hN with ⟨r0, s7, e7, f7, y7, z7⟩ | ⟨r0, s7, e7, f7, h7, w51, w52⟩
          · rw [if_pos r0]
            exact ⟨s7, e7, f06.tr f7, z7, hcq s7 y7⟩
          · rw [if_neg r0]
            refine mRs_eq e7 ?_
            have f07 : FR qA qB s s7 := f06.tr (fr_qN f7)
            have hc7 : MC z.cst s7 := hc6.f f7 (fun k => by unfold nmA nAx; omega)
            have ho7 : MO z s7 := ho6.f f7 (by unfold nmA nAx; omega) (fun k _ => by unfold nmA nAx; omega) (fun a k h1 h2 hk => by unfold nmA nAx; omega) (fun k hk => by unfold nmA nAx; omega)
            have r53 : mI s7 53 (8 + z.ln) = nI (1000 + mps z.la z.ln) := (f7.2.1 53 _ (by unfold nmA nAx; omega)).trans p53
            have r54 : mI s7 54 (8 + z.ln) = nI (1000 + (mps z.la z.ln + r.1.2.1.length)) := (f7.2.1 54 _ (by unfold nmA nAx; omega)).trans p54
            have cd7 : HC s7 55 (1000 + mps z.la z.ln) r.1.2.1 := HC_cg (fun k hk => f7.2.1 55 _ (by unfold nmA nAx; omega)) cd6
            have f8' : FR (fun a k => a = 46 ∧ k = 24) NoL s7 (uI s7 46 24 (nI (z.ln + 1))) := fr_uI s7 _ ⟨rfl, rfl⟩
            have f8 : FR qA qB s7 (uI s7 46 24 (nI (z.ln + 1))) := fr_uI s7 _ (Or.inl ⟨rfl, by omega⟩)
            have h8 := h7.f f8' (fun a k g => Or.inr g) (fun _ _ g => g)
            have z8 : ∀ a k, a ≠ 46 → mI (uI s7 46 24 (nI (z.ln + 1))) a k = mI s7 a k := fun a k g => mI_ne _ _ (fun q => g q.1)
            have hc8 : MC z.cst (uI s7 46 24 (nI (z.ln + 1))) := fun k hk => (z8 50 _ (by decide)).trans (hc7 k hk)
            have ec : mps (pud z.la z.ln r.1) (z.ln + 1) = mps z.la z.ln + r.1.2.1.length := by
              show mps (pud z.la z.ln r.1) z.ln + (pud z.la z.ln r.1 z.ln).2.1.length = _
              rw [mps_up _ (Nat.le_refl _), pud_at]
            have ho8 : MO (z.e, z.cst, z.stp, z.ln + 1, pud z.la z.ln r.1, pud z.lw z.ln r2.1) (uI s7 46 24 (nI (z.ln + 1))) := by
              obtain ⟨a1, a2, a3⟩ := ho7
              refine ⟨mI_at _ _ _ _, fun p hp => (z8 49 _ (by decide)).trans (a2 p hp), fun i hi => ?_⟩
              show mI _ 51 (8 + i) = nI (pud z.lw z.ln r2.1 i % 16) ∧ mI _ 52 (8 + i) = nI (pud z.lw z.ln r2.1 i / 16) ∧ mI _ 53 (8 + i) = nI (1000 + mps (pud z.la z.ln r.1) i) ∧ mI _ 54 (8 + i) = nI (1000 + mps (pud z.la z.ln r.1) (i + 1)) ∧ HC _ 55 (1000 + mps (pud z.la z.ln r.1) i) (pud z.la z.ln r.1 i).2.1
              have hi' : i < z.ln + 1 := hi
              rw [z8 51 _ (by decide), z8 52 _ (by decide), z8 53 _ (by decide), z8 54 _ (by decide), mps_up _ (by omega)]
              by_cases ei : i = z.ln
              · rw [ei, pud_at, pud_at, ec]
                exact ⟨w51, w52, r53, r54, HC_cg (fun k hk => z8 55 _ (by decide)) cd7⟩
              · rw [pud_ne _ _ ei, pud_ne _ _ ei, mps_up _ (by omega)]
                obtain ⟨b1, b2, b3, b4, b5⟩ := a3 i (by omega)
                exact ⟨b1, b2, b3, b4, HC_cg (fun k hk => z8 55 _ (by decide)) b5⟩
            have e24 : mI s7 46 24 = nI z.ln := ho7.1
            unfold f_Mo_readsLine_b204
            rw [f_ck_of h7.1.b, e24, nI_1]
            rcases m_ends h8 k1 with ⟨c59, s9, e9, f9, h9⟩ | ⟨c59, s9, e9, f9, z9⟩
            · rw [if_pos c59]
              have h9' : ME T n z.e (mps (pud z.la z.ln r.1) (z.ln + 1)) (tkn T n r2.2.en) s9 := by rw [ec]; exact h9
              exact ⟨s9, m_ends2 e9 (Or.inr rfl), (f07.tr f8).tr (fr_qC f9), h9', hc8.cc f9, ho8.cc f9⟩
            · rw [if_neg c59]
              exact ⟨s9, m_ends2 e9 (Or.inl rfl), (f07.tr f8).tr (fr_qE f9), z9, hc8.ee f9⟩
      · rw [if_neg (fun q => n8 ⟨q, rfl⟩)]
        refine ⟨s5, ?_, f04.tr (fr_qE f5), z5, hc4.ee f5⟩
        refine (f_bd_of (er.trans (e4.trans e5))).trans ?_
        rw [if_pos rfl]
  · have e8 : z.ln = 8 := by omega
    rw [if_pos (show nI z.ln = 8 by rw [e8]; rfl), if_neg c4]
    exact mRs_wr h (FR.rf _ _ _) hc 5
end
