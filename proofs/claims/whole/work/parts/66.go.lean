/-! ===== PURE: go, of the reference; go ===== -/
theorem le999 {x : Int32} : ((999 : Int32) ≤ x) = ¬ (x < 999) := by
  apply propext
  rw [Int32.not_lt]
theorem Om_lm {σ : St} (h : gI σ 45 17 = -4) {c : Nat} (hc : c < 36) : Om σ c = Op (lm σ) c := by
  unfold Om
  have : ∀ c, c < 36 → decide (nI c = -4) = false := by decide +kernel
  rw [h, this c hc, Bool.false_or]
theorem oi_nn {c : Nat} (h : c < 36) : ¬ oi (some c) < 0 := nI_pos (by omega)
theorem oi_n0 : oi none < 0 := by decide
theorem canGo_m {i j : Nat} {σ : St} (hL : Ldok (lm σ)) (ht : gI σ 45 17 = -4) (hi : i < 5) (hj : j < 5) : mX11_canGo (nI i) (nI j) σ = some (b2 (goF (lm σ) i j).isSome, σ) := by
  have s5 : gI σ 45 5 = ls (lm σ) 5 := lm_s (by omega)
  have s6 : gI σ 45 6 = ls (lm σ) 6 := lm_s (by omega)
  have s7 : gI σ 45 7 = ls (lm σ) 7 := lm_s (by omega)
  unfold mX11_canGo
  simp only [kl_e, s5]
  rcases hL.2.2.2.2.1 with e1 | ⟨a, ha, e1⟩
  · rw [e1, if_pos (by decide), show goF (lm σ) i j = none from by unfold goF; rw [e1, stN_none]]; rfl
  · rw [e1, if_neg (nI_pos (by omega)), s6]
    rcases hL.2.2.2.2.2.1 with e2 | ⟨b, hb, e2⟩
    · rw [e2, if_pos (by decide), show goF (lm σ) i j = none from by unfold goF; rw [e1, e2, stN_none, stN_nI ha]]; rfl
    · rw [e2, if_neg (nI_pos (by omega))]
      have hg : goF (lm σ) i j = match gone (Op (lm σ)) a i, gone (Op (lm σ)) b j with
        | some p', some q' => if ls (lm σ) 7 < 999 then some (p', q') else none
        | _, _ => none := by unfold goF; rw [e1, e2, stN_nI ha, stN_nI hb]; rfl
      simp only [s6, e2, s7, le999, goneTo_m ha hi, goneTo_m hb hj, cl2_e, gone_eq (fun j hj => Om_lm ht hj) ha hi, gone_eq (fun j hj => Om_lm ht hj) hb hj]
      rw [hg]
      by_cases c : ls (lm σ) 7 < 999
      · rw [if_neg (fun q => q c)]
        cases g1 : gone (Op (lm σ)) a i with
        | none => rw [if_pos oi_n0]; rfl
        | some p =>
          rw [if_neg (oi_nn (gone_lt ha hi g1))]
          cases g2 : gone (Op (lm σ)) b j with
          | none => rw [if_pos oi_n0]; rfl
          | some q =>
            rw [if_neg (oi_nn (gone_lt hb hj g2))]
            simp only [if_pos c]
            rfl
      · rw [if_pos c]
        cases g1 : gone (Op (lm σ)) a i with
        | none => rfl
        | some p =>
          cases g2 : gone (Op (lm σ)) b j with
          | none => rfl
          | some q => simp only [if_neg c]; rfl
theorem goBoth_m {i j p q : Nat} {σ : St} (hL : Ldok (lm σ)) (ht : gI σ 45 17 = -4) (hi : i < 5) (hj : j < 5) (hg : goF (lm σ) i j = some (p, q)) : ∃ τ, mX11_goBoth (nI i) (nI j) σ = some τ ∧ lm τ = gdL (lm σ) p q ∧ Fm σ τ := by
  have s5 : gI σ 45 5 = ls (lm σ) 5 := lm_s (by omega)
  have s6 : gI σ 45 6 = ls (lm σ) 6 := lm_s (by omega)
  obtain ⟨hp, hq⟩ := goF_lt hL hi hj hg
  rcases hL.2.2.2.2.1 with e1 | ⟨a, ha, e1⟩
  · unfold goF at hg; rw [e1, stN_none] at hg; cases hg
  rcases hL.2.2.2.2.2.1 with e2 | ⟨b, hb, e2⟩
  · unfold goF at hg; rw [e1, e2, stN_none, stN_nI ha] at hg; cases hg
  have hg' : (match gone (Op (lm σ)) a i, gone (Op (lm σ)) b j with
    | some p', some q' => if ls (lm σ) 7 < 999 then some (p', q') else none
    | _, _ => none) = some (p, q) := by rw [← hg]; unfold goF; rw [e1, e2, stN_nI ha, stN_nI hb]; rfl
  have g1 : gone (Op (lm σ)) a i = some p := by
    cases c1 : gone (Op (lm σ)) a i with
    | none => rw [c1] at hg'; cases hg'
    | some p' =>
      cases c2 : gone (Op (lm σ)) b j with
      | none => rw [c1, c2] at hg'; cases hg'
      | some q' =>
        rw [c1, c2] at hg'
        simp only at hg'
        by_cases c : ls (lm σ) 7 < 999
        · rw [if_pos c] at hg'; cases hg'; rfl
        · rw [if_neg c] at hg'; cases hg'
  have g2 : gone (Op (lm σ)) b j = some q := by
    cases c2 : gone (Op (lm σ)) b j with
    | none => rw [g1, c2] at hg'; cases hg'
    | some q' =>
      rw [g1, c2] at hg'
      simp only at hg'
      by_cases c : ls (lm σ) 7 < 999
      · rw [if_pos c] at hg'; cases hg'; rfl
      · rw [if_neg c] at hg'; cases hg'
  unfold mX11_goBoth mX11_goBoth_57 mX11_goBoth_90
  simp only [kl_e, s5, s6, e1, e2, goneTo_m ha hi, goneTo_m hb hj, cl2_e, gone_eq (fun j hj => Om_lm ht hj) ha hi, gone_eq (fun j hj => Om_lm ht hj) hb hj, g1, g2, oi]
  have f2 : lm (pI (pI σ 45 6 (nI q)) 45 5 (nI p)) = up (up (lm σ) 6 (nI q)) 5 (nI p) := by rw [lm_pI (by omega), lm_pI (by omega)]
  have F2 : Fm σ (pI (pI σ 45 6 (nI q)) 45 5 (nI p)) := Fx_pI ⟨rfl, by omega⟩ (Fx_pI ⟨rfl, by omega⟩ Fx_rfl)
  have e5 : gI (pI (pI σ 45 6 (nI q)) 45 5 (nI p)) 45 5 = nI p := by rw [gI_pI, if_pos ⟨rfl, rfl⟩]
  have e6 : gI (pI (pI σ 45 6 (nI q)) 45 5 (nI p)) 45 6 = nI q := by rw [gI_pI, if_neg (by omega), gI_pI, if_pos ⟨rfl, rfl⟩]
  have ek : ∀ k, 2 ≤ k ∧ k < 10 → k ≠ 5 → k ≠ 6 → gI (pI (pI σ 45 6 (nI q)) 45 5 (nI p)) 45 k = ls (lm σ) k := fun k hk h5 h6 => by rw [gI_pI, if_neg (by omega), gI_pI, if_neg (by omega), lm_s hk]
  simp only [e5, e6, far_m hp hq, cl2_e, f2, Fr_up, ek 3 (by omega) (by omega) (by omega), ek 8 (by omega) (by omega) (by omega)]
  generalize hS : pI (pI σ 45 6 (nI q)) 45 5 (nI p) = S at *
  have y : ∀ v, gI (pI S 45 8 v) 45 5 = nI p ∧ gI (pI S 45 8 v) 45 6 = nI q ∧ gI (pI S 45 8 v) 45 9 = ls (lm σ) 9 ∧ gI (pI S 45 8 v) 45 4 = ls (lm σ) 4 ∧ lm (pI S 45 8 v) = up (up (up (lm σ) 6 (nI q)) 5 (nI p)) 8 v := fun v => by
    refine ⟨by rw [gI_pI, if_neg (by omega), e5], by rw [gI_pI, if_neg (by omega), e6], by rw [gI_pI, if_neg (by omega), ek 9 (by omega) (by omega) (by omega)], by rw [gI_pI, if_neg (by omega), ek 4 (by omega) (by omega) (by omega)], by rw [lm_pI (by omega), f2]⟩
  have z : ∀ v w, gI (pI (pI S 45 8 v) 45 9 w) 45 7 = ls (lm σ) 7 := fun v w => by rw [gI_pI, if_neg (by omega), gI_pI, if_neg (by omega), ek 7 (by omega) (by omega) (by omega)]
  have fin : ∀ v w, v = ls (lm σ) 8 + (if Fr (lm σ) p q < ls (lm σ) 3 then 1 else 0) → w = ls (lm σ) 9 + (if ls (lm σ) 4 < Fr (lm σ) p q then 1 else 0) → lm (pI (pI (pI S 45 8 v) 45 9 w) 45 7 (ls (lm σ) 7 + 1)) = gdL (lm σ) p q ∧ Fm σ (pI (pI (pI S 45 8 v) 45 9 w) 45 7 (ls (lm σ) 7 + 1)) := by
    intro v w hv hw
    refine ⟨?_, Fx_pI ⟨rfl, by omega⟩ (Fx_pI ⟨rfl, by omega⟩ (Fx_pI ⟨rfl, by omega⟩ F2))⟩
    rw [lm_pI (by omega), lm_pI (by omega), lm_pI (by omega), f2, hv, hw]
    refine Prod.ext rfl (Prod.ext rfl (funext fun k => ?_))
    simp only [up, ls, gdL]
    by_cases k5 : k = 5 <;> by_cases k6 : k = 6 <;> by_cases k7 : k = 7 <;> by_cases k8 : k = 8 <;> by_cases k9 : k = 9 <;> simp_all
  by_cases c1 : Fr (lm σ) p q < ls (lm σ) 3
  · rw [if_neg (Int32.not_le.2 c1)]
    simp only [(y _).1, (y _).2.1, (y _).2.2.1, (y _).2.2.2.1, (y _).2.2.2.2, far_m hp hq, cl2_e, Fr_up]
    by_cases c2 : ls (lm σ) 4 < Fr (lm σ) p q
    · rw [if_neg (Int32.not_le.2 c2), z]
      exact ⟨_, rfl, fin _ _ (by rw [if_pos c1]) (by rw [if_pos c2])⟩
    · rw [if_pos (Int32.not_lt.1 c2), z]
      exact ⟨_, rfl, fin _ _ (by rw [if_pos c1]) (by rw [if_neg c2])⟩
  · rw [if_pos (Int32.not_lt.1 c1)]
    simp only [(y _).1, (y _).2.1, (y _).2.2.1, (y _).2.2.2.1, (y _).2.2.2.2, far_m hp hq, cl2_e, Fr_up]
    by_cases c2 : ls (lm σ) 4 < Fr (lm σ) p q
    · rw [if_neg (Int32.not_le.2 c2), z]
      exact ⟨_, rfl, fin _ _ (by rw [if_neg c1]) (by rw [if_pos c2])⟩
    · rw [if_pos (Int32.not_lt.1 c2), z]
      exact ⟨_, rfl, fin _ _ (by rw [if_neg c1]) (by rw [if_neg c2])⟩
theorem Ldok_gd {L : Ld} (hL : Ldok L) {i j p q : Nat} (hi : i < 5) (hj : j < 5) (hg : goF L i j = some (p, q)) : Ldok (gdL L p q) := by
  obtain ⟨hp, hq⟩ := goF_lt hL hi hj hg
  have h7 : ls L 7 < 999 := by
    rcases hL.2.2.2.2.1 with e1 | ⟨a, ha, e1⟩
    · unfold goF at hg; rw [e1, stN_none] at hg; cases hg
    rcases hL.2.2.2.2.2.1 with e2 | ⟨b, hb, e2⟩
    · unfold goF at hg; rw [e1, e2, stN_none, stN_nI ha] at hg; cases hg
    unfold goF at hg
    rw [e1, e2, stN_nI ha, stN_nI hb] at hg
    simp only at hg
    by_cases c : ls L 7 < 999
    · exact c
    · simp only [if_neg c] at hg
      cases c1 : gone (Op L) a i with
      | none => rw [c1] at hg; cases hg
      | some p' =>
        cases c2 : gone (Op L) b j with
        | none => rw [c1, c2] at hg; cases hg
        | some q' => rw [c1, c2] at hg; cases hg
  refine ⟨hL.1, hL.2.1, hL.2.2.1, hL.2.2.2.1, Or.inr ⟨p, hp, rfl⟩, Or.inr ⟨q, hq, rfl⟩, ?_⟩
  obtain ⟨n, hn, e⟩ := hL.2.2.2.2.2.2
  refine ⟨n + 1, ?_, ?_⟩
  · rw [e] at h7
    have := (nI_ltI (a := n) (b := 999) (by omega) (by omega)).1 h7
    omega
  · show ls L 7 + 1 = _
    rw [e, nI_1]
theorem s_go : stp232 Inv mX10_go mX11_go := by
  intro σ a b hI
  have j4 : ∀ (x : Int32) τ, mX11_in x.toInt64 (0 : Int64) (4 : Int64) τ = some (b2 (inR x 0 4), τ) := fun x τ => in_m x 0 4 τ
  rcases inR_or a 4 (by omega) with ⟨h, _⟩ | ⟨i, hi, rfl, h⟩
  · have h' : inR a 0 4 = false := h
    refine ag (f := mX10_go a b) (g := mX11_go a b) (v := -1) (ρ := σ) (τ := pI σ 45 16 0) ?_ ?_ c16 hI
    · unfold mX10_go
      simp only [way_c, h', b2_f, cl2_e, ite_true]
    · unfold mX11_go
      simp only [j4, h', b2_f, cl2_e, kl_e, ite_true]
  have h' : inR (nI i) 0 4 = true := h
  rcases inR_or b 4 (by omega) with ⟨g, _⟩ | ⟨j, hj, rfl, g⟩
  · have g' : inR b 0 4 = false := g
    refine ag (f := mX10_go (nI i) b) (g := mX11_go (nI i) b) (v := -1) (ρ := σ) (τ := pI σ 45 16 0) ?_ ?_ c16 hI
    · unfold mX10_go
      simp only [way_c, h', b2_t, if_neg n10, g', b2_f, cl2_e, ite_true]
    · unfold mX11_go
      simp only [j4, h', b2_t, if_neg n10, g', b2_f, cl2_e, kl_e, ite_true]
  have g' : inR (nI j) 0 4 = true := g
  rcases goDay_c (o := 1) (σ := σ) (i := i) (j := j) hI.2.1 (by omega) (by omega) with ⟨e1, e2⟩ | ⟨p, q, τ, e1, hp, hq, e2, e3, e4⟩
  · refine ag (f := mX10_go (nI i) (nI j)) (g := mX11_go (nI i) (nI j)) (v := -3) (ρ := σ) (τ := pI σ 45 16 0) ?_ ?_ c16 hI
    · unfold mX10_go
      simp only [way_c, h', g', b2_t, if_neg n10, cl2_e, e2, ite_true]
    · unfold mX11_go
      simp only [j4, h', g', b2_t, if_neg n10, cl2_e, kl_e]
      rw [canGo_m (by rw [lm_16, ← hI.1]; exact hI.2.1) (by rw [gI_pI, if_neg (by omega)]; exact hI.2.2.1) (by omega) (by omega), lm_16, ← hI.1, e1]
      rfl
  · have M0 : lm (pI τ 45 16 0) = ld σ 1 := by rw [lm_16, lm_Fo e4 (by omega), ← hI.1]
    have T0 : gI (pI τ 45 16 0) 45 17 = -4 := by rw [gI_pI, if_neg (by omega), Fx_I e4 (by omega), hI.2.2.1]
    obtain ⟨ρ, r1, r2, r3⟩ := goBoth_m (σ := pI τ 45 16 0) (i := i) (j := j) (p := p) (q := q) (by rw [M0]; exact hI.2.1) T0 (by omega) (by omega) (by rw [M0]; exact e1)
    rw [M0] at r2
    have r3' : Fm τ ρ := Fx_tr (Fx_pI ⟨rfl, by omega⟩ Fx_rfl) r3
    refine ⟨Fr (ld σ 1) p q, τ, ρ, ?_, ?_, ?_⟩
    · unfold mX10_go
      simp only [way_c, h', g', b2_t, if_neg n10, cl2_e, e2, kl_e]
      rw [show gI τ 1 5 = nI p from by rw [ld_s (by omega), e3]; rfl, show gI τ 1 6 = nI q from by rw [ld_s (by omega), e3]; rfl, far_c hp hq, e3]
      rfl
    · unfold mX11_go
      simp only [j4, h', g', b2_t, if_neg n10, cl2_e, kl_e]
      rw [canGo_m (by rw [M0]; exact hI.2.1) T0 (by omega) (by omega), M0, e1]
      simp only [Option.isSome, b2_t, cl2_e, if_neg n10, r1, cl1_e]
      rw [show gI ρ 45 5 = nI p from by rw [lm_s (by omega), r2]; rfl, show gI ρ 45 6 = nI q from by rw [lm_s (by omega), r2]; rfl, far_m hp hq, r2]
      rfl
    · refine Inv_land hI (Rs_tr (Rs_Fo e4) (Rs_Fm r3')) ?_ ?_
      · rw [ld_Fm r3' (by omega), e3, r2]
      · rw [ld_Fm r3' (by omega), e3]
        exact Ldok_gd hI.2.1 (by omega) (by omega) e1
