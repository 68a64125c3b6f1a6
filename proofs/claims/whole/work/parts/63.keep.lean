/-! ===== PURE: keep ===== -/
theorem kind_c (a : Int32) (σ : St) : mX2_isKind a σ = some (b2 (inR a 0 7), σ) := by
  unfold mX2_isKind inR
  by_cases h : a < 0
  · rw [if_pos h]; simp [Int32.not_le.2 h, b2, rz_0]
  · rw [if_neg h]
    by_cases h2 : 7 < a
    · rw [if_pos h2]; simp [Int32.not_le.2 h2, b2, rz_0]
    · rw [if_neg h2]; simp [Int32.not_lt.1 h, Int32.not_lt.1 h2, b2, rz_1]
theorem s_keep : ∀ (σ : St) (a b c e : Int32), Inv σ → ∃ (v : Int32) (σ1 σ2 : St), mX10_keep a b c e σ = some (v, σ1) ∧ mX11_keep a b c e σ1 = some (v, σ2) ∧ Inv σ2 := by
  intro σ a b c e hI
  have j1 : ∀ τ, mX11_in b.toInt64 (0 : Int64) (1 : Int64) τ = some (b2 (inR b 0 1), τ) := fun τ => in_m b 0 1 τ
  have j9 : ∀ τ, mX11_in e.toInt64 (0 : Int64) (9 : Int64) τ = some (b2 (inR e 0 9), τ) := fun τ => in_m e 0 9 τ
  rcases shelf_or a with h | ⟨d, hd, rfl, h⟩
  · refine ag (f := mX10_keep a b c e) (g := mX11_keep a b c e) (v := -1) (ρ := σ) (τ := pI σ 45 16 0) ?_ ?_ c16 hI
    · unfold mX10_keep
      simp only [shelf_c, h, b2_f, cl2_e, ite_true]
    · unfold mX11_keep
      simp only [in7_m, h, b2_f, cl2_e, kl_e, ite_true]
  rcases either_or b with hb | ⟨rfl, hb⟩ | ⟨rfl, hb⟩
  · refine ag (f := mX10_keep (nI d) b c e) (g := mX11_keep (nI d) b c e) (v := -1) (ρ := σ) (τ := pI σ 45 16 0) ?_ ?_ c16 hI
    · unfold mX10_keep
      simp only [shelf_c, h, b2_t, cl2_e, if_neg n10, either_c, hb, b2_f, ite_true]
    · unfold mX11_keep
      simp only [in7_m, h, b2_t, cl2_e, kl_e, if_neg n10, j1, hb, b2_f, ite_true]
  · refine ⟨0, pI σ (10 + d) 0 0, pA (pA (pA (pI (pI σ (10 + d) 0 0) 45 16 0) 48 d 0) 49 d 0) 50 d 0, ?_, ?_, ?_⟩
    · unfold mX10_keep
      simp only [shelf_c, h, b2_t, cl2_e, if_neg n10, either_c, hb, ite_true, shelfAt_c hd, kl_e]
    · unfold mX11_keep mX11_keep_59 mX11_keep_81 mX11_keep_98
      simp only [in7_m, h, b2_t, cl2_e, kl_e, if_neg n10, j1, hb, if_neg (show ¬ (0 : Int32) = 1 from by decide), stA_8 hd]
    · refine Inv_shelf hd hI (Re_pA (by omega) (Re_pA (by omega) (Re_pA (by omega) (Re_pI (Or.inr rfl) (Re_pI (Or.inl rfl) Re_rfl))))) ?_
      have g0 : gI (pA (pA (pA (pI (pI σ (10 + d) 0 0) 45 16 0) 48 d 0) 49 d 0) 50 d 0) (10 + d) 0 = 0 := by
        rw [gI_pA, gI_pA, gI_pA, gI_pI, if_neg (by omega), gI_pI, if_pos ⟨rfl, rfl⟩]
      have g1 : gA (pA (pA (pA (pI (pI σ (10 + d) 0 0) 45 16 0) 48 d 0) 49 d 0) 50 d 0) 48 d = 0 := by
        rw [gA_pA_ne (by omega), gA_pA_ne (by omega), gA_pA_eq]
      exact ⟨by rw [g0, g1], Or.inl g0⟩
  · sorry
