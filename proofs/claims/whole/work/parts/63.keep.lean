/-! ===== PURE: keep ===== -/
theorem kind_c (a : Int32) (σ : St) : mX2_isKind a σ = some (b2 (inR a 0 7), σ) := by
  unfold mX2_isKind inR
  by_cases h : a < 0
  · rw [if_pos h]; simp [Int32.not_le.2 h, b2, rz_0]
  · rw [if_neg h]
    by_cases h2 : 7 < a
    · rw [if_pos h2]; simp [Int32.not_le.2 h2, b2, rz_0]
    · rw [if_neg h2]; simp [Int32.not_lt.1 h, Int32.not_lt.1 h2, b2, rz_1]
theorem s_keep : ∀ (σ : St) (a b c e : Int32), Inv σ → ∃ (v : Int32) (σ1 σ2 : St), mX10_keep a b c e σ = some (v, σ1) ∧ mX11_keep a b c e σ1 = some (v, σ2) ∧ Inv σ2 := by
  intro σ a b c e hI
  have j1 : ∀ τ, mX11_in b.toInt64 (0 : Int64) (1 : Int64) τ = some (b2 (inR b 0 1), τ) := fun τ => in_m b 0 1 τ
  have j9 : ∀ τ, mX11_in e.toInt64 (0 : Int64) (9 : Int64) τ = some (b2 (inR e 0 9), τ) := fun τ => in_m e 0 9 τ
  rcases shelf_or a with h | ⟨d, hd, rfl, h⟩
  · refine ag (f := mX10_keep a b c e) (g := mX11_keep a b c e) (v := -1) (ρ := σ) (τ := pI σ 45 16 0) ?_ ?_ c16 hI
    · unfold mX10_keep
      simp only [shelf_c, h, b2_f, cl2_e, ite_true]
    · unfold mX11_keep
      simp only [in7_m, h, b2_f, cl2_e, kl_e, ite_true]
  rcases either_or b with hb | ⟨rfl, hb⟩ | ⟨rfl, hb⟩
  · refine ag (f := mX10_keep (nI d) b c e) (g := mX11_keep (nI d) b c e) (v := -1) (ρ := σ) (τ := pI σ 45 16 0) ?_ ?_ c16 hI
    · unfold mX10_keep
      simp only [shelf_c, h, b2_t, cl2_e, if_neg n10, either_c, hb, b2_f, ite_true]
    · unfold mX11_keep
      simp only [in7_m, h, b2_t, cl2_e, kl_e, if_neg n10, j1, hb, b2_f, ite_true]
  · refine ⟨0, pI σ (10 + d) 0 0, pA (pA (pA (pI (pI σ (10 + d) 0 0) 45 16 0) 48 d 0) 49 d 0) 50 d 0, ?_, ?_, ?_⟩
    · unfold mX10_keep
      simp only [shelf_c, h, b2_t, cl2_e, if_neg n10, either_c, hb, ite_true, shelfAt_c hd, kl_e]
    · unfold mX11_keep mX11_keep_59 mX11_keep_81 mX11_keep_98
      simp only [in7_m, h, b2_t, cl2_e, kl_e, if_neg n10, j1, hb, if_neg (show ¬ (0 : Int32) = 1 from by decide), stA_8 hd]
    · refine Inv_shelf hd hI (Re_pA (by omega) (Re_pA (by omega) (Re_pA (by omega) (Re_pI (Or.inr rfl) (Re_pI (Or.inl rfl) Re_rfl))))) ?_
      have g0 : gI (pA (pA (pA (pI (pI σ (10 + d) 0 0) 45 16 0) 48 d 0) 49 d 0) 50 d 0) (10 + d) 0 = 0 := by
        rw [gI_pA, gI_pA, gI_pA, gI_pI, if_neg (by omega), gI_pI, if_pos ⟨rfl, rfl⟩]
      have g1 : gA (pA (pA (pA (pI (pI σ (10 + d) 0 0) 45 16 0) 48 d 0) 49 d 0) 50 d 0) 48 d = 0 := by
        rw [gA_pA_ne (by omega), gA_pA_ne (by omega), gA_pA_eq]
      exact ⟨by rw [g0, g1], Or.inl g0⟩
  · have z : ¬ (1 : Int32) = 0 := by decide
    rcases shelf_or c with hc | ⟨k, hk, rfl, hc⟩
    · refine ag (f := mX10_keep (nI d) 1 c e) (g := mX11_keep (nI d) 1 c e) (v := -1) (ρ := σ) (τ := pI σ 45 16 0) ?_ ?_ c16 hI
      · unfold mX10_keep
        simp only [shelf_c, h, b2_t, cl2_e, if_neg n10, either_c, hb, kind_c, hc, b2_f, ite_true]
      · unfold mX11_keep
        simp only [in7_m, h, b2_t, cl2_e, kl_e, if_neg n10, j1, hb, hc, b2_f, ite_true]
    · rcases inR_or e 9 (by omega) with ⟨he, hn⟩ | ⟨f, hf, rfl, he⟩
      · have he' : inR e 0 9 = false := he
        refine ag (f := mX10_keep (nI d) 1 (nI k) e) (g := mX11_keep (nI d) 1 (nI k) e) (v := -1) (ρ := σ) (τ := pI σ 45 16 0) ?_ ?_ c16 hI
        · unfold mX10_keep
          simp only [shelf_c, h, b2_t, cl2_e, if_neg n10, either_c, hb, kind_c, hc]
          by_cases q : e < 0
          · rw [if_pos q]
          · rw [if_neg q, if_neg]
            intro q2
            unfold inR at he'
            rw [decide_eq_true (Int32.not_lt.1 q), decide_eq_true q2] at he'
            cases he'
        · unfold mX11_keep
          simp only [in7_m, h, b2_t, cl2_e, kl_e, if_neg n10, j1, hb, hc, j9, he', b2_f, ite_true]
      · have he' : inR (nI f) 0 9 = true := he
        refine ⟨0, pI (pI (pI σ (10 + d) 0 1) (10 + d) 1 (nI k)) (10 + d) 2 (nI f), pA (pA (pA (pI (pI (pI (pI σ (10 + d) 0 1) (10 + d) 1 (nI k)) (10 + d) 2 (nI f)) 45 16 0) 48 d 1) 49 d (nI k)) 50 d (nI f), ?_, ?_, ?_⟩
        · unfold mX10_keep mX5_takeGround
          simp only [shelf_c, h, b2_t, cl2_e, if_neg n10, either_c, hb, kind_c, hc, shelfAt_c hd, kl_e, cl1_e]
          rw [if_neg (nI_pos (by omega)), if_pos (show nI f ≤ (9 : Int32) from nI_le (b := 9) (by omega) (by omega))]
        · unfold mX11_keep mX11_keep_59 mX11_keep_81 mX11_keep_98
          simp only [in7_m, h, b2_t, cl2_e, kl_e, if_neg n10, j1, hb, hc, j9, he', ite_true, stA_8 hd]
        · refine Inv_shelf hd hI (Re_pA (by omega) (Re_pA (by omega) (Re_pA (by omega) (Re_pI (Or.inr rfl) (Re_pI (Or.inl rfl) (Re_pI (Or.inl rfl) (Re_pI (Or.inl rfl) Re_rfl))))))) ?_
          have g : ∀ j, gI (pA (pA (pA (pI (pI (pI (pI σ (10 + d) 0 1) (10 + d) 1 (nI k)) (10 + d) 2 (nI f)) 45 16 0) 48 d 1) 49 d (nI k)) 50 d (nI f)) (10 + d) j = if j = 2 then nI f else if j = 1 then nI k else if j = 0 then 1 else gI σ (10 + d) j := by
            intro j
            rw [gI_pA, gI_pA, gI_pA, gI_pI, if_neg (by omega), gI_pI, gI_pI, gI_pI]
            simp only [true_and]
          have r0 : gA (pA (pA (pA (pI (pI (pI (pI σ (10 + d) 0 1) (10 + d) 1 (nI k)) (10 + d) 2 (nI f)) 45 16 0) 48 d 1) 49 d (nI k)) 50 d (nI f)) 48 d = 1 := by
            rw [gA_pA_ne (by omega), gA_pA_ne (by omega), gA_pA_eq]
          have r1 : gA (pA (pA (pA (pI (pI (pI (pI σ (10 + d) 0 1) (10 + d) 1 (nI k)) (10 + d) 2 (nI f)) 45 16 0) 48 d 1) 49 d (nI k)) 50 d (nI f)) 49 d = nI k := by
            rw [gA_pA_ne (by omega), gA_pA_eq]
          have r2 : gA (pA (pA (pA (pI (pI (pI (pI σ (10 + d) 0 1) (10 + d) 1 (nI k)) (10 + d) 2 (nI f)) 45 16 0) 48 d 1) 49 d (nI k)) 50 d (nI f)) 50 d = nI f := gA_pA_eq
          exact ⟨by rw [g, r0]; rfl, Or.inr (Or.inl ⟨by rw [g]; rfl, k, f, hk, by omega, by rw [g]; rfl, r1, by rw [g]; rfl, r2⟩)⟩
