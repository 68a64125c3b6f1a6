/-! ===== PURE: set ===== -/
theorem Ldok_2 {L : Ld} {c : Nat} (h : Ldok L) (hc : c < 2) : Ldok (up L 2 (nI c)) :=
  ⟨h.1, ⟨c, hc, rfl⟩, h.2.2.1, h.2.2.2.1, h.2.2.2.2.1, h.2.2.2.2.2.1, h.2.2.2.2.2.2⟩
theorem Ldok_3 {L : Ld} {c : Nat} (h : Ldok L) (hc : c ≤ 20) : Ldok (up L 3 (nI c)) :=
  ⟨h.1, h.2.1, ⟨c, hc, rfl⟩, h.2.2.2.1, h.2.2.2.2.1, h.2.2.2.2.2.1, h.2.2.2.2.2.2⟩
theorem Ldok_4 {L : Ld} {c : Nat} (h : Ldok L) (hc : c ≤ 20) : Ldok (up L 4 (nI c)) :=
  ⟨h.1, h.2.1, h.2.2.1, ⟨c, hc, rfl⟩, h.2.2.2.2.1, h.2.2.2.2.2.1, h.2.2.2.2.2.2⟩
theorem s_set : stp232 Inv mX10_set mX11_set := by
  intro σ a b hI
  have hm : ∀ k, 2 ≤ k ∧ k < 10 → gI σ 45 k = gI σ 1 k := fun k hk => by rw [lm_s hk, ← hI.1, ← ld_s hk]
  have i2 : ∀ τ, mX11_in a.toInt64 (0 : Int64) (2 : Int64) τ = some (b2 (inR a 0 2), τ) := fun τ => in_m a 0 2 τ
  have j1 : ∀ τ, mX11_in b.toInt64 (0 : Int64) (1 : Int64) τ = some (b2 (inR b 0 1), τ) := fun τ => in_m b 0 1 τ
  have j20 : ∀ τ, mX11_in b.toInt64 (0 : Int64) (20 : Int64) τ = some (b2 (inR b 0 20), τ) := fun τ => in_m b 0 20 τ
  rcases inR_or a 2 (by omega) with ⟨h, hn⟩ | ⟨j, hj, rfl, h⟩
  · have h0 : ¬ a = 0 := hn 0 (by omega)
    have h1 : ¬ a = 1 := hn 1 (by omega)
    have h2 : ¬ a = 2 := hn 2 (by omega)
    refine ag (f := mX10_set a b) (g := mX11_set a b) (v := -1) (ρ := σ) (τ := pI σ 45 16 0) ?_ ?_ c16 hI
    · unfold mX10_set mX10_set_30 mX10_set_61 mX10_set_92
      simp only [kl_e, if_neg h0, if_neg h1, if_neg h2]
    · unfold mX11_set
      have h' : inR a 0 2 = false := h
      simp only [kl_e, i2, h', b2_f, cl2_e, ite_true]
  have hd : j = 0 ∨ j = 1 ∨ j = 2 := by omega
  rcases hd with rfl | rfl | rfl
  · have h' : inR 0 0 2 = true := h
    rcases inR_or b 20 (by omega) with ⟨hb, _⟩ | ⟨n, hn, rfl, hb⟩
    · have hb' : inR b 0 20 = false := hb
      refine ag (f := mX10_set (nI 0) b) (g := mX11_set (nI 0) b) (v := -1) (ρ := σ) (τ := pI σ 45 16 0) ?_ ?_ c16 hI
      · unfold mX10_set mX10_set_30 mX10_set_61 mX10_set_92
        simp only [kl_e, nI_0, ite_true, dist_c, hb', b2_f, cl2_e]
        rfl
      · unfold mX11_set mX11_set_32
        simp only [nI_0] at i2
        simp only [kl_e, nI_0, i2, h', b2_t, cl2_e, if_neg n10, j20, hb', b2_f, ite_true]
        rfl
    · have hb' : inR (nI n) 0 20 = true := hb
      refine ⟨gI σ 1 3, pI σ 1 3 (nI n), pI (pI (pI (pI (pI σ 1 3 (nI n)) 45 16 0) 45 3 (nI n)) 45 4 (gI (pI (pI (pI σ 1 3 (nI n)) 45 16 0) 45 3 (nI n)) 45 4)) 45 2 (gI (pI (pI (pI (pI σ 1 3 (nI n)) 45 16 0) 45 3 (nI n)) 45 4 (gI (pI (pI (pI σ 1 3 (nI n)) 45 16 0) 45 3 (nI n)) 45 4)) 45 2), ?_, ?_, ?_⟩
      · unfold mX10_set mX10_set_30
        simp only [kl_e, nI_0, ite_true, dist_c, hb', b2_t, cl2_e, if_neg n10]
      · unfold mX11_set mX11_set_32 mX11_set_67 mX11_set_81 mX11_set_98 mX11_set_115
        simp only [nI_0] at i2
        simp only [kl_e, nI_0, i2, h', b2_t, cl2_e, if_neg n10, if_neg (show ¬ (0 : Int32) = 2 from by decide), if_neg (show ¬ (0 : Int32) = 1 from by decide), j20, hb', ite_true]
        rw [show gI (pI (pI σ 1 3 (nI n)) 45 16 0) 45 3 = gI σ 1 3 from by rw [gI_pI, if_neg (by decide), gI_pI, if_neg (by decide), hm 3 (by omega)]]
      · refine Inv_up (k := 3) (v := nI n) (by omega) hI ?_ ?_ (Rs_pI rfl (Rs_pI rfl (Rs_pI rfl (Rs_pI rfl (Rs_pI rfl Rs_rfl))))) (Ldok_3 hI.2.1 (by omega))
        · rw [ld_pI_ne (by decide), ld_pI_ne (by decide), ld_pI_ne (by decide), ld_pI_ne (by decide), ld_pI (by omega)]
        · rw [lm_pI (by omega), up_self (lm_s (by omega)).symm, lm_pI (by omega), up_self (lm_s (by omega)).symm, lm_pI (by omega), lm_pI_ne (by omega), lm_pI_ne (by omega)]
  · have h' : inR 1 0 2 = true := h
    rcases inR_or b 20 (by omega) with ⟨hb, _⟩ | ⟨n, hn, rfl, hb⟩
    · have hb' : inR b 0 20 = false := hb
      refine ag (f := mX10_set (nI 1) b) (g := mX11_set (nI 1) b) (v := -1) (ρ := σ) (τ := pI σ 45 16 0) ?_ ?_ c16 hI
      · unfold mX10_set mX10_set_30 mX10_set_61 mX10_set_92
        simp only [kl_e, show nI 1 = 1 from rfl, if_neg n10, ite_true, dist_c, hb', b2_f, cl2_e]
        rfl
      · unfold mX11_set mX11_set_32
        simp only [show nI 1 = 1 from rfl] at i2
        simp only [kl_e, show nI 1 = 1 from rfl, i2, h', b2_t, cl2_e, if_neg n10, j20, hb', b2_f, ite_true]
        rfl
    · have hb' : inR (nI n) 0 20 = true := hb
      refine ⟨gI σ 1 4, pI σ 1 4 (nI n), pI (pI (pI (pI (pI σ 1 4 (nI n)) 45 16 0) 45 3 (gI (pI (pI σ 1 4 (nI n)) 45 16 0) 45 3)) 45 4 (nI n)) 45 2 (gI (pI (pI (pI (pI σ 1 4 (nI n)) 45 16 0) 45 3 (gI (pI (pI σ 1 4 (nI n)) 45 16 0) 45 3)) 45 4 (nI n)) 45 2), ?_, ?_, ?_⟩
      · unfold mX10_set mX10_set_30
        simp only [kl_e, show nI 1 = 1 from rfl, ite_true, dist_c, hb', b2_t, cl2_e, if_neg n10]
      · unfold mX11_set mX11_set_32 mX11_set_67 mX11_set_81 mX11_set_98 mX11_set_115
        simp only [show nI 1 = 1 from rfl] at i2
        simp only [kl_e, show nI 1 = 1 from rfl, i2, h', b2_t, cl2_e, if_neg n10, if_neg (show ¬ (1 : Int32) = 2 from by decide), j20, hb', ite_true]
        rw [show gI (pI (pI σ 1 4 (nI n)) 45 16 0) 45 4 = gI σ 1 4 from by rw [gI_pI, if_neg (by decide), gI_pI, if_neg (by decide), hm 4 (by omega)]]
      · refine Inv_up (k := 4) (v := nI n) (by omega) hI ?_ ?_ (Rs_pI rfl (Rs_pI rfl (Rs_pI rfl (Rs_pI rfl (Rs_pI rfl Rs_rfl))))) (Ldok_4 hI.2.1 (by omega))
        · rw [ld_pI_ne (by decide), ld_pI_ne (by decide), ld_pI_ne (by decide), ld_pI_ne (by decide), ld_pI (by omega)]
        · rw [lm_pI (by omega), up_self (lm_s (by omega)).symm, lm_pI (by omega), lm_pI (by omega), up_self (lm_s (by omega)).symm, lm_pI_ne (by omega), lm_pI_ne (by omega)]
  · have h' : inR 2 0 2 = true := h
    have e2 : nI 2 = 2 := rfl
    have z1 : ¬ (2 : Int32) = 0 := by decide
    have z2 : ¬ (2 : Int32) = 1 := by decide
    rcases inR_or b 1 (by omega) with ⟨hb, _⟩ | ⟨n, hn, rfl, hb⟩
    · have hb' : inR b 0 1 = false := hb
      refine ag (f := mX10_set (nI 2) b) (g := mX11_set (nI 2) b) (v := -1) (ρ := σ) (τ := pI σ 45 16 0) ?_ ?_ c16 hI
      · unfold mX10_set mX10_set_30 mX10_set_61 mX10_set_92
        simp only [kl_e, e2, if_neg z1, if_neg z2, ite_true, either_c, hb', b2_f, cl2_e]
      · unfold mX11_set mX11_set_32
        simp only [e2] at i2
        simp only [kl_e, e2, i2, h', b2_t, cl2_e, if_neg n10, j1, hb', b2_f, ite_true]
    · have hb' : inR (nI n) 0 1 = true := hb
      refine ⟨gI σ 1 2, pI σ 1 2 (nI n), pI (pI (pI (pI (pI σ 1 2 (nI n)) 45 16 0) 45 3 (gI (pI (pI σ 1 2 (nI n)) 45 16 0) 45 3)) 45 4 (gI (pI (pI (pI σ 1 2 (nI n)) 45 16 0) 45 3 (gI (pI (pI σ 1 2 (nI n)) 45 16 0) 45 3)) 45 4)) 45 2 (nI n), ?_, ?_, ?_⟩
      · unfold mX10_set mX10_set_30 mX10_set_61
        simp only [kl_e, e2, if_neg z1, if_neg z2, ite_true, either_c, hb', b2_t, cl2_e, if_neg n10]
      · unfold mX11_set mX11_set_32 mX11_set_67 mX11_set_81 mX11_set_98 mX11_set_115
        simp only [e2] at i2
        simp only [kl_e, e2, i2, h', b2_t, cl2_e, if_neg n10, if_neg z1, if_neg z2, j1, hb', ite_true]
        rw [show gI (pI (pI σ 1 2 (nI n)) 45 16 0) 45 2 = gI σ 1 2 from by rw [gI_pI, if_neg (by decide), gI_pI, if_neg (by decide), hm 2 (by omega)]]
      · refine Inv_up (k := 2) (v := nI n) (by omega) hI ?_ ?_ (Rs_pI rfl (Rs_pI rfl (Rs_pI rfl (Rs_pI rfl (Rs_pI rfl Rs_rfl))))) (Ldok_2 hI.2.1 (by omega))
        · rw [ld_pI_ne (by decide), ld_pI_ne (by decide), ld_pI_ne (by decide), ld_pI_ne (by decide), ld_pI (by omega)]
        · rw [lm_pI (by omega), lm_pI (by omega), up_self (lm_s (by omega)).symm, lm_pI (by omega), up_self (lm_s (by omega)).symm, lm_pI_ne (by omega), lm_pI_ne (by omega)]
