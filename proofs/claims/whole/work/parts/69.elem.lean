/-! ===== PURE: element; the start ===== -/
theorem gI_pI_eq {σ : St} {o k : Nat} {v : Int32} : gI (pI σ o k v) o k = v := by rw [gI_pI, if_pos ⟨rfl, rfl⟩]
theorem c16' {σ : St} {v : Int32} : core (pI σ 45 16 v) = core σ := core_pI rfl
theorem s_element (σ : St) (a1 a2 : Int32) (hI : Inv σ) : ∃ (k0 : Int32) (v : Int64) (σ1 σ2 σ3 : St), mL_element a1 a2 σ = some (k0, σ1) ∧ mX11_element a1 a2 σ1 = some (v, σ2) ∧ mX11_thrown σ2 = some (k0, σ3) ∧ (k0 = 0 → gL σ3 66 0 = v) ∧ Inv σ3 := by
  have th : ∀ τ : St, mX11_thrown τ = some (gI τ 45 16, τ) := fun τ => rfl
  rcases shelf_or a1 with h | ⟨d, hd, rfl, h⟩
  · refine ⟨1, 0, σ, pI σ 45 16 1, pI σ 45 16 1, ?_, ?_, ?_, fun q => absurd q (by decide), Inv_core c16' hI⟩
    · unfold mL_element mX10_elem
      simp only [shelf_c, h, b2_f, cl2_e, ite_true]
      rw [if_neg (by decide)]
    · unfold mX11_element mX11_element_43
      simp only [wrongRow_n h, cl2_e, kl_e, ite_true]
      rw [gI_pI_eq, if_neg (by decide)]
    · rw [th, gI_pI_eq]
  have hs := hI.2.2.2.2 d hd
  by_cases q : rfs σ d 2 = 0
  · obtain ⟨s, n, hR⟩ := Rw_of hs q
    obtain ⟨h1, h2, h3, h4, h5, h6, h7, h8, h9⟩ := hR
    rcases place_or a2 n h4 with ⟨p1, p2⟩ | ⟨i, hi, rfl, p1⟩
    · refine ⟨2, 0, σ, pI σ 45 16 2, pI σ 45 16 2, ?_, ?_, ?_, fun q => absurd q (by decide), Inv_core c16' hI⟩
      · unfold mL_element mX10_elem
        simp only [shelf_c, h, b2_t, cl2_e, if_neg n10, shelfAt_c hd, kl_e, h1, ite_true, hasPlace_n h7 p2]
        rw [if_neg (by decide)]
      · unfold mX11_element mX11_element_43 mX11_element_38
        simp only [wrongRow_m hd hs rfl, q, cl2_e, kl_e, ldA_8 hd, h8, place_m h4, p1, b2_f, ite_true]
        rw [if_neg (by decide), if_neg (by decide), gI_pI_eq, if_neg (by decide)]
      · rw [th, gI_pI_eq]
    · have hc : core (pL σ 66 0 (gL σ (19 + d) i)) = core σ := core_pL rfl
      refine ⟨0, gL σ (19 + d) i, pL σ 66 0 (gL σ (19 + d) i), pI (pL σ 66 0 (gL σ (19 + d) i)) 45 16 0, pI (pL σ 66 0 (gL σ (19 + d) i)) 45 16 0, ?_, ?_, ?_, fun _ => ?_, Inv_core (by rw [c16', hc]) hI⟩
      · unfold mL_element mX10_elem mX5_numberAt
        simp only [shelf_c, h, b2_t, cl2_e, if_neg n10, shelfAt_c hd, kl_e, h1, ite_true, hasPlace_y h4 h7 hi, h7]
        rw [if_neg (nI_pos (by omega)), if_neg (nI_ge hi (by omega)), if_neg (show ¬ (100 : Int32) ≤ nI i from nI_ge (b := 100) (by omega) (by omega)), ldL_100 (by omega), cl2_e, cl2_e, if_pos rfl, show 10 + d + 9 = 19 + d by omega]
      · unfold mX11_element mX11_element_43 mX11_element_38
        simp only [wrongRow_m hd hs hc, q, cl2_e, kl_e, ldA_8 hd, core_A hc 52 d rfl, h8, place_m h4, p1, b2_t, if_neg n10]
        rw [if_neg (by decide), if_neg (by decide), gI_pI_eq, if_pos (by decide), ldL_800 hd (by omega), gL_pI, gL_pL, if_neg (by omega), (h9 i (by omega)).1]
      · rw [th, gI_pI_eq]
      · rw [gL_pI, gL_pL, if_pos ⟨rfl, rfl⟩]
  · have q' : ¬ gI σ (10 + d) 0 = 2 := by
      intro y
      apply q
      rw [rfs_0, y]
      exact ⟨by decide, rfl⟩
    refine ⟨2, 0, σ, pI σ 45 16 2, pI σ 45 16 2, ?_, ?_, ?_, fun q => absurd q (by decide), Inv_core c16' hI⟩
    · unfold mL_element mX10_elem
      simp only [shelf_c, h, b2_t, cl2_e, if_neg n10, shelfAt_c hd, kl_e, if_neg q']
      rw [if_neg (by decide)]
    · have y1 : ¬ rfs σ d 2 = -1 ∧ rfs σ d 2 < 0 := by
        unfold rfs at q ⊢
        by_cases y : gI σ (10 + d) 0 = 0
        · rw [if_pos y]; decide
        · rw [if_neg y, if_neg q']; decide
      unfold mX11_element mX11_element_43 mX11_element_38
      simp only [wrongRow_m hd hs rfl, cl2_e, kl_e, if_neg y1.1, if_pos y1.2]
      rw [gI_pI_eq, if_neg (by decide)]
    · rw [th, gI_pI_eq]
theorem Inv_0 : Inv σi := by
  have e : ∀ k, 2 ≤ k ∧ k < 10 → ini 1 k = ini 45 k := by
    intro k hk
    have : k = 2 ∨ k = 3 ∨ k = 4 ∨ k = 5 ∨ k = 6 ∨ k = 7 ∨ k = 8 ∨ k = 9 := by omega
    rcases this with rfl | rfl | rfl | rfl | rfl | rfl | rfl | rfl <;> rfl
  refine ⟨?_, ⟨fun c hc => ⟨0, 0, by omega, by omega, ?_, ?_⟩, ⟨0, by omega, rfl⟩, ⟨3, by omega, rfl⟩, ⟨6, by omega, rfl⟩, Or.inl rfl, Or.inl rfl, ⟨0, by omega, rfl⟩⟩, rfl, ⟨rfl, Or.inl rfl⟩, fun d hd => ⟨?_, Or.inl ?_⟩⟩
  · refine Prod.ext rfl (Prod.ext rfl (funext fun k => ?_))
    show (if 2 ≤ k ∧ k < 10 then ini 1 k else 0) = if 2 ≤ k ∧ k < 10 then ini 45 k else 0
    by_cases q : 2 ≤ k ∧ k < 10
    · rw [if_pos q, if_pos q, e k q]
    · rw [if_neg q, if_neg q]
  · show (if c < 36 then (0 : Int32) else 0) = nI 0
    rw [if_pos hc]; rfl
  · show (if c < 36 then (0 : Int32) else 0) = nI 0
    rw [if_pos hc]; rfl
  · show ini (10 + d) 0 = 0
    unfold ini
    rw [if_neg (by omega), if_neg (by omega)]
  · show ini (10 + d) 0 = 0
    unfold ini
    rw [if_neg (by omega), if_neg (by omega)]
