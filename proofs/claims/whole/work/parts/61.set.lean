/-! ===== PURE: set ===== -/
theorem Ldok_2 {L : Ld} {c : Nat} (h : Ldok L) (hc : c < 2) : Ldok (up L 2 (nI c)) :=
  ⟨h.1, ⟨c, hc, rfl⟩, h.2.2.1, h.2.2.2.1, h.2.2.2.2.1, h.2.2.2.2.2.1, h.2.2.2.2.2.2⟩
theorem Ldok_3 {L : Ld} {c : Nat} (h : Ldok L) (hc : c ≤ 20) : Ldok (up L 3 (nI c)) :=
  ⟨h.1, h.2.1, ⟨c, hc, rfl⟩, h.2.2.2.1, h.2.2.2.2.1, h.2.2.2.2.2.1, h.2.2.2.2.2.2⟩
theorem Ldok_4 {L : Ld} {c : Nat} (h : Ldok L) (hc : c ≤ 20) : Ldok (up L 4 (nI c)) :=
  ⟨h.1, h.2.1, h.2.2.1, ⟨c, hc, rfl⟩, h.2.2.2.2.1, h.2.2.2.2.2.1, h.2.2.2.2.2.2⟩
theorem s_set : stp232 Inv mX10_set mX11_set := by
  intro σ a b hI
  have hm : ∀ k, 2 ≤ k ∧ k < 10 → gI σ 45 k = gI σ 1 k := fun k hk => by rw [lm_s hk, ← hI.1, ← ld_s hk]
  have i2 : ∀ τ, mX11_in a.toInt64 (0 : Int64) (2 : Int64) τ = some (b2 (inR a 0 2), τ) := fun τ => in_m a 0 2 τ
  have j1 : ∀ τ, mX11_in b.toInt64 (0 : Int64) (1 : Int64) τ = some (b2 (inR b 0 1), τ) := fun τ => in_m b 0 1 τ
  have j20 : ∀ τ, mX11_in b.toInt64 (0 : Int64) (20 : Int64) τ = some (b2 (inR b 0 20), τ) := fun τ => in_m b 0 20 τ
  rcases inR_or a 2 (by omega) with ⟨h, hn⟩ | ⟨j, hj, rfl, h⟩
  · have h0 : ¬ a = 0 := hn 0 (by omega)
    have h1 : ¬ a = 1 := hn 1 (by omega)
    have h2 : ¬ a = 2 := hn 2 (by omega)
    refine ag (f := mX10_set a b) (g := mX11_set a b) (v := -1) (ρ := σ) (τ := pI σ 45 16 0) ?_ ?_ c16 hI
    · unfold mX10_set mX10_set_30 mX10_set_61 mX10_set_92
      simp only [kl_e, if_neg h0, if_neg h1, if_neg h2]
    · unfold mX11_set
      have h' : inR a 0 2 = false := h
      simp only [kl_e, i2, h', b2_f, cl2_e, ite_true]
  sorry
