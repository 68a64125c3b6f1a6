/-! ===== PURE: land of the reference, up to the doing ===== -/
theorem run_m {d n : Nat} {b : Nat → Int32} {ρ : St} (hd : d < 8) (hn : n ≤ 100) (h48 : gA ρ 48 d = 2) (h51 : gA ρ 51 d = 0) (h52 : gA ρ 52 d = nI n) (hb : ∀ i, i < n → gL ρ 53 (100 * d + i) = (b i).toInt64) (h17 : gI ρ 45 17 = -4) : (∃ τ r, mX11_land (nI d) ρ = some (-1000 - nI r, τ) ∧ cw b n 2000 (-1) 0 = nI r ∧ r ≤ n ∧ FLr ρ τ) ∨ (∃ τ K, mX11_land (nI d) ρ = rLp 2000 (nI 0) τ ∧ cw b n 2000 (-1) 0 = -4 ∧ K < 51 ∧ (∀ i, i < K → OkS b n (spN b i)) ∧ spN b K = n ∧ gI τ 45 21 = nI K ∧ gI τ 45 17 = -4 ∧ (∀ i, i < K → gA τ 55 i = b (spN b i) ∧ toldN b τ i (b (spN b i)) (spN b i + 1)) ∧ (∀ i, i < K → gA τ 54 i = nI (spN b i)) ∧ lm τ = lm ρ ∧ (∀ k, k < 8 → gA τ 57 k = ls (lm ρ) (k + 2)) ∧ (∀ c, c < 36 → gA τ 57 (8 + 2 * c) = lk (lm ρ) c ∧ gA τ 57 (9 + 2 * c) = lf (lm ρ) c) ∧ (∃ τ0, FLr ρ τ0 ∧ Fk 57 τ0 τ)) := by
  obtain ⟨τ, r, K, bad, t1, t2, t3, t4, t5, t6⟩ := land_m hd hn h48 h51 h52 hb
  cases bad
  · right
    obtain ⟨k0, rn⟩ := t6 rfl
    obtain ⟨q1, q2⟩ := t5 rfl
    have h3 := spN_ge K (fun i hi => (q2 i hi).1)
    have hlm : lm τ = lm ρ := lm_core (core_FLr t3)
    obtain ⟨τ2, s1, s2, s3, s4, s5⟩ := take_m (r := 57) (Or.inl rfl) τ
    have ha : ∀ a i, a = 54 ∨ a = 55 ∨ a = 56 → gA τ2 a i = gA τ a i := fun a i h => Fx_A s5 (by omega)
    refine ⟨τ2, K, ?_, cw_good t4 rn (by omega), by omega, fun i hi => (q2 i hi).1, by omega, ?_, ?_, fun i hi => ⟨?_, ?_⟩, fun i hi => ?_, by rw [s2, hlm], ?_, ?_, ⟨τ, t3, s5⟩⟩
    · rw [t1]
      unfold mX11_land_91
      rw [kl_e, t2.2.2.2.1, b2_f, if_pos rfl, s1, cl1_e, kl_e]
      rfl
    · rw [Fx_I s5 (by omega)]; exact t2.2.2.2.2
    · rw [Fx_I s5 (by omega), Fx_I t3 (by omega)]; exact h17
    · rw [ha _ _ (by omega)]; exact (q2 i hi).2.2.1
    · exact toldN_c (k := K) hi (fun i _ => ha _ _ (by omega)) (q2 i hi).2.2.2
    · rw [ha _ _ (by omega)]; exact (q2 i hi).2.1
    · rw [← hlm]; exact s3
    · rw [← hlm]; exact s4
  · left
    obtain ⟨e1, e2⟩ := cw_bad t4
    refine ⟨τ, r, ?_, e1, e2, t3⟩
    rw [t1]
    unfold mX11_land_91
    rw [kl_e, t2.2.2.2.1, b2_t, if_neg n10, kl_e, t2.2.2.1]
