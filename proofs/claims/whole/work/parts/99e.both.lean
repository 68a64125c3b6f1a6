/-! ===== PURE: both loops over the statements ===== -/
abbrev rLp : Nat → Int32 → St → Option (Int32 × St) := lp (fun _ _ => none) (mX11_land_118)
theorem both_m {d n K : Nat} {b : Nat → Int32} (hK : K < 51) (hn : n ≤ 100) (hok : ∀ i, i < K → OkS b n (spN b i)) (hend : spN b K = n) : ∀ m k F G σ τ, k + m = K → n - spN b k < F → m < G → gI σ (10 + d) 4 = nI n → (∀ i, i < n → gL σ (19 + d) i = (b i).toInt64) → gI τ 45 21 = nI K → gI τ 45 17 = -4 → (∀ i, i < K → gA τ 55 i = b (spN b i) ∧ toldN b τ i (b (spN b i)) (spN b i + 1)) → lm τ = ld σ 3 → Ldok (ld σ 3) → (∃ σ' τ', fLp d F (nI (spN b k)) σ = some (-4, σ') ∧ rLp G (nI k) τ = some (nI K, τ') ∧ ld σ' 3 = lm τ' ∧ Ldok (ld σ' 3) ∧ Fo 3 σ σ' ∧ Fm τ τ') ∨ (∃ i σ' τ', i < K ∧ fLp d F (nI (spN b k)) σ = some (nI (spN b i), σ') ∧ rLp G (nI k) τ = cl1 (mX11_carryAll 57 0 τ') (fun s => ldA s 54 51 (nI i) (fun x => some (-2000 - x, s))) ∧ Fo 3 σ σ' ∧ Fm τ τ')
  | _, _, 0, _, _, _, _, hF, _, _, _, _, _, _, _, _ => absurd hF (Nat.not_lt_zero _)
  | _, _, _, 0, _, _, _, _, hG, _, _, _, _, _, _, _ => absurd hG (Nat.not_lt_zero _)
  | 0, k, F + 1, G + 1, σ, τ, hk, hF, hG, h4, hb, h21, h17, ht, hl, hL => by
    have hkK : k = K := by omega
    subst hkK
    left
    refine ⟨σ, τ, ?_, ?_, hl.symm, hL, Fx_rfl, Fx_rfl⟩
    · show mX8_firstNotDone_2 (10 + d) 3 (fLp d F) (nI (spN b k)) σ = some (-4, σ)
      unfold mX8_firstNotDone_2
      rw [kl_e, h4, if_pos (nI_le (by omega) (by omega))]
    · show mX11_land_118 (rLp G) (nI k) τ = some (nI k, τ)
      unfold mX11_land_118
      rw [kl_e, h21, if_pos (Int32.le_refl _), kl_e]
  | m + 1, k, F + 1, G + 1, σ, τ, hk, hF, hG, h4, hb, h21, h17, ht, hl, hL => by
    have hkK : k < K := by omega
    have ok := hok k hkK
    have hsp : spN b (k + 1) = spN b k + dkN (b (spN b k)) + 2 := rfl
    have hlt := ok.2.1
    have hbeg : spN b k = 0 ∨ b (spN b k - 1) = 59 := by
      cases k with
      | zero => exact Or.inl rfl
      | succ k =>
        right
        have := (hok k (by omega)).2.2.2
        rw [show spN b (k + 1) - 1 = spN b k + dkN (b (spN b k)) + 1 from rfl]
        exact this
    have C := begin_c (F := F) hn h4 hb (show spN b k < n by omega) hbeg
    have R : rLp (G + 1) (nI k) τ = cl2 (mX11_comes (nI k) τ) (fun x s => if x = 0 then cl1 (mX11_carryAll 57 0 s) (fun s => ldA s 54 51 (nI k) (fun x => some (-2000 - x, s))) else rLp G (nI (k + 1)) s) := by
      show mX11_land_118 (rLp G) (nI k) τ = _
      unfold mX11_land_118
      rw [kl_e, h21, if_neg (nI_ge hkK (by omega))]
      simp only [nI_1]
    obtain ⟨v, σ1, τ1, e1, e2, f1, f2, hv⟩ := done_m (show k < 51 by omega) hn h4 hb ok (ht k hkK).1 (ht k hkK).2 hL hl h17
    rw [e1, cl2_e] at C
    rw [e2, cl2_e] at R
    rcases hv with rfl | ⟨rfl, g1, g2⟩
    · right
      exact ⟨k, σ1, τ1, hkK, by rw [C, if_pos rfl], by rw [R, if_pos rfl], f1, f2⟩
    · rw [if_neg n10] at C R
      have h4' : gI σ1 (10 + d) 4 = nI n := by rw [Fx_I f1 (by omega), h4]
      have hb' : ∀ i, i < n → gL σ1 (19 + d) i = (b i).toInt64 := fun i hi => by rw [Fx_L f1 (fun q => q), hb i hi]
      obtain ⟨F', rfl⟩ : ∃ F', F = F' + (dkN (b (spN b k)) + 1) := ⟨F - (dkN (b (spN b k)) + 1), by omega⟩
      have S := skip_c hn h4' hb' (dkN (b (spN b k)) + 1) F' (spN b k) (by omega) (fun i hi => no59 ok hi)
      rw [S, show spN b k + 1 + (dkN (b (spN b k)) + 1) = spN b (k + 1) by rw [hsp]; omega] at C
      have t54 : ∀ a i, a ≠ 46 → a ≠ 47 → gA τ1 a i = gA τ a i := fun a i p q => Fx_A f2 (by omega)
      have ht' : ∀ i, i < K → gA τ1 55 i = b (spN b i) ∧ toldN b τ1 i (b (spN b i)) (spN b i + 1) := fun i hi => by
        refine ⟨by rw [t54 _ _ (by omega) (by omega)]; exact (ht i hi).1, ?_⟩
        exact toldN_c (k := K) hi (fun i _ => t54 _ _ (by omega) (by omega)) (ht i hi).2
      rcases both_m hK hn hok hend m (k + 1) F' G σ1 τ1 (by omega) (by omega) (by omega) h4' hb' (by rw [Fx_I f2 (by omega), h21]) (by rw [Fx_I f2 (by omega), h17]) ht' g1.symm g2 with ⟨σ2, τ2, w1, w2, w3, w4, w5, w6⟩ | ⟨i, σ2, τ2, w0, w1, w2, w5, w6⟩
      · left
        exact ⟨σ2, τ2, by rw [C, w1], by rw [R, w2], w3, w4, Fx_tr f1 w5, Fx_tr f2 w6⟩
      · right
        exact ⟨i, σ2, τ2, w0, by rw [C, w1], by rw [R, w2], Fx_tr f1 w5, Fx_tr f2 w6⟩
/-- how many semicolons -/
theorem count_c {d n K : Nat} {b : Nat → Int32} {σ : St} (hn : n ≤ 100) (hok : ∀ i, i < K → OkS b n (spN b i)) (hend : spN b K = n) (h4 : gI σ (10 + d) 4 = nI n) (hb : ∀ i, i < n → gL σ (19 + d) i = (b i).toInt64) : mX8_statementsOf (10 + d) σ = some (nI (cnt (fun i => decide (b i = 59)) n), σ) := by
  unfold mX8_statementsOf
  rw [kl_e]
  refine lp_for (app := fun i (J : Int32 → Int32 → St → Option (Int32 × St)) => J (nI (cnt (fun i => decide (b i = 59)) i)) (nI i) σ) n _ ?_ ?_ 2000 (by omega)
  · intro i hi J
    show mX8_statementsOf_4 (10 + d) J (nI (cnt (fun i => decide (b i = 59)) i)) (nI i) σ = J (nI (cnt (fun i => decide (b i = 59)) i + (decide (b i = 59)).toNat)) (nI (i + 1)) σ
    unfold mX8_statementsOf_4 mX8_statementsOf_27
    rw [kl_e, h4, if_neg (nI_ge hi (by omega)), numberAt_c hn h4 hi, cl2_e, hb i hi]
    simp only [kl_e, nI_1]
    by_cases z : b i = 59
    · rw [if_pos ((lg59 _).symm ▸ z), decide_eq_true z]; rfl
    · rw [if_neg (by rw [lg59]; exact z), decide_eq_false z]; rfl
  · intro J
    unfold mX8_statementsOf_4
    rw [kl_e, h4, if_pos (Int32.le_refl _)]
theorem cnt_no {S : Nat → Bool} {a : Nat} : ∀ t, (∀ i, i < t → S (a + i) = false) → cnt S (a + t) = cnt S a
  | 0, _ => rfl
  | t + 1, h => by
    show cnt S (a + t) + (S (a + t)).toNat = cnt S a
    rw [cnt_no t (fun i hi => h i (by omega)), h t (by omega)]; rfl
theorem cnt_K {n : Nat} {b : Nat → Int32} : ∀ k, (∀ i, i < k → OkS b n (spN b i)) → cnt (fun i => decide (b i = 59)) (spN b k) = k
  | 0, _ => rfl
  | k + 1, h => by
    have ok := h k (by omega)
    have ih := cnt_K k (fun i hi => h i (by omega))
    show cnt (fun i => decide (b i = 59)) (spN b k + (dkN (b (spN b k)) + 1)) + (decide (b (spN b k + (dkN (b (spN b k)) + 1)) = 59)).toNat = k + 1
    rw [cnt_no _ (fun i hi => decide_eq_false (no59 ok hi)), ih, decide_eq_true (show b (spN b k + (dkN (b (spN b k)) + 1)) = 59 from ok.2.2.2)]; rfl
