/-! ===== PURE: the reader of the reference ===== -/
theorem stZ_0 {ρ : Type} {σ : St} {o k : Nat} {f : St → Option ρ} : stZ σ o k 0 f = f (pI σ o k 0) := if_pos (Or.inl rfl)
theorem stZ_1 {ρ : Type} {σ : St} {o k : Nat} {f : St → Option ρ} : stZ σ o k 1 f = f (pI σ o k 1) := if_pos (Or.inr rfl)
/-- the byte at r, -999 behind the end -/
def hrN (b : Nat → Int32) (n r : Nat) : Int32 := if n ≤ r then -999 else b r
/-- the reader reads shelf d at r, with k statements behind it -/
def RSt (d n : Nat) (b : Nat → Int32) (τ : St) (r k : Nat) (bad : Bool) : Prop := (d < 8 ∧ n ≤ 100 ∧ gA τ 52 d = nI n ∧ ∀ i, i < n → gL τ 53 (100 * d + i) = (b i).toInt64) ∧ gI τ 45 18 = nI d ∧ gI τ 45 19 = nI r ∧ gI τ 45 20 = b2 bad ∧ gI τ 45 21 = nI k
/-- only where the reader stands -/
abbrev FdR (σ τ : St) : Prop := Fx (fun o k => o = 45 ∧ (k = 19 ∨ k = 20)) (fun _ => False) (fun _ => False) σ τ
theorem here_m {d n r k : Nat} {b : Nat → Int32} {τ : St} {bad : Bool} (h : RSt d n b τ r k bad) (hr : r < 2 ^ 31) : mX11_here τ = some (hrN b n r, τ) := by
  obtain ⟨⟨hd, hn, h1, h2⟩, h3, h4, h5, h6⟩ := h
  unfold mX11_here hrN
  rw [kl_e, kl_e, h3, ldA_8 hd, h1, h4]
  by_cases c : n ≤ r
  · rw [if_pos (nI_le c hr), if_pos c]
  · rw [if_neg (nI_ge (by omega) (by omega)), if_neg c, kl_e, kl_e, ldL_800 hd (by omega), h2 r (by omega), i64_32]
theorem RSt_set {d n r k r' : Nat} {b : Nat → Int32} {τ : St} {bad bad' : Bool} (h : RSt d n b τ r k bad) : RSt d n b (pI (pI τ 45 20 (b2 bad')) 45 19 (nI r')) r' k bad' := by
  obtain ⟨⟨hd, hn, h1, h2⟩, h3, h4, h5, h6⟩ := h
  refine ⟨⟨hd, hn, h1, h2⟩, ?_, ?_, ?_, ?_⟩
  · rw [gI_pI, if_neg (by omega), gI_pI, if_neg (by omega), h3]
  · rw [gI_pI, if_pos ⟨rfl, rfl⟩]
  · rw [gI_pI, if_neg (by omega), gI_pI, if_pos ⟨rfl, rfl⟩]
  · rw [gI_pI, if_neg (by omega), gI_pI, if_neg (by omega), h6]
/-- m digits read: the number, where it ends, and if it went wrong -/
def rdD (b : Nat → Int32) (n : Nat) : Nat → Int32 → Nat → Bool → Int32 × Nat × Bool
  | 0, y, r, bad => (y, r, bad)
  | m + 1, y, r, bad => if (!bad && isD (hrN b n r)) = true then rdD b n m (10 * y + hrN b n r - 48) (r + 1) false else rdD b n m 0 r true
theorem digs_m {d n k M : Nat} {b : Nat → Int32} (hM : M ≤ 4) : ∀ m f i y r bad τ, i + m = M → m < f → r + m < 2 ^ 31 → RSt d n b τ r k bad → ∃ τ', lp (fun _ _ _ => none) (mX11_readDigits_4 (nI M)) f y (nI i) τ = some ((rdD b n m y r bad).1, τ') ∧ RSt d n b τ' (rdD b n m y r bad).2.1 k (rdD b n m y r bad).2.2 ∧ FdR τ τ'
  | _, 0, _, _, _, _, _, _, hf, _, _ => absurd hf (Nat.not_lt_zero _)
  | 0, f + 1, i, y, r, bad, τ, hi, _, _, h => by
    refine ⟨τ, ?_, h, Fx_rfl⟩
    show mX11_readDigits_4 (nI M) (lp _ _ f) y (nI i) τ = some (y, τ)
    unfold mX11_readDigits_4
    rw [if_pos (nI_le (by omega) (by omega))]
  | m + 1, f + 1, i, y, r, bad, τ, hi, hf, hr, h => by
    have ih := fun y r bad τ => digs_m (d := d) (k := k) (b := b) (n := n) hM m f (i + 1) y r bad τ (by omega) (by omega)
    show ∃ τ', mX11_readDigits_4 (nI M) (lp (fun _ _ _ => none) (mX11_readDigits_4 (nI M)) f) y (nI i) τ = some ((if (!bad && isD (hrN b n r)) = true then rdD b n m (10 * y + hrN b n r - 48) (r + 1) false else rdD b n m 0 r true).1, τ') ∧ RSt d n b τ' (if (!bad && isD (hrN b n r)) = true then rdD b n m (10 * y + hrN b n r - 48) (r + 1) false else rdD b n m 0 r true).2.1 k (if (!bad && isD (hrN b n r)) = true then rdD b n m (10 * y + hrN b n r - 48) (r + 1) false else rdD b n m 0 r true).2.2 ∧ FdR τ τ'
    generalize lp (fun _ _ _ => none) (mX11_readDigits_4 (nI M)) f = J at ih ⊢
    have F : ∀ bad' r', FdR τ (pI (pI τ 45 20 (b2 bad')) 45 19 (nI r')) := fun bad' r' => Fx_pI ⟨rfl, Or.inl rfl⟩ (Fx_pI ⟨rfl, Or.inr rfl⟩ Fx_rfl)
    have hh := here_m h (by omega)
    have hin : ∀ s, mX11_in (hrN b n r).toInt64 (48 : Int64) (57 : Int64) s = some (b2 (isD (hrN b n r)), s) := fun s => in_m (hrN b n r) 48 57 s
    have h19 : ∀ v, gI (pI τ 45 20 v) 45 19 = nI r := fun v => by rw [gI_pI, if_neg (by omega), h.2.2.1]
    have h20 : ∀ v, gI (pI τ 45 20 v) 45 20 = v := fun v => by rw [gI_pI, if_pos ⟨rfl, rfl⟩]
    have wrong : ∀ s, s = τ → ∃ τ', mX11_readDigits_34 (mX11_readDigits_39 J (nI i) y) s = some ((rdD b n m 0 r true).1, τ') ∧ RSt d n b τ' (rdD b n m 0 r true).2.1 k (rdD b n m 0 r true).2.2 ∧ FdR τ τ' := by
      rintro s rfl
      unfold mX11_readDigits_34 mX11_readDigits_39 mX11_readDigits_65 mX11_readDigits_83
      obtain ⟨τ', t1, t2, t3⟩ := ih 0 r true (pI (pI s 45 20 (b2 true)) 45 19 (nI r)) (by omega) (RSt_set h)
      refine ⟨τ', ?_, t2, Fx_tr (F true r) t3⟩
      rw [stZ_1]
      simp only [kl_e, h20, h19]
      rw [if_neg n10, if_neg n10, nI_1, show nI r + 0 = nI r from by simp]
      exact t1
    unfold mX11_readDigits_4
    rw [if_neg (nI_ge (by omega) (by omega)), kl_e, kl_e, kl_e, h.2.2.2.1]
    cases bad
    · rw [b2_f, if_pos rfl, hh, cl2_e, hin, cl2_e]
      by_cases z : isD (hrN b n r) = true
      · have zz : (!false && isD (hrN b n r)) = true := by rw [z]; rfl
        rw [if_pos zz, z, b2_t, if_neg n10]
        obtain ⟨τ', t1, t2, t3⟩ := ih (10 * y + hrN b n r - 48) (r + 1) false (pI (pI τ 45 20 (b2 false)) 45 19 (nI (r + 1))) (by omega) (RSt_set h)
        refine ⟨τ', ?_, t2, Fx_tr (F false (r + 1)) t3⟩
        have hh2 : mX11_here (pI τ 45 20 0) = some (hrN b n r, pI τ 45 20 0) := by
          obtain ⟨g0, g1, g2, g3, g4⟩ := h
          exact here_m (r := r) (k := k) (bad := false) ⟨g0, by rw [gI_pI, if_neg (by omega), g1], h19 0, h20 0, by rw [gI_pI, if_neg (by omega), g4]⟩ (by omega)
        unfold mX11_readDigits_39 mX11_readDigits_65 mX11_readDigits_83
        rw [stZ_0]
        simp only [kl_e, h20, h19, hh2, cl2_e]
        rw [if_pos trivial, if_pos trivial, nI_1, nI_1]
        exact t1
      · have zz : ¬ (!false && isD (hrN b n r)) = true := by rw [Bool.eq_false_iff.2 z]; decide
        rw [if_neg zz, Bool.eq_false_iff.2 z, b2_f, if_pos rfl]
        exact wrong τ rfl
    · have zz : ¬ (!true && isD (hrN b n r)) = true := by rw [Bool.not_true, Bool.false_and]; decide
      rw [if_neg zz, b2_t, if_neg n10]
      exact wrong τ rfl
theorem readDigits_m {d n k r M : Nat} {b : Nat → Int32} {bad : Bool} {τ : St} (hM : M ≤ 4) (hr : r + M < 2 ^ 31) (h : RSt d n b τ r k bad) : ∃ τ', mX11_readDigits (nI M) τ = some ((rdD b n M 0 r bad).1, τ') ∧ RSt d n b τ' (rdD b n M 0 r bad).2.1 k (rdD b n M 0 r bad).2.2 ∧ FdR τ τ' := by
  unfold mX11_readDigits
  rw [kl_e]
  exact digs_m hM M 2000 0 0 r bad τ (by omega) (by omega) hr h
