/-! ===== PURE: fractions; mean ===== -/
theorem eu_half {x y k : Nat} (h0 : 0 < y) (hyx : y ≤ x) (h : x * y < 2 ^ (k + 1)) : y * (x % y) < 2 ^ k := by
  have h1 := Nat.mod_lt x h0
  have h2 : x % y + y ≤ x := by
    have := Nat.div_add_mod x y
    have h3 : 1 ≤ x / y := (Nat.le_div_iff_mul_le h0).2 (by omega)
    have h4 : y ≤ y * (x / y) := by
      calc y = y * 1 := (Nat.mul_one y).symm
        _ ≤ y * (x / y) := Nat.mul_le_mul_left y h3
    omega
  have h5 : 2 * (x % y) ≤ x := by omega
  have h6 : 2 * (y * (x % y)) ≤ x * y := by
    calc 2 * (y * (x % y)) = 2 * (x % y) * y := by rw [Nat.mul_assoc, Nat.mul_comm (x % y) y]
      _ ≤ x * y := Nat.mul_le_mul_right y h5
  rw [Nat.pow_succ] at h
  omega
/-- how many rounds are left at most -/
def eum (x : Nat × Nat × Nat) : Nat := x.2.2 + (if x.2.1 ≤ x.1 then 0 else 1)
theorem eu_step {x y k : Nat} (h0 : 0 < y) (h : x * y < 2 ^ k) : ∃ k', y * (x % y) < 2 ^ k' ∧ eum (y, x % y, k') < eum (x, y, k) := by
  have h1 : x % y ≤ y := Nat.le_of_lt (Nat.mod_lt x h0)
  by_cases hyx : y ≤ x
  · cases k with
    | zero =>
      have : x * y = 0 := by omega
      rcases Nat.mul_eq_zero.1 this with z | z <;> omega
    | succ k =>
      refine ⟨k, eu_half h0 hyx h, ?_⟩
      unfold eum
      rw [if_pos h1, if_pos hyx]
      show k + 0 < k + 1 + 0
      omega
  · refine ⟨k, ?_, ?_⟩
    · rw [Nat.mod_eq_of_lt (by omega), Nat.mul_comm]; exact h
    · unfold eum
      rw [if_pos h1, if_neg hyx]
      show k + 0 < k + 1
      omega
theorem lN_0 : lN 0 = 0 := rfl
theorem lN_z {n : Nat} (h : n < 2 ^ 63) : (lN n = 0) = (n = 0) := by
  apply propext
  have := pk_lEQ (a := n) (b := 0) h (by omega)
  rwa [lN_0] at this
theorem lgz {n : Nat} (h : n < 2 ^ 63) : (lg_cmp (lN n) 0 = 0) = (n = 0) := by rw [lg_0, lN_z h]
theorem gcd_s {x y : Nat} : Nat.gcd y (x % y) = Nat.gcd x y := by
  rw [Nat.gcd_comm y, ← Nat.gcd_rec, Nat.gcd_comm]
theorem divisor_c {a b k : Nat} (hk : k ≤ 90) (ha : a < 2 ^ 63) (hb : b < 2 ^ 63) (h : a * b < 2 ^ k) (σ : St) : mX1_commonDivisor (lN a) (lN b) σ = some (lN (Nat.gcd a b), σ) := by
  unfold mX1_commonDivisor
  rw [kl_e]
  refine lp_wf (app := fun (x : (Nat × Nat × Nat) × Nat) (J : Int64 → Int64 → Int32 → St → Option (Int64 × St)) => J (lN x.1.1) (lN x.1.2.1) (nI x.2) σ) (m := fun x => eum x.1) (P := fun x => Nat.gcd x.1.1 x.1.2.1 = Nat.gcd a b ∧ x.1.1 < 2 ^ 63 ∧ x.1.2.1 < 2 ^ 63 ∧ x.1.1 * x.1.2.1 < 2 ^ x.1.2.2 ∧ x.2 + eum x.1 ≤ 91) (Q := fun r => r = some (lN (Nat.gcd a b), σ)) ?_ 2000 ((a, b, k), 0) ⟨rfl, ha, hb, h, ?_⟩ ?_
  · rintro ⟨⟨x, y, k⟩, i⟩ ⟨h1, h2, h3, h4, h5⟩ J
    simp only at h1 h2 h3 h4 h5
    show (mX1_commonDivisor_9 J (lN x) (lN y) (nI i) σ = _) ∨ _
    unfold mX1_commonDivisor_9 mX1_commonDivisor_44
    rw [kl_e, if_neg (show ¬ (100 : Int32) ≤ nI i from nI_ge (b := 100) (by omega) (by omega))]
    by_cases y0 : y = 0
    · left
      rw [if_pos (by rw [lgz h3]; exact y0), ← h1, y0, Nat.gcd_zero_right]
    · right
      rw [if_neg (by rw [lgz h3]; exact y0)]
      obtain ⟨k', e1, e2⟩ := eu_step (x := x) (y := y) (by omega) h4
      refine ⟨((y, x % y, k'), i + 1), ⟨by show Nat.gcd y (x % y) = _; rw [gcd_s, h1], h3, by show x % y < 2 ^ 63; have := Nat.mod_lt x (show y > 0 by omega); omega, e1, by show i + 1 + eum (y, x % y, k') ≤ 91; omega⟩, e2, ?_⟩
      unfold dvL
      rw [if_neg (by rw [lN_z h3]; exact y0), kl_e, pk_lRem h2 (by omega) h3, nI_1]
  · show 0 + eum (a, b, k) ≤ 91
    unfold eum
    by_cases c : b ≤ a
    · rw [if_pos c]; show 0 + (k + 0) ≤ 91; omega
    · rw [if_neg c]; show 0 + (k + 1) ≤ 91; omega
  · show eum (a, b, k) < 2000
    unfold eum
    by_cases c : b ≤ a
    · rw [if_pos c]; show k + 0 < 2000; omega
    · rw [if_neg c]; show k + 1 < 2000; omega
theorem divisor_m {a b k : Nat} (hk : k ≤ 90) (ha : a < 2 ^ 63) (hb : b < 2 ^ 63) (h : a * b < 2 ^ k) (σ : St) : mX11_divisor (lN a) (lN b) σ = some (lN (Nat.gcd a b), σ) := by
  unfold mX11_divisor
  rw [kl_e]
  refine lp_wf (app := fun (x : Nat × Nat × Nat) (J : Int64 → Int64 → St → Option (Int64 × St)) => J (lN x.1) (lN x.2.1) σ) (m := fun x => eum x) (P := fun x => Nat.gcd x.1 x.2.1 = Nat.gcd a b ∧ x.1 < 2 ^ 63 ∧ x.2.1 < 2 ^ 63 ∧ x.1 * x.2.1 < 2 ^ x.2.2) (Q := fun r => r = some (lN (Nat.gcd a b), σ)) ?_ 2000 (a, b, k) ⟨rfl, ha, hb, h⟩ ?_
  · rintro ⟨x, y, k⟩ ⟨h1, h2, h3, h4⟩ J
    simp only at h1 h2 h3 h4
    show (mX11_divisor_6 J (lN x) (lN y) σ = _) ∨ _
    unfold mX11_divisor_6
    by_cases y0 : y = 0
    · left
      rw [if_pos (by rw [lgz h3]; exact y0), ← h1, y0, Nat.gcd_zero_right]
    · right
      rw [if_neg (by rw [lgz h3]; exact y0)]
      obtain ⟨k', e1, e2⟩ := eu_step (x := x) (y := y) (by omega) h4
      refine ⟨(y, x % y, k'), ⟨by show Nat.gcd y (x % y) = _; rw [gcd_s, h1], h3, by show x % y < 2 ^ 63; have := Nat.mod_lt x (show y > 0 by omega); omega, e1⟩, e2, ?_⟩
      unfold dvL
      rw [if_neg (by rw [lN_z h3]; exact y0), kl_e, pk_lRem h2 (by omega) h3]
  · show eum (a, b, k) < 2000
    unfold eum
    by_cases c : b ≤ a
    · rw [if_pos c]; show k + 0 < 2000; omega
    · rw [if_neg c]; show k + 1 < 2000; omega
def pvN (a b : Nat) (part : Int32) : Nat := if a = 0 then (if part = 0 then 0 else 1) else if part = 0 then a / Nat.gcd a b else b / Nat.gcd a b
theorem partOf_c {a b k : Nat} {part : Int32} (hk : k ≤ 90) (ha : a < 2 ^ 63) (hb : b < 2 ^ 63) (h : a * b < 2 ^ k) (σ : St) : mX1_partOf (lN a) (lN b) part σ = some (lN (pvN a b part), σ) := by
  unfold mX1_partOf mX1_partOf_20 pvN
  rw [divisor_c hk ha hb h, cl2_e, kl_e]
  by_cases a0 : a = 0
  · rw [if_pos (by rw [lgz ha]; exact a0), if_pos a0]
    by_cases y : part = 0
    · simp only [if_pos y]; rfl
    · simp only [if_neg y]; rfl
  · have hg : 0 < Nat.gcd a b := Nat.gcd_pos_of_pos_left b (by omega)
    have hg2 : Nat.gcd a b < 2 ^ 63 := Nat.lt_of_le_of_lt (Nat.gcd_le_left b (by omega)) ha
    have gz : ¬ lN (Nat.gcd a b) = 0 := by rw [lN_z hg2]; omega
    rw [if_neg (by rw [lgz ha]; exact a0), if_neg a0, if_neg (by rw [lgz hg2]; omega)]
    unfold dvL
    by_cases y : part = 0
    · rw [if_pos y, if_pos y, if_neg gz, pk_lDiv ha hg hg2]
    · rw [if_neg y, if_neg y, if_neg gz, pk_lDiv hb hg hg2]
theorem partOf_m {a b k : Nat} {part : Int32} (hp : part = 0 ∨ part = 1) (hk : k ≤ 90) (ha : a < 2 ^ 63) (hb : b < 2 ^ 63) (h : a * b < 2 ^ k) (σ : St) : mX11_partOf (lN a) (lN b) part σ = some (lN (pvN a b part), σ) := by
  unfold mX11_partOf pvN
  by_cases a0 : a = 0
  · rw [if_pos (by rw [lgz ha]; exact a0), if_pos a0]
    rcases hp with rfl | rfl
    · rfl
    · rfl
  · have hg : 0 < Nat.gcd a b := Nat.gcd_pos_of_pos_left b (by omega)
    have hg2 : Nat.gcd a b < 2 ^ 63 := Nat.lt_of_le_of_lt (Nat.gcd_le_left b (by omega)) ha
    have gz : ¬ lN (Nat.gcd a b) = 0 := by rw [lN_z hg2]; omega
    rw [if_neg (by rw [lgz ha]; exact a0), if_neg a0, divisor_m hk ha hb h, cl2_e]
    unfold dvL
    by_cases y : part = 0
    · rw [if_pos y, if_pos y, if_neg gz, pk_lDiv ha hg hg2]
    · rw [if_neg y, if_neg y, if_neg gz, pk_lDiv hb hg hg2]
/-! mean -/
def smN (f : Nat → Nat) : Nat → Nat
  | 0 => 0
  | n + 1 => smN f n + f n
theorem smN_le {f : Nat → Nat} {c : Nat} : ∀ n, (∀ i, i < n → f i ≤ c) → smN f n ≤ c * n
  | 0, _ => Nat.zero_le _
  | n + 1, h => by
    have := smN_le (f := f) (c := c) n (fun i hi => h i (by omega))
    have h2 := h n (by omega)
    show smN f n + f n ≤ c * (n + 1)
    rw [Nat.mul_succ]
    omega
theorem smN_eq {f g : Nat → Nat} : ∀ n, (∀ i, i < n → f i = g i) → smN f n = smN g n
  | 0, _ => rfl
  | n + 1, h => by
    show smN f n + f n = smN g n + g n
    rw [smN_eq n (fun i hi => h i (by omega)), h n (by omega)]
def frs (P : Nat → Nat → Bool) (L : Ld) (k : Nat) : Nat := if fl2 P k then FrN L (k / 36) (k % 36) else 0
theorem fars_c {P : Nat → Nat → Bool} {L : Ld} {σ : St} (hL : Ldok L) (h1 : Bfit P σ) (h2 : Bfar L σ) : mX0_farsInAll σ = some (lN (smN (frs P L) 1296), σ) := by
  unfold mX0_farsInAll
  rw [kl_e]
  refine lp_for (app := fun i (J : Int64 → Int32 → St → Option (Int64 × St)) => J (lN (smN (frs P L) (36 * i))) (nI i) σ) 36 _ ?_ ?_ 2000 (by omega)
  · intro a ha J
    unfold mX0_farsInAll_4
    rw [if_neg (lt36 ha), kl_e]
    refine lp_for (app := fun b (J' : Int64 → Int32 → St → Option (Int64 × St)) => J' (lN (smN (frs P L) (36 * a + b))) (nI b) σ) 36 _ ?_ ?_ 2000 (by omega)
    · intro b hb J'
      unfold mX0_farsInAll_13 mX0_farsInAll_50
      rw [if_neg (lt36 hb), ldL_36 ha, h1 a ha, has_c hb, cl2_e, kl_e, ix36, ldA_1296 (by omega), h2 a b ha hb, kl_e, (FrN_e hL ha hb).1, nI_l (by have := (FrN_e hL ha hb).2; omega), lN_add]
      simp only [nI_1]
      have hS : smN (frs P L) (36 * a + (b + 1)) = smN (frs P L) (36 * a + b) + (if P a b then FrN L a b else 0) := by
        show smN (frs P L) (36 * a + b) + (if fl2 P (36 * a + b) then FrN L ((36 * a + b) / 36) ((36 * a + b) % 36) else 0) = _
        rw [fl2_at hb, show (36 * a + b) / 36 = a by omega, show (36 * a + b) % 36 = b by omega]
      rw [hS]
      cases P a b
      · rw [b2_f, if_pos rfl, if_neg (show ¬ false = true by decide), Nat.add_zero (smN (frs P L) (36 * a + b))]
      · rw [b2_t, if_neg n10, if_pos rfl]
    · intro J'
      unfold mX0_farsInAll_13
      rw [if_pos at36, nI_1, show 36 * (a + 1) = 36 * a + 36 by omega]
  · intro J
    unfold mX0_farsInAll_4
    rw [if_pos at36]
theorem mean_m {L : Ld} {a : Int32} {σ : St} (hl : lm σ = L) (hL : Ldok L) : (lp (fun _ _ _ => none) (mX11_mean_24 a) 2000) (0 : Int64) (0 : Int32) σ = (if nI (cnt (fl2 (Pm σ)) 1296) = 0 then some (a.toInt64, σ) else cl2 (mX11_partOf (lN (smN (frs (Pm σ) L) 1296)) (nI (cnt (fl2 (Pm σ)) 1296)).toInt64 a σ) (fun x s => some (x, s))) := by
  refine lp_for (app := fun k (J : Int64 → Int32 → St → Option (Int64 × St)) => J (lN (smN (frs (Pm σ) L) k)) (nI k) σ) 1296 _ ?_ ?_ 2000 (by omega)
  · intro k hk J
    unfold mX11_mean_24 mX11_mean_69
    have hF := (FrN_e hL (a := k / 36) (b := k % 36) (by omega) (by omega))
    rw [if_neg (lt1296 hk), isPair_k hk, cl2_e, kl_e, (k36 (by omega)).2, (k36 (by omega)).1, far_m (by omega) (by omega), cl2_e]
    simp only [kl_e, hl, hF.1, nI_l (show FrN L (k / 36) (k % 36) < 2 ^ 31 by omega), lN_add, nI_1]
    show _ = J (lN (smN (frs (Pm σ) L) k + (if fl2 (Pm σ) k then FrN L (k / 36) (k % 36) else 0))) _ _
    cases fl2 (Pm σ) k
    · rw [b2_f, if_pos rfl, if_neg (by decide), show (0 : Int64) = lN 0 from rfl, lN_add]
    · rw [b2_t, if_neg n10, if_pos rfl]
  · intro J
    unfold mX11_mean_24
    rw [if_pos at1296, pairMany_m, cl2_e, pairMany_m, cl2_e]
theorem s_mean : stp164 Inv mX10_mean mX11_mean := by
  intro σ a hI
  have j1 : ∀ τ, mX11_in a.toInt64 (0 : Int64) (1 : Int64) τ = some (b2 (inR a 0 1), τ) := fun τ => in_m a 0 1 τ
  rcases either_or a with h | h
  · refine ⟨-1000000001, σ, pI σ 45 16 0, ?_, ?_, Inv_core c16 hI⟩
    · unfold mX10_mean mX10_ofLongs
      simp only [either_c, h, b2_f, cl2_e, ite_true]
      rfl
    · unfold mX11_mean
      simp only [j1, h, b2_f, cl2_e, kl_e, ite_true]
  · have hp : a = 0 ∨ a = 1 := by rcases h with h | h; exact Or.inl h.1; exact Or.inr h.1
    have ht : inR a 0 1 = true := by rcases h with h | h <;> exact h.2
    obtain ⟨τ, e1, e2, e3, e4, e5⟩ := lay_c σ
    have hc := core_FB e5
    have hcp : core (pI τ 45 16 0) = core σ := by rw [c16, hc]
    have hl : lm (pI τ 45 16 0) = ld σ 1 := by rw [lm_core hcp, hI.1]
    have hP : ∀ x y, x < 36 → y < 36 → Pm (pI τ 45 16 0) x y = PrL (ld σ 1) x y := fun x y hx hy => by rw [Pm_core hcp, Pm_Inv hI hx hy]
    have hs : smN (frs (Pm (pI τ 45 16 0)) (ld σ 1)) 1296 = smN (frs (PrL (ld σ 1)) (ld σ 1)) 1296 := smN_eq 1296 (fun k hk => by unfold frs; rw [fl2_eq hP hk])
    have hb1 : smN (frs (PrL (ld σ 1)) (ld σ 1)) 1296 ≤ 15 * 1296 := smN_le 1296 (fun k hk => by
      unfold frs
      by_cases y : fl2 (PrL (ld σ 1)) k = true
      · rw [if_pos y]; exact (FrN_e hI.2.1 (by omega) (by omega)).2
      · rw [if_neg y]; omega)
    have hb2 : cnt (fl2 (PrL (ld σ 1))) 1296 ≤ 1296 := cnt_fl2_le
    have hm : smN (frs (PrL (ld σ 1)) (ld σ 1)) 1296 * cnt (fl2 (PrL (ld σ 1))) 1296 < 2 ^ 30 := by
      have := Nat.mul_le_mul hb1 hb2
      omega
    refine ⟨lN (pvN (smN (frs (PrL (ld σ 1)) (ld σ 1)) 1296) (cnt (fl2 (PrL (ld σ 1))) 1296) a), τ, pI τ 45 16 0, ?_, ?_, Inv_core hcp hI⟩
    · unfold mX10_mean mX0_pairsInAll
      rw [either_c, ht, b2_t, cl2_e, if_neg n10, e1, cl1_e, fars_c hI.2.1 e4 e2, cl2_e, bitsOf_c (P := PrL (ld σ 1)) rfl e4, cl2_e, cl2_e, nI_l (by omega), partOf_c (k := 30) (by omega) (by omega) (by omega) hm, cl2_e]
    · unfold mX11_mean
      rw [kl_e, j1, ht, b2_t, cl2_e, if_neg n10, kl_e, mean_m hl hI.2.1, hs, cntP_eq hP]
      by_cases z : cnt (fl2 (PrL (ld σ 1))) 1296 = 0
      · rw [z, if_pos nI_0]
        have hz : smN (frs (PrL (ld σ 1)) (ld σ 1)) 1296 = 0 := by
          have : smN (frs (PrL (ld σ 1)) (ld σ 1)) 1296 ≤ 0 * 1296 := smN_le 1296 (fun k hk => by
            unfold frs
            rw [cnt_0 1296 z k hk]; exact Nat.le_refl _)
          omega
        rw [hz]
        unfold pvN
        rw [if_pos rfl]
        rcases hp with rfl | rfl
        · rfl
        · rfl
      · rw [if_neg (by rw [nI_0' (by omega)]; exact z), nI_l (by omega), partOf_m hp (k := 30) (by omega) (by omega) (by omega) hm, cl2_e]
