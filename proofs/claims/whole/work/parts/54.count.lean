/-! ===== PURE: how many bits stand, on both sides ===== -/
def cnt (S : Nat → Bool) : Nat → Nat
  | 0 => 0
  | n + 1 => cnt S n + (S n).toNat
theorem cnt_le {S : Nat → Bool} : ∀ n, cnt S n ≤ n
  | 0 => Nat.le_refl _
  | n + 1 => by
    have := cnt_le (S := S) n
    show cnt S n + (S n).toNat ≤ n + 1
    cases S n <;> simp <;> omega
theorem cnt_eq {S T : Nat → Bool} : ∀ n, (∀ j, j < n → S j = T j) → cnt S n = cnt T n
  | 0, _ => rfl
  | n + 1, h => by
    show cnt S n + (S n).toNat = cnt T n + (T n).toNat
    rw [cnt_eq n (fun j hj => h j (by omega)), h n (by omega)]
theorem cnt_mono {S T : Nat → Bool} : ∀ n, (∀ j, j < n → S j = true → T j = true) → cnt S n ≤ cnt T n
  | 0, _ => Nat.le_refl _
  | n + 1, h => by
    have := cnt_mono (S := S) (T := T) n (fun j hj => h j (by omega))
    show cnt S n + (S n).toNat ≤ cnt T n + (T n).toNat
    have := h n (by omega)
    cases hS : S n
    · simp; omega
    · rw [this hS]; simp; omega
theorem cnt_lt {S T : Nat → Bool} : ∀ n, (∀ j, j < n → S j = true → T j = true) → ∀ k, k < n → S k = false → T k = true → cnt S n < cnt T n
  | 0, _, k, hk, _, _ => by omega
  | n + 1, h, k, hk, h1, h2 => by
    show cnt S n + (S n).toNat < cnt T n + (T n).toNat
    by_cases e : k = n
    · subst e
      have := cnt_mono (S := S) (T := T) k (fun j hj => h j (by omega))
      rw [h1, h2]
      simp; omega
    · have := cnt_lt (S := S) (T := T) n (fun j hj => h j (by omega)) k (by omega) h1 h2
      have hn := h n (by omega)
      cases hS : S n
      · simp; omega
      · rw [hn hS]; simp; omega
theorem cnt_0 {S : Nat → Bool} : ∀ n, cnt S n = 0 → ∀ j, j < n → S j = false
  | 0, _, j, hj => by omega
  | n + 1, h, j, hj => by
    have h' : cnt S n + (S n).toNat = 0 := h
    by_cases e : j = n
    · subst e
      cases hS : S j
      · rfl
      · rw [hS] at h'; simp at h'
    · exact cnt_0 n (by omega) j (by omega)
theorem cnt_rm {S : Nat → Bool} {k : Nat} (hS : S k = true) : ∀ n, cnt S n = cnt (fun j => S j && !decide (j = k)) n + (if k < n then 1 else 0)
  | 0 => by simp [cnt]
  | n + 1 => by
    have ih := cnt_rm hS n
    show cnt S n + (S n).toNat = cnt (fun j => S j && !decide (j = k)) n + (S n && !decide (n = k)).toNat + _
    rw [ih]
    by_cases e : n = k
    · subst e
      rw [if_neg (by omega), if_pos (by omega), hS]
      simp
    · by_cases h1 : k < n
      · rw [if_pos h1, if_pos (by omega)]
        simp [e]; omega
      · rw [if_neg h1, if_neg (by omega)]
        simp [e]
/-- the least that has p, below N; or N -/
def fst (p : Nat → Bool) : Nat → Nat
  | 0 => 0
  | n + 1 => if fst p n < n then fst p n else if p n then n else n + 1
theorem fst_le {p : Nat → Bool} : ∀ n, fst p n ≤ n
  | 0 => Nat.le_refl _
  | n + 1 => by
    have := fst_le (p := p) n
    unfold fst
    split
    · omega
    · split <;> omega
theorem fst_yes {p : Nat → Bool} : ∀ {n}, fst p n < n → p (fst p n) = true
  | 0, h => by omega
  | n + 1, h => by
    unfold fst at h ⊢
    by_cases h1 : fst p n < n
    · rw [if_pos h1] at h ⊢; exact fst_yes h1
    · rw [if_neg h1] at h ⊢
      by_cases h2 : p n = true
      · rw [if_pos h2]; exact h2
      · rw [if_neg h2] at h; omega
theorem fst_no {p : Nat → Bool} : ∀ {n i}, i < fst p n → p i = false
  | 0, i, h => by unfold fst at h; omega
  | n + 1, i, h => by
    unfold fst at h
    by_cases h1 : fst p n < n
    · rw [if_pos h1] at h; exact fst_no h
    · rw [if_neg h1] at h
      have hn : fst p n = n := by have := fst_le (p := p) n; omega
      by_cases h2 : p n = true
      · rw [if_pos h2] at h; exact fst_no (n := n) (by omega)
      · rw [if_neg h2] at h
        by_cases e : i = n
        · subst e; exact Bool.eq_false_iff.2 h2
        · exact fst_no (n := n) (by omega)
theorem fst_is {p : Nat → Bool} {n k : Nat} (hk : k < n) (h1 : p k = true) (h2 : ∀ i, i < k → p i = false) : fst p n = k := by
  rcases Nat.lt_trichotomy (fst p n) k with q | q | q
  · have := fst_yes (p := p) (n := n) (by omega)
    rw [h2 _ q] at this; cases this
  · exact q
  · have := fst_no q; rw [h1] at this; cases this
theorem fst_all {p : Nat → Bool} {n : Nat} (h : ∀ i, i < n → p i = false) : fst p n = n := by
  have := fst_le (p := p) n
  by_cases q : fst p n < n
  · have h1 := fst_yes q
    rw [h _ q] at h1; cases h1
  · omega
/-! the number that a long is, without sign -/
def NB (x : Int64) : Nat := x.toBitVec.toNat
theorem bt_NB {x : Int64} {j : Nat} : bt x j = (NB x).testBit j := rfl
theorem NB_lt (x : Int64) : NB x < 2 ^ 64 := x.toBitVec.isLt
theorem NB_and (x y : Int64) : NB (x &&& y) = NB x &&& NB y := by unfold NB; rw [Int64.toBitVec_and, BitVec.toNat_and]
theorem NB_add {x y : Int64} (h : NB x + NB y < 2 ^ 64) : NB (x + y) = NB x + NB y := by
  unfold NB at *
  rw [Int64.toBitVec_add, BitVec.toNat_add, Nat.mod_eq_of_lt h]
theorem NB_sub {x y : Int64} (h : NB y ≤ NB x) : NB (x - y) = NB x - NB y := by
  have h1 := NB_lt x
  unfold NB at *
  rw [Int64.toBitVec_sub, BitVec.toNat_sub]
  omega
theorem NB_inj {x y : Int64} (h : NB x = NB y) : x = y := Int64.toBitVec_inj.1 (BitVec.eq_of_toNat_eq h)
theorem NB_ushr (x : Int64) (k : Nat) (s : UInt64) (hs : s.toNat = k) (hk : k < 64) : NB ((x.toUInt64 >>> s).toInt64) = NB x / 2 ^ k := by
  show (x.toUInt64 >>> s).toNat = x.toUInt64.toNat / 2 ^ k
  rw [UInt64.toNat_shiftRight, hs, Nat.mod_eq_of_lt hk, Nat.shiftRight_eq_div_pow]
/-! the reference's way: take off the lowest bit, again and again -/
theorem low_off {S : Nat → Bool} (h : fst S 36 < 36) : bs S &&& (bs S - 1) = bs (fun j => S j && !decide (j = fst S 36)) := by
  generalize hm : fst S 36 = m at h
  have hy : S m = true := by rw [← hm]; exact fst_yes (by omega)
  have hn : ∀ i, i < m → S i = false := fun i hi => fst_no (n := 36) (by omega)
  have hX : ∀ j, (NB (bs S)).testBit j = (decide (j < 36) && S j) := fun j => by rw [← bt_NB, bt_bs]
  generalize hx : NB (bs S) = X at hX
  have hmod : X % 2 ^ (m + 1) = 2 ^ m := by
    apply Nat.eq_of_testBit_eq
    intro j
    rw [Nat.testBit_mod_two_pow, Nat.testBit_two_pow, hX]
    by_cases e : j = m
    · subst e; simp [h, hy]
    · by_cases e2 : j < m
      · rw [hn j e2]; simp [Ne.symm e]
      · simp [show ¬ j < m + 1 by omega, Ne.symm e]
  have hd : X = 2 ^ (m + 1) * (X / 2 ^ (m + 1)) + 2 ^ m := by
    have := Nat.div_add_mod X (2 ^ (m + 1))
    rw [hmod] at this
    exact this.symm
  have hp : 0 < 2 ^ m := Nat.two_pow_pos m
  have h1 : NB (1 : Int64) = 1 := rfl
  have hs : NB (bs S - 1) = 2 ^ (m + 1) * (X / 2 ^ (m + 1)) + (2 ^ m - 1) := by
    rw [NB_sub (by rw [h1, hx]; omega), h1, hx]
    omega
  apply eq_bs
  intro j hj
  rw [bt_NB, NB_and, Nat.testBit_and, hs, hx]
  have l1 : (2 ^ m : Nat) < 2 ^ (m + 1) := by rw [Nat.pow_succ]; omega
  have l2 : (2 ^ m - 1 : Nat) < 2 ^ (m + 1) := by omega
  rw [Nat.testBit_two_pow_mul_add _ l2]
  by_cases e : j < m + 1
  · rw [if_pos e, Nat.testBit_two_pow_sub_one, hX]
    by_cases e2 : j = m
    · subst e2; simp
    · rw [hn j (by omega)]; simp
  · rw [if_neg e, hX]
    have := Nat.testBit_two_pow_mul_add (X / 2 ^ (m + 1)) l1 j
    rw [← hd, hX, if_neg e] at this
    rw [← this]
    have : ¬ j = m := by omega
    simp [this]
theorem onesOf_m {S : Nat → Bool} (σ : St) : mX11_onesOf (bs S) σ = some (nI (cnt S 36), σ) := by
  unfold mX11_onesOf
  rw [kl_e]
  refine lp_wf (app := fun (x : Nat × (Nat → Bool)) (J : Int32 → Int64 → St → Option (Int32 × St)) => J (nI x.1) (bs x.2) σ) (m := fun x => cnt x.2 36) (P := fun x => x.1 + cnt x.2 36 = cnt S 36) (Q := fun r => r = some (nI (cnt S 36), σ)) ?_ 2000 (0, S) (by simp) (by have := cnt_le (S := S) 36; show cnt S 36 < 2000; omega)
  rintro ⟨k, T⟩ hP J
  simp only at hP
  show (mX11_onesOf_4 J (nI k) (bs T) σ = _) ∨ _
  unfold mX11_onesOf_4
  simp only [lg_0]
  by_cases h : fst T 36 < 36
  · right
    have hy := fst_yes h
    refine ⟨(k + 1, fun j => T j && !decide (j = fst T 36)), ?_, ?_, ?_⟩
    · have := cnt_rm hy 36
      rw [if_pos h] at this
      show k + 1 + cnt (fun j => T j && !decide (j = fst T 36)) 36 = cnt S 36
      omega
    · have := cnt_rm hy 36
      rw [if_pos h] at this
      show cnt (fun j => T j && !decide (j = fst T 36)) 36 < cnt T 36
      omega
    · rw [if_neg (by rw [bs_z]; intro q; rw [q _ h] at hy; cases hy), kl_e, low_off h, nI_1]
  · left
    have h36 : fst T 36 = 36 := by have := fst_le (p := T) 36; omega
    have hz : ∀ j, j < 36 → T j = false := fun j hj => fst_no (n := 36) (by omega)
    rw [if_pos (by rw [bs_z]; exact hz)]
    have : cnt T 36 = 0 := by
      have := cnt_eq (S := T) (T := fun _ => false) 36 hz
      rw [this]; rfl
    rw [show k = cnt S 36 by omega]
