/-! ===== PURE: reads through writes, loops, ints, sets of cells as bits ===== -/
theorem gI_pI {σ : St} {o k o' k' : Nat} {v : Int32} : gI (pI σ o k v) o' k' = if o' = o ∧ k' = k then v else gI σ o' k' := by
  unfold gI pI fu upd
  by_cases h : o' = o
  · by_cases h2 : k' = k
    · simp [h, h2]
    · simp [h, h2]
  · simp [h]
theorem gI_pA {σ : St} {a i o k : Nat} {v : Int32} : gI (pA σ a i v) o k = gI σ o k := rfl
theorem gI_pL {σ : St} {a i o k : Nat} {v : Int64} : gI (pL σ a i v) o k = gI σ o k := rfl
theorem gI_pK {σ : St} {n o k : Nat} : gI (pK σ n) o k = gI σ o k := rfl
theorem gI_sL {σ : St} {a o k : Nat} {f : Nat → Int64} : gI (sL σ a f) o k = gI σ o k := rfl
theorem gA_pI {σ : St} {o k a i : Nat} {v : Int32} : gA (pI σ o k v) a i = gA σ a i := rfl
theorem gA_pL {σ : St} {b j a i : Nat} {v : Int64} : gA (pL σ b j v) a i = gA σ a i := rfl
theorem gA_pK {σ : St} {n a i : Nat} : gA (pK σ n) a i = gA σ a i := rfl
theorem gA_sL {σ : St} {b a i : Nat} {f : Nat → Int64} : gA (sL σ b f) a i = gA σ a i := rfl
theorem gA_pA {σ : St} {a i a' i' : Nat} {v : Int32} : gA (pA σ a i v) a' i' = if a' = a ∧ i' = i then v else gA σ a' i' := by
  unfold gA pA fu upd
  by_cases h : a' = a
  · by_cases h2 : i' = i
    · simp [h, h2]
    · simp [h, h2]
  · simp [h]
theorem gL_pI {σ : St} {o k a i : Nat} {v : Int32} : gL (pI σ o k v) a i = gL σ a i := rfl
theorem gL_pA {σ : St} {b j a i : Nat} {v : Int32} : gL (pA σ b j v) a i = gL σ a i := rfl
theorem gL_pK {σ : St} {n a i : Nat} : gL (pK σ n) a i = gL σ a i := rfl
theorem gL_pL {σ : St} {a i a' i' : Nat} {v : Int64} : gL (pL σ a i v) a' i' = if a' = a ∧ i' = i then v else gL σ a' i' := by
  unfold gL pL fu vp_updL
  by_cases h : a' = a
  · by_cases h2 : i' = i
    · simp [h, h2]
    · simp [h, h2]
  · simp [h]
theorem gL_sL {σ : St} {a a' i : Nat} {f : Nat → Int64} : gL (sL σ a f) a' i = if a' = a then f i else gL σ a' i := by
  unfold gL sL fu
  by_cases h : a' = a <;> simp [h]
/-! loops -/
theorem lp_for {F ρ : Type} {bot : F} {b : F → F} (app : Nat → F → ρ) (N : Nat) (out : ρ) (hs : ∀ i, i < N → ∀ J, app i (b J) = app (i + 1) J) (hx : ∀ J, app N (b J) = out) : ∀ fuel, N < fuel → app 0 (lp bot b fuel) = out := by
  have key : ∀ k i fuel, i + k = N → k < fuel → app i (lp bot b fuel) = out := by
    intro k
    induction k with
    | zero =>
      intro i fuel h1 h2
      obtain ⟨f, rfl⟩ : ∃ f, fuel = f + 1 := ⟨fuel - 1, by omega⟩
      have : i = N := by omega
      subst this
      exact hx _
    | succ k ih =>
      intro i fuel h1 h2
      obtain ⟨f, rfl⟩ : ∃ f, fuel = f + 1 := ⟨fuel - 1, by omega⟩
      show app i (b (lp bot b f)) = out
      rw [hs i (by omega)]
      exact ih (i + 1) f (by omega) (by omega)
  exact fun fuel h => key N 0 fuel (by omega) h
/-! programs' words, opened -/
theorem kl_e {α β : Type} (a : α) (f : α → β) : kl a f = f a := rfl
theorem cl2_e {α ρ : Type} {v : α} {σ : St} {f : α → St → Option ρ} : cl2 (some (v, σ)) f = f v σ := rfl
theorem cl1_e {ρ : Type} {σ : St} {f : St → Option ρ} : cl1 (some σ) f = f σ := rfl
theorem rz_0 {σ : St} : rz 0 σ = some (0, σ) := rfl
theorem rz_1 {σ : St} : rz 1 σ = some (1, σ) := rfl
/-- a truth as an int -/
def b2 (b : Bool) : Int32 := if b then 1 else 0
theorem rz_b {b : Bool} {σ : St} : rz (b2 b) σ = some (b2 b, σ) := by cases b <;> rfl
theorem b2_0 {b : Bool} : (b2 b = 0) = (b = false) := by cases b <;> simp [b2]
theorem nI_lt0 {n : Nat} (h : n < 2 ^ 31) : (nI n < 0) = False := by simp [nI_pos h]
theorem ldA_n {ρ : Type} {σ : St} {a n i : Nat} {f : Int32 → Option ρ} (h : i < n) (hn : n < 2 ^ 31) : ldA σ a n (nI i) f = f (gA σ a i) := by
  unfold ldA
  rw [if_neg (nI_in h hn), nI_clamp (by omega)]
theorem ldL_n {ρ : Type} {σ : St} {a n i : Nat} {f : Int64 → Option ρ} (h : i < n) (hn : n < 2 ^ 31) : ldL σ a n (nI i) f = f (gL σ a i) := by
  unfold ldL
  rw [if_neg (nI_in h hn), nI_clamp (by omega)]
theorem stA_n {ρ : Type} {σ : St} {a n i : Nat} {v : Int32} {f : St → Option ρ} (h : i < n) (hn : n < 2 ^ 31) : stA σ a n (nI i) v f = f (pA σ a i v) := by
  unfold stA
  rw [if_neg (nI_in h hn), nI_clamp (by omega)]
theorem stL_n {ρ : Type} {σ : St} {a n i : Nat} {v : Int64} {f : St → Option ρ} (h : i < n) (hn : n < 2 ^ 31) : stL σ a n (nI i) v f = f (pL σ a i v) := by
  unfold stL
  rw [if_neg (nI_in h hn), nI_clamp (by omega)]
theorem ldR_n {ρ : Type} {i : Nat} {f : Nat → Option ρ} (h : i < 8) : ldR (nI i) f = f (10 + i) := by
  unfold ldR
  rw [if_neg (nI_in h (by omega)), nI_clamp (by omega)]
/-! bits -/
def bt (x : Int64) (j : Nat) : Bool := x.toBitVec.getLsbD j
theorem bt_ext {x y : Int64} (h : ∀ j, j < 64 → bt x j = bt y j) : x = y := by
  apply Int64.toBitVec_inj.1
  exact BitVec.eq_of_getLsbD_eq h
theorem bt_hi {x : Int64} {j : Nat} (h : 64 ≤ j) : bt x j = false := BitVec.getLsbD_of_ge _ _ h
theorem bt_or {x y : Int64} {j : Nat} : bt (x ||| y) j = (bt x j || bt y j) := by
  unfold bt
  rw [Int64.toBitVec_or, BitVec.getLsbD_or]
theorem bt_and {x y : Int64} {j : Nat} : bt (x &&& y) j = (bt x j && bt y j) := by
  unfold bt
  rw [Int64.toBitVec_and, BitVec.getLsbD_and]
theorem bt_xor {x y : Int64} {j : Nat} : bt (x ^^^ y) j = (bt x j ^^ bt y j) := by
  unfold bt
  rw [Int64.toBitVec_xor, BitVec.getLsbD_xor]
theorem bt_0 {j : Nat} : bt 0 j = false := by
  unfold bt
  simp
theorem sh_eq {k : Nat} (h : k < 64) : ((nI k).toInt64 &&& 63) = lN k := by
  rw [nI_l (by omega)]
  have : ∀ k, k < 64 → (lN k &&& (63 : Int64)) = lN k := by decide +kernel
  exact this k h
theorem bt_shl {x : Int64} {k j : Nat} (h : k < 64) : bt (x <<< lN k) j = (decide (j < 64) && (decide (k ≤ j) && bt x (j - k))) := by
  unfold bt
  rw [Int64.toBitVec_shiftLeft]
  have e : ((lN k).toBitVec.smod 64).toNat = k := by
    have : ∀ k, k < 64 → ((lN k).toBitVec.smod 64).toNat = k := by decide +kernel
    exact this k h
  rw [show (x.toBitVec <<< ((lN k).toBitVec.smod 64)) = x.toBitVec <<< ((lN k).toBitVec.smod 64).toNat from rfl, e, BitVec.getLsbD_shiftLeft]
  by_cases h1 : j < 64 <;> by_cases h2 : k ≤ j <;> simp [h1, h2]
theorem bt_shr {x : Int64} {k j : Nat} (h : k < 64) : bt (x >>> lN k) j = (decide (j < 64) && (if k + j < 64 then bt x (k + j) else bt x 63)) := by
  unfold bt
  rw [Int64.toBitVec_shiftRight]
  have e : ((lN k).toBitVec.smod 64).toNat = k := by
    have : ∀ k, k < 64 → ((lN k).toBitVec.smod 64).toNat = k := by decide +kernel
    exact this k h
  rw [show (x.toBitVec.sshiftRight' ((lN k).toBitVec.smod 64)) = x.toBitVec.sshiftRight ((lN k).toBitVec.smod 64).toNat from rfl, e, BitVec.getLsbD_sshiftRight]
  by_cases h1 : j < 64
  · by_cases h2 : k + j < 64 <;> simp [h1, h2, BitVec.msb_eq_getLsbD_last]
  · simp [h1, show 64 ≤ j by omega]
theorem bt_one {j : Nat} : bt 1 j = decide (j = 0) := by
  unfold bt
  by_cases h : j = 0
  · subst h; decide
  · rcases Nat.lt_or_ge j 64 with q | q
    · have : ∀ j, j < 64 → j ≠ 0 → (1 : Int64).toBitVec.getLsbD j = false := by decide +kernel
      rw [this j q h]
      simp [h]
    · rw [BitVec.getLsbD_of_ge _ _ q]
      simp [h]
theorem bt_bit {k j : Nat} (h : k < 64) : bt ((1 : Int64) <<< lN k) j = decide (j = k) := by
  rw [bt_shl h, bt_one]
  by_cases h1 : j = k
  · subst h1; simp [h]
  · by_cases h2 : k ≤ j
    · by_cases h3 : j < 64 <;> simp [h1, h2, h3]; omega
    · simp [h1, h2]
/-- the first n of S, as bits -/
def bsn (S : Nat → Bool) : Nat → Int64
  | 0 => 0
  | n + 1 => if S n then bsn S n ||| ((1 : Int64) <<< lN n) else bsn S n
theorem bt_bsn {S : Nat → Bool} {j : Nat} : ∀ n, n ≤ 64 → bt (bsn S n) j = (decide (j < n) && S j)
  | 0, _ => by simp [bsn, bt_0]
  | n + 1, h => by
    have ih := bt_bsn (S := S) (j := j) n (by omega)
    unfold bsn
    by_cases hS : S n = true
    · rw [if_pos hS, bt_or, ih, bt_bit (by omega)]
      by_cases h1 : j = n
      · subst h1; simp [hS]
      · by_cases h2 : j < n
        · simp [h2, show j < n + 1 by omega, h1]
        · simp [h2, h1, show ¬ j < n + 1 by omega]
    · rw [if_neg hS, ih]
      by_cases h1 : j = n
      · subst h1; simp [hS]
      · by_cases h2 : j < n
        · simp [h2, show j < n + 1 by omega]
        · simp [h2, show ¬ j < n + 1 by omega]
/-- a set of cells as bits -/
def bs (S : Nat → Bool) : Int64 := bsn S 36
theorem bt_bs {S : Nat → Bool} {j : Nat} : bt (bs S) j = (decide (j < 36) && S j) := bt_bsn 36 (by omega)
theorem bs_eq {S T : Nat → Bool} (h : ∀ j, j < 36 → S j = T j) : bs S = bs T := by
  apply bt_ext
  intro j _
  rw [bt_bs, bt_bs]
  by_cases h1 : j < 36
  · rw [h j h1]
  · simp [h1]
theorem eq_bs {x : Int64} {S : Nat → Bool} (h : ∀ j, j < 64 → bt x j = (decide (j < 36) && S j)) : x = bs S := bt_ext (fun j hj => by rw [h j hj, bt_bs])
theorem bs_and {S T : Nat → Bool} : bs S &&& bs T = bs (fun j => S j && T j) := eq_bs (fun j _ => by rw [bt_and, bt_bs, bt_bs]; by_cases h : j < 36 <;> simp [h])
theorem bs_or {S T : Nat → Bool} : bs S ||| bs T = bs (fun j => S j || T j) := eq_bs (fun j _ => by rw [bt_or, bt_bs, bt_bs]; by_cases h : j < 36 <;> simp [h])
theorem bs_0 : bs (fun _ => false) = 0 := (eq_bs (fun j _ => by rw [bt_0]; simp)).symm
theorem bs_bit {k : Nat} (h : k < 36) : bs (fun j => decide (j = k)) = (1 : Int64) <<< lN k := (eq_bs (fun j _ => by rw [bt_bit (by omega)]; by_cases h1 : j = k; subst h1; simp [h]; simp [h1])).symm
theorem bs_z {S : Nat → Bool} : (bs S = 0) = (∀ j, j < 36 → S j = false) := by
  apply propext
  constructor
  · intro h j hj
    have := bt_bs (S := S) (j := j)
    rw [h, bt_0] at this
    simpa [hj] using this.symm
  · intro h
    rw [← bs_0]
    exact bs_eq h
