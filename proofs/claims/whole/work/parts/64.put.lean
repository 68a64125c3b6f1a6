/-! ===== PURE: put ===== -/
theorem refRow_c {d : Nat} (hd : d < 8) (σ : St) : mX10_refusalOfRow (nI d) σ = some (rfs σ d 2, σ) := by
  unfold mX10_refusalOfRow
  rw [unless_c hd, cl2_e]
theorem refRow_n {a : Int32} (h : inR a 0 7 = false) (σ : St) : mX10_refusalOfRow a σ = some (-1, σ) := by
  unfold mX10_refusalOfRow
  rw [unless_n h, cl2_e]
/-- a row stands on shelf d, of sort s and n numbers -/
def Rw (σ : St) (d s n : Nat) : Prop := gI σ (10 + d) 0 = 2 ∧ gA σ 48 d = 2 ∧ s < 3 ∧ n ≤ 100 ∧ gI σ (10 + d) 3 = nI s ∧ gA σ 51 d = nI s ∧ gI σ (10 + d) 4 = nI n ∧ gA σ 52 d = nI n ∧ ∀ i, i < 100 → gL σ (19 + d) i = gL σ 53 (100 * d + i) ∧ ∃ z : Int32, gL σ (19 + d) i = z.toInt64 ∧ (s = 0 → z = z.toInt8.toInt32)
theorem Rw_of {σ : St} {d : Nat} (hs : Shok σ d) (q : rfs σ d 2 = 0) : ∃ s n, Rw σ d s n := by
  rw [rfs_0] at q
  obtain ⟨h0, hh⟩ := hs
  rcases hh with hh | ⟨hh, _⟩ | ⟨hh, s, n, r⟩
  · exact absurd hh q.1
  · rw [q.2] at hh; exact absurd hh (by decide)
  · exact ⟨s, n, hh, by rw [← h0, hh], r⟩
theorem Shok_Rw {σ : St} {d s n : Nat} (h : Rw σ d s n) : Shok σ d := ⟨by rw [h.1, h.2.1], Or.inr (Or.inr ⟨h.1, s, n, h.2.2⟩)⟩
theorem ldL_100 {ρ : Type} {σ : St} {a i : Nat} {f : Int64 → Option ρ} (h : i < 100) : ldL σ a 100 (nI i) f = f (gL σ a i) := ldL_n h (by omega)
theorem stL_100 {ρ : Type} {σ : St} {a i : Nat} {v : Int64} {f : St → Option ρ} (h : i < 100) : stL σ a 100 (nI i) v f = f (pL σ a i v) := stL_n h (by omega)
theorem ix_m {d i : Nat} : ((100 : Int32) * nI d) + nI i = nI (100 * d + i) := by
  rw [show (100 : Int32) = nI 100 from rfl, pk_mul, nI_add]
theorem ldL_800 {ρ : Type} {σ : St} {d i : Nat} {f : Int64 → Option ρ} (hd : d < 8) (h : i < 100) : ldL σ 53 800 (((100 : Int32) * nI d) + nI i) f = f (gL σ 53 (100 * d + i)) := by
  rw [ix_m]; exact ldL_n (by omega) (by omega)
theorem stL_800 {ρ : Type} {σ : St} {d i : Nat} {v : Int64} {f : St → Option ρ} (hd : d < 8) (h : i < 100) : stL σ 53 800 (((100 : Int32) * nI d) + nI i) v f = f (pL σ 53 (100 * d + i) v) := by
  rw [ix_m]; exact stL_n (by omega) (by omega)
/-- is a place of n numbers, on the reference's side -/
theorem place_m {n : Nat} (hn : n ≤ 100) (b : Int32) (σ : St) : mX11_in b.toInt64 (0 : Int64) ((nI n - (1 : Int32)).toInt64) σ = some (b2 (decide (0 ≤ b) && decide (b < nI n)), σ) := by
  rw [show (0 : Int64) = (0 : Int32).toInt64 from rfl, in_m]
  unfold inR
  have : decide (b ≤ nI n - 1) = decide (b < nI n) := by
    have : (nI n - 1).toInt = (n : Int) - 1 := by
      have := pk_sub_toInt (a := n) (b := 1) (by omega) (by omega)
      exact this
    congr 1
    apply propext
    rw [Int32.le_iff_toInt_le, Int32.lt_iff_toInt_lt, this, nI_toInt (by omega)]
    omega
  rw [this]
theorem place_or (b : Int32) (n : Nat) (hn : n ≤ 100) : ((decide (0 ≤ b) && decide (b < nI n)) = false ∧ (b < 0 ∨ nI n ≤ b)) ∨ ∃ i, i < n ∧ b = nI i ∧ (decide (0 ≤ b) && decide (b < nI n)) = true := by
  rcases pk_ix b (n := n) (by omega) with h | h | ⟨j, hj, rfl⟩
  · left; exact ⟨by simp [Int32.not_le.2 h], Or.inl h⟩
  · left; exact ⟨by simp [Int32.not_lt.2 h], Or.inr h⟩
  · right; exact ⟨j, hj, rfl, by simp [nI_pos' (n := j) (by omega), nI_lt hj (by omega)]⟩
theorem hasPlace_n {o n : Nat} {b : Int32} {σ : St} (e : gI σ o 4 = nI n) (h : b < 0 ∨ nI n ≤ b) : mX5_hasPlace o b σ = some (0, σ) := by
  unfold mX5_hasPlace
  by_cases q : b < 0
  · rw [if_pos q]; rfl
  · rw [if_neg q, kl_e, e, if_pos (by rcases h with h | h; exact absurd h q; exact h)]; rfl
theorem hasPlace_y {o n i : Nat} {σ : St} (hn : n ≤ 100) (e : gI σ o 4 = nI n) (h : i < n) : mX5_hasPlace o (nI i) σ = some (1, σ) := by
  unfold mX5_hasPlace
  rw [if_neg (nI_pos (by omega)), kl_e, e, if_neg (nI_ge h (by omega))]; rfl
