/-! ===== PURE: the class's loop over the places ===== -/
theorem dk59 : dkN 59 = 0 := rfl
theorem isD59 : isD 59 = false := by decide
/-- within a statement no byte but the last is a semicolon -/
theorem no59 {b : Nat → Int32} {n p i : Nat} (h : OkS b n p) (hi : i < dkN (b p) + 1) : ¬ b (p + i) = 59 := by
  intro e
  cases i with
  | zero => exact h.1 (by rw [Nat.add_zero] at e; rw [e]; rfl)
  | succ i =>
    have := h.2.2.1 i (by omega)
    rw [show p + 1 + i = p + (i + 1) by omega, e, isD59] at this
    cases this
abbrev fLp (d : Nat) : Nat → Int32 → St → Option (Int32 × St) := lp (fun _ _ => none) (mX8_firstNotDone_2 (10 + d) 3)
/-- a place that no statement begins at is passed -/
theorem skip_c {d n : Nat} {b : Nat → Int32} {σ : St} (hn : n ≤ 100) (h4 : gI σ (10 + d) 4 = nI n) (hb : ∀ i, i < n → gL σ (19 + d) i = (b i).toInt64) : ∀ t F x, x + 1 + t ≤ n → (∀ i, i < t → ¬ b (x + i) = 59) → fLp d (F + t) (nI (x + 1)) σ = fLp d F (nI (x + 1 + t)) σ
  | 0, F, x, _, _ => rfl
  | t + 1, F, x, hx, h => by
    show mX8_firstNotDone_2 (10 + d) 3 (fLp d (F + t)) (nI (x + 1)) σ = fLp d F (nI (x + 1 + (t + 1))) σ
    have e0 : ¬ nI (x + 1) = 0 := by rw [nI_eq0 (by omega)]; omega
    have ex : nI (x + 1) - (1 : Int32) = nI x := by rw [show (1 : Int32) = nI 1 from rfl, pk_sub (by omega)]; rfl
    unfold mX8_firstNotDone_2 mX8_firstNotDone_28 mX8_firstNotDone_33 mX8_firstNotDone_49
    rw [kl_e, h4, if_neg (nI_ge (by omega) (by omega))]
    simp only [kl_e]
    rw [if_neg e0, ex, numberAt_c hn h4 (by omega), cl2_e, hb x (by omega), if_neg (by rw [lg59]; exact h 0 (by omega)), if_pos trivial, nI_1]
    have := skip_c hn h4 hb t F (x + 1) (by omega) (fun i hi => by rw [show x + 1 + i = x + (i + 1) by omega]; exact h (i + 1) (by omega))
    rw [show x + 1 + 1 + t = x + 1 + (t + 1) by omega] at this
    exact this
/-- where a statement begins, it is done -/
theorem begin_c {d n p F : Nat} {b : Nat → Int32} {σ : St} (hn : n ≤ 100) (h4 : gI σ (10 + d) 4 = nI n) (hb : ∀ i, i < n → gL σ (19 + d) i = (b i).toInt64) (hp : p < n) (h : p = 0 ∨ b (p - 1) = 59) : fLp d (F + 1) (nI p) σ = cl2 (mX8_isDone (10 + d) (nI p) 3 σ) (fun x s => if x = 0 then some (nI p, s) else fLp d F (nI (p + 1)) s) := by
  show mX8_firstNotDone_2 (10 + d) 3 (fLp d F) (nI p) σ = _
  unfold mX8_firstNotDone_2 mX8_firstNotDone_28 mX8_firstNotDone_33 mX8_firstNotDone_49
  rw [kl_e, h4, if_neg (nI_ge hp (by omega))]
  simp only [kl_e, nI_1]
  have last : (if (1 : Int32) = 0 then fLp d F (nI (p + 1)) σ else cl2 (mX8_isDone (10 + d) (nI p) 3 σ) (fun x s => if x = 0 then some (nI p, s) else fLp d F (nI (p + 1)) s)) = cl2 (mX8_isDone (10 + d) (nI p) 3 σ) (fun x s => if x = 0 then some (nI p, s) else fLp d F (nI (p + 1)) s) := if_neg n10
  by_cases z : p = 0
  · rw [if_pos (show nI p = 0 by rw [z]; rfl)]
    exact last
  · have e0 : ¬ nI p = 0 := by rw [nI_eq0 (by omega)]; exact z
    have ex : nI p - (1 : Int32) = nI (p - 1) := by rw [show (1 : Int32) = nI 1 from rfl, pk_sub (by omega)]
    have h59 : b (p - 1) = 59 := h.resolve_left z
    rw [if_neg e0, ex, numberAt_c hn h4 (by omega), cl2_e, hb (p - 1) (by omega), if_pos ((lg59 _).symm ▸ h59)]
    exact last
