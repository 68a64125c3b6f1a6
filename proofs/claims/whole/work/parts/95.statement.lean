/-! ===== PURE: statements read ===== -/
/-- v is the first wrong byte of the text, as seen from r, where y is due -/
def GWt (b : Nat → Int32) (n : Nat) (v y : Int32) (r : Nat) (bad : Bool) : Prop := r ≤ n ∧ ((bad = false ∧ ∃ f, f + r = 2000 ∧ v = cw b n f y r) ∨ (bad = true ∧ v = nI r))
theorem hrN_D {b : Nat → Int32} {n r : Nat} (h : isD (hrN b n r) = true) : r < n ∧ hrN b n r = b r := by
  unfold hrN at h ⊢
  by_cases c : n ≤ r
  · rw [if_pos c] at h; exact absurd h (by decide)
  · rw [if_neg c]; exact ⟨by omega, rfl⟩
theorem nI_m1 {q : Nat} (h : q < 100) : nI (q + 1) + (-1) = nI q ∧ ¬ nI (q + 1) = -1 ∧ ¬ nI (q + 1) = 0 := by
  have : ∀ q, q < 100 → nI (q + 1) + (-1) = nI q ∧ ¬ nI (q + 1) = -1 ∧ ¬ nI (q + 1) = 0 := by decide +kernel
  exact this q h
theorem rdD_t {b : Nat → Int32} {n : Nat} : ∀ m y r, (rdD b n m y r true).2.1 = r ∧ (rdD b n m y r true).2.2 = true
  | 0, _, _ => ⟨rfl, rfl⟩
  | m + 1, y, r => by
    show (if (!true && isD (hrN b n r)) = true then rdD b n m (10 * y + hrN b n r - 48) (r + 1) false else rdD b n m 0 r true).2.1 = r ∧ (if (!true && isD (hrN b n r)) = true then rdD b n m (10 * y + hrN b n r - 48) (r + 1) false else rdD b n m 0 r true).2.2 = true
    rw [if_neg (show ¬ (!true && isD (hrN b n r)) = true by rw [Bool.not_true, Bool.false_and]; decide)]
    exact rdD_t m 0 r
theorem rdD_s {b : Nat → Int32} {n m r : Nat} {y : Int32} {bad : Bool} : rdD b n (m + 1) y r bad = if (!bad && isD (hrN b n r)) = true then rdD b n m (10 * y + hrN b n r - 48) (r + 1) false else rdD b n m 0 r true := rfl
theorem rdD_gw {b : Nat → Int32} {n : Nat} {v : Int32} (hn : n ≤ 100) : ∀ m q y r bad, q + m < 100 → GWt b n v (nI (q + m)) r bad → GWt b n v (nI q) (rdD b n m y r bad).2.1 (rdD b n m y r bad).2.2
  | 0, _, _, _, _, _, h => h
  | m + 1, q, y, r, bad, hq, ⟨h0, h⟩ => by
    rw [rdD_s]
    have wrong : v = nI r → GWt b n v (nI q) (rdD b n m 0 r true).2.1 (rdD b n m 0 r true).2.2 := by
      intro e
      rw [(rdD_t m 0 r).1, (rdD_t m 0 r).2]
      exact ⟨h0, Or.inr ⟨rfl, e⟩⟩
    rcases h with ⟨rfl, f, hf, e⟩ | ⟨rfl, e⟩
    · obtain ⟨f, rfl⟩ : ∃ g, f = g + 1 := ⟨f - 1, by omega⟩
      have e' : v = if n ≤ r then (if nI (q + (m + 1)) = -1 then (if n = 0 then nI n else -4) else nI n) else if nI (q + (m + 1)) = -1 then (if dkN (b r) = 0 then nI r else cw b n f (nI (dkN (b r))) (r + 1)) else if nI (q + (m + 1)) = 0 then (if b r = 59 then cw b n f (-1) (r + 1) else nI r) else if isD (b r) then cw b n f (nI (q + (m + 1)) + (-1)) (r + 1) else nI r := e
      obtain ⟨a1, a2, a3⟩ := nI_m1 (q := q + m) (by omega)
      have a0 : q + (m + 1) = q + m + 1 := rfl
      rw [a0, a1, if_neg a2, if_neg a2, if_neg a3] at e'
      by_cases c : isD (hrN b n r) = true
      · obtain ⟨c1, c2⟩ := hrN_D c
        rw [if_pos (show (!false && isD (hrN b n r)) = true by rw [c]; rfl)]
        rw [if_neg (by omega), if_pos (by rw [← c2]; exact c)] at e'
        exact rdD_gw hn m q _ (r + 1) false (by omega) ⟨by omega, Or.inl ⟨rfl, f, by omega, e'⟩⟩
      · rw [if_neg (show ¬ (!false && isD (hrN b n r)) = true by rw [Bool.eq_false_iff.2 c]; decide)]
        apply wrong
        by_cases d : n ≤ r
        · rw [if_pos d] at e'
          rw [e', show n = r by omega]
        · have : hrN b n r = b r := by unfold hrN; rw [if_neg d]
          rw [this] at c
          rw [if_neg d, if_neg c] at e'
          exact e'
    · rw [if_neg (show ¬ (!true && isD (hrN b n r)) = true by rw [Bool.not_true, Bool.false_and]; decide)]
      exact wrong e
theorem rdD_ok {b : Nat → Int32} {n : Nat} : ∀ m y r bad, (rdD b n m y r bad).2.2 = false → bad = false ∧ (rdD b n m y r bad).2.1 = r + m ∧ ∀ i, i < m → r + i < n ∧ isD (b (r + i)) = true
  | 0, _, _, _, h => ⟨h, rfl, fun i hi => absurd hi (Nat.not_lt_zero _)⟩
  | m + 1, y, r, bad, h => by
    rw [rdD_s] at h ⊢
    by_cases c : (!bad && isD (hrN b n r)) = true
    · rw [if_pos c] at h ⊢
      obtain ⟨h1, h2, h3⟩ := rdD_ok m _ _ _ h
      rw [Bool.and_eq_true] at c
      obtain ⟨c1, c2⟩ := hrN_D c.2
      refine ⟨by cases bad; rfl; exact absurd c.1 (by decide), by rw [h2]; omega, fun i hi => ?_⟩
      cases i with
      | zero => exact ⟨c1, by rw [Nat.add_zero, ← c2]; exact c.2⟩
      | succ i =>
        have := h3 i (by omega)
        rw [show r + 1 + i = r + (i + 1) by omega] at this
        exact this
    · rw [if_neg c] at h
      rw [(rdD_t m 0 r).2] at h
      cases h
/-- one digit, two digits -/
def dvN (b : Nat → Int32) (r : Nat) : Int32 := b r - 48
def tvN (b : Nat → Int32) (r : Nat) : Int32 := 10 * dvN b r + dvN b (r + 1)
theorem i_sub (a c d : Int32) : a + c - d = a + (c - d) := by
  rw [Int32.sub_eq_add_neg, Int32.sub_eq_add_neg, Int32.add_assoc]
theorem rdD_1 {b : Nat → Int32} {n r : Nat} {bad : Bool} (h : (rdD b n 1 0 r bad).2.2 = false) : (rdD b n 1 0 r bad).1 = dvN b r := by
  obtain ⟨rfl, _, h3⟩ := rdD_ok 1 0 r bad h
  have h30 : r < n ∧ isD (b r) = true := h3 0 (by omega)
  have hh : hrN b n r = b r := by unfold hrN; rw [if_neg (by omega)]
  rw [rdD_s, if_pos (show (!false && isD (hrN b n r)) = true by rw [hh]; rw [h30.2]; rfl), hh]
  show 10 * 0 + b r - 48 = b r - 48
  rw [show (10 : Int32) * 0 = 0 from rfl, Int32.zero_add]
theorem rdD_2 {b : Nat → Int32} {n r : Nat} {bad : Bool} (h : (rdD b n 2 0 r bad).2.2 = false) : (rdD b n 2 0 r bad).1 = tvN b r := by
  obtain ⟨rfl, _, h3⟩ := rdD_ok 2 0 r bad h
  have h30 : r < n ∧ isD (b r) = true := h3 0 (by omega)
  have h31 := h3 1 (by omega)
  have hh : hrN b n r = b r := by unfold hrN; rw [if_neg (by omega)]
  have hh1 : hrN b n (r + 1) = b (r + 1) := by unfold hrN; rw [if_neg (by omega)]
  rw [rdD_s, if_pos (show (!false && isD (hrN b n r)) = true by rw [hh]; rw [h30.2]; rfl), hh, rdD_s, if_pos (show (!false && isD (hrN b n (r + 1))) = true by rw [hh1]; rw [h31.2]; rfl), hh1]
  show 10 * (10 * 0 + b r - 48) + b (r + 1) - 48 = 10 * (b r - 48) + (b (r + 1) - 48)
  rw [show (10 : Int32) * 0 = 0 from rfl, Int32.zero_add, i_sub]
