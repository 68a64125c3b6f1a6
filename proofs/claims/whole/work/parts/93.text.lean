/-! ===== PURE: the text to land ===== -/
/-- how many digits stand behind a letter, 0 where it is none -/
def dkN (c : Int32) : Nat := if c = 100 then 2 else if c = 103 then 4 else if c = 104 then 2 else if c = 110 then 4 else if c = 115 then 2 else if c = 119 then 1 else 0
def isD (c : Int32) : Bool := inR c 48 57
/-- the first wrong byte, -4 for none: y is due, and i is the place -/
def cw (b : Nat → Int32) (n : Nat) : Nat → Int32 → Nat → Int32
  | 0, _, _ => -4
  | f + 1, y, i => if n ≤ i then (if y = -1 then (if n = 0 then nI n else -4) else nI n) else if y = -1 then (if dkN (b i) = 0 then nI i else cw b n f (nI (dkN (b i))) (i + 1)) else if y = 0 then (if b i = 59 then cw b n f (-1) (i + 1) else nI i) else if isD (b i) then cw b n f (y + (-1)) (i + 1) else nI i
theorem dkN_le (c : Int32) : dkN c ≤ 4 := by
  unfold dkN
  repeat' split
  all_goals omega
theorem dig_c (z : Int32) (s : St) : mX8_digitsBehind z.toInt64 s = some (if dkN z = 0 then -1 else nI (dkN z), s) := by
  unfold mX8_digitsBehind
  rw [i64_32]
  by_cases h1 : z = 100
  · subst h1; rfl
  by_cases h2 : z = 103
  · subst h2; rfl
  by_cases h3 : z = 104
  · subst h3; rfl
  by_cases h4 : z = 110
  · subst h4; rfl
  by_cases h5 : z = 115
  · subst h5; rfl
  by_cases h6 : z = 119
  · subst h6; rfl
  have : dkN z = 0 := by unfold dkN; rw [if_neg h1, if_neg h2, if_neg h3, if_neg h4, if_neg h5, if_neg h6]
  rw [if_neg h1, if_neg h2, if_neg h3, if_neg h4, if_neg h5, if_neg h6, this, if_pos rfl]
theorem isLetter_m (z : Int32) (s : St) : mX11_isLetter z s = some (b2 (!decide (dkN z = 0)), s) := by
  unfold mX11_isLetter mX11_isLetter_36
  rw [kl_e]
  by_cases h1 : z = 100
  · subst h1; rfl
  by_cases h2 : z = 103
  · subst h2; rfl
  by_cases h3 : z = 104
  · subst h3; rfl
  by_cases h4 : z = 110
  · subst h4; rfl
  by_cases h5 : z = 115
  · subst h5; rfl
  by_cases h6 : z = 119
  · subst h6; rfl
  have : dkN z = 0 := by unfold dkN; rw [if_neg h1, if_neg h2, if_neg h3, if_neg h4, if_neg h5, if_neg h6]
  rw [if_neg h1, if_neg h2, if_neg h3, if_neg h4, if_neg h5, if_neg h6, this]; rfl
theorem nI_dkN {c : Int32} (h : ¬ dkN c = 0) : ¬ nI (dkN c) = -1 ∧ ¬ nI (dkN c) = 0 := by
  have := dkN_le c
  have : dkN c = 1 ∨ dkN c = 2 ∨ dkN c = 3 ∨ dkN c = 4 := by omega
  rcases this with e | e | e | e <;> rw [e] <;> decide
theorem lg59 (z : Int32) : (lg_cmp z.toInt64 (59 : Int64) = 0) = (z = 59) := by
  rw [lg_0]
  apply propext
  constructor
  · intro h
    have := congrArg Int64.toInt32 h
    rw [i64_32] at this
    exact this
  · intro h; rw [h]; rfl
theorem fwb_c {d n : Nat} {b : Nat → Int32} {σ : St} (hn : n ≤ 100) (h4 : gI σ (10 + d) 4 = nI n) (hb : ∀ i, i < n → gL σ (19 + d) i = (b i).toInt64) : ∀ f y i, i ≤ n → n - i < f → lp (fun _ _ _ => none) (mX8_firstWrongByte_4 (10 + d)) f y (nI i) σ = some (cw b n f y i, σ)
  | 0, y, i, _, hf => absurd hf (Nat.not_lt_zero _)
  | f + 1, y, i, hi, hf => by
    have ih := fwb_c hn h4 hb f
    show mX8_firstWrongByte_4 (10 + d) (lp (fun _ _ _ => none) (mX8_firstWrongByte_4 (10 + d)) f) y (nI i) σ = some (if n ≤ i then (if y = -1 then (if n = 0 then nI n else -4) else nI n) else if y = -1 then (if dkN (b i) = 0 then nI i else cw b n f (nI (dkN (b i))) (i + 1)) else if y = 0 then (if b i = 59 then cw b n f (-1) (i + 1) else nI i) else if isD (b i) then cw b n f (y + (-1)) (i + 1) else nI i, σ)
    generalize lp (fun _ _ _ => none) (mX8_firstWrongByte_4 (10 + d)) f = J at ih ⊢
    unfold mX8_firstWrongByte_4 mX8_firstWrongByte_98 mX8_firstWrongByte_75
    simp only [kl_e, h4]
    by_cases c : n ≤ i
    · rw [if_pos (nI_le c (by omega)), if_pos c]
      by_cases y1 : y = -1
      · rw [if_pos y1, if_pos y1]
        by_cases n0 : n = 0
        · rw [if_pos n0, if_pos (by rw [n0]; decide)]
        · rw [if_neg n0, if_neg (show ¬ nI n ≤ 0 from nI_ge (b := n) (a := 0) (by omega) (by omega))]
      · rw [if_neg y1, if_neg y1]
    · have hi' : i < n := by omega
      rw [if_neg (nI_ge hi' (by omega)), if_neg c, numberAt_c hn h4 hi', hb i hi', cl2_e]
      by_cases y1 : y = -1
      · rw [if_pos y1, if_pos y1, dig_c, cl2_e]
        by_cases z : dkN (b i) = 0
        · rw [if_pos z, if_pos rfl, if_pos z]
        · rw [if_neg z, if_neg (nI_dkN z).1, if_neg z, nI_1]
          exact ih _ _ (by omega) (by omega)
      · rw [if_neg y1, if_neg y1]
        by_cases y0 : y = 0
        · rw [if_pos y0, if_pos y0]
          by_cases z : b i = 59
          · rw [if_pos ((lg59 _).symm ▸ z), if_pos z, nI_1]
            exact ih _ _ (by omega) (by omega)
          · rw [if_neg (by rw [lg59]; exact z), if_neg z]
        · rw [if_neg y0, if_neg y0]
          have e1 : (lg_cmp (b i).toInt64 (48 : Int64) < 0) = (b i < 48) := by rw [lg_lt]; exact il_lt (b i) 48
          have e2 : (lg_cmp (b i).toInt64 (57 : Int64) ≤ 0) = (b i ≤ 57) := by rw [lg_le]; exact il_le (b i) 57
          by_cases z1 : b i < 48
          · rw [if_pos (e1.symm ▸ z1), if_neg (show ¬ isD (b i) = true by unfold isD inR; rw [decide_eq_false (Int32.not_le.2 z1), Bool.false_and]; decide)]
          · rw [if_neg (by rw [e1]; exact z1)]
            by_cases z2 : b i ≤ 57
            · rw [if_pos (e2.symm ▸ z2), if_pos (show isD (b i) = true by unfold isD inR; rw [decide_eq_true (Int32.not_lt.1 z1), decide_eq_true z2]; rfl), nI_1]
              exact ih _ _ (by omega) (by omega)
            · rw [if_neg (by rw [e2]; exact z2), if_neg (show ¬ isD (b i) = true by unfold isD inR; rw [decide_eq_false z2, Bool.and_false]; decide)]
theorem wrongByte_c {d n : Nat} {b : Nat → Int32} {σ : St} (hn : n ≤ 100) (h4 : gI σ (10 + d) 4 = nI n) (hb : ∀ i, i < n → gL σ (19 + d) i = (b i).toInt64) : mX8_firstWrongByte (10 + d) σ = some (cw b n 2000 (-1) 0, σ) := by
  unfold mX8_firstWrongByte
  rw [kl_e]
  exact fwb_c hn h4 hb 2000 (-1) 0 (by omega) (by omega)
