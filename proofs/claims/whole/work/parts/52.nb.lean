/-! ===== PURE: neighbours, sets of passable cells, spreading ===== -/
theorem lt36 {i : Nat} (h : i < 36) : ¬ (36 : Int32) ≤ nI i := nI_ge (b := 36) h (by omega)
theorem at36 : (36 : Int32) ≤ nI 36 := nI_le (a := 36) (Nat.le_refl _) (by omega)
def nbo (c d : Nat) : Option Nat := if d = 0 then some c else if d = 1 then (if 6 ≤ c then some (c - 6) else none) else if d = 2 then (if c % 6 = 0 then none else some (c - 1)) else if d = 3 then (if c % 6 = 5 then none else some (c + 1)) else (if c ≤ 29 then some (c + 6) else none)
def oi : Option Nat → Int32
  | some e => nI e
  | none => -4
theorem nbo_lt : ∀ c, c < 36 → ∀ d, d < 5 → ∀ e, e < 42 → nbo c d = some e → e < 36 := by decide +kernel
theorem nbo_lt' {c d e : Nat} (hc : c < 36) (hd : d < 5) (h : nbo c d = some e) : e < 36 := by
  have h2 : e < 42 := by
    unfold nbo at h
    repeat' split at h
    all_goals first | (cases h; omega) | cases h
  exact nbo_lt c hc d hd e h2 h
def ctV (a0 a1 : Int32) : Int32 := if a1 = (0 : Int32) then a0 else (if a1 = (1 : Int32) then (if a0 < (6 : Int32) then (-4 : Int32) else a0 - (6 : Int32)) else (if a1 = (2 : Int32) then (if (a0 - a0 / (6 : Int32) * (6 : Int32)) ≤ 0 then -4 else a0 - (1 : Int32)) else (if a1 = (3 : Int32) then (if (5 : Int32) ≤ (a0 - a0 / (6 : Int32) * (6 : Int32)) then -4 else a0 + (1 : Int32)) else (if a1 = (4 : Int32) then (if (30 : Int32) ≤ a0 then -4 else a0 + (6 : Int32)) else -4))))
def bsV (a0 a1 : Int32) : Int32 := if a1 = (1 : Int32) then (if (6 : Int32) ≤ a0 then a0 - (6 : Int32) else -4) else (if a1 = (2 : Int32) then (if (a0 - a0 / (6 : Int32) * (6 : Int32)) = 0 then -4 else a0 - (1 : Int32)) else (if a1 = (3 : Int32) then (if (a0 - a0 / (6 : Int32) * (6 : Int32)) = (5 : Int32) then -4 else a0 + (1 : Int32)) else (if a1 = (4 : Int32) then (if a0 ≤ (29 : Int32) then a0 + (6 : Int32) else -4) else a0)))
theorem ctV_t : ∀ c, c < 36 → ∀ d, d < 5 → ctV (nI c) (nI d) = oi (nbo c d) := by decide +kernel
theorem bsV_t : ∀ c, c < 36 → ∀ d, d < 5 → bsV (nI c) (nI d) = oi (nbo c d) := by decide +kernel
theorem cellTo_c {c d : Nat} (hc : c < 36) (hd : d < 5) (σ : St) : mX7_cellTo (nI c) (nI d) σ = some (oi (nbo c d), σ) := by
  rw [← ctV_t c hc d hd]
  unfold mX7_cellTo ctV
  simp only [cell_c hc, cl2_e, if_neg n10]
  repeat' split
  all_goals rfl
theorem beside_m {c d : Nat} (hc : c < 36) (hd : d < 5) (σ : St) : mX11_beside (nI c) (nI d) σ = some (oi (nbo c d), σ) := by
  rw [← bsV_t c hc d hd]
  unfold mX11_beside bsV
  repeat' split
  all_goals rfl
theorem ncell_c {a : Int32} (h : inR a 0 35 = false) (σ : St) : mX10_isCell a.toInt64 σ = some (0, σ) := by
  rw [isCell_c, h]; rfl
theorem isOpen_n {o : Nat} {a : Int32} (h : inR a 0 35 = false) (σ : St) : mX3_isOpen o a σ = some (0, σ) := by
  unfold mX3_isOpen
  simp only [ncell_c h, cl2_e, ite_true]
  rfl
/-- where one comes from c by d, on the passable set O -/
def gone (O : Nat → Bool) (c d : Nat) : Option Nat := if d = 0 then some c else match nbo c d with
  | some e => if O e then some e else none
  | none => none
theorem gone_lt {O : Nat → Bool} {c d e : Nat} (hc : c < 36) (hd : d < 5) (h : gone O c d = some e) : e < 36 := by
  unfold gone at h
  by_cases h0 : d = 0
  · rw [if_pos h0] at h; cases h; exact hc
  · rw [if_neg h0] at h
    cases hn : nbo c d with
    | none => rw [hn] at h; cases h
    | some q =>
      rw [hn] at h
      by_cases hO : O q = true
      · rw [show (match some q with | some e => if O e then some e else none | none => none) = if O q then some q else none from rfl, if_pos hO] at h
        cases h
        exact nbo_lt' hc hd hn
      · rw [show (match some q with | some e => if O e then some e else none | none => none) = if O q then some q else none from rfl, if_neg hO] at h
        cases h
theorem nI_0' {d : Nat} (h : d < 2 ^ 31) : (nI d = 0) = (d = 0) := by
  apply propext
  have := nI_eq (a := d) (b := 0) h (by omega)
  rwa [nI_0] at this
theorem oi_lt0 {c : Option Nat} (h : ∀ e, c = some e → e < 36) : (oi c < 0) = (c = none) := by
  apply propext
  cases c with
  | none => simp [oi]
  | some e => simp only [oi, nI_lt0 (n := e) (by have := h e rfl; omega)]; simp
theorem oi_4 {c : Option Nat} (h : ∀ e, c = some e → e < 36) : (oi c = -4) = (c = none) := by
  apply propext
  cases c with
  | none => simp [oi]
  | some e =>
    have : ∀ e, e < 36 → nI e ≠ -4 := by decide +kernel
    have := this e (h e rfl)
    simp [oi, this]
theorem cellBy_c {o c d : Nat} (hc : c < 36) (hd : d < 5) (σ : St) : mX3_cellBy o (nI c) (nI d) σ = some (oi (gone (Op (ld σ o)) c d), σ) := by
  unfold mX3_cellBy mX3_cellBy_18
  simp only [cellTo_c hc hd, cl2_e, kl_e]
  by_cases h0 : d = 0
  · subst h0
    rw [if_pos nI_0]
    rfl
  · rw [if_neg (by rw [nI_0' (by omega)]; exact h0)]
    unfold gone
    rw [if_neg h0]
    cases hn : nbo c d with
    | none =>
      rw [show oi none = -4 from rfl, isOpen_n (by decide)]
      rfl
    | some e =>
      have he := nbo_lt' hc hd hn
      simp only [oi, isOpen_c he, cl2_e, b2_c]
      cases Op (ld σ o) e <;> rfl
/-- what the reference takes for passable: thoughtOpen is -4 or a cell -/
def Om (σ : St) (c : Nat) : Bool := decide (nI c = gI σ 45 17) || Op (lm σ) c
theorem isOpen_M {c : Nat} (h : c < 36) (σ : St) : mX11_isOpen (nI c) σ = some (b2 (Om σ c), σ) := isOpen_m h σ
theorem goneTo_m {c d : Nat} (hc : c < 36) (hd : d < 5) (σ : St) : mX11_goneTo (nI c) (nI d) σ = some (oi (gone (Om σ) c d), σ) := by
  unfold mX11_goneTo mX11_goneTo_22
  simp only [beside_m hc hd, cl2_e, kl_e]
  by_cases h0 : d = 0
  · subst h0
    rw [if_pos nI_0]
    rfl
  · rw [if_neg (by rw [nI_0' (by omega)]; exact h0)]
    unfold gone
    rw [if_neg h0]
    cases hn : nbo c d with
    | none =>
      rw [show oi none = -4 from rfl, if_pos (by decide)]
    | some e =>
      have he := nbo_lt' hc hd hn
      simp only [oi, nI_lt0 (n := e) (by omega), if_false, isOpen_M he, cl2_e, b2_c]
      cases Om σ e <;> rfl
/-! sets of cells as bits, on both sides -/
theorem sh_c {c : Nat} (h : c < 36) : (1 : Int64) <<< ((nI c).toInt64 &&& 63) = bs (fun j => decide (j = c)) := by
  rw [sh_eq (by omega), bs_bit h]
theorem bit_c {c : Nat} (h : c < 36) (σ : St) : mX7_bit (nI c) σ = some (bs (fun j => decide (j = c)), σ) := by
  unfold mX7_bit
  rw [if_neg (nI_pos (by omega)), if_neg (lt36 h), sh_c h]
theorem bit_n {a : Int32} (h : inR a 0 35 = false) (σ : St) : mX7_bit a σ = some (0, σ) := by
  unfold mX7_bit
  by_cases h1 : a < 0
  · rw [if_pos h1]
  · rw [if_neg h1, if_pos]
    obtain ⟨j, hj, rfl⟩ := nI_of h1
    rcases Nat.lt_or_ge j 36 with q | q
    · rw [show (35 : Int32) = nI 35 from rfl, (inR_n (by omega)).2 ⟨j, q, rfl⟩] at h; cases h
    · exact nI_le (a := 36) q hj
theorem has_c {S : Nat → Bool} {c : Nat} (h : c < 36) (σ : St) : mX7_has (bs S) (nI c) σ = some (b2 (S c), σ) := by
  unfold mX7_has
  simp only [bit_c h, cl2_e, lg_0, bs_and, bs_z]
  cases hS : S c
  · rw [if_pos (by intro j hj; by_cases e : j = c; subst e; simp [hS]; simp [e])]; rfl
  · rw [if_neg (by intro q; have := q c h; simp [hS] at this)]; rfl
theorem has_n {x : Int64} {a : Int32} (h : inR a 0 35 = false) (σ : St) : mX7_has x a σ = some (0, σ) := by
  unfold mX7_has
  simp only [bit_n h, cl2_e, lg_0]
  rw [if_pos (by simp)]; rfl
theorem isOn_m {S : Nat → Bool} {c : Nat} (h : c < 36) (σ : St) : mX11_isOn (bs S) (nI c) σ = some (b2 (S c), σ) := by
  unfold mX11_isOn
  rw [sh_eq (by omega)]
  simp only [lg_0]
  have e : (bs S >>> lN c) &&& (1 : Int64) = if S c then 1 else 0 := by
    apply bt_ext
    intro j hj
    rw [bt_and, bt_one, bt_shr (by omega)]
    by_cases h0 : j = 0
    · subst h0
      rw [if_pos (by omega), bt_bs]
      cases hS : S c
      · simp [hS, bt_0]
      · simp [hS, h, bt_one]
    · cases hS : S c
      · simp [h0, bt_0]
      · simp [h0, bt_one]
  rw [e]
  cases S c <;> rfl
theorem openCells_c {o : Nat} (σ : St) : mX3_openCells o σ = some (bs (Op (ld σ o)), σ) := by
  unfold mX3_openCells
  rw [kl_e]
  refine lp_for (app := fun i (J : Int64 → Int32 → St → Option (Int64 × St)) => J (bsn (Op (ld σ o)) i) (nI i) σ) 36 _ ?_ ?_ 2000 (by omega)
  · intro i hi J
    unfold mX3_openCells_4 mX3_openCells_25
    rw [if_neg (lt36 hi)]
    simp only [isOpen_c hi, cl2_e, kl_e, b2_c, bit_c hi, nI_1]
    rw [show bsn (Op (ld σ o)) (i + 1) = if Op (ld σ o) i then bsn (Op (ld σ o)) i ||| ((1 : Int64) <<< lN i) else bsn (Op (ld σ o)) i from rfl, bs_bit hi]
    cases Op (ld σ o) i <;> rfl
  · intro J
    unfold mX3_openCells_4
    rw [if_pos at36]
    rfl
theorem openCells_m (σ : St) : mX11_openCells σ = some (bs (Om σ), σ) := by
  unfold mX11_openCells
  rw [kl_e]
  refine lp_for (app := fun i (J : Int64 → Int32 → St → Option (Int64 × St)) => J (bsn (Om σ) i) (nI i) σ) 36 _ ?_ ?_ 2000 (by omega)
  · intro i hi J
    unfold mX11_openCells_4 mX11_openCells_26
    rw [if_neg (lt36 hi)]
    simp only [isOpen_M hi, cl2_e, kl_e, b2_c, nI_1, sh_c hi]
    rw [show bsn (Om σ) (i + 1) = if Om σ i then bsn (Om σ) i ||| ((1 : Int64) <<< lN i) else bsn (Om σ) i from rfl, bs_bit hi]
    cases Om σ i
    · rw [if_neg (by decide), if_neg (by decide), show bsn (Om σ) i ||| 0 = bsn (Om σ) i from by simp]
    · rfl
  · intro J
    unfold mX11_openCells_4
    rw [if_pos at36]
    rfl
