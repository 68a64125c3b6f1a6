/-! ===== PURE: set, shelves ===== -/
theorem dist_c (a : Int32) (σ : St) : mX10_isDistance a σ = some (b2 (inR a 0 20), σ) := by
  unfold mX10_isDistance inR
  by_cases h : a < 0
  · rw [if_pos h]; simp [Int32.not_le.2 h, b2, rz_0]
  · rw [if_neg h]
    by_cases h2 : 20 < a
    · rw [if_pos h2]; simp [Int32.not_le.2 h2, b2, rz_0]
    · rw [if_neg h2]; simp [Int32.not_lt.1 h, Int32.not_lt.1 h2, b2, rz_1]
theorem way_c (a : Int32) (σ : St) : mX10_isWay a σ = some (b2 (inR a 0 4), σ) := by
  unfold mX10_isWay inR
  have e : (a ≤ 4) = ¬ (5 ≤ a) := by
    apply propext
    rw [Int32.le_iff_toInt_le, Int32.le_iff_toInt_le, show (4 : Int32).toInt = 4 from rfl, show (5 : Int32).toInt = 5 from rfl]
    omega
  by_cases h : a < 0
  · rw [if_pos h]; simp [Int32.not_le.2 h, b2, rz_0]
  · rw [if_neg h]
    by_cases h2 : 5 ≤ a
    · rw [if_pos h2]; simp [e, h2, b2, rz_0]
    · rw [if_neg h2]; simp [e, Int32.not_lt.1 h, h2, b2, rz_1]
theorem shelf_c (a : Int32) (σ : St) : mX10_isShelf a σ = some (b2 (inR a 0 7), σ) := by
  unfold mX10_isShelf inR
  have e : (a ≤ 7) = ¬ (8 ≤ a) := by
    apply propext
    rw [Int32.le_iff_toInt_le, Int32.le_iff_toInt_le, show (7 : Int32).toInt = 7 from rfl, show (8 : Int32).toInt = 8 from rfl]
    omega
  by_cases h : a < 0
  · rw [if_pos h]; simp [Int32.not_le.2 h, b2, rz_0]
  · rw [if_neg h]
    by_cases h2 : 8 ≤ a
    · rw [if_pos h2]; simp [e, h2, b2, rz_0]
    · rw [if_neg h2]; simp [e, Int32.not_lt.1 h, h2, b2, rz_1]
theorem shelf_or (a : Int32) : inR a 0 7 = false ∨ ∃ d, d < 8 ∧ a = nI d ∧ inR a 0 7 = true := by
  rcases inR_or a 7 (by omega) with ⟨h, _⟩ | ⟨j, h1, h2, h3⟩
  · exact Or.inl h
  · exact Or.inr ⟨j, h1, h2, h3⟩
theorem shelfAt_c {d : Nat} (h : d < 8) (σ : St) : mX10_shelfAt (nI d) σ = some (10 + d, σ) := by
  unfold mX10_shelfAt mX10_shelfAt_22
  rw [kl_e, if_neg (nI_pos (by omega)), if_neg (show ¬ (8 : Int32) ≤ nI d from nI_ge (b := 8) h (by omega)), ldR_n h]
theorem in7_m (a : Int32) (σ : St) : mX11_in a.toInt64 (0 : Int64) (7 : Int64) σ = some (b2 (inR a 0 7), σ) := in_m a 0 7 σ
theorem ldA_8 {ρ : Type} {σ : St} {a i : Nat} {f : Int32 → Option ρ} (h : i < 8) : ldA σ a 8 (nI i) f = f (gA σ a i) := ldA_n h (by omega)
theorem stA_8 {ρ : Type} {σ : St} {a i : Nat} {v : Int32} {f : St → Option ρ} (h : i < 8) : stA σ a 8 (nI i) v f = f (pA σ a i v) := stA_n h (by omega)
/-- what a refusal says of shelf d that should hold w -/
def rfs (σ : St) (d : Nat) (w : Int32) : Int32 := if gI σ (10 + d) 0 = 0 then -11 else if gI σ (10 + d) 0 = w then 0 else -12
theorem unless_c {d : Nat} (h : d < 8) (w : Int32) (σ : St) : mX10_refusalUnless (nI d) w σ = some (rfs σ d w, σ) := by
  unfold mX10_refusalUnless rfs
  have : inR (nI d) 0 7 = true := (inR_n (n := 7) (by omega)).2 ⟨d, h, rfl⟩
  simp only [shelf_c, this, b2_t, cl2_e, if_neg n10, shelfAt_c h, kl_e]
  repeat' split
  all_goals rfl
theorem unless_n {a : Int32} (h : inR a 0 7 = false) (w : Int32) (σ : St) : mX10_refusalUnless a w σ = some (-1, σ) := by
  unfold mX10_refusalUnless
  simp only [shelf_c, h, b2_f, cl2_e, ite_true]
theorem wrongRow_m {d : Nat} (h : d < 8) {σ τ : St} (hs : Shok σ d) (hc : core τ = core σ) : mX11_wrongRow (nI d) τ = some (rfs σ d 2, τ) := by
  unfold mX11_wrongRow rfs
  have : inR (nI d) 0 7 = true := (inR_n (n := 7) (by omega)).2 ⟨d, h, rfl⟩
  simp only [in7_m, this, b2_t, cl2_e, if_neg n10, ldA_8 h, core_A hc 48 d rfl, hs.1]
  repeat' split
  all_goals rfl
theorem wrongKept_m {d : Nat} (h : d < 8) {σ τ : St} (hs : Shok σ d) (hc : core τ = core σ) : mX11_wrongKept (nI d) τ = some (rfs σ d 1, τ) := by
  unfold mX11_wrongKept rfs
  have : inR (nI d) 0 7 = true := (inR_n (n := 7) (by omega)).2 ⟨d, h, rfl⟩
  simp only [in7_m, this, b2_t, cl2_e, if_neg n10, ldA_8 h, core_A hc 48 d rfl, hs.1]
  repeat' split
  all_goals rfl
theorem wrongRow_n {a : Int32} (h : inR a 0 7 = false) (σ : St) : mX11_wrongRow a σ = some (-1, σ) := by
  unfold mX11_wrongRow
  simp only [in7_m, h, b2_f, cl2_e, ite_true]
theorem wrongKept_n {a : Int32} (h : inR a 0 7 = false) (σ : St) : mX11_wrongKept a σ = some (-1, σ) := by
  unfold mX11_wrongKept
  simp only [in7_m, h, b2_f, cl2_e, ite_true]
def coC (k f : Int32) : Int32 := if k = 1 then 1 else if k = 2 then 4 else if k = 3 then 8 else if k = 4 then (if 1 < 8 - f then 8 - f else 1) else if k = 5 then 9 else if k = 6 then 9 + f else if k = 7 then 3 + f else 3
def coM (k f : Int32) : Int32 := if k = 0 then 3 else if k = 1 then 1 else if k = 2 then 4 else if k = 3 then 8 else if k = 4 then (if f ≤ 7 then 8 - f else 1) else if k = 5 then 9 else if k = 6 then 9 + f else 3 + f
theorem co_t : ∀ k, k < 8 → ∀ f, f < 10 → coC (nI k) (nI f) = coM (nI k) (nI f) := by decide +kernel
theorem costOf_c (k f : Int32) (σ : St) : mX2_costOf k f σ = some (coC k f, σ) := by
  unfold mX2_costOf coC
  repeat' split
  all_goals rfl
theorem costOf_m (k f : Int32) (σ : St) : mX11_costOf k f σ = some (coM k f, σ) := by
  unfold mX11_costOf coM
  repeat' split
  all_goals rfl
theorem rfs_0 {σ : St} {d : Nat} {w : Int32} : (rfs σ d w = 0) = (¬ gI σ (10 + d) 0 = 0 ∧ gI σ (10 + d) 0 = w) := by
  unfold rfs
  apply propext
  by_cases h : gI σ (10 + d) 0 = 0
  · simp [h]
  · by_cases h2 : gI σ (10 + d) 0 = w <;> simp [h, h2]
theorem rfs_ge {σ : St} {d : Nat} {w : Int32} : (0 ≤ rfs σ d w) = (rfs σ d w = 0) := by
  unfold rfs
  apply propext
  by_cases h : gI σ (10 + d) 0 = 0
  · rw [if_pos h]; decide
  · rw [if_neg h]
    by_cases h2 : gI σ (10 + d) 0 = w
    · rw [if_pos h2]; decide
    · rw [if_neg h2]; decide
theorem s_cost : stp132 Inv mX10_cost mX11_cost := by
  intro σ a hI
  rcases shelf_or a with h | ⟨d, hd, rfl, _⟩
  · refine ag (f := mX10_cost a) (g := mX11_cost a) (v := -1) (ρ := σ) (τ := pI σ 45 16 0) ?_ ?_ c16 hI
    · unfold mX10_cost mX10_refusalOfGround
      simp only [unless_n h, cl2_e]
      rfl
    · unfold mX11_cost
      simp only [wrongKept_n h, cl2_e, kl_e]
      rfl
  have hs := hI.2.2.2.2 d hd
  by_cases q : rfs σ d 1 = 0
  · have q' := q
    rw [rfs_0] at q'
    obtain ⟨_, hh⟩ := hs
    rcases hh with hh | ⟨_, k, f, hk, hf, e1, e2, e3, e4⟩ | ⟨hh, _⟩
    · exact absurd hh q'.1
    · refine ag (f := mX10_cost (nI d)) (g := mX11_cost (nI d)) (v := coC (nI k) (nI f)) (ρ := σ) (τ := pI σ 45 16 0) ?_ ?_ c16 hI
      · unfold mX10_cost mX10_refusalOfGround
        simp only [unless_c hd, cl2_e, q, ite_true, shelfAt_c hd, kl_e, e1, e3, costOf_c]
      · unfold mX11_cost
        simp only [wrongKept_m hd (hI.2.2.2.2 d hd) c16, cl2_e, kl_e, q, ldA_8 hd, core_A c16 49 d rfl, core_A c16 50 d rfl, e2, e4, costOf_m]
        rw [if_pos (by decide), co_t k hk f hf]
    · rw [q'.2] at hh; exact absurd hh (by decide)
  · refine ag (f := mX10_cost (nI d)) (g := mX11_cost (nI d)) (v := rfs σ d 1) (ρ := σ) (τ := pI σ 45 16 0) ?_ ?_ c16 hI
    · unfold mX10_cost mX10_refusalOfGround
      simp only [unless_c hd, cl2_e, if_neg q]
    · unfold mX11_cost
      simp only [wrongKept_m hd hs c16, cl2_e, kl_e, rfs_ge, if_neg q]
def toV (k f : Int32) : Int32 := if k = 1 then -15 else if f = 0 then -15 else if k = 2 then 100 + f else if k = 3 then 100 + f else if k = 4 then 200 + coM k f else f
theorem toss_t (k f : Int32) (h : coC k f = coM k f) (σ : St) : (if k = 1 ∨ f = 0 then some ((-15 : Int32), σ) else if k = 4 then cl2 (mX2_costOf k f σ) (fun x7 s4 => some (200 + x7, s4)) else if k = 2 ∨ k = 3 then some (100 + f, σ) else some (f, σ)) = some (toV k f, σ) := by
  rw [costOf_c, cl2_e, h]
  unfold toV
  by_cases h1 : k = 1
  · simp [h1]
  by_cases h0 : f = 0
  · simp [h0]
  by_cases h4 : k = 4
  · subst h4; simp [h0]
  by_cases h2 : k = 2
  · subst h2; simp [h0]
  by_cases h3 : k = 3
  · subst h3; simp [h0]
  simp [h1, h0, h4, h2, h3]
theorem s_toss (σ : St) (a : Int32) (hI : Inv σ) : ∃ (v : Int32) (σ1 σ2 : St), mX10_toss a σ = some (v, σ1) ∧ mX11_toss a σ1 = some (v, σ2) ∧ Inv σ2 := by
  rcases shelf_or a with h | ⟨d, hd, rfl, _⟩
  · refine ag (f := mX10_toss a) (g := mX11_toss a) (v := -1) (ρ := σ) (τ := pI σ 45 16 0) ?_ ?_ c16 hI
    · unfold mX10_toss mX10_refusalOfGround
      simp only [unless_n h, cl2_e]
      rfl
    · unfold mX11_toss
      simp only [wrongKept_n h, cl2_e, kl_e]
      rfl
  have hs := hI.2.2.2.2 d hd
  by_cases q : rfs σ d 1 = 0
  · have q' := q
    rw [rfs_0] at q'
    obtain ⟨_, hh⟩ := hs
    rcases hh with hh | ⟨_, k, f, hk, hf, e1, e2, e3, e4⟩ | ⟨hh, _⟩
    · exact absurd hh q'.1
    · refine ag (f := mX10_toss (nI d)) (g := mX11_toss (nI d)) (v := toV (nI k) (nI f)) (ρ := σ) (τ := pI σ 45 16 0) ?_ ?_ c16 hI
      · unfold mX10_toss mX10_refusalOfGround
        simp only [unless_c hd, cl2_e, q, ite_true, shelfAt_c hd, kl_e, e1, e3]
        exact toss_t _ _ (co_t k hk f hf) σ
      · unfold mX11_toss mX11_toss_55
        simp only [wrongKept_m hd (hI.2.2.2.2 d hd) c16, cl2_e, kl_e, q, ldA_8 hd, core_A c16 49 d rfl, core_A c16 50 d rfl, e2, e4, costOf_m]
        rw [if_pos (by decide)]
        unfold toV
        repeat' split
        all_goals rfl
    · rw [q'.2] at hh; exact absurd hh (by decide)
  · refine ag (f := mX10_toss (nI d)) (g := mX11_toss (nI d)) (v := rfs σ d 1) (ρ := σ) (τ := pI σ 45 16 0) ?_ ?_ c16 hI
    · unfold mX10_toss mX10_refusalOfGround
      simp only [unless_c hd, cl2_e, if_neg q]
    · unfold mX11_toss
      simp only [wrongKept_m hd hs c16, cl2_e, kl_e, rfs_ge, if_neg q]
