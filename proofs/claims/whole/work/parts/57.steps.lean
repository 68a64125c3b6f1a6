/-! ===== PURE: the reference's rows of steps ===== -/
theorem Om_core {σ τ : St} (h : core σ = core τ) : Om σ = Om τ := by
  funext c
  unfold Om
  rw [lm_core h, core_I h 45 17 rfl]
def sv (d : Nat) : Int32 := if d < 36 then nI d else 99
theorem gA_pA_ne {σ : St} {a i a' i' : Nat} {v : Int32} (h : ¬ (a' = a ∧ i' = i)) : gA (pA σ a i v) a' i' = gA σ a' i' := by rw [gA_pA, if_neg h]
theorem gA_pA_eq {σ : St} {a i : Nat} {v : Int32} : gA (pA σ a i v) a i = v := by rw [gA_pA, if_pos ⟨rfl, rfl⟩]
theorem laySteps_m {a : Nat} (ha : a < 36) (σ : St) : ∃ τ, mX11_layStepsFrom (nI a) σ = some τ ∧ core τ = core σ ∧ ∀ e, e < 36 → gA τ 59 e = sv (dst (Om σ) a e) := by
  unfold mX11_layStepsFrom
  rw [kl_e]
  refine lp_rel (app := fun i (s : St) (J : Int32 → St → Option St) => J (nI i) s) (P := fun i s => core s = core σ ∧ ∀ e, e < i → gA s 59 e = 99) 36 (Q := fun r => ∃ τ, r = some τ ∧ core τ = core σ ∧ ∀ e, e < 36 → gA τ 59 e = sv (dst (Om σ) a e)) ?_ ?_ 2000 (by omega) σ ⟨rfl, fun e he => by omega⟩
  · intro i s hi ⟨h1, h2⟩ J
    refine ⟨pA s 59 i 99, ⟨by rw [core_pA rfl, h1], fun e he => ?_⟩, ?_⟩
    · by_cases q : e = i
      · subst q; exact gA_pA_eq
      · rw [gA_pA_ne (by omega)]; exact h2 e (by omega)
    · unfold mX11_layStepsFrom_2
      rw [if_neg (lt36 hi), stA_36 hi, nI_1]
  · intro s ⟨h1, h2⟩ J
    show ∃ τ, mX11_layStepsFrom_2 (nI a) J (nI 36) s = some τ ∧ _
    unfold mX11_layStepsFrom_2
    rw [if_pos at36]
    simp only [openCells_m, cl2_e, kl_e, sh_c ha]
    rw [show (bs fun j => decide (j = a)) = bs (one a) from rfl, start_c, Om_core h1]
    refine lp_rel (app := fun n (s : St) (J : Int64 → Int32 → St → Option St) => J (bs (Gr (Om σ) (one a) n)) (nI n) s) (P := fun n s => core s = core σ ∧ ∀ e, e < 36 → gA s 59 e = if dst (Om σ) a e < n then nI (dst (Om σ) a e) else 99) 36 (Q := fun r => ∃ τ, r = some τ ∧ core τ = core σ ∧ ∀ e, e < 36 → gA τ 59 e = sv (dst (Om σ) a e)) ?_ ?_ 2000 (by omega) s ⟨h1, fun e he => by rw [h2 e he, if_neg (by omega)]⟩
    · intro n s hn ⟨h1, h2⟩ J
      show ∃ x', (core x' = core σ ∧ ∀ e, e < 36 → gA x' 59 e = if dst (Om σ) a e < n + 1 then nI (dst (Om σ) a e) else 99) ∧ mX11_layStepsFrom_34 J (bs (Gr (Om σ) (one a) n)) (nI n) s = J (bs (Gr (Om σ) (one a) (n + 1))) (nI (n + 1)) x'
      unfold mX11_layStepsFrom_34
      rw [if_neg (lt36 hn), kl_e]
      refine lp_rel (app := fun i (s : St) (J : Int32 → St → Option St) => J (nI i) s) (P := fun i s => core s = core σ ∧ (∀ e, e < i → gA s 59 e = if dst (Om σ) a e < n + 1 then nI (dst (Om σ) a e) else 99) ∧ ∀ e, i ≤ e → e < 36 → gA s 59 e = if dst (Om σ) a e < n then nI (dst (Om σ) a e) else 99) 36 (Q := fun r => ∃ x', (core x' = core σ ∧ ∀ e, e < 36 → gA x' 59 e = if dst (Om σ) a e < n + 1 then nI (dst (Om σ) a e) else 99) ∧ r = J (bs (Gr (Om σ) (one a) (n + 1))) (nI (n + 1)) x') ?_ ?_ 2000 (by omega) s ⟨h1, fun e he => by omega, fun e _ he => h2 e he⟩
      · intro i s hi ⟨g1, g2, g3⟩ J'
        have hrow := g3 i (Nat.le_refl _) hi
        have base : ∀ v : Int32, v = (if dst (Om σ) a i < n + 1 then nI (dst (Om σ) a i) else 99) → (core (pA s 59 i v) = core σ ∧ (∀ e, e < i + 1 → gA (pA s 59 i v) 59 e = if dst (Om σ) a e < n + 1 then nI (dst (Om σ) a e) else 99) ∧ ∀ e, i + 1 ≤ e → e < 36 → gA (pA s 59 i v) 59 e = if dst (Om σ) a e < n then nI (dst (Om σ) a e) else 99) := by
          intro v hv
          refine ⟨by rw [core_pA rfl, g1], fun e he => ?_, fun e h1 h2 => by rw [gA_pA_ne (by omega)]; exact g3 e (by omega) h2⟩
          by_cases q : e = i
          · subst q; rw [gA_pA_eq]; exact hv
          · rw [gA_pA_ne (by omega)]; exact g2 e (by omega)
        refine ⟨pA s 59 i (if dst (Om σ) a i < n + 1 then nI (dst (Om σ) a i) else 99), base _ rfl, ?_⟩
        show mX11_layStepsFrom_44 (bs (Gr (Om σ) (one a) n)) J (nI n) J' (nI i) s = J' (nI (i + 1)) _
        unfold mX11_layStepsFrom_44 mX11_layStepsFrom_90 mX11_layStepsFrom_83
        rw [if_neg (lt36 hi)]
        simp only [isOn_m hi, cl2_e, kl_e, b2_c, ldA_36 hi, stA_36 hi, nI_1]
        rw [hrow, Gr_dst hn]
        by_cases q : dst (Om σ) a i ≤ n
        · rw [decide_eq_true q, if_pos rfl, if_pos (show dst (Om σ) a i < n + 1 by omega)]
          by_cases q2 : dst (Om σ) a i < n
          · rw [if_pos q2, if_pos (nI_le (by omega) (by omega))]
          · rw [if_neg q2, if_neg (show ¬ (99 : Int32) ≤ nI n from nI_ge (b := 99) (by omega) (by omega)), show dst (Om σ) a i = n by omega]
        · rw [decide_eq_false q, if_neg (by decide), if_neg (show ¬ dst (Om σ) a i < n by omega), if_neg (show ¬ dst (Om σ) a i < n + 1 by omega)]
      · intro s ⟨g1, g2, _⟩ J'
        refine ⟨s, ⟨g1, g2⟩, ?_⟩
        show mX11_layStepsFrom_44 (bs (Gr (Om σ) (one a) n)) J (nI n) J' (nI 36) s = _
        unfold mX11_layStepsFrom_44
        rw [if_pos at36]
        simp only [goOn_m, cl2_e, nI_1]
        rw [Om_core g1]
        rfl
    · intro s ⟨h1, h2⟩ J
      refine ⟨s, ?_, h1, fun e he => by rw [h2 e he]; rfl⟩
      show mX11_layStepsFrom_34 J _ (nI 36) s = some s
      unfold mX11_layStepsFrom_34
      rw [if_pos at36]
theorem sv_99 {d : Nat} (h : d ≤ 36) : ((99 : Int32) ≤ sv d) = (d = 36) := by
  apply propext
  unfold sv
  by_cases q : d < 36
  · rw [if_pos q]
    constructor
    · intro h2; exact absurd h2 (nI_ge (b := 99) (by omega) (by omega))
    · intro h2; omega
  · rw [if_neg q]
    constructor
    · intro _; omega
    · intro _; exact Int32.le_refl _
theorem partWith_m {a : Nat} (ha : a < 36) (σ : St) : ∃ τ, mX11_partWith (nI a) σ = some (bs (Gr (Om σ) (one a) 35), τ) ∧ core τ = core σ ∧ ∀ e, e < 36 → gA τ 59 e = sv (dst (Om σ) a e) := by
  obtain ⟨τ, h1, h2, h3⟩ := laySteps_m ha σ
  refine ⟨τ, ?_, h2, h3⟩
  unfold mX11_partWith
  rw [h1, cl1_e, kl_e]
  refine lp_for (app := fun i (J : Int64 → Int32 → St → Option (Int64 × St)) => J (bsn (Gr (Om σ) (one a) 35) i) (nI i) τ) 36 _ ?_ ?_ 2000 (by omega)
  · intro i hi J
    unfold mX11_partWith_10 mX11_partWith_38
    rw [if_neg (lt36 hi)]
    simp only [ldA_36 hi, kl_e, sh_c hi, nI_1, h3 i hi, sv_99 (dst_le _ _ _)]
    rw [show bsn (Gr (Om σ) (one a) 35) (i + 1) = if Gr (Om σ) (one a) 35 i then bsn (Gr (Om σ) (one a) 35) i ||| ((1 : Int64) <<< lN i) else bsn (Gr (Om σ) (one a) 35) i from rfl, bs_bit hi]
    have hl := dst_le (Om σ) a i
    by_cases q : dst (Om σ) a i = 36
    · have : ¬ Gr (Om σ) (one a) 35 i = true := by rw [← dst_lt]; omega
      rw [if_pos q, if_neg this, show ∀ x : Int64, x ||| 0 = x from fun x => by simp]
    · have : Gr (Om σ) (one a) 35 i = true := by rw [← dst_lt]; omega
      rw [if_neg q, if_pos this]
  · intro J
    unfold mX11_partWith_10
    rw [if_pos at36]
    rfl
/-! islands: the class takes off, the reference puts on -/
/-- the islands that begin below n: their cells, and how many -/
def isl (O : Nat → Bool) : Nat → (Nat → Bool) × Nat
  | 0 => (fun _ => false, 0)
  | n + 1 => if O n = true ∧ (isl O n).1 n = false then (fun e => (isl O n).1 e || Gr O (one n) 35 e, (isl O n).2 + 1) else isl O n
theorem bs_not {S T : Nat → Bool} : bs S &&& (bs T ^^^ (-1 : Int64)) = bs (fun j => S j && !T j) := by
  apply eq_bs
  intro j hj
  have : bt (-1 : Int64) j = true := by
    have : ∀ j, j < 64 → bt (-1 : Int64) j = true := by decide +kernel
    exact this j hj
  rw [bt_and, bt_xor, bt_bs, bt_bs, this]
  by_cases h : j < 36
  · simp [h]
  · simp [h]
theorem islands_c {O : Nat → Bool} (σ : St) : mX7_islandsOf (bs O) σ = some (nI (isl O 36).2, σ) := by
  unfold mX7_islandsOf
  rw [kl_e]
  have e0 : ∀ J : Int64 → Int32 → Int32 → St → Option (Int32 × St), J (bs O) 0 0 σ = J (bs (fun e => O e && !(isl O 0).1 e)) (nI (isl O 0).2) (nI 0) σ := by
    intro J
    simp [isl, nI_0]
  refine (e0 _).trans ?_
  refine lp_for (app := fun i (J : Int64 → Int32 → Int32 → St → Option (Int32 × St)) => J (bs (fun e => O e && !(isl O i).1 e)) (nI (isl O i).2) (nI i) σ) 36 _ ?_ ?_ 2000 (by omega)
  · intro i hi J
    unfold mX7_islandsOf_8 mX7_islandsOf_40
    rw [if_neg (lt36 hi)]
    simp only [has_c hi, cl2_e, kl_e, b2_c, islandOf_c hi, bs_not, nI_1]
    rw [show isl O (i + 1) = if O i = true ∧ (isl O i).1 i = false then (fun e => (isl O i).1 e || Gr O (one i) 35 e, (isl O i).2 + 1) else isl O i from rfl]
    by_cases q : O i = true ∧ (isl O i).1 i = false
    · rw [if_pos q, q.1, q.2, if_pos (show (true && !false) = true from rfl)]
      congr 2
      funext e
      show (O e && !(isl O i).1 e && !Gr O (one i) 35 e) = (O e && !((isl O i).1 e || Gr O (one i) 35 e))
      cases O e <;> cases (isl O i).1 e <;> cases Gr O (one i) 35 e <;> rfl
    · rw [if_neg q, if_neg]
      intro h
      rw [Bool.and_eq_true, Bool.not_eq_true'] at h
      exact q h
  · intro J
    unfold mX7_islandsOf_8
    rw [if_pos at36]
theorem islands_m (σ : St) : ∃ τ, mX11_islands σ = some (nI (isl (Om σ) 36).2, τ) ∧ core τ = core σ := by
  unfold mX11_islands
  simp only [kl_e]
  have e0 : ∀ J : Int32 → Int64 → Int32 → St → Option (Int32 × St), J 0 0 0 (pI σ 45 16 0) = J (nI (isl (Om σ) 0).2) (bs (isl (Om σ) 0).1) (nI 0) (pI σ 45 16 0) := by
    intro J
    simp [isl, nI_0, bs_0]
  rw [e0 (lp (fun _ _ _ _ => none) mX11_islands_12 2000)]
  refine lp_rel (app := fun i (s : St) (J : Int32 → Int64 → Int32 → St → Option (Int32 × St)) => J (nI (isl (Om σ) i).2) (bs (isl (Om σ) i).1) (nI i) s) (P := fun _ s => core s = core σ) 36 (Q := fun r => ∃ τ, r = some (nI (isl (Om σ) 36).2, τ) ∧ core τ = core σ) ?_ ?_ 2000 (by omega) (pI σ 45 16 0) (core_pI rfl)
  · intro i s hi hc J
    show ∃ x', core x' = core σ ∧ mX11_islands_12 J (nI (isl (Om σ) i).2) (bs (isl (Om σ) i).1) (nI i) s = J (nI (isl (Om σ) (i + 1)).2) (bs (isl (Om σ) (i + 1)).1) (nI (i + 1)) x'
    unfold mX11_islands_12 mX11_islands_49
    rw [if_neg (lt36 hi)]
    simp only [isOpen_M hi, cl2_e, kl_e, b2_c, isOn_m hi, nI_1]
    rw [Om_core hc]
    rw [show isl (Om σ) (i + 1) = if Om σ i = true ∧ (isl (Om σ) i).1 i = false then (fun e => (isl (Om σ) i).1 e || Gr (Om σ) (one i) 35 e, (isl (Om σ) i).2 + 1) else isl (Om σ) i from rfl]
    cases q1 : Om σ i
    · rw [if_neg (by decide), if_neg (by simp)]
      exact ⟨s, hc, rfl⟩
    · rw [if_pos rfl]
      cases q2 : (isl (Om σ) i).1 i
      · obtain ⟨τ, g1, g2, _⟩ := partWith_m hi s
        rw [if_neg (by decide), if_pos ⟨rfl, rfl⟩, g1, Om_core hc]
        simp only [cl2_e, bs_or]
        exact ⟨τ, by rw [g2, hc], rfl⟩
      · rw [if_pos rfl, if_neg (by simp)]
        exact ⟨s, hc, rfl⟩
  · intro s hc J
    refine ⟨s, ?_, hc⟩
    show mX11_islands_12 J _ _ (nI 36) s = _
    unfold mX11_islands_12
    rw [if_pos at36]
