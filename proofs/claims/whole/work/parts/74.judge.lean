/-! ===== PURE: judge ===== -/
def lsN (s : Nat) : Int64 := if nI s = 0 then -128 else if nI s = 1 then -2147483648 else -9223372036854775808
/-- one place of a told way: where he can be, or none -/
def jst (O : Nat → Bool) (l : Int64) (z : Int32) (i : Nat) (S : Nat → Bool) : Option (Nat → Bool) :=
  let T : Nat → Bool := if i = 0 then S else fun e => S e || nx O S e
  if z.toInt64 = l then some T else match stN z with
    | none => none
    | some c => if c < 36 then (if T c && (decide (i = 0) || O c) then some (one c) else none) else none
def jr (O : Nat → Bool) (l : Int64) (f : Nat → Int32) (S : Nat → Bool) : Nat → (Nat → Bool) ⊕ Nat
  | 0 => Sum.inl S
  | i + 1 => match jr O l f S i with
    | Sum.inr p => Sum.inr p
    | Sum.inl T => match jst O l (f i) i T with
      | none => Sum.inr i
      | some T' => Sum.inl T'
def jV : (Nat → Bool) ⊕ Nat → Int32
  | .inl _ => -4
  | .inr p => nI p
theorem jr_stay {O : Nat → Bool} {l : Int64} {f : Nat → Int32} {S : Nat → Bool} {p : Nat} : ∀ {i n}, i ≤ n → jr O l f S i = Sum.inr p → jr O l f S n = Sum.inr p
  | i, 0, h, e => by rw [show i = 0 by omega] at e; exact e
  | i, n + 1, h, e => by
    by_cases y : i = n + 1
    · rw [y] at e; exact e
    · have := jr_stay (i := i) (n := n) (by omega) e
      unfold jr
      rw [this]
theorem stN_big {z : Int32} (h : inR z 0 35 = false) : ∀ c, stN z = some c → ¬ c < 36 := by
  intro c e hc
  unfold stN at e
  by_cases q : z < 0
  · rw [if_pos q] at e; cases e
  · rw [if_neg q] at e
    obtain ⟨j, hj, rfl⟩ := nI_of q
    rw [nI_clamp hj] at e
    have e2 : j = c := Option.some.inj e
    rw [← e2] at hc
    rw [show (35 : Int32) = nI 35 from rfl, (inR_n (by omega)).2 ⟨j, hc, rfl⟩] at h
    cases h
theorem jst_n {O : Nat → Bool} {l : Int64} {z : Int32} {i : Nat} {S : Nat → Bool} (h : inR z 0 35 = false) (hl : ¬ z.toInt64 = l) : jst O l z i S = none := by
  unfold jst
  rw [if_neg hl]
  cases q : stN z with
  | none => rfl
  | some c => exact if_neg (stN_big h c q)
theorem jst_y {O : Nat → Bool} {l : Int64} {c i : Nat} {S : Nat → Bool} (h : c < 36) (hl : ¬ (nI c).toInt64 = l) : jst O l (nI c) i S = if ((if i = 0 then S else fun e => S e || nx O S e) c && (decide (i = 0) || O c)) = true then some (one c) else none := by
  unfold jst
  rw [if_neg hl, stN_nI h]
  exact if_pos h
theorem jst_l {O : Nat → Bool} {l : Int64} {z : Int32} {i : Nat} {S : Nat → Bool} (hl : z.toInt64 = l) : jst O l z i S = some (if i = 0 then S else fun e => S e || nx O S e) := by
  unfold jst
  rw [if_pos hl]
theorem i64_32 (z : Int32) : z.toInt64.toInt32 = z := Int32.toInt32_toInt64 z
theorem nI_0le {i : Nat} (h : i < 2 ^ 31) : (nI i ≤ 0) = (i = 0) := by
  apply propext
  have := nI_leI (a := i) (b := 0) h (by omega)
  rw [nI_0] at this
  rw [this]; omega
/-- how a loop goes on behind one place -/
def jK (r : Option (Nat → Bool)) (i : Nat) (J : Int64 → Int32 → St → Option (Int32 × St)) (σ : St) : Option (Int32 × St) := match r with
  | none => some (nI i, σ)
  | some T' => J (bs T') (nI (i + 1)) σ
theorem jK_n {i : Nat} {J : Int64 → Int32 → St → Option (Int32 × St)} {σ : St} : jK none i J σ = some (nI i, σ) := rfl
theorem jK_s {T : Nat → Bool} {i : Nat} {J : Int64 → Int32 → St → Option (Int32 × St)} {σ : St} : jK (some T) i J σ = J (bs T) (nI (i + 1)) σ := rfl
theorem jr_s {O : Nat → Bool} {l : Int64} {f : Nat → Int32} {S T : Nat → Bool} {i : Nat} (h : jr O l f S i = Sum.inl T) : jr O l f S (i + 1) = match jst O l (f i) i T with
    | none => Sum.inr i
    | some T' => Sum.inl T' := by
  unfold jr
  rw [h]
theorem jr_fin {O : Nat → Bool} {l : Int64} {f : Nat → Int32} {S T : Nat → Bool} {i n : Nat} {J : Int64 → Int32 → St → Option (Int32 × St)} {σ : St} (hi : i < n) (h : jr O l f S i = Sum.inl T) : jK (jst O l (f i) i T) i J σ = some (jV (jr O l f S n), σ) ∨ ∃ x', jr O l f S (i + 1) = Sum.inl x' ∧ jK (jst O l (f i) i T) i J σ = J (bs x') (nI (i + 1)) σ := by
  have hj := jr_s h
  cases q : jst O l (f i) i T with
  | none =>
    rw [q] at hj
    left
    rw [jr_stay (show i + 1 ≤ n by omega) hj, jK_n]
    rfl
  | some T' =>
    rw [q] at hj
    exact Or.inr ⟨T', hj, jK_s⟩
/-- the class, at one place -/
theorem j51_c {O T : Nat → Bool} {l : Int64} {z : Int32} {i o s : Nat} {J : Int64 → Int32 → St → Option (Int32 × St)} {σ : St} (hi : i < 2 ^ 30) (h3 : gI σ o 3 = nI s) (hl : l = lsN s) (S : Nat → Bool) (hT : T = if i = 0 then S else fun e => S e || nx O S e) : mX9_firstWrongPlace_51 o J z.toInt64 (nI i) (bs O) (bs T) σ = jK (jst O l z i S) i J σ := by
  have hlN : mX5_leastNumber o σ = some (l, σ) := by
    unfold mX5_leastNumber
    rw [kl_e, h3, hl]
    unfold lsN
    by_cases y : nI s = 0
    · rw [if_pos y, if_pos y]
    · rw [if_neg y, if_neg y]
      by_cases y2 : nI s = 1
      · rw [if_pos y2, if_pos y2]
      · rw [if_neg y2, if_neg y2]
  unfold mX9_firstWrongPlace_51 mX9_firstWrongPlace_110 mX9_firstWrongPlace_79 mX9_firstWrongPlace_97
  rw [hlN]
  simp only [cl2_e, kl_e, i64_32, nI_1]
  by_cases h1 : z.toInt64 = l
  · rw [if_pos (by rw [lg_0]; exact h1), jst_l h1, hT, jK_s]
  rw [if_neg (by rw [lg_0]; exact h1)]
  rcases cell_or z with hz | ⟨c, hc, rfl⟩
  · rw [jst_n hz h1, ncell_c hz, cl2_e, if_pos rfl]
    by_cases y : nI i ≤ 0
    · rw [if_pos y, if_pos (by rw [lg_0]; simp), jK_n]
    · rw [if_neg y, if_pos (by rw [lg_0]; simp), jK_n]
  · rw [jst_y hc h1, cell_c hc, cl2_e, if_neg n10, bit_c hc, cl2_e, ← hT]
    by_cases y : nI i ≤ 0
    · have hi0 : i = 0 := by rw [nI_0le (by omega)] at y; exact y
      rw [if_pos y, bs_and]
      have hb : (decide (i = 0) || O c) = true := by rw [hi0]; rfl
      rw [hb, Bool.and_true]
      cases q : T c
      · rw [if_pos, if_neg (by decide), jK_n]
        rw [lg_0, bs_z]
        intro j _
        by_cases e : j = c
        · rw [e, q]; rfl
        · simp [e]
      · rw [if_neg, if_pos rfl, jK_s]
        · refine congrArg (fun x => J x (nI (i + 1)) σ) (bs_eq (fun j _ => ?_))
          by_cases e : j = c
          · subst e; simp [q, one]
          · simp [e, one]
        · rw [lg_0, bs_z]
          intro w
          have := w c hc
          simp [q] at this
    · have hi0 : ¬ i = 0 := by rw [nI_0le (by omega)] at y; exact y
      rw [if_neg y, bs_and, bs_and]
      have hb : (decide (i = 0) || O c) = O c := by rw [decide_eq_false hi0]; rfl
      rw [hb]
      cases q : (T c && O c)
      · rw [if_pos, if_neg (by decide), jK_n]
        rw [lg_0, bs_z]
        intro j _
        by_cases e : j = c
        · rw [e, decide_eq_true rfl, Bool.true_and, q]
        · simp [e]
      · rw [Bool.and_eq_true] at q
        rw [if_neg, if_pos rfl, jK_s]
        · refine congrArg (fun x => J x (nI (i + 1)) σ) (bs_eq (fun j _ => ?_))
          by_cases e : j = c
          · subst e; simp [q, one]
          · simp [e, one]
        · rw [lg_0, bs_z]
          intro w
          have := w c hc
          simp [q] at this
theorem wrongPlace_c {O : Nat → Bool} {f : Nat → Int32} {d s n p : Nat} {σ : St} (hd : d < 8) (hn : n ≤ 100) (h3 : gI σ (10 + d) 3 = nI s) (h4 : gI σ (10 + d) 4 = nI n) (hf : ∀ i, i < 100 → gL σ (19 + d) i = (f i).toInt64) (hO : Op (ld σ 1) = O) (hp : p < 36) (h5 : ls (ld σ 1) 5 = nI p) : mX9_firstWrongPlace (10 + d) 1 σ = some (jV (jr O (lsN s) f (one p) n), σ) := by
  unfold mX9_firstWrongPlace
  rw [openCells_c, cl2_e, kl_e, ld_s (by omega), h5, bit_c hp, cl2_e, kl_e, hO]
  refine lp_rx (bot := fun (_ : Int64) (_ : Int32) (_ : St) => (none : Option (Int32 × St))) (app := fun i (S : Nat → Bool) (J : Int64 → Int32 → St → Option (Int32 × St)) => J (bs S) (nI i) σ) (P := fun i S => jr O (lsN s) f (one p) i = Sum.inl S) n (Q := fun r => r = some (jV (jr O (lsN s) f (one p) n), σ)) ?_ ?_ 2000 0 (one p) (by omega) (by omega) rfl
  · intro i S hi hS J
    show mX9_firstWrongPlace_17 (10 + d) (bs O) J (bs S) (nI i) σ = _ ∨ _
    unfold mX9_firstWrongPlace_17
    rw [kl_e, h4, if_neg (nI_ge hi (by omega))]
    have hnum : mX5_numberAt (10 + d) (nI i) σ = some ((f i).toInt64, σ) := by
      unfold mX5_numberAt
      rw [if_neg (nI_pos (by omega)), kl_e, h4, if_neg (nI_ge hi (by omega)), if_neg (show ¬ (100 : Int32) ≤ nI i from nI_ge (b := 100) (by omega) (by omega)), ldL_100 (by omega), show 10 + d + 9 = 19 + d by omega, hf i (by omega)]
    rw [hnum]
    simp only [cl2_e, kl_e]
    by_cases y : nI i ≤ 0
    · have hi0 : i = 0 := by rw [nI_0le (by omega)] at y; exact y
      rw [if_pos y, j51_c (l := lsN s) (by omega) h3 rfl S (by rw [if_pos hi0])]
      exact jr_fin hi hS
    · have hi0 : ¬ i = 0 := by rw [nI_0le (by omega)] at y; exact y
      rw [if_neg y, spread_c, cl2_e, bs_and, bs_or, j51_c (l := lsN s) (by omega) h3 rfl S (by rw [if_neg hi0]; rfl)]
      exact jr_fin hi hS
  · intro S hS J
    show mX9_firstWrongPlace_17 (10 + d) (bs O) J (bs S) (nI n) σ = _
    unfold mX9_firstWrongPlace_17
    rw [kl_e, h4, if_pos (Int32.le_refl _), hS]
    rfl
/-- the reference, at one place -/
theorem j94_m {O T : Nat → Bool} {z : Int32} {i d s : Nat} {J : Int64 → Int32 → St → Option (Int32 × St)} {σ : St} (hd : d < 8) (hi : i < 2 ^ 30) (h3 : gA σ 51 d = nI s) (hO : ∀ c, c < 36 → Om σ c = O c) (S : Nat → Bool) (hT : ∀ c, c < 36 → T c = (if i = 0 then S else fun e => S e || nx O S e) c) : mX11_judge_94 (nI d) J z.toInt64 (nI i) (bs T) σ = jK (jst O (lsN s) z i S) i J σ := by
  have hlN : mX11_skipped (nI d) σ = some (lsN s, σ) := by
    unfold mX11_skipped
    rw [ldA_8 hd, h3]
    unfold lsN
    by_cases y : nI s = 0
    · rw [if_pos y, if_pos y]
    · rw [if_neg y, if_neg y, ldA_8 hd, h3]
      by_cases y2 : nI s = 1
      · rw [if_pos y2, if_pos y2]
      · rw [if_neg y2, if_neg y2]
  unfold mX11_judge_94 mX11_judge_160 mX11_judge_144 mX11_judge_143 mX11_judge_139
  rw [hlN]
  simp only [cl2_e, kl_e, i64_32, nI_1, ite_true, if_neg n10]
  by_cases h1 : z.toInt64 = lsN s
  · rw [if_pos (by rw [lg_0]; exact h1), jst_l h1]
    rw [jK_s, bs_eq hT]
  rw [if_neg (by rw [lg_0]; exact h1)]
  rcases cell_or z with hz | ⟨c, hc, rfl⟩
  · rw [jst_n hz h1, ncell_m hz, cl2_e, if_pos rfl, jK_n]
  · rw [jst_y hc h1, cell_m hc, cl2_e, if_neg n10, isOn_m hc, cl2_e, ← hT c hc]
    cases q : T c
    · rw [b2_f, if_pos rfl, Bool.false_and, if_neg (by decide), jK_n]
    · rw [b2_t, if_neg n10, Bool.true_and, sh_c hc]
      by_cases y : i = 0
      · rw [if_pos (show nI i = 0 by rw [y]; rfl), decide_eq_true y, Bool.true_or, if_pos rfl, jK_s]
        rfl
      · rw [if_neg (show ¬ nI i = 0 by rw [nI_0' (by omega)]; exact y), decide_eq_false y, Bool.false_or, isOpen_M hc, cl2_e, hO c hc]
        cases q2 : O c
        · rw [b2_f, if_pos rfl, if_neg (by decide), jK_n]
        · rw [b2_t, if_neg n10, if_pos rfl, jK_s]
          rfl
theorem judge_m {O : Nat → Bool} {f : Nat → Int32} {d s n p : Nat} {σ : St} (hd : d < 8) (hn : n ≤ 100) (h3 : gA σ 51 d = nI s) (h4 : gA σ 52 d = nI n) (hf : ∀ i, i < 100 → gL σ 53 (100 * d + i) = (f i).toInt64) (hO : ∀ c, c < 36 → Om σ c = O c) (hp : p < 36) : (lp (fun _ _ _ => none) (mX11_judge_55 (nI d)) 2000) ((1 : Int64) <<< ((nI p).toInt64 &&& 63)) (0 : Int32) σ = some (jV (jr O (lsN s) f (one p) n), σ) := by
  rw [sh_c hp]
  refine lp_rx (bot := fun (_ : Int64) (_ : Int32) (_ : St) => (none : Option (Int32 × St))) (app := fun i (S : Nat → Bool) (J : Int64 → Int32 → St → Option (Int32 × St)) => J (bs S) (nI i) σ) (P := fun i S => jr O (lsN s) f (one p) i = Sum.inl S) n (Q := fun r => r = some (jV (jr O (lsN s) f (one p) n), σ)) ?_ ?_ 2000 0 (one p) (by omega) (by omega) rfl
  · intro i S hi hS J
    show mX11_judge_55 (nI d) J (bs S) (nI i) σ = _ ∨ _
    unfold mX11_judge_55
    rw [ldA_8 hd, h4, if_neg (nI_ge hi (by omega)), ldL_800 hd (by omega), hf i (by omega), kl_e]
    by_cases y : i = 0
    · rw [if_pos (show nI i = 0 by rw [y]; rfl), j94_m hd (by omega) h3 hO S (fun c _ => by rw [if_pos y])]
      exact jr_fin hi hS
    · unfold mX11_stayOrGo
      rw [if_neg (show ¬ nI i = 0 by rw [nI_0' (by omega)]; exact y), goOn_m, cl2_e, cl2_e, bs_or, j94_m hd (by omega) h3 hO S (fun c hc => by
        rw [if_neg y]
        show (sp S c && Om σ c || S c) = (S c || (sp S c && O c))
        rw [hO c hc, Bool.or_comm])]
      exact jr_fin hi hS
  · intro S hS J
    show mX11_judge_55 (nI d) J (bs S) (nI n) σ = _
    unfold mX11_judge_55
    rw [ldA_8 hd, h4, if_pos (Int32.le_refl _), hS]
    rfl
theorem s_judge : stp132 Inv mX10_judge mX11_judge := by
  intro σ a hI
  have s5 : gI σ 1 5 = ls (ld σ 1) 5 := ld_s (by omega)
  have m5 : gI (pI σ 45 16 0) 45 5 = ls (ld σ 1) 5 := by rw [lm_s (by omega), lm_16, hI.1]
  rcases shelf_or a with h | ⟨d, hd, rfl, h⟩
  · refine ag (f := mX10_judge a) (g := mX11_judge a) (v := -1) (ρ := σ) (τ := pI σ 45 16 0) ?_ ?_ c16 hI
    · unfold mX10_judge
      simp only [shelf_c, h, b2_f, cl2_e, ite_true]
    · unfold mX11_judge mX11_judge_38
      simp only [in7_m, h, b2_f, cl2_e, kl_e, ite_true]
      rw [if_neg (by decide)]
  rcases hI.2.1.2.2.2.2.1 with e5 | ⟨p, hp, e5⟩
  · refine ag (f := mX10_judge (nI d)) (g := mX11_judge (nI d)) (v := -3) (ρ := σ) (τ := pI σ 45 16 0) ?_ ?_ c16 hI
    · unfold mX10_judge
      simp only [shelf_c, h, b2_t, cl2_e, if_neg n10, kl_e, s5, e5, ite_true]
    · unfold mX11_judge mX11_judge_38
      simp only [in7_m, h, b2_t, cl2_e, kl_e, if_neg n10, m5, e5]
      rw [if_neg (by decide), if_neg (by decide)]
  have hs := hI.2.2.2.2 d hd
  by_cases q : rfs σ d 2 = 0
  · obtain ⟨s, n, hR⟩ := Rw_of hs q
    obtain ⟨h1, h2, h3, h4, h5, h6, h7, h8, h9⟩ := hR
    have hf : ∀ i, i < 100 → gL σ (19 + d) i = ((gL σ (19 + d) i).toInt32).toInt64 := fun i hi => by
      obtain ⟨z, hz, _⟩ := (h9 i hi).2
      rw [hz, i64_32]
    refine ag (f := mX10_judge (nI d)) (g := mX11_judge (nI d)) (v := jV (jr (Op (ld σ 1)) (lsN s) (fun i => (gL σ (19 + d) i).toInt32) (one p) n)) (ρ := σ) (τ := pI σ 45 16 0) ?_ ?_ c16 hI
    · unfold mX10_judge
      simp only [shelf_c, h, b2_t, cl2_e, if_neg n10, kl_e, s5, e5, if_neg (nI_n4 p hp), refRow_c hd, q, ite_true, shelfAt_c hd]
      rw [wrongPlace_c hd h4 h5 h7 hf rfl hp e5, cl2_e]
    · unfold mX11_judge mX11_judge_38
      simp only [in7_m, h, b2_t, cl2_e, kl_e, if_neg n10, m5, e5, if_pos (nI_pos' (n := p) (by omega)), wrongRow_m hd hs c16, q]
      rw [if_pos (by decide), judge_m (O := Op (ld σ 1)) (f := fun i => (gL σ (19 + d) i).toInt32) hd h4 (by rw [gA_pI, h6]) (by rw [gA_pI, h8]) (fun i hi => by rw [gL_pI, ← (h9 i hi).1]; exact hf i hi) (fun c hc => by rw [Om_core c16, Inv_Om hI hc]) hp]
  · refine ag (f := mX10_judge (nI d)) (g := mX11_judge (nI d)) (v := rfs σ d 2) (ρ := σ) (τ := pI σ 45 16 0) ?_ ?_ c16 hI
    · unfold mX10_judge
      simp only [shelf_c, h, b2_t, cl2_e, if_neg n10, kl_e, s5, e5, if_neg (nI_n4 p hp), refRow_c hd, if_neg q]
    · unfold mX11_judge mX11_judge_38
      simp only [in7_m, h, b2_t, cl2_e, kl_e, if_neg n10, m5, e5, if_pos (nI_pos' (n := p) (by omega)), wrongRow_m hd hs c16, rfs_ge, if_neg q]
