/-! ===== PURE: what holds between calls ===== -/
def Ldok (L : Ld) : Prop := (∀ c, c < 36 → ∃ k f, k < 8 ∧ f < 10 ∧ lk L c = nI k ∧ lf L c = nI f) ∧ (∃ w, w < 2 ∧ ls L 2 = nI w) ∧ (∃ n, n ≤ 20 ∧ ls L 3 = nI n) ∧ (∃ n, n ≤ 20 ∧ ls L 4 = nI n) ∧ (ls L 5 = -4 ∨ ∃ c, c < 36 ∧ ls L 5 = nI c) ∧ (ls L 6 = -4 ∨ ∃ c, c < 36 ∧ ls L 6 = nI c) ∧ (∃ n, n ≤ 999 ∧ ls L 7 = nI n)
def Shok (σ : St) (d : Nat) : Prop := gI σ (10 + d) 0 = gA σ 48 d ∧ (gI σ (10 + d) 0 = 0 ∨ (gI σ (10 + d) 0 = 1 ∧ ∃ k f, k < 8 ∧ f < 10 ∧ gI σ (10 + d) 1 = nI k ∧ gA σ 49 d = nI k ∧ gI σ (10 + d) 2 = nI f ∧ gA σ 50 d = nI f) ∨ (gI σ (10 + d) 0 = 2 ∧ ∃ s n, s < 3 ∧ n ≤ 100 ∧ gI σ (10 + d) 3 = nI s ∧ gA σ 51 d = nI s ∧ gI σ (10 + d) 4 = nI n ∧ gA σ 52 d = nI n ∧ ∀ i, i < 100 → gL σ (19 + d) i = gL σ 53 (100 * d + i) ∧ ∃ z : Int32, gL σ (19 + d) i = z.toInt64 ∧ (s = 0 → z = z.toInt8.toInt32)))
def Imok (σ : St) : Prop := gI σ 0 3 = gI σ 45 27 ∧ (gI σ 0 3 = 0 ∨ (gI σ 0 3 = 1 ∧ Ldok (ld σ 2) ∧ (∀ k, k < 8 → gA σ 58 k = ls (ld σ 2) (k + 2)) ∧ ∀ c, c < 36 → gA σ 58 (8 + 2 * c) = lk (ld σ 2) c ∧ gA σ 58 (9 + 2 * c) = lf (ld σ 2) c))
def Inv (σ : St) : Prop := ld σ 1 = lm σ ∧ Ldok (ld σ 1) ∧ gI σ 45 17 = -4 ∧ Imok σ ∧ ∀ d, d < 8 → Shok σ d
theorem ld2_core {σ τ : St} (h : core σ = core τ) : ld σ 2 = ld τ 2 := by
  unfold ld
  refine Prod.ext (funext fun c => ?_) (Prod.ext (funext fun c => ?_) (funext fun k => ?_))
  · show (if c < 36 then gA σ 5 c else 0) = if c < 36 then gA τ 5 c else 0
    rw [core_A h 5 c rfl]
  · show (if c < 36 then gA σ 8 c else 0) = if c < 36 then gA τ 8 c else 0
    rw [core_A h 8 c rfl]
  · show (if 2 ≤ k ∧ k < 10 then gI σ 2 k else 0) = if 2 ≤ k ∧ k < 10 then gI τ 2 k else 0
    rw [core_I h 2 k rfl]
theorem keI_sh {d k : Nat} (h : d < 8) : keI (10 + d) k = true := by
  unfold keI
  rw [decide_eq_true (show 10 + d < 18 by omega), decide_eq_false (show ¬ 10 + d = 3 by omega)]
  rfl
theorem keL_sh {d : Nat} (h : d < 8) : keL (19 + d) = true := by
  unfold keL
  rw [decide_eq_true (show 19 + d < 27 by omega), decide_eq_true (show 19 ≤ 19 + d by omega)]
  rfl
theorem Shok_core {σ τ : St} (h : core σ = core τ) {d : Nat} (hd : d < 8) (hs : Shok τ d) : Shok σ d := by
  unfold Shok at *
  simp only [core_I h _ _ (keI_sh hd), core_A h 48 d rfl, core_A h 49 d rfl, core_A h 50 d rfl, core_A h 51 d rfl, core_A h 52 d rfl, core_L h _ _ (keL_sh hd), core_L h 53 _ rfl]
  exact hs
theorem Imok_core {σ τ : St} (h : core σ = core τ) (hs : Imok τ) : Imok σ := by
  unfold Imok at *
  simp only [core_I h 0 3 rfl, core_I h 45 27 rfl, ld2_core h, core_A h 58 _ rfl]
  exact hs
theorem Inv_core {σ τ : St} (h : core σ = core τ) (hs : Inv τ) : Inv σ := by
  obtain ⟨h1, h2, h3, h4, h5⟩ := hs
  refine ⟨by rw [ld_core h, lm_core h, h1], by rw [ld_core h]; exact h2, by rw [core_I h 45 17 rfl]; exact h3, Imok_core h h4, fun d hd => Shok_core h hd (h5 d hd)⟩
theorem Inv_Om {σ : St} (h : Inv σ) {c : Nat} (hc : c < 36) : Om σ c = Op (ld σ 1) c := by
  unfold Om
  have : ∀ c, c < 36 → decide (nI c = -4) = false := by decide +kernel
  rw [h.2.2.1, this c hc, Bool.false_or, h.1]
/-- a growing looks at the passable cells alone -/
theorem Gr_eq {O P S : Nat → Bool} (h : ∀ j, j < 36 → O j = P j) : ∀ n e, e < 36 → Gr O S n e = Gr P S n e
  | 0, e, he => by show (S e && O e) = (S e && P e); rw [h e he]
  | n + 1, e, he => by
    show (sp (Gr O S n) e && O e) = (sp (Gr P S n) e && P e)
    rw [h e he, sp_eq (fun j hj => Gr_eq h n j hj) he]
theorem fst_eq {p q : Nat → Bool} : ∀ n, (∀ i, i < n → p i = q i) → fst p n = fst q n
  | 0, _ => rfl
  | n + 1, h => by
    unfold fst
    rw [fst_eq n (fun i hi => h i (by omega)), h n (by omega)]
theorem dst_eq {O P : Nat → Bool} (h : ∀ j, j < 36 → O j = P j) {a b : Nat} (hb : b < 36) : dst O a b = dst P a b := fst_eq 36 (fun n _ => Gr_eq h n b hb)
theorem isl_eq {O P : Nat → Bool} (h : ∀ j, j < 36 → O j = P j) : ∀ n, n ≤ 36 → (isl O n).2 = (isl P n).2 ∧ ∀ e, e < 36 → (isl O n).1 e = (isl P n).1 e
  | 0, _ => ⟨rfl, fun _ _ => rfl⟩
  | n + 1, hn => by
    obtain ⟨h1, h2⟩ := isl_eq h n (by omega)
    unfold isl
    rw [h n (by omega), h2 n (by omega)]
    by_cases q : P n = true ∧ (isl P n).1 n = false
    · rw [if_pos q, if_pos q]
      refine ⟨by show (isl O n).2 + 1 = (isl P n).2 + 1; rw [h1], fun e he => ?_⟩
      show ((isl O n).1 e || Gr O (one n) 35 e) = ((isl P n).1 e || Gr P (one n) 35 e)
      rw [h2 e he, Gr_eq h 35 e he]
    · rw [if_neg q, if_neg q]
      exact ⟨h1, h2⟩
/-! the first calls -/
theorem notin {a : Int32} {n : Nat} (hn : n < 2 ^ 31 - 1) (h : inR a 0 (nI n) = false) (σ : St) : mX11_in a.toInt64 0 (nI n).toInt64 σ = some (0, σ) := by
  rw [show (0 : Int64) = (0 : Int32).toInt64 from rfl, in_m, h]; rfl
theorem ncell_m {a : Int32} (h : inR a 0 35 = false) (σ : St) : mX11_isCell a.toInt64 σ = some (0, σ) := by
  rw [isCell_m, h]; rfl
theorem cell_or (a : Int32) : inR a 0 35 = false ∨ ∃ c, c < 36 ∧ a = nI c := by
  rcases inR_or a 35 (by omega) with ⟨h, _⟩ | ⟨j, h1, h2, _⟩
  · exact Or.inl h
  · exact Or.inr ⟨j, h1, h2⟩
theorem c16 {σ : St} {v : Int32} : core (pI σ 45 16 v) = core σ := core_pI rfl
theorem s_far : stp232 Inv mX10_far mX11_far := by
  intro σ a b hI
  unfold mX10_far mX11_far
  rcases cell_or a with ha | ⟨a, ha, rfl⟩
  · simp only [ncell_c ha, cl2_e, kl_e, ite_true]
    exact ⟨_, _, _, rfl, by rw [ncell_m ha]; rfl, Inv_core c16 hI⟩
  · rcases cell_or b with hb | ⟨b, hb, rfl⟩
    · simp only [cell_c ha, ncell_c hb, cl2_e, kl_e, if_neg n10, ite_true]
      exact ⟨_, _, _, rfl, by rw [cell_m ha, cl2_e, if_neg n10, ncell_m hb]; rfl, Inv_core c16 hI⟩
    · simp only [cell_c ha, cell_c hb, cl2_e, kl_e, if_neg n10, far_c ha hb, cell_m ha, cell_m hb, far_m ha hb]
      exact ⟨_, _, _, rfl, by rw [lm_core c16, hI.1], Inv_core c16 hI⟩
theorem s_steps : stp232 Inv mX10_steps mX11_steps := by
  intro σ a b hI
  unfold mX10_steps mX11_steps
  rcases cell_or a with ha | ⟨a, ha, rfl⟩
  · simp only [ncell_c ha, cl2_e, kl_e, ite_true]
    exact ⟨_, _, _, rfl, by rw [ncell_m ha]; rfl, Inv_core c16 hI⟩
  · rcases cell_or b with hb | ⟨b, hb, rfl⟩
    · simp only [cell_c ha, ncell_c hb, cl2_e, kl_e, if_neg n10, ite_true]
      exact ⟨_, _, _, rfl, by rw [cell_m ha, cl2_e, if_neg n10, ncell_m hb]; rfl, Inv_core c16 hI⟩
    · obtain ⟨τ, h1, h2, h3⟩ := laySteps_m ha (pI σ 45 16 0)
      simp only [cell_c ha, cell_c hb, cl2_e, kl_e, if_neg n10, openCells_c, stepsBetween_c ha hb, cell_m ha, cell_m hb, h1, cl1_e, ldA_36 hb, h3 b hb]
      have e : dst (Om (pI σ 45 16 0)) a b = dst (Op (ld σ 1)) a b := dst_eq (fun j hj => by rw [Om_core c16, Inv_Om hI hj]) hb
      refine ⟨_, _, τ, rfl, ?_, Inv_core (by rw [h2, c16]) hI⟩
      rw [h1, cl1_e, h3 b hb, e]
      have hl := dst_le (Op (ld σ 1)) a b
      by_cases q : dst (Op (ld σ 1)) a b < 36
      · rw [if_pos q, if_neg (by rw [sv_99 hl]; omega), sv, if_pos q]
      · rw [if_neg q, if_pos (by rw [sv_99 hl]; omega)]
theorem s_islands : stp032 Inv mX10_islands mX11_islands := by
  intro σ hI
  obtain ⟨τ, h1, h2⟩ := islands_m σ
  unfold mX10_islands
  simp only [openCells_c, cl2_e, islands_c]
  exact ⟨_, _, τ, rfl, by rw [h1, (isl_eq (fun j hj => Inv_Om hI hj) 36 (by omega)).1], Inv_core h2 hI⟩
theorem ag {α : Type} {σ τ ρ : St} {v : α} {f g : St → Option (α × St)} (h1 : f σ = some (v, ρ)) (h2 : g ρ = some (v, τ)) (h3 : core τ = core σ) (hI : Inv σ) : ∃ (v : α) (σ1 σ2 : St), f σ = some (v, σ1) ∧ g σ1 = some (v, σ2) ∧ Inv σ2 := ⟨v, ρ, τ, h1, h2, Inv_core h3 hI⟩
theorem s_island : stp132 Inv mX10_island mX11_island := by
  intro σ a hI
  rcases cell_or a with ha | ⟨a, ha, rfl⟩
  · exact ag (f := mX10_island a) (g := mX11_island a) (v := -1) (by unfold mX10_island; simp only [ncell_c ha, cl2_e, ite_true]; rfl) (by unfold mX11_island; simp only [ncell_m ha, cl2_e, kl_e, ite_true]; rfl) c16 hI
  · obtain ⟨τ, h1, h2, _⟩ := partWith_m ha (pI σ 45 16 0)
    cases q : Op (ld σ 1) a
    · exact ag (f := mX10_island (nI a)) (g := mX11_island (nI a)) (v := -3) (by unfold mX10_island; simp only [cell_c ha, cl2_e, if_neg n10, openCells_c, has_c ha, q, b2_f, ite_true]; rfl) (by unfold mX11_island; simp only [cell_m ha, cl2_e, kl_e, if_neg n10, isOpen_M ha, Om_core c16, Inv_Om hI ha, q, b2_f, ite_true]; rfl) c16 hI
    · refine ag (f := mX10_island (nI a)) (g := mX11_island (nI a)) (v := nI (cnt (Gr (Op (ld σ 1)) (one a) 35) 36)) (ρ := σ) (τ := τ) (by unfold mX10_island; simp only [cell_c ha, cl2_e, if_neg n10, openCells_c, has_c ha, q, b2_t, islandOf_c ha, bitCount_c]) ?_ (by rw [h2, c16]) hI
      unfold mX11_island
      simp only [cell_m ha, cl2_e, kl_e, if_neg n10, isOpen_M ha, Om_core c16, Inv_Om hI ha, q, b2_t, h1, onesOf_m]
      rw [cnt_eq 36 (fun j hj => Gr_eq (fun j hj => Inv_Om hI hj) 35 j hj)]
theorem s_ground : stp232 Inv mX10_ground mX11_ground := by
  intro σ a b hI
  unfold mX10_ground mX11_ground
  rcases cell_or a with ha | ⟨a, ha, rfl⟩
  · simp only [ncell_c ha, cl2_e, kl_e, ite_true]
    exact ⟨_, _, _, rfl, by rw [ncell_m ha]; rfl, Inv_core c16 hI⟩
  · simp only [cell_c ha, cl2_e, kl_e, if_neg n10, cell_m ha, kindAt_c ha, figureAt_c ha, heightAt_c ha, chanceAt_c ha, isOpen_c ha, b2_c, ldA_36 ha, height_m ha, chance_m ha, isOpen_M ha]
    have hl : lm (pI σ 45 16 0) = ld σ 1 := by rw [lm_core c16, hI.1]
    have e1 : gA (pI σ 45 16 0) 46 a = lk (ld σ 1) a := by rw [lm_k ha, hl]
    have e2 : gA (pI σ 45 16 0) 47 a = lf (ld σ 1) a := by rw [lm_f ha, hl]
    have e3 : Om (pI σ 45 16 0) a = Op (ld σ 1) a := by rw [Om_core c16, Inv_Om hI ha]
    refine ⟨if b = 0 then lk (ld σ 1) a else if b = 1 then lf (ld σ 1) a else if b = 2 then Hh (ld σ 1) a else if b = 3 then (if Op (ld σ 1) a then 1 else 0) else if b = 4 then Ch (ld σ 1) a else -1, σ, pI σ 45 16 0, ?_, ?_, Inv_core c16 hI⟩
    · repeat' split
      all_goals first | rfl | simp_all
    · rw [e1, e2, hl, e3]
      repeat' split
      all_goals first | rfl | simp_all
