/-! ===== PURE: the calls that change the land's numbers ===== -/
def rsI (o k : Nat) : Bool := (decide (o < 18) && !decide (o = 1) && !decide (o = 3)) || (decide (o = 45) && (decide (k = 17) || decide (k = 27)))
def rsA (a : Nat) : Bool := decide (a = 5) || decide (a = 8) || (decide (48 ≤ a) && decide (a ≤ 52)) || decide (a = 58)
/-- the same but for the land itself -/
def Rs (σ τ : St) : Prop := (∀ o k, rsI o k = true → gI τ o k = gI σ o k) ∧ (∀ a i, rsA a = true → gA τ a i = gA σ a i) ∧ (∀ a i, keL a = true → gL τ a i = gL σ a i)
theorem Rs_rfl {σ : St} : Rs σ σ := ⟨fun _ _ _ => rfl, fun _ _ _ => rfl, fun _ _ _ => rfl⟩
theorem Rs_pI {σ τ : St} {o k : Nat} {v : Int32} (e : rsI o k = false) (h : Rs σ τ) : Rs σ (pI τ o k v) := by
  refine ⟨fun o' k' h' => ?_, h.2.1, h.2.2⟩
  rw [gI_pI, if_neg]
  · exact h.1 o' k' h'
  · rintro ⟨rfl, rfl⟩; rw [e] at h'; cases h'
theorem Rs_pA {σ τ : St} {a i : Nat} {v : Int32} (e : rsA a = false) (h : Rs σ τ) : Rs σ (pA τ a i v) := by
  refine ⟨h.1, fun a' i' h' => ?_, h.2.2⟩
  rw [gA_pA, if_neg]
  · exact h.2.1 a' i' h'
  · rintro ⟨rfl, rfl⟩; rw [e] at h'; cases h'
theorem rsI_sh {d k : Nat} (h : d < 8) : rsI (10 + d) k = true := by
  unfold rsI
  rw [decide_eq_true (show 10 + d < 18 by omega), decide_eq_false (show ¬ 10 + d = 1 by omega), decide_eq_false (show ¬ 10 + d = 3 by omega)]
  rfl
theorem Rs_Shok {σ τ : St} (h : Rs σ τ) {d : Nat} (hd : d < 8) (hs : Shok σ d) : Shok τ d := by
  unfold Shok at *
  simp only [h.1 _ _ (rsI_sh hd), h.2.1 48 d rfl, h.2.1 49 d rfl, h.2.1 50 d rfl, h.2.1 51 d rfl, h.2.1 52 d rfl, h.2.2 _ _ (keL_sh hd), h.2.2 53 _ rfl]
  exact hs
theorem Rs_ld2 {σ τ : St} (h : Rs σ τ) : ld τ 2 = ld σ 2 := by
  unfold ld
  refine Prod.ext (funext fun c => ?_) (Prod.ext (funext fun c => ?_) (funext fun k => ?_))
  · show (if c < 36 then gA τ 5 c else 0) = if c < 36 then gA σ 5 c else 0
    rw [h.2.1 5 c rfl]
  · show (if c < 36 then gA τ 8 c else 0) = if c < 36 then gA σ 8 c else 0
    rw [h.2.1 8 c rfl]
  · show (if 2 ≤ k ∧ k < 10 then gI τ 2 k else 0) = if 2 ≤ k ∧ k < 10 then gI σ 2 k else 0
    rw [h.1 2 k rfl]
theorem Rs_Imok {σ τ : St} (h : Rs σ τ) (hs : Imok σ) : Imok τ := by
  unfold Imok at *
  simp only [h.1 0 3 rfl, h.1 45 27 rfl, Rs_ld2 h, h.2.1 58 _ rfl]
  exact hs
theorem Inv_land {σ τ : St} (hI : Inv σ) (h : Rs σ τ) (h1 : ld τ 1 = lm τ) (h2 : Ldok (ld τ 1)) : Inv τ :=
  ⟨h1, h2, by rw [h.1 45 17 rfl]; exact hI.2.2.1, Rs_Imok h hI.2.2.2.1, fun d hd => Rs_Shok h hd (hI.2.2.2.2 d hd)⟩
/-- the land with one number changed -/
def up (L : Ld) (k : Nat) (v : Int32) : Ld := (L.1, L.2.1, fun j => if j = k then v else L.2.2 j)
theorem ls_up {L : Ld} {k j : Nat} {v : Int32} : ls (up L k v) j = if j = k then v else ls L j := rfl
theorem lk_up {L : Ld} {k c : Nat} {v : Int32} : lk (up L k v) c = lk L c := rfl
theorem lf_up {L : Ld} {k c : Nat} {v : Int32} : lf (up L k v) c = lf L c := rfl
theorem ld_pI {σ : St} {o k : Nat} {v : Int32} (h : 2 ≤ k ∧ k < 10) : ld (pI σ o k v) o = up (ld σ o) k v := by
  unfold ld up
  refine Prod.ext rfl (Prod.ext rfl (funext fun j => ?_))
  show (if 2 ≤ j ∧ j < 10 then gI (pI σ o k v) o j else 0) = if j = k then v else if 2 ≤ j ∧ j < 10 then gI σ o j else 0
  rw [gI_pI]
  by_cases e : j = k
  · subst e; simp [h]
  · simp [e]
theorem lm_pI {σ : St} {k : Nat} {v : Int32} (h : 2 ≤ k ∧ k < 10) : lm (pI σ 45 k v) = up (lm σ) k v := by
  unfold lm up
  refine Prod.ext rfl (Prod.ext rfl (funext fun j => ?_))
  show (if 2 ≤ j ∧ j < 10 then gI (pI σ 45 k v) 45 j else 0) = if j = k then v else if 2 ≤ j ∧ j < 10 then gI σ 45 j else 0
  rw [gI_pI]
  by_cases e : j = k
  · subst e; simp [h]
  · simp [e]
theorem ld_pI_ne {σ : St} {o o' k : Nat} {v : Int32} (h : o' ≠ o) : ld (pI σ o' k v) o = ld σ o := by
  unfold ld
  refine Prod.ext rfl (Prod.ext rfl (funext fun j => ?_))
  show (if 2 ≤ j ∧ j < 10 then gI (pI σ o' k v) o j else 0) = if 2 ≤ j ∧ j < 10 then gI σ o j else 0
  rw [show gI (pI σ o' k v) o j = gI σ o j from by rw [gI_pI, if_neg (fun q => h q.1.symm)]]
theorem lm_pI_ne {σ : St} {o' k : Nat} {v : Int32} (h : o' ≠ 45 ∨ k < 2 ∨ 10 ≤ k) : lm (pI σ o' k v) = lm σ := by
  unfold lm
  refine Prod.ext rfl (Prod.ext rfl (funext fun j => ?_))
  show (if 2 ≤ j ∧ j < 10 then gI (pI σ o' k v) 45 j else 0) = if 2 ≤ j ∧ j < 10 then gI σ 45 j else 0
  by_cases e : 2 ≤ j ∧ j < 10
  · rw [if_pos e, if_pos e, gI_pI, if_neg (by omega)]
  · rw [if_neg e, if_neg e]
theorem s_count : stp132 Inv mX10_count mX11_count := by
  intro σ a hI
  have hl : lm (pI σ 45 16 0) = ld σ 1 := by rw [lm_core c16, hI.1]
  have hs : ∀ k, 2 ≤ k ∧ k < 10 → gI (pI σ 45 16 0) 45 k = gI σ 1 k := fun k hk => by rw [lm_s hk, hl, ld_s hk]
  have ho : cnt (Om (pI σ 45 16 0)) 36 = cnt (Op (ld σ 1)) 36 := cnt_eq 36 (fun j hj => by rw [Om_core c16, Inv_Om hI hj])
  refine ⟨if a = 0 then gI σ 1 5 else if a = 1 then gI σ 1 6 else if a = 2 then gI σ 1 7 else if a = 3 then gI σ 1 8 else if a = 4 then gI σ 1 9 else if a = 5 then gI σ 1 3 else if a = 6 then gI σ 1 4 else if a = 7 then gI σ 1 2 else if a = 8 then nI (cnt (Op (ld σ 1)) 36) else -1, σ, pI σ 45 16 0, ?_, ?_, Inv_core c16 hI⟩
  · unfold mX10_count
    simp only [kl_e, openCells_c, cl2_e, bitCount_c]
    repeat' split
    all_goals rfl
  · unfold mX11_count
    simp only [kl_e, openCells_m, cl2_e, onesOf_m, ho]
    rw [hs 2 (by omega), hs 3 (by omega), hs 4 (by omega), hs 5 (by omega), hs 6 (by omega), hs 7 (by omega), hs 8 (by omega), hs 9 (by omega)]
    repeat' split
    all_goals rfl
theorem either_c (a : Int32) (σ : St) : mX10_isEither a σ = some (b2 (inR a 0 1), σ) := by
  unfold mX10_isEither mX10_isEither_9
  simp only [kl_e]
  by_cases h0 : a = 0
  · subst h0; rfl
  · rw [if_neg h0]
    by_cases h1 : a = 1
    · subst h1; rfl
    · rw [if_neg h1]
      have : inR a 0 1 = false := inR_f (n := 1) (by omega) (fun j hj q => by
        have : j = 0 ∨ j = 1 := by omega
        rcases this with rfl | rfl
        · exact h0 q
        · exact h1 q)
      rw [this]; rfl
theorem either_or (a : Int32) : inR a 0 1 = false ∨ (a = 0 ∧ inR a 0 1 = true) ∨ (a = 1 ∧ inR a 0 1 = true) := by
  rcases inR_or a 1 (by omega) with ⟨h, _⟩ | ⟨j, hj, h1, h⟩
  · exact Or.inl h
  · have : j = 0 ∨ j = 1 := by omega
    rcases this with rfl | rfl
    · exact Or.inr (Or.inl ⟨h1, h⟩)
    · exact Or.inr (Or.inr ⟨h1, h⟩)
theorem ld_16 {σ : St} {o : Nat} {v : Int32} (h : o ≠ 45) : ld (pI σ 45 16 v) o = ld σ o := ld_pI_ne (fun e => h e.symm)
/-- both lands get the same number -/
theorem Inv_up {σ τ : St} {k : Nat} {v : Int32} (hk : 2 ≤ k ∧ k < 10) (hI : Inv σ) (h1 : ld τ 1 = up (ld σ 1) k v) (h2 : lm τ = up (lm σ) k v) (hr : Rs σ τ) (ho : Ldok (up (ld σ 1) k v)) : Inv τ :=
  Inv_land hI hr (by rw [h1, h2, hI.1]) (by rw [h1]; exact ho)
theorem Ldok_5 {L : Ld} {c : Nat} (h : Ldok L) (hc : c < 36) : Ldok (up L 5 (nI c)) :=
  ⟨h.1, h.2.1, h.2.2.1, h.2.2.2.1, Or.inr ⟨c, hc, rfl⟩, h.2.2.2.2.2.1, h.2.2.2.2.2.2⟩
theorem Ldok_6 {L : Ld} {c : Nat} (h : Ldok L) (hc : c < 36) : Ldok (up L 6 (nI c)) :=
  ⟨h.1, h.2.1, h.2.2.1, h.2.2.2.1, h.2.2.2.2.1, Or.inr ⟨c, hc, rfl⟩, h.2.2.2.2.2.2⟩
theorem up_self {L : Ld} {k : Nat} {v : Int32} (h : ls L k = v) : up L k v = L := by
  refine Prod.ext rfl (Prod.ext rfl (funext fun j => ?_))
  show (if j = k then v else L.2.2 j) = L.2.2 j
  by_cases e : j = k
  · subst e; rw [if_pos rfl]; exact h.symm
  · rw [if_neg e]
theorem s_stands : stp232 Inv mX10_stands mX11_stands := by
  intro σ a b hI
  have hl : lm (pI σ 45 16 0) = ld σ 1 := by rw [lm_core c16, hI.1]
  have hs : ∀ k, 2 ≤ k ∧ k < 10 → gI (pI σ 45 16 0) 45 k = gI σ 1 k := fun k hk => by rw [lm_s hk, hl, ld_s hk]
  have hin : ∀ τ, mX11_in a.toInt64 (0 : Int64) (1 : Int64) τ = some (b2 (inR a 0 1), τ) := fun τ => in_m a 0 1 τ
  rcases either_or a with h | h
  · refine ag (f := mX10_stands a b) (g := mX11_stands a b) (v := -1) (ρ := σ) (τ := pI σ 45 16 0) ?_ ?_ c16 hI
    · unfold mX10_stands
      simp only [either_c, cl2_e, h, b2_f, ite_true]
    · unfold mX11_stands
      simp only [hin, kl_e, cl2_e, h, b2_f, ite_true]
  have ht : inR a 0 1 = true := by rcases h with h | h <;> exact h.2
  rcases cell_or b with hb | ⟨b, hb, rfl⟩
  · refine ag (f := mX10_stands a b) (g := mX11_stands a b) (v := -1) (ρ := σ) (τ := pI σ 45 16 0) ?_ ?_ c16 hI
    · unfold mX10_stands
      simp only [either_c, cl2_e, ht, b2_t, if_neg n10, ncell_c hb, ite_true]
    · unfold mX11_stands
      simp only [hin, kl_e, cl2_e, ht, b2_t, if_neg n10, ncell_m hb, ite_true]
  cases q : Op (ld σ 1) b
  · refine ag (f := mX10_stands a (nI b)) (g := mX11_stands a (nI b)) (v := -3) (ρ := σ) (τ := pI σ 45 16 0) ?_ ?_ c16 hI
    · unfold mX10_stands
      simp only [either_c, cl2_e, ht, b2_t, if_neg n10, cell_c hb, isOpen_c hb, q, b2_f, ite_true]
    · unfold mX11_stands
      simp only [hin, kl_e, cl2_e, ht, b2_t, if_neg n10, cell_m hb, isOpen_M hb, Om_core c16, Inv_Om hI hb, q, b2_f, ite_true]
  have hO : ∀ k v, Om (pI (pI σ 1 k v) 45 16 0) b = true := by
    intro k v
    rw [Om_core c16]
    have : Om (pI σ 1 k v) = Om σ := by
      funext c
      unfold Om
      rw [lm_pI_ne (Or.inl (by decide)), gI_pI, if_neg (by rintro ⟨h, _⟩; cases h)]
    rw [this, Inv_Om hI hb, q]
  have h5 : ∀ k v, (pI σ 1 k v).1 45 = σ.1 45 := fun k v => rfl
  rcases h with ⟨rfl, _⟩ | ⟨rfl, _⟩
  · refine ⟨gI σ 1 5, pI σ 1 5 (nI b), pI (pI (pI (pI σ 1 5 (nI b)) 45 16 0) 45 5 (nI b)) 45 6 (gI (pI (pI (pI σ 1 5 (nI b)) 45 16 0) 45 5 (nI b)) 45 6), ?_, ?_, ?_⟩
    · unfold mX10_stands mX10_stands_52 mX3_place
      simp only [either_c, cl2_e, ht, b2_t, if_neg n10, cell_c hb, isOpen_c hb, q, kl_e, ite_true, cl1_e]
    · unfold mX11_stands mX11_stands_51 mX11_stands_65 mX11_stands_82
      simp only [hin, kl_e, cl2_e, ht, b2_t, if_neg n10, cell_m hb, isOpen_M hb, hO, ite_true]
      rw [if_neg (show ¬ (0 : Int32) = 1 from by decide)]
      rw [show gI (pI (pI σ 1 5 (nI b)) 45 16 0) 45 5 = gI σ 1 5 from by rw [gI_pI, if_neg (by decide), gI_pI, if_neg (by decide), lm_s (by omega), ← hI.1, ← ld_s (by omega)]]
    · refine Inv_up (k := 5) (v := nI b) (by omega) hI ?_ ?_ (Rs_pI rfl (Rs_pI rfl (Rs_pI rfl (Rs_pI rfl Rs_rfl)))) (Ldok_5 hI.2.1 hb)
      · rw [ld_pI_ne (by decide), ld_pI_ne (by decide), ld_pI_ne (by decide), ld_pI (by omega)]
      · rw [lm_pI (by omega), up_self (lm_s (by omega)).symm, lm_pI (by omega), lm_pI_ne (by omega), lm_pI_ne (by omega)]
  · refine ⟨gI σ 1 6, pI σ 1 6 (nI b), pI (pI (pI (pI σ 1 6 (nI b)) 45 16 0) 45 5 (gI (pI (pI σ 1 6 (nI b)) 45 16 0) 45 5)) 45 6 (nI b), ?_, ?_, ?_⟩
    · unfold mX10_stands mX10_stands_52 mX3_place
      simp only [either_c, cl2_e, ht, b2_t, if_neg n10, cell_c hb, isOpen_c hb, q, kl_e, cl1_e]
    · unfold mX11_stands mX11_stands_51 mX11_stands_65 mX11_stands_82
      simp only [hin, kl_e, cl2_e, ht, b2_t, if_neg n10, cell_m hb, isOpen_M hb, hO, ite_true]
      rw [show gI (pI (pI σ 1 6 (nI b)) 45 16 0) 45 6 = gI σ 1 6 from by rw [gI_pI, if_neg (by decide), gI_pI, if_neg (by decide), lm_s (by omega), ← hI.1, ← ld_s (by omega)]]
    · refine Inv_up (k := 6) (v := nI b) (by omega) hI ?_ ?_ (Rs_pI rfl (Rs_pI rfl (Rs_pI rfl (Rs_pI rfl Rs_rfl)))) (Ldok_6 hI.2.1 hb)
      · rw [ld_pI_ne (by decide), ld_pI_ne (by decide), ld_pI_ne (by decide), ld_pI (by omega)]
      · rw [lm_pI (by omega), lm_pI (by omega), up_self (lm_s (by omega)).symm, lm_pI_ne (by omega), lm_pI_ne (by omega)]
