/-! ===== PURE: a statement done ===== -/
theorem dvN_n {b : Nat → Int32} {i : Nat} (h : isD (b i) = true) : ∃ e, e < 10 ∧ dvN b i = nI e := by
  unfold isD inR at h
  rw [Bool.and_eq_true] at h
  have h1 := of_decide_eq_true h.1
  have h2 := of_decide_eq_true h.2
  have h3 : inR (b i) 0 (nI 57) = true := by
    unfold inR
    rw [decide_eq_true (Int32.le_trans (show (0 : Int32) ≤ 48 by decide) h1), Bool.true_and]
    exact h.2
  obtain ⟨m, hm, e⟩ := (inR_n (n := 57) (by omega)).1 h3
  have h48 : 48 ≤ m := by
    rw [e] at h1
    have := (nI_leI (a := 48) (b := m) (by omega) (by omega)).1 h1
    exact this
  refine ⟨m - 48, by omega, ?_⟩
  unfold dvN
  rw [e, show (48 : Int32) = nI 48 from rfl, pk_sub h48]
theorem tvN_n {b : Nat → Int32} {i : Nat} (h : isD (b i) = true) (g : isD (b (i + 1)) = true) : ∃ e, e < 100 ∧ tvN b i = nI e := by
  obtain ⟨e, he, e1⟩ := dvN_n h
  obtain ⟨f, hf, e2⟩ := dvN_n g
  refine ⟨10 * e + f, by omega, ?_⟩
  unfold tvN
  rw [e1, e2, show (10 : Int32) = nI 10 from rfl, pk_mul, nI_add]
theorem digitAt_c {d n i : Nat} {b : Nat → Int32} {σ : St} (hn : n ≤ 100) (h4 : gI σ (10 + d) 4 = nI n) (hb : ∀ i, i < n → gL σ (19 + d) i = (b i).toInt64) (hi : i < n) : mX8_digitAt (10 + d) (nI i) σ = some (dvN b i, σ) := by
  unfold mX8_digitAt
  rw [numberAt_c hn h4 hi, cl2_e, hb i hi, i64_32]
  rfl
theorem twoAt_c {d n i : Nat} {b : Nat → Int32} {σ : St} (hn : n ≤ 100) (h4 : gI σ (10 + d) 4 = nI n) (hb : ∀ i, i < n → gL σ (19 + d) i = (b i).toInt64) (hi : i + 1 < n) : mX8_twoDigitsAt (10 + d) (nI i) σ = some (tvN b i, σ) := by
  unfold mX8_twoDigitsAt
  rw [digitAt_c hn h4 hb (by omega), cl2_e, nI_1, digitAt_c hn h4 hb hi, cl2_e]
  rfl
/-- both sides do it, or both refuse -/
def Dn (C R : Option (Int32 × St)) (σ τ : St) : Prop := ∃ v σ' τ', C = some (v, σ') ∧ R = some (v, τ') ∧ Fo 3 σ σ' ∧ Fm τ τ' ∧ (v = 0 ∨ (v = 1 ∧ ld σ' 3 = lm τ' ∧ Ldok (ld σ' 3)))
theorem Dn_0 {C R : Option (Int32 × St)} {σ τ τ' : St} (h : C = some (0, σ)) (g : R = some (0, τ')) (f : Fm τ τ') : Dn C R σ τ := ⟨0, σ, τ', h, g, Fx_rfl, f, Or.inl rfl⟩
theorem nI_5 {i : Nat} (h : 5 ≤ i) (h2 : i < 10) : ¬ nI i = 0 ∧ ¬ nI i = 1 ∧ ¬ nI i = 2 ∧ ¬ nI i = 3 ∧ ¬ nI i = 4 := by
  have : i = 5 ∨ i = 6 ∨ i = 7 ∨ i = 8 ∨ i = 9 := by omega
  rcases this with rfl | rfl | rfl | rfl | rfl <;> decide
theorem cellBy_5 {o i : Nat} {a : Int32} (h : 5 ≤ i) (h2 : i < 10) (σ : St) : mX3_cellBy o a (nI i) σ = some (-4, σ) := by
  obtain ⟨h0, h1, h2, h3, h4⟩ := nI_5 h h2
  have e : mX7_cellTo a (nI i) σ = some (-4, σ) := by
    rcases cell_or a with ha | ⟨c, hc, rfl⟩
    · exact cellTo_n ha σ
    · unfold mX7_cellTo
      rw [cell_c hc, cl2_e, if_neg n10, if_neg h0, if_neg h1, if_neg h2, if_neg h3, if_neg h4]
  unfold mX3_cellBy
  rw [e, cl2_e, kl_e, if_neg h0, isOpen_n n4, cl2_e, if_pos rfl]
theorem cellBy_some {o i : Nat} {a : Int32} (h : a = -4 ∨ ∃ c, c < 36 ∧ a = nI c) (hi : i < 5) (σ : St) : ∃ x, mX3_cellBy o a (nI i) σ = some (x, σ) := by
  rcases h with rfl | ⟨c, hc, rfl⟩
  · exact ⟨_, cellBy_n σ⟩
  · exact ⟨_, cellBy_c hc hi σ⟩
theorem goDay_5 {o i k : Nat} {σ : St} (hL : Ldok (ld σ o)) (hi : i < 10) (hk : k < 10) (h : 5 ≤ i ∨ 5 ≤ k) : mX3_goDay o (nI i) (nI k) σ = some (0, σ) := by
  unfold mX3_goDay
  rw [kl_e]
  have h5 : gI σ o 5 = ls (ld σ o) 5 := ld_s (by omega)
  have h6 : gI σ o 6 = ls (ld σ o) 6 := ld_s (by omega)
  have all : ∀ {a : Int32} {m : Nat}, (a = -4 ∨ ∃ c, c < 36 ∧ a = nI c) → m < 10 → ∃ x, mX3_cellBy o a (nI m) σ = some (x, σ) ∧ (5 ≤ m → x = -4) := by
    intro a m ha hm
    by_cases z : 5 ≤ m
    · exact ⟨-4, cellBy_5 z hm σ, fun _ => rfl⟩
    · obtain ⟨x, e⟩ := cellBy_some (o := o) ha (show m < 5 by omega) σ
      exact ⟨x, e, fun w => absurd w z⟩
  obtain ⟨x, x1, x2⟩ := all (m := i) hL.2.2.2.2.1 hi
  obtain ⟨y, y1, y2⟩ := all (m := k) hL.2.2.2.2.2.1 hk
  rw [h5, x1, cl2_e, kl_e, h6, y1, cl2_e]
  rcases h with h | h
  · rw [if_pos (x2 h)]; rfl
  · rw [if_pos (y2 h)]
    split <;> rfl
theorem ind_m {k : Nat} : (3 : Int32) * nI k = nI (3 * k) := by rw [show (3 : Int32) = nI 3 from rfl, pk_mul]
theorem done_w {d n k p : Nat} {b : Nat → Int32} {σ τ : St} (hk : k < 51) (hn : n ≤ 100) (h4 : gI σ (10 + d) 4 = nI n) (hb : ∀ i, i < n → gL σ (19 + d) i = (b i).toInt64) (hok : OkS b n p) (hc : b p = 119) (h55 : gA τ 55 k = b p) (ht : toldN b τ k (b p) (p + 1)) (hL : Ldok (ld σ 3)) (hl : lm τ = ld σ 3) : Dn (mX8_isDone (10 + d) (nI p) 3 σ) (mX11_comes (nI k) τ) σ τ := by
  obtain ⟨o1, o2, o3, o4⟩ := hok
  rw [hc] at o1 o2 o3 ht
  have hdk : dkN 119 = 1 := rfl
  rw [hdk] at o2 o3
  obtain ⟨e, he, ee⟩ := dvN_n (o3 0 (by omega))
  have ee : dvN b (p + 1) = nI e := ee
  have t := ht.2.1 rfl
  rw [ee] at t
  have C : mX8_isDone (10 + d) (nI p) 3 σ = cl2 (mX8_isWintered (nI e) 3 σ) (fun x s => rz x s) := by
    unfold mX8_isDone
    rw [numberAt_c hn h4 (by omega), cl2_e, hb p (by omega), i64_32, hc, if_neg (by decide), if_neg (by decide), if_neg (by decide), if_neg (by decide), if_neg (by decide), if_pos rfl, nI_1, digitAt_c hn h4 hb (by omega), cl2_e, ee]
  have R : mX11_comes (nI k) τ = if (2 : Int32) ≤ nI e then rz 0 (pI τ 45 2 (nI e)) else rz 1 (pI τ 45 2 (nI e)) := by
    unfold mX11_comes
    rw [ind_m, k3_1, ldA_n (by omega) (by omega), ldA_n (by omega) (by omega), ldA_n (by omega) (by omega), h55, hc, if_neg (by decide), if_neg (by decide), if_neg (by decide), if_pos rfl, kl_e, t]
  have F : Fm τ (pI τ 45 2 (nI e)) := Fx_pI ⟨rfl, by omega⟩ Fx_rfl
  by_cases z : e < 2
  · refine ⟨1, pI σ 3 2 (nI e), pI τ 45 2 (nI e), ?_, ?_, Fx_pI ⟨rfl, by omega⟩ Fx_rfl, F, Or.inr ⟨rfl, ?_, ?_⟩⟩
    · rw [C]
      unfold mX8_isWintered
      rw [either_c, (show inR (nI e) 0 1 = true from (inR_n (n := 1) (by omega)).2 ⟨e, z, rfl⟩), cl2_e, b2_t, if_neg n10, kl_e]
      rfl
    · rw [R, if_neg (show ¬ (2 : Int32) ≤ nI e from nI_ge (b := 2) (by omega) (by omega))]
      rfl
    · rw [ld_pI (by omega), lm_pI (by omega), hl]
    · rw [ld_pI (by omega)]; exact Ldok_2 hL z
  · refine Dn_0 ?_ ?_ F
    · rw [C]
      unfold mX8_isWintered
      rw [either_c, (show inR (nI e) 0 1 = false from inR_f (n := 1) (by omega) (fun i hi w => by rw [nI_eq (by omega) (by omega)] at w; omega)), cl2_e, b2_f, if_pos rfl]
      rfl
    · rw [R, if_pos (show (2 : Int32) ≤ nI e from nI_le (a := 2) (by omega) (by omega))]
      rfl
