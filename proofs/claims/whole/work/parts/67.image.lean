/-! ===== PURE: image, restore ===== -/
theorem gI_pI_x {σ : St} {o o' k k' : Nat} {v : Int32} (h : o' ≠ o) : gI (pI σ o k v) o' k' = gI σ o' k' := by rw [gI_pI, if_neg (fun q => h q.1)]
theorem becomes_c {o o' : Nat} (h1 : o ≠ o') (h2 : 0 < o) (h3 : o < 4) (h4 : 0 < o') (h5 : o' < 4) (σ : St) : ∃ τ, mX3_becomes o o' σ = some τ ∧ ld τ o = ld σ o' ∧ Fo o σ τ := by
  unfold mX3_becomes
  rw [kl_e]
  refine lp_rel (app := fun i (s : St) (J : Int32 → St → Option St) => J (nI i) s) (P := fun i s => Fo o σ s ∧ ∀ e, e < i → gA s (o + 3) e = gA σ (o' + 3) e ∧ gA s (o + 6) e = gA σ (o' + 6) e) 36 (Q := fun r => ∃ τ, r = some τ ∧ ld τ o = ld σ o' ∧ Fo o σ τ) ?_ ?_ 2000 (by omega) σ ⟨Fx_rfl, fun e he => by omega⟩
  · intro i s hi ⟨g1, g2⟩ J
    refine ⟨pA (pA s (o + 3) i (gA s (o' + 3) i)) (o + 6) i (gA s (o' + 6) i), ⟨Fx_pA (Or.inr rfl) (Fx_pA (Or.inl rfl) g1), fun e he => ?_⟩, ?_⟩
    · by_cases q : e = i
      · subst q
        rw [gA_pA_ne (by omega), gA_pA_eq, gA_pA_eq]
        exact ⟨Fx_A g1 (by omega), Fx_A g1 (by omega)⟩
      · rw [gA_pA_ne (by omega), gA_pA_ne (by omega), gA_pA_ne (by omega), gA_pA_ne (by omega)]
        exact g2 e (by omega)
    · unfold mX3_becomes_2
      rw [if_neg (lt36 hi)]
      simp only [ldA_36 hi, stA_36 hi, nI_1]
      rw [gA_pA_ne (by omega)]
  · intro s ⟨g1, g2⟩ J
    show ∃ τ, mX3_becomes_2 o' o J (nI 36) s = some τ ∧ _
    unfold mX3_becomes_2
    rw [if_pos at36]
    simp only [kl_e, gI_pI_x (Ne.symm h1)]
    refine ⟨_, rfl, ?_, Fx_pI ⟨rfl, by omega⟩ (Fx_pI ⟨rfl, by omega⟩ (Fx_pI ⟨rfl, by omega⟩ (Fx_pI ⟨rfl, by omega⟩ (Fx_pI ⟨rfl, by omega⟩ (Fx_pI ⟨rfl, by omega⟩ (Fx_pI ⟨rfl, by omega⟩ (Fx_pI ⟨rfl, by omega⟩ g1)))))))⟩
    have hk : ∀ k, gI s o' k = gI σ o' k := fun k => Fx_I g1 (by omega)
    rw [ld_pI (by omega), ld_pI (by omega), ld_pI (by omega), ld_pI (by omega), ld_pI (by omega), ld_pI (by omega), ld_pI (by omega), ld_pI (by omega)]
    refine Prod.ext (funext fun c => ?_) (Prod.ext (funext fun c => ?_) (funext fun k => ?_))
    · show (if c < 36 then gA s (o + 3) c else 0) = if c < 36 then gA σ (o' + 3) c else 0
      by_cases hc : c < 36
      · rw [if_pos hc, if_pos hc, (g2 c hc).1]
      · rw [if_neg hc, if_neg hc]
    · show (if c < 36 then gA s (o + 6) c else 0) = if c < 36 then gA σ (o' + 6) c else 0
      by_cases hc : c < 36
      · rw [if_pos hc, if_pos hc, (g2 c hc).2]
      · rw [if_neg hc, if_neg hc]
    · show (if k = 9 then gI s o' 9 else if k = 8 then gI s o' 8 else if k = 7 then gI s o' 7 else if k = 6 then gI s o' 6 else if k = 5 then gI s o' 5 else if k = 4 then gI s o' 4 else if k = 3 then gI s o' 3 else if k = 2 then gI s o' 2 else if 2 ≤ k ∧ k < 10 then gI s o k else 0) = if 2 ≤ k ∧ k < 10 then gI σ o' k else 0
      by_cases r : 2 ≤ k ∧ k < 10
      · rw [if_pos r]
        have : k = 2 ∨ k = 3 ∨ k = 4 ∨ k = 5 ∨ k = 6 ∨ k = 7 ∨ k = 8 ∨ k = 9 := by omega
        rcases this with rfl | rfl | rfl | rfl | rfl | rfl | rfl | rfl <;> simp [hk]
      · rw [if_neg r, if_neg (by omega), if_neg (by omega), if_neg (by omega), if_neg (by omega), if_neg (by omega), if_neg (by omega), if_neg (by omega), if_neg (by omega), if_neg r]
/-! the reference carries its land cell by cell -/
def fm (σ : St) (k : Nat) : Int32 := if k < 8 then gI σ 45 (k + 2) else if (k - 8) % 2 = 0 then gA σ 46 ((k - 8) / 2) else gA σ 47 ((k - 8) / 2)
def sm (σ : St) (k : Nat) (v : Int32) : St := if k < 8 then pI σ 45 (k + 2) v else if (k - 8) % 2 = 0 then pA σ 46 ((k - 8) / 2) v else pA σ 47 ((k - 8) / 2) v
theorem fm_sm {σ : St} {k j : Nat} {v : Int32} : fm (sm σ k v) j = if j = k then v else fm σ j := by
  unfold fm sm
  by_cases hk : k < 8
  · rw [if_pos hk]
    by_cases hj : j < 8
    · rw [if_pos hj, if_pos hj, gI_pI]
      by_cases e : j = k
      · subst e; simp
      · rw [if_neg (by omega), if_neg e]
    · rw [if_neg hj, if_neg hj, if_neg (show ¬ j = k by omega)]; rfl
  · rw [if_neg hk]
    by_cases h2 : (k - 8) % 2 = 0
    · rw [if_pos h2]
      by_cases hj : j < 8
      · rw [if_pos hj, if_pos hj, if_neg (show ¬ j = k by omega)]; rfl
      · rw [if_neg hj, if_neg hj]
        by_cases j2 : (j - 8) % 2 = 0
        · rw [if_pos j2, if_pos j2, gA_pA]
          by_cases e : j = k
          · subst e; simp
          · rw [if_neg (by omega), if_neg e]
        · rw [if_neg j2, if_neg j2, gA_pA_ne (by omega), if_neg (by intro e; subst e; exact j2 h2)]
    · rw [if_neg h2]
      by_cases hj : j < 8
      · rw [if_pos hj, if_pos hj, if_neg (show ¬ j = k by omega)]; rfl
      · rw [if_neg hj, if_neg hj]
        by_cases j2 : (j - 8) % 2 = 0
        · rw [if_pos j2, if_pos j2, gA_pA_ne (by omega), if_neg (by intro e; subst e; exact h2 j2)]
        · rw [if_neg j2, if_neg j2, gA_pA]
          by_cases e : j = k
          · subst e; simp
          · rw [if_neg (by omega), if_neg e]
theorem ldA_80 {ρ : Type} {σ : St} {a i : Nat} {f : Int32 → Option ρ} (h : i < 80) : ldA σ a 80 (nI i) f = f (gA σ a i) := ldA_n h (by omega)
theorem stA_80 {ρ : Type} {σ : St} {a i : Nat} {v : Int32} {f : St → Option ρ} (h : i < 80) : stA σ a 80 (nI i) v f = f (pA σ a i v) := stA_n h (by omega)
abbrev Fk (r : Nat) (σ τ : St) : Prop := Fx (fun o k => o = 45 ∧ ((2 ≤ k ∧ k < 10) ∨ k = 28 ∨ k = 29 ∨ k = 16)) (fun a => a = r ∨ a = 46 ∨ a = 47) (fun _ => False) σ τ
/-- n cells are carried -/
def Cy (r : Nat) (t : Bool) (σ : St) (n : Nat) (s : St) : Prop := gI s 45 28 = nI n ∧ gI s 45 29 = b2 t ∧ s.2.2.2 = r ∧ (∀ k, k < n → fm s k = (if t then fm σ k else gA σ r k) ∧ gA s r k = (if t then fm σ k else gA σ r k)) ∧ (∀ k, n ≤ k → fm s k = fm σ k ∧ gA s r k = gA σ r k) ∧ Fk r σ s
theorem Cy_st {r : Nat} {t : Bool} {σ s : St} {n : Nat} (hr : r = 57 ∨ r = 58) (hn : n < 80) (h : Cy r t σ n s) : ∃ w s', mX11_carry (fm s n) s = some (w, s') ∧ Cy r t σ (n + 1) (sm s' n w) := by
  obtain ⟨h1, h2, h3, h4, h5, h6⟩ := h
  refine ⟨if t then fm σ n else gA σ r n, pI (if t then pA s r n (fm s n) else s) 45 28 (nI (n + 1)), ?_, ?_⟩
  · unfold mX11_carry mX11_carry_17
    have hgk : ∀ {ρ : Type} {S : St} {f : Nat → Option ρ}, S.2.2.2 = r → gK S f = f r := by
      intro ρ S f e
      unfold gK
      rw [e, if_pos hr]
    simp only [kl_e, h2, b2_c]
    cases t
    · rw [if_neg (by decide), if_neg (by decide), if_neg (by decide)]
      rw [h1, nI_1, hgk (by exact h3), gI_pI, if_pos ⟨rfl, rfl⟩, nI_pred, ldA_80 hn, gA_pI, (h5 n (Nat.le_refl _)).2]
    · rw [if_pos rfl, if_pos rfl, if_pos rfl]
      rw [hgk h3, h1, stA_80 hn, gI_pA, h1, nI_1, hgk (by exact h3), gI_pI, if_pos ⟨rfl, rfl⟩, nI_pred, ldA_80 hn, gA_pI, gA_pA_eq, (h5 n (Nat.le_refl _)).1]
  · generalize hS : pI (if t then pA s r n (fm s n) else s) 45 28 (nI (n + 1)) = S
    have a1 : ∀ o k, ¬ (o = 45 ∧ k = 28) → gI S o k = gI s o k := fun o k q => by
      rw [← hS, gI_pI, if_neg q]; cases t <;> rfl
    have a2 : ∀ k, k ≠ n → gA S r k = gA s r k := fun k q => by
      rw [← hS, gA_pI]
      cases t
      · rfl
      · exact gA_pA_ne (by omega)
    have a3 : gA S r n = if t then fm σ n else gA σ r n := by
      rw [← hS, gA_pI]
      cases t
      · exact (h5 n (Nat.le_refl _)).2
      · show gA (pA s r n (fm s n)) r n = fm σ n
        rw [gA_pA_eq, (h5 n (Nat.le_refl _)).1]
    have a4 : ∀ k, fm S k = fm s k := fun k => by
      unfold fm
      by_cases hk : k < 8
      · rw [if_pos hk, if_pos hk, a1 _ _ (by omega)]
      · rw [if_neg hk, if_neg hk, ← hS, gA_pI, gA_pI]
        cases t
        · rfl
        · show (if (k - 8) % 2 = 0 then gA (pA s r n (fm s n)) 46 ((k - 8) / 2) else gA (pA s r n (fm s n)) 47 ((k - 8) / 2)) = _
          rw [gA_pA_ne (by omega), gA_pA_ne (by omega)]
    have a5 : gI S 45 28 = nI (n + 1) := by rw [← hS, gI_pI, if_pos ⟨rfl, rfl⟩]
    have a6 : S.2.2.2 = r := by
      rw [← hS]
      cases t <;> exact h3
    have a7 : Fk r σ S := by
      rw [← hS]
      refine Fx_pI ⟨rfl, by omega⟩ ?_
      cases t
      · exact h6
      · exact Fx_pA (Or.inl rfl) h6
    generalize hw : (if t then fm σ n else gA σ r n) = w at *
    have b1 : ∀ k, k = 28 ∨ k = 29 → gI (sm S n w) 45 k = gI S 45 k := fun k q => by
      unfold sm
      by_cases hk : n < 8
      · rw [if_pos hk, gI_pI, if_neg (by omega)]
      · rw [if_neg hk]; by_cases q2 : (n - 8) % 2 = 0
        · rw [if_pos q2]; rfl
        · rw [if_neg q2]; rfl
    have b2' : ∀ k, gA (sm S n w) r k = gA S r k := fun k => by
      unfold sm
      by_cases hk : n < 8
      · rw [if_pos hk]; rfl
      · rw [if_neg hk]; by_cases q2 : (n - 8) % 2 = 0
        · rw [if_pos q2, gA_pA_ne (by omega)]
        · rw [if_neg q2, gA_pA_ne (by omega)]
    have b3 : (sm S n w).2.2.2 = S.2.2.2 := by
      unfold sm
      by_cases hk : n < 8
      · rw [if_pos hk]; rfl
      · rw [if_neg hk]; by_cases q2 : (n - 8) % 2 = 0
        · rw [if_pos q2]; rfl
        · rw [if_neg q2]; rfl
    refine ⟨by rw [b1 28 (Or.inl rfl), a5], by rw [b1 29 (Or.inr rfl), a1 45 29 (by omega), h2], by rw [b3, a6], fun k hk => ?_, fun k hk => ?_, ?_⟩
    · rw [fm_sm, b2']
      by_cases q : k = n
      · subst q
        rw [if_pos rfl, a3, hw]
        exact ⟨rfl, rfl⟩
      · rw [if_neg q, a4, a2 k q]
        exact h4 k (by omega)
    · rw [fm_sm, b2', if_neg (by omega), a4, a2 k (by omega)]
      exact h5 k (by omega)
    · unfold sm
      by_cases hk : n < 8
      · rw [if_pos hk]; exact Fx_pI ⟨rfl, by omega⟩ a7
      · rw [if_neg hk]; by_cases q2 : (n - 8) % 2 = 0
        · rw [if_pos q2]; exact Fx_pA (Or.inr (Or.inl rfl)) a7
        · rw [if_neg q2]; exact Fx_pA (Or.inr (Or.inr rfl)) a7
theorem carryAll_m {r : Nat} {t : Bool} (hr : r = 57 ∨ r = 58) (σ : St) : ∃ τ, mX11_carryAll r (b2 t) σ = some τ ∧ Cy r t σ 80 τ := by
  unfold mX11_carryAll
  have hz : ∀ {ρ : Type} {S : St} {o k : Nat} {f : St → Option ρ}, stZ S o k (b2 t) f = f (pI S o k (b2 t)) := by
    intro ρ S o k f
    unfold stZ
    rw [if_pos]
    cases t
    · exact Or.inl rfl
    · exact Or.inr rfl
  rw [kl_e, hz, kl_e, kl_e]
  have c0 : Cy r t σ 0 (pI (pI (pK σ r) 45 29 (b2 t)) 45 28 0) := by
    refine ⟨by rw [gI_pI, if_pos ⟨rfl, rfl⟩]; rfl, by rw [gI_pI, if_neg (by omega), gI_pI, if_pos ⟨rfl, rfl⟩], rfl, fun k hk => by omega, fun k _ => ⟨?_, rfl⟩, Fx_pI ⟨rfl, by omega⟩ (Fx_pI ⟨rfl, by omega⟩ (Fx_pK Fx_rfl))⟩
    unfold fm
    by_cases hk : k < 8
    · rw [if_pos hk, if_pos hk, gI_pI, if_neg (by omega), gI_pI, if_neg (by omega), gI_pK]
    · rw [if_neg hk, if_neg hk]; rfl
  generalize pI (pI (pK σ r) 45 29 (b2 t)) 45 28 0 = s0 at c0
  obtain ⟨w1, t1, e1, c1⟩ := Cy_st hr (by omega) c0
  rw [show gI s0 45 2 = fm s0 0 from rfl, e1, cl2_e, kl_e, show pI t1 45 2 w1 = sm t1 0 w1 from rfl, kl_e]
  generalize sm t1 0 w1 = s1 at c1
  obtain ⟨w2, t2, e2, c2⟩ := Cy_st hr (by omega) c1
  rw [show gI s1 45 3 = fm s1 1 from rfl, e2, cl2_e, kl_e, show pI t2 45 3 w2 = sm t2 1 w2 from rfl, kl_e]
  generalize sm t2 1 w2 = s2 at c2
  obtain ⟨w3, t3, e3, c3⟩ := Cy_st hr (by omega) c2
  rw [show gI s2 45 4 = fm s2 2 from rfl, e3, cl2_e, kl_e, show pI t3 45 4 w3 = sm t3 2 w3 from rfl, kl_e]
  generalize sm t3 2 w3 = s3 at c3
  obtain ⟨w4, t4, e4, c4⟩ := Cy_st hr (by omega) c3
  rw [show gI s3 45 5 = fm s3 3 from rfl, e4, cl2_e, kl_e, show pI t4 45 5 w4 = sm t4 3 w4 from rfl, kl_e]
  generalize sm t4 3 w4 = s4 at c4
  obtain ⟨w5, t5, e5, c5⟩ := Cy_st hr (by omega) c4
  rw [show gI s4 45 6 = fm s4 4 from rfl, e5, cl2_e, kl_e, show pI t5 45 6 w5 = sm t5 4 w5 from rfl, kl_e]
  generalize sm t5 4 w5 = s5 at c5
  obtain ⟨w6, t6, e6, c6⟩ := Cy_st hr (by omega) c5
  rw [show gI s5 45 7 = fm s5 5 from rfl, e6, cl2_e, kl_e, show pI t6 45 7 w6 = sm t6 5 w6 from rfl, kl_e]
  generalize sm t6 5 w6 = s6 at c6
  obtain ⟨w7, t7, e7, c7⟩ := Cy_st hr (by omega) c6
  rw [show gI s6 45 8 = fm s6 6 from rfl, e7, cl2_e, kl_e, show pI t7 45 8 w7 = sm t7 6 w7 from rfl, kl_e]
  generalize sm t7 6 w7 = s7 at c7
  obtain ⟨w8, t8, e8, c8⟩ := Cy_st hr (by omega) c7
  rw [show gI s7 45 9 = fm s7 7 from rfl, e8, cl2_e, kl_e, show pI t8 45 9 w8 = sm t8 7 w8 from rfl, kl_e]
  generalize sm t8 7 w8 = s8 at c8
  refine lp_rel (app := fun i (s : St) (J : Int32 → St → Option St) => J (nI i) s) (P := fun i s => Cy r t σ (8 + 2 * i) s) 36 (Q := fun q => ∃ τ, q = some τ ∧ Cy r t σ 80 τ) ?_ ?_ 2000 (by omega) s8 c8
  · intro i s hi c J
    obtain ⟨w, u, e, c'⟩ := Cy_st hr (by omega) c
    obtain ⟨w', u', e', c''⟩ := Cy_st hr (by omega) c'
    have f1 : fm s (8 + 2 * i) = gA s 46 i := by
      unfold fm
      rw [if_neg (by omega), if_pos (by omega), show (8 + 2 * i - 8) / 2 = i by omega]
    have f2 : ∀ S : St, fm S (8 + 2 * i + 1) = gA S 47 i := fun S => by
      unfold fm
      rw [if_neg (by omega), if_neg (by omega), show (8 + 2 * i + 1 - 8) / 2 = i by omega]
    have m1 : sm u (8 + 2 * i) w = pA u 46 i w := by
      unfold sm
      rw [if_neg (by omega), if_pos (by omega), show (8 + 2 * i - 8) / 2 = i by omega]
    have m2 : sm u' (8 + 2 * i + 1) w' = pA u' 47 i w' := by
      unfold sm
      rw [if_neg (by omega), if_neg (by omega), show (8 + 2 * i + 1 - 8) / 2 = i by omega]
    refine ⟨_, c'', ?_⟩
    rw [f1] at e
    rw [m1, f2] at e'
    rw [m2]
    show mX11_carryAll_113 J (nI i) s = J (nI (i + 1)) _
    unfold mX11_carryAll_113
    rw [if_neg (lt36 hi)]
    simp only [ldA_36 hi, e, cl2_e, stA_36 hi, e', nI_1]
  · intro s c J
    refine ⟨s, ?_, c⟩
    show mX11_carryAll_113 J (nI 36) s = _
    unfold mX11_carryAll_113
    rw [if_pos at36]
theorem fm_s {σ : St} {k : Nat} (h : 2 ≤ k ∧ k < 10) : fm σ (k - 2) = ls (lm σ) k := by
  unfold fm
  rw [if_pos (by omega), show k - 2 + 2 = k by omega, lm_s h]
theorem fm_k {σ : St} {c : Nat} (h : c < 36) : fm σ (8 + 2 * c) = lk (lm σ) c := by
  unfold fm
  rw [if_neg (by omega), if_pos (by omega), show (8 + 2 * c - 8) / 2 = c by omega, lm_k h]
theorem fm_f {σ : St} {c : Nat} (h : c < 36) : fm σ (9 + 2 * c) = lf (lm σ) c := by
  unfold fm
  rw [if_neg (by omega), if_neg (by omega), show (9 + 2 * c - 8) / 2 = c by omega, lm_f h]
theorem lm_ext {σ : St} {L : Ld} (h1 : ∀ c, c < 36 → lk (lm σ) c = lk L c) (h2 : ∀ c, c < 36 → lf (lm σ) c = lf L c) (h3 : ∀ k, 2 ≤ k ∧ k < 10 → ls (lm σ) k = ls L k) (g1 : ∀ c, ¬ c < 36 → lk L c = 0) (g2 : ∀ c, ¬ c < 36 → lf L c = 0) (g3 : ∀ k, ¬ (2 ≤ k ∧ k < 10) → ls L k = 0) : lm σ = L := by
  refine Prod.ext (funext fun c => ?_) (Prod.ext (funext fun c => ?_) (funext fun k => ?_))
  · by_cases h : c < 36
    · exact h1 c h
    · rw [show L.1 c = 0 from g1 c h]; show (if c < 36 then gA σ 46 c else 0) = 0; rw [if_neg h]
  · by_cases h : c < 36
    · exact h2 c h
    · rw [show L.2.1 c = 0 from g2 c h]; show (if c < 36 then gA σ 47 c else 0) = 0; rw [if_neg h]
  · by_cases h : 2 ≤ k ∧ k < 10
    · exact h3 k h
    · rw [show L.2.2 k = 0 from g3 k h]; show (if 2 ≤ k ∧ k < 10 then gI σ 45 k else 0) = 0; rw [if_neg h]
theorem ld_out {σ : St} {o : Nat} : (∀ c, ¬ c < 36 → lk (ld σ o) c = 0) ∧ (∀ c, ¬ c < 36 → lf (ld σ o) c = 0) ∧ ∀ k, ¬ (2 ≤ k ∧ k < 10) → ls (ld σ o) k = 0 :=
  ⟨fun c h => by show (if c < 36 then gA σ (o + 3) c else 0) = 0; rw [if_neg h], fun c h => by show (if c < 36 then gA σ (o + 6) c else 0) = 0; rw [if_neg h], fun k h => by show (if 2 ≤ k ∧ k < 10 then gI σ o k else 0) = 0; rw [if_neg h]⟩
/-- taken: the land stays, the row holds it -/
theorem take_m {r : Nat} (hr : r = 57 ∨ r = 58) (σ : St) : ∃ τ, mX11_carryAll r 1 σ = some τ ∧ lm τ = lm σ ∧ (∀ k, k < 8 → gA τ r k = ls (lm σ) (k + 2)) ∧ (∀ c, c < 36 → gA τ r (8 + 2 * c) = lk (lm σ) c ∧ gA τ r (9 + 2 * c) = lf (lm σ) c) ∧ Fk r σ τ := by
  obtain ⟨τ, e, h1, h2, h3, h4, h5, h6⟩ := carryAll_m (t := true) hr σ
  have hf : ∀ k, k < 80 → fm τ k = fm σ k := fun k hk => (h4 k hk).1
  refine ⟨τ, e, lm_ext (fun c hc => ?_) (fun c hc => ?_) (fun k hk => ?_) (fun c h => by show (if c < 36 then gA σ 46 c else 0) = 0; rw [if_neg h]) (fun c h => by show (if c < 36 then gA σ 47 c else 0) = 0; rw [if_neg h]) (fun k h => by show (if 2 ≤ k ∧ k < 10 then gI σ 45 k else 0) = 0; rw [if_neg h]), fun k hk => ?_, fun c hc => ⟨?_, ?_⟩, h6⟩
  · rw [← fm_k hc, ← fm_k hc, hf _ (by omega)]
  · rw [← fm_f hc, ← fm_f hc, hf _ (by omega)]
  · rw [← fm_s hk, ← fm_s hk, hf _ (by omega)]
  · rw [(h4 k (by omega)).2, if_pos rfl, ← fm_s (by omega), show k + 2 - 2 = k by omega]
  · rw [(h4 _ (by omega)).2, if_pos rfl, fm_k hc]
  · rw [(h4 _ (by omega)).2, if_pos rfl, fm_f hc]
/-- put back: the land is the row's -/
theorem back_m {r : Nat} (hr : r = 57 ∨ r = 58) (σ : St) {L : Ld} (g1 : ∀ k, k < 8 → gA σ r k = ls L (k + 2)) (g2 : ∀ c, c < 36 → gA σ r (8 + 2 * c) = lk L c ∧ gA σ r (9 + 2 * c) = lf L c) (g3 : (∀ c, ¬ c < 36 → lk L c = 0) ∧ (∀ c, ¬ c < 36 → lf L c = 0) ∧ ∀ k, ¬ (2 ≤ k ∧ k < 10) → ls L k = 0) : ∃ τ, mX11_carryAll r 0 σ = some τ ∧ lm τ = L ∧ (∀ k, gA τ r k = gA σ r k) ∧ Fk r σ τ := by
  obtain ⟨τ, e, h1, h2, h3, h4, h5, h6⟩ := carryAll_m (t := false) hr σ
  refine ⟨τ, e, lm_ext (fun c hc => ?_) (fun c hc => ?_) (fun k hk => ?_) g3.1 g3.2.1 g3.2.2, fun k => ?_, h6⟩
  · rw [← fm_k hc, (h4 _ (by omega)).1, if_neg (by decide), (g2 c hc).1]
  · rw [← fm_f hc, (h4 _ (by omega)).1, if_neg (by decide), (g2 c hc).2]
  · rw [← fm_s hk, (h4 _ (by omega)).1, if_neg (by decide), g1 _ (by omega), show k - 2 + 2 = k by omega]
  · rcases Nat.lt_or_ge k 80 with q | q
    · exact (h4 k q).2
    · exact (h5 k q).2
theorem Shok_of {σ τ : St} {d : Nat} (hd : d < 8) (hi : ∀ k, gI τ (10 + d) k = gI σ (10 + d) k) (ha : ∀ a, 48 ≤ a → a ≤ 52 → gA τ a d = gA σ a d) (hl : ∀ a i, keL a = true → gL τ a i = gL σ a i) (hs : Shok σ d) : Shok τ d := by
  unfold Shok at *
  simp only [hi, ha 48 (by omega) (by omega), ha 49 (by omega) (by omega), ha 50 (by omega) (by omega), ha 51 (by omega) (by omega), ha 52 (by omega) (by omega), hl _ _ (keL_sh hd), hl 53 _ rfl]
  exact hs
theorem s_image : stp032 Inv mX10_image mX11_image := by
  intro σ hI
  obtain ⟨ρ, e1, e2, e3⟩ := becomes_c (o := 2) (o' := 1) (by omega) (by omega) (by omega) (by omega) (by omega) σ
  obtain ⟨τ, f1, f2, f3, f4, f5⟩ := take_m (r := 58) (Or.inr rfl) (pI (pI (pI ρ 0 3 1) 45 16 0) 45 27 1)
  have lmρ : lm (pI (pI (pI ρ 0 3 1) 45 16 0) 45 27 1) = lm σ := by
    rw [lm_pI_ne (by omega), lm_16, lm_pI_ne (Or.inl (by omega)), lm_Fo e3 (by omega)]
  rw [lmρ] at f2 f3 f4
  refine ⟨ls (ld σ 1) 7, pI ρ 0 3 1, τ, ?_, ?_, ?_⟩
  · unfold mX10_image
    rw [e1, cl1_e]
    unfold stZ
    rw [if_pos (Or.inr rfl)]
    simp only [kl_e]
    rw [gI_pI_x (by omega), Fx_I e3 (by omega), ld_s (by omega)]
  · unfold mX11_image
    rw [kl_e]
    unfold stZ
    rw [if_pos (Or.inr rfl)]
    simp only [f1, cl1_e, kl_e]
    rw [lm_s (by omega), f2, hI.1]
  · have l1 : ∀ o, o = 1 ∨ o = 2 → ld τ o = ld ρ o := fun o ho => by
      have i1 : ∀ k, gI τ o k = gI ρ o k := fun k => by rw [Fx_I f5 (by omega), gI_pI_x (by omega), gI_pI_x (by omega), gI_pI_x (by omega)]
      have a1 : ∀ a, a ≠ 58 → a ≠ 46 → a ≠ 47 → ∀ c, gA τ a c = gA ρ a c := fun a q1 q2 q3 c => by rw [Fx_A f5 (by omega)]; rfl
      unfold ld
      refine Prod.ext (funext fun c => ?_) (Prod.ext (funext fun c => ?_) (funext fun k => ?_))
      · show (if c < 36 then gA τ (o + 3) c else 0) = if c < 36 then gA ρ (o + 3) c else 0
        rw [a1 _ (by omega) (by omega) (by omega)]
      · show (if c < 36 then gA τ (o + 6) c else 0) = if c < 36 then gA ρ (o + 6) c else 0
        rw [a1 _ (by omega) (by omega) (by omega)]
      · show (if 2 ≤ k ∧ k < 10 then gI τ o k else 0) = if 2 ≤ k ∧ k < 10 then gI ρ o k else 0
        rw [i1]
    have L1 : ld τ 1 = ld σ 1 := by rw [l1 1 (Or.inl rfl), ld_Fo e3 (by omega) (by omega) (by omega) (by omega) (by omega)]
    have L2 : ld τ 2 = ld σ 1 := by rw [l1 2 (Or.inr rfl), e2]
    refine ⟨by rw [L1, f2, hI.1], by rw [L1]; exact hI.2.1, ?_, ⟨?_, Or.inr ⟨?_, by rw [L2]; exact hI.2.1, ?_, ?_⟩⟩, fun d hd => ?_⟩
    · rw [Fx_I f5 (by omega), gI_pI, if_neg (by omega), gI_pI, if_neg (by omega), gI_pI_x (by omega), Fx_I e3 (by omega)]; exact hI.2.2.1
    · rw [Fx_I f5 (by omega), Fx_I f5 (by omega), gI_pI_x (by omega), gI_pI_x (by omega), gI_pI, if_pos ⟨rfl, rfl⟩, gI_pI, if_pos ⟨rfl, rfl⟩]
    · rw [Fx_I f5 (by omega), gI_pI_x (by omega), gI_pI_x (by omega), gI_pI, if_pos ⟨rfl, rfl⟩]
    · intro k hk; rw [f3 k hk, L2, hI.1]
    · intro c hc; rw [(f4 c hc).1, (f4 c hc).2, L2, hI.1]; exact ⟨rfl, rfl⟩
    · refine Shok_of hd (fun k => ?_) (fun a h1 h2 => ?_) (fun a i _ => ?_) (hI.2.2.2.2 d hd)
      · rw [Fx_I f5 (by omega), gI_pI_x (by omega), gI_pI_x (by omega), gI_pI_x (by omega), Fx_I e3 (by omega)]
      · rw [Fx_A f5 (by omega), gA_pI, gA_pI, gA_pI, Fx_A e3 (by omega)]
      · rw [Fx_L f5 (by simp), gL_pI, gL_pI, gL_pI, Fx_L e3 (by simp)]
theorem s_restore : stp032 Inv mX10_restore mX11_restore := by
  intro σ hI
  obtain ⟨i1, i2⟩ := hI.2.2.2.1
  rcases i2 with i2 | ⟨i2, i3, i4, i5⟩
  · refine ag (f := mX10_restore) (g := mX11_restore) (v := -3) (ρ := σ) (τ := pI σ 45 16 0) ?_ ?_ c16 hI
    · unfold mX10_restore
      rw [kl_e, i2, if_pos rfl]
    · unfold mX11_restore
      rw [kl_e, kl_e, show gI (pI σ 45 16 0) 45 27 = 0 from by rw [gI_pI, if_neg (by omega), ← i1, i2], if_pos rfl]
  · obtain ⟨ρ, e1, e2, e3⟩ := becomes_c (o := 1) (o' := 2) (by omega) (by omega) (by omega) (by omega) (by omega) σ
    have a58 : ∀ k, gA (pI ρ 45 16 0) 58 k = gA σ 58 k := fun k => by rw [gA_pI, Fx_A e3 (by omega)]
    obtain ⟨τ, f1, f2, f3, f4⟩ := back_m (r := 58) (Or.inr rfl) (pI ρ 45 16 0) (L := ld σ 2) (fun k hk => by rw [a58, i4 k hk]) (fun c hc => by rw [a58, a58]; exact i5 c hc) ld_out
    have z : ¬ (1 : Int32) = 0 := by decide
    have R : Rs σ τ := by
      refine ⟨fun o k h => ?_, fun a i h => ?_, fun a i h => ?_⟩
      · have hn : o ≠ 1 := by intro q; subst q; cases h
        have h45 : o = 45 → k = 17 ∨ k = 27 := by
          intro q; subst q
          unfold rsI at h
          simpa using h
        by_cases q : o = 45
        · have := h45 q
          rw [Fx_I f4 (by omega), gI_pI, if_neg (by omega), Fx_I e3 (by omega)]
        · rw [Fx_I f4 (by omega), gI_pI_x (by omega), Fx_I e3 (by omega)]
      · have hn : a ≠ 4 ∧ a ≠ 7 ∧ a ≠ 46 ∧ a ≠ 47 := by
          refine ⟨?_, ?_, ?_, ?_⟩ <;> (intro q; subst q; cases h)
        by_cases q : a = 58
        · subst q; rw [f3, a58]
        · rw [Fx_A f4 (by omega), gA_pI, Fx_A e3 (by omega)]
      · rw [Fx_L f4 (by simp), gL_pI, Fx_L e3 (by simp)]
    have L1 : ld τ 1 = ld σ 2 := by
      rw [← e2]
      unfold ld
      refine Prod.ext (funext fun c => ?_) (Prod.ext (funext fun c => ?_) (funext fun k => ?_))
      · show (if c < 36 then gA τ 4 c else 0) = if c < 36 then gA ρ 4 c else 0
        rw [Fx_A f4 (by omega)]; rfl
      · show (if c < 36 then gA τ 7 c else 0) = if c < 36 then gA ρ 7 c else 0
        rw [Fx_A f4 (by omega)]; rfl
      · show (if 2 ≤ k ∧ k < 10 then gI τ 1 k else 0) = if 2 ≤ k ∧ k < 10 then gI ρ 1 k else 0
        rw [Fx_I f4 (by omega), gI_pI_x (by omega)]
    refine ⟨ls (ld σ 2) 7, ρ, τ, ?_, ?_, ?_⟩
    · unfold mX10_restore
      rw [kl_e, i2, if_neg z, e1, cl1_e, kl_e, ld_s (by omega), e2]
    · unfold mX11_restore
      rw [kl_e, kl_e, show gI (pI ρ 45 16 0) 45 27 = 1 from by rw [gI_pI, if_neg (by omega), Fx_I e3 (by omega), ← i1, i2], if_neg z, f1, cl1_e, kl_e, lm_s (by omega), f2]
    · exact Inv_land hI R (by rw [L1, f2]) (by rw [L1]; exact i3)
