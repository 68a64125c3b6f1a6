/-! ===== PURE: the calls that change one shelf ===== -/
/-- the same but for shelf d -/
def Re (σ τ : St) (d : Nat) : Prop := (∀ o k, keI o k = true → o ≠ 10 + d → gI τ o k = gI σ o k) ∧ (∀ a i, keA a = true → (48 ≤ a ∧ a ≤ 52 ∧ i = d) ∨ gA τ a i = gA σ a i) ∧ (∀ a i, keL a = true → a = 19 + d ∨ (a = 53 ∧ 100 * d ≤ i ∧ i < 100 * d + 100) ∨ gL τ a i = gL σ a i)
theorem Re_rfl {σ : St} {d : Nat} : Re σ σ d := ⟨fun _ _ _ _ => rfl, fun _ _ _ => Or.inr rfl, fun _ _ _ => Or.inr (Or.inr rfl)⟩
theorem Re_pI {σ τ : St} {d o k : Nat} {v : Int32} (e : o = 10 + d ∨ keI o k = false) (h : Re σ τ d) : Re σ (pI τ o k v) d := by
  refine ⟨fun o' k' h1 h2 => ?_, h.2.1, h.2.2⟩
  rw [gI_pI, if_neg]
  · exact h.1 o' k' h1 h2
  · rintro ⟨rfl, rfl⟩
    rcases e with e | e
    · exact h2 e
    · rw [e] at h1; cases h1
theorem Re_pA {σ τ : St} {d a : Nat} {v : Int32} (e : 48 ≤ a ∧ a ≤ 52) (h : Re σ τ d) : Re σ (pA τ a d v) d := by
  refine ⟨h.1, fun a' i' h1 => ?_, h.2.2⟩
  by_cases q : a' = a ∧ i' = d
  · left; omega
  · rw [gA_pA, if_neg q]; exact h.2.1 a' i' h1
theorem Re_pL {σ τ : St} {d a i : Nat} {v : Int64} (e : keL a = false ∨ a = 19 + d ∨ (a = 53 ∧ 100 * d ≤ i ∧ i < 100 * d + 100)) (h : Re σ τ d) : Re σ (pL τ a i v) d := by
  refine ⟨h.1, h.2.1, fun a' i' h1 => ?_⟩
  by_cases q : a' = a ∧ i' = i
  · obtain ⟨rfl, rfl⟩ := q
    rcases e with e | e | e
    · rw [e] at h1; cases h1
    · exact Or.inl e
    · exact Or.inr (Or.inl e)
  · rw [gL_pL, if_neg q]; exact h.2.2 a' i' h1
theorem Re_tr {σ τ ρ : St} {d : Nat} (h : Re σ τ d) (g : Re τ ρ d) : Re σ ρ d := by
  refine ⟨fun o k h1 h2 => by rw [g.1 o k h1 h2, h.1 o k h1 h2], fun a i h1 => ?_, fun a i h1 => ?_⟩
  · rcases g.2.1 a i h1 with q | q
    · exact Or.inl q
    · rw [q]; exact h.2.1 a i h1
  · rcases g.2.2 a i h1 with q | q | q
    · exact Or.inl q
    · exact Or.inr (Or.inl q)
    · rw [q]; exact h.2.2 a i h1
theorem Inv_shelf {σ τ : St} {d : Nat} (hd : d < 8) (hI : Inv σ) (h : Re σ τ d) (hs : Shok τ d) : Inv τ := by
  have i1 : ∀ o k, keI o k = true → o ≠ 10 + d → gI τ o k = gI σ o k := h.1
  have a1 : ∀ a i, keA a = true → a < 48 ∨ 52 < a → gA τ a i = gA σ a i := fun a i h1 h2 => by
    rcases h.2.1 a i h1 with q | q
    · omega
    · exact q
  have e1 : ld τ 1 = ld σ 1 := by
    unfold ld
    refine Prod.ext (funext fun c => ?_) (Prod.ext (funext fun c => ?_) (funext fun k => ?_))
    · show (if c < 36 then gA τ 4 c else 0) = if c < 36 then gA σ 4 c else 0
      rw [a1 4 c rfl (by omega)]
    · show (if c < 36 then gA τ 7 c else 0) = if c < 36 then gA σ 7 c else 0
      rw [a1 7 c rfl (by omega)]
    · show (if 2 ≤ k ∧ k < 10 then gI τ 1 k else 0) = if 2 ≤ k ∧ k < 10 then gI σ 1 k else 0
      rw [i1 1 k rfl (by omega)]
  have e2 : ld τ 2 = ld σ 2 := by
    unfold ld
    refine Prod.ext (funext fun c => ?_) (Prod.ext (funext fun c => ?_) (funext fun k => ?_))
    · show (if c < 36 then gA τ 5 c else 0) = if c < 36 then gA σ 5 c else 0
      rw [a1 5 c rfl (by omega)]
    · show (if c < 36 then gA τ 8 c else 0) = if c < 36 then gA σ 8 c else 0
      rw [a1 8 c rfl (by omega)]
    · show (if 2 ≤ k ∧ k < 10 then gI τ 2 k else 0) = if 2 ≤ k ∧ k < 10 then gI σ 2 k else 0
      rw [i1 2 k rfl (by omega)]
  have e3 : lm τ = lm σ := by
    unfold lm
    refine Prod.ext (funext fun c => ?_) (Prod.ext (funext fun c => ?_) (funext fun k => ?_))
    · show (if c < 36 then gA τ 46 c else 0) = if c < 36 then gA σ 46 c else 0
      rw [a1 46 c rfl (by omega)]
    · show (if c < 36 then gA τ 47 c else 0) = if c < 36 then gA σ 47 c else 0
      rw [a1 47 c rfl (by omega)]
    · show (if 2 ≤ k ∧ k < 10 then gI τ 45 k else 0) = if 2 ≤ k ∧ k < 10 then gI σ 45 k else 0
      by_cases hk : 2 ≤ k ∧ k < 10
      · rw [i1 45 k (by simp [keI, hk]) (by omega)]
      · simp [hk]
  refine ⟨by rw [e1, e3]; exact hI.1, by rw [e1]; exact hI.2.1, by rw [i1 45 17 rfl (by omega)]; exact hI.2.2.1, ?_, fun d' hd' => ?_⟩
  · have := hI.2.2.2.1
    unfold Imok at *
    simp only [i1 0 3 rfl (by omega), i1 45 27 rfl (by omega), e2, a1 58 _ rfl (by omega)]
    exact this
  · by_cases q : d' = d
    · subst q; exact hs
    · have h0 := hI.2.2.2.2 d' hd'
      have b1 : ∀ a, 48 ≤ a → a ≤ 52 → gA τ a d' = gA σ a d' := fun a q1 q2 => by
        have ka : keA a = true := by
          unfold keA
          rw [decide_eq_true (show 46 ≤ a by omega), decide_eq_true q2]
          simp
        rcases h.2.1 a d' ka with r | r
        · omega
        · exact r
      have b2 : ∀ i, gL τ (19 + d') i = gL σ (19 + d') i := fun i => by
        rcases h.2.2 (19 + d') i (keL_sh hd') with r | r | r
        · omega
        · omega
        · exact r
      have b3 : ∀ i, i < 100 → gL τ 53 (100 * d' + i) = gL σ 53 (100 * d' + i) := fun i hi => by
        rcases h.2.2 53 (100 * d' + i) rfl with r | r | r
        · omega
        · omega
        · exact r
      unfold Shok at *
      simp only [i1 (10 + d') _ (keI_sh hd') (by omega), b1 48 (by omega) (by omega), b1 49 (by omega) (by omega), b1 50 (by omega) (by omega), b1 51 (by omega) (by omega), b1 52 (by omega) (by omega), b2]
      refine ⟨h0.1, ?_⟩
      rcases h0.2 with r | r | ⟨r, s, n, r1, r2, r3, r4, r5, r6, r7⟩
      · exact Or.inl r
      · exact Or.inr (Or.inl r)
      · exact Or.inr (Or.inr ⟨r, s, n, r1, r2, r3, r4, r5, r6, fun i hi => by rw [b3 i hi]; exact r7 i hi⟩)
