/-! ===== PURE: pairs, curve, third, late ===== -/
/-- where the pair number m stands, or 1296 -/
def pth (P : Nat → Nat → Bool) (m : Nat) : Nat := fst (fun k => fl2 P k && decide (cnt (fl2 P) k = m)) 1296
def pthV (P : Nat → Nat → Bool) (m : Nat) : Int32 := if pth P m < 1296 then nI (100 * (pth P m / 36) + pth P m % 36) else -4
theorem cnt_up {S : Nat → Bool} : ∀ {n m : Nat}, n ≤ m → cnt S n ≤ cnt S m
  | n, 0, h => by rw [show n = 0 by omega]; exact Nat.le_refl _
  | n, m + 1, h => by
    by_cases e : n = m + 1
    · rw [e]; exact Nat.le_refl _
    · have := cnt_up (S := S) (n := n) (m := m) (by omega)
      show cnt S n ≤ cnt S m + (S m).toNat
      omega
theorem pth_at {P : Nat → Nat → Bool} {m k : Nat} (hk : k < 1296) (h1 : fl2 P k = true) (h2 : cnt (fl2 P) k = m) : pthV P m = nI (100 * (k / 36) + k % 36) := by
  have : pth P m = k := by
    refine fst_is hk (by rw [h1, decide_eq_true h2]; rfl) (fun i hi => ?_)
    cases q : fl2 P i
    · rfl
    · have a1 : cnt (fl2 P) (i + 1) = cnt (fl2 P) i + 1 := by show cnt (fl2 P) i + (fl2 P i).toNat = _; rw [q]; rfl
      have a2 := cnt_up (S := fl2 P) (n := i + 1) (m := k) (by omega)
      rw [decide_eq_false (by omega)]; rfl
  unfold pthV
  rw [this, if_pos hk]
theorem pth_no {P : Nat → Nat → Bool} {m : Nat} (h : cnt (fl2 P) 1296 ≤ m) : pthV P m = -4 := by
  have : pth P m = 1296 := by
    refine fst_all (fun i hi => ?_)
    cases q : fl2 P i
    · rfl
    · have a1 : cnt (fl2 P) (i + 1) = cnt (fl2 P) i + 1 := by show cnt (fl2 P) i + (fl2 P i).toNat = _; rw [q]; rfl
      have a2 := cnt_up (S := fl2 P) (n := i + 1) (m := 1296) (by omega)
      rw [decide_eq_false (by omega)]; rfl
  unfold pthV
  rw [this, if_neg (by omega)]
theorem nI_eq0 {n : Nat} (h : n < 2 ^ 31) : (nI n = 0) = (n = 0) := nI_0' h
theorem pairAt_c {P : Nat → Nat → Bool} {m : Nat} {σ : St} (hm : m < 2 ^ 31) (h : Bfit P σ) : mX0_pairAt (nI m) σ = some (pthV P m, σ) := by
  unfold mX0_pairAt
  rw [kl_e]
  have hE := lp_rx (bot := fun (_ _ : Int32) (_ : St) => (none : Option (Int32 × St))) (b := mX0_pairAt_4) (app := fun i (_ : Unit) (J : Int32 → Int32 → St → Option (Int32 × St)) => J (nI (m - cnt (fl2 P) (36 * i))) (nI i) σ) (P := fun i _ => cnt (fl2 P) (36 * i) ≤ m) 36 (Q := fun r => r = some (pthV P m, σ)) ?_ ?_ 2000 0 () (by omega) (by omega) (Nat.zero_le _)
  · exact hE
  · intro a _ ha hc J
    show mX0_pairAt_4 J _ (nI a) σ = _ ∨ _
    unfold mX0_pairAt_4
    rw [if_neg (lt36 ha), kl_e]
    have hE2 := lp_rx (bot := fun (_ _ : Int32) (_ : St) => (none : Option (Int32 × St))) (b := mX0_pairAt_13 J (nI a)) (app := fun i (_ : Unit) (J' : Int32 → Int32 → St → Option (Int32 × St)) => J' (nI (m - cnt (fl2 P) (36 * a + i))) (nI i) σ) (P := fun i _ => cnt (fl2 P) (36 * a + i) ≤ m) 36 (Q := fun r => r = some (pthV P m, σ) ∨ (cnt (fl2 P) (36 * (a + 1)) ≤ m ∧ r = J (nI (m - cnt (fl2 P) (36 * (a + 1)))) (nI (a + 1)) σ)) ?_ ?_ 2000 0 () (by omega) (by omega) hc
    · rcases hE2 with q | ⟨q1, q2⟩
      · exact Or.inl q
      · exact Or.inr ⟨(), q1, q2⟩
    · intro b _ hb hc J'
      show (mX0_pairAt_13 J (nI a) J' _ (nI b) σ = _ ∨ _) ∨ _
      unfold mX0_pairAt_13 mX0_pairAt_49
      rw [if_neg (lt36 hb), ldL_36 ha, h a ha, has_c hb]
      simp only [cl2_e, kl_e, b2_c, nI_1]
      have hs : cnt (fl2 P) (36 * a + b + 1) = cnt (fl2 P) (36 * a + b) + (P a b).toNat := by
        show cnt (fl2 P) (36 * a + b) + (fl2 P (36 * a + b)).toNat = _
        rw [fl2_at hb]
      cases q : P a b
      · rw [if_neg (by decide)]
        rw [q] at hs
        exact Or.inr ⟨(), by show cnt (fl2 P) (36 * a + b + 1) ≤ m; rw [hs]; exact hc, by show _ = J' (nI (m - cnt (fl2 P) (36 * a + b + 1))) _ _; rw [hs]; rfl⟩
      · rw [if_pos rfl]
        rw [q] at hs
        by_cases e : m - cnt (fl2 P) (36 * a + b) = 0
        · left; left
          rw [e, if_pos nI_0, show (100 : Int32) * nI a + nI b = nI (100 * a + b) from ix_m]
          rw [pth_at (k := 36 * a + b) (by omega) (by rw [fl2_at hb]; exact q) (by omega), show (36 * a + b) / 36 = a by omega, show (36 * a + b) % 36 = b by omega]
        · rw [if_neg (by rw [nI_eq0 (by omega)]; exact e)]
          refine Or.inr ⟨(), by show cnt (fl2 P) (36 * a + b + 1) ≤ m; rw [hs]; show cnt (fl2 P) (36 * a + b) + 1 ≤ m; omega, ?_⟩
          show _ = J' (nI (m - cnt (fl2 P) (36 * a + b + 1))) _ _
          rw [hs]
          obtain ⟨w, hw⟩ : ∃ w, m - cnt (fl2 P) (36 * a + b) = w + 1 := ⟨m - cnt (fl2 P) (36 * a + b) - 1, by omega⟩
          rw [hw, pk_m1, show m - (cnt (fl2 P) (36 * a + b) + (true).toNat) = w by show m - (cnt (fl2 P) (36 * a + b) + 1) = w; omega]
    · intro _ hc J'
      show mX0_pairAt_13 J (nI a) J' _ (nI 36) σ = _ ∨ _
      right
      refine ⟨by rw [show 36 * (a + 1) = 36 * a + 36 by omega]; exact hc, ?_⟩
      unfold mX0_pairAt_13
      rw [if_pos at36, nI_1, show 36 * (a + 1) = 36 * a + 36 by omega]
  · intro _ hc J
    show mX0_pairAt_4 J _ (nI 36) σ = _
    unfold mX0_pairAt_4
    rw [if_pos at36, pth_no hc]
theorem pairs_m {m : Nat} {σ : St} (hm : m < 2 ^ 31) : (lp (fun _ _ _ => none) mX11_pairs_25 2000) (nI m) (0 : Int32) σ = some (pthV (Pm σ) m, σ) := by
  have hE := lp_rx (bot := fun (_ _ : Int32) (_ : St) => (none : Option (Int32 × St))) (b := mX11_pairs_25) (app := fun i (_ : Unit) (J : Int32 → Int32 → St → Option (Int32 × St)) => J (nI (m - cnt (fl2 (Pm σ)) i)) (nI i) σ) (P := fun i _ => cnt (fl2 (Pm σ)) i ≤ m) 1296 (Q := fun r => r = some (pthV (Pm σ) m, σ)) ?_ ?_ 2000 0 () (by omega) (by omega) (Nat.zero_le _)
  · exact hE
  · intro k _ hk hc J
    show mX11_pairs_25 J _ (nI k) σ = _ ∨ _
    unfold mX11_pairs_25 mX11_pairs_67
    rw [if_neg (lt1296 hk), isPair_k hk]
    simp only [cl2_e, kl_e, b2_c, nI_1]
    have hs : cnt (fl2 (Pm σ)) (k + 1) = cnt (fl2 (Pm σ)) k + (fl2 (Pm σ) k).toNat := rfl
    cases q : fl2 (Pm σ) k
    · rw [if_neg (by decide)]
      rw [q] at hs
      exact Or.inr ⟨(), by rw [hs]; exact hc, by rw [hs]; rfl⟩
    · rw [if_pos rfl]
      rw [q] at hs
      by_cases e : m - cnt (fl2 (Pm σ)) k = 0
      · left
        rw [e, if_pos nI_0, (k36 (by omega)).2, (k36 (by omega)).1, show (100 : Int32) * nI (k / 36) + nI (k % 36) = nI (100 * (k / 36) + k % 36) from ix_m]
        rw [pth_at hk q (by omega)]
      · rw [if_neg (by rw [nI_eq0 (by omega)]; exact e)]
        refine Or.inr ⟨(), by rw [hs]; show cnt (fl2 (Pm σ)) k + 1 ≤ m; omega, ?_⟩
        rw [hs]
        obtain ⟨w, hw⟩ : ∃ w, m - cnt (fl2 (Pm σ)) k = w + 1 := ⟨m - cnt (fl2 (Pm σ)) k - 1, by omega⟩
        rw [hw, pk_m1, show m - (cnt (fl2 (Pm σ)) k + (true).toNat) = w by show m - (cnt (fl2 (Pm σ)) k + 1) = w; omega]
  · intro _ hc J
    show mX11_pairs_25 J _ (nI 1296) σ = _
    unfold mX11_pairs_25
    rw [if_pos at1296, pth_no hc]
theorem pthV_eq {P Q : Nat → Nat → Bool} (h : ∀ a b, a < 36 → b < 36 → P a b = Q a b) (m : Nat) : pthV P m = pthV Q m := by
  have : pth P m = pth Q m := fst_eq 1296 (fun k hk => by
    show (fl2 P k && decide (cnt (fl2 P) k = m)) = (fl2 Q k && decide (cnt (fl2 Q) k = m))
    rw [fl2_eq h hk, cnt_eq k (fun j hj => fl2_eq h (by omega))])
  unfold pthV
  rw [this]
theorem cntP_eq {P Q : Nat → Nat → Bool} (h : ∀ a b, a < 36 → b < 36 → P a b = Q a b) : cnt (fl2 P) 1296 = cnt (fl2 Q) 1296 := cnt_eq 1296 (fun j hj => fl2_eq h hj)
theorem s_pairs : stp132 Inv mX10_pairs mX11_pairs := by
  intro σ a hI
  by_cases q : (-1 : Int32) ≤ a
  · obtain ⟨τ, e1, _, _, e4, e5⟩ := lay_c σ
    have hc := core_FB e5
    have hP : ∀ x y, x < 36 → y < 36 → Pm (pI τ 45 16 0) x y = PrL (ld σ 1) x y := fun x y hx hy => by rw [Pm_core (show core (pI τ 45 16 0) = core σ by rw [c16, hc]), Pm_Inv hI hx hy]
    by_cases q0 : 0 ≤ a
    · obtain ⟨m, hm, rfl⟩ := nI_of (Int32.not_lt.2 q0)
      refine ag (f := mX10_pairs (nI m)) (g := mX11_pairs (nI m)) (v := pthV (PrL (ld σ 1)) m) (ρ := τ) (τ := pI τ 45 16 0) ?_ ?_ (by rw [c16, hc]) hI
      · unfold mX10_pairs
        rw [if_pos q, e1, cl1_e, if_neg, pairAt_c hm e4, cl2_e]
        intro y
        rw [y] at q0
        exact absurd q0 (by decide)
      · unfold mX11_pairs
        rw [kl_e, if_pos q, if_pos q0, kl_e, pairs_m hm, pthV_eq hP]
    · have ea : a = -1 := by
        have z : (0 : Int32).toInt = 0 := rfl
        have z1 : (-1 : Int32).toInt = -1 := rfl
        rw [Int32.le_iff_toInt_le, z1] at q
        rw [Int32.le_iff_toInt_le, z] at q0
        rw [← Int32.toInt_inj, z1]
        omega
      subst ea
      refine ag (f := mX10_pairs (-1)) (g := mX11_pairs (-1)) (v := nI (cnt (fl2 (PrL (ld σ 1))) 1296)) (ρ := τ) (τ := pI τ 45 16 0) ?_ ?_ (by rw [c16, hc]) hI
      · unfold mX10_pairs mX0_pairsInAll
        rw [if_pos q, e1, cl1_e, if_pos rfl, bitsOf_c (P := PrL (ld σ 1)) rfl e4, cl2_e, cl2_e]
      · unfold mX11_pairs
        rw [kl_e, if_pos q, if_neg q0, pairMany_m, cl2_e, cntP_eq hP]
  · refine ag (f := mX10_pairs a) (g := mX11_pairs a) (v := -1) (ρ := σ) (τ := pI σ 45 16 0) ?_ ?_ c16 hI
    · unfold mX10_pairs
      rw [if_neg q]
    · unfold mX11_pairs
      rw [kl_e, if_neg q]
theorem Om_pI {σ : St} {k : Nat} {v : Int32} (h : k = 3 ∨ k = 4) : Om (pI σ 45 k v) = Om σ := by
  funext c
  unfold Om
  rw [gI_pI, if_neg (by omega), lm_pI (by omega)]
  rcases h with rfl | rfl <;> rfl
theorem Pr_up {O : Nat → Bool} {L : Ld} {k : Nat} {v lo hi : Int32} {a b : Nat} : Pr O (up L k v) lo hi a b = Pr O L lo hi a b := rfl
theorem pI_back {σ : St} {o k : Nat} {v : Int32} : core (pI (pI σ o k v) o k (gI σ o k)) = core σ := by
  unfold core
  refine Prod.ext (funext fun o' => funext fun k' => ?_) rfl
  show (if keI o' k' then gI (pI (pI σ o k v) o k (gI σ o k)) o' k' else 0) = if keI o' k' then gI σ o' k' else 0
  rw [gI_pI, gI_pI]
  by_cases e : o' = o ∧ k' = k
  · obtain ⟨rfl, rfl⟩ := e; simp
  · rw [if_neg e, if_neg e]
theorem s_curve : stp132 Inv mX10_curve mX11_curve := by
  intro σ a hI
  have j20 : ∀ τ, mX11_in a.toInt64 (0 : Int64) (20 : Int64) τ = some (b2 (inR a 0 20), τ) := fun τ => in_m a 0 20 τ
  cases h : inR a 0 20
  · refine ag (f := mX10_curve a) (g := mX11_curve a) (v := -1) (ρ := σ) (τ := pI σ 45 16 0) ?_ ?_ c16 hI
    · unfold mX10_curve
      simp only [dist_c, h, b2_f, cl2_e, ite_true]
    · unfold mX11_curve
      simp only [j20, h, b2_f, cl2_e, kl_e, ite_true]
  · obtain ⟨τ, e1, e2, _, _, e5⟩ := lay_c σ
    have hc := core_FB e5
    obtain ⟨ρ, b1, b2', b3⟩ := bound_c (lo := ls (ld σ 1) 3) (hi := a) e2
    have g4 : FB σ ρ := Fx_tr e5 (Fx_mono (fun _ _ h => h.elim) (fun _ h => h.elim) (fun _ h => Or.inl h) b3)
    obtain ⟨π, c1, c2, c3⟩ := admit_c (O := Op (ld σ 1)) b2'
    have g5 : FB σ π := Fx_tr g4 (Fx_mono (fun _ _ h => h.elim) (fun _ h => h.elim) (fun _ h => Or.inr h) c3)
    have hc5 := core_FB g5
    refine ag (f := mX10_curve a) (g := mX11_curve a) (v := nI (cnt (fl2 (Pr (Op (ld σ 1)) (ld σ 1) (ls (ld σ 1) 3) a)) 1296)) (ρ := π) (τ := pI (pI (pI π 45 16 0) 45 4 a) 45 4 (gI (pI π 45 16 0) 45 4)) ?_ ?_ (by rw [pI_back, c16, hc5]) hI
    · unfold mX10_curve mX0_pairsInAll
      simp only [dist_c, h, b2_t, cl2_e, if_neg n10, e1, cl1_e, kl_e, ld_s (σ := τ) (o := 1) (k := 3) (by omega), ld_core hc, b1, openCells_c, ld_core (core_FB g4), c1]
      rw [bitsOf_c (P := Pr (Op (ld σ 1)) (ld σ 1) (ls (ld σ 1) 3) a) rfl c2, cl2_e, cl2_e]
    · unfold mX11_curve
      simp only [j20, h, b2_t, cl2_e, if_neg n10, kl_e, pairMany_m]
      refine congrArg (fun x => some (nI x, _)) (cntP_eq (fun x y hx hy => ?_))
      have hl : lm (pI (pI π 45 16 0) 45 4 a) = up (ld σ 1) 4 a := by rw [lm_pI (by omega), lm_16, lm_core hc5, hI.1]
      unfold Pm
      rw [hl, ls_up, ls_up, if_neg (by omega), if_pos rfl, Pr_up, Om_pI (Or.inr rfl), Om_core (show core (pI π 45 16 0) = core σ by rw [c16, hc5])]
      exact Pr_eq (fun j hj => Inv_Om hI hj) hx hy
/-! third -/
theorem both_or {σ : St} (hI : Inv σ) : (mX3_bothStand 1 σ = some (0, σ) ∧ ∀ τ, lm τ = ld σ 1 → mX11_areBoth τ = some (0, τ)) ∨ ∃ p q, p < 36 ∧ q < 36 ∧ ls (ld σ 1) 5 = nI p ∧ ls (ld σ 1) 6 = nI q ∧ mX3_bothStand 1 σ = some (1, σ) ∧ ∀ τ, lm τ = ld σ 1 → mX11_areBoth τ = some (1, τ) := by
  have s5 : gI σ 1 5 = ls (ld σ 1) 5 := ld_s (by omega)
  have s6 : gI σ 1 6 = ls (ld σ 1) 6 := ld_s (by omega)
  have m5 : ∀ τ, lm τ = ld σ 1 → gI τ 45 5 = ls (ld σ 1) 5 := fun τ h => by rw [lm_s (by omega), h]
  have m6 : ∀ τ, lm τ = ld σ 1 → gI τ 45 6 = ls (ld σ 1) 6 := fun τ h => by rw [lm_s (by omega), h]
  rcases hI.2.1.2.2.2.2.1 with e1 | ⟨p, hp, e1⟩
  · left
    constructor
    · unfold mX3_bothStand; rw [kl_e, s5, e1, if_pos rfl]; rfl
    · intro τ h; unfold mX11_areBoth; rw [kl_e, m5 τ h, e1, if_pos (by decide)]; rfl
  · rcases hI.2.1.2.2.2.2.2.1 with e2 | ⟨q, hq, e2⟩
    · left
      constructor
      · unfold mX3_bothStand; rw [kl_e, s5, e1, if_neg (nI_n4 p hp), kl_e, s6, e2, if_pos rfl]; rfl
      · intro τ h; unfold mX11_areBoth; rw [kl_e, m5 τ h, e1, if_neg (nI_pos (by omega)), kl_e, m6 τ h, e2, if_pos (by decide)]; rfl
    · right
      refine ⟨p, q, hp, hq, e1, e2, ?_, ?_⟩
      · unfold mX3_bothStand; rw [kl_e, s5, e1, if_neg (nI_n4 p hp), kl_e, s6, e2, if_neg (nI_n4 q hq)]; rfl
      · intro τ h; unfold mX11_areBoth; rw [kl_e, m5 τ h, e1, if_neg (nI_pos (by omega)), kl_e, m6 τ h, e2, if_neg (nI_pos (by omega))]; rfl
theorem leastOf_c {S : Nat → Bool} (σ : St) : mX7_leastOf (bs S) σ = some (if fst S 36 < 36 then nI (fst S 36) else -4, σ) := by
  unfold mX7_leastOf
  rw [kl_e]
  have hl := fst_le (p := S) 36
  refine lp_for (app := fun i (J : Int32 → St → Option (Int32 × St)) => J (nI i) σ) (fst S 36) _ ?_ ?_ 2000 (by omega)
  · intro i hi J
    unfold mX7_leastOf_2
    rw [if_neg (lt36 (by omega)), has_c (by omega), fst_no hi, cl2_e, b2_c, if_neg (by decide), nI_1]
  · intro J
    unfold mX7_leastOf_2
    by_cases h : fst S 36 < 36
    · rw [if_neg (lt36 h), has_c h, fst_yes h, cl2_e, b2_c, if_pos rfl, if_pos h]
    · rw [if_neg h, show fst S 36 = 36 by omega, if_pos at36]
theorem nearOf_c {N : Nat → Nat → Bool} {a : Nat} {σ : St} (h : Bnear N σ) (ha : a < 36) : mX0_nearOf (nI a) σ = some (bs (N a), σ) := by
  unfold mX0_nearOf
  simp only [cell_c ha, cl2_e, if_neg n10, ldL_36 ha, h a ha]
def lsV (T : Nat → Bool) (i : Nat) : Int32 := if fst T i < i then nI (fst T i) else -4
theorem fst_S {p : Nat → Bool} {n : Nat} : fst p (n + 1) = if fst p n < n then fst p n else if p n then n else n + 1 := rfl
theorem third_m {T : Nat → Bool} {p q : Nat} {a : Int32} {σ : St} (hp : p < 36) (hq : q < 36) (e1 : ls (lm σ) 5 = nI p) (e2 : ls (lm σ) 6 = nI q) (hT : ∀ c, c < 36 → (Om σ c && (!Off (lm σ) p c && !Off (lm σ) q c)) = T c) : (lp (fun _ _ _ _ => none) (mX11_third_35 a) 2000) (0 : Int32) (-4 : Int32) (0 : Int32) σ = some (if a = 0 then nI (cnt T 36) else lsV T 36, σ) := by
  have s5 : gI σ 45 5 = nI p := by rw [lm_s (by omega), e1]
  have s6 : gI σ 45 6 = nI q := by rw [lm_s (by omega), e2]
  refine lp_for (app := fun i (J : Int32 → Int32 → Int32 → St → Option (Int32 × St)) => J (nI (cnt T i)) (lsV T i) (nI i) σ) 36 _ ?_ ?_ 2000 (by omega)
  · intro c hc J
    unfold mX11_third_35 mX11_third_82 mX11_third_81 mX11_third_95 mX11_third_111 mX11_third_112
    rw [if_neg (lt36 hc)]
    simp only [kl_e, isOpen_M hc, cl2_e, b2_c, s5, s6, isOff_m hp hc, isOff_m hq hc, nI_1, ite_true, if_neg n10]
    have yes : T c = true → (if 0 ≤ lsV T c then J (nI (cnt T c + 1)) (lsV T c) (nI (c + 1)) σ else J (nI (cnt T c + 1)) (nI c) (nI (c + 1)) σ) = J (nI (cnt T (c + 1))) (lsV T (c + 1)) (nI (c + 1)) σ := by
      intro t
      have h1 : nI (cnt T (c + 1)) = nI (cnt T c + 1) := by
        show nI (cnt T c + (T c).toNat) = _
        rw [t]; rfl
      rw [h1]
      by_cases y : fst T c < c
      · have l1 : lsV T c = nI (fst T c) := by unfold lsV; rw [if_pos y]
        have l2 : lsV T (c + 1) = nI (fst T c) := by unfold lsV; rw [fst_S, if_pos y, if_pos (by omega)]
        rw [l1, l2, if_pos (nI_pos' (by omega))]
      · have l1 : lsV T c = -4 := by unfold lsV; rw [if_neg y]
        have l2 : lsV T (c + 1) = nI c := by unfold lsV; rw [fst_S, if_neg y, if_pos t, if_pos (by omega)]
        rw [l1, l2, if_neg (by decide)]
    have no : T c = false → J (nI (cnt T c) + 0) (lsV T c) (nI (c + 1)) σ = J (nI (cnt T (c + 1))) (lsV T (c + 1)) (nI (c + 1)) σ := by
      intro t
      have h1 : nI (cnt T (c + 1)) = nI (cnt T c) + 0 := by
        show nI (cnt T c + (T c).toNat) = _
        rw [t]; exact (nI_add _ 0).symm
      rw [h1]
      by_cases y : fst T c < c
      · have l1 : lsV T c = nI (fst T c) := by unfold lsV; rw [if_pos y]
        have l2 : lsV T (c + 1) = nI (fst T c) := by unfold lsV; rw [fst_S, if_pos y, if_pos (by omega)]
        rw [l1, l2]
      · have l1 : lsV T c = -4 := by unfold lsV; rw [if_neg y]
        have l2 : lsV T (c + 1) = -4 := by unfold lsV; rw [fst_S, if_neg y, if_neg (show ¬ T c = true by rw [t]; decide), if_neg (by omega)]
        rw [l1, l2]
    have hTc := hT c hc
    cases o : Om σ c
    · rw [o] at hTc
      rw [if_neg (by decide)]
      exact no hTc.symm
    · rw [o] at hTc
      rw [if_pos rfl]
      cases f1 : Off (lm σ) p c
      · rw [if_neg (by decide)]
        rw [f1] at hTc
        cases f2 : Off (lm σ) q c
        · rw [if_neg (by decide)]
          rw [f2] at hTc
          exact yes hTc.symm
        · rw [if_pos rfl]
          rw [f2] at hTc
          exact no hTc.symm
      · rw [if_pos rfl]
        rw [f1] at hTc
        exact no hTc.symm
  · intro J
    unfold mX11_third_35
    rw [if_pos at36]
    by_cases y : a = 0
    · rw [if_pos y, if_pos y]
    · rw [if_neg y, if_neg y]
theorem s_third : stp132 Inv mX10_third mX11_third := by
  intro σ a hI
  have j1 : ∀ τ, mX11_in a.toInt64 (0 : Int64) (1 : Int64) τ = some (b2 (inR a 0 1), τ) := fun τ => in_m a 0 1 τ
  cases h : inR a 0 1
  · refine ag (f := mX10_third a) (g := mX11_third a) (v := -1) (ρ := σ) (τ := pI σ 45 16 0) ?_ ?_ c16 hI
    · unfold mX10_third
      simp only [either_c, h, b2_f, cl2_e, ite_true]
    · unfold mX11_third
      simp only [j1, h, b2_f, cl2_e, kl_e, ite_true]
  rcases both_or hI with ⟨y1, y2⟩ | ⟨p, q, hp, hq, e5, e6, y1, y2⟩
  · refine ag (f := mX10_third a) (g := mX11_third a) (v := -3) (ρ := σ) (τ := pI σ 45 16 0) ?_ ?_ c16 hI
    · unfold mX10_third
      simp only [either_c, h, b2_t, if_neg n10, cl2_e, y1, ite_true]
    · unfold mX11_third
      simp only [j1, h, b2_t, if_neg n10, cl2_e, kl_e, y2 (pI σ 45 16 0) (by rw [lm_16, hI.1]), ite_true]
  · obtain ⟨τ, e1, _, e3, _, e4⟩ := lay_c σ
    have hc := core_FB e4
    have hl : lm (pI τ 45 16 0) = ld σ 1 := by rw [lm_16, lm_core hc, hI.1]
    refine ag (f := mX10_third a) (g := mX11_third a) (v := if a = 0 then nI (cnt (fun c => Op (ld σ 1) c && (!Off (ld σ 1) p c && !Off (ld σ 1) q c)) 36) else lsV (fun c => Op (ld σ 1) c && (!Off (ld σ 1) p c && !Off (ld σ 1) q c)) 36) (ρ := τ) (τ := pI τ 45 16 0) ?_ ?_ (by rw [c16, hc]) hI
    · unfold mX10_third
      simp only [either_c, h, b2_t, if_neg n10, cl2_e, y1, e1, cl1_e, kl_e, ld_s (σ := τ) (o := 1) (k := 5) (by omega), ld_s (σ := τ) (o := 1) (k := 6) (by omega), ld_core hc, e5, e6, nearOf_c e3 hp, nearOf_c e3 hq, openCells_c, bs_and, bitCount_c, leastOf_c]
      have hS : (fun j => Nr (ld σ 1) (ls (ld σ 1) 3) (ls (ld σ 1) 4) p j && Nr (ld σ 1) (ls (ld σ 1) 3) (ls (ld σ 1) 4) q j && Op (ld σ 1) j) = fun c => Op (ld σ 1) c && (!Off (ld σ 1) p c && !Off (ld σ 1) q c) := by
        funext c
        rw [Off_Nr, Off_Nr, Bool.and_comm]
      rw [hS]
      by_cases z : a = 0
      · rw [if_pos z, if_pos z]
      · rw [if_neg z, if_neg z]; rfl
    · unfold mX11_third
      simp only [j1, h, b2_t, if_neg n10, cl2_e, kl_e, y2 _ hl]
      exact third_m hp hq (by rw [hl, e5]) (by rw [hl, e6]) (fun c hc' => by rw [hl, Om_core (show core (pI τ 45 16 0) = core σ by rw [c16, hc]), Inv_Om hI hc'])
