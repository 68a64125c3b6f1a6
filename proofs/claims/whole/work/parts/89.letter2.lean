/-! ===== PURE: which letter, of the reference ===== -/
theorem md_first {S : Nat → Bool} {g : Nat → Nat} : ∀ i, (∀ j, j < i → S j = true) → (i = 0 ∧ md S g i = none) ∨ ∃ b, md S g i = some b ∧ b < i ∧ (∀ j, j < i → g b ≤ g j) ∧ ∀ j, j < b → g b < g j
  | 0, _ => Or.inl ⟨rfl, rfl⟩
  | i + 1, h => by
    right
    have hi := h i (by omega)
    rw [md_s, hi]
    rcases md_first (S := S) (g := g) i (fun j hj => h j (by omega)) with ⟨e, h1⟩ | ⟨b, h1, h2, h3, h4⟩
    · rw [h1, e]
      exact ⟨0, rfl, by omega, fun j hj => by rw [show j = 0 by omega]; exact Nat.le_refl _, fun j hj => by omega⟩
    · rw [h1]
      simp only [Bool.true_and]
      by_cases z : g i < g b
      · rw [decide_eq_true z]
        refine ⟨i, rfl, by omega, fun j hj => ?_, fun j hj => ?_⟩
        · by_cases y : j = i
          · rw [y]; exact Nat.le_refl _
          · have := h3 j (by omega); omega
        · have := h3 j hj; omega
      · rw [decide_eq_false z]
        refine ⟨b, rfl, by omega, fun j hj => ?_, h4⟩
        by_cases y : j = i
        · rw [y]; omega
        · exact h3 j (by omega)
theorem dmB_first {W : Nat → Nat} {n : Nat} : ∀ t, t ≤ n → (t = 0 ∧ dmB W n t = none) ∨ ∃ b, dmB W n t = some b ∧ n - t ≤ b ∧ b < n ∧ (∀ j, n - t ≤ j → j < n → W b ≤ W j) ∧ ∀ j, n - t ≤ j → j < b → W b < W j
  | 0, _ => Or.inl ⟨rfl, rfl⟩
  | t + 1, ht => by
    right
    rw [show dmB W n (t + 1) = match dmB W n t with | none => some (n - 1 - t) | some b => if W b < W (n - 1 - t) then some b else some (n - 1 - t) from rfl]
    rcases dmB_first (W := W) (n := n) t (by omega) with ⟨e, h1⟩ | ⟨b, h1, h2, h3, h4, h5⟩
    · rw [h1]
      exact ⟨n - 1 - t, rfl, by omega, by omega, fun j a b => by rw [show j = n - 1 - t by omega]; exact Nat.le_refl _, fun j a b => by omega⟩
    · rw [h1]
      show ∃ b', (if W b < W (n - 1 - t) then some b else some (n - 1 - t)) = some b' ∧ _
      by_cases z : W b < W (n - 1 - t)
      · rw [if_pos z]
        refine ⟨b, rfl, by omega, h3, fun j a c => ?_, fun j a c => ?_⟩
        · by_cases y : j = n - 1 - t
          · rw [y]; omega
          · exact h4 j (by omega) c
        · by_cases y : j = n - 1 - t
          · rw [y]; exact z
          · exact h5 j (by omega) c
      · rw [if_neg z]
        refine ⟨n - 1 - t, rfl, by omega, by omega, fun j a c => ?_, fun j a c => by omega⟩
        by_cases y : j = n - 1 - t
        · rw [y]; exact Nat.le_refl _
        · have := h4 j (by omega) c; omega
theorem md_dmB {W : Nat → Nat} {n : Nat} (h : ∀ i, i < n → 0 < W i) (h0 : 0 < n) : md (fun i => decide (0 < W i)) W n = dmB W n n := by
  rcases md_first (S := fun i => decide (0 < W i)) (g := W) n (fun j hj => decide_eq_true (h j hj)) with ⟨e, _⟩ | ⟨b, b1, b2, b3, b4⟩
  · omega
  · rcases dmB_first (W := W) (n := n) n (Nat.le_refl _) with ⟨e, _⟩ | ⟨c, c1, c2, c3, c4, c5⟩
    · omega
    · rw [b1, c1]
      have e1 := b3 c c3
      have e2 := c4 b (by omega) b2
      rcases Nat.lt_trichotomy b c with z | z | z
      · have := c5 b (by omega) z; omega
      · rw [z]
      · have := b4 c z; omega
theorem md_none {S : Nat → Bool} {g : Nat → Nat} : ∀ i, (∀ j, j < i → S j = false) → md S g i = none
  | 0, _ => rfl
  | i + 1, h => by
    rw [md_s, md_none i (fun j hj => h j (by omega)), h i (by omega)]
    rfl
def o99 (g : Nat → Nat) : Option Nat → Int32
  | none => 99
  | some b => nI (g b)
/-- ahead of place i, of the reference -/
def rF (O : Nat → Bool) (Nf : Nat → Nat → Bool) : Nat → Nat → Bool
  | 0 => fF O Nf 0
  | i + 1 => fF O Nf i
theorem letter_m {d n : Nat} {O : Nat → Bool} {Nf : Nat → Nat → Bool} {rc : Nat → Nat} {σ : St} (hd : d < 8) (hn : n ≤ 100) (h8 : gA σ 52 d = nI n) (hr : ∀ i, i < n → rc i < 36 ∧ gL σ 53 (100 * d + i) = (nI (rc i)).toInt64) (hO : Om σ = O) (hN : ∀ i, Nf i = Nr (lm σ) (ls (lm σ) 3) (ls (lm σ) 4) (rc i)) : (lp (fun _ _ _ _ _ => none) (mX11_letter_39 (nI d)) 2000) (-4 : Int32) (99 : Int32) (bs (fF O Nf 0)) (0 : Int32) σ = some (oi (md (fun i => decide (0 < WN O Nf n i)) (WN O Nf n) n), σ) := by
  refine lp_for (app := fun i (J : Int32 → Int32 → Int64 → Int32 → St → Option (Int32 × St)) => J (oi (md (fun i => decide (0 < WN O Nf n i)) (WN O Nf n) i)) (o99 (WN O Nf n) (md (fun i => decide (0 < WN O Nf n i)) (WN O Nf n) i)) (bs (rF O Nf i)) (nI i) σ) n _ ?_ ?_ 2000 (by omega)
  · intro i hi J
    have hWl : ∀ i, WN O Nf n i ≤ 36 := fun i => WN_le
    have turn : mX11_letter_73 J (nI i) (o99 (WN O Nf n) (md (fun i => decide (0 < WN O Nf n i)) (WN O Nf n) i)) (oi (md (fun i => decide (0 < WN O Nf n i)) (WN O Nf n) i)) (nI d) (bs (fF O Nf i)) σ = J (oi (md (fun i => decide (0 < WN O Nf n i)) (WN O Nf n) (i + 1))) (o99 (WN O Nf n) (md (fun i => decide (0 < WN O Nf n i)) (WN O Nf n) (i + 1))) (bs (rF O Nf (i + 1))) (nI (i + 1)) σ := by
      unfold mX11_letter_73
      rw [kl_e]
      refine lp_for (app := fun c (J' : Int32 → Int32 → St → Option (Int32 × St)) => J' (nI (mxc (lfW O Nf n i) c)) (nI c) σ) 36 _ ?_ ?_ 2000 (by omega)
      · intro c hc J'
        have hm : mxc (lfW O Nf n i) c ≤ 36 := mxc_le c (fun _ _ => lfW_le)
        have hl36 : lfW O Nf n i c ≤ 36 := lfW_le
        have hS : mxc (lfW O Nf n i) (c + 1) = if mxc (lfW O Nf n i) c < lfW O Nf n i c then lfW O Nf n i c else mxc (lfW O Nf n i) c := rfl
        rw [hS]
        unfold mX11_letter_81 mX11_letter_116 mX11_letter_132
        have hone : (1 : Int64) <<< ((nI c).toInt64 &&& 63) = bs (one c) := sh_c hc
        rw [if_neg (lt36 hc), isOn_m hc, cl2_e, hone, toLast_m hd hn hi h8 hr hO hN]
        simp only [kl_e, nI_1, cl2_e, onesOf_m]
        have fin : (if nI (lfW O Nf n i c) ≤ nI (mxc (lfW O Nf n i) c) then J' (nI (mxc (lfW O Nf n i) c)) (nI (c + 1)) σ else J' (nI (lfW O Nf n i c)) (nI (c + 1)) σ) = J' (nI (if mxc (lfW O Nf n i) c < lfW O Nf n i c then lfW O Nf n i c else mxc (lfW O Nf n i) c)) (nI (c + 1)) σ := by
          by_cases z : mxc (lfW O Nf n i) c < lfW O Nf n i c
          · rw [if_pos z, if_neg (nI_ge z (by omega))]
          · rw [if_neg z, if_pos (nI_le (by omega) (by omega))]
        cases y : fF O Nf i c
        · have hl : lfW O Nf n i c = 0 := by unfold lfW; rw [y, if_neg (by decide)]
          rw [hl] at fin ⊢
          rw [b2_f, if_pos rfl]
          exact fin
        · have hl : lfW O Nf n i c = cnt (fw O Nf i (n - 1 - i) (one c)) 36 := by unfold lfW; rw [y, if_pos rfl]
          rw [← hl, b2_t, if_neg n10]
          exact fin
      · intro J'
        have hw := hWl i
        have hWe : mxc (lfW O Nf n i) 36 = WN O Nf n i := rfl
        unfold mX11_letter_81 mX11_letter_158 mX11_letter_157 mX11_letter_176 mX11_letter_178
        rw [if_pos at36, hWe]
        simp only [kl_e, nI_1]
        rw [md_s]
        by_cases z : 0 < WN O Nf n i
        · rw [decide_eq_true z]
          have hz : ¬ nI (WN O Nf n i) ≤ 0 := nI_nle z (by omega)
          simp only [if_neg hz]
          cases y : md (fun i => decide (0 < WN O Nf n i)) (WN O Nf n) i with
          | none =>
            have hno : ¬ o99 (WN O Nf n) none ≤ nI (WN O Nf n i) := nI_ge (b := 99) (by omega) (by omega)
            simp only [if_neg hno]
            rfl
          | some b =>
            have hwb := hWl b
            simp only [Bool.true_and]
            by_cases k : WN O Nf n i < WN O Nf n b
            · have hno : ¬ o99 (WN O Nf n) (some b) ≤ nI (WN O Nf n i) := nI_ge k (by omega)
              simp only [if_neg hno]
              rw [decide_eq_true k]
              rfl
            · have hyes : o99 (WN O Nf n) (some b) ≤ nI (WN O Nf n i) := nI_le (by omega) (by omega)
              simp only [if_pos hyes]
              rw [decide_eq_false k]
              rfl
        · rw [decide_eq_false z]
          have hz : nI (WN O Nf n i) ≤ 0 := by rw [nI_0le (by omega)]; omega
          simp only [if_pos hz]
          cases md (fun i => decide (0 < WN O Nf n i)) (WN O Nf n) i <;> rfl
    show mX11_letter_39 (nI d) J _ _ (bs (rF O Nf i)) (nI i) σ = _
    unfold mX11_letter_39
    rw [ldA_8 hd, h8, if_neg (nI_ge hi (by omega)), kl_e]
    by_cases y : i = 0
    · rw [if_pos (show nI i = 0 by rw [y]; rfl), ← turn, y]
      rfl
    · obtain ⟨w, hw⟩ : ∃ w, i = w + 1 := ⟨i - 1, by omega⟩
      rw [if_neg (show ¬ nI i = 0 by rw [nI_0' (by omega)]; exact y), goOn_m, cl2_e, notOff_m hd (by omega) (hr _ hi).2 (hr _ hi).1, cl2_e, hO, ← hN, ← turn]
      have e1 : bs (fun e => nx O (rF O Nf i) e && Nf i e) = bs (fF O Nf i) := by
        rw [hw]
        exact bs_eq (fun e _ => rfl)
      rw [e1]
  · intro J
    show mX11_letter_39 (nI d) J _ _ (bs (rF O Nf n)) (nI n) σ = _
    unfold mX11_letter_39
    rw [ldA_8 hd, h8, if_pos (Int32.le_refl _)]
theorem WN_pos {O : Nat → Bool} {Nf : Nat → Nat → Bool} {n i e : Nat} (hi : i < n) (he : e < 36) (h : fF O Nf (n - 1) e = true) : 0 < WN O Nf n i := by
  have h1 := fF_on (O := O) (Nf := Nf) (i := i) (n - 1 - i)
  rw [show i + (n - 1 - i) = n - 1 by omega] at h1
  rw [h1, fw_add _ e he] at h
  obtain ⟨c, hc, h2⟩ := anyN_iff.1 h
  rw [Bool.and_eq_true] at h2
  have h3 : 0 < lfW O Nf n i c := by
    unfold lfW
    rw [if_pos h2.1]
    refine Nat.pos_of_ne_zero (fun z => ?_)
    have := cnt_0 36 z e he
    rw [h2.2] at this; cases this
  have := mxc_ge (f := lfW O Nf n i) (n := 36) hc
  unfold WN
  omega
theorem WN_0 {O : Nat → Bool} {Nf : Nat → Nat → Bool} {n i : Nat} (hi : i < n) (h : ∀ e, e < 36 → fF O Nf (n - 1) e = false) : WN O Nf n i = 0 := by
  have h1 := fF_on (O := O) (Nf := Nf) (i := i) (n - 1 - i)
  rw [show i + (n - 1 - i) = n - 1 by omega] at h1
  have : WN O Nf n i ≤ 0 := mxc_le 36 (fun c hc => by
    unfold lfW
    by_cases y : fF O Nf i c = true
    · rw [if_pos y]
      have : cnt (fw O Nf i (n - 1 - i) (one c)) 36 = cnt (fun _ => false) 36 := cnt_eq 36 (fun e he => by
        have h2 := h e he
        rw [h1, fw_add _ e he] at h2
        have h3 := anyN_f.1 h2 c hc
        rw [y, Bool.true_and] at h3
        exact h3)
      rw [this]
      exact Nat.le_refl _
    · rw [if_neg y]; exact Nat.le_refl _)
  omega
theorem WN_eq {O O' : Nat → Bool} {Nf : Nat → Nat → Bool} {n i : Nat} (h : ∀ e, e < 36 → O e = O' e) : WN O Nf n i = WN O' Nf n i := mxc_eq 36 (fun c hc => by
  unfold lfW
  rw [fF_eq h (fun _ _ _ => rfl) i c hc, cnt_eq 36 (fun e he => fw_eq h (fun _ _ _ => rfl) (fun _ _ => rfl) (n - 1 - i) e he)])
theorem s_letter : stp132 Inv mX10_letter mX11_letter := by
  intro σ a hI
  rcases tr_or hI a with ⟨v, v1, v2, v3, v4, v5⟩ | ⟨d, s, n, hd, rfl, hR, h0, hr, v3, v4⟩
  · refine ag (f := mX10_letter a) (g := mX11_letter a) (v := v) (ρ := σ) (τ := pI σ 45 16 0) ?_ ?_ c16 hI
    · unfold mX10_letter
      rw [v3, cl2_e, if_neg v1]
    · unfold mX11_letter
      rw [kl_e, v4 _ c16, cl2_e, if_neg v2]
  · have hn := hR.2.2.2.1
    obtain ⟨s0, s1, s2, s3, s4, s5⟩ := lay_c σ
    have hc0 := core_FB s5
    obtain ⟨τ, t1, t2, t3⟩ := follow_c (O := Op (ld σ 1)) (σ := σ) hd hn h0 hc0 hR.2.2.2.2.2.2.1 (fun i hi => ⟨(hr i hi).1, (hr i hi).2.1⟩) s3
    have hc : core τ = core σ := by rw [core_FT t3, hc0]
    have hB : Bnear (Nr (ld σ 1) (ls (ld σ 1) 3) (ls (ld σ 1) 4)) τ := fun a ha => by rw [Fx_L t3 (by omega)]; exact s3 a ha
    obtain ⟨π, u1, u2⟩ := best_c (O := Op (ld σ 1)) (σ := σ) hd hn h0 hc hR.2.2.2.2.2.2.1 (fun i hi => ⟨(hr i hi).1, (hr i hi).2.1⟩) hB t2
    have hcπ : core π = core σ := by rw [core_FT u2, hc]
    have cls : mX10_letter (nI d) σ = (if (lg_cmp (bs (fF (Op (ld σ 1)) (fun i => Nr (ld σ 1) (ls (ld σ 1) 3) (ls (ld σ 1) 4) (rcN σ d i)) (n - 1))) (0 : Int64)) = 0 then some (-4, τ) else some (oi (dmB (WN (Op (ld σ 1)) (fun i => Nr (ld σ 1) (ls (ld σ 1) 3) (ls (ld σ 1) 4) (rcN σ d i)) n) n n), π)) := by
      unfold mX10_letter
      rw [v3, cl2_e, if_pos rfl, s1, cl1_e, shelfAt_c hd, cl2_e, openCells_c, cl2_e, ld_core hc0, t1, cl2_e, shelfAt_c hd, cl2_e, openCells_c, cl2_e, ld_core hc, u1, cl2_e]
    have ref : ∀ ρ, core ρ = core σ → mX11_letter (nI d) ρ = some (oi (md (fun i => decide (0 < WN (Op (ld σ 1)) (fun i => Nr (ld σ 1) (ls (ld σ 1) 3) (ls (ld σ 1) 4) (rcN σ d i)) n i)) (WN (Op (ld σ 1)) (fun i => Nr (ld σ 1) (ls (ld σ 1) 3) (ls (ld σ 1) 4) (rcN σ d i)) n) n), pI ρ 45 16 0) := by
      intro ρ hρ
      have hcp : core (pI ρ 45 16 0) = core σ := by rw [c16, hρ]
      have hl : lm (pI ρ 45 16 0) = ld σ 1 := by rw [lm_core hcp, hI.1]
      have hO : ∀ c, c < 36 → Om (pI ρ 45 16 0) c = Op (ld σ 1) c := fun c hc' => by rw [Om_core hcp, Inv_Om hI hc']
      have m53 : ∀ i, i < n → rcN σ d i < 36 ∧ gL (pI ρ 45 16 0) 53 (100 * d + i) = (nI (rcN σ d i)).toInt64 := fun i hi => ⟨(hr i hi).1, by rw [core_L hcp 53 _ rfl]; exact (hr i hi).2.2⟩
      have hno := notOff_m (σ := pI ρ 45 16 0) (i := 0) (S := Om (pI ρ 45 16 0)) hd (by omega) (m53 0 h0).2 (m53 0 h0).1
      have hlt := letter_m (σ := pI ρ 45 16 0) (O := Om (pI ρ 45 16 0)) (rc := rcN σ d) (Nf := fun i => Nr (ld σ 1) (ls (ld σ 1) 3) (ls (ld σ 1) 4) (rcN σ d i)) hd hn (by rw [core_A hcp 52 d rfl]; exact hR.2.2.2.2.2.2.2.1) m53 rfl (fun i => by rw [hl])
      rw [hl, nI_0] at hno
      unfold mX11_letter
      rw [kl_e, v4 _ hcp, cl2_e, if_pos (by decide), openCells_m, cl2_e, hno, cl2_e, kl_e]
      have e1 : bs (fun e => Om (pI ρ 45 16 0) e && Nr (ld σ 1) (ls (ld σ 1) 3) (ls (ld σ 1) 4) (rcN σ d 0) e) = bs (fF (Om (pI ρ 45 16 0)) (fun i => Nr (ld σ 1) (ls (ld σ 1) 3) (ls (ld σ 1) 4) (rcN σ d i)) 0) := bs_eq (fun e _ => rfl)
      rw [e1, hlt]
      have hW : WN (Om (pI ρ 45 16 0)) (fun i => Nr (ld σ 1) (ls (ld σ 1) 3) (ls (ld σ 1) 4) (rcN σ d i)) n = WN (Op (ld σ 1)) (fun i => Nr (ld σ 1) (ls (ld σ 1) 3) (ls (ld σ 1) 4) (rcN σ d i)) n := funext (fun i => WN_eq hO)
      rw [hW]
    by_cases z : ∀ e, e < 36 → fF (Op (ld σ 1)) (fun i => Nr (ld σ 1) (ls (ld σ 1) 3) (ls (ld σ 1) 4) (rcN σ d i)) (n - 1) e = false
    · refine ag (f := mX10_letter (nI d)) (g := mX11_letter (nI d)) (v := -4) (ρ := τ) (τ := pI τ 45 16 0) ?_ ?_ (by rw [c16, hc]) hI
      · rw [cls, if_pos (by rw [lg_0, bs_z]; exact z)]
      · rw [ref τ hc, md_none n (fun j hj => decide_eq_false (by rw [WN_0 hj z]; exact Nat.lt_irrefl _))]
        rfl
    · have hex : ∃ e, e < 36 ∧ fF (Op (ld σ 1)) (fun i => Nr (ld σ 1) (ls (ld σ 1) 3) (ls (ld σ 1) 4) (rcN σ d i)) (n - 1) e = true := Classical.byContradiction (fun h => z (fun e he => by
        cases y : fF (Op (ld σ 1)) (fun i => Nr (ld σ 1) (ls (ld σ 1) 3) (ls (ld σ 1) 4) (rcN σ d i)) (n - 1) e
        · rfl
        · exact absurd ⟨e, he, y⟩ h))
      obtain ⟨e, he, hF⟩ := hex
      refine ag (f := mX10_letter (nI d)) (g := mX11_letter (nI d)) (v := oi (dmB (WN (Op (ld σ 1)) (fun i => Nr (ld σ 1) (ls (ld σ 1) 3) (ls (ld σ 1) 4) (rcN σ d i)) n) n n)) (ρ := π) (τ := pI π 45 16 0) ?_ ?_ (by rw [c16, hcπ]) hI
      · rw [cls, if_neg (by rw [lg_0, bs_z]; exact z)]
      · rw [ref π hcπ, md_dmB (fun i hi => WN_pos hi he hF) h0]
