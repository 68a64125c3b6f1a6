/-! ===== PURE: a statement done: g, h, s; all ===== -/
theorem done_g {d n k p : Nat} {b : Nat → Int32} {σ τ : St} (hk : k < 51) (hn : n ≤ 100) (h4 : gI σ (10 + d) 4 = nI n) (hb : ∀ i, i < n → gL σ (19 + d) i = (b i).toInt64) (hok : OkS b n p) (hc : b p = 103) (h55 : gA τ 55 k = b p) (ht : toldN b τ k (b p) (p + 1)) (hL : Ldok (ld σ 3)) (hl : lm τ = ld σ 3) : Dn (mX8_isDone (10 + d) (nI p) 3 σ) (mX11_comes (nI k) τ) σ τ := by
  obtain ⟨o1, o2, o3, o4⟩ := hok
  rw [hc] at o1 o2 o3 ht
  have hdk : dkN 103 = 4 := rfl
  rw [hdk] at o2 o3
  obtain ⟨e, he, ee⟩ := dvN_n (o3 0 (by omega))
  obtain ⟨f, hf, ff⟩ := dvN_n (o3 1 (by omega))
  obtain ⟨c, hc9, cc⟩ := tvN_n (i := p + 3) (o3 2 (by omega)) (o3 3 (by omega))
  have ee : dvN b (p + 1) = nI e := ee
  have ff : dvN b (p + 2) = nI f := ff
  obtain ⟨t1, t2, t3⟩ := ht.1 rfl
  rw [ee] at t1
  rw [show p + 1 + 1 = p + 2 from rfl, ff] at t2
  rw [show p + 1 + 2 = p + 3 from rfl, cc] at t3
  have C : mX8_isDone (10 + d) (nI p) 3 σ = cl2 (mX8_isLaid (10 + d) (nI p) 3 σ) (fun x s => rz x s) := by
    unfold mX8_isDone
    rw [numberAt_c hn h4 (by omega), cl2_e, hb p (by omega), i64_32, hc, if_neg (by decide), if_pos rfl]
  have B : mX8_isLaid (10 + d) (nI p) 3 σ = if e ≤ 7 then (if c < 36 then rz 1 (pA (pA σ 6 c (nI e)) 9 c (nI f)) else rz 0 σ) else rz 0 σ := by
    unfold mX8_isLaid
    rw [nI_1, digitAt_c hn h4 hb (by omega), cl2_e, show nI p + (3 : Int32) = nI (p + 3) from by rw [show (3 : Int32) = nI 3 from rfl, nI_add], twoAt_c hn h4 hb (by omega), cl2_e, ee, cc, kind_c, show inR (nI e) 0 7 = decide (e ≤ 7) from inRd (m := 7) (by omega) (by omega), cl2_e]
    by_cases z : e ≤ 7
    · rw [decide_eq_true z, b2_t, if_neg n10, if_pos z]
      by_cases y : c < 36
      · rw [cell_c y, cl2_e, if_neg n10, if_pos y, show nI p + (2 : Int32) = nI (p + 2) from by rw [show (2 : Int32) = nI 2 from rfl, nI_add], digitAt_c hn h4 hb (by omega), cl2_e, ff, layAt_c y, cl1_e]
      · rw [ncell_c (show inR (nI c) 0 35 = false from by rw [show inR (nI c) 0 35 = decide (c ≤ 35) from inRd (m := 35) (by omega) (by omega)]; exact decide_eq_false (by omega)), cl2_e, if_pos rfl, if_neg y]
    · rw [decide_eq_false z, b2_f, if_pos rfl, if_neg z]
  have R : mX11_comes (nI k) τ = if (8 : Int32) ≤ nI e then rz 0 τ else if (36 : Int32) ≤ nI c then rz 0 τ else mX11_comes_98 (nI k) (nI e) (nI f) 1 τ := by
    unfold mX11_comes mX11_comes_97
    rw [ind_m, k3_1, k3_2, ldA_n (by omega) (by omega), ldA_n (by omega) (by omega), ldA_n (by omega) (by omega), h55, hc, if_neg (by decide), if_pos rfl, t1, t2]
    simp only [kl_e]
    rw [ldA_n (by omega) (by omega), t3]
    rfl
  have R2 : c < 36 → mX11_comes_98 (nI k) (nI e) (nI f) 1 τ = rz 1 (pA (pA τ 46 c (nI e)) 47 c (nI f)) := by
    intro y
    unfold mX11_comes_98 mX11_comes_137
    rw [kl_e, if_neg n10, ind_m, k3_2, ldA_n (by omega) (by omega), t3, stA_36 y, ldA_n (by omega) (by omega), gA_pA_ne (by omega), t3, stA_36 y]
  have F : Fm τ (pA (pA τ 46 c (nI e)) 47 c (nI f)) := Fx_pA (Or.inr rfl) (Fx_pA (Or.inl rfl) Fx_rfl)
  by_cases z : e ≤ 7
  · by_cases y : c < 36
    · refine ⟨1, pA (pA σ 6 c (nI e)) 9 c (nI f), pA (pA τ 46 c (nI e)) 47 c (nI f), ?_, ?_, Fx_pA (Or.inr rfl) (Fx_pA (Or.inl rfl) Fx_rfl), F, Or.inr ⟨rfl, ?_, ?_⟩⟩
      · rw [C, B, if_pos z, if_pos y]; rfl
      · rw [R, if_neg (show ¬ (8 : Int32) ≤ nI e from nI_ge (b := 8) (by omega) (by omega)), if_neg (show ¬ (36 : Int32) ≤ nI c from nI_ge (b := 36) (by omega) (by omega)), R2 y]; rfl
      · rw [lm_lay y, hl]; exact ld_lay (o := 3) y
      · have e1 : ld (pA (pA σ 6 c (nI e)) 9 c (nI f)) 3 = upk (ld σ 3) c (nI e) (nI f) := ld_lay (o := 3) y
        rw [e1]; exact Ldok_upk hL (by omega) hf
    · refine Dn_0 ?_ ?_ Fx_rfl
      · rw [C, B, if_pos z, if_neg y]; rfl
      · rw [R, if_neg (show ¬ (8 : Int32) ≤ nI e from nI_ge (b := 8) (by omega) (by omega)), if_pos (show (36 : Int32) ≤ nI c from nI_le (a := 36) (by omega) (by omega))]; rfl
  · refine Dn_0 ?_ ?_ Fx_rfl
    · rw [C, B, if_neg z]; rfl
    · rw [R, if_pos (show (8 : Int32) ≤ nI e from nI_le (a := 8) (by omega) (by omega))]; rfl
theorem done_hs {d n k p q : Nat} {b : Nat → Int32} {σ τ : St} (hk : k < 51) (hn : n ≤ 100) (h4 : gI σ (10 + d) 4 = nI n) (hb : ∀ i, i < n → gL σ (19 + d) i = (b i).toInt64) (hok : OkS b n p) (hc : (b p = 104 ∧ q = 5) ∨ (b p = 115 ∧ q = 6)) (h55 : gA τ 55 k = b p) (ht : toldN b τ k (b p) (p + 1)) (hL : Ldok (ld σ 3)) (hl : lm τ = ld σ 3) (h17 : gI τ 45 17 = -4) : Dn (mX8_isDone (10 + d) (nI p) 3 σ) (mX11_comes (nI k) τ) σ τ := by
  obtain ⟨o1, o2, o3, o4⟩ := hok
  have hdk : dkN (b p) = 2 := by rcases hc with ⟨hc, _⟩ | ⟨hc, _⟩ <;> rw [hc] <;> rfl
  rw [hdk] at o2 o3
  obtain ⟨e, he, ee⟩ := tvN_n (o3 0 (by omega)) (o3 1 (by omega))
  have ee : tvN b (p + 1) = nI e := ee
  have t1 := ht.2.2.2.2 (hc.imp (fun x => x.1) (fun x => x.1))
  rw [ee] at t1
  have C : mX8_isDone (10 + d) (nI p) 3 σ = cl2 (mX8_isPlaced (if q = 5 then 0 else 1) (nI e) 3 σ) (fun x s => rz x s) := by
    unfold mX8_isDone
    rw [numberAt_c hn h4 (by omega), cl2_e, hb p (by omega), i64_32]
    rcases hc with ⟨hc, rfl⟩ | ⟨hc, rfl⟩
    · rw [hc, if_neg (by decide), if_neg (by decide), if_pos rfl, nI_1, twoAt_c hn h4 hb (by omega), cl2_e, ee]; rfl
    · rw [hc, if_neg (by decide), if_neg (by decide), if_neg (by decide), if_neg (by decide), if_pos rfl, nI_1, twoAt_c hn h4 hb (by omega), cl2_e, ee]; rfl
  have R : mX11_comes (nI k) τ = if (36 : Int32) ≤ nI e then mX11_comes_243 (nI k) (nI e) 0 τ else cl2 (mX11_isOpen (nI e) τ) (fun x s => if x = 0 then mX11_comes_243 (nI k) (nI e) 0 s else mX11_comes_243 (nI k) (nI e) 1 s) := by
    unfold mX11_comes mX11_comes_242
    rw [ind_m, k3_1, ldA_n (by omega) (by omega), ldA_n (by omega) (by omega), ldA_n (by omega) (by omega), h55]
    rcases hc with ⟨hc, rfl⟩ | ⟨hc, rfl⟩
    · rw [hc, if_neg (by decide), if_neg (by decide), if_neg (by decide), if_neg (by decide), t1]; rfl
    · rw [hc, if_neg (by decide), if_neg (by decide), if_neg (by decide), if_neg (by decide), t1]; rfl
  have R0 : ∃ τ', mX11_comes_243 (nI k) (nI e) 0 τ = some (0, τ') ∧ Fm τ τ' := by
    refine ⟨pI (pI τ 45 5 (gI τ 45 5)) 45 6 (gI (pI τ 45 5 (gI τ 45 5)) 45 6), ?_, Fx_pI ⟨rfl, by omega⟩ (Fx_pI ⟨rfl, by omega⟩ Fx_rfl)⟩
    unfold mX11_comes_243 mX11_comes_266 mX11_comes_270 mX11_comes_294 mX11_comes_298
    rw [ldA_n (by omega) (by omega), h55]
    simp only [kl_e]
    rcases hc with ⟨hc, rfl⟩ | ⟨hc, rfl⟩
    · rw [hc, if_pos rfl, if_pos trivial, ldA_n (by omega) (by omega), gA_pI, h55, hc, if_neg (by decide)]; rfl
    · rw [hc, if_neg (by decide), ldA_n (by omega) (by omega), gA_pI, h55, hc, if_pos rfl, if_pos trivial]; rfl
  have R1 : ∃ τ', mX11_comes_243 (nI k) (nI e) 1 τ = some (1, τ') ∧ Fm τ τ' ∧ lm τ' = up (lm τ) q (nI e) := by
    unfold mX11_comes_243 mX11_comes_266 mX11_comes_270 mX11_comes_294 mX11_comes_298
    rw [ldA_n (by omega) (by omega), h55]
    simp only [kl_e]
    rcases hc with ⟨hc, rfl⟩ | ⟨hc, rfl⟩
    · refine ⟨pI (pI τ 45 5 (nI e)) 45 6 (gI (pI τ 45 5 (nI e)) 45 6), ?_, Fx_pI ⟨rfl, by omega⟩ (Fx_pI ⟨rfl, by omega⟩ Fx_rfl), ?_⟩
      · rw [hc, if_pos rfl, if_neg n10, ldA_n (by omega) (by omega), gA_pI, h55, hc, if_neg (by decide)]; rfl
      · rw [lm_pI (by omega), up_self (lm_s (by omega)).symm, lm_pI (by omega)]
    · refine ⟨pI (pI τ 45 5 (gI τ 45 5)) 45 6 (nI e), ?_, Fx_pI ⟨rfl, by omega⟩ (Fx_pI ⟨rfl, by omega⟩ Fx_rfl), ?_⟩
      · rw [hc, if_neg (by decide), ldA_n (by omega) (by omega), gA_pI, h55, hc, if_pos rfl, if_neg n10]; rfl
      · rw [lm_pI (by omega), lm_pI (by omega), up_self (lm_s (by omega)).symm]
  have hq : q = 5 ∨ q = 6 := hc.imp (fun x => x.2) (fun x => x.2)
  obtain ⟨ρ0, r0, f0⟩ := R0
  obtain ⟨ρ1, r1, f1, g1⟩ := R1
  by_cases z : e < 36
  · rw [if_neg (show ¬ (36 : Int32) ≤ nI e from nI_ge (b := 36) (by omega) (by omega)), isOpen_m z, cl2_e, h17, show decide (nI e = -4) = false from decide_eq_false (nI_n4 e z), Bool.false_or, hl] at R
    cases y : Op (ld σ 3) e
    · refine Dn_0 ?_ ?_ f0
      · rw [C]
        unfold mX8_isPlaced
        rw [isOpen_c z, y, cl2_e, b2_f, if_pos rfl]; rfl
      · rw [R, y, b2_f, if_pos rfl, r0]
    · refine ⟨1, pI σ 3 q (nI e), ρ1, ?_, ?_, Fx_pI ⟨rfl, by omega⟩ Fx_rfl, f1, Or.inr ⟨rfl, ?_, ?_⟩⟩
      · rw [C]
        unfold mX8_isPlaced mX3_place
        rw [isOpen_c z, y, cl2_e, b2_t, if_neg n10]
        rcases hq with rfl | rfl
        · rw [if_pos rfl, if_pos rfl]; rfl
        · rw [if_neg (by decide)]; rfl
      · rw [R, y, b2_t, if_neg n10, r1]
      · rw [ld_pI (by omega), g1, hl]
      · rw [ld_pI (by omega)]
        rcases hq with rfl | rfl
        · exact Ldok_5 hL z
        · exact Ldok_6 hL z
  · refine Dn_0 ?_ ?_ f0
    · rw [C]
      unfold mX8_isPlaced
      rw [isOpen_n (show inR (nI e) 0 35 = false from by rw [show inR (nI e) 0 35 = decide (e ≤ 35) from inRd (m := 35) (by omega) (by omega)]; exact decide_eq_false (by omega)), cl2_e, if_pos rfl]; rfl
    · rw [R, if_pos (show (36 : Int32) ≤ nI e from nI_le (a := 36) (by omega) (by omega)), r0]
theorem done_m {d n k p : Nat} {b : Nat → Int32} {σ τ : St} (hk : k < 51) (hn : n ≤ 100) (h4 : gI σ (10 + d) 4 = nI n) (hb : ∀ i, i < n → gL σ (19 + d) i = (b i).toInt64) (hok : OkS b n p) (h55 : gA τ 55 k = b p) (ht : toldN b τ k (b p) (p + 1)) (hL : Ldok (ld σ 3)) (hl : lm τ = ld σ 3) (h17 : gI τ 45 17 = -4) : Dn (mX8_isDone (10 + d) (nI p) 3 σ) (mX11_comes (nI k) τ) σ τ := by
  by_cases c1 : b p = 100
  · exact done_d hk hn h4 hb hok c1 h55 ht hL hl h17
  by_cases c2 : b p = 103
  · exact done_g hk hn h4 hb hok c2 h55 ht hL hl
  by_cases c3 : b p = 104
  · exact done_hs (q := 5) hk hn h4 hb hok (Or.inl ⟨c3, rfl⟩) h55 ht hL hl h17
  by_cases c4 : b p = 110
  · exact done_n hk hn h4 hb hok c4 h55 ht hL hl
  by_cases c5 : b p = 115
  · exact done_hs (q := 6) hk hn h4 hb hok (Or.inr ⟨c5, rfl⟩) h55 ht hL hl h17
  by_cases c6 : b p = 119
  · exact done_w hk hn h4 hb hok c6 h55 ht hL hl
  exact absurd (show dkN (b p) = 0 by unfold dkN; rw [if_neg c1, if_neg c2, if_neg c3, if_neg c4, if_neg c5, if_neg c6]) hok.1
