/-! ===== PURE: a statement done, the other letters ===== -/
theorem inRd {e m : Nat} (he : e < 1000) (hm : m < 1000) : inR (nI e) 0 (nI m) = decide (e ≤ m) := by
  by_cases z : e ≤ m
  · rw [decide_eq_true z]; exact (inR_n (by omega)).2 ⟨e, by omega, rfl⟩
  · rw [decide_eq_false z]; exact inR_f (by omega) (fun i hi w => by rw [nI_eq (by omega) (by omega)] at w; omega)
theorem i0 (p : Nat) : p + 1 + 0 = p + 1 := rfl
theorem done_n {d n k p : Nat} {b : Nat → Int32} {σ τ : St} (hk : k < 51) (hn : n ≤ 100) (h4 : gI σ (10 + d) 4 = nI n) (hb : ∀ i, i < n → gL σ (19 + d) i = (b i).toInt64) (hok : OkS b n p) (hc : b p = 110) (h55 : gA τ 55 k = b p) (ht : toldN b τ k (b p) (p + 1)) (hL : Ldok (ld σ 3)) (hl : lm τ = ld σ 3) : Dn (mX8_isDone (10 + d) (nI p) 3 σ) (mX11_comes (nI k) τ) σ τ := by
  obtain ⟨o1, o2, o3, o4⟩ := hok
  rw [hc] at o1 o2 o3 ht
  have hdk : dkN 110 = 4 := rfl
  rw [hdk] at o2 o3
  obtain ⟨e, he, ee⟩ := tvN_n (o3 0 (by omega)) (o3 1 (by omega))
  obtain ⟨f, hf, ff⟩ := tvN_n (i := p + 3) (o3 2 (by omega)) (o3 3 (by omega))
  have ee : tvN b (p + 1) = nI e := ee
  obtain ⟨t1, t2⟩ := ht.2.2.2.1 rfl
  have ff' : tvN b (p + 1 + 2) = nI f := ff
  rw [ee] at t1
  rw [ff'] at t2
  have C : mX8_isDone (10 + d) (nI p) 3 σ = cl2 (mX8_isBound (10 + d) (nI p) 3 σ) (fun x s => rz x s) := by
    unfold mX8_isDone
    rw [numberAt_c hn h4 (by omega), cl2_e, hb p (by omega), i64_32, hc, if_neg (by decide), if_neg (by decide), if_neg (by decide), if_pos rfl]
  have B : mX8_isBound (10 + d) (nI p) 3 σ = if e ≤ 20 then (if f ≤ 20 then rz 1 (pI (pI σ 3 3 (nI e)) 3 4 (nI f)) else rz 0 σ) else rz 0 σ := by
    unfold mX8_isBound
    rw [nI_1, twoAt_c hn h4 hb (by omega), cl2_e, show nI p + (3 : Int32) = nI (p + 3) from by rw [show (3 : Int32) = nI 3 from rfl, nI_add], twoAt_c hn h4 hb (by omega), cl2_e, ee, ff, dist_c, show inR (nI e) 0 20 = decide (e ≤ 20) from inRd (m := 20) (by omega) (by omega), cl2_e]
    by_cases z : e ≤ 20
    · rw [decide_eq_true z, b2_t, if_neg n10, if_pos z, dist_c, show inR (nI f) 0 20 = decide (f ≤ 20) from inRd (m := 20) (by omega) (by omega), cl2_e]
      by_cases y : f ≤ 20
      · rw [decide_eq_true y, b2_t, if_neg n10, if_pos y]; rfl
      · rw [decide_eq_false y, b2_f, if_pos rfl, if_neg y]
    · rw [decide_eq_false z, b2_f, if_pos rfl, if_neg z]
  have R : mX11_comes (nI k) τ = if (20 : Int32) < nI e then rz 0 (pI (pI τ 45 3 (nI e)) 45 4 (nI f)) else if (20 : Int32) < nI f then rz 0 (pI (pI τ 45 3 (nI e)) 45 4 (nI f)) else rz 1 (pI (pI τ 45 3 (nI e)) 45 4 (nI f)) := by
    unfold mX11_comes
    rw [ind_m, k3_1, ldA_n (by omega) (by omega), ldA_n (by omega) (by omega), ldA_n (by omega) (by omega), h55, hc, if_neg (by decide), if_neg (by decide), if_pos rfl, kl_e, kl_e, t1, t2]
  have F : Fm τ (pI (pI τ 45 3 (nI e)) 45 4 (nI f)) := Fx_pI ⟨rfl, by omega⟩ (Fx_pI ⟨rfl, by omega⟩ Fx_rfl)
  have l20 : ∀ e, e < 100 → ((20 : Int32) < nI e ↔ ¬ e ≤ 20) := fun e he => by
    have := nI_ltI (a := 20) (b := e) (by omega) (by omega)
    exact this.trans (by omega)
  by_cases z : e ≤ 20
  · by_cases y : f ≤ 20
    · refine ⟨1, pI (pI σ 3 3 (nI e)) 3 4 (nI f), pI (pI τ 45 3 (nI e)) 45 4 (nI f), ?_, ?_, Fx_pI ⟨rfl, by omega⟩ (Fx_pI ⟨rfl, by omega⟩ Fx_rfl), F, Or.inr ⟨rfl, ?_, ?_⟩⟩
      · rw [C, B, if_pos z, if_pos y]; rfl
      · rw [R, if_neg (fun w => (l20 e he).1 w z), if_neg (fun w => (l20 f hf).1 w y)]; rfl
      · rw [ld_pI (by omega), ld_pI (by omega), lm_pI (by omega), lm_pI (by omega), hl]
      · rw [ld_pI (by omega), ld_pI (by omega)]; exact Ldok_4 (Ldok_3 hL z) y
    · refine Dn_0 ?_ ?_ F
      · rw [C, B, if_pos z, if_neg y]; rfl
      · rw [R, if_neg (fun w => (l20 e he).1 w z), if_pos ((l20 f hf).2 y)]; rfl
  · refine Dn_0 ?_ ?_ F
    · rw [C, B, if_neg z]; rfl
    · rw [R, if_pos ((l20 e he).2 z)]; rfl
theorem done_d {d n k p : Nat} {b : Nat → Int32} {σ τ : St} (hk : k < 51) (hn : n ≤ 100) (h4 : gI σ (10 + d) 4 = nI n) (hb : ∀ i, i < n → gL σ (19 + d) i = (b i).toInt64) (hok : OkS b n p) (hc : b p = 100) (h55 : gA τ 55 k = b p) (ht : toldN b τ k (b p) (p + 1)) (hL : Ldok (ld σ 3)) (hl : lm τ = ld σ 3) (h17 : gI τ 45 17 = -4) : Dn (mX8_isDone (10 + d) (nI p) 3 σ) (mX11_comes (nI k) τ) σ τ := by
  obtain ⟨o1, o2, o3, o4⟩ := hok
  rw [hc] at o1 o2 o3 ht
  have hdk : dkN 100 = 2 := rfl
  rw [hdk] at o2 o3
  obtain ⟨e, he, ee⟩ := dvN_n (o3 0 (by omega))
  obtain ⟨f, hf, ff⟩ := dvN_n (o3 1 (by omega))
  have ee : dvN b (p + 1) = nI e := ee
  have ff : dvN b (p + 2) = nI f := ff
  obtain ⟨t1, t2⟩ := ht.2.2.1 rfl
  rw [ee] at t1
  rw [show p + 1 + 1 = p + 2 from rfl, ff] at t2
  have C : mX8_isDone (10 + d) (nI p) 3 σ = cl2 (mX3_goDay 3 (nI e) (nI f) σ) (fun x s => rz x s) := by
    unfold mX8_isDone
    rw [numberAt_c hn h4 (by omega), cl2_e, hb p (by omega), i64_32, hc, if_pos rfl, nI_1, digitAt_c hn h4 hb (by omega), cl2_e, show nI p + (2 : Int32) = nI (p + 2) from by rw [show (2 : Int32) = nI 2 from rfl, nI_add], digitAt_c hn h4 hb (by omega), cl2_e, ee, ff]
  have R : mX11_comes (nI k) τ = if (5 : Int32) ≤ nI e then rz 0 τ else if (5 : Int32) ≤ nI f then rz 0 τ else cl2 (mX11_canGo (nI e) (nI f) τ) (fun x s => if x = 0 then rz 0 s else cl1 (mX11_goBoth (nI e) (nI f) s) (fun s => rz 1 s)) := by
    unfold mX11_comes mX11_comes_207 mX11_comes_208 mX11_comes_221
    rw [ind_m, k3_1, ldA_n (by omega) (by omega), ldA_n (by omega) (by omega), ldA_n (by omega) (by omega), h55, hc, if_pos rfl, t1, t2]
    rfl
  by_cases z : e < 5
  · by_cases y : f < 5
    · rw [if_neg (show ¬ (5 : Int32) ≤ nI e from nI_ge (b := 5) (by omega) (by omega)), if_neg (show ¬ (5 : Int32) ≤ nI f from nI_ge (b := 5) (by omega) (by omega)), canGo_m (by rw [hl]; exact hL) h17 z y, cl2_e, hl] at R
      rcases goDay_c (o := 3) (σ := σ) hL z y with ⟨g1, g2⟩ | ⟨p', q', σ', g1, hp, hq, g2, g3, g4⟩
      · refine Dn_0 ?_ ?_ Fx_rfl
        · rw [C, g2, cl2_e]; rfl
        · rw [R, g1]; rfl
      · obtain ⟨τ', r1, r2, r3⟩ := goBoth_m (σ := τ) (i := e) (j := f) (p := p') (q := q') (by rw [hl]; exact hL) h17 z y (by rw [hl]; exact g1)
        refine ⟨1, σ', τ', ?_, ?_, g4, r3, Or.inr ⟨rfl, ?_, ?_⟩⟩
        · rw [C, g2, cl2_e]; rfl
        · rw [R, g1, show b2 (some (p', q')).isSome = 1 from rfl, if_neg n10, r1, cl1_e]; rfl
        · rw [g3, r2, hl]
        · rw [g3]; exact Ldok_gd hL z y g1
    · refine Dn_0 ?_ ?_ Fx_rfl
      · rw [C, goDay_5 hL he hf (Or.inr (by omega)), cl2_e]; rfl
      · rw [R, if_neg (show ¬ (5 : Int32) ≤ nI e from nI_ge (b := 5) (by omega) (by omega)), if_pos (show (5 : Int32) ≤ nI f from nI_le (a := 5) (by omega) (by omega))]; rfl
  · refine Dn_0 ?_ ?_ Fx_rfl
    · rw [C, goDay_5 hL he hf (Or.inl (by omega)), cl2_e]; rfl
    · rw [R, if_pos (show (5 : Int32) ≤ nI e from nI_le (a := 5) (by omega) (by omega))]; rfl
