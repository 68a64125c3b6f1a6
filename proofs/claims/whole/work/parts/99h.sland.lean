/-! ===== PURE: land ===== -/
theorem Rs_Fo3 {σ τ : St} (h : Fo 3 σ τ) : Rs σ τ := Rs_Fx (fun o k e => by obtain ⟨rfl, _⟩ := e; rfl) (fun a e => by rcases e with rfl | rfl <;> rfl) (fun a e => e.elim) h
theorem Rs_FLr {σ τ : St} (h : FLr σ τ) : Rs σ τ := Rs_Fx (fun o k e => by
  obtain ⟨rfl, e⟩ := e
  rcases e with rfl | rfl | rfl | rfl | rfl <;> rfl) (fun a e => by rcases e with rfl | rfl | rfl <;> rfl) (fun a e => e.elim) h
theorem Rs_Fk57 {σ τ : St} (h : Fk 57 σ τ) : Rs σ τ := Rs_Fx (fun o k e => by
  obtain ⟨rfl, e⟩ := e
  unfold rsI
  rw [decide_eq_false (show ¬ k = 17 by omega), decide_eq_false (show ¬ k = 27 by omega)]
  rfl) (fun a e => by rcases e with rfl | rfl | rfl <;> rfl) (fun a e => e.elim) h
theorem nI_not4 : ∀ r, r < 101 → ¬ nI r = -4 := by decide +kernel
theorem ld1_Rk {o : Nat} {σ τ : St} (h1 : ∀ c, gA τ (o + 3) c = gA σ (o + 3) c) (h2 : ∀ c, gA τ (o + 6) c = gA σ (o + 6) c) (h3 : ∀ k, gI τ o k = gI σ o k) : ld τ o = ld σ o := by
  unfold ld
  refine Prod.ext (funext fun c => ?_) (Prod.ext (funext fun c => ?_) (funext fun k => ?_))
  · show (if c < 36 then gA τ (o + 3) c else 0) = if c < 36 then gA σ (o + 3) c else 0
    rw [h1]
  · show (if c < 36 then gA τ (o + 6) c else 0) = if c < 36 then gA σ (o + 6) c else 0
    rw [h2]
  · show (if 2 ≤ k ∧ k < 10 then gI τ o k else 0) = if 2 ≤ k ∧ k < 10 then gI σ o k else 0
    rw [h3]
theorem land_0 {σ : St} {d n : Nat} (hI : Inv σ) (hd : d < 8) (hR : Rw σ d 0 n) (q : rfs σ d 2 = 0) : ∃ (v : Int32) (σ1 σ2 : St), mX10_land (nI d) σ = some (v, σ1) ∧ mX11_land (nI d) σ1 = some (v, σ2) ∧ Inv σ2 := by
  obtain ⟨r1, r2, r3, hn, r5, r6, h4, h52, _⟩ := id hR
  generalize hbd : (fun i => (gL σ (19 + d) i).toInt32) = b
  have hb : ∀ i, i < n → gL σ (19 + d) i = (b i).toInt64 := fun i hi => by rw [← hbd]; exact (Rw_z hR (by omega)).1
  have hb' : ∀ i, i < n → gL σ 53 (100 * d + i) = (b i).toInt64 := fun i hi => by rw [← hbd]; exact (Rw_z hR (by omega)).2
  have cl : mX10_land (nI d) σ = if cw b n 2000 (-1) 0 = -4 then (cl1 (mX3_becomes 3 1 σ) (fun s8 => cl2 (mX8_firstNotDone (10 + d) 3 s8) (fun x10 s9 => if x10 = (-4 : Int32) then (cl1 (mX3_becomes 1 3 s9) (fun s11 => cl2 (mX8_statementsOf (10 + d) s11) (fun x13 s12 => some (x13, s12)))) else (some (((-2000 : Int32) - x10), s9))))) else some (-1000 - cw b n 2000 (-1) 0, σ) := by
    unfold mX10_land
    rw [refRow_c hd, q, cl2_e, if_pos rfl, shelfAt_c hd, cl2_e, kl_e, r5, if_pos (show nI 0 = 0 from rfl), wrongByte_c hn h4 hb, cl2_e]
  rcases run_m hd hn r2 r6 h52 hb' hI.2.2.1 with ⟨τ, r, m1, m2, m3, m4⟩ | ⟨τ, K, m1, m2, hK, hok, hend, m21, m17, mt, m54, mlm, mk, mc, mF⟩
  · refine ⟨-1000 - nI r, σ, τ, ?_, m1, Inv_core (core_FLr m4) hI⟩
    rw [cl, m2, if_neg (nI_not4 r (by omega))]
  obtain ⟨ρ1, e1, e2, e3⟩ := becomes_c (o := 3) (o' := 1) (by omega) (by omega) (by omega) (by omega) (by omega) σ
  have h4' : gI ρ1 (10 + d) 4 = nI n := by rw [Fx_I e3 (by omega), h4]
  have hb1 : ∀ i, i < n → gL ρ1 (19 + d) i = (b i).toInt64 := fun i hi => by rw [Fx_L e3 (fun q => q), hb i hi]
  have hL1 : Ldok (ld ρ1 3) := by rw [e2]; exact hI.2.1
  have fnd : mX8_firstNotDone (10 + d) 3 ρ1 = fLp d 2000 (nI (spN b 0)) ρ1 := rfl
  rw [m2, if_pos rfl, e1, cl1_e, fnd] at cl
  have again : ∀ ρ, (∀ a i, a ≠ 4 → a ≠ 7 → a ≠ 6 → a ≠ 9 → gA ρ a i = gA σ a i) → (∀ a i, gL ρ a i = gL σ a i) → gI ρ 45 17 = -4 → lm ρ = lm σ → ∃ τ, mX11_land (nI d) ρ = rLp 2000 (nI 0) τ ∧ gI τ 45 21 = nI K ∧ gI τ 45 17 = -4 ∧ (∀ i, i < K → gA τ 55 i = b (spN b i) ∧ toldN b τ i (b (spN b i)) (spN b i + 1)) ∧ (∀ i, i < K → gA τ 54 i = nI (spN b i)) ∧ lm τ = ld ρ1 3 ∧ (∀ k, k < 8 → gA τ 57 k = ls (ld σ 1) (k + 2)) ∧ (∀ c, c < 36 → gA τ 57 (8 + 2 * c) = lk (ld σ 1) c ∧ gA τ 57 (9 + 2 * c) = lf (ld σ 1) c) ∧ ∃ τ0, FLr ρ τ0 ∧ Fk 57 τ0 τ := by
    intro ρ hA hL h17 hm
    have w : lm ρ = ld σ 1 := by rw [hm, hI.1]
    rcases run_m (ρ := ρ) (b := b) hd hn (by rw [hA _ _ (by omega) (by omega) (by omega) (by omega), r2]) (by rw [hA _ _ (by omega) (by omega) (by omega) (by omega), r6]; rfl) (by rw [hA _ _ (by omega) (by omega) (by omega) (by omega), h52]) (fun i hi => by rw [hL]; exact hb' i hi) h17 with ⟨τ', r, _, n2, n3, _⟩ | ⟨τ', K', n1, _, _, nok, nend, n21, n17, nt, n54, nlm, nk, nc, nF⟩
    · exact absurd (n2.symm.trans m2) (nI_not4 r (by omega))
    · have : K' = K := by
        have a1 := cnt_K K' nok
        have a2 := cnt_K K hok
        rw [nend] at a1
        rw [hend] at a2
        omega
      subst this
      rw [w] at nlm nk nc
      exact ⟨τ', n1, n21, n17, nt, n54, by rw [nlm, e2], nk, nc, nF⟩
  have lmo : ∀ {ρ : St}, Fo 3 σ ρ → lm ρ = lm σ := fun h => lm_Fo h (by omega)
  rcases both_m hK hn hok hend K 0 2000 2000 ρ1 τ (by omega) (by omega) (by omega) h4' hb1 m21 m17 mt (by rw [mlm, ← hI.1, e2]) hL1 with ⟨σ', _, u1, _, _, _, u5, _⟩ | ⟨i, σ', _, u0, u1, _, u5, _⟩
  · obtain ⟨ρ3, x1, x2, x3⟩ := becomes_c (o := 1) (o' := 3) (by omega) (by omega) (by omega) (by omega) (by omega) σ'
    have F3 : Fo 3 σ σ' := Fx_tr e3 u5
    obtain ⟨τ3, y1, y21, y17, yt, y54, ylm, yk, yc, τ0, yF, yK⟩ := again ρ3 (fun a i p1 p2 p3 p4 => by rw [Fx_A x3 (by omega), Fx_A F3 (by omega)]) (fun a i => by rw [Fx_L x3 (fun q => q), Fx_L F3 (fun q => q)]) (by rw [Fx_I x3 (by omega), Fx_I F3 (by omega), hI.2.2.1]) (by rw [lm_Fo x3 (by omega), lmo F3])
    rcases both_m hK hn hok hend K 0 2000 2000 ρ1 τ3 (by omega) (by omega) (by omega) h4' hb1 y21 y17 yt ylm hL1 with ⟨σ2, τ4, v1, v2, v3, v4, v5, v6⟩ | ⟨i, σ2, _, v0, v1, _⟩
    · rw [u1] at v1
      injection v1 with v1
      injection v1 with _ v1
      subst v1
      have h43 : gI ρ3 (10 + d) 4 = nI n := by rw [Fx_I x3 (by omega), Fx_I F3 (by omega), h4]
      have hb3 : ∀ i, i < n → gL ρ3 (19 + d) i = (b i).toInt64 := fun i hi => by rw [Fx_L x3 (fun q => q), Fx_L F3 (fun q => q), hb i hi]
      have cK : cnt (fun i => decide (b i = 59)) n = K := by rw [← hend]; exact cnt_K K hok
      have lt4 : ld τ4 1 = ld σ' 3 := by
        rw [ld_Fm v6 (by omega), ← x2]
        exact ld1_Rk (fun c => by rw [Fx_A yK (by omega), Fx_A yF (by omega)]) (fun c => by rw [Fx_A yK (by omega), Fx_A yF (by omega)]) (fun k => by rw [Fx_I yK (by omega), Fx_I yF (by omega)])
      refine ⟨nI K, ρ3, τ4, ?_, by rw [y1]; exact v2, Inv_land hI (Rs_tr (Rs_Fo3 F3) (Rs_tr (Rs_Fo x3) (Rs_tr (Rs_FLr yF) (Rs_tr (Rs_Fk57 yK) (Rs_Fm v6))))) (by rw [lt4, v3]) (by rw [lt4]; exact v4)⟩
      rw [cl, u1, cl2_e, if_pos rfl, x1, cl1_e, count_c hn hok hend h43 hb3, cl2_e, cK]
    · rw [u1] at v1
      injection v1 with v1
      injection v1 with v1 _
      have := (hok i v0).2.1
      exact absurd v1.symm (nI_not4 _ (by omega))
  · have F3 : Fo 3 σ σ' := Fx_tr e3 u5
    have hi := (hok i u0).2.1
    obtain ⟨τ3, y1, y21, y17, yt, y54, ylm, yk, yc, τ0, yF, yK⟩ := again σ' (fun a i p1 p2 p3 p4 => by rw [Fx_A F3 (by omega)]) (fun a i => by rw [Fx_L F3 (fun q => q)]) (by rw [Fx_I F3 (by omega), hI.2.2.1]) (lmo F3)
    rcases both_m hK hn hok hend K 0 2000 2000 ρ1 τ3 (by omega) (by omega) (by omega) h4' hb1 y21 y17 yt ylm hL1 with ⟨σ2, τ4, v1, v2, v3, v4, v5, v6⟩ | ⟨i', σ2, τ4, v0, v1, v2, v5, v6⟩
    · rw [u1] at v1
      injection v1 with v1
      injection v1 with v1 _
      exact absurd v1 (nI_not4 _ (by omega))
    · have hi' := (hok i' v0).2.1
      rw [u1] at v1
      injection v1 with v1
      injection v1 with v1 _
      have a57 : ∀ k, gA τ4 57 k = gA τ3 57 k := fun k => Fx_A v6 (by omega)
      obtain ⟨τ5, f1, f2, f3, f4⟩ := back_m (r := 57) (Or.inl rfl) τ4 (L := ld σ 1) (fun k hk => by rw [a57]; exact yk k hk) (fun c hc => by rw [a57, a57]; exact yc c hc) ld_out
      have lt5 : ld τ5 1 = ld σ 1 := by
        have z1 : ld τ4 1 = ld τ3 1 := ld_Fm v6 (by omega)
        have z2 : ld τ3 1 = ld σ' 1 := ld1_Rk (fun c => by rw [Fx_A yK (by omega), Fx_A yF (by omega)]) (fun c => by rw [Fx_A yK (by omega), Fx_A yF (by omega)]) (fun k => by rw [Fx_I yK (by omega), Fx_I yF (by omega)])
        have z3 : ld τ5 1 = ld τ4 1 := ld1_Rk (fun c => Fx_A f4 (by omega)) (fun c => Fx_A f4 (by omega)) (fun k => Fx_I f4 (by omega))
        rw [z3, z1, z2, ld_Fo F3 (by omega) (by omega) (by omega) (by omega) (by omega)]
      refine ⟨-2000 - nI (spN b i), σ', τ5, ?_, ?_, Inv_land hI (Rs_tr (Rs_Fo3 F3) (Rs_tr (Rs_FLr yF) (Rs_tr (Rs_Fk57 yK) (Rs_tr (Rs_Fm v6) (Rs_Fk57 f4))))) (by rw [lt5, f2]) (by rw [lt5]; exact hI.2.1)⟩
      · rw [cl, u1, cl2_e, if_neg (nI_not4 _ (by omega))]
      · rw [y1, show nI 0 = nI 0 from rfl]
        rw [v2, f1, cl1_e, ldA_n (by omega) (by omega), Fx_A f4 (by omega), Fx_A v6 (by omega), y54 i' v0, v1]
theorem s_land : stp132 Inv mX10_land mX11_land := by
  intro σ a hI
  rcases shelf_or a with h | ⟨d, hd, rfl, _⟩
  · refine ag (f := mX10_land a) (g := mX11_land a) (v := -1) (ρ := σ) (τ := pI σ 45 16 0) ?_ ?_ c16 hI
    · unfold mX10_land
      rw [refRow_n h, cl2_e, if_neg (by decide)]
    · unfold mX11_land mX11_land_29 mX11_land_30
      rw [kl_e, wrongRow_n h, cl2_e]
      simp only [kl_e]
      rw [if_neg (by decide), if_neg (by decide)]
  have hs := hI.2.2.2.2 d hd
  by_cases q : rfs σ d 2 = 0
  · obtain ⟨s, n, hR⟩ := Rw_of hs q
    by_cases s0 : s = 0
    · subst s0
      exact land_0 hI hd hR q
    · have hns : ¬ nI s = 0 := by rw [nI_eq0 (by have := hR.2.2.1; omega)]; exact s0
      refine ag (f := mX10_land (nI d)) (g := mX11_land (nI d)) (v := -12) (ρ := σ) (τ := pI σ 45 16 0) ?_ ?_ c16 hI
      · unfold mX10_land
        rw [refRow_c hd, q, cl2_e, if_pos rfl, shelfAt_c hd, cl2_e, kl_e, hR.2.2.2.2.1, if_neg hns]
      · unfold mX11_land mX11_land_29 mX11_land_30
        rw [kl_e, wrongRow_m hd hs c16, q, cl2_e]
        simp only [kl_e]
        rw [if_pos trivial, ldA_8 hd, gA_pI, hR.2.2.2.2.2.1, if_neg hns, if_neg (by decide)]
  · refine ag (f := mX10_land (nI d)) (g := mX11_land (nI d)) (v := rfs σ d 2) (ρ := σ) (τ := pI σ 45 16 0) ?_ ?_ c16 hI
    · unfold mX10_land
      rw [refRow_c hd, cl2_e, if_neg q]
    · unfold mX11_land mX11_land_29 mX11_land_30
      rw [kl_e, wrongRow_m hd hs c16, cl2_e]
      simp only [kl_e]
      rw [if_neg q, if_neg (by rw [rfs_ge]; exact q)]
