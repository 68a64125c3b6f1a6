/-! ===== PURE: row, copy, element, the start ===== -/
theorem fillL_c {o n : Nat} {v : Int64} (hn : ln o = n) (h2 : n < 2000) (σ : St) : ∃ τ, mJ7_fill_d0a16 o v σ = some τ ∧ (∀ i, i < n → gL τ o i = v) ∧ Fx (fun _ _ => False) (fun _ => False) (fun a => a = o) σ τ := by
  unfold mJ7_fill_d0a16
  rw [kl_e, kl_e, hn]
  refine lp_rel (app := fun i (s : St) (J : Int32 → St → Option St) => J (nI i) s) (P := fun i s => (∀ e, e < i → gL s o e = v) ∧ Fx (fun _ _ => False) (fun _ => False) (fun a => a = o) σ s) n (Q := fun q => ∃ τ, q = some τ ∧ (∀ i, i < n → gL τ o i = v) ∧ Fx (fun _ _ => False) (fun _ => False) (fun a => a = o) σ τ) ?_ ?_ 2000 h2 σ ⟨fun e he => by omega, Fx_rfl⟩
  · intro i s hi ⟨g1, g2⟩ J
    refine ⟨pL s o i v, ⟨fun e he => ?_, Fx_pL rfl g2⟩, ?_⟩
    · rw [gL_pL]
      by_cases q : e = i
      · rw [if_pos ⟨rfl, q⟩]
      · rw [if_neg (by omega)]; exact g1 e (by omega)
    · unfold mJ7_fill_d0a16_6
      rw [show Int32.ofNat n = nI n from rfl, if_neg (nI_ge hi (by omega)), hn, stL_n hi (by omega), nI_1]
  · intro s ⟨g1, g2⟩ J
    refine ⟨s, ?_, g1, g2⟩
    show mJ7_fill_d0a16_6 (Int32.ofNat n) o v J (nI n) s = _
    unfold mJ7_fill_d0a16_6
    rw [if_pos (show Int32.ofNat n ≤ nI n from Int32.le_refl _)]
theorem fillA_c {o n : Nat} {v : Int32} (hn : ln o = n) (h2 : n < 2000) (σ : St) : ∃ τ, mJ7_fill_53178 o v σ = some τ ∧ (∀ i, i < n → gA τ o i = v) ∧ Fx (fun _ _ => False) (fun a => a = o) (fun _ => False) σ τ := by
  unfold mJ7_fill_53178
  rw [kl_e, kl_e, hn]
  refine lp_rel (app := fun i (s : St) (J : Int32 → St → Option St) => J (nI i) s) (P := fun i s => (∀ e, e < i → gA s o e = v) ∧ Fx (fun _ _ => False) (fun a => a = o) (fun _ => False) σ s) n (Q := fun q => ∃ τ, q = some τ ∧ (∀ i, i < n → gA τ o i = v) ∧ Fx (fun _ _ => False) (fun a => a = o) (fun _ => False) σ τ) ?_ ?_ 2000 h2 σ ⟨fun e he => by omega, Fx_rfl⟩
  · intro i s hi ⟨g1, g2⟩ J
    refine ⟨pA s o i v, ⟨fun e he => ?_, Fx_pA rfl g2⟩, ?_⟩
    · rw [gA_pA]
      by_cases q : e = i
      · rw [if_pos ⟨rfl, q⟩]
      · rw [if_neg (by omega)]; exact g1 e (by omega)
    · unfold mJ7_fill_53178_5
      rw [show Int32.ofNat n = nI n from rfl, if_neg (nI_ge hi (by omega)), hn, stA_n hi (by omega), nI_1]
  · intro s ⟨g1, g2⟩ J
    refine ⟨s, ?_, g1, g2⟩
    show mJ7_fill_53178_5 (Int32.ofNat n) o v J (nI n) s = _
    unfold mJ7_fill_53178_5
    rw [if_pos (show Int32.ofNat n ≤ nI n from Int32.le_refl _)]
theorem ln_row : ∀ d, d < 8 → ln (10 + d + 9) = 100 := by decide +kernel
theorem Re_Fx {p : Nat → Nat → Prop} {q r : Nat → Prop} {σ τ ρ : St} {d : Nat} (hp : ∀ o k, p o k → keI o k = false ∨ o = 10 + d) (hq : ∀ a, q a → keA a = false) (hr : ∀ a, r a → keL a = false ∨ a = 19 + d) (h : Re σ τ d) (g : Fx p q r τ ρ) : Re σ ρ d := by
  refine Re_tr h ⟨fun o k h1 h2 => (g.1 o k).resolve_left (fun c => by
    rcases hp o k c with e | e
    · rw [e] at h1; cases h1
    · exact h2 e), fun a i h1 => Or.inr ((g.2.1 a i).resolve_left (fun c => by rw [hq a c] at h1; cases h1)), fun a i h1 => ?_⟩
  rcases g.2.2 a i with c | c
  · rcases hr a c with e | e
    · rw [e] at h1; cases h1
    · exact Or.inl e
  · exact Or.inr (Or.inr c)
/-- the reference clears a row -/
theorem clear_m {d : Nat} (hd : d < 8) (σ : St) : ∃ τ, (lp (fun _ _ => none) (mX11_row_68 (nI d)) 2000) (0 : Int32) σ = some ((0 : Int32), τ) ∧ (∀ i, i < 100 → gL τ 53 (100 * d + i) = 0) ∧ (∀ o k, gI τ o k = gI σ o k) ∧ (∀ a i, gA τ a i = gA σ a i) ∧ ∀ a i, (a = 53 ∧ 100 * d ≤ i ∧ i < 100 * d + 100) ∨ gL τ a i = gL σ a i := by
  refine lp_rel (app := fun i (s : St) (J : Int32 → St → Option (Int32 × St)) => J (nI i) s) (P := fun i s => (∀ e, e < i → gL s 53 (100 * d + e) = 0) ∧ (∀ o k, gI s o k = gI σ o k) ∧ (∀ a i, gA s a i = gA σ a i) ∧ ∀ a i, (a = 53 ∧ 100 * d ≤ i ∧ i < 100 * d + 100) ∨ gL s a i = gL σ a i) 100 (Q := fun q => ∃ τ, q = some ((0 : Int32), τ) ∧ (∀ i, i < 100 → gL τ 53 (100 * d + i) = 0) ∧ (∀ o k, gI τ o k = gI σ o k) ∧ (∀ a i, gA τ a i = gA σ a i) ∧ ∀ a i, (a = 53 ∧ 100 * d ≤ i ∧ i < 100 * d + 100) ∨ gL τ a i = gL σ a i) ?_ ?_ 2000 (by omega) σ ⟨fun e he => by omega, fun _ _ => rfl, fun _ _ => rfl, fun _ _ => Or.inr rfl⟩
  · intro i s hi ⟨g1, g2, g3, g4⟩ J
    refine ⟨pL s 53 (100 * d + i) 0, ⟨fun e he => ?_, g2, g3, fun a j => ?_⟩, ?_⟩
    · rw [gL_pL]
      by_cases q : e = i
      · rw [if_pos ⟨rfl, by omega⟩]
      · rw [if_neg (by omega)]; exact g1 e (by omega)
    · rw [gL_pL]
      by_cases q : a = 53 ∧ j = 100 * d + i
      · left; omega
      · rw [if_neg q]; exact g4 a j
    · show mX11_row_68 (nI d) J (nI i) s = J (nI (i + 1)) _
      unfold mX11_row_68
      rw [if_neg (show ¬ (100 : Int32) ≤ nI i from nI_ge (b := 100) hi (by omega)), stL_800 hd hi, nI_1]
  · intro s ⟨g1, g2, g3, g4⟩ J
    refine ⟨s, ?_, g1, g2, g3, g4⟩
    show mX11_row_68 (nI d) J (nI 100) s = _
    unfold mX11_row_68
    rw [if_pos (show (100 : Int32) ≤ nI 100 from Int32.le_refl _)]
theorem s_row : stp332 Inv mX10_row mX11_row := by
  intro σ a b c hI
  have j2 : ∀ τ, mX11_in b.toInt64 (0 : Int64) (2 : Int64) τ = some (b2 (inR b 0 2), τ) := fun τ => in_m b 0 2 τ
  rcases shelf_or a with h | ⟨d, hd, rfl, h⟩
  · refine ag (f := mX10_row a b c) (g := mX11_row a b c) (v := -1) (ρ := σ) (τ := pI σ 45 16 0) ?_ ?_ c16 hI
    · unfold mX10_row
      simp only [shelf_c, h, b2_f, cl2_e, ite_true]
    · unfold mX11_row
      simp only [in7_m, h, b2_f, cl2_e, kl_e, ite_true]
  rcases inR_or b 2 (by omega) with ⟨hb, _⟩ | ⟨s, hs, rfl, hb⟩
  · have hb' : inR b 0 2 = false := hb
    refine ag (f := mX10_row (nI d) b c) (g := mX11_row (nI d) b c) (v := -1) (ρ := σ) (τ := pI σ 45 16 0) ?_ ?_ c16 hI
    · unfold mX10_row
      simp only [shelf_c, h, b2_t, cl2_e, if_neg n10]
      by_cases q : b < 0
      · rw [if_pos q]
      · rw [if_neg q, if_pos]
        refine Int32.not_le.1 (fun q2 => ?_)
        unfold inR at hb'
        rw [decide_eq_true (Int32.not_lt.1 q), decide_eq_true q2] at hb'
        cases hb'
    · unfold mX11_row
      simp only [in7_m, h, b2_t, cl2_e, kl_e, if_neg n10, j2, hb', b2_f, ite_true]
  have hb' : inR (nI s) 0 2 = true := hb
  have p1 : ¬ nI s < 0 := nI_pos (by omega)
  have p2 : ¬ (2 : Int32) < nI s := nI_nlt (b := s) (a := 2) (by omega) (by omega)
  by_cases q1 : c ≤ 100
  · by_cases q2 : 0 ≤ c
    · obtain ⟨n, hn, rfl⟩ := nI_of2 (M := 100) (n := 100) rfl (Int32.not_lt.2 q2) q1
      obtain ⟨ρ, e1, e2, e3⟩ := fillL_c (o := 10 + d + 9) (v := 0) (ln_row d hd) (by omega) (pI (pI (pI σ (10 + d) 0 2) (10 + d) 3 (nI s)) (10 + d) 4 (nI n))
      obtain ⟨τ, f1, f2, f3, f4, f5⟩ := clear_m hd (pA (pA (pA (pI ρ 45 16 0) 48 d 2) 51 d (nI s)) 52 d (nI n))
      refine ⟨0, ρ, τ, ?_, ?_, ?_⟩
      · unfold mX10_row mX5_takeRow
        simp only [shelf_c, h, b2_t, cl2_e, if_neg n10, if_neg p1, if_neg p2, if_pos q1, if_pos q2, shelfAt_c hd, kl_e, e1, cl1_e]
      · unfold mX11_row
        simp only [in7_m, h, b2_t, cl2_e, kl_e, if_neg n10, j2, hb', if_pos q1, if_pos q2, stA_8 hd]
        exact f1
      · have gi : ∀ k, gI τ (10 + d) k = if k = 4 then nI n else if k = 3 then nI s else if k = 0 then 2 else gI σ (10 + d) k := fun k => by
          rw [f3, gI_pA, gI_pA, gI_pA, gI_pI_o (by omega), Fx_I e3 (by simp), gI_pI, gI_pI, gI_pI]
          simp only [true_and]
        have R : Re σ τ d := by
          refine Re_tr (τ := ρ) ?_ (Re_tr (τ := pA (pA (pA (pI ρ 45 16 0) 48 d 2) 51 d (nI s)) 52 d (nI n)) (Re_pA (by omega) (Re_pA (by omega) (Re_pA (by omega) (Re_pI (Or.inr rfl) Re_rfl)))) ⟨fun o k _ _ => f3 o k, fun a i _ => Or.inr (f4 a i), fun a i _ => Or.inr (f5 a i)⟩)
          exact Re_Fx (fun o k e => e.elim) (fun a e => e.elim) (fun a e => Or.inr (by omega)) (Re_pI (Or.inl rfl) (Re_pI (Or.inl rfl) (Re_pI (Or.inl rfl) Re_rfl))) e3
        refine Inv_shelf hd hI R (Shok_Rw (s := s) (n := n) ⟨by rw [gi]; rfl, ?_, by omega, hn, by rw [gi]; rfl, ?_, by rw [gi]; rfl, ?_, fun i hi => ?_⟩)
        · rw [f4, gA_pA_ne (by omega), gA_pA_ne (by omega), gA_pA_eq]
        · rw [f4, gA_pA_ne (by omega), gA_pA_eq]
        · rw [f4, gA_pA_eq]
        · have l1 : gL τ (19 + d) i = 0 := by
            rcases f5 (19 + d) i with z | z
            · omega
            · rw [z, gL_pA, gL_pA, gL_pA, gL_pI, show 19 + d = 10 + d + 9 by omega, e2 i hi]
          exact ⟨by rw [l1, f2 i hi], 0, by rw [l1]; rfl, fun _ => rfl⟩
    · refine ag (f := mX10_row (nI d) (nI s) c) (g := mX11_row (nI d) (nI s) c) (v := -14) (ρ := σ) (τ := pI σ 45 16 0) ?_ ?_ c16 hI
      · unfold mX10_row
        simp only [shelf_c, h, b2_t, cl2_e, if_neg n10, if_neg p1, if_neg p2, if_pos q1, if_neg q2]
      · unfold mX11_row
        simp only [in7_m, h, b2_t, cl2_e, kl_e, if_neg n10, j2, hb', if_pos q1, if_neg q2]
  · refine ag (f := mX10_row (nI d) (nI s) c) (g := mX11_row (nI d) (nI s) c) (v := -1) (ρ := σ) (τ := pI σ 45 16 0) ?_ ?_ c16 hI
    · unfold mX10_row
      simp only [shelf_c, h, b2_t, cl2_e, if_neg n10, if_neg p1, if_neg p2, if_neg q1]
    · unfold mX11_row
      simp only [in7_m, h, b2_t, cl2_e, kl_e, if_neg n10, j2, hb', if_neg q1]
/-! copy -/
theorem sub_int {s m : Nat} (hs : s ≤ 100) (hm : m < 2 ^ 31) : (nI s - nI m).toInt = (s : Int) - m := by
  rw [Int32.toInt_sub, nI_toInt (by omega), nI_toInt (by omega)]
  exact Int.bmod_eq_of_le (by omega) (by omega)
theorem hasPlaces_c {o s : Nat} {σ : St} (hs : s ≤ 100) (e : gI σ o 4 = nI s) (a b : Int32) : mX5_hasPlaces o a b σ = some (b2 (decide (0 ≤ a.toInt ∧ 0 ≤ b.toInt ∧ a.toInt + b.toInt ≤ s)), σ) := by
  unfold mX5_hasPlaces
  have z : (0 : Int32).toInt = 0 := rfl
  by_cases ha : a < 0
  · rw [if_pos ha, decide_eq_false (by rw [Int32.lt_iff_toInt_lt, z] at ha; omega)]; rfl
  rw [if_neg ha]
  by_cases hb : b < 0
  · rw [if_pos hb, decide_eq_false (by rw [Int32.lt_iff_toInt_lt, z] at hb; omega)]; rfl
  rw [if_neg hb]
  obtain ⟨i, hi, rfl⟩ := nI_of ha
  obtain ⟨m, hm, rfl⟩ := nI_of hb
  simp only [kl_e, e, nI_toInt hi, nI_toInt hm]
  by_cases c : s < i
  · rw [if_pos (nI_lt c hi), decide_eq_false (by omega)]; rfl
  · rw [if_neg (nI_nlt (by omega) (by omega)), pk_sub (by omega)]
    by_cases c2 : s - i < m
    · rw [if_pos (nI_lt c2 hm), decide_eq_false (by omega)]; rfl
    · rw [if_neg (nI_nlt (by omega) (by omega)), decide_eq_true (by omega)]; rfl
theorem nI_ne {a b : Nat} (ha : a < 2 ^ 31) (hb : b < 2 ^ 31) (h : a ≠ b) : ¬ nI a = nI b := by rw [nI_eq ha hb]; exact h
theorem ix_m3 {d i k : Nat} : (((100 : Int32) * nI d) + nI i) + nI k = nI (100 * d + i + k) := by
  rw [ix_m, nI_add]
/-- what Shok says of row d when it holds one -/
theorem Rw_2 {σ : St} {d : Nat} (hs : Shok σ d) (q : gI σ (10 + d) 0 = 2) : ∃ s n, Rw σ d s n := by
  refine Rw_of hs ?_
  rw [rfs_0, q]
  exact ⟨by decide, rfl⟩
theorem cp1_m {d i n : Nat} {e j : Int32} (hd : d < 8) (hi : i + n ≤ 100) (σ : St) : ∃ τ, (∀ k, k < n → gL τ 65 k = gL σ 53 (100 * d + i + k)) ∧ Fx (fun _ _ => False) (fun _ => False) (fun a => a = 65) σ τ ∧ (lp (fun _ _ => none) (mX11_copy_137 (nI n) e j (nI d) (nI i)) 2000) (0 : Int32) σ = (lp (fun _ _ => none) (mX11_copy_174 (nI n) e j) 2000) (0 : Int32) τ := by
  refine lp_rel (app := fun k (s : St) (J : Int32 → St → Option (Int32 × St)) => J (nI k) s) (P := fun k s => (∀ e, e < k → gL s 65 e = gL σ 53 (100 * d + i + e)) ∧ Fx (fun _ _ => False) (fun _ => False) (fun a => a = 65) σ s) n (Q := fun q => ∃ τ, (∀ k, k < n → gL τ 65 k = gL σ 53 (100 * d + i + k)) ∧ Fx (fun _ _ => False) (fun _ => False) (fun a => a = 65) σ τ ∧ q = (lp (fun _ _ => none) (mX11_copy_174 (nI n) e j) 2000) (0 : Int32) τ) ?_ ?_ 2000 (by omega) σ ⟨fun e he => by omega, Fx_rfl⟩
  · intro k s hk ⟨g1, g2⟩ J
    refine ⟨pL s 65 k (gL s 53 (100 * d + i + k)), ⟨fun e he => ?_, Fx_pL rfl g2⟩, ?_⟩
    · rw [gL_pL]
      by_cases q : e = k
      · rw [if_pos ⟨rfl, q⟩, q, Fx_L g2 (by omega)]
      · rw [if_neg (by omega)]; exact g1 e (by omega)
    · show mX11_copy_137 (nI n) e j (nI d) (nI i) J (nI k) s = J (nI (k + 1)) _
      unfold mX11_copy_137
      rw [if_neg (nI_ge hk (by omega)), ix_m3, ldL_n (by omega) (by omega), stL_n (by omega) (by omega), nI_1]
  · intro s ⟨g1, g2⟩ J
    refine ⟨s, g1, g2, ?_⟩
    show mX11_copy_137 (nI n) e j (nI d) (nI i) J (nI n) s = _
    unfold mX11_copy_137
    rw [if_pos (Int32.le_refl _), kl_e]
theorem cp2_m {e j n : Nat} (he : e < 8) (hj : j + n ≤ 100) (σ : St) : ∃ τ, (lp (fun _ _ => none) (mX11_copy_174 (nI n) (nI e) (nI j)) 2000) (0 : Int32) σ = some (nI n, τ) ∧ (∀ o k, gI τ o k = gI σ o k) ∧ (∀ a i, gA τ a i = gA σ a i) ∧ (∀ a i, a ≠ 53 → gL τ a i = gL σ a i) ∧ ∀ i, gL τ 53 i = if 100 * e + j ≤ i ∧ i < 100 * e + j + n then gL σ 65 (i - (100 * e + j)) else gL σ 53 i := by
  refine lp_rel (app := fun k (s : St) (J : Int32 → St → Option (Int32 × St)) => J (nI k) s) (P := fun k s => (∀ o k, gI s o k = gI σ o k) ∧ (∀ a i, gA s a i = gA σ a i) ∧ (∀ a i, a ≠ 53 → gL s a i = gL σ a i) ∧ ∀ i, gL s 53 i = if 100 * e + j ≤ i ∧ i < 100 * e + j + k then gL σ 65 (i - (100 * e + j)) else gL σ 53 i) n (Q := fun q => ∃ τ, q = some (nI n, τ) ∧ (∀ o k, gI τ o k = gI σ o k) ∧ (∀ a i, gA τ a i = gA σ a i) ∧ (∀ a i, a ≠ 53 → gL τ a i = gL σ a i) ∧ ∀ i, gL τ 53 i = if 100 * e + j ≤ i ∧ i < 100 * e + j + n then gL σ 65 (i - (100 * e + j)) else gL σ 53 i) ?_ ?_ 2000 (by omega) σ ⟨fun _ _ => rfl, fun _ _ => rfl, fun _ _ _ => rfl, fun i => by rw [if_neg (by omega)]⟩
  · intro k s hk ⟨g1, g2, g3, g4⟩ J
    refine ⟨pL s 53 (100 * e + j + k) (gL s 65 k), ⟨g1, g2, fun a i h => ?_, fun i => ?_⟩, ?_⟩
    · rw [gL_pL, if_neg (by omega)]; exact g3 a i h
    · rw [gL_pL]
      by_cases q : i = 100 * e + j + k
      · rw [if_pos ⟨rfl, q⟩, if_pos (by omega), g3 65 k (by omega), show i - (100 * e + j) = k by omega]
      · rw [if_neg (by omega), g4]
        by_cases q2 : 100 * e + j ≤ i ∧ i < 100 * e + j + k
        · rw [if_pos q2, if_pos (by omega)]
        · rw [if_neg q2, if_neg (by omega)]
    · show mX11_copy_174 (nI n) (nI e) (nI j) J (nI k) s = J (nI (k + 1)) _
      unfold mX11_copy_174
      rw [if_neg (nI_ge hk (by omega)), ldL_n (by omega) (by omega), ix_m3, stL_n (by omega) (by omega), nI_1]
  · intro s g J
    refine ⟨s, ?_, g⟩
    show mX11_copy_174 (nI n) (nI e) (nI j) J (nI n) s = _
    unfold mX11_copy_174
    rw [if_pos (Int32.le_refl _)]
theorem s_copy : stp532 Inv mX10_copy mX11_copy := by
  intro σ a b c e f hI
  rcases shelf_or a with h | ⟨d, hd, rfl, h⟩
  · refine ag (f := mX10_copy a b c e f) (g := mX11_copy a b c e f) (v := -1) (ρ := σ) (τ := pI σ 45 16 0) ?_ ?_ c16 hI
    · unfold mX10_copy
      simp only [shelf_c, h, b2_f, cl2_e, ite_true]
    · unfold mX11_copy
      simp only [in7_m, h, b2_f, cl2_e, kl_e, ite_true]
  rcases shelf_or c with g | ⟨t, ht, rfl, g⟩
  · refine ag (f := mX10_copy (nI d) b c e f) (g := mX11_copy (nI d) b c e f) (v := -1) (ρ := σ) (τ := pI σ 45 16 0) ?_ ?_ c16 hI
    · unfold mX10_copy
      simp only [shelf_c, h, g, b2_t, b2_f, cl2_e, if_neg n10, ite_true]
    · unfold mX11_copy
      simp only [in7_m, h, g, b2_t, b2_f, cl2_e, kl_e, if_neg n10, ite_true]
  have S1 := hI.2.2.2.2 d hd
  have S2 := hI.2.2.2.2 t ht
  have m48 : ∀ x, gA (pI σ 45 16 0) x d = gA σ x d ∧ gA (pI σ 45 16 0) x t = gA σ x t := fun x => ⟨rfl, rfl⟩
  by_cases q1 : gI σ (10 + d) 0 = 0
  · refine ag (f := mX10_copy (nI d) b (nI t) e f) (g := mX11_copy (nI d) b (nI t) e f) (v := -11) (ρ := σ) (τ := pI σ 45 16 0) ?_ ?_ c16 hI
    · unfold mX10_copy
      simp only [shelf_c, h, g, b2_t, cl2_e, if_neg n10, shelfAt_c hd, shelfAt_c ht, kl_e, q1, ite_true]
    · unfold mX11_copy
      simp only [in7_m, h, g, b2_t, cl2_e, kl_e, if_neg n10, ldA_8 hd, (m48 48).1, ← S1.1, q1, ite_true]
  by_cases q2 : gI σ (10 + t) 0 = 0
  · refine ag (f := mX10_copy (nI d) b (nI t) e f) (g := mX11_copy (nI d) b (nI t) e f) (v := -11) (ρ := σ) (τ := pI σ 45 16 0) ?_ ?_ c16 hI
    · unfold mX10_copy
      simp only [shelf_c, h, g, b2_t, cl2_e, if_neg n10, shelfAt_c hd, shelfAt_c ht, kl_e, if_neg q1, q2, ite_true]
    · unfold mX11_copy
      simp only [in7_m, h, g, b2_t, cl2_e, kl_e, if_neg n10, ldA_8 hd, ldA_8 ht, (m48 48).1, (m48 48).2, ← S1.1, ← S2.1, if_neg q1, q2, ite_true]
  by_cases q3 : gI σ (10 + d) 0 = 2 ∧ gI σ (10 + t) 0 = 2
  · obtain ⟨s1, n1, R1⟩ := Rw_2 S1 q3.1
    obtain ⟨s2, n2, R2⟩ := Rw_2 S2 q3.2
    by_cases q4 : s1 = s2
    · subst q4
      have z2 : ¬ (2 : Int32) = 0 := by decide
      have cls : mX10_copy (nI d) b (nI t) e f σ = (if b2 (decide (0 ≤ b.toInt ∧ 0 ≤ f.toInt ∧ b.toInt + f.toInt ≤ n1)) = 0 then some (-13, σ) else if b2 (decide (0 ≤ e.toInt ∧ 0 ≤ f.toInt ∧ e.toInt + f.toInt ≤ n2)) = 0 then some (-13, σ) else cpL σ (10 + d + 9) 100 b (10 + t + 9) 100 e f (fun s19 => some (f, s19))) := by
        unfold mX10_copy
        simp only [shelf_c, h, g, b2_t, cl2_e, if_neg n10, shelfAt_c hd, shelfAt_c ht, kl_e, q3.1, q3.2, if_neg z2, ite_true, R1.2.2.2.2.1, R2.2.2.2.2.1, hasPlaces_c R1.2.2.2.1 R1.2.2.2.2.2.2.1, hasPlaces_c R2.2.2.2.1 R2.2.2.2.2.2.2.1]
      have ref : ∀ τ, (∀ x, gA τ x d = gA σ x d ∧ gA τ x t = gA σ x t) → mX11_copy (nI d) b (nI t) e f τ = (if f < 0 then some (-13, pI τ 45 16 0) else if b < 0 then some (-13, pI τ 45 16 0) else if e < 0 then some (-13, pI τ 45 16 0) else if nI n1 - f < b then some (-13, pI τ 45 16 0) else if e ≤ nI n2 - f then (lp (fun _ _ => none) (mX11_copy_137 f (nI t) e (nI d) b) 2000) (0 : Int32) (pI τ 45 16 0) else some (-13, pI τ 45 16 0)) := by
        intro τ hτ
        unfold mX11_copy
        simp only [in7_m, h, g, b2_t, cl2_e, kl_e, if_neg n10, ldA_8 hd, ldA_8 ht, gA_pI, (hτ 48).1, (hτ 48).2, (hτ 51).1, (hτ 51).2, (hτ 52).1, (hτ 52).2, R1.2.1, R2.2.1, if_neg z2, ite_true, R1.2.2.2.2.2.1, R2.2.2.2.2.2.1, R1.2.2.2.2.2.2.2.1, R2.2.2.2.2.2.2.2.1]
      have zz : (0 : Int32).toInt = 0 := rfl
      by_cases w : 0 ≤ b.toInt ∧ 0 ≤ e.toInt ∧ 0 ≤ f.toInt ∧ b.toInt + f.toInt ≤ n1 ∧ e.toInt + f.toInt ≤ n2
      · have k1 : ¬ b < 0 := by rw [Int32.lt_iff_toInt_lt, zz]; omega
        have k2 : ¬ e < 0 := by rw [Int32.lt_iff_toInt_lt, zz]; omega
        have k3 : ¬ f < 0 := by rw [Int32.lt_iff_toInt_lt, zz]; omega
        obtain ⟨i, hi, rfl⟩ := nI_of k1
        obtain ⟨j, hj, rfl⟩ := nI_of k2
        obtain ⟨n, hn, rfl⟩ := nI_of k3
        have N1 := R1.2.2.2.1
        have N2 := R2.2.2.2.1
        rw [nI_toInt hi, nI_toInt hj, nI_toInt hn] at w
        refine ⟨nI n, sL σ (10 + t + 9) (va_cpy (σ.2.2.1 (10 + d + 9)) (σ.2.2.1 (10 + t + 9)) i j n), ?_⟩
        obtain ⟨ρ, r1, r2, r3⟩ := cp1_m (d := d) (i := i) (n := n) (e := nI t) (j := nI j) hd (by omega) (pI (sL σ (10 + t + 9) (va_cpy (σ.2.2.1 (10 + d + 9)) (σ.2.2.1 (10 + t + 9)) i j n)) 45 16 0)
        obtain ⟨τ, t1, t2, t3, t4, t5⟩ := cp2_m (e := t) (j := j) (n := n) ht (by omega) ρ
        refine ⟨τ, ?_, ?_, ?_⟩
        · rw [cls, nI_toInt hi, nI_toInt hj, nI_toInt hn, decide_eq_true (by omega), decide_eq_true (by omega), b2_t, if_neg n10, if_neg n10]
          unfold cpL
          rw [nI_clamp hi, nI_clamp hj, nI_clamp hn, if_neg]
          rintro (q | q | q | q | q)
          · exact k1 q
          · exact k2 q
          · exact k3 q
          · omega
          · omega
        · rw [ref (sL σ (10 + t + 9) (va_cpy (σ.2.2.1 (10 + d + 9)) (σ.2.2.1 (10 + t + 9)) i j n)) (fun x => ⟨rfl, rfl⟩), if_neg k3, if_neg k1, if_neg k2, if_neg, if_pos, r3, t1]
          · rw [Int32.le_iff_toInt_le, sub_int N2 hn, nI_toInt hj]; omega
          · rw [Int32.lt_iff_toInt_lt, sub_int N1 hn, nI_toInt hi]; omega
        · have L0 : ∀ a i', a ≠ 53 → a ≠ 65 → gL τ a i' = gL (sL σ (10 + t + 9) (va_cpy (σ.2.2.1 (10 + d + 9)) (σ.2.2.1 (10 + t + 9)) i j n)) a i' := fun a i' x1 x2 => by
            rw [t4 a i' x1, Fx_L r2 (by omega), gL_pI]
          have I0 : ∀ o k, ¬ (o = 45 ∧ k = 16) → gI τ o k = gI σ o k := fun o k x => by
            rw [t2, Fx_I r2 (by simp), gI_pI, if_neg x, gI_sL]
          have A0 : ∀ a i', gA τ a i' = gA σ a i' := fun a i' => by
            rw [t3, Fx_A r2 (by simp)]; rfl
          have T0 : ∀ k, gL τ (19 + t) k = if j ≤ k ∧ k < j + n then gL σ (19 + d) (i + (k - j)) else gL σ (19 + t) k := fun k => by
            rw [L0 _ _ (by omega) (by omega), gL_sL, if_pos (by omega), show 10 + d + 9 = 19 + d by omega, show 10 + t + 9 = 19 + t by omega]
            rfl
          have F0 : ∀ k, gL τ 53 k = if 100 * t + j ≤ k ∧ k < 100 * t + j + n then gL σ 53 (100 * d + i + (k - (100 * t + j))) else gL σ 53 k := fun k => by
            rw [t5]
            by_cases x : 100 * t + j ≤ k ∧ k < 100 * t + j + n
            · rw [if_pos x, if_pos x, r1 _ (by omega), gL_pI, gL_sL, if_neg (by omega)]
            · rw [if_neg x, if_neg x, Fx_L r2 (by omega), gL_pI, gL_sL, if_neg (by omega)]
          have R : Re σ τ t := by
            refine ⟨fun o k x1 x2 => I0 o k (by rintro ⟨rfl, rfl⟩; cases x1), fun a i' _ => Or.inr (A0 a i'), fun a i' x1 => ?_⟩
            by_cases y : a = 19 + t
            · exact Or.inl y
            · by_cases y2 : a = 53
              · subst y2
                right
                by_cases x : 100 * t + j ≤ i' ∧ i' < 100 * t + j + n
                · left; exact ⟨rfl, by omega, by omega⟩
                · right; rw [F0, if_neg x]
              · right; right
                rw [L0 _ _ y2 (by rintro rfl; cases x1), gL_sL, if_neg (by omega)]
          refine Inv_shelf ht hI R (Shok_Rw (s := s1) (n := n2) ⟨by rw [I0 _ _ (by omega)]; exact R2.1, by rw [A0]; exact R2.2.1, R2.2.2.1, N2, by rw [I0 _ _ (by omega)]; exact R2.2.2.2.2.1, by rw [A0]; exact R2.2.2.2.2.2.1, by rw [I0 _ _ (by omega)]; exact R2.2.2.2.2.2.2.1, by rw [A0]; exact R2.2.2.2.2.2.2.2.1, fun k hk => ?_⟩)
          rw [T0, F0]
          by_cases x : j ≤ k ∧ k < j + n
          · rw [if_pos x, if_pos (by omega), show 100 * d + i + (100 * t + k - (100 * t + j)) = 100 * d + (i + (k - j)) by omega]
            exact R1.2.2.2.2.2.2.2.2 _ (by omega)
          · rw [if_neg x, if_neg (by omega)]
            exact R2.2.2.2.2.2.2.2.2 _ hk
      · refine ag (f := mX10_copy (nI d) b (nI t) e f) (g := mX11_copy (nI d) b (nI t) e f) (v := -13) (ρ := σ) (τ := pI σ 45 16 0) ?_ ?_ c16 hI
        · rw [cls]
          by_cases y1 : 0 ≤ b.toInt ∧ 0 ≤ f.toInt ∧ b.toInt + f.toInt ≤ n1
          · rw [decide_eq_true y1, b2_t, if_neg n10, decide_eq_false (by omega)]; rfl
          · rw [decide_eq_false y1]; rfl
        · rw [ref σ (fun x => ⟨rfl, rfl⟩)]
          have N1 := R1.2.2.2.1
          have N2 := R2.2.2.2.1
          by_cases k3 : f < 0
          · rw [if_pos k3]
          rw [if_neg k3]
          by_cases k1 : b < 0
          · rw [if_pos k1]
          rw [if_neg k1]
          by_cases k2 : e < 0
          · rw [if_pos k2]
          rw [if_neg k2]
          obtain ⟨i, hi, rfl⟩ := nI_of k1
          obtain ⟨j, hj, rfl⟩ := nI_of k2
          obtain ⟨n, hn, rfl⟩ := nI_of k3
          rw [nI_toInt hi, nI_toInt hj, nI_toInt hn] at w
          have r1 : (nI n1 - nI n < nI i) = ((n1 : Int) - n < i) := by rw [Int32.lt_iff_toInt_lt, sub_int N1 hn, nI_toInt hi]
          have r2 : (nI j ≤ nI n2 - nI n) = ((j : Int) ≤ (n2 : Int) - n) := by rw [Int32.le_iff_toInt_le, sub_int N2 hn, nI_toInt hj]
          by_cases y : (n1 : Int) - n < i
          · rw [if_pos (by rw [r1]; exact y)]
          · rw [if_neg (by rw [r1]; exact y), if_neg (by rw [r2]; omega)]
    · have q4' : ¬ nI s1 = nI s2 := nI_ne (by have := R1.2.2.1; omega) (by have := R2.2.2.1; omega) q4
      have z2 : ¬ (2 : Int32) = 0 := by decide
      refine ag (f := mX10_copy (nI d) b (nI t) e f) (g := mX11_copy (nI d) b (nI t) e f) (v := -12) (ρ := σ) (τ := pI σ 45 16 0) ?_ ?_ c16 hI
      · unfold mX10_copy
        simp only [shelf_c, h, g, b2_t, cl2_e, if_neg n10, shelfAt_c hd, shelfAt_c ht, kl_e, q3.1, q3.2, if_neg z2, ite_true, R1.2.2.2.2.1, R2.2.2.2.2.1, if_neg q4']
      · unfold mX11_copy
        simp only [in7_m, h, g, b2_t, cl2_e, kl_e, if_neg n10, ldA_8 hd, ldA_8 ht, gA_pI, R1.2.1, R2.2.1, if_neg z2, ite_true, R1.2.2.2.2.2.1, R2.2.2.2.2.2.1, if_neg q4']
  · refine ag (f := mX10_copy (nI d) b (nI t) e f) (g := mX11_copy (nI d) b (nI t) e f) (v := -12) (ρ := σ) (τ := pI σ 45 16 0) ?_ ?_ c16 hI
    · unfold mX10_copy
      simp only [shelf_c, h, g, b2_t, cl2_e, if_neg n10, shelfAt_c hd, shelfAt_c ht, kl_e, if_neg q1, if_neg q2]
      by_cases y : gI σ (10 + d) 0 = 2
      · rw [if_pos y, if_neg (fun y2 => q3 ⟨y, y2⟩)]
      · rw [if_neg y]
    · unfold mX11_copy
      simp only [in7_m, h, g, b2_t, cl2_e, kl_e, if_neg n10, ldA_8 hd, ldA_8 ht, gA_pI, ← S1.1, ← S2.1, if_neg q1, if_neg q2]
      by_cases y : gI σ (10 + d) 0 = 2
      · rw [if_pos y, if_neg (fun y2 => q3 ⟨y, y2⟩)]
      · rw [if_neg y]
