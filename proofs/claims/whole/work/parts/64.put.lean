/-! ===== PURE: put ===== -/
theorem refRow_c {d : Nat} (hd : d < 8) (σ : St) : mX10_refusalOfRow (nI d) σ = some (rfs σ d 2, σ) := by
  unfold mX10_refusalOfRow
  rw [unless_c hd, cl2_e]
theorem refRow_n {a : Int32} (h : inR a 0 7 = false) (σ : St) : mX10_refusalOfRow a σ = some (-1, σ) := by
  unfold mX10_refusalOfRow
  rw [unless_n h, cl2_e]
/-- a row stands on shelf d, of sort s and n numbers -/
def Rw (σ : St) (d s n : Nat) : Prop := gI σ (10 + d) 0 = 2 ∧ gA σ 48 d = 2 ∧ s < 3 ∧ n ≤ 100 ∧ gI σ (10 + d) 3 = nI s ∧ gA σ 51 d = nI s ∧ gI σ (10 + d) 4 = nI n ∧ gA σ 52 d = nI n ∧ ∀ i, i < 100 → gL σ (19 + d) i = gL σ 53 (100 * d + i) ∧ ∃ z : Int32, gL σ (19 + d) i = z.toInt64 ∧ (s = 0 → z = z.toInt8.toInt32)
theorem Rw_of {σ : St} {d : Nat} (hs : Shok σ d) (q : rfs σ d 2 = 0) : ∃ s n, Rw σ d s n := by
  rw [rfs_0] at q
  obtain ⟨h0, hh⟩ := hs
  rcases hh with hh | ⟨hh, _⟩ | ⟨hh, s, n, r⟩
  · exact absurd hh q.1
  · rw [q.2] at hh; exact absurd hh (by decide)
  · exact ⟨s, n, hh, by rw [← h0, hh], r⟩
theorem Shok_Rw {σ : St} {d s n : Nat} (h : Rw σ d s n) : Shok σ d := ⟨by rw [h.1, h.2.1], Or.inr (Or.inr ⟨h.1, s, n, h.2.2⟩)⟩
theorem ldL_100 {ρ : Type} {σ : St} {a i : Nat} {f : Int64 → Option ρ} (h : i < 100) : ldL σ a 100 (nI i) f = f (gL σ a i) := ldL_n h (by omega)
theorem stL_100 {ρ : Type} {σ : St} {a i : Nat} {v : Int64} {f : St → Option ρ} (h : i < 100) : stL σ a 100 (nI i) v f = f (pL σ a i v) := stL_n h (by omega)
theorem ix_m {d i : Nat} : ((100 : Int32) * nI d) + nI i = nI (100 * d + i) := by
  rw [show (100 : Int32) = nI 100 from rfl, pk_mul, nI_add]
theorem ldL_800 {ρ : Type} {σ : St} {d i : Nat} {f : Int64 → Option ρ} (hd : d < 8) (h : i < 100) : ldL σ 53 800 (((100 : Int32) * nI d) + nI i) f = f (gL σ 53 (100 * d + i)) := by
  rw [ix_m]; exact ldL_n (by omega) (by omega)
theorem stL_800 {ρ : Type} {σ : St} {d i : Nat} {v : Int64} {f : St → Option ρ} (hd : d < 8) (h : i < 100) : stL σ 53 800 (((100 : Int32) * nI d) + nI i) v f = f (pL σ 53 (100 * d + i) v) := by
  rw [ix_m]; exact stL_n (by omega) (by omega)
/-- is a place of n numbers, on the reference's side -/
theorem place_m {n : Nat} (hn : n ≤ 100) (b : Int32) (σ : St) : mX11_in b.toInt64 (0 : Int64) ((nI n - (1 : Int32)).toInt64) σ = some (b2 (decide (0 ≤ b) && decide (b < nI n)), σ) := by
  rw [show (0 : Int64) = (0 : Int32).toInt64 from rfl, in_m]
  unfold inR
  have : decide (b ≤ nI n - 1) = decide (b < nI n) := by
    have : (nI n - 1).toInt = (n : Int) - 1 := by
      have := pk_sub_toInt (a := n) (b := 1) (by omega) (by omega)
      exact this
    congr 1
    apply propext
    rw [Int32.le_iff_toInt_le, Int32.lt_iff_toInt_lt, this, nI_toInt (by omega)]
    omega
  rw [this]
theorem place_or (b : Int32) (n : Nat) (hn : n ≤ 100) : ((decide (0 ≤ b) && decide (b < nI n)) = false ∧ (b < 0 ∨ nI n ≤ b)) ∨ ∃ i, i < n ∧ b = nI i ∧ (decide (0 ≤ b) && decide (b < nI n)) = true := by
  rcases pk_ix b (n := n) (by omega) with h | h | ⟨j, hj, rfl⟩
  · left; exact ⟨by simp [Int32.not_le.2 h], Or.inl h⟩
  · left; exact ⟨by simp [Int32.not_lt.2 h], Or.inr h⟩
  · right; exact ⟨j, hj, rfl, by simp [nI_pos' (n := j) (by omega), nI_lt hj (by omega)]⟩
theorem hasPlace_n {o n : Nat} {b : Int32} {σ : St} (e : gI σ o 4 = nI n) (h : b < 0 ∨ nI n ≤ b) : mX5_hasPlace o b σ = some (0, σ) := by
  unfold mX5_hasPlace
  by_cases q : b < 0
  · rw [if_pos q]; rfl
  · rw [if_neg q, kl_e, e, if_pos (by rcases h with h | h; exact absurd h q; exact h)]; rfl
theorem hasPlace_y {o n i : Nat} {σ : St} (hn : n ≤ 100) (e : gI σ o 4 = nI n) (h : i < n) : mX5_hasPlace o (nI i) σ = some (1, σ) := by
  unfold mX5_hasPlace
  rw [if_neg (nI_pos (by omega)), kl_e, e, if_neg (nI_ge h (by omega))]; rfl
theorem i8_i8 (c : Int32) : c.toInt8.toInt32.toInt8.toInt32 = c.toInt8.toInt32 := by
  rw [Int8.toInt8_toInt32]
/-- both sides write z at place i of shelf d -/
theorem Rw_wr {σ : St} {d s n i : Nat} {z : Int32} (hd : d < 8) (h : Rw σ d s n) (hi : i < 100) (hz : s = 0 → z = z.toInt8.toInt32) (S : St) (hS : core S = core (pL σ (19 + d) i z.toInt64)) : Rw (pL S 53 (100 * d + i) z.toInt64) d s n := by
  obtain ⟨h1, h2, h3, h4, h5, h6, h7, h8, h9⟩ := h
  have gi : ∀ k, gI (pL S 53 (100 * d + i) z.toInt64) (10 + d) k = gI σ (10 + d) k := fun k => by rw [gI_pL, core_I hS _ _ (keI_sh hd), gI_pL]
  have ga : ∀ a, keA a = true → gA (pL S 53 (100 * d + i) z.toInt64) a d = gA σ a d := fun a ha => by rw [gA_pL, core_A hS _ _ ha, gA_pL]
  refine ⟨by rw [gi, h1], by rw [ga 48 rfl, h2], h3, h4, by rw [gi, h5], by rw [ga 51 rfl, h6], by rw [gi, h7], by rw [ga 52 rfl, h8], fun j hj => ?_⟩
  by_cases e : j = i
  · subst e
    have e1 : gL (pL S 53 (100 * d + j) z.toInt64) (19 + d) j = z.toInt64 := by
      rw [gL_pL, if_neg (by omega), core_L hS _ _ (keL_sh hd), gL_pL, if_pos ⟨rfl, rfl⟩]
    exact ⟨by rw [e1, gL_pL, if_pos ⟨rfl, rfl⟩], z, e1, hz⟩
  · have e1 : gL (pL S 53 (100 * d + i) z.toInt64) (19 + d) j = gL σ (19 + d) j := by
      rw [gL_pL, if_neg (by omega), core_L hS _ _ (keL_sh hd), gL_pL, if_neg (by omega)]
    have e2 : gL (pL S 53 (100 * d + i) z.toInt64) 53 (100 * d + j) = gL σ 53 (100 * d + j) := by
      rw [gL_pL, if_neg (by omega), core_L hS 53 _ rfl, gL_pL, if_neg (by omega)]
    rw [e1, e2]
    exact h9 j hj
theorem s_put : stp332 Inv mX10_put mX11_put := by
  intro σ a b c hI
  rcases shelf_or a with h | ⟨d, hd, rfl, h⟩
  · refine ag (f := mX10_put a b c) (g := mX11_put a b c) (v := -1) (ρ := σ) (τ := pI σ 45 16 0) ?_ ?_ c16 hI
    · unfold mX10_put
      simp only [refRow_n h, cl2_e]
      rfl
    · unfold mX11_put
      simp only [wrongRow_n h, cl2_e, kl_e]
      rfl
  have hs := hI.2.2.2.2 d hd
  by_cases q : rfs σ d 2 = 0
  · obtain ⟨s, n, hR⟩ := Rw_of hs q
    obtain ⟨h1, h2, h3, h4, h5, h6, h7, h8, h9⟩ := hR
    rcases place_or b n h4 with ⟨p1, p2⟩ | ⟨i, hi, rfl, p1⟩
    · refine ag (f := mX10_put (nI d) b c) (g := mX11_put (nI d) b c) (v := -13) (ρ := σ) (τ := pI σ 45 16 0) ?_ ?_ c16 hI
      · unfold mX10_put
        simp only [refRow_c hd, cl2_e, q, ite_true, shelfAt_c hd, hasPlace_n h7 p2]
      · unfold mX11_put
        simp only [wrongRow_m hd hs c16, cl2_e, kl_e, rfs_ge, q, ite_true, ldA_8 hd, core_A c16 52 d rfl, h8, place_m h4, p1, b2_f]
        rfl
    · have hz : ∃ z : Int32, (s = 0 → z = z.toInt8.toInt32) ∧ (∀ (J : Int64 → St → Option St) (τ : St), (if nI s = 0 then J (c.toInt8.toInt32.toInt64) τ else J c.toInt64 τ) = J z.toInt64 τ) ∧ ∀ τ, mX11_narrowed c (nI s) τ = some (z.toInt64, τ) := by
        by_cases e : s = 0
        · subst e
          exact ⟨c.toInt8.toInt32, fun _ => (i8_i8 c).symm, fun J τ => by rw [if_pos nI_0], fun τ => by unfold mX11_narrowed; rw [if_pos nI_0]⟩
        · have e' : ¬ nI s = 0 := by rw [nI_0' (by omega)]; exact e
          exact ⟨c, fun h => absurd h e, fun J τ => by rw [if_neg e'], fun τ => by unfold mX11_narrowed; rw [if_neg e']⟩
      obtain ⟨z, z1, z2, z3⟩ := hz
      refine ⟨0, pL σ (19 + d) i z.toInt64, pL (pI (pL σ (19 + d) i z.toInt64) 45 16 0) 53 (100 * d + i) z.toInt64, ?_, ?_, ?_⟩
      · unfold mX10_put mX5_write
        simp only [refRow_c hd, cl2_e, q, ite_true, shelfAt_c hd, hasPlace_y h4 h7 hi, if_neg n10, kl_e, h7, h5, z2]
        rw [if_neg (nI_pos (by omega)), if_neg (nI_ge hi (by omega)), if_neg (show ¬ (100 : Int32) ≤ nI i from nI_ge (b := 100) (by omega) (by omega))]
        unfold mX5_write_41
        rw [stL_100 (by omega), cl1_e, show 10 + d + 9 = 19 + d by omega]
      · have hc : core (pI (pL σ (19 + d) i z.toInt64) 45 16 0) = core (pL σ (19 + d) i z.toInt64) := c16
        have k1 : ∀ a, keA a = true → gA (pI (pL σ (19 + d) i z.toInt64) 45 16 0) a d = gA σ a d := fun a ha => rfl
        have wr : mX11_wrongRow (nI d) (pI (pL σ (19 + d) i z.toInt64) 45 16 0) = some (0, pI (pL σ (19 + d) i z.toInt64) 45 16 0) := by
          unfold mX11_wrongRow
          simp only [in7_m, h, b2_t, cl2_e, if_neg n10, ldA_8 hd, k1 48 rfl, h2, if_neg (show ¬ (2 : Int32) = 0 from by decide), ite_true]
        unfold mX11_put
        simp only [wr, cl2_e, kl_e, ldA_8 hd, k1 52 rfl, k1 51 rfl, h8, h6, place_m h4, p1, b2_t, if_neg n10, z3]
        rw [if_pos (by decide), stL_800 hd (by omega)]
      · refine Inv_shelf hd hI (Re_pL (Or.inr (Or.inr ⟨rfl, by omega, by omega⟩)) (Re_pI (Or.inr rfl) (Re_pL (Or.inr (Or.inl rfl)) Re_rfl))) ?_
        exact Shok_Rw (Rw_wr hd ⟨h1, h2, h3, h4, h5, h6, h7, h8, h9⟩ (by omega) z1 _ c16)
  · refine ag (f := mX10_put (nI d) b c) (g := mX11_put (nI d) b c) (v := rfs σ d 2) (ρ := σ) (τ := pI σ 45 16 0) ?_ ?_ c16 hI
    · unfold mX10_put
      simp only [refRow_c hd, cl2_e, if_neg q]
    · unfold mX11_put
      simp only [wrongRow_m hd hs c16, cl2_e, kl_e, rfs_ge, if_neg q]
