/-! ===== PURE: land, of the reference ===== -/
abbrev FLr (σ τ : St) : Prop := Fx (fun o k => o = 45 ∧ (k = 16 ∨ k = 18 ∨ k = 19 ∨ k = 20 ∨ k = 21)) (fun a => a = 54 ∨ a = 55 ∨ a = 56) (fun _ => False) σ τ
theorem wrongRow_2 {d : Nat} (h : d < 8) {τ : St} (e : gA τ 48 d = 2) : mX11_wrongRow (nI d) τ = some (0, τ) := by
  unfold mX11_wrongRow
  have : inR (nI d) 0 7 = true := (inR_n (n := 7) (by omega)).2 ⟨d, h, rfl⟩
  rw [in7_m, this, b2_t, cl2_e, if_neg n10, ldA_8 h, e, if_neg (by decide), ldA_8 h, e, if_pos rfl]
theorem land_m {d n : Nat} {b : Nat → Int32} {ρ : St} (hd : d < 8) (hn : n ≤ 100) (h48 : gA ρ 48 d = 2) (h51 : gA ρ 51 d = 0) (h52 : gA ρ 52 d = nI n) (hb : ∀ i, i < n → gL ρ 53 (100 * d + i) = (b i).toInt64) : ∃ τ r k bad, mX11_land (nI d) ρ = mX11_land_91 τ ∧ RSt d n b τ r k bad ∧ FLr ρ τ ∧ GWt b n (cw b n 2000 (-1) 0) (-1) r bad ∧ LIs b n τ r k bad ∧ (bad = false → 0 < k ∧ r = n) := by
  have hS : RSt d n b (pI (pI (pI (pI (pI ρ 45 16 0) 45 18 (nI d)) 45 19 0) 45 20 0) 45 21 0) 0 0 false := by
    refine ⟨⟨hd, hn, h52, hb⟩, ?_, ?_, ?_, ?_⟩
    · rw [gI_pI, if_neg (by omega), gI_pI, if_neg (by omega), gI_pI, if_neg (by omega), gI_pI, if_pos ⟨rfl, rfl⟩]
    · rw [gI_pI, if_neg (by omega), gI_pI, if_neg (by omega), gI_pI, if_pos ⟨rfl, rfl⟩]; rfl
    · rw [gI_pI, if_neg (by omega), gI_pI, if_pos ⟨rfl, rfl⟩]; rfl
    · rw [gI_pI, if_pos ⟨rfl, rfl⟩]; rfl
  have hF : FLr ρ (pI (pI (pI (pI (pI ρ 45 16 0) 45 18 (nI d)) 45 19 0) 45 20 0) 45 21 0) := Fx_pI ⟨rfl, by omega⟩ (Fx_pI ⟨rfl, by omega⟩ (Fx_pI ⟨rfl, by omega⟩ (Fx_pI ⟨rfl, by omega⟩ (Fx_pI ⟨rfl, by omega⟩ Fx_rfl))))
  obtain ⟨τ, r, k, bad, t1, t2, t3, t4, t5, t6⟩ := readAll_m hS
  refine ⟨τ, r, k, bad, ?_, t2, Fx_tr hF (Fx_mono (fun o k e => ⟨e.1, by omega⟩) (fun _ e => e) (fun _ e => e) t3), t4, t5, t6⟩
  rw [← t1]
  unfold mX11_land mX11_land_29 mX11_land_30
  rw [kl_e, wrongRow_2 hd (by rw [gA_pI, h48]), cl2_e]
  simp only [kl_e]
  rw [if_pos trivial, ldA_8 hd, gA_pI, h51, if_pos rfl, if_pos (by decide), stZ_0]
/-- where the text is wrong -/
theorem cw_bad {b : Nat → Int32} {n r : Nat} {v : Int32} (h : GWt b n v (-1) r true) : v = nI r ∧ r ≤ n := by
  obtain ⟨h0, ⟨h, _⟩ | ⟨_, h⟩⟩ := h
  · cases h
  · exact ⟨h, h0⟩
theorem cw_good {b : Nat → Int32} {n r : Nat} {v : Int32} (h : GWt b n v (-1) r false) (hr : r = n) (h0 : 0 < n) : v = -4 := by
  obtain ⟨h1, ⟨_, f, hf, h⟩ | ⟨h, _⟩⟩ := h
  · by_cases z : f = 0
    · rw [h, z]; rfl
    · obtain ⟨f, rfl⟩ : ∃ g, f = g + 1 := ⟨f - 1, by omega⟩
      have e' : v = if n ≤ r then (if (-1 : Int32) = -1 then (if n = 0 then nI n else -4) else nI n) else if (-1 : Int32) = -1 then (if dkN (b r) = 0 then nI r else cw b n f (nI (dkN (b r))) (r + 1)) else if (-1 : Int32) = 0 then (if b r = 59 then cw b n f (-1) (r + 1) else nI r) else if isD (b r) then cw b n f (-1 + (-1)) (r + 1) else nI r := h
      rw [if_pos (by omega), if_pos rfl, if_neg (by omega)] at e'
      exact e'
  · cases h
theorem core_FLr {σ τ : St} (h : FLr σ τ) : core τ = core σ := core_Fx (fun o k e => by
  obtain ⟨rfl, e⟩ := e
  rcases e with rfl | rfl | rfl | rfl | rfl <;> rfl) (fun a e => by rcases e with rfl | rfl | rfl <;> rfl) (fun a e => e.elim) h
