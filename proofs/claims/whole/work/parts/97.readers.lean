/-! ===== PURE: all statements read ===== -/
abbrev FRt (σ τ : St) : Prop := Fx (fun o k => o = 45 ∧ (k = 19 ∨ k = 20 ∨ k = 21)) (fun a => a = 54 ∨ a = 55 ∨ a = 56) (fun _ => False) σ τ
theorem FSt_Rt {σ τ : St} (h : FSt σ τ) : FRt σ τ := Fx_mono (fun _ _ e => e) (fun _ e => Or.inr (Or.inr e)) (fun _ e => e) h
theorem endS_m {d n k r : Nat} {b : Nat → Int32} {bad : Bool} {T : St} (hr : r ≤ 200) (h : RSt d n b T r k bad) : ∃ T' r3 bad3, mX11_readStatement_215 T = some T' ∧ RSt d n b T' r3 (k + 1) bad3 ∧ (∀ v, GWt b n v 0 r bad → GWt b n v (-1) r3 bad3) ∧ FSt T T' ∧ (∀ a i, gA T' a i = gA T a i) ∧ (bad3 = false → bad = false ∧ r3 = r + 1 ∧ r < n ∧ b r = 59) := by
  have fin : ∀ bad3 r3 T', T' = pI (pI (pI T 45 20 (b2 bad3)) 45 19 (nI r3)) 45 21 (nI (k + 1)) → RSt d n b T' r3 (k + 1) bad3 ∧ FSt T T' ∧ ∀ a i, gA T' a i = gA T a i := by
    rintro bad3 r3 T' rfl
    have g := RSt_set (r' := r3) (bad' := bad3) h
    obtain ⟨g0, g1, g2, g3, g4⟩ := g
    refine ⟨⟨g0, by rw [gI_pI, if_neg (by omega), g1], by rw [gI_pI, if_neg (by omega), g2], by rw [gI_pI, if_neg (by omega), g3], by rw [gI_pI, if_pos ⟨rfl, rfl⟩]⟩, Fx_pI ⟨rfl, by omega⟩ (Fx_pI ⟨rfl, by omega⟩ (Fx_pI ⟨rfl, by omega⟩ Fx_rfl)), fun a i => rfl⟩
  have h19 : ∀ v, gI (pI T 45 20 v) 45 19 = nI r := fun v => by rw [gI_pI, if_neg (by omega), h.2.2.1]
  have h20 : ∀ v, gI (pI T 45 20 v) 45 20 = v := fun v => by rw [gI_pI, if_pos ⟨rfl, rfl⟩]
  have h21 : ∀ v w, gI (pI (pI T 45 20 v) 45 19 w) 45 21 = nI k := fun v w => by rw [gI_pI, if_neg (by omega), gI_pI, if_neg (by omega), h.2.2.2.2]
  have wrong : mX11_readStatement_237 1 T = some (pI (pI (pI T 45 20 (b2 true)) 45 19 (nI r)) 45 21 (nI (k + 1))) := by
    unfold mX11_readStatement_237 mX11_readStatement_257
    rw [stZ_1]
    simp only [kl_e, h20, h19]
    rw [if_neg n10, show nI r + 0 = nI r from by simp, h21, nI_1]
    rfl
  unfold mX11_readStatement_215 mX11_readStatement_232
  rw [kl_e, h.2.2.2.1]
  cases bad
  · simp only [kl_e]
    rw [b2_f, if_pos rfl, here_m h (by omega), cl2_e]
    by_cases z : hrN b n r = 59
    · have hrn : r < n ∧ b r = 59 := by
        unfold hrN at z
        by_cases c : n ≤ r
        · rw [if_pos c] at z; exact absurd z (by decide)
        · rw [if_neg c] at z; exact ⟨by omega, z⟩
      rw [if_pos z]
      obtain ⟨f1, f2, f3⟩ := fin false (r + 1) _ rfl
      refine ⟨_, r + 1, false, ?_, f1, fun v g => ?_, f2, f3, fun _ => ⟨by trivial, rfl, hrn⟩⟩
      · unfold mX11_readStatement_237 mX11_readStatement_257
        rw [stZ_0]
        simp only [kl_e, h20, h19]
        rw [if_pos trivial, nI_1, h21, nI_1]
        rfl
      · obtain ⟨g0, ⟨_, f, hf, e⟩ | ⟨g, _⟩⟩ := g
        · obtain ⟨f, rfl⟩ : ∃ g, f = g + 1 := ⟨f - 1, by omega⟩
          have e' : v = if n ≤ r then (if (0 : Int32) = -1 then (if n = 0 then nI n else -4) else nI n) else if (0 : Int32) = -1 then (if dkN (b r) = 0 then nI r else cw b n f (nI (dkN (b r))) (r + 1)) else if (0 : Int32) = 0 then (if b r = 59 then cw b n f (-1) (r + 1) else nI r) else if isD (b r) then cw b n f (0 + (-1)) (r + 1) else nI r := e
          rw [if_neg (by omega), if_neg (by decide), if_pos rfl, if_pos hrn.2] at e'
          exact ⟨by omega, Or.inl ⟨rfl, f, by omega, e'⟩⟩
        · cases g
    · rw [if_neg z, wrong]
      obtain ⟨f1, f2, f3⟩ := fin true r _ rfl
      refine ⟨_, r, true, rfl, f1, fun v g => ?_, f2, f3, fun q => by cases q⟩
      obtain ⟨g0, ⟨_, f, hf, e⟩ | ⟨g, _⟩⟩ := g
      · obtain ⟨f, rfl⟩ : ∃ g, f = g + 1 := ⟨f - 1, by omega⟩
        have e' : v = if n ≤ r then (if (0 : Int32) = -1 then (if n = 0 then nI n else -4) else nI n) else if (0 : Int32) = -1 then (if dkN (b r) = 0 then nI r else cw b n f (nI (dkN (b r))) (r + 1)) else if (0 : Int32) = 0 then (if b r = 59 then cw b n f (-1) (r + 1) else nI r) else if isD (b r) then cw b n f (0 + (-1)) (r + 1) else nI r := e
        refine ⟨g0, Or.inr ⟨rfl, ?_⟩⟩
        rw [if_neg (show ¬ (0 : Int32) = -1 by decide), if_neg (show ¬ (0 : Int32) = -1 by decide), if_pos rfl] at e'
        unfold hrN at z
        by_cases c : n ≤ r
        · rw [if_pos c] at e'
          rw [e', show n = r by omega]
        · rw [if_neg c] at z e'
          rw [if_neg z] at e'
          exact e'
      · cases g
  · simp only [kl_e]
    rw [b2_t, if_neg n10, wrong]
    obtain ⟨f1, f2, f3⟩ := fin true r _ rfl
    refine ⟨_, r, true, rfl, f1, fun v g => ?_, f2, f3, fun q => by cases q⟩
    obtain ⟨g0, ⟨g, _⟩ | g⟩ := g
    · cases g
    · exact ⟨g0, Or.inr g⟩
/-- a statement stands whole at r -/
def OkS (b : Nat → Int32) (n r : Nat) : Prop := dkN (b r) ≠ 0 ∧ r + dkN (b r) + 1 < n ∧ (∀ i, i < dkN (b r) → isD (b (r + 1 + i)) = true) ∧ b (r + dkN (b r) + 1) = 59
theorem readSt_m {d n k r : Nat} {b : Nat → Int32} {τ : St} (hk : k < 51) (hrn : r < n ∨ (n = 0 ∧ r = 0)) (h : RSt d n b τ r k false) : ∃ τ' r' bad', mX11_readStatement τ = some τ' ∧ RSt d n b τ' r' (k + 1) bad' ∧ (∀ v, GWt b n v (-1) r false → GWt b n v (-1) r' bad') ∧ FRt τ τ' ∧ gA τ' 54 k = nI r ∧ gA τ' 55 k = hrN b n r ∧ (∀ i, i ≠ k → gA τ' 54 i = gA τ 54 i ∧ gA τ' 55 i = gA τ 55 i) ∧ (∀ i, i < 3 * k → gA τ' 56 i = gA τ 56 i) ∧ (bad' = false → OkS b n r ∧ r' = r + dkN (b r) + 2 ∧ toldN b τ' k (b r) (r + 1)) := by
  have hn := h.1.2.1
  have hh := here_m h (by omega)
  generalize hc : hrN b n r = c at hh
  have h7 : RSt d n b (pA (pA τ 54 k (nI r)) 55 k c) r k false := RSt_A (by omega) (RSt_A (by omega) h)
  have F7 : FRt τ (pA (pA τ 54 k (nI r)) 55 k c) := Fx_pA (by omega) (Fx_pA (by omega) Fx_rfl)
  have g19 : ∀ v, gI (pI (pA (pA τ 54 k (nI r)) 55 k c) 45 20 v) 45 19 = nI r := fun v => by rw [gI_pI, if_neg (by omega)]; exact h7.2.2.1
  have g20 : ∀ v, gI (pI (pA (pA τ 54 k (nI r)) 55 k c) 45 20 v) 45 20 = v := fun v => by rw [gI_pI, if_pos ⟨rfl, rfl⟩]
  have core7 : ∀ r1, r1 = (if dkN c = 0 then r else r + 1) → mX11_readStatement τ = mX11_readStatement_71 (nI r) c (nI (3 * k)) (if dkN c = 0 then 0 else 1) (pI (pA (pA τ 54 k (nI r)) 55 k c) 45 20 (b2 (decide (dkN c = 0)))) := by
    intro r1 _
    unfold mX11_readStatement mX11_readStatement_46 mX11_readStatement_51
    rw [kl_e, h.2.2.2.2, hh, cl2_e, kl_e, kl_e, h.2.2.1, stA_n hk (by omega), stA_n hk (by omega), kl_e, kl_e, kl_e, h7.2.2.2.1, b2_f, if_pos rfl, isLetter_m, cl2_e]
    rw [show (3 : Int32) * nI k = nI (3 * k) from by rw [show (3 : Int32) = nI 3 from rfl, pk_mul]]
    by_cases z : dkN c = 0
    · rw [decide_eq_true z, if_pos z]
      rw [show b2 (!true) = 0 from rfl, if_pos rfl]
      refine stZ_1.trans ?_
      simp only [kl_e]
      rw [g20, g19, if_neg n10]
      rfl
    · rw [decide_eq_false z, if_neg z]
      rw [show b2 (!false) = 1 from rfl, if_neg n10]
      refine stZ_0.trans ?_
      simp only [kl_e]
      rw [g20, g19, if_pos rfl]
      rfl
  generalize hr1 : (if dkN c = 0 then r else r + 1) = r1
  have hr1' : r1 ≤ r + 1 := by rw [← hr1]; split <;> omega
  have e71 := core7 r1 hr1.symm
  have hset : nI r + (if dkN c = 0 then 0 else 1) = nI r1 := by
    rw [← hr1]
    by_cases z : dkN c = 0
    · rw [if_pos z, if_pos z]; simp
    · rw [if_neg z, if_neg z, nI_1]
  have h16 : RSt d n b (pI (pI (pA (pA τ 54 k (nI r)) 55 k c) 45 20 (b2 (decide (dkN c = 0)))) 45 19 (nI r + (if dkN c = 0 then 0 else 1))) r1 k (decide (dkN c = 0)) := by
    rw [hset]; exact RSt_set h7
  obtain ⟨T, r2, bad2, m1, m2, m3, m4, m5, m6⟩ := midS_m hk (by omega) h16
  have hr2 : r2 ≤ 200 ∨ 200 < r2 := by omega
  have F16 : FRt (pA (pA τ 54 k (nI r)) 55 k c) (pI (pI (pA (pA τ 54 k (nI r)) 55 k c) 45 20 (b2 (decide (dkN c = 0)))) 45 19 (nI r + (if dkN c = 0 then 0 else 1))) := Fx_pI ⟨rfl, by omega⟩ (Fx_pI ⟨rfl, by omega⟩ Fx_rfl)
  have hr2 : r2 ≤ 200 := m6.2
  obtain ⟨T', r3, bad3, q1, q2, q3, q4, q5, q6⟩ := endS_m hr2 m2
  refine ⟨T', r3, bad3, by rw [e71, m1, q1], q2, fun v g => q3 v (m3 v ?_), Fx_tr F7 (Fx_tr F16 (Fx_tr (FSt_Rt m4) (FSt_Rt q4))), ?_, ?_, fun i hi => ⟨?_, ?_⟩, fun i hi => ?_, fun w => ?_⟩
  · obtain ⟨g0, ⟨_, f, hf, e⟩ | ⟨g, _⟩⟩ := g
    · obtain ⟨f, rfl⟩ : ∃ g, f = g + 1 := ⟨f - 1, by omega⟩
      have e' : v = if n ≤ r then (if (-1 : Int32) = -1 then (if n = 0 then nI n else -4) else nI n) else if (-1 : Int32) = -1 then (if dkN (b r) = 0 then nI r else cw b n f (nI (dkN (b r))) (r + 1)) else if (-1 : Int32) = 0 then (if b r = 59 then cw b n f (-1) (r + 1) else nI r) else if isD (b r) then cw b n f (-1 + (-1)) (r + 1) else nI r := e
      rw [if_pos rfl, if_pos rfl] at e'
      unfold hrN at hc
      rcases hrn with hrn | ⟨n0, r0⟩
      · rw [if_neg (by omega)] at hc e'
        rw [hc] at e'
        by_cases z : dkN c = 0
        · rw [if_pos z] at e' hr1
          rw [decide_eq_true z, ← hr1]
          exact ⟨g0, Or.inr ⟨rfl, e'⟩⟩
        · rw [if_neg z] at e' hr1
          rw [decide_eq_false z, ← hr1]
          exact ⟨by omega, Or.inl ⟨rfl, f, by omega, e'⟩⟩
      · rw [if_pos (by omega)] at hc e'
        rw [if_pos n0] at e'
        have z : dkN c = 0 := by rw [← hc]; rfl
        rw [if_pos z] at hr1
        rw [decide_eq_true z, ← hr1]
        exact ⟨g0, Or.inr ⟨rfl, by rw [e', n0, r0]⟩⟩
    · cases g
  · rw [q5, Fx_A m4 (show ¬ (54 : Nat) = 56 by omega), gA_pI, gA_pI, gA_pA_ne (by omega), gA_pA_eq]
  · rw [q5, Fx_A m4 (show ¬ (55 : Nat) = 56 by omega), gA_pI, gA_pI, gA_pA_eq]
  · rw [q5, Fx_A m4 (show ¬ (54 : Nat) = 56 by omega), gA_pI, gA_pI, gA_pA_ne (by omega), gA_pA_ne (by omega)]
  · rw [q5, Fx_A m4 (show ¬ (55 : Nat) = 56 by omega), gA_pI, gA_pI, gA_pA_ne (by omega), gA_pA_ne (by omega)]
  · rw [q5, m5 i hi, gA_pI, gA_pI, gA_pA_ne (by omega), gA_pA_ne (by omega)]
  · obtain ⟨w1, w2, w3, w4⟩ := q6 w
    obtain ⟨u1, u2, u3, u4⟩ := m6.1 w1
    have hcb : c = b r := by
      rcases hrn with hrn | ⟨n0, r0⟩
      · rw [← hc]; unfold hrN; rw [if_neg (by omega)]
      · exact absurd (show dkN c = 0 by rw [← hc]; unfold hrN; rw [if_pos (by omega)]; rfl) u1
    rw [if_neg u1] at hr1
    rw [← hr1] at u2 u3 u4
    rw [hcb] at u1 u2 u3 u4
    refine ⟨⟨u1, by omega, fun i hi => (u3 i hi).2, ?_⟩, by omega, ?_⟩
    · rw [show r + dkN (b r) + 1 = r2 by omega]; exact w4
    · have t : ∀ i, gA T' 56 i = gA T 56 i := fun i => q5 56 i
      unfold toldN at u4 ⊢
      simp only [t]
      exact u4
