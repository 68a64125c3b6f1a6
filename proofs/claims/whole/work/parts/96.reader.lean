/-! ===== PURE: a statement read ===== -/
abbrev FSt (σ τ : St) : Prop := Fx (fun o k => o = 45 ∧ (k = 19 ∨ k = 20 ∨ k = 21)) (fun a => a = 56) (fun _ => False) σ τ
theorem FdR_St {σ τ : St} (h : FdR σ τ) : FSt σ τ := Fx_mono (fun o k e => ⟨e.1, by omega⟩) (fun _ e => e.elim) (fun _ e => e) h
theorem RSt_A {d n r k a i : Nat} {b : Nat → Int32} {τ : St} {bad : Bool} {v : Int32} (ha : a ≠ 52) (h : RSt d n b τ r k bad) : RSt d n b (pA τ a i v) r k bad := by
  obtain ⟨⟨hd, hn, h1, h2⟩, h3⟩ := h
  exact ⟨⟨hd, hn, by rw [gA_pA_ne (by omega), h1], h2⟩, h3⟩
theorem rdD_le {b : Nat → Int32} {n : Nat} : ∀ m y r bad, (rdD b n m y r bad).2.1 ≤ r + m
  | 0, _, _, _ => Nat.le_refl _
  | m + 1, y, r, bad => by
    rw [rdD_s]
    by_cases c : (!bad && isD (hrN b n r)) = true
    · rw [if_pos c]
      have := rdD_le m (10 * y + hrN b n r - 48) (r + 1) false (b := b) (n := n)
      omega
    · rw [if_neg c, (rdD_t m 0 r).1]; omega
/-- a group of digits read and kept at e -/
theorem grp_m {d n k r M e : Nat} {b : Nat → Int32} {bad : Bool} {τ : St} (hM : M ≤ 4) (he : e < 153) (hr : r ≤ 200) (h : RSt d n b τ r k bad) : ∃ T, (∀ f : St → Option St, cl2 (mX11_readDigits (nI M) τ) (fun x s => stA s 56 153 (nI e) x f) = f T) ∧ RSt d n b T (rdD b n M 0 r bad).2.1 k (rdD b n M 0 r bad).2.2 ∧ FSt τ T ∧ gA T 56 e = (rdD b n M 0 r bad).1 ∧ ∀ i, i ≠ e → gA T 56 i = gA τ 56 i := by
  obtain ⟨A, a1, a2, a3⟩ := readDigits_m (M := M) hM (by omega) h
  refine ⟨pA A 56 e (rdD b n M 0 r bad).1, fun f => ?_, RSt_A (by omega) a2, Fx_pA (by omega) (FdR_St a3), gA_pA_eq, fun i hi => ?_⟩
  · rw [a1, cl2_e, stA_n he (by omega)]
  · rw [gA_pA_ne (by omega), Fx_A a3 (fun q => q)]
/-- what is told of the statement with letter c, whose digits begin at p -/
def toldN (b : Nat → Int32) (T : St) (k : Nat) (c : Int32) (p : Nat) : Prop := (c = 103 → gA T 56 (3 * k) = dvN b p ∧ gA T 56 (3 * k + 1) = dvN b (p + 1) ∧ gA T 56 (3 * k + 2) = tvN b (p + 2)) ∧ (c = 119 → gA T 56 (3 * k) = dvN b p) ∧ (c = 100 → gA T 56 (3 * k) = dvN b p ∧ gA T 56 (3 * k + 1) = dvN b (p + 1)) ∧ (c = 110 → gA T 56 (3 * k) = tvN b p ∧ gA T 56 (3 * k + 1) = tvN b (p + 2)) ∧ (c = 104 ∨ c = 115 → gA T 56 (3 * k) = tvN b p)
theorem k3_1 {k : Nat} : nI (3 * k) + (1 : Int32) = nI (3 * k + 1) := nI_1 _
theorem k3_2 {k : Nat} : nI (3 * k) + (2 : Int32) = nI (3 * k + 2) := by rw [show (2 : Int32) = nI 2 from rfl, nI_add]
theorem midS_m {d n k r r1 : Nat} {b : Nat → Int32} {c y : Int32} {s15 : St} (hk : k < 51) (hr : r1 ≤ 150) (h : RSt d n b (pI s15 45 19 (nI r + y)) r1 k (decide (dkN c = 0))) : ∃ T r2 bad2, mX11_readStatement_71 (nI r) c (nI (3 * k)) y s15 = mX11_readStatement_215 T ∧ RSt d n b T r2 k bad2 ∧ (∀ v, GWt b n v (nI (dkN c)) r1 (decide (dkN c = 0)) → GWt b n v 0 r2 bad2) ∧ FSt (pI s15 45 19 (nI r + y)) T ∧ (∀ i, i < 3 * k → gA T 56 i = gA (pI s15 45 19 (nI r + y)) 56 i) ∧ ((bad2 = false → dkN c ≠ 0 ∧ r2 = r1 + dkN c ∧ (∀ i, i < dkN c → r1 + i < n ∧ isD (b (r1 + i)) = true) ∧ toldN b T k c r1) ∧ r2 ≤ 200) := by
  have hn := h.1.2.1
  generalize hS : pI s15 45 19 (nI r + y) = S at h ⊢
  have l1 := fun bad => rdD_le 1 0 r1 bad (b := b) (n := n)
  have l2 := fun bad => rdD_le 2 0 r1 bad (b := b) (n := n)
  unfold mX11_readStatement_71
  rw [kl_e, hS, kl_e]
  by_cases c1 : c = 103
  · subst c1
    have k4 : decide (dkN 103 = 0) = false := rfl
    rw [k4] at h
    obtain ⟨A, a1, a2, a3, a4, a5⟩ := grp_m (M := 1) (e := 3 * k) (by omega) (by omega) (by omega) h
    have l3 := l1 false
    have l4 := rdD_le 1 0 (rdD b n 1 0 r1 false).2.1 (rdD b n 1 0 r1 false).2.2 (b := b) (n := n)
    obtain ⟨B, b1, b2', b3, b4, b5⟩ := grp_m (M := 1) (e := 3 * k + 1) (by omega) (by omega) (by omega) a2
    obtain ⟨C, d1, d2, d3, d4, d5⟩ := grp_m (M := 2) (e := 3 * k + 2) (by omega) (by omega) (by omega) b2'
    refine ⟨C, _, _, ?_, d2, fun v g => ?_, Fx_tr a3 (Fx_tr b3 d3), fun i hi => by rw [d5 i (by omega), b5 i (by omega), a5 i (by omega)], fun q => ?_, ?_⟩
    · rw [if_pos rfl]
      refine (a1 _).trans ?_
      rw [k3_1]
      refine (b1 _).trans ?_
      rw [k3_2]
      exact d1 _
    · have g1 := rdD_gw hn 1 3 0 r1 false (by omega) g
      have g2 := rdD_gw hn 1 2 0 _ _ (by omega) g1
      exact rdD_gw hn 2 0 0 _ _ (by omega) g2
    · obtain ⟨e1, e2, e3⟩ := rdD_ok _ _ _ _ q
      obtain ⟨f1, f2, f3⟩ := rdD_ok _ _ _ _ e1
      obtain ⟨h1, h2, h3⟩ := rdD_ok _ _ _ _ f1
      have v3 := rdD_2 q
      have v2 := rdD_1 e1
      have v1 := rdD_1 f1
      have f2' : (rdD b n 1 0 (rdD b n 1 0 r1 false).2.1 (rdD b n 1 0 r1 false).2.2).2.1 = r1 + 2 := f2.trans (by rw [h2])
      have v2' := v2.trans (show dvN b (rdD b n 1 0 r1 false).2.1 = dvN b (r1 + 1) by rw [h2])
      have e2' := e2.trans (show (rdD b n 1 0 (rdD b n 1 0 r1 false).2.1 (rdD b n 1 0 r1 false).2.2).2.1 + 2 = r1 + 4 by rw [f2'])
      have v3' := v3.trans (show tvN b (rdD b n 1 0 (rdD b n 1 0 r1 false).2.1 (rdD b n 1 0 r1 false).2.2).2.1 = tvN b (r1 + 2) by rw [f2'])
      rw [h2] at f3
      rw [f2'] at e3
      refine ⟨by decide, e2', fun i hi => ?_, ⟨fun _ => ⟨by rw [d5 _ (by omega), b5 _ (by omega), a4, v1], by rw [d5 _ (by omega), b4, v2'], by rw [d4, v3']⟩, fun w => absurd w (by decide), fun w => absurd w (by decide), fun w => absurd w (by decide), fun w => absurd w (by decide)⟩⟩
      have hi' : i < 4 := hi
      have : i = 0 ∨ i = 1 ∨ i = 2 ∨ i = 3 := by omega
      rcases this with rfl | rfl | rfl | rfl
      · exact h3 0 (by omega)
      · exact f3 0 (by omega)
      · exact e3 0 (by omega)
      · exact e3 1 (by omega)
    · have := rdD_le 2 0 (rdD b n 1 0 (rdD b n 1 0 r1 false).2.1 (rdD b n 1 0 r1 false).2.2).2.1 (rdD b n 1 0 (rdD b n 1 0 r1 false).2.1 (rdD b n 1 0 r1 false).2.2).2.2 (b := b) (n := n)
      omega
  rw [if_neg c1]
  by_cases c2 : c = 119
  · subst c2
    have k4 : decide (dkN 119 = 0) = false := rfl
    rw [k4] at h
    obtain ⟨A, a1, a2, a3, a4, a5⟩ := grp_m (M := 1) (e := 3 * k) (by omega) (by omega) (by omega) h
    refine ⟨A, _, _, ?_, a2, fun v g => rdD_gw hn 1 0 0 r1 false (by omega) g, a3, fun i hi => a5 i (by omega), fun q => ?_, ?_⟩
    · rw [if_pos rfl]
      exact a1 _
    · obtain ⟨h1, h2, h3⟩ := rdD_ok _ _ _ _ q
      refine ⟨by decide, h2, fun i hi => h3 i hi, ⟨fun w => absurd w (by decide), fun _ => by rw [a4, rdD_1 q], fun w => absurd w (by decide), fun w => absurd w (by decide), fun w => absurd w (by decide)⟩⟩
    · have := l1 false
      omega
  rw [if_neg c2]
  by_cases c3 : c = 100
  · subst c3
    have k4 : decide (dkN 100 = 0) = false := rfl
    rw [k4] at h
    have l3 := l1 false
    obtain ⟨A, a1, a2, a3, a4, a5⟩ := grp_m (M := 1) (e := 3 * k) (by omega) (by omega) (by omega) h
    obtain ⟨B, b1, b2', b3, b4, b5⟩ := grp_m (M := 1) (e := 3 * k + 1) (by omega) (by omega) (by omega) a2
    refine ⟨B, _, _, ?_, b2', fun v g => ?_, Fx_tr a3 b3, fun i hi => by rw [b5 i (by omega), a5 i (by omega)], fun q => ?_, ?_⟩
    · rw [if_pos rfl]
      refine (a1 _).trans ?_
      rw [k3_1]
      exact b1 _
    · have g1 := rdD_gw hn 1 1 0 r1 false (by omega) g
      exact rdD_gw hn 1 0 0 _ _ (by omega) g1
    · obtain ⟨f1, f2, f3⟩ := rdD_ok _ _ _ _ q
      obtain ⟨h1, h2, h3⟩ := rdD_ok _ _ _ _ f1
      have v2 := rdD_1 q
      have v1 := rdD_1 f1
      have f2' : (rdD b n 1 0 (rdD b n 1 0 r1 false).2.1 (rdD b n 1 0 r1 false).2.2).2.1 = r1 + 2 := f2.trans (by rw [h2])
      have v2' := v2.trans (show dvN b (rdD b n 1 0 r1 false).2.1 = dvN b (r1 + 1) by rw [h2])
      rw [h2] at f3
      refine ⟨by decide, f2', fun i hi => ?_, ⟨fun w => absurd w (by decide), fun w => absurd w (by decide), fun _ => ⟨by rw [b5 _ (by omega), a4, v1], by rw [b4, v2']⟩, fun w => absurd w (by decide), fun w => absurd w (by decide)⟩⟩
      have hi' : i < 2 := hi
      have : i = 0 ∨ i = 1 := by omega
      rcases this with rfl | rfl
      · exact h3 0 (by omega)
      · exact f3 0 (by omega)
    · have := rdD_le 1 0 (rdD b n 1 0 r1 false).2.1 (rdD b n 1 0 r1 false).2.2 (b := b) (n := n)
      omega
  rw [if_neg c3, kl_e, h.2.2.2.1]
  by_cases z : dkN c = 0
  · rw [decide_eq_true z] at h ⊢
    rw [b2_t, if_neg n10]
    exact ⟨S, r1, true, rfl, h, fun v g => by rcases g with ⟨g0, g | g⟩; exact absurd g.1 (by decide); exact ⟨g0, Or.inr g⟩, Fx_rfl, fun _ _ => rfl, fun q => absurd q (by decide), by omega⟩
  · rw [decide_eq_false z] at h ⊢
    rw [b2_f, if_pos rfl]
    obtain ⟨A, a1, a2, a3, a4, a5⟩ := grp_m (M := 2) (e := 3 * k) (by omega) (by omega) (by omega) h
    have l3 := l2 false
    by_cases c4 : c = 110
    · subst c4
      obtain ⟨B, b1, b2', b3, b4, b5⟩ := grp_m (M := 2) (e := 3 * k + 1) (by omega) (by omega) (by omega) a2
      refine ⟨B, _, _, ?_, b2', fun v g => ?_, Fx_tr a3 b3, fun i hi => by rw [b5 i (by omega), a5 i (by omega)], fun q => ?_, ?_⟩
      · refine (a1 _).trans ?_
        rw [kl_e, if_pos rfl]
        unfold mX11_readStatement_214
        rw [k3_1]
        exact b1 _
      · have g1 := rdD_gw hn 2 2 0 r1 false (by omega) g
        exact rdD_gw hn 2 0 0 _ _ (by omega) g1
      · obtain ⟨f1, f2, f3⟩ := rdD_ok _ _ _ _ q
        obtain ⟨h1, h2, h3⟩ := rdD_ok _ _ _ _ f1
        have v2 := rdD_2 q
        have v1 := rdD_2 f1
        have f2' : (rdD b n 2 0 (rdD b n 2 0 r1 false).2.1 (rdD b n 2 0 r1 false).2.2).2.1 = r1 + 4 := f2.trans (by rw [h2])
        have v2' := v2.trans (show tvN b (rdD b n 2 0 r1 false).2.1 = tvN b (r1 + 2) by rw [h2])
        rw [h2] at f3
        refine ⟨by decide, f2', fun i hi => ?_, ⟨fun w => absurd w (by decide), fun w => absurd w (by decide), fun w => absurd w (by decide), fun _ => ⟨by rw [b5 _ (by omega), a4, v1], by rw [b4, v2']⟩, fun w => absurd w (by decide)⟩⟩
        have hi' : i < 4 := hi
        have : i = 0 ∨ i = 1 ∨ i = 2 ∨ i = 3 := by omega
        rcases this with rfl | rfl | rfl | rfl
        · exact h3 0 (by omega)
        · exact h3 1 (by omega)
        · exact f3 0 (by omega)
        · exact f3 1 (by omega)
      · have := rdD_le 2 0 (rdD b n 2 0 r1 false).2.1 (rdD b n 2 0 r1 false).2.2 (b := b) (n := n)
        omega
    · have h2c : dkN c = 2 := by
        unfold dkN at z ⊢
        rw [if_neg c3, if_neg c1, if_neg c4, if_neg c2] at z ⊢
        by_cases q1 : c = 104
        · rw [if_pos q1]
        · rw [if_neg q1] at z ⊢
          by_cases q2 : c = 115
          · rw [if_pos q2]
          · rw [if_neg q2] at z; exact absurd rfl z
      rw [h2c]
      refine ⟨pA A 56 (3 * k + 1) 0, (rdD b n 2 0 r1 false).2.1, (rdD b n 2 0 r1 false).2.2, ?_, RSt_A (by omega) a2, fun v g => rdD_gw hn 2 0 0 r1 false (by omega) g, Fx_pA (by omega) a3, fun i hi => by rw [gA_pA_ne (by omega), a5 i (by omega)], fun q => ?_, ?_⟩
      · refine (a1 _).trans ?_
        rw [kl_e, if_neg c4]
        unfold mX11_readStatement_214
        rw [k3_1, stA_n (by omega) (by omega)]
      · obtain ⟨h1, h2, h3⟩ := rdD_ok _ _ _ _ q
        exact ⟨by decide, h2, fun i hi => h3 i hi, ⟨fun w => absurd w c1, fun w => absurd w c2, fun w => absurd w c3, fun w => absurd w c4, fun _ => by rw [gA_pA_ne (by omega), a4, rdD_2 q]⟩⟩
      · omega
