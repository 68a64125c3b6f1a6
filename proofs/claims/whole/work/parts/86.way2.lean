/-! ===== PURE: way, the loops ===== -/
def wyP (D : Nat → Nat) (all src : Nat) : Nat → Nat
  | 0 => src
  | t + 1 => wyS D (all - t - 1) (wyP D all src t)
theorem A2_sym {j k : Nat} (hj : j < 1296) (hk : k < 1296) : A2 j k = A2 k j := by
  unfold A2
  rw [adj_sym (j / 36) (by omega) (k / 36) (by omega), adj_sym (j % 36) (by omega) (k % 36) (by omega)]
theorem wyP_is {N src to : Nat} {P : Nat → Bool} (hN : N = 1296) (hs : src < N) (hlt : Dx N A2 P to src < N) : ∀ t, t ≤ Dx N A2 P to src → wyP (Dx N A2 P to) (Dx N A2 P to src) src t < 1296 ∧ Dx N A2 P to (wyP (Dx N A2 P to) (Dx N A2 P to src) src t) = Dx N A2 P to src - t
  | 0, _ => ⟨by show src < 1296; omega, rfl⟩
  | t + 1, ht => by
    have ih := wyP_is hN hs hlt t (by omega)
    have hr : ∀ k, k < N → A2 k k = true := fun k hk => A2_r (by omega)
    show wyS (Dx N A2 P to) (Dx N A2 P to src - t - 1) (wyP (Dx N A2 P to) (Dx N A2 P to src) src t) < 1296 ∧ Dx N A2 P to (wyS (Dx N A2 P to) (Dx N A2 P to src - t - 1) (wyP (Dx N A2 P to) (Dx N A2 P to src) src t)) = _
    generalize wyP (Dx N A2 P to) (Dx N A2 P to src) src t = cur at ih
    obtain ⟨c, hc, hA, hD, _⟩ := Dx_pred (P := P) (src := to) (m := Dx N A2 P to src - t - 1) hr (show cur < N by omega) (by omega) (by omega)
    have := wyS_is (D := Dx N A2 P to) (m := Dx N A2 P to src - t - 1) ih.1 (by rw [A2_sym ih.1 (by omega)]; exact hA) hD
    refine ⟨this.2.1, ?_⟩
    rw [this.2.2]
    omega
theorem wyP_cd {N src to t : Nat} {P : Nat → Bool} (hN : N = 1296) (hs : src < N) (hlt : Dx N A2 P to src < N) (ht : t < Dx N A2 P to src) : mnO (cdW (Dx N A2 P to) (Dx N A2 P to src - t - 1) (wyP (Dx N A2 P to) (Dx N A2 P to src) src t)) 25 = some (wyP (Dx N A2 P to) (Dx N A2 P to src) src (t + 1)) := by
  have ih := wyP_is hN hs hlt t (by omega)
  have hr : ∀ k, k < N → A2 k k = true := fun k hk => A2_r (by omega)
  show _ = some (wyS (Dx N A2 P to) (Dx N A2 P to src - t - 1) (wyP (Dx N A2 P to) (Dx N A2 P to src) src t))
  generalize wyP (Dx N A2 P to) (Dx N A2 P to src) src t = cur at ih
  obtain ⟨c, hc, hA, hD, _⟩ := Dx_pred (P := P) (src := to) (m := Dx N A2 P to src - t - 1) hr (show cur < N by omega) (by omega) (by omega)
  exact (wyS_is (D := Dx N A2 P to) (m := Dx N A2 P to src - t - 1) ih.1 (by rw [A2_sym ih.1 (by omega)]; exact hA) hD).1
theorem c100_dm {k : Nat} (h : k < 1296) : c100 k / 100 = nI (k / 36) ∧ c100 k - c100 k / 100 * 100 = nI (k % 36) := by
  unfold c100
  rw [show (100 : Int32) = nI 100 from rfl, pk_rem (by omega) (by omega) (by omega), pk_div (by omega) (by omega) (by omega), show (100 * (k / 36) + k % 36) / 100 = k / 36 by omega, show (100 * (k / 36) + k % 36) % 100 = k % 36 by omega]
  exact ⟨rfl, rfl⟩
theorem onWay_c {N p q to n : Nat} {P : Nat → Bool} {s : St} (hN : N = 1296) (hp : p < 36) (hq : q < 36) (hlt : Dx N A2 P to (36 * p + q) < N) (hn : n ≤ Dx N A2 P to (36 * p + q)) (hd : ∀ k, k < 1296 → gA s 35 k = if Dx N A2 P to k ≤ Dx N A2 P to (36 * p + q) then nI (Dx N A2 P to k) else -4) : mX0_pairOnWay (nI p) (nI q) (nI n) s = some (c100 (wyP (Dx N A2 P to) (Dx N A2 P to (36 * p + q)) (36 * p + q) n), s) := by
  have hs : 36 * p + q < N := by omega
  unfold mX0_pairOnWay
  rw [kl_e, kl_e]
  have e0 : (100 : Int32) * nI p + nI q = c100 (wyP (Dx N A2 P to) (Dx N A2 P to (36 * p + q)) (36 * p + q) 0) := by
    show _ = c100 (36 * p + q)
    unfold c100
    rw [show (36 * p + q) / 36 = p by omega, show (36 * p + q) % 36 = q by omega]
    exact ix_m
  rw [e0]
  refine lp_for (app := fun t (J : Int32 → Int32 → St → Option (Int32 × St)) => J (c100 (wyP (Dx N A2 P to) (Dx N A2 P to (36 * p + q)) (36 * p + q) t)) (nI t) s) n _ ?_ ?_ 2000 (by omega)
  · intro t ht J
    have hw := wyP_is hN hs hlt t (by omega)
    have hcd := wyP_cd hN hs hlt (t := t) (by omega)
    unfold mX0_pairOnWay_11 mX0_pairOnWay_47
    rw [kl_e, if_neg (nI_ge ht (by omega)), if_neg (lt1296 (show t < 1296 by omega)), (c100_dm hw.1).2, (c100_dm hw.1).1, nextPair_c (D := Dx N A2 P to) (n0 := Dx N A2 P to (36 * p + q)) (m := Dx N A2 P to (36 * p + q) - t - 1) hw.1 (by omega) (by omega) hd (by omega), hcd, cl2_e, nI_1]
    rfl
  · intro J
    unfold mX0_pairOnWay_11 mX0_pairOnWay_47
    rw [kl_e, if_pos (Int32.le_refl _)]
theorem gone_nb1 {O : Nat → Bool} {c d e : Nat} (h : gone O c d = some e) : nbo c d = some e := by
  unfold gone at h
  by_cases h0 : d = 0
  · rw [if_pos h0] at h
    rw [h0]
    exact h
  · rw [if_neg h0] at h
    cases hn : nbo c d with
    | none => rw [hn] at h; cases h
    | some z =>
      rw [hn] at h
      have h' : (if O z = true then some z else none) = some e := h
      by_cases hz : O z = true
      · rw [if_pos hz] at h'; exact h'
      · rw [if_neg hz] at h'; cases h'
theorem way_in {N m cur y10 : Nat} {O : Nat → Bool} {D : Nat → Nat} {x5 : Int32} {J61 : Int32 → Int32 → Int32 → St → Option (Int32 × St)} {s : St} (hN : N = 1296) (hc : cur < 1296) (hm : m < N) (hO : Om s = O) (hx : (x5 - nI y10) - 1 = nI m) (hd : ∀ k, k < N → gA s 60 k = dV N (D k)) (hPO : ∀ a b, a < 36 → b < 36 → D (36 * a + b) < N → O a = true ∧ O b = true) {k : Nat} (hk : mnO (cdW D m cur) 25 = some k) : (lp (fun _ _ _ => none) (mX11_way_73 J61 (nI y10) (nI (cur / 36)) (nI (cur % 36)) x5) 2000) (-1 : Int32) (0 : Int32) s = J61 (nI (k / 36)) (nI (k % 36)) (nI (y10 + 1)) s := by
  have hk2 : k < 1296 := by
    obtain ⟨i, hi, h1⟩ := mnO_in hk
    exact (cdW_is h1 hc hi).1
  refine lp_for (app := fun w (J : Int32 → Int32 → St → Option (Int32 × St)) => J (on1 (mnO (cdW D m cur) w)) (nI w) s) 25 _ ?_ ?_ 2000 (by omega)
  · intro w hw J
    unfold mX11_way_73
    rw [if_neg (lt25 hw), (k5 (show w < 2 ^ 31 by omega)).2, (k5 (show w < 2 ^ 31 by omega)).1, goneTo_m (by omega) (by omega), cl2_e, goneTo_m (by omega) (by omega), cl2_e, hO]
    unfold mX11_way_142 mX11_way_141 mX11_way_180 mX11_way_178 mX11_way_167
    simp only [kl_e, nI_1, ite_true, if_neg n10]
    have hS : mnO (cdW D m cur) (w + 1) = match mnO (cdW D m cur) w, cdW D m cur w with
      | none, y => y
      | some a, none => some a
      | some a, some b => some (if a ≤ b then a else b) := mnO_s
    have no : cdW D m cur w = none → J (on1 (mnO (cdW D m cur) w)) (nI (w + 1)) s = J (on1 (mnO (cdW D m cur) (w + 1))) (nI (w + 1)) s := fun h => by
      rw [hS, h]
      cases mnO (cdW D m cur) w <;> rfl
    have back : ∀ a b, nbo (cur / 36) (w / 5) = some a → nbo (cur % 36) (w % 5) = some b → D (36 * a + b) = m → gone O (cur / 36) (w / 5) = some a ∧ gone O (cur % 36) (w % 5) = some b := fun a b h1 h2 h3 => by
      have := hPO a b (nbo_lt' (by omega) (by omega) h1) (nbo_lt' (by omega) (by omega) h2) (by omega)
      exact ⟨by rw [gone_nbo this.1]; exact h1, by rw [gone_nbo this.2]; exact h2⟩
    cases c1 : gone O (cur / 36) (w / 5) with
    | none =>
      rw [if_pos oi_n0]
      refine no ?_
      unfold cdW
      cases e1 : nbo (cur / 36) (w / 5) with
      | none => rfl
      | some a =>
        cases e2 : nbo (cur % 36) (w % 5) with
        | none => rfl
        | some b =>
          refine if_neg (fun z => ?_)
          have := (back a b e1 e2 z).1
          rw [c1] at this; cases this
    | some a =>
      have ha := gone_lt (by omega) (by omega) c1
      rw [if_neg (oi_nn ha)]
      cases c2 : gone O (cur % 36) (w % 5) with
      | none =>
        rw [if_pos oi_n0]
        refine no ?_
        unfold cdW
        cases e1 : nbo (cur / 36) (w / 5) with
        | none => rfl
        | some a =>
          cases e2 : nbo (cur % 36) (w % 5) with
          | none => rfl
          | some b =>
            refine if_neg (fun z => ?_)
            have := (back a b e1 e2 z).2
            rw [c2] at this; cases this
      | some b =>
        have hb := gone_lt (by omega) (by omega) c2
        have hab : 36 * a + b < 1296 := by omega
        have hcd : cdW D m cur w = if D (36 * a + b) = m then some (36 * a + b) else none := by
          unfold cdW
          rw [gone_nb1 c1, gone_nb1 c2]
        rw [if_neg (oi_nn hb), show oi (some a) = nI a from rfl, show oi (some b) = nI b from rfl, ix36', ldA_12 hab, hd _ (by omega), hx]
        by_cases z : D (36 * a + b) = m
        · have hv : dV N (D (36 * a + b)) = nI m := by unfold dV; rw [if_pos (by omega), z]
          rw [if_pos hv]
          rw [if_pos z] at hcd
          rw [hS, hcd]
          cases y : mnO (cdW D m cur) w with
          | none => rw [if_pos (show on1 none < 0 by decide)]; rfl
          | some c =>
            obtain ⟨i, hi, h1⟩ := mnO_in y
            have hc2 := (cdW_is h1 hc (by omega)).1
            rw [if_neg (show ¬ on1 (some c) < 0 from nI_pos (by omega))]
            show _ = J (on1 (some (if c ≤ 36 * a + b then c else 36 * a + b))) (nI (w + 1)) s
            by_cases k : c ≤ 36 * a + b
            · rw [if_pos (show on1 (some c) ≤ nI (36 * a + b) from nI_le k (by omega)), if_pos k]
            · rw [if_neg (show ¬ on1 (some c) ≤ nI (36 * a + b) from nI_ge (by omega) (by omega)), if_neg k]
              rfl
        · have hv : ¬ dV N (D (36 * a + b)) = nI m := fun w => by
            unfold dV at w
            by_cases u : D (36 * a + b) < N
            · rw [if_pos u, nI_eq (by omega) (by omega)] at w
              exact z w
            · rw [if_neg u] at w
              exact nI_99 (n := m) (by omega) w.symm
          rw [if_neg hv]
          rw [if_neg z] at hcd
          exact no hcd
  · intro J
    unfold mX11_way_73
    rw [if_pos (show (25 : Int32) ≤ nI 25 from Int32.le_refl _), hk]
    simp only [kl_e, nI_1]
    rw [show on1 (some k) = nI k from rfl, (k36 (by omega)).2, (k36 (by omega)).1]
theorem way_m {N p q to n : Nat} {P : Nat → Bool} {O : Nat → Bool} {s : St} (hN : N = 1296) (hp : p < 36) (hq : q < 36) (hlt : Dx N A2 P to (36 * p + q) < N) (hn : n ≤ Dx N A2 P to (36 * p + q)) (hO : Om s = O) (hd : ∀ k, k < N → gA s 60 k = dV N (Dx N A2 P to k)) (hPO : ∀ a b, a < 36 → b < 36 → P (36 * a + b) = true → O a = true ∧ O b = true) : (lp (fun _ _ _ _ => none) (mX11_way_61 (nI n) (nI (Dx N A2 P to (36 * p + q)))) 2000) (nI p) (nI q) (0 : Int32) s = some (c100 (wyP (Dx N A2 P to) (Dx N A2 P to (36 * p + q)) (36 * p + q) n), s) := by
  have hs : 36 * p + q < N := by omega
  have e0 : ∀ J : Int32 → Int32 → Int32 → St → Option (Int32 × St), J (nI p) (nI q) 0 s = J (nI (wyP (Dx N A2 P to) (Dx N A2 P to (36 * p + q)) (36 * p + q) 0 / 36)) (nI (wyP (Dx N A2 P to) (Dx N A2 P to (36 * p + q)) (36 * p + q) 0 % 36)) (nI 0) s := fun J => by
    show _ = J (nI ((36 * p + q) / 36)) (nI ((36 * p + q) % 36)) (nI 0) s
    rw [show (36 * p + q) / 36 = p by omega, show (36 * p + q) % 36 = q by omega]
    rfl
  rw [e0 (lp (fun _ _ _ _ => none) (mX11_way_61 (nI n) (nI (Dx N A2 P to (36 * p + q)))) 2000)]
  refine lp_for (app := fun t (J : Int32 → Int32 → Int32 → St → Option (Int32 × St)) => J (nI (wyP (Dx N A2 P to) (Dx N A2 P to (36 * p + q)) (36 * p + q) t / 36)) (nI (wyP (Dx N A2 P to) (Dx N A2 P to (36 * p + q)) (36 * p + q) t % 36)) (nI t) s) n _ ?_ ?_ 2000 (by omega)
  · intro t ht J
    have hw := wyP_is hN hs hlt t (by omega)
    have hcd := wyP_cd hN hs hlt (t := t) (by omega)
    unfold mX11_way_61
    rw [if_neg (nI_ge ht (by omega)), kl_e]
    refine way_in (m := Dx N A2 P to (36 * p + q) - t - 1) hN hw.1 (by omega) hO ?_ hd (fun a b ha hb h => hPO a b ha hb ?_) hcd
    · rw [pk_sub (by omega)]
      obtain ⟨w, hw⟩ : ∃ w, Dx N A2 P to (36 * p + q) - t = w + 1 := ⟨Dx N A2 P to (36 * p + q) - t - 1, by omega⟩
      rw [hw, nI_pred]; rfl
    · exact Sx_P (Dx_yes h)
  · intro J
    unfold mX11_way_61
    rw [if_pos (Int32.le_refl _)]
    refine congrArg (fun x => some (x, s)) ?_
    exact ix_m
theorem s_way : stp332 Inv mX10_way mX11_way := by
  intro σ a b c hI
  obtain ⟨N, hN⟩ : ∃ N : Nat, N = 1296 := ⟨1296, rfl⟩
  have hr : ∀ k, k < N → A2 k k = true := fun k hk => A2_r (by omega)
  by_cases hc0 : 0 ≤ c
  · rcases see_or hI a b with ⟨v, v1, v2, v3, v4⟩ | ⟨x, y, p, q, hx, hy, rfl, rfl, hp, hq, e5, e6, v3, v4⟩
    · refine ag (f := mX10_way a b c) (g := mX11_way a b c) (v := v) (ρ := σ) (τ := pI σ 45 16 0) ?_ ?_ c16 hI
      · unfold mX10_way mX10_way_14
        simp only [kl_e, if_pos hc0, v3, cl2_e, if_neg v1]
      · unfold mX11_way mX11_way_19
        rw [kl_e, kl_e, if_pos hc0, v4 _ (by rw [lm_16, hI.1]), cl2_e]
        simp only [if_neg v2]
    · obtain ⟨n, hn, rfl⟩ := nI_of (Int32.not_lt.2 hc0)
      obtain ⟨s0, s1, s2, s3, s4, s5⟩ := lay_c σ
      have hcc := core_FB s5
      obtain ⟨τ, t1, t2, t3⟩ := daysBetween_c hN hp hq hx hy s4
      have hc : core τ = core σ := by rw [core_FL t2, hcc]
      have hcp : core (pI τ 45 16 0) = core σ := by rw [c16, hc]
      have hl : lm (pI τ 45 16 0) = ld σ 1 := by rw [lm_core hcp, hI.1]
      obtain ⟨ρ, r1, r2, r3⟩ := seeDays_m (σ := pI τ 45 16 0) hN hp hq hx hy (by rw [hl, e5]) (by rw [hl, e6])
      have hP : ∀ x y, x < 36 → y < 36 → Pm (pI τ 45 16 0) x y = PrL (ld σ 1) x y := fun x y hx hy => by rw [Pm_core hcp, Pm_Inv hI hx hy]
      have hDe : ∀ k, k < N → Dx N A2 (fl2 (Pm (pI τ 45 16 0))) (36 * x + y) k = Dx N A2 (fl2 (PrL (ld σ 1))) (36 * x + y) k := fun k hk => Dx_eqP (fl2_eqP hN hP) hk
      have hcr : core ρ = core σ := by rw [core_FQ r2, hcp]
      have hl2 : lm ρ = ld σ 1 := by rw [lm_core hcr, hI.1]
      have p5 : gI τ 1 5 = nI p := by rw [ld_s (by omega), ld_core hc, e5]
      have p6 : gI τ 1 6 = nI q := by rw [ld_s (by omega), ld_core hc, e6]
      have m5 : gI ρ 45 5 = nI p := by rw [lm_s (by omega), hl2, e5]
      have m6 : gI ρ 45 6 = nI q := by rw [lm_s (by omega), hl2, e6]
      have cls : mX10_way (nI x) (nI y) (nI n) σ = (if dO N (Dx N A2 (fl2 (PrL (ld σ 1))) (36 * x + y) (36 * p + q)) = -4 then some (-4, τ) else if nI n ≤ dO N (Dx N A2 (fl2 (PrL (ld σ 1))) (36 * x + y) (36 * p + q)) then cl2 (mX0_pairOnWay (nI p) (nI q) (nI n) τ) (fun x12 s11 => some (x12, s11)) else some (-4, τ)) := by
        unfold mX10_way mX10_way_14 mX10_way_73
        have q5 : gI s0 1 5 = nI p := by rw [ld_s (by omega), ld_core hcc, e5]
        have q6 : gI s0 1 6 = nI q := by rw [ld_s (by omega), ld_core hcc, e6]
        rw [kl_e, if_pos hc0, v3, cl2_e]
        simp only [ite_true, s1, cl1_e, kl_e, q5, q6, t1, cl2_e, p5, p6]
      have rfr : mX11_way (nI x) (nI y) (nI n) τ = (if nI n ≤ dO N (Dx N A2 (fl2 (PrL (ld σ 1))) (36 * x + y) (36 * p + q)) then (lp (fun _ _ _ _ => none) (mX11_way_61 (nI n) (dO N (Dx N A2 (fl2 (PrL (ld σ 1))) (36 * x + y) (36 * p + q)))) 2000) (nI p) (nI q) (0 : Int32) ρ else some (-4, ρ)) := by
        unfold mX11_way mX11_way_19
        rw [kl_e, kl_e, if_pos hc0, v4 _ hl, cl2_e]
        simp only [if_pos (show (0 : Int32) ≤ 0 by decide), r1, cl2_e, kl_e, m5, m6, hDe (36 * p + q) (show 36 * p + q < N by omega)]
      by_cases z : Dx N A2 (fl2 (PrL (ld σ 1))) (36 * x + y) (36 * p + q) < N
      · have hv : dO N (Dx N A2 (fl2 (PrL (ld σ 1))) (36 * x + y) (36 * p + q)) = nI (Dx N A2 (fl2 (PrL (ld σ 1))) (36 * x + y) (36 * p + q)) := by unfold dO; rw [if_pos z]
        rw [hv] at cls rfr
        by_cases w : n ≤ Dx N A2 (fl2 (PrL (ld σ 1))) (36 * x + y) (36 * p + q)
        · refine ag (f := mX10_way (nI x) (nI y) (nI n)) (g := mX11_way (nI x) (nI y) (nI n)) (v := c100 (wyP (Dx N A2 (fl2 (PrL (ld σ 1))) (36 * x + y)) (Dx N A2 (fl2 (PrL (ld σ 1))) (36 * x + y) (36 * p + q)) (36 * p + q) n)) (ρ := τ) (τ := ρ) ?_ ?_ hcr hI
          · rw [cls, if_neg (by rw [← hv, dO_4 hN]; exact fun k => k z), if_pos (nI_le w (by omega)), onWay_c hN hp hq z w (fun k hk => ?_), cl2_e]
            have := (t3 z).2 k (by omega)
            rw [this, Dx_at hr (by omega) z]
            by_cases u : Dx N A2 (fl2 (PrL (ld σ 1))) (36 * x + y) k ≤ Dx N A2 (fl2 (PrL (ld σ 1))) (36 * x + y) (36 * p + q)
            · rw [decide_eq_true u, if_pos rfl, if_pos u]
            · rw [decide_eq_false u, if_neg (by decide), if_neg u]
          · rw [rfr, if_pos (nI_le w (by omega))]
            refine way_m hN hp hq z w rfl (fun k hk => by rw [r3 k hk, hDe k hk]) (fun a b ha hb h => ?_)
            rw [fl2_at hb] at h
            unfold PrL Pr at h
            rw [Bool.and_eq_true, Bool.and_eq_true] at h
            rw [Om_core hcr, Inv_Om hI ha, Inv_Om hI hb]
            exact ⟨h.1, h.2.1⟩
        · refine ag (f := mX10_way (nI x) (nI y) (nI n)) (g := mX11_way (nI x) (nI y) (nI n)) (v := -4) (ρ := τ) (τ := ρ) ?_ ?_ hcr hI
          · rw [cls, if_neg (by rw [← hv, dO_4 hN]; exact fun k => k z), if_neg (nI_ge (by omega) (by omega))]
          · rw [rfr, if_neg (nI_ge (by omega) (by omega))]
      · have hv : dO N (Dx N A2 (fl2 (PrL (ld σ 1))) (36 * x + y) (36 * p + q)) = -4 := by unfold dO; rw [if_neg z]
        rw [hv] at cls rfr
        refine ag (f := mX10_way (nI x) (nI y) (nI n)) (g := mX11_way (nI x) (nI y) (nI n)) (v := -4) (ρ := τ) (τ := ρ) ?_ ?_ hcr hI
        · rw [cls, if_pos rfl]
        · rw [rfr, if_neg]
          intro k
          have z0 : (0 : Int32).toInt = 0 := rfl
          have z4 : (-4 : Int32).toInt = -4 := rfl
          rw [Int32.le_iff_toInt_le, z4] at k
          rw [Int32.le_iff_toInt_le, z0] at hc0
          omega
  · refine ag (f := mX10_way a b c) (g := mX11_way a b c) (v := -1) (ρ := σ) (τ := pI σ 45 16 0) ?_ ?_ c16 hI
    · unfold mX10_way mX10_way_14
      simp only [kl_e, if_neg hc0, if_neg (show ¬ (-1 : Int32) = 0 by decide)]
    · unfold mX11_way mX11_way_19
      simp only [kl_e, if_neg hc0, if_neg (show ¬ (0 : Int32) ≤ -1 by decide)]
