/-! ===== PURE: needs, way ===== -/
/-- with farthest v there is a way -/
def nF (N : Nat) (L : Ld) (x y p q v : Nat) : Bool := decide (Dx N A2 (fl2 (Pr (Op L) L (ls L 3) (nI v))) (36 * x + y) (36 * p + q) < N)
def nV (N : Nat) (L : Ld) (x y p q : Nat) : Int32 := if fst (nF N L x y p q) 21 < 21 then nI (fst (nF N L x y p q) 21) else -4
theorem needs_c {N x y p q : Nat} {L : Ld} {σ : St} (hN : N = 1296) (hx : x < 36) (hy : y < 36) (hp : p < 36) (hq : q < 36) (e5 : ls L 5 = nI p) (e6 : ls L 6 = nI q) (hL : ld σ 1 = L) (hB : Bfar L σ) : ∃ τ, (lp (fun _ _ => none) (mX10_needs_36 (bs (Op L)) (nI x) (nI y)) 2000) (0 : Int32) σ = some (nV N L x y p q, τ) ∧ core τ = core σ := by
  have hf21 := fst_le (p := nF N L x y p q) 21
  refine lp_rx (bot := fun (_ : Int32) (_ : St) => (none : Option (Int32 × St))) (app := fun i (s : St) (J : Int32 → St → Option (Int32 × St)) => J (nI i) s) (P := fun i s => core s = core σ ∧ Bfar L s ∧ i ≤ fst (nF N L x y p q) 21) 21 (Q := fun r => ∃ τ, r = some (nV N L x y p q, τ) ∧ core τ = core σ) ?_ ?_ 2000 0 σ (by omega) (by omega) ⟨rfl, hB, Nat.zero_le _⟩
  · intro v s hv ⟨g1, g2, g3⟩ J
    show (∃ τ, mX10_needs_36 (bs (Op L)) (nI x) (nI y) J (nI v) s = some (_, τ) ∧ _) ∨ ∃ x', _ ∧ mX10_needs_36 (bs (Op L)) (nI x) (nI y) J (nI v) s = J (nI (v + 1)) x'
    unfold mX10_needs_36
    obtain ⟨s1, a1, a2, a3⟩ := bound_c (lo := ls L 3) (hi := nI v) g2
    obtain ⟨s2, b1, b2', b3⟩ := admit_c (O := Op L) a2
    have F2 : Fx (fun _ _ => False) (fun _ => False) (fun a => a = 31 ∨ a = 32) s s2 := Fx_tr (Fx_mono (fun _ _ h => h) (fun _ h => h) (fun _ h => Or.inl h) a3) (Fx_mono (fun _ _ h => h) (fun _ h => h) (fun _ h => Or.inr h) b3)
    have hc2 : core s2 = core σ := by rw [core_Fx (fun o k e => e.elim) (fun a e => e.elim) (fun a e => by rcases e with rfl | rfl <;> rfl) F2, g1]
    obtain ⟨s3, d1, d2, _⟩ := daysBetween_c hN hp hq hx hy b2'
    have hc3 : core s3 = core σ := by rw [core_FL d2, hc2]
    have hB3 : Bfar L s3 := fun a b ha hb => by rw [Fx_A d2 (by simp), Fx_A F2 (by simp)]; exact g2 a b ha hb
    have hD' : Dx N A2 (fl2 (fun a b => Op L a && (Op L b && Nr L (ls L 3) (nI v) a b))) (36 * x + y) (36 * p + q) = Dx N A2 (fl2 (Pr (Op L) L (ls L 3) (nI v))) (36 * x + y) (36 * p + q) := rfl
    rw [if_neg (show ¬ (20 : Int32) < nI v from nI_nlt (b := v) (a := 20) (by omega) (by omega)), kl_e, ld_s (k := 3) (by omega), ld_core g1, hL, a1, cl1_e, b1, cl1_e, kl_e, kl_e, ld_s (k := 5) (by omega), ld_s (k := 6) (by omega), ld_core hc2, hL, e5, e6, d1, cl2_e, hD']
    by_cases z : Dx N A2 (fl2 (Pr (Op L) L (ls L 3) (nI v))) (36 * x + y) (36 * p + q) < N
    · left
      have hf : fst (nF N L x y p q) 21 = v := by
        have h1 : ¬ v < fst (nF N L x y p q) 21 := fun w => by
          have := fst_no (p := nF N L x y p q) w
          unfold nF at this
          rw [decide_eq_true z] at this; cases this
        omega
      rw [if_neg (by rw [dO_4 hN]; exact fun w => w z)]
      unfold nV
      rw [hf, if_pos hv]
      exact ⟨s3, rfl, hc3⟩
    · right
      rw [if_pos (by rw [dO_4 hN]; exact z), nI_1]
      refine ⟨s3, ⟨hc3, hB3, ?_⟩, rfl⟩
      by_cases w : fst (nF N L x y p q) 21 = v
      · have := fst_yes (p := nF N L x y p q) (n := 21) (by omega)
        rw [w] at this
        exact absurd (of_decide_eq_true this) z
      · omega
  · intro s ⟨g1, g2, g3⟩ J
    show ∃ τ, mX10_needs_36 (bs (Op L)) (nI x) (nI y) J (nI 21) s = some (_, τ) ∧ _
    unfold mX10_needs_36 nV
    rw [if_pos (show (20 : Int32) < nI 21 by decide), if_neg (by omega)]
    exact ⟨s, rfl, g1⟩
theorem core_pp {σ : St} {o k : Nat} {v w : Int32} : core (pI (pI σ o k v) o k w) = core (pI σ o k w) := by
  unfold core
  refine Prod.ext (funext fun o' => funext fun k' => ?_) rfl
  show (if keI o' k' then gI (pI (pI σ o k v) o k w) o' k' else 0) = if keI o' k' then gI (pI σ o k w) o' k' else 0
  rw [gI_pI, gI_pI, gI_pI]
  by_cases z : o' = o ∧ k' = k
  · rw [if_pos z, if_pos z]
  · rw [if_neg z, if_neg z, if_neg z]
theorem core_pc {σ τ : St} {o k : Nat} {v : Int32} (h : core σ = core τ) : core (pI σ o k v) = core (pI τ o k v) := by
  unfold core
  refine Prod.ext (funext fun o' => funext fun k' => ?_) (Prod.ext (funext fun a => funext fun i => ?_) (funext fun a => funext fun i => ?_))
  · show (if keI o' k' then gI (pI σ o k v) o' k' else 0) = if keI o' k' then gI (pI τ o k v) o' k' else 0
    rw [gI_pI, gI_pI]
    by_cases z : o' = o ∧ k' = k
    · rw [if_pos z, if_pos z]
    · rw [if_neg z, if_neg z]
      by_cases e : keI o' k' = true
      · rw [if_pos e, if_pos e, core_I h _ _ e]
      · rw [if_neg e, if_neg e]
  · show (if keA a then gA σ a i else 0) = if keA a then gA τ a i else 0
    by_cases e : keA a = true
    · rw [if_pos e, if_pos e, core_A h _ _ e]
    · rw [if_neg e, if_neg e]
  · show (if keL a then gL σ a i else 0) = if keL a then gL τ a i else 0
    by_cases e : keL a = true
    · rw [if_pos e, if_pos e, core_L h _ _ e]
    · rw [if_neg e, if_neg e]
theorem up_up {L : Ld} {k : Nat} {v w : Int32} : up (up L k v) k w = up L k w := by
  refine Prod.ext rfl (Prod.ext rfl (funext fun j => ?_))
  show (if j = k then w else if j = k then v else L.2.2 j) = if j = k then w else L.2.2 j
  by_cases e : j = k
  · rw [if_pos e, if_pos e]
  · rw [if_neg e, if_neg e, if_neg e]
/-- s is σ but for farthest, which is v -/
theorem lm_far {σ s : St} {v w : Int32} (hw : ls (lm σ) 4 = w) (h : core (pI s 45 4 w) = core σ) (hv : gI s 45 4 = v) : lm s = up (lm σ) 4 v ∧ Om s = Om σ := by
  have h1 : lm (pI s 45 4 w) = lm σ := lm_core h
  rw [lm_pI (by omega)] at h1
  have h2 : lm s = up (lm σ) 4 v := by
    rw [← h1, up_up, up_self]
    rw [← lm_s (by omega), hv]
  refine ⟨h2, ?_⟩
  have h3 := Om_core h
  rw [← h3]
  exact (Om_pI (Or.inr rfl)).symm
theorem needs_m {N x y p q : Nat} {L : Ld} {w : Int32} {σ s0 : St} (hN : N = 1296) (hx : x < 36) (hy : y < 36) (hp : p < 36) (hq : q < 36) (e5 : ls L 5 = nI p) (e6 : ls L 6 = nI q) (hL : lm σ = L) (hw : ls L 4 = w) (hO : ∀ c, c < 36 → Om σ c = Op L c) (h0 : core (pI s0 45 4 w) = core σ) (hv0 : gI s0 45 4 = 0) : ∃ τ, (lp (fun _ _ => none) (mX11_needs_35 w (nI x) (nI y)) 2000) (-4 : Int32) s0 = some (nV N L x y p q, τ) ∧ core τ = core σ := by
  have hf21 := fst_le (p := nF N L x y p q) 21
  refine lp_wf (app := fun (x : Int32 × Nat × St) (J : Int32 → St → Option (Int32 × St)) => J x.1 x.2.2) (m := fun x => 23 - x.2.1) (P := fun z => gI z.2.2 45 4 = nI z.2.1 ∧ core (pI z.2.2 45 4 w) = core σ ∧ z.2.1 ≤ 22 ∧ ((z.1 = -4 ∧ z.2.1 ≤ 21 ∧ z.2.1 ≤ fst (nF N L x y p q) 21) ∨ (0 ≤ z.1 ∧ z.1 = nV N L x y p q))) (Q := fun r => ∃ τ, r = some (nV N L x y p q, τ) ∧ core τ = core σ) ?_ 2000 (-4, 0, s0) ⟨hv0, h0, by show 0 ≤ 22; omega, Or.inl ⟨rfl, by show 0 ≤ 21; omega, Nat.zero_le _⟩⟩ (by show 23 - 0 < 2000; omega)
  rintro ⟨y6, v, s⟩ ⟨g1, g2, g3, g4⟩ J
  simp only at g1 g2 g3 g4
  show (∃ τ, mX11_needs_35 w (nI x) (nI y) J y6 s = some (_, τ) ∧ _) ∨ _
  unfold mX11_needs_35 mX11_needs_67
  simp only [kl_e, g1]
  have hex : ∀ r, r = nV N L x y p q → ∃ τ, mX11_needs_82 w r s = some (nV N L x y p q, τ) ∧ core τ = core σ := fun r hr => by
    unfold mX11_needs_82
    rw [kl_e, hr]
    exact ⟨_, rfl, g2⟩
  rcases g4 with ⟨h1, h2, h3⟩ | ⟨h1, h2⟩
  · by_cases hv : v = 21
    · left
      rw [if_pos (show (20 : Int32) < nI v by rw [hv]; decide)]
      refine hex y6 ?_
      unfold nV
      rw [h1, if_neg (by omega)]
    · obtain ⟨hls, hOs⟩ := lm_far (σ := σ) (by rw [hL]; exact hw) g2 g1
      rw [hL] at hls
      have hP1 : ∀ a b, a < 36 → b < 36 → Pm s a b = Pr (Op L) L (ls L 3) (nI v) a b := fun a b ha hb => by
        unfold Pm
        rw [hls, ls_up, ls_up, if_neg (by omega), if_pos rfl, Pr_up, hOs]
        exact Pr_eq hO ha hb
      obtain ⟨s2, b1, b2', _⟩ := seeDays_m (σ := s) hN hp hq hx hy (by rw [hls, ls_up, if_neg (by omega), e5]) (by rw [hls, ls_up, if_neg (by omega), e6])
      have hD' : Dx N A2 (fl2 (Pm s)) (36 * x + y) (36 * p + q) = Dx N A2 (fl2 (Pr (Op L) L (ls L 3) (nI v))) (36 * x + y) (36 * p + q) := Dx_eqP (fl2_eqP hN hP1) (by omega)
      have hg2 : gI s2 45 4 = nI v := by rw [Fx_I b2' (by simp), g1]
      have hc2 : ∀ u, core (pI (pI s2 45 4 u) 45 4 w) = core σ := fun u => by
        rw [core_pp, core_pc (core_FQ b2'), g2]
      right
      rw [if_neg (show ¬ (20 : Int32) < nI v from nI_nlt (b := v) (a := 20) (by omega) (by omega)), h1, if_neg (by decide), b1, cl2_e, hD']
      simp only [hg2, nI_1]
      by_cases z : Dx N A2 (fl2 (Pr (Op L) L (ls L 3) (nI v))) (36 * x + y) (36 * p + q) < N
      · have hf : fst (nF N L x y p q) 21 = v := by
          have h1 : ¬ v < fst (nF N L x y p q) 21 := fun w => by
            have := fst_no (p := nF N L x y p q) w
            unfold nF at this
            rw [decide_eq_true z] at this; cases this
          omega
        rw [if_neg (by rw [dO_neg hN]; exact fun w => w z)]
        refine ⟨(nI v, v + 1, pI s2 45 4 (nI (v + 1))), ⟨gI_pI_eq, hc2 _, by show v + 1 ≤ 22; omega, Or.inr ⟨nI_pos' (by omega), ?_⟩⟩, by show 23 - (v + 1) < 23 - v; omega, rfl⟩
        unfold nV
        rw [hf, if_pos (by omega)]
      · rw [if_pos (by rw [dO_neg hN]; exact z)]
        refine ⟨(-4, v + 1, pI s2 45 4 (nI (v + 1))), ⟨gI_pI_eq, hc2 _, by show v + 1 ≤ 22; omega, Or.inl ⟨rfl, by show v + 1 ≤ 21; omega, ?_⟩⟩, by show 23 - (v + 1) < 23 - v; omega, rfl⟩
        show v + 1 ≤ fst (nF N L x y p q) 21
        by_cases w : fst (nF N L x y p q) 21 = v
        · have := fst_yes (p := nF N L x y p q) (n := 21) (by omega)
          rw [w] at this
          exact absurd (of_decide_eq_true this) z
        · omega
  · left
    by_cases hv : (20 : Int32) < nI v
    · rw [if_pos hv]; exact hex y6 h2
    · rw [if_neg hv, if_pos h1]; exact hex y6 h2
theorem s_needs : stp232 Inv mX10_needs mX11_needs := by
  intro σ a b hI
  obtain ⟨N, hN⟩ : ∃ N : Nat, N = 1296 := ⟨1296, rfl⟩
  rcases see_or hI a b with ⟨v, v1, v2, v3, v4⟩ | ⟨x, y, p, q, hx, hy, rfl, rfl, hp, hq, e5, e6, v3, v4⟩
  · refine ag (f := mX10_needs a b) (g := mX11_needs a b) (v := v) (ρ := σ) (τ := pI σ 45 16 0) ?_ ?_ c16 hI
    · unfold mX10_needs
      rw [v3, cl2_e, if_neg v1]
    · unfold mX11_needs
      rw [kl_e, v4 _ (by rw [lm_16, hI.1]), cl2_e, if_neg v2, v4 _ (by rw [lm_16, hI.1]), cl2_e]
  · obtain ⟨s0, s1, s2, s3, s4, s5⟩ := lay_c σ
    have hc0 := core_FB s5
    obtain ⟨τ, t1, t2⟩ := needs_c (N := N) (L := ld σ 1) hN hx hy hp hq e5 e6 (ld_core hc0) s2
    have hc : core τ = core σ := by rw [t2, hc0]
    have hcp : core (pI τ 45 16 0) = core σ := by rw [c16, hc]
    have hl : lm (pI τ 45 16 0) = ld σ 1 := by rw [lm_core hcp, hI.1]
    have g4 : gI (pI τ 45 16 0) 45 4 = ls (ld σ 1) 4 := by rw [lm_s (by omega), hl]
    obtain ⟨ρ, r1, r2⟩ := needs_m (N := N) (L := ld σ 1) (σ := pI τ 45 16 0) (s0 := pI (pI τ 45 16 0) 45 4 0) (w := ls (ld σ 1) 4) hN hx hy hp hq e5 e6 hl rfl (fun c hc' => by rw [Om_core hcp, Inv_Om hI hc']) (by rw [← g4, pI_back]) gI_pI_eq
    refine ag (f := mX10_needs (nI x) (nI y)) (g := mX11_needs (nI x) (nI y)) (v := nV N (ld σ 1) x y p q) (ρ := τ) (τ := ρ) ?_ ?_ (by rw [r2, hcp]) hI
    · unfold mX10_needs
      rw [v3, cl2_e, if_pos rfl, s1, cl1_e, openCells_c, cl2_e, ld_core hc0, kl_e, t1]
    · unfold mX11_needs
      rw [kl_e, v4 _ hl, cl2_e, if_pos (by decide), kl_e, g4, kl_e, kl_e, r1]
/-! way -/
/-- a pair by ways w that stands m days off -/
def cdW (D : Nat → Nat) (m cur w : Nat) : Option Nat := match nbo (cur / 36) (w / 5), nbo (cur % 36) (w % 5) with
  | some a, some b => if D (36 * a + b) = m then some (36 * a + b) else none
  | _, _ => none
def wyS (D : Nat → Nat) (m cur : Nat) : Nat := (mnO (cdW D m cur) 25).getD 0
theorem cdW_is {D : Nat → Nat} {m cur w k : Nat} (h : cdW D m cur w = some k) (hc : cur < 1296) (hw : w < 25) : k < 1296 ∧ D k = m := by
  unfold cdW at h
  cases e1 : nbo (cur / 36) (w / 5) with
  | none => rw [e1] at h; cases h
  | some a =>
    have ha := nbo_lt' (by omega) (by omega) e1
    cases e2 : nbo (cur % 36) (w % 5) with
    | none => rw [e1, e2] at h; cases h
    | some b =>
      have hb := nbo_lt' (by omega) (by omega) e2
      rw [e1, e2] at h
      simp only at h
      by_cases z : D (36 * a + b) = m
      · rw [if_pos z] at h; cases h; exact ⟨by omega, z⟩
      · rw [if_neg z] at h; cases h
theorem cdW_some {D : Nat → Nat} {m cur k : Nat} (hA : A2 cur k = true) (hD : D k = m) : ∃ w, w < 25 ∧ cdW D m cur w = some k := by
  unfold A2 at hA
  rw [Bool.and_eq_true] at hA
  obtain ⟨d1, h1, e1⟩ := adj_iff.1 hA.1
  obtain ⟨d2, h2, e2⟩ := adj_iff.1 hA.2
  refine ⟨5 * d1 + d2, by omega, ?_⟩
  unfold cdW
  rw [show (5 * d1 + d2) / 5 = d1 by omega, show (5 * d1 + d2) % 5 = d2 by omega, e1, e2]
  show (if D (36 * (k / 36) + k % 36) = m then some (36 * (k / 36) + k % 36) else none) = some k
  rw [show 36 * (k / 36) + k % 36 = k by omega, if_pos hD]
theorem wyS_is {D : Nat → Nat} {m cur k : Nat} (hc : cur < 1296) (hA : A2 cur k = true) (hD : D k = m) : mnO (cdW D m cur) 25 = some (wyS D m cur) ∧ wyS D m cur < 1296 ∧ D (wyS D m cur) = m := by
  rcases mnO_spec (cdW D m cur) 25 with ⟨e, h⟩ | ⟨v, e, ⟨i, hi, h1⟩, _⟩
  · obtain ⟨w, hw, h2⟩ := cdW_some hA hD
    rw [h w hw] at h2; cases h2
  · have := cdW_is h1 hc hi
    unfold wyS
    rw [e]
    exact ⟨rfl, this.1, this.2⟩
def c100 (k : Nat) : Int32 := nI (100 * (k / 36) + k % 36)
def o100 : Option Nat → Int32
  | none => -4
  | some k => c100 k
theorem c100_le {j k : Nat} (hj : j < 1296) (hk : k < 1296) : (c100 j ≤ c100 k) = (j ≤ k) := by
  unfold c100
  apply propext
  rw [nI_leI (by omega) (by omega)]
  omega
theorem c100_n4 {k : Nat} (h : k < 1296) : ¬ c100 k = -4 := by
  intro z
  have := nI_pos (n := 100 * (k / 36) + k % 36) (by omega)
  unfold c100 at z
  rw [z] at this
  exact this (by decide)
theorem mnO_s {f : Nat → Option Nat} {n : Nat} : mnO f (n + 1) = match mnO f n, f n with
    | none, y => y
    | some a, none => some a
    | some a, some b => some (if a ≤ b then a else b) := rfl
theorem mnO_in {f : Nat → Option Nat} {n v : Nat} (h : mnO f n = some v) : ∃ i, i < n ∧ f i = some v := by
  rcases mnO_spec f n with ⟨e, _⟩ | ⟨w, e, h1, _⟩
  · rw [e] at h; cases h
  · rw [e] at h; cases h; exact h1
theorem daysLeft_c {a b : Nat} (ha : a < 36) (hb : b < 36) (s : St) : mX0_daysLeft (nI a) (nI b) s = some (gA s 35 (36 * a + b), s) := by
  unfold mX0_daysLeft
  rw [cell_c ha, cl2_e, if_neg n10, cell_c hb, cl2_e, if_neg n10, ix36, ldA_12 (by omega)]
theorem daysLeft_n {a b : Int32} (h : inR a 0 35 = false ∨ inR b 0 35 = false) (s : St) : mX0_daysLeft a b s = some (-4, s) := by
  unfold mX0_daysLeft
  rcases cell_or a with ha | ⟨x, hx, rfl⟩
  · rw [ncell_c ha, cl2_e, if_pos rfl]
  · rw [cell_c hx, cl2_e, if_neg n10]
    rcases h with h | h
    · rw [show (35 : Int32) = nI 35 from rfl, (inR_n (by omega)).2 ⟨x, hx, rfl⟩] at h; cases h
    · rw [ncell_c h, cl2_e, if_pos rfl]
theorem nextPair_c {D : Nat → Nat} {n0 m cur : Nat} {s : St} (hc : cur < 1296) (hm : m + 1 ≤ n0) (hn0 : n0 < 1296) (hd : ∀ k, k < 1296 → gA s 35 k = if D k ≤ n0 then nI (D k) else -4) (hD : D cur = m + 1) : mX0_nextPair (nI (cur / 36)) (nI (cur % 36)) s = some (o100 (mnO (cdW D m cur) 25), s) := by
  unfold mX0_nextPair
  rw [daysLeft_c (by omega) (by omega), cl2_e, kl_e, kl_e, hd _ (by omega), show 36 * (cur / 36) + cur % 36 = cur by omega, hD, if_pos hm, nI_pred]
  refine lp_for (app := fun i (J : Int32 → Int32 → St → Option (Int32 × St)) => J (o100 (mnO (cdW D m cur) (5 * i))) (nI i) s) 5 _ ?_ ?_ 2000 (by omega)
  · intro i hi J
    unfold mX0_nextPair_16
    rw [if_neg (lt5 hi), kl_e]
    refine lp_for (app := fun j (J' : Int32 → Int32 → St → Option (Int32 × St)) => J' (o100 (mnO (cdW D m cur) (5 * i + j))) (nI j) s) 5 _ ?_ ?_ 2000 (by omega)
    · intro j hj J'
      unfold mX0_nextPair_25 mX0_nextPair_91 mX0_nextPair_87
      rw [if_neg (lt5 hj), cellTo_c (by omega) hi, cl2_e, cellTo_c (by omega) hj, cl2_e, kl_e]
      simp only [kl_e, nI_1]
      rw [if_neg (nI_pos (show m < 2 ^ 31 by omega))]
      have hS : mnO (cdW D m cur) (5 * i + (j + 1)) = match mnO (cdW D m cur) (5 * i + j), cdW D m cur (5 * i + j) with
        | none, y => y
        | some a, none => some a
        | some a, some b => some (if a ≤ b then a else b) := mnO_s
      have hcd : cdW D m cur (5 * i + j) = match nbo (cur / 36) i, nbo (cur % 36) j with
        | some a, some b => if D (36 * a + b) = m then some (36 * a + b) else none
        | _, _ => none := by
        unfold cdW
        rw [show (5 * i + j) / 5 = i by omega, show (5 * i + j) % 5 = j by omega]
      have no : cdW D m cur (5 * i + j) = none → J' (o100 (mnO (cdW D m cur) (5 * i + j))) (nI (j + 1)) s = J' (o100 (mnO (cdW D m cur) (5 * i + (j + 1)))) (nI (j + 1)) s := fun h => by
        rw [hS, h]
        cases mnO (cdW D m cur) (5 * i + j) <;> rfl
      cases e1 : nbo (cur / 36) i with
      | none =>
        rw [daysLeft_n (Or.inl (show inR (oi none) 0 35 = false by decide)), cl2_e, if_neg (show ¬ (-4 : Int32) = nI m from fun z => by
          have := nI_pos (n := m) (by omega)
          rw [← z] at this
          exact this (by decide))]
        exact no (by rw [hcd, e1])
      | some a =>
        have ha := nbo_lt' (by omega) hi e1
        cases e2 : nbo (cur % 36) j with
        | none =>
          rw [daysLeft_n (Or.inr (show inR (oi none) 0 35 = false by decide)), cl2_e, if_neg (show ¬ (-4 : Int32) = nI m from fun z => by
            have := nI_pos (n := m) (by omega)
            rw [← z] at this
            exact this (by decide))]
          exact no (by rw [hcd, e1, e2])
        | some b =>
          have hb := nbo_lt' (by omega) hj e2
          have hk : 36 * a + b < 1296 := by omega
          rw [show oi (some a) = nI a from rfl, show oi (some b) = nI b from rfl, daysLeft_c ha hb, cl2_e, hd _ hk]
          have hcd2 : cdW D m cur (5 * i + j) = if D (36 * a + b) = m then some (36 * a + b) else none := by rw [hcd, e1, e2]
          by_cases z : D (36 * a + b) = m
          · rw [if_pos (show D (36 * a + b) ≤ n0 by omega), if_pos (by rw [z])]
            rw [if_pos z] at hcd2
            have hcode : (100 : Int32) * nI a + nI b = c100 (36 * a + b) := by
              unfold c100
              rw [show (36 * a + b) / 36 = a by omega, show (36 * a + b) % 36 = b by omega]
              exact ix_m
            rw [hcode, hS, hcd2]
            cases y : mnO (cdW D m cur) (5 * i + j) with
            | none => rw [if_pos (show o100 none = -4 from rfl)]; rfl
            | some c =>
              obtain ⟨w, hw, hw2⟩ := mnO_in y
              have hc2 := (cdW_is hw2 hc (by omega)).1
              rw [if_neg (show ¬ o100 (some c) = -4 from c100_n4 hc2)]
              show _ = J' (o100 (some (if c ≤ 36 * a + b then c else 36 * a + b))) (nI (j + 1)) s
              by_cases k : c ≤ 36 * a + b
              · rw [if_pos (show o100 (some c) ≤ c100 (36 * a + b) by show c100 c ≤ _; rw [c100_le hc2 hk]; exact k), if_pos k]
              · rw [if_neg (show ¬ o100 (some c) ≤ c100 (36 * a + b) by show ¬ c100 c ≤ _; rw [c100_le hc2 hk]; exact k), if_neg k]
                rfl
          · rw [if_neg z] at hcd2
            rw [if_neg (show ¬ (if D (36 * a + b) ≤ n0 then nI (D (36 * a + b)) else -4) = nI m from fun w => by
              by_cases u : D (36 * a + b) ≤ n0
              · rw [if_pos u, nI_eq (by omega) (by omega)] at w
                exact z w
              · rw [if_neg u] at w
                have := nI_pos (n := m) (by omega)
                rw [← w] at this
                exact this (by decide))]
            exact no hcd2
    · intro J'
      unfold mX0_nextPair_25
      rw [if_pos at5, nI_1, show 5 * (i + 1) = 5 * i + 5 by omega]
  · intro J
    unfold mX0_nextPair_16
    rw [if_pos at5]
