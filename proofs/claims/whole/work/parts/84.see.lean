/-! ===== PURE: see, within, hinders, needs ===== -/
theorem see_or {σ : St} (hI : Inv σ) (a b : Int32) : (∃ v : Int32, ¬ v = 0 ∧ ¬ 0 ≤ v ∧ mX10_refusalToSee a b σ = some (v, σ) ∧ ∀ τ, lm τ = ld σ 1 → mX11_wrongTwo a b τ = some (v, τ)) ∨ ∃ x y p q, x < 36 ∧ y < 36 ∧ a = nI x ∧ b = nI y ∧ p < 36 ∧ q < 36 ∧ ls (ld σ 1) 5 = nI p ∧ ls (ld σ 1) 6 = nI q ∧ mX10_refusalToSee a b σ = some (0, σ) ∧ ∀ τ, lm τ = ld σ 1 → mX11_wrongTwo a b τ = some (0, τ) := by
  unfold mX10_refusalToSee mX11_wrongTwo mX11_wrongTwo_16
  rcases cell_or a with ha | ⟨x, hx, rfl⟩
  · left
    exact ⟨-1, by decide, by decide, by rw [ncell_c ha, cl2_e, if_pos rfl], fun τ _ => by rw [ncell_m ha, cl2_e, kl_e, if_pos rfl]⟩
  rcases cell_or b with hb | ⟨y, hy, rfl⟩
  · left
    exact ⟨-1, by decide, by decide, by rw [cell_c hx, cl2_e, if_neg n10, ncell_c hb, cl2_e, if_pos rfl], fun τ _ => by rw [cell_m hx, cl2_e, kl_e, if_neg n10, ncell_m hb, cl2_e, if_pos rfl]⟩
  rcases both_or hI with ⟨y1, y2⟩ | ⟨p, q, hp, hq, e5, e6, y1, y2⟩
  · left
    exact ⟨-3, by decide, by decide, by rw [cell_c hx, cl2_e, if_neg n10, cell_c hy, cl2_e, if_neg n10, y1, cl2_e, if_pos rfl], fun τ ht => by rw [cell_m hx, cl2_e, kl_e, if_neg n10, cell_m hy, cl2_e, if_neg n10, y2 τ ht, cl2_e, if_pos rfl]⟩
  · right
    exact ⟨x, y, p, q, hx, hy, rfl, rfl, hp, hq, e5, e6, by rw [cell_c hx, cl2_e, if_neg n10, cell_c hy, cl2_e, if_neg n10, y1, cl2_e, if_neg n10], fun τ ht => by rw [cell_m hx, cl2_e, kl_e, if_neg n10, cell_m hy, cl2_e, if_neg n10, y2 τ ht, cl2_e, if_neg n10]⟩
theorem seeDays_m {N p q a b : Nat} {σ : St} (hN : N = 1296) (hp : p < 36) (hq : q < 36) (ha : a < 36) (hb : b < 36) (e5 : ls (lm σ) 5 = nI p) (e6 : ls (lm σ) 6 = nI q) : ∃ τ, mX11_seeDays (nI a) (nI b) σ = some (dO N (Dx N A2 (fl2 (Pm σ)) (36 * a + b) (36 * p + q)), τ) ∧ FQ σ τ ∧ ∀ k, k < N → gA τ 60 k = dV N (Dx N A2 (fl2 (Pm σ)) (36 * a + b) k) := by
  obtain ⟨τ, t1, t2, t3⟩ := layDays_m (σ := σ) hN ha hb
  have hc := core_FQ t3
  refine ⟨τ, ?_, t3, t2⟩
  unfold mX11_seeDays mX11_seeDays_44
  have s5 : gI τ 45 5 = nI p := by rw [lm_s (by omega), lm_core hc, e5]
  have s6 : gI τ 45 6 = nI q := by rw [lm_s (by omega), lm_core hc, e6]
  rw [t1, cl1_e]
  simp only [kl_e, s5, s6]
  rw [isPair_m hp hq, cl2_e, Pm_core hc, s5, s6, ix36', ldA_12 (by omega), t2 _ (by omega)]
  cases y : Pm σ p q
  · rw [b2_f, if_pos rfl, Dx_nP (by rw [fl2_at hq]; exact y)]
    unfold dO
    rw [if_neg (Nat.lt_irrefl _), if_pos (by decide)]
  · rw [b2_t, if_neg n10]
    unfold dO dV
    by_cases z : Dx N A2 (fl2 (Pm σ)) (36 * a + b) (36 * p + q) < N
    · rw [if_pos z, if_pos z, if_neg (show ¬ (9999 : Int32) ≤ nI (Dx N A2 (fl2 (Pm σ)) (36 * a + b) (36 * p + q)) from nI_ge (b := 9999) (by omega) (by omega))]
    · rw [if_neg z, if_neg z, if_pos (Int32.le_refl _)]
theorem Dx_eqP {N : Nat} {A : Nat → Nat → Bool} {P Q : Nat → Bool} {src : Nat} (h : ∀ k, k < N → P k = Q k) {k : Nat} (hk : k < N) : Dx N A P src k = Dx N A Q src k := by
  have : ∀ n k, k < N → Sx N A P src n k = Sx N A Q src n k := by
    intro n
    induction n with
    | zero => intro k hk; show (decide (k = src) && P k) = (decide (k = src) && Q k); rw [h k hk]
    | succ n ih =>
      intro k hk
      rw [Sx_s, Sx_s, h k hk, anyN_eq N (fun c hc => by rw [ih c hc])]
  exact fst_eq N (fun n _ => this n k hk)
theorem dO_neg {N d : Nat} (hN : N = 1296) : (dO N d < 0) = ¬ d < N := by
  apply propext
  unfold dO
  by_cases z : d < N
  · rw [if_pos z]
    exact ⟨fun w => absurd w (nI_pos (by omega)), fun w => absurd z w⟩
  · rw [if_neg z]
    exact ⟨fun _ => z, fun _ => by decide⟩
theorem dO_4 {N d : Nat} (hN : N = 1296) : (dO N d = -4) = ¬ d < N := by
  apply propext
  unfold dO
  by_cases z : d < N
  · rw [if_pos z]
    exact ⟨fun w => by
      have := nI_pos (n := d) (by omega)
      rw [w] at this
      exact absurd (by decide) this, fun w => absurd z w⟩
  · rw [if_neg z]
    exact ⟨fun _ => z, fun _ => rfl⟩
theorem fl2_eqP {N : Nat} {P Q : Nat → Nat → Bool} (hN : N = 1296) (h : ∀ a b, a < 36 → b < 36 → P a b = Q a b) : ∀ k, k < N → fl2 P k = fl2 Q k := fun k hk => fl2_eq h (by omega)
theorem s_see : stp232 Inv mX10_see mX11_see := by
  intro σ a b hI
  obtain ⟨N, hN⟩ : ∃ N : Nat, N = 1296 := ⟨1296, rfl⟩
  rcases see_or hI a b with ⟨v, v1, v2, v3, v4⟩ | ⟨x, y, p, q, hx, hy, rfl, rfl, hp, hq, e5, e6, v3, v4⟩
  · refine ag (f := mX10_see a b) (g := mX11_see a b) (v := v) (ρ := σ) (τ := pI σ 45 16 0) ?_ ?_ c16 hI
    · unfold mX10_see
      rw [v3, cl2_e, if_neg v1]
    · unfold mX11_see
      rw [kl_e, v4 _ (by rw [lm_16, hI.1]), cl2_e, if_neg v2, v4 _ (by rw [lm_16, hI.1]), cl2_e]
  · obtain ⟨s0, s1, s2, s3, s4, s5⟩ := lay_c σ
    have hc0 := core_FB s5
    obtain ⟨τ, t1, t2, _⟩ := daysBetween_c hN hp hq hx hy s4
    have hc : core τ = core σ := by rw [core_FL t2, hc0]
    have hcp : core (pI τ 45 16 0) = core σ := by rw [c16, hc]
    have hl : lm (pI τ 45 16 0) = ld σ 1 := by rw [lm_core hcp, hI.1]
    obtain ⟨ρ, r1, r2, _⟩ := seeDays_m (σ := pI τ 45 16 0) hN hp hq hx hy (by rw [hl, e5]) (by rw [hl, e6])
    have hP : ∀ x y, x < 36 → y < 36 → Pm (pI τ 45 16 0) x y = PrL (ld σ 1) x y := fun x y hx hy => by rw [Pm_core hcp, Pm_Inv hI hx hy]
    refine ag (f := mX10_see (nI x) (nI y)) (g := mX11_see (nI x) (nI y)) (v := dO N (Dx N A2 (fl2 (PrL (ld σ 1))) (36 * x + y) (36 * p + q))) (ρ := τ) (τ := ρ) ?_ ?_ (by rw [core_FQ r2, hcp]) hI
    · unfold mX10_see
      rw [v3, cl2_e, if_pos rfl, s1, cl1_e, kl_e, kl_e, ld_s (k := 5) (by omega), ld_s (k := 6) (by omega), ld_core hc0, e5, e6, t1, cl2_e]
    · unfold mX11_see
      rw [kl_e, v4 _ hl, cl2_e, if_pos (by decide), r1, cl2_e, Dx_eqP (fl2_eqP hN hP) (by omega)]
/-! within -/
theorem within_c {N p q n : Nat} {P : Nat → Nat → Bool} {σ : St} (hN : N = 1296) (hn : n ≤ 40) (hp : p < 36) (hq : q < 36) (hP : Bfit P σ) : ∃ τ, mX0_pairsWithin (nI p) (nI q) (nI n) σ = some (nI (cnt (Sx N A2 (fl2 P) (36 * p + q) n) 1296), τ) ∧ FL σ τ := by
  have hr : ∀ k, k < N → A2 k k = true := fun k hk => A2_r (by omega)
  obtain ⟨s0, t1, t2, t3⟩ := start_c2 hN hp hq hP
  have bits : ∀ i s, LY N P (36 * p + q) i s → (∀ k, k < N → Sx N A2 (fl2 P) (36 * p + q) i k = Sx N A2 (fl2 P) (36 * p + q) n k) → mX0_bitsOf 33 s = some (nI (cnt (Sx N A2 (fl2 P) (36 * p + q) n) 1296), s) := fun i s h1 h2 => by
    rw [bitsOf_c (P := fun h e => Sx N A2 (fl2 P) (36 * p + q) i (36 * h + e)) rfl h1.1]
    refine congrArg (fun x => some (nI x, s)) (cnt_eq 1296 (fun k hk => ?_))
    show Sx N A2 (fl2 P) (36 * p + q) i (36 * (k / 36) + k % 36) = _
    rw [show 36 * (k / 36) + k % 36 = k by omega, h2 k (by omega)]
  unfold mX0_pairsWithin
  rw [t1, cl1_e, kl_e]
  refine lp_rx (bot := fun (_ : Int32) (_ : St) => (none : Option (Int32 × St))) (app := fun i (s : St) (J : Int32 → St → Option (Int32 × St)) => J (nI (i + 1)) s) (P := fun i s => LY N P (36 * p + q) i s ∧ FL σ s) n (Q := fun r => ∃ τ, r = some (nI (cnt (Sx N A2 (fl2 P) (36 * p + q) n) 1296), τ) ∧ FL σ τ) ?_ ?_ 2000 0 s0 (by omega) (by omega) ⟨t2, t3⟩
  · intro i s hi ⟨g1, g2⟩ J
    show (∃ τ, mX0_pairsWithin_9 (nI n) J (nI (i + 1)) s = some (_, τ) ∧ _) ∨ ∃ x', _ ∧ mX0_pairsWithin_9 (nI n) J (nI (i + 1)) s = J (nI (i + 1 + 1)) x'
    unfold mX0_pairsWithin_9
    obtain ⟨τ, u1, u2, u3⟩ := spread_c2 hN (show i < N by omega) hP g1 g2
    rw [if_neg (nI_nlt (show i + 1 ≤ n by omega) (by omega)), u1, cl2_e]
    cases w : anyN (fun k => Sf N P (36 * p + q) i k) N
    · left
      have hst : ∀ k, k < N → Sx N A2 (fl2 P) (36 * p + q) (i + 1) k = Sx N A2 (fl2 P) (36 * p + q) i k := fun k hk => by
        rw [Sx_Sf hN hk, anyN_f.1 w k hk, Bool.or_false]
      rw [b2_f, if_pos rfl, bits (i + 1) τ u2 (fun k hk => by
        have h1 := Sx_st hst 1 k hk
        have h2 := Sx_st hst (n - i) k hk
        rw [show i + (n - i) = n by omega] at h2
        rw [h1, h2]), cl2_e]
      exact ⟨τ, rfl, u3⟩
    · right
      rw [b2_t, if_neg n10, nI_1]
      exact ⟨τ, ⟨u2, u3⟩, rfl⟩
  · intro s ⟨g1, g2⟩ J
    show ∃ τ, mX0_pairsWithin_9 (nI n) J (nI (n + 1)) s = some (_, τ) ∧ _
    unfold mX0_pairsWithin_9
    rw [if_pos (nI_lt (by omega) (by omega)), bits n s g1 (fun _ _ => rfl), cl2_e]
    exact ⟨s, rfl, g2⟩
theorem s_within : stp132 Inv mX10_within mX11_within := by
  intro σ a hI
  obtain ⟨N, hN⟩ : ∃ N : Nat, N = 1296 := ⟨1296, rfl⟩
  have hr : ∀ k, k < N → A2 k k = true := fun k hk => A2_r (by omega)
  have j40 : ∀ τ, mX11_in a.toInt64 (0 : Int64) (40 : Int64) τ = some (b2 (inR a 0 40), τ) := fun τ => in_m a 0 40 τ
  by_cases a1 : a < 0
  · have h : inR a 0 40 = false := by unfold inR; rw [decide_eq_false (Int32.not_le.2 a1)]; rfl
    refine ag (f := mX10_within a) (g := mX11_within a) (v := -1) (ρ := σ) (τ := pI σ 45 16 0) ?_ ?_ c16 hI
    · unfold mX10_within; rw [if_pos a1]
    · unfold mX11_within; rw [kl_e, j40, h, cl2_e, b2_f, if_pos rfl]
  by_cases a2 : a ≤ 40
  · obtain ⟨n, hn, rfl⟩ := nI_of2 (M := 40) (n := 40) rfl a1 a2
    have h : inR (nI n) 0 40 = true := by unfold inR; rw [decide_eq_true (Int32.not_lt.1 a1), decide_eq_true a2]; rfl
    rcases both_or hI with ⟨y1, y2⟩ | ⟨p, q, hp, hq, e5, e6, y1, y2⟩
    · refine ag (f := mX10_within (nI n)) (g := mX11_within (nI n)) (v := -3) (ρ := σ) (τ := pI σ 45 16 0) ?_ ?_ c16 hI
      · unfold mX10_within; rw [if_neg a1, if_pos a2, y1, cl2_e, if_pos rfl]
      · unfold mX11_within; rw [kl_e, j40, h, cl2_e, b2_t, if_neg n10, y2 _ (by rw [lm_16, hI.1]), cl2_e, if_pos rfl]
    · obtain ⟨s0, s1, s2, s3, s4, s5⟩ := lay_c σ
      have hc0 := core_FB s5
      obtain ⟨τ, t1, t2⟩ := within_c hN hn hp hq s4
      have hc : core τ = core σ := by rw [core_FL t2, hc0]
      have hcp : core (pI τ 45 16 0) = core σ := by rw [c16, hc]
      have hl : lm (pI τ 45 16 0) = ld σ 1 := by rw [lm_core hcp, hI.1]
      obtain ⟨ρ, r1, r2, r3⟩ := layDays_m (σ := pI τ 45 16 0) hN hp hq
      have hP : ∀ x y, x < 36 → y < 36 → Pm (pI τ 45 16 0) x y = PrL (ld σ 1) x y := fun x y hx hy => by rw [Pm_core hcp, Pm_Inv hI hx hy]
      refine ag (f := mX10_within (nI n)) (g := mX11_within (nI n)) (v := nI (cnt (Sx N A2 (fl2 (PrL (ld σ 1))) (36 * p + q) n) 1296)) (ρ := τ) (τ := ρ) ?_ ?_ (by rw [core_FQ r3, hcp]) hI
      · unfold mX10_within
        rw [if_neg a1, if_pos a2, y1, cl2_e, if_neg n10, s1, cl1_e, kl_e, kl_e, ld_s (k := 5) (by omega), ld_s (k := 6) (by omega), ld_core hc0, e5, e6, t1, cl2_e]
      · unfold mX11_within
        rw [kl_e, j40, h, cl2_e, b2_t, if_neg n10, y2 _ hl, cl2_e, if_neg n10, kl_e, kl_e, lm_s (k := 5) (by omega), lm_s (k := 6) (by omega), hl, e5, e6, r1, cl1_e, kl_e]
        refine lp_for (app := fun k (J : Int32 → Int32 → St → Option (Int32 × St)) => J (nI (cnt (Sx N A2 (fl2 (PrL (ld σ 1))) (36 * p + q) n) k)) (nI k) ρ) 1296 _ ?_ ?_ 2000 (by omega)
        · intro k hk J
          unfold mX11_within_45 mX11_within_68
          have hS : cnt (Sx N A2 (fl2 (PrL (ld σ 1))) (36 * p + q) n) (k + 1) = cnt (Sx N A2 (fl2 (PrL (ld σ 1))) (36 * p + q) n) k + (Sx N A2 (fl2 (PrL (ld σ 1))) (36 * p + q) n k).toNat := rfl
          rw [if_neg (lt1296 hk), ldA_12 hk, r2 k (by omega), Dx_eqP (fl2_eqP hN hP) (by omega), hS, Dx_at hr (show k < N by omega) (show n < N by omega), kl_e]
          simp only [kl_e, nI_1]
          unfold dV
          by_cases z : Dx N A2 (fl2 (PrL (ld σ 1))) (36 * p + q) k ≤ n
          · rw [if_pos (show Dx N A2 (fl2 (PrL (ld σ 1))) (36 * p + q) k < N by omega), if_neg (nI_nlt z (by omega)), decide_eq_true z]
            rfl
          · rw [decide_eq_false z, if_pos]
            · show J (nI _ + 0) _ _ = J (nI (_ + 0)) _ _
              rw [show (0 : Int32) = nI 0 from rfl, nI_add]
            · by_cases w : Dx N A2 (fl2 (PrL (ld σ 1))) (36 * p + q) k < N
              · rw [if_pos w]; exact nI_lt (by omega) (by omega)
              · rw [if_neg w]; exact nI_lt (b := 9999) (by omega) (by omega)
        · intro J
          unfold mX11_within_45
          rw [if_pos at1296]
  · have h : inR a 0 40 = false := by unfold inR; rw [decide_eq_false a2, Bool.and_false]
    refine ag (f := mX10_within a) (g := mX11_within a) (v := -1) (ρ := σ) (τ := pI σ 45 16 0) ?_ ?_ c16 hI
    · unfold mX10_within; rw [if_neg a1, if_neg a2]
    · unfold mX11_within; rw [kl_e, j40, h, cl2_e, b2_f, if_pos rfl]
/-! hinders -/
def opn (O : Nat → Bool) (c : Nat) : Nat → Bool := fun x => O x || decide (x = c)
/-- days with c open -/
def hD (N : Nat) (L : Ld) (x y p q c : Nat) : Nat := Dx N A2 (fl2 (Pr (opn (Op L) c) L (ls L 3) (ls L 4))) (36 * x + y) (36 * p + q)
def hS (N : Nat) (L : Ld) (x y p q c : Nat) : Bool := !Op L c && decide (hD N L x y p q c < N)
def o1296 (g : Nat → Nat) : Option Nat → Int32
  | none => 1296
  | some b => nI (g b)
def o9999 (g : Nat → Nat) : Option Nat → Int32
  | none => 9999
  | some b => nI (g b)
theorem md_in {S : Nat → Bool} {g : Nat → Nat} : ∀ {i b}, md S g i = some b → S b = true
  | 0, b, h => by cases h
  | i + 1, b, h => by
    unfold md at h
    cases q : md S g i with
    | none =>
      rw [q] at h
      simp only at h
      by_cases y : S i = true
      · rw [if_pos y] at h; cases h; exact y
      · rw [if_neg y] at h; cases h
    | some c =>
      have := md_in q
      rw [q] at h
      simp only at h
      by_cases y : (S i && decide (g i < g c)) = true
      · rw [if_pos y] at h; cases h
        rw [Bool.and_eq_true] at y
        exact y.1
      · rw [if_neg y] at h; cases h; exact this
theorem md_s {S : Nat → Bool} {g : Nat → Nat} {i : Nat} : md S g (i + 1) = match md S g i with | none => if S i then some i else none | some b => if S i && decide (g i < g b) then some i else some b := rfl
theorem hin_c {N x y p q : Nat} {L : Ld} {σ : St} (hN : N = 1296) (hx : x < 36) (hy : y < 36) (hp : p < 36) (hq : q < 36) (e5 : ls L 5 = nI p) (e6 : ls L 6 = nI q) (hL : ld σ 1 = L) (hB : Bnear (Nr L (ls L 3) (ls L 4)) σ) : ∃ τ, (lp (fun _ _ _ _ => none) (mX10_hinders_76 (bs (Op L)) (nI x) (nI y)) 2000) (-4 : Int32) (1296 : Int32) (0 : Int32) σ = some (oi (md (hS N L x y p q) (hD N L x y p q) 36), τ) ∧ core τ = core σ := by
  refine lp_rel (app := fun i (s : St) (J : Int32 → Int32 → Int32 → St → Option (Int32 × St)) => J (oi (md (hS N L x y p q) (hD N L x y p q) i)) (o1296 (hD N L x y p q) (md (hS N L x y p q) (hD N L x y p q) i)) (nI i) s) (P := fun i s => core s = core σ ∧ Bnear (Nr L (ls L 3) (ls L 4)) s) 36 (Q := fun r => ∃ τ, r = some (oi (md (hS N L x y p q) (hD N L x y p q) 36), τ) ∧ core τ = core σ) ?_ ?_ 2000 (by omega) σ ⟨rfl, hB⟩
  · intro i s hi ⟨g1, g2⟩ J
    show ∃ x', _ ∧ mX10_hinders_76 (bs (Op L)) (nI x) (nI y) J _ _ (nI i) s = J _ _ (nI (i + 1)) x'
    unfold mX10_hinders_76 mX10_hinders_155
    rw [if_neg (lt36 hi), has_c hi, cl2_e, kl_e, bit_c hi, cl2_e, bs_or]
    simp only [nI_1]
    cases o : Op L i
    · obtain ⟨s1, a1, a2, a3⟩ := admit_c (O := fun j => Op L j || decide (j = i)) g2
      have hc1 : core s1 = core σ := by rw [core_Fx (fun o k e => e.elim) (fun a e => e.elim) (fun a e => by subst e; rfl) a3, g1]
      obtain ⟨s2, b1, b2', _⟩ := daysBetween_c hN hp hq hx hy a2
      have hD' : Dx N A2 (fl2 (fun a b => (Op L a || decide (a = i)) && ((Op L b || decide (b = i)) && Nr L (ls L 3) (ls L 4) a b))) (36 * x + y) (36 * p + q) = hD N L x y p q i := rfl
      rw [b2_f, if_pos rfl, a1, cl1_e, kl_e, kl_e, ld_s (k := 5) (by omega), ld_s (k := 6) (by omega), ld_core hc1, hL, e5, e6, b1, cl2_e, hD']
      have hn1 : Bnear (Nr L (ls L 3) (ls L 4)) s2 := fun a ha => by rw [Fx_L b2' (by omega), Fx_L a3 (by omega)]; exact g2 a ha
      have hc2 : core s2 = core σ := by rw [core_FL b2', hc1]
      refine ⟨s2, ⟨hc2, hn1⟩, ?_⟩
      have hSi : hS N L x y p q i = decide (hD N L x y p q i < N) := by unfold hS; rw [o]; rfl
      rw [md_s, hSi]
      by_cases z : hD N L x y p q i < N
      · rw [if_neg (by rw [dO_4 hN]; exact fun w => w z), decide_eq_true z]
        have hv : dO N (hD N L x y p q i) = nI (hD N L x y p q i) := by unfold dO; rw [if_pos z]
        rw [hv]
        cases w : md (hS N L x y p q) (hD N L x y p q) i with
        | none =>
          rw [if_neg (show ¬ o1296 (hD N L x y p q) none ≤ nI (hD N L x y p q i) from nI_ge (b := 1296) (by omega) (by omega))]
          rfl
        | some b =>
          have hb := md_in w
          unfold hS at hb
          rw [Bool.and_eq_true] at hb
          have hbN := of_decide_eq_true hb.2
          simp only [Bool.true_and]
          by_cases k : hD N L x y p q i < hD N L x y p q b
          · rw [if_neg (show ¬ o1296 (hD N L x y p q) (some b) ≤ nI (hD N L x y p q i) from nI_ge k (by omega)), decide_eq_true k]
            rfl
          · rw [if_pos (show o1296 (hD N L x y p q) (some b) ≤ nI (hD N L x y p q i) from nI_le (by omega) (by omega)), decide_eq_false k]
            rfl
      · rw [if_pos (by rw [dO_4 hN]; exact z), decide_eq_false z]
        cases md (hS N L x y p q) (hD N L x y p q) i <;> rfl
    · rw [b2_t, if_neg n10]
      have hSi : hS N L x y p q i = false := by unfold hS; rw [o]; rfl
      refine ⟨s, ⟨g1, g2⟩, ?_⟩
      rw [md_s, hSi]
      cases md (hS N L x y p q) (hD N L x y p q) i <;> rfl
  · intro s ⟨g1, g2⟩ J
    refine ⟨s, ?_, g1⟩
    show mX10_hinders_76 (bs (Op L)) (nI x) (nI y) J _ _ (nI 36) s = _
    unfold mX10_hinders_76
    rw [if_pos at36]
theorem hin_m {N x y p q : Nat} {L : Ld} {σ : St} (hN : N = 1296) (hx : x < 36) (hy : y < 36) (hp : p < 36) (hq : q < 36) (e5 : ls L 5 = nI p) (e6 : ls L 6 = nI q) (hL : lm σ = L) (ht : gI σ 45 17 = -4) : ∃ τ, (lp (fun _ _ _ _ => none) (mX11_hinders_44 (nI x) (nI y)) 2000) (-4 : Int32) (9999 : Int32) (0 : Int32) σ = some (oi (md (hS N L x y p q) (hD N L x y p q) 36), τ) ∧ core τ = core σ := by
  refine lp_rel (app := fun i (s : St) (J : Int32 → Int32 → Int32 → St → Option (Int32 × St)) => J (oi (md (hS N L x y p q) (hD N L x y p q) i)) (o9999 (hD N L x y p q) (md (hS N L x y p q) (hD N L x y p q) i)) (nI i) s) (P := fun i s => core s = core σ) 36 (Q := fun r => ∃ τ, r = some (oi (md (hS N L x y p q) (hD N L x y p q) 36), τ) ∧ core τ = core σ) ?_ ?_ 2000 (by omega) σ rfl
  · intro i s hi g1 J
    have hls : lm s = L := by rw [lm_core g1, hL]
    have hts : gI s 45 17 = -4 := by rw [core_I g1 45 17 rfl, ht]
    show ∃ x', _ ∧ mX11_hinders_44 (nI x) (nI y) J _ _ (nI i) s = J _ _ (nI (i + 1)) x'
    unfold mX11_hinders_44 mX11_hinders_120 mX11_hinders_98 mX11_hinders_97 mX11_hinders_118 mX11_hinders_116
    rw [if_neg (lt36 hi), isOpen_M hi, cl2_e, Om_lm hts hi, hls]
    simp only [kl_e, nI_1]
    cases o : Op L i
    · have hl1 : lm (pI s 45 17 (nI i)) = L := by rw [lm_pI_ne (by omega), hls]
      have hO1 : ∀ c, c < 36 → Om (pI s 45 17 (nI i)) c = opn (Op L) i c := fun c hc => by
        unfold Om opn
        rw [gI_pI_eq, hl1, Bool.or_comm]
        refine congrArg (fun b => Op L c || b) ?_
        by_cases z : c = i
        · rw [z, decide_eq_true rfl, decide_eq_true rfl]
        · rw [decide_eq_false z, decide_eq_false (nI_ne (by omega) (by omega) z)]
      have hP1 : ∀ a b, a < 36 → b < 36 → Pm (pI s 45 17 (nI i)) a b = Pr (opn (Op L) i) L (ls L 3) (ls L 4) a b := fun a b ha hb => by
        unfold Pm
        rw [hl1]
        exact Pr_eq hO1 ha hb
      obtain ⟨s2, b1, b2', _⟩ := seeDays_m (σ := pI s 45 17 (nI i)) hN hp hq hx hy (by rw [hl1, e5]) (by rw [hl1, e6])
      have hD' : Dx N A2 (fl2 (Pm (pI s 45 17 (nI i)))) (36 * x + y) (36 * p + q) = hD N L x y p q i := Dx_eqP (fl2_eqP hN hP1) (by omega)
      have hc2 : core (pI s2 45 17 (-4)) = core σ := by
        rw [← g1]
        unfold core
        refine Prod.ext (funext fun o' => funext fun k' => ?_) (Prod.ext (funext fun a => funext fun i' => ?_) (funext fun a => funext fun i' => ?_))
        · show (if keI o' k' then gI (pI s2 45 17 (-4)) o' k' else 0) = if keI o' k' then gI s o' k' else 0
          rw [gI_pI]
          by_cases z : o' = 45 ∧ k' = 17
          · rw [if_pos z, z.1, z.2, hts]
          · rw [if_neg z, Fx_I b2' (by simp), gI_pI, if_neg z]
        · show (if keA a then gA s2 a i' else 0) = if keA a then gA s a i' else 0
          by_cases z : a = 60 ∨ a = 61
          · rcases z with rfl | rfl <;> rfl
          · rw [Fx_A b2' z, gA_pI]
        · show (if keL a then gL s2 a i' else 0) = if keL a then gL s a i' else 0
          rw [Fx_L b2' (by simp), gL_pI]
      rw [b2_f, if_pos rfl, b1, cl2_e, hD']
      refine ⟨pI s2 45 17 (-4), hc2, ?_⟩
      have hSi : hS N L x y p q i = decide (hD N L x y p q i < N) := by unfold hS; rw [o]; rfl
      rw [md_s, hSi]
      by_cases z : hD N L x y p q i < N
      · rw [if_neg (show ¬ dO N (hD N L x y p q i) < 0 by rw [dO_neg hN]; exact fun w => w z), decide_eq_true z]
        have hv : dO N (hD N L x y p q i) = nI (hD N L x y p q i) := by unfold dO; rw [if_pos z]
        rw [hv]
        have hnn : ¬ nI (hD N L x y p q i) < 0 := nI_pos (by omega)
        cases w : md (hS N L x y p q) (hD N L x y p q) i with
        | none =>
          have hno : ¬ o9999 (hD N L x y p q) none ≤ nI (hD N L x y p q i) := nI_ge (b := 9999) (by omega) (by omega)
          simp only [if_neg hnn, if_neg hno]
          rfl
        | some b =>
          have hb := md_in w
          unfold hS at hb
          rw [Bool.and_eq_true] at hb
          have hbN := of_decide_eq_true hb.2
          simp only [Bool.true_and]
          by_cases k : hD N L x y p q i < hD N L x y p q b
          · have hno : ¬ o9999 (hD N L x y p q) (some b) ≤ nI (hD N L x y p q i) := nI_ge k (by omega)
            simp only [if_neg hnn, if_neg hno]
            rw [decide_eq_true k]
            rfl
          · have hyes : o9999 (hD N L x y p q) (some b) ≤ nI (hD N L x y p q i) := nI_le (by omega) (by omega)
            simp only [if_neg hnn, if_pos hyes]
            rw [decide_eq_false k]
            rfl
      · have hneg : dO N (hD N L x y p q i) < 0 := by rw [dO_neg hN]; exact z
        rw [if_pos hneg, if_pos hneg, decide_eq_false z]
        cases md (hS N L x y p q) (hD N L x y p q) i <;> rfl
    · rw [b2_t, if_neg n10]
      have hSi : hS N L x y p q i = false := by unfold hS; rw [o]; rfl
      refine ⟨s, g1, ?_⟩
      rw [md_s, hSi]
      cases md (hS N L x y p q) (hD N L x y p q) i <;> rfl
  · intro s g1 J
    refine ⟨s, ?_, g1⟩
    show mX11_hinders_44 (nI x) (nI y) J _ _ (nI 36) s = _
    unfold mX11_hinders_44
    rw [if_pos at36]
theorem s_hinders : stp232 Inv mX10_hinders mX11_hinders := by
  intro σ a b hI
  obtain ⟨N, hN⟩ : ∃ N : Nat, N = 1296 := ⟨1296, rfl⟩
  rcases see_or hI a b with ⟨v, v1, v2, v3, v4⟩ | ⟨x, y, p, q, hx, hy, rfl, rfl, hp, hq, e5, e6, v3, v4⟩
  · refine ag (f := mX10_hinders a b) (g := mX11_hinders a b) (v := v) (ρ := σ) (τ := pI σ 45 16 0) ?_ ?_ c16 hI
    · unfold mX10_hinders
      rw [v3, cl2_e, if_neg v1]
    · unfold mX11_hinders
      rw [kl_e, v4 _ (by rw [lm_16, hI.1]), cl2_e, if_neg v2, v4 _ (by rw [lm_16, hI.1]), cl2_e]
  · obtain ⟨s0, s1, s2, s3, s4, s5⟩ := lay_c σ
    have hc0 := core_FB s5
    obtain ⟨τ, t1, t2, _⟩ := daysBetween_c hN hp hq hx hy s4
    have hc : core τ = core σ := by rw [core_FL t2, hc0]
    by_cases z : Dx N A2 (fl2 (PrL (ld σ 1))) (36 * x + y) (36 * p + q) < N
    · have hcp : core (pI τ 45 16 0) = core σ := by rw [c16, hc]
      have hl : lm (pI τ 45 16 0) = ld σ 1 := by rw [lm_core hcp, hI.1]
      obtain ⟨ρ, r1, r2, _⟩ := seeDays_m (σ := pI τ 45 16 0) hN hp hq hx hy (by rw [hl, e5]) (by rw [hl, e6])
      have hP : ∀ x y, x < 36 → y < 36 → Pm (pI τ 45 16 0) x y = PrL (ld σ 1) x y := fun x y hx hy => by rw [Pm_core hcp, Pm_Inv hI hx hy]
      refine ag (f := mX10_hinders (nI x) (nI y)) (g := mX11_hinders (nI x) (nI y)) (v := -4) (ρ := τ) (τ := ρ) ?_ ?_ (by rw [core_FQ r2, hcp]) hI
      · unfold mX10_hinders
        rw [v3, cl2_e, if_pos rfl, s1, cl1_e, kl_e, kl_e, ld_s (k := 5) (by omega), ld_s (k := 6) (by omega), ld_core hc0, e5, e6, t1, cl2_e, if_neg (by rw [dO_4 hN]; exact fun w => w z)]
      · unfold mX11_hinders
        rw [kl_e, v4 _ hl, cl2_e, if_pos (by decide), r1, cl2_e, Dx_eqP (fl2_eqP hN hP) (by omega), if_neg (by rw [dO_neg hN]; exact fun w => w z)]
    · have hB : Bnear (Nr (ld σ 1) (ls (ld σ 1) 3) (ls (ld σ 1) 4)) τ := fun a ha => by rw [Fx_L t2 (by omega)]; exact s3 a ha
      obtain ⟨π, u1, u2⟩ := hin_c (N := N) (L := ld σ 1) hN hx hy hp hq e5 e6 (ld_core hc) hB
      have hcp : core (pI π 45 16 0) = core σ := by rw [c16, u2, hc]
      have hl : lm (pI π 45 16 0) = ld σ 1 := by rw [lm_core hcp, hI.1]
      obtain ⟨ρ, r1, r2, _⟩ := seeDays_m (σ := pI π 45 16 0) hN hp hq hx hy (by rw [hl, e5]) (by rw [hl, e6])
      have hcr : core ρ = core σ := by rw [core_FQ r2, hcp]
      have hP : ∀ x y, x < 36 → y < 36 → Pm (pI π 45 16 0) x y = PrL (ld σ 1) x y := fun x y hx hy => by rw [Pm_core hcp, Pm_Inv hI hx hy]
      obtain ⟨χ, w1, w2⟩ := hin_m (N := N) (L := ld σ 1) (σ := ρ) hN hx hy hp hq e5 e6 (by rw [lm_core hcr, hI.1]) (by rw [core_I hcr 45 17 rfl]; exact hI.2.2.1)
      refine ag (f := mX10_hinders (nI x) (nI y)) (g := mX11_hinders (nI x) (nI y)) (v := oi (md (hS N (ld σ 1) x y p q) (hD N (ld σ 1) x y p q) 36)) (ρ := π) (τ := χ) ?_ ?_ (by rw [w2, hcr]) hI
      · unfold mX10_hinders
        rw [v3, cl2_e, if_pos rfl, s1, cl1_e, kl_e, kl_e, ld_s (k := 5) (by omega), ld_s (k := 6) (by omega), ld_core hc0, e5, e6, t1, cl2_e, if_pos (by rw [dO_4 hN]; exact z), openCells_c, cl2_e, ld_core hc, kl_e, u1]
      · unfold mX11_hinders
        rw [kl_e, v4 _ hl, cl2_e, if_pos (by decide), r1, cl2_e, Dx_eqP (fl2_eqP hN hP) (by omega), if_pos (by rw [dO_neg hN]; exact z), kl_e, w1]
