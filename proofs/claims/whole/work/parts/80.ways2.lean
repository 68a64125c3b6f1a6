/-! ===== PURE: how many ways, of the reference ===== -/
theorem smN_tail {f : Nat → Nat} {m : Nat} : ∀ n, smN f (m + n) = smN f m + smN (fun j => f (m + j)) n
  | 0 => rfl
  | n + 1 => by
    show smN f (m + n) + f (m + n) = smN f m + (smN (fun j => f (m + j)) n + f (m + n))
    rw [smN_tail n, Nat.add_assoc]
theorem smN_flat {f : Nat → Nat} {n : Nat} : ∀ a, smN f (n * a) = smN (fun i => smN (fun j => f (n * i + j)) n) a
  | 0 => rfl
  | a + 1 => by
    show smN f (n * (a + 1)) = smN (fun i => smN (fun j => f (n * i + j)) n) a + smN (fun j => f (n * a + j)) n
    rw [← smN_flat a, Nat.mul_succ, smN_tail]
/-- what pair k gives by ways w to pair j -/
def ct (O : Nat → Bool) (P : Nat → Nat → Bool) (W : Wt) (k w j : Nat) : Nat := match gone O (k / 36) (w / 5), gone O (k % 36) (w % 5) with
  | some a, some b => if P a b = true ∧ 36 * a + b = j then W (k / 36) (k % 36) else 0
  | _, _ => 0
theorem ct_0 {O : Nat → Bool} {P : Nat → Nat → Bool} {W : Wt} {k w j : Nat} (h : W (k / 36) (k % 36) = 0) : ct O P W k w j = 0 := by
  unfold ct
  rw [h]
  cases gone O (k / 36) (w / 5) with
  | none => rfl
  | some a =>
    cases gone O (k % 36) (w % 5) with
    | none => rfl
    | some b =>
      by_cases c : P a b = true ∧ 36 * a + b = j
      · exact if_pos c
      · exact if_neg c
theorem gone_nbo {O : Nat → Bool} {c d e : Nat} (h : O e = true) : (gone O c d = some e) = (nbo c d = some e) := by
  apply propext
  unfold gone
  by_cases h0 : d = 0
  · rw [if_pos h0, h0]; rfl
  · rw [if_neg h0]
    cases hn : nbo c d with
    | none => exact ⟨fun q => (by cases q), fun q => (by cases q)⟩
    | some z =>
      show (if O z = true then some z else none) = some e ↔ some z = some e
      by_cases hz : O z = true
      · rw [if_pos hz]
      · rw [if_neg hz]
        constructor
        · intro q; cases q
        · intro q; cases q; exact absurd h hz
theorem ct_s {O : Nat → Bool} {P : Nat → Nat → Bool} {W : Wt} {a b d1 d2 h s : Nat} (ha : a < 36) (hb : b < 36) (h1 : d1 < 5) (h2 : d2 < 5) (hh : h < 36) (hs : s < 36) (hP : P h s = true) (hO : O h = true ∧ O s = true) : ct O P W (36 * a + b) (5 * d1 + d2) (36 * h + s) = (if nbo a d1 = some h then 1 else 0) * ((if nbo b d2 = some s then 1 else 0) * W a b) := by
  unfold ct
  rw [show (36 * a + b) / 36 = a by omega, show (36 * a + b) % 36 = b by omega, show (5 * d1 + d2) / 5 = d1 by omega, show (5 * d1 + d2) % 5 = d2 by omega]
  have e1 := gone_nbo (c := a) (d := d1) hO.1
  have e2 := gone_nbo (c := b) (d := d2) hO.2
  cases g1 : gone O a d1 with
  | none =>
    rw [if_neg (show ¬ nbo a d1 = some h by rw [← e1, g1]; intro q; cases q), Nat.zero_mul]
  | some x =>
    have hx := gone_lt ha h1 g1
    cases g2 : gone O b d2 with
    | none =>
      rw [if_neg (show ¬ nbo b d2 = some s by rw [← e2, g2]; intro q; cases q), Nat.zero_mul, Nat.mul_zero]
    | some y =>
      have hy := gone_lt hb h2 g2
      show (if P x y = true ∧ 36 * x + y = 36 * h + s then W a b else 0) = _
      by_cases c : x = h ∧ y = s
      · obtain ⟨rfl, rfl⟩ := c
        rw [if_pos ⟨hP, rfl⟩, if_pos (by rw [← e1]; exact g1), if_pos (by rw [← e2]; exact g2), Nat.one_mul, Nat.one_mul]
      · rw [if_neg (fun z => c (by omega))]
        by_cases c1 : x = h
        · rw [if_neg (show ¬ nbo b d2 = some s by rw [← e2, g2]; intro q; exact c ⟨c1, Option.some.inj q⟩), Nat.zero_mul, Nat.mul_zero]
        · rw [if_neg (show ¬ nbo a d1 = some h by rw [← e1, g1]; intro q; exact c1 (Option.some.inj q)), Nat.zero_mul]
theorem ct_no {O : Nat → Bool} {P : Nat → Nat → Bool} {W : Wt} {k w h s : Nat} (hk : k < 1296) (hw : w < 25) (hh : h < 36) (hs : s < 36) (hP : P h s = false) : ct O P W k w (36 * h + s) = 0 := by
  unfold ct
  cases g1 : gone O (k / 36) (w / 5) with
  | none => rfl
  | some x =>
    have hx := gone_lt (by omega) (by omega) g1
    cases g2 : gone O (k % 36) (w % 5) with
    | none => rfl
    | some y =>
      have hy := gone_lt (by omega) (by omega) g2
      refine if_neg (fun z => ?_)
      have : x = h ∧ y = s := by omega
      rw [this.1, this.2, hP] at z
      cases z.1
theorem ct_tot {O : Nat → Bool} {P : Nat → Nat → Bool} {W : Wt} {h s : Nat} (hh : h < 36) (hs : s < 36) (hPO : P h s = true → O h = true ∧ O s = true) : smN (fun k => smN (fun w => ct O P W k w (36 * h + s)) 25) 1296 = nxW P W h s := by
  unfold nxW
  cases hP : P h s
  · rw [if_neg (by decide)]
    exact smN_0 1296 (fun k hk => smN_0 25 (fun w hw => ct_no hk hw hh hs hP))
  · rw [if_pos rfl]
    rw [show (1296 : Nat) = 36 * 36 from rfl, smN_flat]
    refine smN_eq 36 (fun a ha => smN_eq 36 (fun b hb => ?_))
    rw [show (25 : Nat) = 5 * 5 from rfl, smN_flat]
    have e1 : smN (fun d1 => smN (fun d2 => ct O P W (36 * a + b) (5 * d1 + d2) (36 * h + s)) 5) 5 = smN (fun d1 => (if nbo a d1 = some h then 1 else 0) * (mu b s * W a b)) 5 := smN_eq 5 (fun d1 h1 => by
      rw [smN_eq 5 (fun d2 h2 => ct_s (W := W) ha hb h1 h2 hh hs hP (hPO hP)), smN_mulL, smN_mul]
      rfl)
    rw [e1, smN_mul]
    rfl
theorem Wl_k {r : Nat} {W : Wt} {s : St} (h : Wl r W s) {k : Nat} (hk : k < 1296) : gL s r k = lN (W (k / 36) (k % 36)) := by
  have := h (k / 36) (k % 36) (by omega) (by omega)
  rwa [show 36 * (k / 36) + k % 36 = k by omega] at this
abbrev FU (σ τ : St) : Prop := Fx (fun _ _ => False) (fun _ => False) (fun a => a = 62 ∨ a = 63) σ τ
theorem core_FU {σ τ : St} (h : FU σ τ) : core τ = core σ := core_Fx (fun o k e => e.elim) (fun a e => e.elim) (fun a e => by rcases e with rfl | rfl <;> rfl) h
theorem k5 {k : Nat} (h : k < 2 ^ 31) : nI k / 5 = nI (k / 5) ∧ nI k - nI k / 5 * 5 = nI (k % 5) := ⟨pk_div (d := 5) h (by omega) (by omega), pk_rem (d := 5) h (by omega) (by omega)⟩
theorem ix36' {a b : Nat} : (36 : Int32) * nI a + nI b = nI (36 * a + b) := by
  rw [show (36 : Int32) = nI 36 from rfl, pk_mul, nI_add]
theorem lt25 {i : Nat} (h : i < 25) : ¬ (25 : Int32) ≤ nI i := nI_ge (b := 25) h (by omega)
theorem lgle {n : Nat} (h : n < 2 ^ 63) : (lg_cmp (lN n) 0 ≤ 0) = (n = 0) := by
  rw [lg_le]
  apply propext
  have := pk_lLE (a := n) (b := 0) h (by omega)
  rw [lN_0] at this
  rw [this]; omega
theorem push_m {B : Nat → Nat} {W : Wt} {k : Nat} {J90 : Int32 → St → Option St} {σ s : St} (hk : k < 1296) (hW : Wl 62 W σ) (hb : W (k / 36) (k % 36) < 2 ^ 63) (hB : ∀ j, j < 1296 → gL s 63 j = lN (B j)) (hF : Fx (fun _ _ => False) (fun _ => False) (fun a => a = 63) σ s) : ∃ τ, (lp (fun _ _ => none) (mX11_layWays_100 J90 (nI k)) 2000) (0 : Int32) s = J90 (nI (k + 1)) τ ∧ (∀ j, j < 1296 → gL τ 63 j = lN (B j + smN (fun w => ct (Om σ) (Pm σ) W k w j) 25)) ∧ Fx (fun _ _ => False) (fun _ => False) (fun a => a = 63) σ τ := by
  by_cases z : W (k / 36) (k % 36) = 0
  · refine ⟨s, ?_, fun j hj => ?_, hF⟩
    · show mX11_layWays_100 J90 (nI k) _ (0 : Int32) s = _
      unfold mX11_layWays_100 mX11_layWays_195
      rw [kl_e, if_neg (by decide), ldL_1296 hk, Fx_L hF (by omega), Wl_k hW hk, if_pos (by rw [lgle hb]; exact z)]
      simp only [nI_1]
    · rw [hB j hj, smN_0 25 (fun w _ => ct_0 z), Nat.add_zero]
  · refine lp_rel (app := fun w (s : St) (J : Int32 → St → Option St) => J (nI w) s) (P := fun w s => (∀ j, j < 1296 → gL s 63 j = lN (B j + smN (fun w => ct (Om σ) (Pm σ) W k w j) w)) ∧ Fx (fun _ _ => False) (fun _ => False) (fun a => a = 63) σ s) 25 (Q := fun r => ∃ τ, r = J90 (nI (k + 1)) τ ∧ (∀ j, j < 1296 → gL τ 63 j = lN (B j + smN (fun w => ct (Om σ) (Pm σ) W k w j) 25)) ∧ Fx (fun _ _ => False) (fun _ => False) (fun a => a = 63) σ τ) ?_ ?_ 2000 (by omega) s ⟨fun j hj => by rw [hB j hj]; rfl, hF⟩
    · intro w s hw ⟨g1, g2⟩ J
      have hc : core s = core σ := core_Fx (fun o k e => e.elim) (fun a e => e.elim) (fun a e => by subst e; rfl) g2
      show ∃ x', _ ∧ mX11_layWays_100 J90 (nI k) J (nI w) s = J (nI (w + 1)) x'
      unfold mX11_layWays_100 mX11_layWays_189
      rw [kl_e, if_neg (lt25 hw), ldL_1296 hk, Fx_L g2 (show ¬ 62 = 63 by omega), Wl_k hW hk, if_neg (by rw [lgle hb]; exact z), (k36 (show k < 2 ^ 31 by omega)).2, (k36 (show k < 2 ^ 31 by omega)).1, (k5 (show w < 2 ^ 31 by omega)).2, (k5 (show w < 2 ^ 31 by omega)).1, goneTo_m (by omega) (by omega), cl2_e, goneTo_m (by omega) (by omega), cl2_e]
      simp only [kl_e, nI_1]
      rw [Om_core hc]
      have hstep : ∀ j, smN (fun w => ct (Om σ) (Pm σ) W k w j) (w + 1) = smN (fun w => ct (Om σ) (Pm σ) W k w j) w + ct (Om σ) (Pm σ) W k w j := fun j => rfl
      have no : (∀ j, ct (Om σ) (Pm σ) W k w j = 0) → ∃ x' : St, ((∀ j, j < 1296 → gL x' 63 j = lN (B j + smN (fun w => ct (Om σ) (Pm σ) W k w j) (w + 1))) ∧ Fx (fun _ _ => False) (fun _ => False) (fun a => a = 63) σ x') ∧ J (nI (w + 1)) s = J (nI (w + 1)) x' := fun h => ⟨s, ⟨fun j hj => by rw [hstep, h j, Nat.add_zero]; exact g1 j hj, g2⟩, rfl⟩
      cases c1 : gone (Om σ) (k / 36) (w / 5) with
      | none =>
        rw [if_pos oi_n0]
        exact no (fun j => by unfold ct; rw [c1])
      | some a =>
        have ha := gone_lt (by omega) (by omega) c1
        rw [if_neg (oi_nn ha)]
        cases c2 : gone (Om σ) (k % 36) (w % 5) with
        | none =>
          rw [if_pos oi_n0]
          exact no (fun j => by unfold ct; rw [c1, c2])
        | some b =>
          have hb' := gone_lt (by omega) (by omega) c2
          rw [if_neg (oi_nn hb'), show oi (some a) = nI a from rfl, show oi (some b) = nI b from rfl, isPair_m ha hb', cl2_e, Pm_core hc]
          cases c3 : Pm σ a b
          · rw [b2_f, if_pos rfl]
            exact no (fun j => by
              unfold ct; rw [c1, c2]
              show (if Pm σ a b = true ∧ 36 * a + b = j then _ else 0) = 0
              rw [if_neg (fun q => by rw [c3] at q; cases q.1)])
          · have hv : gL s 62 k = lN (W (k / 36) (k % 36)) := by rw [Fx_L g2 (by omega)]; exact Wl_k hW hk
            rw [b2_t, if_neg n10, ix36', ldL_1296 (by omega), ldL_1296 hk, stL_1296 (by omega), hv, g1 _ (by omega), lN_add]
            refine ⟨_, ⟨fun j hj => ?_, Fx_pL rfl g2⟩, rfl⟩
            have hcj : ct (Om σ) (Pm σ) W k w j = if 36 * a + b = j then W (k / 36) (k % 36) else 0 := by
              unfold ct; rw [c1, c2]
              show (if Pm σ a b = true ∧ 36 * a + b = j then _ else 0) = _
              by_cases y : 36 * a + b = j
              · rw [if_pos ⟨c3, y⟩, if_pos y]
              · rw [if_neg (fun q => y q.2), if_neg y]
            rw [hstep, hcj]
            by_cases y : 36 * a + b = j
            · rw [← y, gL_pL_eq, if_pos rfl, Nat.add_assoc]
            · rw [gL_pL_ne (by omega), if_neg y, Nat.add_zero]
              exact g1 j hj
    · intro s ⟨g1, g2⟩ J
      refine ⟨s, ?_, g1, g2⟩
      show mX11_layWays_100 J90 (nI k) J (nI 25) s = _
      unfold mX11_layWays_100 mX11_layWays_195
      rw [kl_e, if_pos (show (25 : Int32) ≤ nI 25 from Int32.le_refl _)]
      simp only [nI_1]
/-- one day of the reference -/
theorem dayW_m {W : Wt} {y12 : Int32} {J61 : Int32 → St → Option St} {σ : St} (hW : Wl 62 W σ) (hb : ∀ h s, h < 36 → s < 36 → W h s < 2 ^ 63) : ∃ τ, (lp (fun _ _ => none) (mX11_layWays_68 J61 y12) 2000) (0 : Int32) σ = J61 (y12 + 1) τ ∧ Wl 62 (nxW (Pm σ) W) τ ∧ FU σ τ := by
  refine lp_rel (app := fun i (s : St) (J : Int32 → St → Option St) => J (nI i) s) (P := fun i s => (∀ j, j < i → gL s 63 j = 0) ∧ Fx (fun _ _ => False) (fun _ => False) (fun a => a = 63) σ s) 1296 (Q := fun r => ∃ τ, r = J61 (y12 + 1) τ ∧ Wl 62 (nxW (Pm σ) W) τ ∧ FU σ τ) ?_ ?_ 2000 (by omega) σ ⟨fun j hj => by omega, Fx_rfl⟩
  · intro i s hi ⟨g1, g2⟩ J
    refine ⟨pL s 63 i 0, ⟨fun j hj => ?_, Fx_pL rfl g2⟩, ?_⟩
    · by_cases q : j = i
      · rw [q]; exact gL_pL_eq
      · rw [gL_pL_ne (by omega)]; exact g1 j (by omega)
    · show mX11_layWays_68 J61 y12 J (nI i) s = J (nI (i + 1)) _
      unfold mX11_layWays_68
      rw [if_neg (lt1296 hi), stL_1296 hi, nI_1]
  · intro s ⟨g1, g2⟩ J
    show ∃ τ, mX11_layWays_68 J61 y12 J (nI 1296) s = J61 (y12 + 1) τ ∧ _
    unfold mX11_layWays_68
    rw [if_pos at1296, kl_e]
    refine lp_rel (app := fun k (s : St) (J : Int32 → St → Option St) => J (nI k) s) (P := fun k s => (∀ j, j < 1296 → gL s 63 j = lN (smN (fun k => smN (fun w => ct (Om σ) (Pm σ) W k w j) 25) k)) ∧ Fx (fun _ _ => False) (fun _ => False) (fun a => a = 63) σ s) 1296 (Q := fun r => ∃ τ, r = J61 (y12 + 1) τ ∧ Wl 62 (nxW (Pm σ) W) τ ∧ FU σ τ) ?_ ?_ 2000 (by omega) s ⟨fun j hj => g1 j hj, g2⟩
    · intro k s hk ⟨g1, g2⟩ J
      obtain ⟨τ, t1, t2, t3⟩ := push_m (J90 := J) hk hW (hb _ _ (by omega) (by omega)) g1 g2
      refine ⟨τ, ⟨t2, t3⟩, ?_⟩
      show mX11_layWays_90 J61 y12 J (nI k) s = J (nI (k + 1)) τ
      unfold mX11_layWays_90
      rw [if_neg (lt1296 hk), kl_e, t1]
    · intro s ⟨g1, g2⟩ J
      show ∃ τ, mX11_layWays_90 J61 y12 J (nI 1296) s = J61 (y12 + 1) τ ∧ _
      unfold mX11_layWays_90
      rw [if_pos at1296, kl_e]
      have g3 : FU σ s := Fx_mono (fun _ _ h => h) (fun _ h => h) (fun _ h => Or.inr h) g2
      have hr : ∀ h e, h < 36 → e < 36 → gL s 63 (36 * h + e) = lN (nxW (Pm σ) W h e) := fun h e hh he => by
        rw [g1 _ (by omega), ct_tot hh he]
        intro hp
        unfold Pm Pr at hp
        rw [Bool.and_eq_true, Bool.and_eq_true] at hp
        exact ⟨hp.1, hp.2.1⟩
      refine lp_rel (app := fun k (s : St) (J : Int32 → St → Option St) => J (nI k) s) (P := fun k s => (∀ h e, h < 36 → e < 36 → gL s 63 (36 * h + e) = lN (nxW (Pm σ) W h e)) ∧ (∀ h e, h < 36 → e < 36 → 36 * h + e < k → gL s 62 (36 * h + e) = lN (nxW (Pm σ) W h e)) ∧ FU σ s) 1296 (Q := fun r => ∃ τ, r = J61 (y12 + 1) τ ∧ Wl 62 (nxW (Pm σ) W) τ ∧ FU σ τ) ?_ ?_ 2000 (by omega) s ⟨hr, fun h e _ _ q => by omega, g3⟩
      · intro k s hk ⟨g1, g2, g3⟩ J
        refine ⟨pL s 62 k (gL s 63 k), ⟨fun h e hh he => by rw [gL_pL_ne (by omega)]; exact g1 h e hh he, fun h e hh he q => ?_, Fx_pL (Or.inl rfl) g3⟩, ?_⟩
        · by_cases y : 36 * h + e = k
          · rw [← y, gL_pL_eq]; exact g1 h e hh he
          · rw [gL_pL_ne (by omega)]; exact g2 h e hh he (by omega)
        · show mX11_layWays_203 J61 y12 J (nI k) s = J (nI (k + 1)) _
          unfold mX11_layWays_203
          rw [if_neg (lt1296 hk), ldL_1296 hk, stL_1296 hk, nI_1]
      · intro s ⟨g1, g2, g3⟩ J
        refine ⟨s, ?_, fun h e hh he => g2 h e hh he (by omega), g3⟩
        show mX11_layWays_203 J61 y12 J (nI 1296) s = _
        unfold mX11_layWays_203
        rw [if_pos at1296]
theorem nxW_le {P : Nat → Nat → Bool} {W : Wt} {B : Nat} (hB : ∀ h s, h < 36 → s < 36 → W h s ≤ B) : ∀ h s, h < 36 → s < 36 → nxW P W h s ≤ B * 25 := by
  intro h s hh hs
  rw [← nxW_c hh hs]
  unfold hrW
  by_cases w : P h s = true
  · rw [if_pos w]
    have e1 : smN (fun d => opt (nbo s d) (fun s' => hfW W 5 h s')) 5 ≤ B * 5 * 5 := smN_le 5 (fun d hd => by
      cases hn : nbo s d with
      | none => exact Nat.zero_le _
      | some c =>
        have hc := nbo_lt' hs hd hn
        show hfW W 5 h c ≤ B * 5
        exact smN_le 5 (fun d hd => by
          cases hn : nbo h d with
          | none => exact Nat.zero_le _
          | some c' => exact hB c' c (nbo_lt' hh hd hn) hc))
    omega
  · rw [if_neg w]; exact Nat.zero_le _
theorem itW_le {P : Nat → Nat → Bool} {p q : Nat} : ∀ n h s, h < 36 → s < 36 → itW P p q n h s ≤ 25 ^ n
  | 0, h, s, _, _ => by
    show stW P p q h s ≤ 1
    unfold stW
    by_cases c : h = p ∧ s = q ∧ P h s = true
    · rw [if_pos c]; exact Nat.le_refl _
    · rw [if_neg c]; exact Nat.zero_le _
  | n + 1, h, s, hh, hs => by
    rw [Nat.pow_succ]
    exact nxW_le (fun h s hh hs => itW_le n h s hh hs) h s hh hs
theorem itW_63 {P : Nat → Nat → Bool} {p q n h s : Nat} (hn : n ≤ 10) (hh : h < 36) (hs : s < 36) : itW P p q n h s < 2 ^ 63 := by
  have h1 := itW_le (P := P) (p := p) (q := q) n h s hh hs
  have h2 : 25 ^ n ≤ 25 ^ 10 := Nat.pow_le_pow_right (by omega) hn
  have h3 : (25 : Nat) ^ 10 < 2 ^ 63 := by decide
  exact Nat.lt_of_le_of_lt (Nat.le_trans h1 h2) h3
theorem layWays_m {p q n : Nat} {σ : St} (hp : p < 36) (hq : q < 36) (e5 : ls (lm σ) 5 = nI p) (e6 : ls (lm σ) 6 = nI q) (hn : n ≤ 10) : ∃ τ, mX11_layWays (nI n) σ = some τ ∧ Wl 62 (itW (Pm σ) p q n) τ ∧ FU σ τ := by
  unfold mX11_layWays
  rw [kl_e]
  refine lp_rel (app := fun i (s : St) (J : Int32 → St → Option St) => J (nI i) s) (P := fun i s => (∀ j, j < i → gL s 62 j = 0) ∧ FU σ s) 1296 (Q := fun r => ∃ τ, r = some τ ∧ Wl 62 (itW (Pm σ) p q n) τ ∧ FU σ τ) ?_ ?_ 2000 (by omega) σ ⟨fun j hj => by omega, Fx_rfl⟩
  · intro i s hi ⟨g1, g2⟩ J
    refine ⟨pL s 62 i 0, ⟨fun j hj => ?_, Fx_pL (Or.inl rfl) g2⟩, ?_⟩
    · by_cases q : j = i
      · rw [q]; exact gL_pL_eq
      · rw [gL_pL_ne (by omega)]; exact g1 j (by omega)
    · show mX11_layWays_2 (nI n) J (nI i) s = J (nI (i + 1)) _
      unfold mX11_layWays_2
      rw [if_neg (lt1296 hi), stL_1296 hi, nI_1]
  · intro s ⟨g1, g2⟩ J
    show ∃ τ, mX11_layWays_2 (nI n) J (nI 1296) s = some τ ∧ _
    have hc := core_FU g2
    have s5 : gI s 45 5 = nI p := by rw [lm_s (by omega), lm_core hc, e5]
    have s6 : gI s 45 6 = nI q := by rw [lm_s (by omega), lm_core hc, e6]
    have go : ∀ s1, Wl 62 (stW (Pm σ) p q) s1 → FU σ s1 → ∃ τ, (lp (fun _ _ => none) (mX11_layWays_61 (nI n)) 2000) (0 : Int32) s1 = some τ ∧ Wl 62 (itW (Pm σ) p q n) τ ∧ FU σ τ := by
      intro s1 w1 w2
      refine lp_rel (app := fun i (s : St) (J : Int32 → St → Option St) => J (nI i) s) (P := fun i s => Wl 62 (itW (Pm σ) p q i) s ∧ FU σ s) n (Q := fun r => ∃ τ, r = some τ ∧ Wl 62 (itW (Pm σ) p q n) τ ∧ FU σ τ) ?_ ?_ 2000 (by omega) s1 ⟨w1, w2⟩
      · intro i s hi ⟨g1, g2⟩ J
        obtain ⟨τ, t1, t2, t3⟩ := dayW_m (y12 := nI i) (J61 := J) g1 (fun h e hh he => itW_63 (by omega) hh he)
        rw [Pm_core (core_FU g2)] at t2
        refine ⟨τ, ⟨t2, Fx_tr g2 t3⟩, ?_⟩
        show mX11_layWays_61 (nI n) J (nI i) s = J (nI (i + 1)) τ
        unfold mX11_layWays_61
        rw [if_neg (nI_ge hi (by omega)), kl_e, t1, nI_1]
      · intro s ⟨g1, g2⟩ J
        refine ⟨s, ?_, g1, g2⟩
        show mX11_layWays_61 (nI n) J (nI n) s = _
        unfold mX11_layWays_61
        rw [if_pos (Int32.le_refl _)]
    unfold mX11_layWays_2 mX11_layWays_58
    rw [if_pos at1296]
    simp only [kl_e, s5, s6]
    rw [isPair_m hp hq, cl2_e, Pm_core hc, ix36', stL_1296 (by omega), stL_1296 (by omega)]
    cases y : Pm σ p q
    · rw [b2_f, if_pos rfl]
      refine go _ (fun h e hh he => ?_) (Fx_pL (Or.inl rfl) g2)
      unfold stW
      rw [if_neg (by rintro ⟨rfl, rfl, z⟩; rw [y] at z; cases z)]
      by_cases z : h = p ∧ e = q
      · obtain ⟨rfl, rfl⟩ := z; rw [gL_pL_eq]; rfl
      · rw [gL_pL_ne (by omega), g1 _ (by omega)]; rfl
    · rw [b2_t, if_neg n10]
      refine go _ (fun h e hh he => ?_) (Fx_pL (Or.inl rfl) g2)
      unfold stW
      by_cases z : h = p ∧ e = q
      · obtain ⟨rfl, rfl⟩ := z
        rw [gL_pL_eq, if_pos ⟨rfl, rfl, y⟩]; rfl
      · rw [gL_pL_ne (by omega), g1 _ (by omega), if_neg (fun w => z ⟨w.1, w.2.1⟩)]; rfl
def flW (W : Wt) (k : Nat) : Nat := W (k / 36) (k % 36)
theorem sumWays_c {W : Wt} {σ : St} (h : Wl 36 W σ) : mX0_walksInAll σ = some (lN (smN (flW W) 1296), σ) := by
  unfold mX0_walksInAll
  rw [kl_e]
  refine lp_for (app := fun k (J : Int64 → Int32 → St → Option (Int64 × St)) => J (lN (smN (flW W) k)) (nI k) σ) 1296 _ ?_ ?_ 2000 (by omega)
  · intro k hk J
    unfold mX0_walksInAll_4
    rw [if_neg (lt1296 hk), ldL_1296 hk, kl_e, Wl_k h hk, lN_add, nI_1]
    rfl
  · intro J
    unfold mX0_walksInAll_4
    rw [if_pos at1296]
theorem sumWays_m {W : Wt} {σ : St} (h : Wl 62 W σ) : (lp (fun _ _ _ => none) mX11_ways_34 2000) (0 : Int64) (0 : Int32) σ = some (lN (smN (flW W) 1296), σ) := by
  refine lp_for (app := fun k (J : Int64 → Int32 → St → Option (Int64 × St)) => J (lN (smN (flW W) k)) (nI k) σ) 1296 _ ?_ ?_ 2000 (by omega)
  · intro k hk J
    unfold mX11_ways_34
    rw [if_neg (lt1296 hk), ldL_1296 hk, kl_e, Wl_k h hk, lN_add, nI_1]
    rfl
  · intro J
    unfold mX11_ways_34
    rw [if_pos at1296]
theorem nxW_eq {P Q : Nat → Nat → Bool} {V W : Wt} (h1 : ∀ a b, a < 36 → b < 36 → P a b = Q a b) (h2 : ∀ a b, a < 36 → b < 36 → V a b = W a b) : ∀ a b, a < 36 → b < 36 → nxW P V a b = nxW Q W a b := by
  intro a b ha hb
  unfold nxW
  rw [h1 a b ha hb]
  by_cases w : Q a b = true
  · rw [if_pos w, if_pos w]
    exact smN_eq 36 (fun i hi => smN_eq 36 (fun j hj => by rw [h2 i j hi hj]))
  · rw [if_neg w, if_neg w]
theorem itW_eq {P Q : Nat → Nat → Bool} {p q : Nat} (h1 : ∀ a b, a < 36 → b < 36 → P a b = Q a b) : ∀ n a b, a < 36 → b < 36 → itW P p q n a b = itW Q p q n a b
  | 0, a, b, ha, hb => by
    show stW P p q a b = stW Q p q a b
    unfold stW
    rw [h1 a b ha hb]
  | n + 1, a, b, ha, hb => nxW_eq h1 (itW_eq h1 n) a b ha hb
/-- the refusals of both, and what both rest on else -/
theorem count_or {σ : St} (hI : Inv σ) (a : Int32) : (∃ v : Int32, ¬ v = 0 ∧ ¬ 0 ≤ v ∧ mX10_refusalToCount a σ = some (v, σ) ∧ (∀ τ, lm τ = ld σ 1 → mX11_wrongWays a τ = some (v, τ)) ∧ v.toInt64 - 1000000000 = (v - 1000000000).toInt64) ∨ ∃ n p q, n ≤ 10 ∧ a = nI n ∧ p < 36 ∧ q < 36 ∧ ls (ld σ 1) 5 = nI p ∧ ls (ld σ 1) 6 = nI q ∧ mX10_refusalToCount a σ = some (0, σ) ∧ ∀ τ, lm τ = ld σ 1 → mX11_wrongWays a τ = some (0, τ) := by
  have j10 : ∀ τ, mX11_in a.toInt64 (0 : Int64) (10 : Int64) τ = some (b2 (inR a 0 10), τ) := fun τ => in_m a 0 10 τ
  by_cases a1 : a < 0
  · left
    have h : inR a 0 10 = false := by unfold inR; rw [decide_eq_false (Int32.not_le.2 a1)]; rfl
    refine ⟨-1, by decide, by decide, ?_, fun τ _ => ?_, rfl⟩
    · unfold mX10_refusalToCount; rw [if_pos a1]
    · unfold mX11_wrongWays; rw [j10, h, cl2_e, b2_f, if_pos rfl]
  by_cases a2 : a ≤ 10
  · obtain ⟨n, hn, rfl⟩ := nI_of2 (M := 10) (n := 10) rfl a1 a2
    have h : inR (nI n) 0 10 = true := by unfold inR; rw [decide_eq_true (Int32.not_lt.1 a1), decide_eq_true a2]; rfl
    rcases both_or hI with ⟨y1, y2⟩ | ⟨p, q, hp, hq, e5, e6, y1, y2⟩
    · left
      refine ⟨-3, by decide, by decide, ?_, fun τ ht => ?_, rfl⟩
      · unfold mX10_refusalToCount; rw [if_neg a1, if_pos a2, y1, cl2_e, if_pos rfl]
      · unfold mX11_wrongWays; rw [j10, h, cl2_e, b2_t, if_neg n10, y2 τ ht, cl2_e, if_pos rfl]
    · right
      refine ⟨n, p, q, hn, rfl, hp, hq, e5, e6, ?_, fun τ ht => ?_⟩
      · unfold mX10_refusalToCount; rw [if_neg a1, if_pos a2, y1, cl2_e, if_neg n10]
      · unfold mX11_wrongWays; rw [j10, h, cl2_e, b2_t, if_neg n10, y2 τ ht, cl2_e, if_neg n10]
  · left
    have h : inR a 0 10 = false := by unfold inR; rw [decide_eq_false a2, Bool.and_false]
    refine ⟨-1, by decide, by decide, ?_, fun τ _ => ?_, rfl⟩
    · unfold mX10_refusalToCount; rw [if_neg a1, if_neg a2]
    · unfold mX11_wrongWays; rw [j10, h, cl2_e, b2_f, if_pos rfl]
theorem s_ways : stp164 Inv mX10_ways mX11_ways := by
  intro σ a hI
  rcases count_or hI a with ⟨v, v1, v2, v3, v4, v5⟩ | ⟨n, p, q, hn, rfl, hp, hq, e5, e6, v3, v4⟩
  · refine ⟨v.toInt64 - 1000000000, σ, pI σ 45 16 0, ?_, ?_, Inv_core c16 hI⟩
    · unfold mX10_ways mX10_ofLongs
      rw [v3, cl2_e, if_neg v1, cl2_e]
    · unfold mX11_ways
      rw [kl_e, v4 _ (by rw [lm_16, hI.1]), cl2_e, if_neg v2, v4 _ (by rw [lm_16, hI.1]), cl2_e, v5]
  · obtain ⟨s0, s1, s2, s3, s4, s5⟩ := lay_c σ
    have hc0 := core_FB s5
    obtain ⟨τ, t1, t2, t3⟩ := walk_c s4 hp hq hn
    have hc : core τ = core σ := by rw [core_FW t3, hc0]
    have hcp : core (pI τ 45 16 0) = core σ := by rw [c16, hc]
    have hl : lm (pI τ 45 16 0) = ld σ 1 := by rw [lm_core hcp, hI.1]
    obtain ⟨ρ, r1, r2, r3⟩ := layWays_m (σ := pI τ 45 16 0) hp hq (by rw [hl, e5]) (by rw [hl, e6]) hn
    have hP : ∀ x y, x < 36 → y < 36 → Pm (pI τ 45 16 0) x y = PrL (ld σ 1) x y := fun x y hx hy => by rw [Pm_core hcp, Pm_Inv hI hx hy]
    refine ⟨lN (smN (flW (itW (PrL (ld σ 1)) p q n)) 1296), τ, ρ, ?_, ?_, Inv_core (by rw [core_FU r3, hcp]) hI⟩
    · unfold mX10_ways
      rw [v3, cl2_e, if_pos rfl, s1, cl1_e, kl_e, kl_e, ld_s (k := 5) (by omega), ld_s (k := 6) (by omega), ld_core hc0, e5, e6, t1, cl1_e, sumWays_c t2, cl2_e]
    · unfold mX11_ways
      rw [kl_e, v4 _ hl, cl2_e, if_pos (by decide), r1, cl1_e, kl_e, sumWays_m r2]
      refine congrArg (fun x => some (lN x, ρ)) (smN_eq 1296 (fun k hk => ?_))
      exact itW_eq hP n _ _ (by omega) (by omega)
theorem s_rounds : stp164 Inv mX10_rounds mX11_rounds := by
  intro σ a hI
  rcases count_or hI a with ⟨v, v1, v2, v3, v4, v5⟩ | ⟨n, p, q, hn, rfl, hp, hq, e5, e6, v3, v4⟩
  · refine ⟨v.toInt64 - 1000000000, σ, pI σ 45 16 0, ?_, ?_, Inv_core c16 hI⟩
    · unfold mX10_rounds mX10_ofLongs
      rw [v3, cl2_e, if_neg v1, cl2_e]
    · unfold mX11_rounds
      rw [kl_e, v4 _ (by rw [lm_16, hI.1]), cl2_e, if_neg v2, v4 _ (by rw [lm_16, hI.1]), cl2_e, v5]
  · obtain ⟨s0, s1, s2, s3, s4, s5⟩ := lay_c σ
    have hc0 := core_FB s5
    obtain ⟨τ, t1, t2, t3⟩ := walk_c s4 hp hq hn
    have hc : core τ = core σ := by rw [core_FW t3, hc0]
    have hcp : core (pI τ 45 16 0) = core σ := by rw [c16, hc]
    have hl : lm (pI τ 45 16 0) = ld σ 1 := by rw [lm_core hcp, hI.1]
    obtain ⟨ρ, r1, r2, r3⟩ := layWays_m (σ := pI τ 45 16 0) hp hq (by rw [hl, e5]) (by rw [hl, e6]) hn
    have hP : ∀ x y, x < 36 → y < 36 → Pm (pI τ 45 16 0) x y = PrL (ld σ 1) x y := fun x y hx hy => by rw [Pm_core hcp, Pm_Inv hI hx hy]
    have hcr : core ρ = core σ := by rw [core_FU r3, hcp]
    refine ⟨lN (itW (PrL (ld σ 1)) p q n p q), τ, ρ, ?_, ?_, Inv_core hcr hI⟩
    · unfold mX10_rounds mX0_walksTo
      rw [v3, cl2_e, if_pos rfl, s1, cl1_e, kl_e, kl_e, ld_s (k := 5) (by omega), ld_s (k := 6) (by omega), ld_core hc0, e5, e6, t1, cl1_e, kl_e, kl_e, ld_s (k := 5) (by omega), ld_s (k := 6) (by omega), ld_core hc, e5, e6, cell_c hp, cl2_e, if_neg n10, cell_c hq, cl2_e, if_neg n10, ix36, ldL_1296 (by omega), cl2_e, t2 p q hp hq]
    · unfold mX11_rounds
      rw [kl_e, v4 _ hl, cl2_e, if_pos (by decide), r1, cl1_e, kl_e, kl_e, lm_s (k := 5) (by omega), lm_s (k := 6) (by omega), lm_core hcr, ← hI.1, e5, e6, ix36', ldL_1296 (by omega), r2 p q hp hq]
      exact congrArg (fun x => some (lN x, ρ)) (itW_eq hP n p q hp hq)
