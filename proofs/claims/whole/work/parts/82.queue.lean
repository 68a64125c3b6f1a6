/-! ===== PURE: the reference's days by its queue ===== -/
/-- one pair leads to another -/
def A2 (k c : Nat) : Bool := adj (k / 36) (c / 36) && adj (k % 36) (c % 36)
theorem adj_r : ∀ a, a < 36 → adj a a = true := by decide +kernel
theorem A2_r {k : Nat} (h : k < 1296) : A2 k k = true := by
  unfold A2
  rw [adj_r _ (by omega), adj_r _ (by omega)]; rfl
theorem adj_iff {a b : Nat} : adj a b = true ↔ ∃ d, d < 5 ∧ nbo a d = some b := by
  unfold adj
  rw [anyN_iff]
  exact ⟨fun ⟨d, h1, h2⟩ => ⟨d, h1, of_decide_eq_true h2⟩, fun ⟨d, h1, h2⟩ => ⟨d, h1, decide_eq_true h2⟩⟩
def dV (N d : Nat) : Int32 := if d < N then nI d else 9999
theorem ldA_12 {ρ : Type} {σ : St} {a i : Nat} {f : Int32 → Option ρ} (h : i < 1296) : ldA σ a 1296 (nI i) f = f (gA σ a i) := ldA_n h (by omega)
abbrev FQ (σ τ : St) : Prop := Fx (fun _ _ => False) (fun a => a = 60 ∨ a = 61) (fun _ => False) σ τ
theorem core_FQ {σ τ : St} (h : FQ σ τ) : core τ = core σ := core_Fx (fun o k e => e.elim) (fun a e => by rcases e with rfl | rfl <;> rfl) (fun a e => e.elim) h
/-- the rows hold the queue -/
def RQ (N : Nat) (P : Nat → Bool) (src : Nat) (Q : Nat → Nat) (m : Nat) (s : St) : Prop := (∀ k, k < N → gA s 60 k = if inQ Q m k then nI (Dx N A2 P src k) else 9999) ∧ ∀ j, j < m → gA s 61 j = nI (Q j)
theorem nI_99 {n : Nat} (h : n < 9999) : ¬ nI n = (9999 : Int32) := nI_ne (b := 9999) (by omega) (by omega) (by omega)
theorem turn_m {N src m i q : Nat} {Q : Nat → Nat} {J63 : Int32 → Int32 → St → Option St} {σ s : St} (hN : N = 1296) (hQ : QJ N A2 (fl2 (Pm σ)) src Q m i q) (hR : RQ N (fl2 (Pm σ)) src Q m s) (hF : FQ σ s) : ∃ m' Q' τ, (lp (fun _ _ _ => none) (mX11_layDaysFrom_72 J63 (nI i)) 2000) (nI m) (0 : Int32) s = J63 (nI m') (nI (i + 1)) τ ∧ QI N A2 (fl2 (Pm σ)) src Q' m' (i + 1) ∧ RQ N (fl2 (Pm σ)) src Q' m' τ ∧ FQ σ τ := by
  have hr : ∀ k, k < N → A2 k k = true := fun k hk => A2_r (by omega)
  have hq : q < N := by rw [← hQ.2.1]; exact (hQ.2.2.2.1 i hQ.1).1
  refine lp_rel (app := fun w (x : Nat × (Nat → Nat) × St) (J : Int32 → Int32 → St → Option St) => J (nI x.1) (nI w) x.2.2) (P := fun w x => QJ N A2 (fl2 (Pm σ)) src x.2.1 x.1 i q ∧ RQ N (fl2 (Pm σ)) src x.2.1 x.1 x.2.2 ∧ FQ σ x.2.2 ∧ ∀ w' a b, w' < w → gone (Om σ) (q / 36) (w' / 5) = some a → gone (Om σ) (q % 36) (w' % 5) = some b → Pm σ a b = true → inQ x.2.1 x.1 (36 * a + b) = true) 25 (Q := fun r => ∃ m' Q' τ, r = J63 (nI m') (nI (i + 1)) τ ∧ QI N A2 (fl2 (Pm σ)) src Q' m' (i + 1) ∧ RQ N (fl2 (Pm σ)) src Q' m' τ ∧ FQ σ τ) ?_ ?_ 2000 (by omega) (m, Q, s) ⟨hQ, hR, hF, fun w' a b h => absurd h (Nat.not_lt_zero _)⟩
  · rintro w ⟨m, Q, s⟩ hw ⟨g1, g2, g3, g4⟩ J
    simp only at g1 g2 g3 g4
    have hc := core_FQ g3
    have hqi : gA s 61 i = nI q := by rw [g2.2 i g1.1, g1.2.1]
    have hmN : m ≤ N := g1.2.2.1
    have hin : inQ Q m q = true := inQ_iff.2 ⟨i, g1.1, g1.2.1⟩
    have hdq : gA s 60 q = nI (Dx N A2 (fl2 (Pm σ)) src q) := by rw [g2.1 q hq, if_pos hin]
    have hDq : Dx N A2 (fl2 (Pm σ)) src q < N := by rw [← g1.2.1]; exact (g1.2.2.2.1 i g1.1).2
    show ∃ x' : Nat × (Nat → Nat) × St, _ ∧ mX11_layDaysFrom_72 J63 (nI i) J (nI m) (nI w) s = J (nI x'.1) (nI (w + 1)) x'.2.2
    unfold mX11_layDaysFrom_72 mX11_layDaysFrom_203
    rw [if_neg (lt25 hw), ldA_12 (show i < 1296 by have := g1.1; omega), hqi, (k36 (show q < 2 ^ 31 by omega)).1, (k5 (show w < 2 ^ 31 by omega)).2, (k5 (show w < 2 ^ 31 by omega)).1, goneTo_m (by omega) (by omega), cl2_e, ldA_12 (show i < 1296 by have := g1.1; omega), hqi, (k36 (show q < 2 ^ 31 by omega)).2, goneTo_m (by omega) (by omega), cl2_e]
    simp only [kl_e, nI_1]
    rw [Om_core hc]
    have no : (∀ a b, gone (Om σ) (q / 36) (w / 5) = some a → gone (Om σ) (q % 36) (w % 5) = some b → Pm σ a b = true → inQ Q m (36 * a + b) = true) → ∃ x' : Nat × (Nat → Nat) × St, (QJ N A2 (fl2 (Pm σ)) src x'.2.1 x'.1 i q ∧ RQ N (fl2 (Pm σ)) src x'.2.1 x'.1 x'.2.2 ∧ FQ σ x'.2.2 ∧ ∀ w' a b, w' < w + 1 → gone (Om σ) (q / 36) (w' / 5) = some a → gone (Om σ) (q % 36) (w' % 5) = some b → Pm σ a b = true → inQ x'.2.1 x'.1 (36 * a + b) = true) ∧ J (nI m) (nI (w + 1)) s = J (nI x'.1) (nI (w + 1)) x'.2.2 := fun h => ⟨(m, Q, s), ⟨g1, g2, g3, fun w' a b hw' e1 e2 e3 => by
      by_cases y : w' = w
      · rw [y] at e1 e2; exact h a b e1 e2 e3
      · exact g4 w' a b (by omega) e1 e2 e3⟩, rfl⟩
    cases c1 : gone (Om σ) (q / 36) (w / 5) with
    | none =>
      rw [if_pos oi_n0]
      exact no (fun a b e1 => by rw [c1] at e1; cases e1)
    | some a =>
      have ha := gone_lt (by omega) (by omega) c1
      rw [if_neg (oi_nn ha)]
      cases c2 : gone (Om σ) (q % 36) (w % 5) with
      | none =>
        rw [if_pos oi_n0]
        exact no (fun a b e1 e2 => by rw [c2] at e2; cases e2)
      | some b =>
        have hb := gone_lt (by omega) (by omega) c2
        have hk : 36 * a + b < N := by omega
        rw [if_neg (oi_nn hb), show oi (some a) = nI a from rfl, show oi (some b) = nI b from rfl, ix36', ldA_12 (by omega), g2.1 _ hk]
        cases c4 : inQ Q m (36 * a + b)
        · rw [if_neg (show ¬ false = true by decide), if_pos rfl, isPair_m ha hb, cl2_e, Pm_core hc]
          cases c3 : Pm σ a b
          · rw [b2_f, if_pos rfl]
            exact no (fun a' b' e1 e2 e3 => by
              rw [c1] at e1; rw [c2] at e2; cases e1; cases e2
              rw [c3] at e3; cases e3)
          · have hP : fl2 (Pm σ) (36 * a + b) = true := by rw [fl2_at hb]; exact c3
            have hA : A2 q (36 * a + b) = true := by
              unfold A2
              rw [show (36 * a + b) / 36 = a by omega, show (36 * a + b) % 36 = b by omega, Bool.and_eq_true]
              have hO : Om σ a = true ∧ Om σ b = true := by
                unfold Pm Pr at c3
                rw [Bool.and_eq_true, Bool.and_eq_true] at c3
                exact ⟨c3.1, c3.2.1⟩
              exact ⟨adj_iff.2 ⟨w / 5, by omega, by rw [← gone_nbo hO.1]; exact c1⟩, adj_iff.2 ⟨w % 5, by omega, by rw [← gone_nbo hO.2]; exact c2⟩⟩
            obtain ⟨q1, q2, q3⟩ := QJ_add hr g1 hk hP hA c4
            rw [b2_t, if_neg n10, ldA_12 (show i < 1296 by have := g1.1; omega), hqi, ldA_12 (by omega), hdq, nI_1, stA_1296 (by omega), stA_1296 (by omega)]
            refine ⟨(m + 1, ap1 Q m (36 * a + b), pA (pA s 60 (36 * a + b) (nI (Dx N A2 (fl2 (Pm σ)) src q + 1))) 61 m (nI (36 * a + b))), ⟨q1, ⟨fun k hk' => ?_, fun j hj => ?_⟩, Fx_pA (Or.inr rfl) (Fx_pA (Or.inl rfl) g3), fun w' a' b' hw' e1 e2 e3 => ?_⟩, rfl⟩
            · show gA (pA (pA s 60 (36 * a + b) (nI (Dx N A2 (fl2 (Pm σ)) src q + 1))) 61 m (nI (36 * a + b))) 60 k = if inQ (ap1 Q m (36 * a + b)) (m + 1) k then nI (Dx N A2 (fl2 (Pm σ)) src k) else 9999
              rw [gA_pA_ne (by omega), ap1_in]
              by_cases y : k = 36 * a + b
              · rw [y, gA_pA_eq, decide_eq_true rfl, Bool.or_true, if_pos rfl, q2]
              · rw [gA_pA_ne (by omega), decide_eq_false (fun z => y z.symm), Bool.or_false]
                exact g2.1 k hk'
            · show gA (pA (pA s 60 (36 * a + b) (nI (Dx N A2 (fl2 (Pm σ)) src q + 1))) 61 m (nI (36 * a + b))) 61 j = nI (ap1 Q m (36 * a + b) j)
              by_cases y : j = m
              · rw [y, gA_pA_eq]
                unfold ap1
                rw [if_pos rfl]
              · have hj' : j < m + 1 := hj
                rw [gA_pA_ne (by omega), gA_pA_ne (by omega)]
                unfold ap1
                rw [if_neg y]
                exact g2.2 j (by omega)
            · show inQ (ap1 Q m (36 * a + b)) (m + 1) (36 * a' + b') = true
              rw [ap1_in]
              by_cases y : w' = w
              · rw [y] at e1 e2
                rw [c1] at e1; rw [c2] at e2; cases e1; cases e2
                rw [decide_eq_true rfl, Bool.or_true]
              · rw [g4 w' a' b' (by omega) e1 e2 e3]; rfl
        · rw [if_pos rfl, if_neg (nI_99 (by have := Dx_le (N := N) (A := A2) (P := fl2 (Pm σ)) (src := src) (36 * a + b); omega))]
          exact no (fun a' b' e1 e2 e3 => by
            rw [c1] at e1; rw [c2] at e2; cases e1; cases e2
            exact c4)
  · rintro ⟨m, Q, s⟩ ⟨g1, g2, g3, g4⟩ J
    simp only at g1 g2 g3 g4
    refine ⟨m, Q, s, ?_, QI_next g1 (fun k hk hA hP => ?_), g2, g3⟩
    · show mX11_layDaysFrom_72 J63 (nI i) J (nI m) (nI 25) s = _
      unfold mX11_layDaysFrom_72
      rw [if_pos (show (25 : Int32) ≤ nI 25 from Int32.le_refl _), nI_1]
    · unfold A2 at hA
      rw [Bool.and_eq_true] at hA
      obtain ⟨d1, h1, e1⟩ := adj_iff.1 hA.1
      obtain ⟨d2, h2, e2⟩ := adj_iff.1 hA.2
      have hP' : Pm σ (k / 36) (k % 36) = true := hP
      have hO : Om σ (k / 36) = true ∧ Om σ (k % 36) = true := by
        have z := hP'
        unfold Pm Pr at z
        rw [Bool.and_eq_true, Bool.and_eq_true] at z
        exact ⟨z.1, z.2.1⟩
      have := g4 (5 * d1 + d2) (k / 36) (k % 36) (by omega) (by rw [show (5 * d1 + d2) / 5 = d1 by omega, gone_nbo hO.1]; exact e1) (by rw [show (5 * d1 + d2) % 5 = d2 by omega, gone_nbo hO.2]; exact e2) hP'
      rwa [show 36 * (k / 36) + k % 36 = k by omega] at this
theorem layDays_m {N a b : Nat} {σ : St} (hN : N = 1296) (ha : a < 36) (hb : b < 36) : ∃ τ, mX11_layDaysFrom (nI a) (nI b) σ = some τ ∧ (∀ k, k < N → gA τ 60 k = dV N (Dx N A2 (fl2 (Pm σ)) (36 * a + b) k)) ∧ FQ σ τ := by
  have hr : ∀ k, k < N → A2 k k = true := fun k hk => A2_r (by omega)
  have hsrc : 36 * a + b < N := by omega
  unfold mX11_layDaysFrom
  rw [kl_e]
  refine lp_rel (app := fun i (s : St) (J : Int32 → St → Option St) => J (nI i) s) (P := fun i s => (∀ k, k < i → gA s 60 k = 9999) ∧ FQ σ s) N (Q := fun r => ∃ τ, r = some τ ∧ (∀ k, k < N → gA τ 60 k = dV N (Dx N A2 (fl2 (Pm σ)) (36 * a + b) k)) ∧ FQ σ τ) ?_ ?_ 2000 (by omega) σ ⟨fun k hk => by omega, Fx_rfl⟩
  · intro i s hi ⟨g1, g2⟩ J
    refine ⟨pA s 60 i 9999, ⟨fun k hk => ?_, Fx_pA (Or.inl rfl) g2⟩, ?_⟩
    · by_cases q : k = i
      · rw [q]; exact gA_pA_eq
      · rw [gA_pA_ne (by omega)]; exact g1 k (by omega)
    · show mX11_layDaysFrom_2 (nI a) (nI b) J (nI i) s = J (nI (i + 1)) _
      unfold mX11_layDaysFrom_2
      rw [if_neg (lt1296 (show i < 1296 by omega)), stA_1296 (by omega), nI_1]
  · intro s ⟨g1, g2⟩ J
    have hc := core_FQ g2
    show ∃ τ, mX11_layDaysFrom_2 (nI a) (nI b) J (nI N) s = some τ ∧ _
    unfold mX11_layDaysFrom_2
    rw [if_pos (show (1296 : Int32) ≤ nI N by rw [hN]; exact at1296), isPair_m ha hb, cl2_e, Pm_core hc]
    cases hp : Pm σ a b
    · rw [b2_f, if_pos rfl]
      refine ⟨s, rfl, fun k hk => ?_, g2⟩
      rw [g1 k hk, Dx_src hk hsrc (by rw [fl2_at hb]; exact hp)]
      unfold dV
      rw [if_neg (Nat.lt_irrefl _)]
    · have hPs : fl2 (Pm σ) (36 * a + b) = true := by rw [fl2_at hb]; exact hp
      rw [b2_t, if_neg n10, ix36', stA_1296 (by omega), show (0 : Int32) = nI 0 from rfl, stA_1296 (by omega), kl_e]
      have g3 : FQ σ (pA (pA s 60 (36 * a + b) (nI 0)) 61 0 (nI (36 * a + b))) := Fx_pA (Or.inr rfl) (Fx_pA (Or.inl rfl) g2)
      have R0 : RQ N (fl2 (Pm σ)) (36 * a + b) (fun _ => 36 * a + b) 1 (pA (pA s 60 (36 * a + b) (nI 0)) 61 0 (nI (36 * a + b))) := by
        refine ⟨fun k hk => ?_, fun j hj => ?_⟩
        · rw [gA_pA_ne (by omega)]
          by_cases y : k = 36 * a + b
          · rw [y, gA_pA_eq, if_pos (inQ_iff.2 ⟨0, by omega, rfl⟩), Dx_self hsrc hPs]
          · rw [gA_pA_ne (by omega), if_neg (fun z => by obtain ⟨j, _, e⟩ := inQ_iff.1 z; exact y e.symm)]
            exact g1 k hk
        · rw [show j = 0 by omega, gA_pA_eq]
      refine lp_wf (app := fun (x : Nat × Nat × (Nat → Nat) × St) (J : Int32 → Int32 → St → Option St) => J (nI x.1) (nI x.2.1) x.2.2.2) (m := fun x => N + 1 - x.2.1) (P := fun x => QI N A2 (fl2 (Pm σ)) (36 * a + b) x.2.2.1 x.1 x.2.1 ∧ RQ N (fl2 (Pm σ)) (36 * a + b) x.2.2.1 x.1 x.2.2.2 ∧ FQ σ x.2.2.2) (Q := fun r => ∃ τ, r = some τ ∧ (∀ k, k < N → gA τ 60 k = dV N (Dx N A2 (fl2 (Pm σ)) (36 * a + b) k)) ∧ FQ σ τ) ?_ 2000 (1, 0, fun _ => 36 * a + b, pA (pA s 60 (36 * a + b) (nI 0)) 61 0 (nI (36 * a + b))) ⟨QI_0 hsrc hPs, R0, g3⟩ (by show N + 1 - 0 < 2000; omega)
      rintro ⟨m, i, Q, s⟩ ⟨h1, h2, h3⟩ J
      simp only at h1 h2 h3
      have him := h1.1
      have hmN := h1.2.1
      show (∃ τ, mX11_layDaysFrom_63 J (nI m) (nI i) s = some τ ∧ _) ∨ _
      unfold mX11_layDaysFrom_63
      by_cases y : m ≤ i
      · left
        rw [if_pos (nI_le y (by omega))]
        have hmi : i = m := by omega
        rw [hmi] at h1
        refine ⟨s, rfl, fun k hk => ?_, h3⟩
        rw [h2.1 k hk]
        unfold dV
        by_cases z : Dx N A2 (fl2 (Pm σ)) (36 * a + b) k < N
        · rw [if_pos z, if_pos (QI_end hr (by omega) h1 _ k hk rfl z)]
        · rw [if_neg z, if_neg (fun w => by
            obtain ⟨j, hj, e⟩ := inQ_iff.1 w
            have := (h1.2.2.1 j hj).2
            rw [e] at this
            exact z this)]
      · right
        rw [if_neg (nI_ge (show i < m by omega) (by omega)), kl_e]
        obtain ⟨m', Q', τ, t1, t2, t3, t4⟩ := turn_m (J63 := J) hN (QJ_of hr (by omega) h1 (by omega)) h2 h3
        refine ⟨(m', i + 1, Q', τ), ⟨t2, t3, t4⟩, ?_, t1⟩
        show N + 1 - (i + 1) < N + 1 - i
        omega
