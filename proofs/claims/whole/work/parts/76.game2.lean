/-! ===== PURE: game, of the reference ===== -/
theorem on1_lt0 {x : Option Nat} (h : ∀ m, x = some m → m ≤ 15) : (on1 x < 0) = (x = none) := by
  apply propext
  cases x with
  | none => simp [on1]
  | some m => simp only [on1, nI_lt0 (n := m) (by have := h m rfl; omega)]; simp
theorem farBy_m {L : Ld} {p q i j : Nat} {σ : St} (hl : lm σ = L) (hL : Ldok L) (hO : ∀ c, c < 36 → Om σ c = Op L c) (hp : p < 36) (hq : q < 36) (e5 : ls L 5 = nI p) (e6 : ls L 6 = nI q) (hi : i < 5) (hj : j < 5) : mX11_farBy (nI i) (nI j) σ = some (on1 (gF (Op L) L p q i j), σ) := by
  unfold mX11_farBy mX11_farBy_30
  simp only [kl_e, lm_s (σ := σ) (k := 5) (by omega), lm_s (σ := σ) (k := 6) (by omega), hl, e5, e6, goneTo_m hp hi, goneTo_m hq hj, cl2_e, gone_eq hO hp hi, gone_eq hO hq hj]
  unfold gF
  cases y1 : gone (Op L) p i with
  | none => rw [if_pos oi_n0]; rfl
  | some a =>
    have ha := gone_lt hp hi y1
    rw [if_neg (oi_nn ha)]
    cases y2 : gone (Op L) q j with
    | none => rw [if_neg (show ¬ 0 ≤ oi none by decide)]; rfl
    | some b =>
      have hb := gone_lt hq hj y2
      rw [if_pos (show 0 ≤ oi (some b) from nI_pos' (by omega)), show oi (some a) = nI a from rfl, show oi (some b) = nI b from rfl, far_m ha hb, cl2_e, hl, (FrN_e hL ha hb).1]
      rfl
/-- farBy answers by G -/
def Fb (G : GF) (σ : St) : Prop := ∀ i j, i < 5 → j < 5 → mX11_farBy (nI i) (nI j) σ = some (on1 (G i j), σ)
theorem rests_m {G : GF} {i j : Nat} {σ : St} (h : Fb G σ) (hG : Gok G) (hi : i < 5) (hj : j < 5) : mX11_rests (nI i) (nI j) σ = some (b2 (held G i j), σ) := by
  unfold mX11_rests mX11_rests_16
  rw [h i j hi hj, cl2_e]
  simp only [kl_e]
  have hlp : (lp (fun _ _ _ => none) (mX11_rests_21 (nI j) (nI i) (on1 (G i j))) 2000) (b2 (G i j).isSome) (0 : Int32) σ = some (b2 (held G i j), σ) := by
    have e0 : (b2 (G i j).isSome) = b2 ((G i j).isSome && !anyN (fun w => !heldW G i j w) 0) := by
      show _ = b2 ((G i j).isSome && true)
      rw [Bool.and_true]
    rw [e0]
    refine lp_for (app := fun w (J : Int32 → Int32 → St → Option (Int32 × St)) => J (b2 ((G i j).isSome && !anyN (fun w => !heldW G i j w) w)) (nI w) σ) 5 _ ?_ ?_ 2000 (by omega)
    · intro w hw J
      have hS : ((G i j).isSome && !anyN (fun w => !heldW G i j w) (w + 1)) = (((G i j).isSome && !anyN (fun w => !heldW G i j w) w) && heldW G i j w) := by
        show ((G i j).isSome && !(anyN (fun w => !heldW G i j w) w || !heldW G i j w)) = _
        cases (G i j).isSome <;> cases anyN (fun w => !heldW G i j w) w <;> cases heldW G i j w <;> rfl
      rw [hS]
      unfold mX11_rests_21 mX11_rests_77 mX11_rests_76 mX11_rests_61 mX11_rests_72
      rw [if_neg (lt5 hw), h w j hw hj, cl2_e, h i w hi hw, cl2_e]
      simp only [kl_e, nI_1]
      cases y : ((G i j).isSome && !anyN (fun w => !heldW G i j w) w)
      · rw [b2_f, if_pos rfl]; rfl
      · rw [b2_t, if_neg n10, Bool.true_and]
        rw [Bool.and_eq_true] at y
        cases e : G i j with
        | none => rw [e] at y; cases y.1
        | some m =>
          have hm := hG i j m hi hj e
          have hW : heldW G i j w = ((match G w j with | none => true | some a => decide (m ≤ a)) && (match G i w with | none => true | some b => decide (b ≤ m))) := by unfold heldW; rw [e]; rfl
          have second : (match G w j with | none => true | some a => decide (m ≤ a)) = true → (if on1 (G i w) < 0 then J 1 (nI (w + 1)) σ else if on1 (some m) < on1 (G i w) then J 0 (nI (w + 1)) σ else J 1 (nI (w + 1)) σ) = J (b2 (heldW G i j w)) (nI (w + 1)) σ := by
            intro y1
            cases y2 : G i w with
            | none =>
              rw [if_pos (show on1 none < 0 by decide)]
              rw [show heldW G i j w = true by rw [hW, y1, y2]; rfl]; rfl
            | some b =>
              have hb := hG i w b hi hw y2
              rw [if_neg (show ¬ on1 (some b) < 0 from nI_pos (by omega))]
              by_cases c : m < b
              · rw [if_pos (show on1 (some m) < on1 (some b) from nI_lt c (by omega))]
                rw [show heldW G i j w = false by rw [hW, y1, y2]; show (true && decide (b ≤ m)) = false; rw [decide_eq_false (by omega)]; rfl]; rfl
              · rw [if_neg (show ¬ on1 (some m) < on1 (some b) from nI_nlt (by omega) (by omega))]
                rw [show heldW G i j w = true by rw [hW, y1, y2]; show (true && decide (b ≤ m)) = true; rw [decide_eq_true (by omega)]; rfl]; rfl
          cases y1 : G w j with
          | none =>
            rw [if_pos (show on1 none < 0 by decide)]
            exact second (by rw [y1])
          | some a =>
            have ha := hG w j a hw hj y1
            rw [if_neg (show ¬ on1 (some a) < 0 from nI_pos (by omega))]
            by_cases c : a < m
            · rw [if_pos (show on1 (some a) < on1 (some m) from nI_lt c (by omega))]
              rw [show heldW G i j w = false by rw [hW, y1]; show (decide (m ≤ a) && _) = false; rw [decide_eq_false (by omega)]; rfl]; rfl
            · rw [if_neg (show ¬ on1 (some a) < on1 (some m) from nI_nlt (by omega) (by omega))]
              exact second (by rw [y1]; exact decide_eq_true (by omega))
    · intro J
      unfold mX11_rests_21
      rw [if_pos at5, rz_b]
      rfl
  cases e : G i j with
  | none =>
    rw [if_pos (show on1 none < 0 by decide)]
    rw [e] at hlp
    exact hlp
  | some m =>
    have hm := hG i j m hi hj e
    rw [if_neg (show ¬ on1 (some m) < 0 from nI_pos (by omega))]
    rw [e] at hlp
    exact hlp
def dn (t : Nat) : Int32 := if t < 5 then nI (4 - t) else -1
theorem dn_t : ∀ t, t < 5 → dn t + (-1) = dn (t + 1) ∧ ¬ dn t < 0 ∧ dn t = nI (4 - t) := by decide +kernel
theorem dn_5 : dn 5 < 0 := by decide
def pvf (G : GF) : Nat → Int32
  | 0 => -4
  | T + 1 => if heldF G (24 - T) then code5 (24 - T) else pvf G T
theorem pvf_spec (G : GF) : ∀ T, T ≤ 25 → ((∀ k, 25 - T ≤ k → k < 25 → heldF G k = false) ∧ pvf G T = -4) ∨ ∃ k, 25 - T ≤ k ∧ k < 25 ∧ heldF G k = true ∧ (∀ e, 25 - T ≤ e → e < k → heldF G e = false) ∧ pvf G T = code5 k
  | 0, _ => Or.inl ⟨fun k h1 h2 => by omega, rfl⟩
  | T + 1, hT => by
    unfold pvf
    cases y : heldF G (24 - T)
    · rw [if_neg (by decide)]
      rcases pvf_spec G T (by omega) with ⟨h1, h2⟩ | ⟨k, h1, h2, h3, h4, h5⟩
      · exact Or.inl ⟨fun k a b => by
          by_cases z : k = 24 - T
          · rw [z]; exact y
          · exact h1 k (by omega) b, h2⟩
      · exact Or.inr ⟨k, by omega, h2, h3, fun e a b => by
          by_cases z : e = 24 - T
          · rw [z]; exact y
          · exact h4 e (by omega) b, h5⟩
    · rw [if_pos rfl]
      exact Or.inr ⟨24 - T, by omega, by omega, y, fun e a b => by omega, rfl⟩
theorem pvf_25 (G : GF) : pvf G 25 = fhV G := by
  unfold fhV
  rcases pvf_spec G 25 (by omega) with ⟨h1, h2⟩ | ⟨k, h1, h2, h3, h4, h5⟩
  · rw [h2, fst_all (fun i hi => h1 i (by omega) hi), if_neg (by omega)]
  · rw [h5, fst_is h2 h3 (fun i hi => h4 i (by omega) hi), if_pos h2]
def o999 : Option Nat → Int32
  | none => 999
  | some m => nI m
theorem game_m {G : GF} {a1 : Int32} {σ : St} (h : Fb G σ) (hG : Gok G) : (lp (fun _ _ _ _ => none) (mX11_game_37 a1) 2000) (-4 : Int32) (999 : Int32) (4 : Int32) σ = some (if a1 = 0 then fhV G else o999 (lsu G), σ) := by
  have hin : ∀ t, t < 5 → mxO (fun u => G (4 - t) (4 - u)) 5 = wst G (4 - t) := fun t _ => mxO_rev (fun i hi => rfl)
  have hout : mnO (fun t => wst G (4 - t)) 5 = lsu G := mnO_rev (fun i hi => rfl)
  rw [← hout, ← pvf_25]
  refine lp_for (app := fun t (J : Int32 → Int32 → Int32 → St → Option (Int32 × St)) => J (pvf G (5 * t)) (o999 (mnO (fun t => wst G (4 - t)) t)) (dn t) σ) 5 _ ?_ ?_ 2000 (by omega)
  · intro t ht J
    show mX11_game_37 a1 J (pvf G (5 * t)) (o999 (mnO (fun t => wst G (4 - t)) t)) (dn t) σ = _
    unfold mX11_game_37
    rw [if_neg (dn_t t ht).2.1, kl_e, (dn_t t ht).2.2]
    have hi : 4 - t < 5 := by omega
    refine lp_for (app := fun u (J' : Int32 → Int32 → Int32 → St → Option (Int32 × St)) => J' (pvf G (5 * t + u)) (on1 (mxO (fun u => G (4 - t) (4 - u)) u)) (dn u) σ) 5 _ ?_ ?_ 2000 (by omega)
    · intro u hu J'
      show mX11_game_48 J (nI (4 - t)) _ J' (pvf G (5 * t + u)) (on1 (mxO (fun u => G (4 - t) (4 - u)) u)) (dn u) σ = _
      unfold mX11_game_48 mX11_game_76 mX11_game_103
      have hj : 4 - u < 5 := by omega
      rw [if_neg (dn_t u hu).2.1]
      simp only [(dn_t u hu).2.2, rests_m h hG hi hj, cl2_e, kl_e, h _ _ hi hj]
      rw [show nI (4 - u) + (-1) = dn (u + 1) from by rw [← (dn_t u hu).2.2, (dn_t u hu).1]]
      have hk : heldF G (24 - (5 * t + u)) = held G (4 - t) (4 - u) := by
        unfold heldF
        rw [show (24 - (5 * t + u)) / 5 = 4 - t by omega, show (24 - (5 * t + u)) % 5 = 4 - u by omega]
      have hpv : pvf G (5 * t + (u + 1)) = if held G (4 - t) (4 - u) then 10 * nI (4 - t) + nI (4 - u) else pvf G (5 * t + u) := by
        show (if heldF G (24 - (5 * t + u)) then code5 (24 - (5 * t + u)) else pvf G (5 * t + u)) = _
        rw [hk, ix10]
        unfold code5
        rw [show (24 - (5 * t + u)) / 5 = 4 - t by omega, show (24 - (5 * t + u)) % 5 = 4 - u by omega]
      have hmx : on1 (mxO (fun u => G (4 - t) (4 - u)) (u + 1)) = if on1 (G (4 - t) (4 - u)) ≤ on1 (mxO (fun u => G (4 - t) (4 - u)) u) then on1 (mxO (fun u => G (4 - t) (4 - u)) u) else on1 (G (4 - t) (4 - u)) := by
        rw [show mxO (fun u => G (4 - t) (4 - u)) (u + 1) = (match mxO (fun u => G (4 - t) (4 - u)) u, G (4 - t) (4 - u) with | none, y => y | some a, none => some a | some a, some b => some (if a < b then b else a)) from rfl]
        have hle : ∀ a, mxO (fun u => G (4 - t) (4 - u)) u = some a → a ≤ 15 := fun a e => mxO_le (fun k m hk hm => hG _ _ m hi (by omega) hm) e
        cases y1 : mxO (fun u => G (4 - t) (4 - u)) u with
        | none =>
          cases y2 : G (4 - t) (4 - u) with
          | none => rw [if_pos (by decide)]
          | some b =>
            have hb := hG _ _ b hi hj y2
            have q : ∀ b, b ≤ 15 → ¬ nI b ≤ on1 none := by decide +kernel
            rw [if_neg (show ¬ on1 (some b) ≤ on1 none from q b hb)]
        | some a =>
          have ha := hle a y1
          cases y2 : G (4 - t) (4 - u) with
          | none =>
            have q : ∀ b, b ≤ 15 → on1 none ≤ nI b := by decide +kernel
            rw [if_pos (show on1 none ≤ on1 (some a) from q a ha)]
          | some b =>
            have hb := hG _ _ b hi hj y2
            show on1 (some (if a < b then b else a)) = _
            by_cases c : a < b
            · rw [if_pos c, if_neg (show ¬ on1 (some b) ≤ on1 (some a) from nI_ge c (by omega))]
            · rw [if_neg c, if_pos (show on1 (some b) ≤ on1 (some a) from nI_le (by omega) (by omega))]
      rw [hpv, hmx, b2_c]
      cases held G (4 - t) (4 - u)
      · rw [if_neg (show ¬ false = true by decide), if_neg (show ¬ false = true by decide)]
        by_cases c : on1 (G (4 - t) (4 - u)) ≤ on1 (mxO (fun u => G (4 - t) (4 - u)) u)
        · rw [if_pos c, if_pos c]
        · rw [if_neg c, if_neg c]
      · rw [if_pos (show true = true from rfl), if_pos (show true = true from rfl)]
        by_cases c : on1 (G (4 - t) (4 - u)) ≤ on1 (mxO (fun u => G (4 - t) (4 - u)) u)
        · rw [if_pos c, if_pos c]
        · rw [if_neg c, if_neg c]
    · intro J'
      show mX11_game_48 J (nI (4 - t)) _ J' (pvf G (5 * t + 5)) (on1 (mxO (fun u => G (4 - t) (4 - u)) 5)) (dn 5) σ = _
      unfold mX11_game_48 mX11_game_127 mX11_game_128
      rw [if_pos dn_5, hin t ht, show 5 * (t + 1) = 5 * t + 5 by omega]
      simp only [kl_e]
      rw [show nI (4 - t) + (-1) = dn (t + 1) from by rw [← (dn_t t ht).2.2, (dn_t t ht).1]]
      rw [show mnO (fun t => wst G (4 - t)) (t + 1) = (match mnO (fun t => wst G (4 - t)) t, wst G (4 - t) with | none, y => y | some a, none => some a | some a, some b => some (if a ≤ b then a else b)) from rfl]
      have hle : ∀ a, mnO (fun t => wst G (4 - t)) t = some a → a ≤ 15 := fun a e => mnO_le (fun k m hk hm => wst_le hG (by omega) hm) e
      cases y2 : wst G (4 - t) with
      | none =>
        rw [if_pos (show on1 none < 0 by decide)]
        cases y1 : mnO (fun t => wst G (4 - t)) t <;> rfl
      | some b =>
        have hb := wst_le hG hi y2
        rw [if_neg (show ¬ on1 (some b) < 0 from nI_pos (by omega))]
        cases y1 : mnO (fun t => wst G (4 - t)) t with
        | none =>
          have q : ∀ b, b ≤ 15 → ¬ o999 none ≤ nI b := by decide +kernel
          rw [if_neg (show ¬ o999 none ≤ on1 (some b) from q b hb)]
          rfl
        | some a =>
          have ha := hle a y1
          show _ = J _ (o999 (some (if a ≤ b then a else b))) _ _
          by_cases c : a ≤ b
          · rw [if_pos (show o999 (some a) ≤ on1 (some b) from nI_le c (by omega)), if_pos c]
          · rw [if_neg (show ¬ o999 (some a) ≤ on1 (some b) from nI_ge (by omega) (by omega)), if_neg c]
            rfl
  · intro J
    show mX11_game_37 a1 J (pvf G 25) _ (dn 5) σ = _
    unfold mX11_game_37
    rw [if_pos dn_5]
    by_cases y : a1 = 0
    · rw [if_pos y, if_pos y]
    · rw [if_neg y, if_neg y]
theorem s_game : stp132 Inv mX10_game mX11_game := by
  intro σ a hI
  have j1 : ∀ τ, mX11_in a.toInt64 (0 : Int64) (1 : Int64) τ = some (b2 (inR a 0 1), τ) := fun τ => in_m a 0 1 τ
  cases h : inR a 0 1
  · refine ag (f := mX10_game a) (g := mX11_game a) (v := -1) (ρ := σ) (τ := pI σ 45 16 0) ?_ ?_ c16 hI
    · unfold mX10_game
      simp only [either_c, h, b2_f, cl2_e, ite_true]
    · unfold mX11_game
      simp only [j1, h, b2_f, cl2_e, kl_e, ite_true]
  rcases both_or hI with ⟨y1, y2⟩ | ⟨p, q, hp, hq, e5, e6, y1, y2⟩
  · refine ag (f := mX10_game a) (g := mX11_game a) (v := -3) (ρ := σ) (τ := pI σ 45 16 0) ?_ ?_ c16 hI
    · unfold mX10_game
      simp only [either_c, h, b2_t, if_neg n10, cl2_e, y1, ite_true]
    · unfold mX11_game
      simp only [j1, h, b2_t, if_neg n10, cl2_e, kl_e, y2 (pI σ 45 16 0) (by rw [lm_16, hI.1]), ite_true]
  · obtain ⟨τ, e1, e2, e3⟩ := play_c (L := ld σ 1) rfl hI.2.1 hp hq e5 e6
    have hc : core τ = core σ := core_Fx (fun o k e => e.elim) (fun a e => by subst e; rfl) (fun a e => e.elim) e3
    have hcp : core (pI τ 45 16 0) = core σ := by rw [c16, hc]
    have hl : lm (pI τ 45 16 0) = ld σ 1 := by rw [lm_core hcp, hI.1]
    have hG : Gok (gF (Op (ld σ 1)) (ld σ 1) p q) := fun i j m hi hj e => gF_le hI.2.1 hp hq hi hj e
    have hFb : Fb (gF (Op (ld σ 1)) (ld σ 1) p q) (pI τ 45 16 0) := fun i j hi hj => farBy_m hl hI.2.1 (fun c hc' => by rw [Om_core hcp, Inv_Om hI hc']) hp hq e5 e6 hi hj
    have hsome : ∃ v, lsu (gF (Op (ld σ 1)) (ld σ 1) p q) = some v := by
      rcases mnO_spec (wst (gF (Op (ld σ 1)) (ld σ 1) p q)) 5 with ⟨_, z⟩ | ⟨v, e, _⟩
      · exfalso
        have z0 := z 0 (by omega)
        rcases mxO_spec (gF (Op (ld σ 1)) (ld σ 1) p q 0) 5 with ⟨_, z1⟩ | ⟨v, e, _⟩
        · have := z1 0 (by omega)
          cases this
        · unfold wst at z0
          rw [e] at z0; cases z0
      · exact ⟨v, e⟩
    obtain ⟨v, hv⟩ := hsome
    refine ag (f := mX10_game a) (g := mX11_game a) (v := if a = 0 then fhV (gF (Op (ld σ 1)) (ld σ 1) p q) else nI v) (ρ := τ) (τ := pI τ 45 16 0) ?_ ?_ hcp hI
    · unfold mX10_game
      simp only [either_c, h, b2_t, if_neg n10, cl2_e, y1, e1, cl1_e, firstHeld_c e2 hG, leastSure_c e2 hG, hv]
      by_cases z : a = 0
      · rw [if_pos z, if_pos z]
      · rw [if_neg z, if_neg z]; rfl
    · unfold mX11_game
      simp only [j1, h, b2_t, if_neg n10, cl2_e, kl_e, y2 _ hl, game_m hFb hG, hv]
      rfl
