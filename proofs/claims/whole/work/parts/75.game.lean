/-! ===== PURE: how far, as a number; game ===== -/
theorem hv_t : ∀ k, k < 8 → ∀ f, f < 10 → ∃ h, h < 12 ∧ hv (nI k) (nI f) = nI h := by
  have key : ∀ k, k < 8 → ∀ f, f < 10 → hv (nI k) (nI f) = nI ((hv (nI k) (nI f)).toNatClampNeg) ∧ (hv (nI k) (nI f)).toNatClampNeg < 12 := by decide +kernel
  intro k hk f hf
  exact ⟨_, (key k hk f hf).2, (key k hk f hf).1⟩
def apV (a b : Nat) : Int32 := iabs (nI a / 6 - nI b / 6) + iabs ((nI a - nI a / 6 * 6) - (nI b - nI b / 6 * 6))
theorem ap_t : ∀ a, a < 36 → ∀ b, b < 36 → apV a b = nI ((apV a b).toNatClampNeg) ∧ (apV a b).toNatClampNeg ≤ 10 := by decide +kernel
theorem hh_t : ∀ a, a < 12 → ∀ b, b < 12 → iabs (nI a - nI b) / 2 = nI ((iabs (nI a - nI b) / 2).toNatClampNeg) ∧ (iabs (nI a - nI b) / 2).toNatClampNeg ≤ 5 := by decide +kernel
theorem Fr_n {L : Ld} (hL : Ldok L) {a b : Nat} (ha : a < 36) (hb : b < 36) : ∃ m, m ≤ 15 ∧ Fr L a b = nI m := by
  obtain ⟨k, f, hk, hf, e1, e2⟩ := hL.1 a ha
  obtain ⟨k', f', hk', hf', e3, e4⟩ := hL.1 b hb
  obtain ⟨h, hh, e5⟩ := hv_t k hk f hf
  obtain ⟨h', hh', e6⟩ := hv_t k' hk' f' hf'
  refine ⟨(apV a b).toNatClampNeg + (iabs (nI h - nI h') / 2).toNatClampNeg, ?_, ?_⟩
  · have := (ap_t a ha b hb).2
    have := (hh_t h hh h' hh').2
    omega
  · show apV a b + iabs (hv (lk L a) (lf L a) - hv (lk L b) (lf L b)) / 2 = _
    rw [e1, e2, e3, e4, e5, e6, (ap_t a ha b hb).1, (hh_t h hh h' hh').1, nI_add]
    rw [nI_clamp (by have := (ap_t a ha b hb).2; omega), nI_clamp (by have := (hh_t h hh h' hh').2; omega)]
def FrN (L : Ld) (a b : Nat) : Nat := (Fr L a b).toNatClampNeg
theorem FrN_e {L : Ld} (hL : Ldok L) {a b : Nat} (ha : a < 36) (hb : b < 36) : Fr L a b = nI (FrN L a b) ∧ FrN L a b ≤ 15 := by
  obtain ⟨m, hm, e⟩ := Fr_n hL ha hb
  unfold FrN
  rw [e, nI_clamp (by omega)]
  exact ⟨rfl, hm⟩
/-- how far by two ways -/
def gF (O : Nat → Bool) (L : Ld) (p q i j : Nat) : Option Nat := match gone O p i, gone O q j with
  | some a, some b => some (FrN L a b)
  | _, _ => none
theorem gF_le {O : Nat → Bool} {L : Ld} (hL : Ldok L) {p q i j m : Nat} (hp : p < 36) (hq : q < 36) (hi : i < 5) (hj : j < 5) (h : gF O L p q i j = some m) : m ≤ 15 := by
  unfold gF at h
  cases e1 : gone O p i with
  | none => rw [e1] at h; cases h
  | some a =>
    cases e2 : gone O q j with
    | none => rw [e1, e2] at h; cases h
    | some b =>
      rw [e1, e2] at h
      cases h
      exact (FrN_e hL (gone_lt hp hi e1) (gone_lt hq hj e2)).2
def on1 : Option Nat → Int32
  | none => -1
  | some m => nI m
theorem ix5 {a b : Nat} : nI a * (5 : Int32) + nI b = nI (5 * a + b) := by
  rw [show (5 : Int32) = nI 5 from rfl, pk_mul, nI_add, Nat.mul_comm a 5]
theorem play_c {L : Ld} {p q : Nat} {σ : St} (hl : ld σ 1 = L) (hL : Ldok L) (hp : p < 36) (hq : q < 36) (e5 : ls L 5 = nI p) (e6 : ls L 6 = nI q) : ∃ τ, mX4_lay 1 σ = some τ ∧ (∀ i j, i < 5 → j < 5 → gA τ 43 (5 * i + j) = oi (gF (Op L) L p q i j)) ∧ Fx (fun _ _ => False) (fun a => a = 43) (fun _ => False) σ τ := by
  unfold mX4_lay
  rw [kl_e]
  have hI : ∀ {s : St}, Fx (fun _ _ => False) (fun a => a = 43) (fun _ => False) σ s → ld s 1 = L := fun {s} h => by rw [← hl]; exact ld_core (core_Fx (fun o k e => e.elim) (fun a e => by subst e; rfl) (fun a e => e.elim) h)
  refine lp_rel (app := fun i (s : St) (J : Int32 → St → Option St) => J (nI i) s) (P := fun i s => (∀ c j, c < i → j < 5 → gA s 43 (5 * c + j) = oi (gF (Op L) L p q c j)) ∧ Fx (fun _ _ => False) (fun a => a = 43) (fun _ => False) σ s) 5 (Q := fun r => ∃ τ, r = some τ ∧ (∀ i j, i < 5 → j < 5 → gA τ 43 (5 * i + j) = oi (gF (Op L) L p q i j)) ∧ Fx (fun _ _ => False) (fun a => a = 43) (fun _ => False) σ τ) ?_ ?_ 2000 (by omega) σ ⟨fun c j h => by omega, Fx_rfl⟩
  · intro i s hi ⟨g1, g2⟩ J
    show ∃ x', _ ∧ mX4_lay_2 1 J (nI i) s = J (nI (i + 1)) x'
    unfold mX4_lay_2
    rw [if_neg (lt5 hi), kl_e]
    refine lp_rel (app := fun j (s : St) (J : Int32 → St → Option St) => J (nI j) s) (P := fun j s => (∀ c e, (c < i ∧ e < 5) ∨ (c = i ∧ e < j) → gA s 43 (5 * c + e) = oi (gF (Op L) L p q c e)) ∧ Fx (fun _ _ => False) (fun a => a = 43) (fun _ => False) σ s) 5 (Q := fun r => ∃ x', ((∀ c e, c < i + 1 → e < 5 → gA x' 43 (5 * c + e) = oi (gF (Op L) L p q c e)) ∧ Fx (fun _ _ => False) (fun a => a = 43) (fun _ => False) σ x') ∧ r = J (nI (i + 1)) x') ?_ ?_ 2000 (by omega) s ⟨fun c e h => g1 c e (by omega) (by omega), g2⟩
    · intro j s hj ⟨g1, g2⟩ J'
      refine ⟨pA s 43 (5 * i + j) (oi (gF (Op L) L p q i j)), ⟨fun c e h => ?_, Fx_pA rfl g2⟩, ?_⟩
      · by_cases y : c = i ∧ e = j
        · obtain ⟨rfl, rfl⟩ := y; exact gA_pA_eq
        · rw [gA_pA_ne (by omega)]; exact g1 c e (by omega)
      · have hs := hI g2
        show mX4_lay_9 J (nI i) 1 J' (nI j) s = J' (nI (j + 1)) _
        have fin : ∀ v, mX4_lay_84 (nI i) (nI j) J' v s = J' (nI (j + 1)) (pA s 43 (5 * i + j) v) := fun v => by
          unfold mX4_lay_84
          rw [ix5, stA_n (by omega) (by omega), nI_1]
        unfold mX4_lay_9 mX4_lay_55 mX4_lay_54
        rw [if_neg (lt5 hj)]
        simp only [kl_e, ld_s (σ := s) (o := 1) (k := 5) (by omega), ld_s (σ := s) (o := 1) (k := 6) (by omega), hs, e5, e6, cellBy_c hp hi, cellBy_c hq hj, cl2_e, ite_true, if_neg n10, fin]
        unfold gF
        cases y1 : gone (Op L) p i with
        | none => rw [if_pos (show oi none = -4 from rfl)]; rfl
        | some a =>
          have ha := gone_lt hp hi y1
          rw [if_neg (show ¬ oi (some a) = -4 from nI_n4 a ha)]
          cases y2 : gone (Op L) q j with
          | none => rw [if_pos (show oi none = -4 from rfl)]; rfl
          | some b =>
            have hb := gone_lt hq hj y2
            rw [if_neg (show ¬ oi (some b) = -4 from nI_n4 b hb), show oi (some a) = nI a from rfl, show oi (some b) = nI b from rfl, far_c ha hb, cl2_e, fin, hs, (FrN_e hL ha hb).1]
            rfl
    · intro s ⟨g1, g2⟩ J'
      refine ⟨s, ⟨fun c e h1 h2 => g1 c e (by omega), g2⟩, ?_⟩
      show mX4_lay_9 J (nI i) 1 J' (nI 5) s = _
      unfold mX4_lay_9
      rw [if_pos at5, nI_1]
  · intro s ⟨g1, g2⟩ J
    refine ⟨s, ?_, g1, g2⟩
    show mX4_lay_2 1 J (nI 5) s = _
    unfold mX4_lay_2
    rw [if_pos at5]
abbrev GF : Type := Nat → Nat → Option Nat
def Pl (G : GF) (σ : St) : Prop := ∀ i j, i < 5 → j < 5 → gA σ 43 (5 * i + j) = oi (G i j)
theorem way_y {i : Nat} (h : i < 5) (σ : St) : mX10_isWay (nI i) σ = some (1, σ) := by
  rw [way_c, show (4 : Int32) = nI 4 from rfl, (inR_n (by omega)).2 ⟨i, h, rfl⟩]; rfl
theorem farOf_c {G : GF} {i j : Nat} {σ : St} (h : Pl G σ) (hi : i < 5) (hj : j < 5) : mX4_farOf (nI i) (nI j) σ = some (oi (G i j), σ) := by
  unfold mX4_farOf
  rw [way_y hi, cl2_e, if_neg n10, way_y hj, cl2_e, if_neg n10, ix5, ldA_n (by omega) (by omega), h i j hi hj]
/-- i and j rest: neither gains by another way of his or hers alone -/
def heldW (G : GF) (i j w : Nat) : Bool := match G i j with
  | none => false
  | some m => (match G w j with | none => true | some a => decide (m ≤ a)) && (match G i w with | none => true | some b => decide (b ≤ m))
def held (G : GF) (i j : Nat) : Bool := (G i j).isSome && !anyN (fun w => !heldW G i j w) 5
def Gok (G : GF) : Prop := ∀ i j m, i < 5 → j < 5 → G i j = some m → m ≤ 15
theorem isHeld_c {G : GF} {i j m : Nat} {σ : St} (h : Pl G σ) (hG : Gok G) (hi : i < 5) (hj : j < 5) (e : G i j = some m) : mX4_isHeld (nI i) (nI j) σ = some (b2 (held G i j), σ) := by
  unfold mX4_isHeld
  have hm := hG i j m hi hj e
  rw [farOf_c h hi hj, cl2_e, kl_e, e]
  have hh : held G i j = !anyN (fun w => !heldW G i j w) 5 := by unfold held; rw [e]; rfl
  refine lp_rx (bot := fun (_ : Int32) (_ : St) => (none : Option (Int32 × St))) (app := fun w (_ : Unit) (J : Int32 → St → Option (Int32 × St)) => J (nI w) σ) (P := fun w _ => anyN (fun w => !heldW G i j w) w = false) 5 (Q := fun r => r = some (b2 (held G i j), σ)) ?_ ?_ 2000 0 () (by omega) (by omega) rfl
  · intro w _ hw hP J
    show mX4_isHeld_10 (nI j) (nI i) (oi (some m)) J (nI w) σ = _ ∨ _
    unfold mX4_isHeld_10 mX4_isHeld_47 mX4_isHeld_62
    rw [if_neg (lt5 hw), farOf_c h hw hj, cl2_e, farOf_c h hi hw, cl2_e]
    simp only [kl_e, nI_1]
    have hS : anyN (fun w => !heldW G i j w) (w + 1) = !heldW G i j w := by
      show (anyN (fun w => !heldW G i j w) w || !heldW G i j w) = _
      rw [hP]; rfl
    have stop : heldW G i j w = false → (rz (0 : Int32) σ = some (b2 (held G i j), σ)) := fun z => by
      have : anyN (fun w => !heldW G i j w) 5 = true := anyN_iff.2 ⟨w, hw, by rw [z]; rfl⟩
      rw [hh, this]; rfl
    have hW : heldW G i j w = ((match G w j with | none => true | some a => decide (m ≤ a)) && (match G i w with | none => true | some b => decide (b ≤ m))) := by unfold heldW; rw [e]
    have go : heldW G i j w = true → anyN (fun w => !heldW G i j w) (w + 1) = false := fun z => by rw [hS, z]; rfl
    have hm31 : m < 2 ^ 31 := by omega
    have second : (match G w j with | none => true | some a => decide (m ≤ a)) = true → ((if oi (G i w) = -4 then J (nI (w + 1)) σ else if oi (G i w) ≤ oi (some m) then J (nI (w + 1)) σ else rz (0 : Int32) σ) = some (b2 (held G i j), σ) ∨ ∃ x' : Unit, anyN (fun w => !heldW G i j w) (w + 1) = false ∧ (if oi (G i w) = -4 then J (nI (w + 1)) σ else if oi (G i w) ≤ oi (some m) then J (nI (w + 1)) σ else rz (0 : Int32) σ) = J (nI (w + 1)) σ) := by
      intro y1
      cases y2 : G i w with
      | none =>
        rw [if_pos (show oi none = -4 from rfl)]
        exact Or.inr ⟨(), go (by rw [hW, y1, y2]; rfl), rfl⟩
      | some b =>
        have hb := hG i w b hi hw y2
        rw [if_neg (show ¬ oi (some b) = -4 from nI_n4 b (by omega))]
        by_cases c : b ≤ m
        · rw [if_pos (show oi (some b) ≤ oi (some m) from nI_le c hm31)]
          exact Or.inr ⟨(), go (by rw [hW, y1, y2]; show (true && decide (b ≤ m)) = true; rw [decide_eq_true c]; rfl), rfl⟩
        · rw [if_neg (show ¬ oi (some b) ≤ oi (some m) from nI_ge (by omega) (by omega))]
          exact Or.inl (stop (by rw [hW, y1, y2]; show (true && decide (b ≤ m)) = false; rw [decide_eq_false c]; rfl))
    cases y1 : G w j with
    | none =>
      rw [if_pos (show oi none = -4 from rfl)]
      exact second (by rw [y1])
    | some a =>
      have ha := hG w j a hw hj y1
      rw [if_neg (show ¬ oi (some a) = -4 from nI_n4 a (by omega))]
      by_cases c : a < m
      · rw [if_pos (show oi (some a) < oi (some m) from nI_lt c hm31)]
        exact Or.inl (stop (by rw [hW, y1]; show (decide (m ≤ a) && _) = false; rw [decide_eq_false (by omega)]; rfl))
      · rw [if_neg (show ¬ oi (some a) < oi (some m) from nI_nlt (by omega) (by omega))]
        exact second (by rw [y1]; exact decide_eq_true (by omega))
  · intro _ hP J
    show mX4_isHeld_10 (nI j) (nI i) (oi (some m)) J (nI 5) σ = _
    unfold mX4_isHeld_10
    rw [if_pos at5, hh, hP]; rfl
def heldF (G : GF) (k : Nat) : Bool := held G (k / 5) (k % 5)
def code5 (k : Nat) : Int32 := nI (10 * (k / 5) + k % 5)
def fhV (G : GF) : Int32 := if fst (heldF G) 25 < 25 then code5 (fst (heldF G) 25) else -4
theorem ix10 {a b : Nat} : (10 : Int32) * nI a + nI b = nI (10 * a + b) := by
  rw [show (10 : Int32) = nI 10 from rfl, pk_mul, nI_add]
theorem firstHeld_c {G : GF} {σ : St} (h : Pl G σ) (hG : Gok G) : mX4_firstHeld σ = some (fhV G, σ) := by
  unfold mX4_firstHeld
  rw [kl_e]
  have hf25 := fst_le (p := heldF G) 25
  refine lp_rx (bot := fun (_ : Int32) (_ : St) => (none : Option (Int32 × St))) (app := fun i (_ : Unit) (J : Int32 → St → Option (Int32 × St)) => J (nI i) σ) (P := fun i _ => 5 * i ≤ fst (heldF G) 25) 5 (Q := fun r => r = some (fhV G, σ)) ?_ ?_ 2000 0 () (by omega) (by omega) (Nat.zero_le _)
  · intro i _ hi hP J
    show mX4_firstHeld_2 J (nI i) σ = _ ∨ _
    unfold mX4_firstHeld_2
    rw [if_neg (lt5 hi), kl_e]
    have hE := lp_rx (bot := fun (_ : Int32) (_ : St) => (none : Option (Int32 × St))) (b := mX4_firstHeld_9 J (nI i)) (app := fun j (_ : Unit) (J : Int32 → St → Option (Int32 × St)) => J (nI j) σ) (P := fun j _ => 5 * i + j ≤ fst (heldF G) 25) 5 (Q := fun r => r = some (fhV G, σ) ∨ (5 * (i + 1) ≤ fst (heldF G) 25 ∧ r = J (nI (i + 1)) σ)) ?_ ?_ 2000 0 () (by omega) (by omega) hP
    · rcases hE with y | ⟨y1, y2⟩
      · exact Or.inl y
      · exact Or.inr ⟨(), y1, y2⟩
    · intro j _ hj hP J'
      show (mX4_firstHeld_9 J (nI i) J' (nI j) σ = _ ∨ _) ∨ _
      unfold mX4_firstHeld_9 mX4_firstHeld_41
      rw [if_neg (lt5 hj), farOf_c h hi hj, cl2_e]
      simp only [kl_e, nI_1]
      have hk : heldF G (5 * i + j) = held G i j := by unfold heldF; rw [show (5 * i + j) / 5 = i by omega, show (5 * i + j) % 5 = j by omega]
      have no : held G i j = false → 5 * i + (j + 1) ≤ fst (heldF G) 25 := fun z => by
        by_cases y : fst (heldF G) 25 = 5 * i + j
        · have := fst_yes (p := heldF G) (n := 25) (by omega)
          rw [y, hk, z] at this; cases this
        · omega
      cases e : G i j with
      | none =>
        rw [if_pos (show oi none = -4 from rfl)]
        exact Or.inr ⟨(), no (by unfold held; rw [e]; rfl), rfl⟩
      | some m =>
        have hm := hG i j m hi hj e
        rw [if_neg (show ¬ oi (some m) = -4 from nI_n4 m (by omega)), isHeld_c h hG hi hj e, cl2_e]
        cases y : held G i j
        · rw [b2_f, if_pos rfl]
          exact Or.inr ⟨(), no y, rfl⟩
        · rw [b2_t, if_neg n10, ix10]
          left; left
          have : fst (heldF G) 25 = 5 * i + j := by
            have h1 : ¬ 5 * i + j < fst (heldF G) 25 := fun z => by
              have := fst_no (p := heldF G) z
              rw [hk, y] at this; cases this
            omega
          unfold fhV code5
          rw [this, if_pos (by omega), show (5 * i + j) / 5 = i by omega, show (5 * i + j) % 5 = j by omega]
    · intro _ hP J'
      show mX4_firstHeld_9 J (nI i) J' (nI 5) σ = _ ∨ _
      unfold mX4_firstHeld_9
      rw [if_pos at5, nI_1]
      exact Or.inr ⟨by omega, rfl⟩
  · intro _ hP J
    show mX4_firstHeld_2 J (nI 5) σ = _
    unfold mX4_firstHeld_2
    rw [if_pos at5]
    unfold fhV
    rw [if_neg (by omega)]
/-! the largest and the least of some that may be none -/
def mxO (f : Nat → Option Nat) : Nat → Option Nat
  | 0 => none
  | n + 1 => match mxO f n, f n with
    | none, y => y
    | some a, none => some a
    | some a, some b => some (if a < b then b else a)
def mnO (f : Nat → Option Nat) : Nat → Option Nat
  | 0 => none
  | n + 1 => match mnO f n, f n with
    | none, y => y
    | some a, none => some a
    | some a, some b => some (if a ≤ b then a else b)
theorem mxO_spec (f : Nat → Option Nat) : ∀ n, (mxO f n = none ∧ ∀ i, i < n → f i = none) ∨ ∃ v, mxO f n = some v ∧ (∃ i, i < n ∧ f i = some v) ∧ ∀ i w, i < n → f i = some w → w ≤ v
  | 0 => Or.inl ⟨rfl, fun i h => absurd h (Nat.not_lt_zero _)⟩
  | n + 1 => by
    have hS : mxO f (n + 1) = match mxO f n, f n with
      | none, y => y
      | some a, none => some a
      | some a, some b => some (if a < b then b else a) := rfl
    rcases mxO_spec f n with ⟨e, h⟩ | ⟨v, e, ⟨i, hi, h1⟩, h2⟩
    · rw [e] at hS
      cases y : f n with
      | none =>
        rw [y] at hS
        left
        refine ⟨hS, fun i hi => ?_⟩
        by_cases z : i = n
        · rw [z]; exact y
        · exact h i (by omega)
      | some b =>
        rw [y] at hS
        right
        refine ⟨b, hS, ⟨n, by omega, y⟩, fun i w hi hw => ?_⟩
        by_cases z : i = n
        · rw [z, y] at hw; cases hw; exact Nat.le_refl _
        · rw [h i (by omega)] at hw; cases hw
    · rw [e] at hS
      right
      cases y : f n with
      | none =>
        rw [y] at hS
        refine ⟨v, hS, ⟨i, by omega, h1⟩, fun i w hi hw => ?_⟩
        by_cases z : i = n
        · rw [z, y] at hw; cases hw
        · exact h2 i w (by omega) hw
      | some b =>
        rw [y] at hS
        refine ⟨if v < b then b else v, hS, ?_, fun i w hi hw => ?_⟩
        · by_cases c : v < b
          · rw [if_pos c]; exact ⟨n, by omega, y⟩
          · rw [if_neg c]; exact ⟨i, by omega, h1⟩
        · by_cases z : i = n
          · rw [z, y] at hw; cases hw
            by_cases c : v < b
            · rw [if_pos c]; exact Nat.le_refl _
            · rw [if_neg c]; omega
          · have := h2 i w (by omega) hw
            by_cases c : v < b
            · rw [if_pos c]; omega
            · rw [if_neg c]; exact this
theorem mnO_spec (f : Nat → Option Nat) : ∀ n, (mnO f n = none ∧ ∀ i, i < n → f i = none) ∨ ∃ v, mnO f n = some v ∧ (∃ i, i < n ∧ f i = some v) ∧ ∀ i w, i < n → f i = some w → v ≤ w
  | 0 => Or.inl ⟨rfl, fun i h => absurd h (Nat.not_lt_zero _)⟩
  | n + 1 => by
    have hS : mnO f (n + 1) = match mnO f n, f n with
      | none, y => y
      | some a, none => some a
      | some a, some b => some (if a ≤ b then a else b) := rfl
    rcases mnO_spec f n with ⟨e, h⟩ | ⟨v, e, ⟨i, hi, h1⟩, h2⟩
    · rw [e] at hS
      cases y : f n with
      | none =>
        rw [y] at hS
        left
        refine ⟨hS, fun i hi => ?_⟩
        by_cases z : i = n
        · rw [z]; exact y
        · exact h i (by omega)
      | some b =>
        rw [y] at hS
        right
        refine ⟨b, hS, ⟨n, by omega, y⟩, fun i w hi hw => ?_⟩
        by_cases z : i = n
        · rw [z, y] at hw; cases hw; exact Nat.le_refl _
        · rw [h i (by omega)] at hw; cases hw
    · rw [e] at hS
      right
      cases y : f n with
      | none =>
        rw [y] at hS
        refine ⟨v, hS, ⟨i, by omega, h1⟩, fun i w hi hw => ?_⟩
        by_cases z : i = n
        · rw [z, y] at hw; cases hw
        · exact h2 i w (by omega) hw
      | some b =>
        rw [y] at hS
        refine ⟨if v ≤ b then v else b, hS, ?_, fun i w hi hw => ?_⟩
        · by_cases c : v ≤ b
          · rw [if_pos c]; exact ⟨i, by omega, h1⟩
          · rw [if_neg c]; exact ⟨n, by omega, y⟩
        · by_cases z : i = n
          · rw [z, y] at hw; cases hw
            by_cases c : v ≤ b
            · rw [if_pos c]; exact c
            · rw [if_neg c]; exact Nat.le_refl _
          · have := h2 i w (by omega) hw
            by_cases c : v ≤ b
            · rw [if_pos c]; exact this
            · rw [if_neg c]; omega
/-- turned round they are the same -/
theorem mxO_rev {f g : Nat → Option Nat} {n : Nat} (h : ∀ i, i < n → g i = f (n - 1 - i)) : mxO g n = mxO f n := by
  rcases mxO_spec f n with ⟨e, h1⟩ | ⟨v, e, ⟨i, hi, h1⟩, h2⟩
  · rcases mxO_spec g n with ⟨e', _⟩ | ⟨w, _, ⟨j, hj, g1⟩, _⟩
    · rw [e, e']
    · rw [h j hj, h1 _ (by omega)] at g1; cases g1
  · rcases mxO_spec g n with ⟨_, g1⟩ | ⟨w, e', ⟨j, hj, g1⟩, g2⟩
    · have := g1 (n - 1 - i) (by omega)
      rw [h _ (by omega), show n - 1 - (n - 1 - i) = i by omega, h1] at this; cases this
    · rw [h j hj] at g1
      have a1 := h2 _ w (by omega) g1
      have a2 := g2 (n - 1 - i) v (by omega) (by rw [h _ (by omega), show n - 1 - (n - 1 - i) = i by omega, h1])
      rw [e, e', show w = v by omega]
theorem mnO_rev {f g : Nat → Option Nat} {n : Nat} (h : ∀ i, i < n → g i = f (n - 1 - i)) : mnO g n = mnO f n := by
  rcases mnO_spec f n with ⟨e, h1⟩ | ⟨v, e, ⟨i, hi, h1⟩, h2⟩
  · rcases mnO_spec g n with ⟨e', _⟩ | ⟨w, _, ⟨j, hj, g1⟩, _⟩
    · rw [e, e']
    · rw [h j hj, h1 _ (by omega)] at g1; cases g1
  · rcases mnO_spec g n with ⟨_, g1⟩ | ⟨w, e', ⟨j, hj, g1⟩, g2⟩
    · have := g1 (n - 1 - i) (by omega)
      rw [h _ (by omega), show n - 1 - (n - 1 - i) = i by omega, h1] at this; cases this
    · rw [h j hj] at g1
      have a1 := h2 _ w (by omega) g1
      have a2 := g2 (n - 1 - i) v (by omega) (by rw [h _ (by omega), show n - 1 - (n - 1 - i) = i by omega, h1])
      rw [e, e', show w = v by omega]
theorem mxO_le {f : Nat → Option Nat} {n v : Nat} (hf : ∀ i m, i < n → f i = some m → m ≤ 15) (h : mxO f n = some v) : v ≤ 15 := by
  rcases mxO_spec f n with ⟨e, _⟩ | ⟨w, e, ⟨i, hi, h1⟩, _⟩
  · rw [e] at h; cases h
  · rw [e] at h; cases h; exact hf i v hi h1
def wst (G : GF) (i : Nat) : Option Nat := mxO (G i) 5
def lsu (G : GF) : Option Nat := mnO (wst G) 5
theorem worst_c {G : GF} {i : Nat} {σ : St} (h : Pl G σ) (hG : Gok G) (hi : i < 5) : mX4_worstOf (nI i) σ = some (oi (wst G i), σ) := by
  unfold mX4_worstOf
  rw [kl_e]
  refine lp_for (app := fun j (J : Int32 → Int32 → St → Option (Int32 × St)) => J (oi (mxO (G i) j)) (nI j) σ) 5 _ ?_ ?_ 2000 (by omega)
  · intro j hj J
    unfold mX4_worstOf_5
    rw [if_neg (lt5 hj), farOf_c h hi hj]
    simp only [cl2_e, kl_e, nI_1]
    refine congrArg (fun x => J x (nI (j + 1)) σ) ?_
    rw [show mxO (G i) (j + 1) = (match mxO (G i) j, G i j with | none, y => y | some a, none => some a | some a, some b => some (if a < b then b else a)) from rfl]
    have hle : ∀ a, mxO (G i) j = some a → a ≤ 15 := fun a e => mxO_le (fun k m hk hm => hG i k m hi (by omega) hm) e
    cases y1 : mxO (G i) j with
    | none =>
      cases y2 : G i j with
      | none => rw [if_neg (by decide)]
      | some b =>
        have hb := hG i j b hi hj y2
        have t : ∀ b, b ≤ 15 → oi none < nI b := by decide +kernel
        rw [if_pos (show oi none < oi (some b) from t b hb)]
    | some a =>
      have ha := hle a y1
      cases y2 : G i j with
      | none =>
        have t : ∀ b, b ≤ 15 → ¬ nI b < oi none := by decide +kernel
        rw [if_neg (show ¬ oi (some a) < oi none from t a ha)]
      | some b =>
        have hb := hG i j b hi hj y2
        show (if oi (some a) < oi (some b) then oi (some b) else oi (some a)) = oi (some (if a < b then b else a))
        by_cases c : a < b
        · rw [if_pos (show oi (some a) < oi (some b) from nI_lt c (by omega)), if_pos c]
        · rw [if_neg (show ¬ oi (some a) < oi (some b) from nI_nlt (by omega) (by omega)), if_neg c]
  · intro J
    unfold mX4_worstOf_5
    rw [if_pos at5]
    rfl
theorem wst_le {G : GF} (hG : Gok G) {i v : Nat} (hi : i < 5) (h : wst G i = some v) : v ≤ 15 := mxO_le (fun k m hk hm => hG i k m hi (by omega) hm) h
theorem mnO_le {f : Nat → Option Nat} {n v : Nat} (hf : ∀ i m, i < n → f i = some m → m ≤ 15) (h : mnO f n = some v) : v ≤ 15 := by
  rcases mnO_spec f n with ⟨e, _⟩ | ⟨w, e, ⟨i, hi, h1⟩, _⟩
  · rw [e] at h; cases h
  · rw [e] at h; cases h; exact hf i v hi h1
theorem leastSure_c {G : GF} {σ : St} (h : Pl G σ) (hG : Gok G) : mX4_leastSure σ = some (oi (lsu G), σ) := by
  unfold mX4_leastSure
  rw [kl_e]
  refine lp_for (app := fun i (J : Int32 → Int32 → St → Option (Int32 × St)) => J (oi (mnO (wst G) i)) (nI i) σ) 5 _ ?_ ?_ 2000 (by omega)
  · intro i hi J
    unfold mX4_leastSure_5 mX4_leastSure_35 mX4_leastSure_33
    rw [if_neg (lt5 hi), worst_c h hG hi]
    simp only [cl2_e, kl_e, nI_1]
    rw [show mnO (wst G) (i + 1) = (match mnO (wst G) i, wst G i with | none, y => y | some a, none => some a | some a, some b => some (if a ≤ b then a else b)) from rfl]
    have hle : ∀ a, mnO (wst G) i = some a → a ≤ 15 := fun a e => mnO_le (fun k m hk hm => wst_le hG (by omega) hm) e
    cases y2 : wst G i with
    | none =>
      rw [if_pos (show oi none = -4 from rfl)]
      cases y1 : mnO (wst G) i <;> rfl
    | some b =>
      have hb := wst_le hG hi y2
      rw [if_neg (show ¬ oi (some b) = -4 from nI_n4 b (by omega))]
      cases y1 : mnO (wst G) i with
      | none => rw [if_pos (show oi none = -4 from rfl)]
      | some a =>
        have ha := hle a y1
        rw [if_neg (show ¬ oi (some a) = -4 from nI_n4 a (by omega))]
        show _ = J (oi (some (if a ≤ b then a else b))) _ _
        by_cases c : a ≤ b
        · rw [if_pos (show oi (some a) ≤ oi (some b) from nI_le c (by omega)), if_pos c]
        · rw [if_neg (show ¬ oi (some a) ≤ oi (some b) from nI_ge (by omega) (by omega)), if_neg c]
  · intro J
    unfold mX4_leastSure_5
    rw [if_pos at5]
    rfl
