/-! ===== PURE: late ===== -/
theorem anyN_f {p : Nat → Bool} {n : Nat} : anyN p n = false ↔ ∀ i, i < n → p i = false := by
  constructor
  · intro h i hi
    cases q : p i
    · rfl
    · rw [anyN_iff.2 ⟨i, hi, q⟩] at h; cases h
  · intro h
    cases q : anyN p n
    · rfl
    · obtain ⟨i, hi, h2⟩ := anyN_iff.1 q
      rw [h i hi] at h2; cases h2
def ltV (f : Nat → Bool) : Nat → Int32
  | 0 => 0
  | i + 1 => if f i then ltV f i ||| ((1 : Int32) <<< (nI i &&& 31)) else ltV f i
theorem ltV_eq {f g : Nat → Bool} : ∀ n, (∀ i, i < n → f i = g i) → ltV f n = ltV g n
  | 0, _ => rfl
  | n + 1, h => by
    unfold ltV
    rw [ltV_eq n (fun i hi => h i (by omega)), h n (by omega)]
/-- a way is safe: all of S is not off where it leads -/
def sfe (O S : Nat → Bool) (B : Nat → Nat → Bool) (p i : Nat) : Bool := match gone O p i with
  | none => false
  | some q => !anyN (fun o => S o && B q o) 36
theorem late_in {S : Nat → Bool} {q : Nat} {y13 y14 : Int32} {J76 : Int32 → Int32 → St → Option (Int32 × St)} {σ : St} (hq : q < 36) : (lp (fun _ _ _ => none) (mX11_late_109 y13 J76 y14 (bs S) (nI q)) 2000) (1 : Int32) (0 : Int32) σ = mX11_late_154 y13 J76 y14 (b2 (!anyN (fun o => S o && Off (lm σ) q o) 36)) σ := by
  refine lp_wf (app := fun (x : Bool × Nat) (J : Int32 → Int32 → St → Option (Int32 × St)) => J (b2 x.1) (nI x.2) σ) (m := fun x => 36 - x.2) (P := fun x => x.2 ≤ 36 ∧ x.1 = !anyN (fun o => S o && Off (lm σ) q o) x.2) (Q := fun r => r = mX11_late_154 y13 J76 y14 (b2 (!anyN (fun o => S o && Off (lm σ) q o) 36)) σ) ?_ 2000 (true, 0) ⟨Nat.zero_le _, rfl⟩ (by show 36 - 0 < 2000; omega)
  rintro ⟨f, i⟩ ⟨h1, h2⟩ J
  simp only at h1 h2
  show (mX11_late_109 y13 J76 y14 (bs S) (nI q) J (b2 f) (nI i) σ = _) ∨ _
  unfold mX11_late_109 mX11_late_146 mX11_late_141
  rw [kl_e]
  by_cases h36 : i = 36
  · left
    subst h36
    rw [if_pos at36, h2]
  · have hi : i < 36 := by omega
    rw [if_neg (lt36 hi)]
    cases f
    · left
      rw [b2_f, if_pos rfl]
      have : anyN (fun o => S o && Off (lm σ) q o) 36 = true := by
        have h3 : anyN (fun o => S o && Off (lm σ) q o) i = true := by
          cases y : anyN (fun o => S o && Off (lm σ) q o) i
          · rw [y] at h2; cases h2
          · rfl
        obtain ⟨j, hj, h4⟩ := anyN_iff.1 h3
        exact anyN_iff.2 ⟨j, by omega, h4⟩
      rw [this]; rfl
    · right
      have h3 : anyN (fun o => S o && Off (lm σ) q o) i = false := by
        cases y : anyN (fun o => S o && Off (lm σ) q o) i
        · rfl
        · rw [y] at h2; cases h2
      rw [b2_t, if_neg n10]
      simp only [isOn_m hi, cl2_e, kl_e, b2_c, isOff_m hq hi, nI_1]
      have hS : anyN (fun o => S o && Off (lm σ) q o) (i + 1) = (S i && Off (lm σ) q i) := by
        show (anyN (fun o => S o && Off (lm σ) q o) i || (S i && Off (lm σ) q i)) = _
        rw [h3]; rfl
      cases y1 : S i
      · rw [if_neg (by decide)]
        exact ⟨(true, i + 1), ⟨by show i + 1 ≤ 36; omega, by show true = !anyN (fun o => S o && Off (lm σ) q o) (i + 1); rw [hS, y1]; rfl⟩, by show 36 - (i + 1) < 36 - i; omega, rfl⟩
      · rw [if_pos rfl]
        cases y2 : Off (lm σ) q i
        · rw [if_neg (by decide)]
          exact ⟨(true, i + 1), ⟨by show i + 1 ≤ 36; omega, by show true = !anyN (fun o => S o && Off (lm σ) q o) (i + 1); rw [hS, y1, y2]; rfl⟩, by show 36 - (i + 1) < 36 - i; omega, rfl⟩
        · rw [if_pos rfl]
          exact ⟨(false, i + 1), ⟨by show i + 1 ≤ 36; omega, by show false = !anyN (fun o => S o && Off (lm σ) q o) (i + 1); rw [hS, y1, y2]; rfl⟩, by show 36 - (i + 1) < 36 - i; omega, rfl⟩
theorem late_in0 {x : Int64} {y13 y14 x18 : Int32} {J76 : Int32 → Int32 → St → Option (Int32 × St)} {σ : St} : (lp (fun _ _ _ => none) (mX11_late_109 y13 J76 y14 x x18) 2000) (0 : Int32) (0 : Int32) σ = mX11_late_154 y13 J76 y14 0 σ := by
  show mX11_late_109 y13 J76 y14 x x18 _ (0 : Int32) (0 : Int32) σ = _
  unfold mX11_late_109
  rw [kl_e, if_neg (by decide), if_pos rfl]
theorem late_m {S : Nat → Bool} {p : Nat} {σ : St} (hp : p < 36) (h5 : ls (lm σ) 5 = nI p) : (lp (fun _ _ _ => none) (mX11_late_76 (bs S)) 2000) (0 : Int32) (0 : Int32) σ = some (ltV (sfe (Om σ) S (Off (lm σ)) p) 5, σ) := by
  have s5 : gI σ 45 5 = nI p := by rw [lm_s (by omega), h5]
  refine lp_for (app := fun i (J : Int32 → Int32 → St → Option (Int32 × St)) => J (ltV (sfe (Om σ) S (Off (lm σ)) p) i) (nI i) σ) 5 _ ?_ ?_ 2000 (by omega)
  · intro i hi J
    unfold mX11_late_76 mX11_late_104
    rw [if_neg (lt5 hi)]
    simp only [kl_e, s5, goneTo_m hp hi, cl2_e]
    rw [show ltV (sfe (Om σ) S (Off (lm σ)) p) (i + 1) = if sfe (Om σ) S (Off (lm σ)) p i then ltV (sfe (Om σ) S (Off (lm σ)) p) i ||| ((1 : Int32) <<< (nI i &&& 31)) else ltV (sfe (Om σ) S (Off (lm σ)) p) i from rfl]
    have key : ∀ b : Bool, mX11_late_154 (ltV (sfe (Om σ) S (Off (lm σ)) p) i) J (nI i) (b2 b) σ = J (if b then ltV (sfe (Om σ) S (Off (lm σ)) p) i ||| ((1 : Int32) <<< (nI i &&& 31)) else ltV (sfe (Om σ) S (Off (lm σ)) p) i) (nI (i + 1)) σ := by
      intro b
      unfold mX11_late_154 mX11_late_169
      simp only [kl_e, b2_c, nI_1]
      cases b
      · rw [if_neg (by decide), if_neg (by decide), show ∀ x : Int32, x ||| 0 = x from fun x => by simp]
      · rw [if_pos rfl, if_pos rfl]
    unfold sfe
    cases hg : gone (Om σ) p i with
    | none =>
      rw [if_pos (show oi none < 0 by decide), late_in0]
      exact key false
    | some q =>
      have hq := gone_lt hp hi hg
      rw [if_neg (show ¬ oi (some q) < 0 from nI_pos (by omega)), show oi (some q) = nI q from rfl, late_in hq]
      exact key _
  · intro J
    unfold mX11_late_76
    rw [if_pos at5]
theorem late_c {O S : Nat → Bool} {N : Nat → Nat → Bool} {p : Nat} {σ : St} (hp : p < 36) (h5 : ls (ld σ 1) 5 = nI p) (hO : Op (ld σ 1) = O) (hN : Bnear N σ) : (lp (fun _ _ _ => none) (mX10_late_78 (bs S)) 2000) (0 : Int32) (0 : Int32) σ = some (ltV (sfe O S (fun q o => !N q o) p) 5, σ) := by
  have s5 : gI σ 1 5 = nI p := by rw [ld_s (by omega), h5]
  refine lp_for (app := fun i (J : Int32 → Int32 → St → Option (Int32 × St)) => J (ltV (sfe O S (fun q o => !N q o) p) i) (nI i) σ) 5 _ ?_ ?_ 2000 (by omega)
  · intro i hi J
    unfold mX10_late_78 mX10_late_138
    rw [if_neg (lt5 hi)]
    simp only [kl_e, s5, cellBy_c hp hi, cl2_e, hO, nI_1]
    rw [show ltV (sfe O S (fun q o => !N q o) p) (i + 1) = if sfe O S (fun q o => !N q o) p i then ltV (sfe O S (fun q o => !N q o) p) i ||| ((1 : Int32) <<< (nI i &&& 31)) else ltV (sfe O S (fun q o => !N q o) p) i from rfl]
    have hs : sfe O S (fun q o => !N q o) p i = match gone O p i with | none => false | some q => !anyN (fun o => S o && !N q o) 36 := rfl
    rw [hs]
    cases hg : gone O p i with
    | none => rw [if_pos (show oi none = -4 from rfl)]; rfl
    | some q =>
      have hq := gone_lt hp hi hg
      rw [if_neg (show ¬ oi (some q) = -4 from nI_n4 q hq), show oi (some q) = nI q from rfl, nearOf_c hN hq]
      simp only [cl2_e, bs_not, lg_0, bs_z]
      by_cases y : ∀ j, j < 36 → (S j && !N q j) = false
      · rw [if_pos y, if_pos (show (!anyN (fun j => S j && !N q j) 36) = true by rw [anyN_f.2 y]; rfl)]
      · have y2 : anyN (fun j => S j && !N q j) 36 = true := by
          cases z : anyN (fun j => S j && !N q j) 36
          · exact absurd (anyN_f.1 z) y
          · rfl
        rw [if_neg y, if_neg (show ¬ (!anyN (fun j => S j && !N q j) 36) = true by rw [y2]; decide)]
  · intro J
    unfold mX10_late_78
    rw [if_pos at5]
theorem goOnN_m {O : Nat → Bool} {c d : Nat} {σ : St} (hd : d ≤ 8) (hO : Om σ = O) (hc : c < 36) (ho : O c = true) : (lp (fun _ _ _ => none) (mX11_late_52 (nI d)) 2000) ((1 : Int64) <<< ((nI c).toInt64 &&& 63)) (0 : Int32) σ = (lp (fun _ _ _ => none) (mX11_late_76 (bs (Gr O (one c) (d + 1)))) 2000) (0 : Int32) (0 : Int32) σ := by
  have e0 : (1 : Int64) <<< ((nI c).toInt64 &&& 63) = bs (Gr O (one c) 0) := by
    rw [sh_c hc]
    refine bs_eq (fun j _ => ?_)
    show decide (j = c) = (decide (j = c) && O j)
    by_cases y : j = c
    · subst y; rw [ho, Bool.and_true]
    · simp [y]
  rw [e0]
  refine lp_for (app := fun i (J : Int64 → Int32 → St → Option (Int32 × St)) => J (bs (Gr O (one c) i)) (nI i) σ) (d + 1) _ ?_ ?_ 2000 (by omega)
  · intro i hi J
    unfold mX11_late_52
    rw [if_neg (nI_nlt (by omega) (by omega))]
    simp only [goOn_m, cl2_e, nI_1, hO]
    rfl
  · intro J
    unfold mX11_late_52
    rw [if_pos (nI_lt (by omega) (by omega)), kl_e]
theorem s_late : stp232 Inv mX10_late mX11_late := by
  intro σ a b hI
  have j8 : ∀ τ, mX11_in b.toInt64 (0 : Int64) (8 : Int64) τ = some (b2 (inR b 0 8), τ) := fun τ => in_m b 0 8 τ
  rcases cell_or a with ha | ⟨c, hc, rfl⟩
  · refine ag (f := mX10_late a b) (g := mX11_late a b) (v := -1) (ρ := σ) (τ := pI σ 45 16 0) ?_ ?_ c16 hI
    · unfold mX10_late
      simp only [ncell_c ha, cl2_e, ite_true]
    · unfold mX11_late
      simp only [ncell_m ha, cl2_e, kl_e, ite_true]
  rcases inR_or b 8 (by omega) with ⟨hb, _⟩ | ⟨d, hd, rfl, hb⟩
  · have hb' : inR b 0 8 = false := hb
    refine ag (f := mX10_late (nI c) b) (g := mX11_late (nI c) b) (v := -1) (ρ := σ) (τ := pI σ 45 16 0) ?_ ?_ c16 hI
    · unfold mX10_late
      rw [cell_c hc, cl2_e, if_neg n10]
      by_cases q : b < 0
      · rw [if_pos q]
      · rw [if_neg q, if_neg]
        intro q2
        unfold inR at hb'
        rw [decide_eq_true (Int32.not_lt.1 q), decide_eq_true q2] at hb'
        cases hb'
    · unfold mX11_late
      simp only [cell_m hc, cl2_e, kl_e, if_neg n10, j8, hb', b2_f, ite_true]
  have hb' : inR (nI d) 0 8 = true := hb
  have p1 : ¬ nI d < 0 := nI_pos (by omega)
  have p2 : nI d ≤ (8 : Int32) := nI_le (b := 8) (by omega) (by omega)
  have s5 : gI σ 1 5 = ls (ld σ 1) 5 := ld_s (by omega)
  have m5 : gI (pI σ 45 16 0) 45 5 = ls (ld σ 1) 5 := by rw [lm_s (by omega), lm_16, hI.1]
  rcases hI.2.1.2.2.2.2.1 with e5 | ⟨p, hp, e5⟩
  · refine ag (f := mX10_late (nI c) (nI d)) (g := mX11_late (nI c) (nI d)) (v := -3) (ρ := σ) (τ := pI σ 45 16 0) ?_ ?_ c16 hI
    · unfold mX10_late
      rw [cell_c hc, cl2_e, if_neg n10, if_neg p1, if_pos p2, kl_e, s5, e5, if_pos rfl]
    · unfold mX11_late
      simp only [cell_m hc, cl2_e, kl_e, if_neg n10, j8, hb', b2_t, m5, e5]
      rw [if_pos (by decide)]
  · cases o : Op (ld σ 1) c
    · refine ag (f := mX10_late (nI c) (nI d)) (g := mX11_late (nI c) (nI d)) (v := -3) (ρ := σ) (τ := pI σ 45 16 0) ?_ ?_ c16 hI
      · unfold mX10_late
        rw [cell_c hc, cl2_e, if_neg n10, if_neg p1, if_pos p2, kl_e, s5, e5, if_neg (nI_n4 p hp), isOpen_c hc, o, cl2_e, b2_f, if_pos rfl]
      · unfold mX11_late
        simp only [cell_m hc, cl2_e, kl_e, if_neg n10, j8, hb', b2_t, m5, e5, if_neg (nI_pos (n := p) (by omega)), isOpen_M hc, Om_core c16, Inv_Om hI hc, o, b2_f, ite_true]
    · obtain ⟨τ, e1, _, e3, _, e4⟩ := lay_c σ
      have hc' := core_FB e4
      have hcp : core (pI τ 45 16 0) = core σ := by rw [c16, hc']
      have hl : lm (pI τ 45 16 0) = ld σ 1 := by rw [lm_16, lm_core hc', hI.1]
      have hO : ∀ j, j < 36 → Om (pI τ 45 16 0) j = Op (ld σ 1) j := fun j hj => by rw [Om_core hcp, Inv_Om hI hj]
      have m5' : gI (pI τ 45 16 0) 45 5 = nI p := by rw [lm_s (by omega), hl, e5]
      refine ag (f := mX10_late (nI c) (nI d)) (g := mX11_late (nI c) (nI d)) (v := ltV (sfe (Op (ld σ 1)) (Gr (Op (ld σ 1)) (one c) (d + 1)) (Off (ld σ 1)) p) 5) (ρ := τ) (τ := pI τ 45 16 0) ?_ ?_ hcp hI
      · unfold mX10_late
        rw [cell_c hc, cl2_e, if_neg n10, if_neg p1, if_pos p2, kl_e, s5, e5, if_neg (nI_n4 p hp), isOpen_c hc, o, cl2_e, b2_t, if_neg n10, e1, cl1_e, openCells_c, cl2_e, ld_core hc', show nI d + (1 : Int32) = nI (d + 1) from nI_1 d, cellsWithin_c hc (by omega), cl2_e, kl_e]
        rw [late_c hp (by rw [ld_core hc', e5]) (by rw [ld_core hc']) e3]
        refine congrArg (fun x => some (x, τ)) (ltV_eq 5 (fun i _ => ?_))
        unfold sfe
        cases gone (Op (ld σ 1)) p i with
        | none => rfl
        | some q =>
          show (!anyN (fun o => Gr (Op (ld σ 1)) (one c) (d + 1) o && !Nr (ld σ 1) (ls (ld σ 1) 3) (ls (ld σ 1) 4) q o) 36) = !anyN (fun o => Gr (Op (ld σ 1)) (one c) (d + 1) o && Off (ld σ 1) q o) 36
          simp only [← Off_Nr, Bool.not_not]
      · unfold mX11_late
        simp only [cell_m hc, cl2_e, kl_e, if_neg n10, j8, hb', b2_t, m5', if_neg (nI_pos (n := p) (by omega)), isOpen_M hc, hO c hc, o]
        rw [goOnN_m (by omega) rfl hc (by rw [hO c hc, o]), late_m hp (by rw [hl, e5]), hl]
        refine congrArg (fun x => some (x, pI τ 45 16 0)) (ltV_eq 5 (fun i hi => ?_))
        unfold sfe
        rw [gone_eq hO hp hi]
        cases gone (Op (ld σ 1)) p i with
        | none => rfl
        | some q =>
          refine congrArg Bool.not (anyN_eq 36 (fun o ho => ?_))
          rw [Gr_eq hO (d + 1) o ho]
