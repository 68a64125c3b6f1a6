/-! ===== PURE: his way ===== -/
theorem numberAt_c {d n i : Nat} {σ : St} (hn : n ≤ 100) (h4 : gI σ (10 + d) 4 = nI n) (hi : i < n) : mX5_numberAt (10 + d) (nI i) σ = some (gL σ (19 + d) i, σ) := by
  unfold mX5_numberAt
  rw [if_neg (nI_pos (by omega)), kl_e, h4, if_neg (nI_ge hi (by omega)), if_neg (show ¬ (100 : Int32) ≤ nI i from nI_ge (b := 100) (by omega) (by omega)), ldL_100 (by omega), show 10 + d + 9 = 19 + d by omega]
/-- the cells told on shelf d -/
def rcN (σ : St) (d i : Nat) : Nat := (gL σ (19 + d) i).toInt32.toNatClampNeg
def notC (σ : St) (d i : Nat) : Bool := !inR (gL σ (19 + d) i).toInt32 0 35
theorem Rw_z {σ : St} {d s n i : Nat} (hR : Rw σ d s n) (hi : i < 100) : gL σ (19 + d) i = (gL σ (19 + d) i).toInt32.toInt64 ∧ gL σ 53 (100 * d + i) = (gL σ (19 + d) i).toInt32.toInt64 := by
  obtain ⟨h9, z, hz, _⟩ := hR.2.2.2.2.2.2.2.2 i hi
  have : gL σ (19 + d) i = (gL σ (19 + d) i).toInt32.toInt64 := by rw [hz, i64_32]
  exact ⟨this, by rw [← h9]; exact this⟩
theorem notC_f {σ : St} {d i : Nat} (h : notC σ d i = false) : rcN σ d i < 36 ∧ (gL σ (19 + d) i).toInt32 = nI (rcN σ d i) := by
  unfold notC at h
  have h2 : inR (gL σ (19 + d) i).toInt32 0 35 = true := by
    cases y : inR (gL σ (19 + d) i).toInt32 0 35
    · rw [y] at h; cases h
    · rfl
  rcases cell_or (gL σ (19 + d) i).toInt32 with z | ⟨c, hc, e⟩
  · rw [z] at h2; cases h2
  · unfold rcN
    rw [e, nI_clamp (by omega)]
    exact ⟨hc, rfl⟩
theorem notC_t {σ : St} {d i : Nat} (h : notC σ d i = true) : inR (gL σ (19 + d) i).toInt32 0 35 = false := by
  unfold notC at h
  cases y : inR (gL σ (19 + d) i).toInt32 0 35
  · rfl
  · rw [y] at h; cases h
theorem notC_g {σ : St} {d i : Nat} (h : notC σ d i = false) : inR (gL σ (19 + d) i).toInt32 0 35 = true := by
  unfold notC at h
  cases y : inR (gL σ (19 + d) i).toInt32 0 35
  · rw [y] at h; cases h
  · rfl
theorem isOf_c {σ : St} {d s n : Nat} (hR : Rw σ d s n) : mX9_isOfCells (10 + d) σ = some (b2 (decide (fst (notC σ d) n = n) && decide (0 < n)), σ) := by
  have hn := hR.2.2.2.1
  have h4 := hR.2.2.2.2.2.2.1
  have hk := fst_le (p := notC σ d) n
  unfold mX9_isOfCells
  rw [kl_e]
  refine lp_for (app := fun i (J : Int32 → St → Option (Int32 × St)) => J (nI i) σ) (fst (notC σ d) n) _ ?_ ?_ 2000 (by omega)
  · intro i hi J
    unfold mX9_isOfCells_2
    have hb : inR (gL σ (19 + d) i).toInt32 0 35 = true := notC_g (fst_no hi)
    rw [kl_e, h4, if_neg (nI_ge (by omega) (by omega)), numberAt_c hn h4 (by omega), cl2_e, (Rw_z hR (by omega)).1, isCell_c, hb, cl2_e, b2_t, if_neg n10, nI_1]
  · intro J
    unfold mX9_isOfCells_2
    rw [kl_e, h4]
    by_cases z : fst (notC σ d) n < n
    · have hb : inR (gL σ (19 + d) (fst (notC σ d) n)).toInt32 0 35 = false := notC_t (fst_yes z)
      rw [if_neg (nI_ge z (by omega)), numberAt_c hn h4 z, cl2_e, (Rw_z hR (by omega)).1, isCell_c, hb, cl2_e, b2_f, if_pos rfl, decide_eq_false (by omega)]
      rfl
    · have hk2 : fst (notC σ d) n = n := by omega
      rw [hk2, if_pos (Int32.le_refl _), kl_e, decide_eq_true (show n = n from rfl), Bool.true_and]
      by_cases w : 0 < n
      · rw [if_neg (nI_nle w (by omega)), decide_eq_true w]; rfl
      · rw [show n = 0 by omega, if_pos (by decide)]; rfl
theorem wrongCells_m {σ τ : St} {d s n : Nat} (hd : d < 8) (hs : Shok σ d) (hq : rfs σ d 2 = 0) (hR : Rw σ d s n) (hc : core τ = core σ) : mX11_wrongCells (nI d) τ = some (if (decide (fst (notC σ d) n = n) && decide (0 < n)) = true then 0 else -13, τ) := by
  have hn := hR.2.2.2.1
  have h8 : gA τ 52 d = nI n := by rw [core_A hc 52 d rfl]; exact hR.2.2.2.2.2.2.2.1
  have hk := fst_le (p := notC σ d) n
  have hr : ∀ i, i < 100 → gL τ 53 (100 * d + i) = (gL σ (19 + d) i).toInt32.toInt64 := fun i hi => by rw [core_L hc 53 _ rfl]; exact (Rw_z hR hi).2
  have isC : ∀ (x : Int32) (s : St), mX11_isCell x.toInt64 s = some (b2 (inR x 0 35), s) := fun x s => isCell_m x s
  unfold mX11_wrongCells
  rw [wrongRow_m hd hs hc, hq, cl2_e, if_pos (by decide), kl_e]
  refine lp_for (app := fun i (J : Int32 → St → Option (Int32 × St)) => J (nI i) τ) (fst (notC σ d) n) _ ?_ ?_ 2000 (by omega)
  · intro i hi J
    unfold mX11_wrongCells_14
    have hb : inR (gL σ (19 + d) i).toInt32 0 35 = true := notC_g (fst_no hi)
    rw [ldA_8 hd, h8, if_neg (nI_ge (by omega) (by omega)), ldL_800 hd (by omega), hr i (by omega), isC, hb, cl2_e, b2_t, if_neg n10, nI_1]
  · intro J
    unfold mX11_wrongCells_14
    rw [ldA_8 hd, h8]
    by_cases z : fst (notC σ d) n < n
    · have hb : inR (gL σ (19 + d) (fst (notC σ d) n)).toInt32 0 35 = false := notC_t (fst_yes z)
      rw [if_neg (nI_ge z (by omega)), ldL_800 hd (by omega), hr _ (by omega), isC, hb, cl2_e, b2_f, if_pos rfl, decide_eq_false (by omega), Bool.false_and, if_neg (by decide)]
    · have hk2 : fst (notC σ d) n = n := by omega
      rw [hk2, if_pos (Int32.le_refl _), ldA_8 hd, h8, decide_eq_true (show n = n from rfl), Bool.true_and]
      by_cases w : 0 < n
      · rw [if_neg (by rw [nI_0' (by omega)]; omega), if_pos (decide_eq_true w)]
      · rw [if_pos (by rw [nI_0' (by omega)]; omega), if_neg (by rw [decide_eq_false w]; decide)]
theorem tr_or {σ : St} (hI : Inv σ) (a : Int32) : (∃ v : Int32, ¬ v = 0 ∧ ¬ 0 ≤ v ∧ mX10_refusalOfTrack a σ = some (v, σ) ∧ (∀ τ, core τ = core σ → mX11_wrongCells a τ = some (v, τ)) ∧ v.toInt64 - 1000000000 = (v - 1000000000).toInt64) ∨ ∃ d s n, d < 8 ∧ a = nI d ∧ Rw σ d s n ∧ 0 < n ∧ (∀ i, i < n → rcN σ d i < 36 ∧ gL σ (19 + d) i = (nI (rcN σ d i)).toInt64 ∧ gL σ 53 (100 * d + i) = (nI (rcN σ d i)).toInt64) ∧ mX10_refusalOfTrack a σ = some (0, σ) ∧ ∀ τ, core τ = core σ → mX11_wrongCells a τ = some (0, τ) := by
  rcases shelf_or a with h | ⟨d, hd, rfl, h⟩
  · left
    refine ⟨-1, by decide, by decide, ?_, fun τ _ => ?_, rfl⟩
    · unfold mX10_refusalOfTrack; rw [refRow_n h, cl2_e, if_neg (by decide)]
    · unfold mX11_wrongCells; rw [wrongRow_n h, cl2_e, if_neg (by decide)]
  have hs := hI.2.2.2.2 d hd
  by_cases q : rfs σ d 2 = 0
  · obtain ⟨s, n, hR⟩ := Rw_of hs q
    have hw := fun τ hc => wrongCells_m (τ := τ) hd hs q hR hc
    have hcl : mX10_refusalOfTrack (nI d) σ = some (if (decide (fst (notC σ d) n = n) && decide (0 < n)) = true then 0 else -13, σ) := by
      unfold mX10_refusalOfTrack
      rw [refRow_c hd, q, cl2_e, if_pos rfl, shelfAt_c hd, cl2_e, isOf_c hR, cl2_e]
      cases (decide (fst (notC σ d) n = n) && decide (0 < n))
      · rw [b2_f, if_pos rfl, if_neg (by decide)]
      · rw [b2_t, if_neg n10, if_pos rfl]
    cases y : (decide (fst (notC σ d) n = n) && decide (0 < n))
    · left
      rw [y, if_neg (by decide)] at hcl
      refine ⟨-13, by decide, by decide, hcl, fun τ hc => ?_, rfl⟩
      rw [hw τ hc, y, if_neg (by decide)]
    · right
      rw [y, if_pos rfl] at hcl
      rw [Bool.and_eq_true] at y
      have y1 := of_decide_eq_true y.1
      have y2 := of_decide_eq_true y.2
      refine ⟨d, s, n, hd, rfl, hR, y2, fun i hi => ?_, hcl, fun τ hc => ?_⟩
      · have hf : notC σ d i = false := fst_no (n := n) (by rw [y1]; exact hi)
        have hz := Rw_z hR (show i < 100 by have := hR.2.2.2.1; omega)
        have h3 := notC_f hf
        exact ⟨h3.1, by rw [← h3.2]; exact hz.1, by rw [← h3.2]; exact hz.2⟩
      · rw [hw τ hc, decide_eq_true y1, decide_eq_true y2]; rfl
  · left
    have hv : rfs σ d 2 = -11 ∨ rfs σ d 2 = -12 := by
      unfold rfs at q ⊢
      by_cases y : gI σ (10 + d) 0 = 0
      · rw [if_pos y]; exact Or.inl rfl
      · rw [if_neg y] at q ⊢
        by_cases y2 : gI σ (10 + d) 0 = 2
        · rw [if_pos y2] at q; exact absurd rfl q
        · rw [if_neg y2]; exact Or.inr rfl
    refine ⟨rfs σ d 2, q, by rw [rfs_ge]; exact q, ?_, fun τ hc => ?_, ?_⟩
    · unfold mX10_refusalOfTrack; rw [refRow_c hd, cl2_e, if_neg q]
    · unfold mX11_wrongCells; rw [wrongRow_m hd hs hc, cl2_e, if_neg (by rw [rfs_ge]; exact q)]
    · rcases hv with e | e <;> rw [e] <;> rfl
/-! where she can be -/
def gst (O Ni S : Nat → Bool) (e : Nat) : Bool := nx O S e && Ni e
def fF (O : Nat → Bool) (Nf : Nat → Nat → Bool) : Nat → Nat → Bool
  | 0 => fun e => O e && Nf 0 e
  | i + 1 => gst O (Nf (i + 1)) (fF O Nf i)
/-- of the class: ahead of place i -/
def cF (O : Nat → Bool) (Nf : Nat → Nat → Bool) : Nat → Nat → Bool
  | 0 => O
  | i + 1 => fF O Nf i
theorem cF_s {O : Nat → Bool} {Nf : Nat → Nat → Bool} {i e : Nat} : (sp (cF O Nf i) e && (Nf i e && O e)) = fF O Nf i e := by
  cases i with
  | zero =>
    show (sp O e && (Nf 0 e && O e)) = (O e && Nf 0 e)
    cases y : O e
    · simp
    · have : sp O e = true := by unfold sp; rw [y]; rfl
      rw [this]
      simp
  | succ i =>
    show (sp (fF O Nf i) e && (Nf (i + 1) e && O e)) = (sp (fF O Nf i) e && O e && Nf (i + 1) e)
    cases sp (fF O Nf i) e <;> cases Nf (i + 1) e <;> cases O e <;> rfl
theorem fitOn_c {d n i : Nat} {O : Nat → Bool} {B : Nat → Nat → Bool} {σ s : St} (hn : n ≤ 100) (h4 : gI s (10 + d) 4 = nI n) (hi : i < n) (hr : gL s (19 + d) i = (nI (rcN σ d i)).toInt64) (hc : rcN σ d i < 36) (hB : Bnear B s) : mX9_fitOn (10 + d) (nI i) (bs O) s = some (bs (fun e => B (rcN σ d i) e && O e), s) := by
  unfold mX9_fitOn
  rw [numberAt_c hn h4 hi, cl2_e, hr, i64_32, nearOf_c hB hc, cl2_e, bs_and]
abbrev FT (σ τ : St) : Prop := Fx (fun _ _ => False) (fun _ => False) (fun a => a = 39 ∨ a = 40 ∨ a = 41) σ τ
theorem core_FT {σ τ : St} (h : FT σ τ) : core τ = core σ := core_Fx (fun o k e => e.elim) (fun a e => e.elim) (fun a e => by rcases e with rfl | rfl | rfl <;> rfl) h
theorem follow_c {d n : Nat} {O : Nat → Bool} {B : Nat → Nat → Bool} {σ s0 : St} (hd : d < 8) (hn : n ≤ 100) (h0 : 0 < n) (hc0 : core s0 = core σ) (h4 : gI σ (10 + d) 4 = nI n) (hr : ∀ i, i < n → rcN σ d i < 36 ∧ gL σ (19 + d) i = (nI (rcN σ d i)).toInt64) (hB : Bnear B s0) : ∃ τ, mX9_follow (10 + d) (bs O) s0 = some (bs (fF O (fun i => B (rcN σ d i)) (n - 1)), τ) ∧ (∀ i, i < n → gL τ 39 i = bs (fF O (fun i => B (rcN σ d i)) i)) ∧ FT s0 τ := by
  unfold mX9_follow
  rw [kl_e]
  refine lp_rel (app := fun i (s : St) (J : Int64 → Int32 → St → Option (Int64 × St)) => J (bs (cF O (fun i => B (rcN σ d i)) i)) (nI i) s) (P := fun i s => (∀ j, j < i → gL s 39 j = bs (fF O (fun i => B (rcN σ d i)) j)) ∧ FT s0 s) n (Q := fun r => ∃ τ, r = some (bs (fF O (fun i => B (rcN σ d i)) (n - 1)), τ) ∧ (∀ i, i < n → gL τ 39 i = bs (fF O (fun i => B (rcN σ d i)) i)) ∧ FT s0 τ) ?_ ?_ 2000 (by omega) s0 ⟨fun j h => by omega, Fx_rfl⟩
  · intro i s hi ⟨g1, g2⟩ J
    have hc : core s = core σ := by rw [core_FT g2, hc0]
    have hBs : Bnear B s := fun a ha => by rw [Fx_L g2 (by omega)]; exact hB a ha
    refine ⟨pL s 39 i (bs (fF O (fun i => B (rcN σ d i)) i)), ⟨fun j hj => ?_, Fx_pL (Or.inl rfl) g2⟩, ?_⟩
    · by_cases y : j = i
      · rw [y]; exact gL_pL_eq
      · rw [gL_pL_ne (by omega)]; exact g1 j (by omega)
    · show mX9_follow_6 (10 + d) (bs O) J (bs (cF O (fun i => B (rcN σ d i)) i)) (nI i) s = J _ (nI (i + 1)) _
      unfold mX9_follow_6
      have h4s : gI s (10 + d) 4 = nI n := by rw [core_I hc _ _ (keI_sh hd), h4]
      rw [kl_e, kl_e, h4s, if_neg (nI_ge hi (by omega)), if_neg (show ¬ (100 : Int32) ≤ nI i from nI_ge (b := 100) (by omega) (by omega)), spread_c, cl2_e, fitOn_c (σ := σ) hn h4s hi (by rw [core_L hc _ _ (keL_sh hd)]; exact (hr i hi).2) (hr i hi).1 hBs, cl2_e, bs_and, kl_e, stL_100 (by omega), nI_1]
      have e1 : bs (fun j => sp (cF O (fun i => B (rcN σ d i)) i) j && (B (rcN σ d i) j && O j)) = bs (fF O (fun i => B (rcN σ d i)) i) := bs_eq (fun e _ => cF_s)
      rw [e1]
      rfl
  · intro s ⟨g1, g2⟩ J
    have hc : core s = core σ := by rw [core_FT g2, hc0]
    have h4s : gI s (10 + d) 4 = nI n := by rw [core_I hc _ _ (keI_sh hd), h4]
    refine ⟨s, ?_, g1, g2⟩
    show mX9_follow_6 (10 + d) (bs O) J (bs (cF O (fun i => B (rcN σ d i)) n)) (nI n) s = _
    unfold mX9_follow_6 mX9_follow_53
    rw [kl_e, kl_e, h4s, if_pos (Int32.le_refl _)]
    obtain ⟨w, hw⟩ : ∃ w, n = w + 1 := ⟨n - 1, by omega⟩
    rw [hw]
    rfl
theorem notOff_m {d i r : Nat} {S : Nat → Bool} {σ : St} (hd : d < 8) (hi : i < 100) (hr : gL σ 53 (100 * d + i) = (nI r).toInt64) (hc : r < 36) : mX11_notOff (nI d) (nI i) (bs S) σ = some (bs (fun e => S e && Nr (lm σ) (ls (lm σ) 3) (ls (lm σ) 4) r e), σ) := by
  unfold mX11_notOff
  rw [kl_e]
  refine lp_for (app := fun c (J : Int64 → Int32 → St → Option (Int64 × St)) => J (bsn (fun e => S e && Nr (lm σ) (ls (lm σ) 3) (ls (lm σ) 4) r e) c) (nI c) σ) 36 _ ?_ ?_ 2000 (by omega)
  · intro c hcc J
    have hS : bsn (fun e => S e && Nr (lm σ) (ls (lm σ) 3) (ls (lm σ) 4) r e) (c + 1) = if (S c && Nr (lm σ) (ls (lm σ) 3) (ls (lm σ) 4) r c) = true then bsn (fun e => S e && Nr (lm σ) (ls (lm σ) 3) (ls (lm σ) 4) r e) c ||| ((1 : Int64) <<< lN c) else bsn (fun e => S e && Nr (lm σ) (ls (lm σ) 3) (ls (lm σ) 4) r e) c := rfl
    rw [hS]
    unfold mX11_notOff_6 mX11_notOff_53 mX11_notOff_52
    rw [if_neg (lt36 hcc), isOn_m hcc, cl2_e]
    simp only [kl_e, nI_1]
    rw [ldL_800 hd hi, hr, i64_32, isOff_m hc hcc, cl2_e, sh_c hcc, bs_bit hcc, ← Off_Nr]
    cases S c
    · rw [b2_f, if_pos rfl, Bool.false_and, if_neg (by decide), show ∀ x : Int64, x ||| 0 = x from fun x => by simp]
    · rw [b2_t, if_neg n10, Bool.true_and]
      cases Off (lm σ) r c
      · rw [b2_f, if_pos rfl, if_pos (show (!false) = true from rfl)]
      · rw [b2_t, if_neg n10, if_neg (by decide), show ∀ x : Int64, x ||| 0 = x from fun x => by simp]
  · intro J
    unfold mX11_notOff_6
    rw [if_pos at36]
    rfl
/-- m places on from place i -/
def fw (O : Nat → Bool) (Nf : Nat → Nat → Bool) (i : Nat) : Nat → (Nat → Bool) → Nat → Bool
  | 0, S => S
  | m + 1, S => gst O (Nf (i + m + 1)) (fw O Nf i m S)
theorem toLast_m {d n i : Nat} {O : Nat → Bool} {Nf : Nat → Nat → Bool} {rc : Nat → Nat} {S : Nat → Bool} {σ : St} (hd : d < 8) (hn : n ≤ 100) (hi : i < n) (h8 : gA σ 52 d = nI n) (hr : ∀ i, i < n → rc i < 36 ∧ gL σ 53 (100 * d + i) = (nI (rc i)).toInt64) (hO : Om σ = O) (hN : ∀ i, Nf i = Nr (lm σ) (ls (lm σ) 3) (ls (lm σ) 4) (rc i)) : mX11_toTheLast (nI d) (nI i) (bs S) σ = some (bs (fw O Nf i (n - 1 - i) S), σ) := by
  unfold mX11_toTheLast
  rw [kl_e, kl_e, nI_1]
  have key : ∀ J : Int64 → Int32 → St → Option (Int64 × St), J (bs S) (nI (i + 1)) σ = J (bs (fw O Nf i 0 S)) (nI (i + 1 + 0)) σ := fun J => rfl
  rw [key (lp (fun _ _ _ => none) (mX11_toTheLast_8 (nI d)) 2000)]
  refine lp_for (app := fun m (J : Int64 → Int32 → St → Option (Int64 × St)) => J (bs (fw O Nf i m S)) (nI (i + 1 + m)) σ) (n - 1 - i) _ ?_ ?_ 2000 (by omega)
  · intro m hm J
    unfold mX11_toTheLast_8
    rw [ldA_8 hd, h8, if_neg (nI_ge (by omega) (by omega)), goOn_m, cl2_e, notOff_m hd (by omega) (hr _ (by omega)).2 (hr _ (by omega)).1, cl2_e, nI_1, hO, show i + 1 + m = i + m + 1 by omega, ← hN]
    have e1 : bs (fun e => nx O (fw O Nf i m S) e && Nf (i + m + 1) e) = bs (fw O Nf i (m + 1) S) := bs_eq (fun e _ => rfl)
    rw [e1, show i + m + 1 + 1 = i + 1 + (m + 1) by omega]
  · intro J
    unfold mX11_toTheLast_8
    rw [ldA_8 hd, h8, if_pos (nI_le (by omega) (by omega))]
theorem fF_fw {O : Nat → Bool} {Nf : Nat → Nat → Bool} : ∀ m, fF O Nf m = fw O Nf 0 m (fF O Nf 0)
  | 0 => rfl
  | m + 1 => by
    show gst O (Nf (m + 1)) (fF O Nf m) = gst O (Nf (0 + m + 1)) (fw O Nf 0 m (fF O Nf 0))
    rw [fF_fw m, Nat.zero_add]
theorem gst_eq {O O' Ni Ni' S S' : Nat → Bool} (h1 : ∀ e, e < 36 → O e = O' e) (h2 : ∀ e, e < 36 → Ni e = Ni' e) (h3 : ∀ e, e < 36 → S e = S' e) {e : Nat} (he : e < 36) : gst O Ni S e = gst O' Ni' S' e := by
  unfold gst nx
  rw [h1 e he, h2 e he, sp_eq h3 he]
theorem fF_eq {O O' : Nat → Bool} {Nf Nf' : Nat → Nat → Bool} (h1 : ∀ e, e < 36 → O e = O' e) (h2 : ∀ i e, e < 36 → Nf i e = Nf' i e) : ∀ i e, e < 36 → fF O Nf i e = fF O' Nf' i e
  | 0, e, he => by show (O e && Nf 0 e) = (O' e && Nf' 0 e); rw [h1 e he, h2 0 e he]
  | i + 1, e, he => gst_eq h1 (h2 (i + 1)) (fF_eq h1 h2 i) he
theorem fw_eq {O O' : Nat → Bool} {Nf Nf' : Nat → Nat → Bool} {S S' : Nat → Bool} {i : Nat} (h1 : ∀ e, e < 36 → O e = O' e) (h2 : ∀ i e, e < 36 → Nf i e = Nf' i e) (h3 : ∀ e, e < 36 → S e = S' e) : ∀ m e, e < 36 → fw O Nf i m S e = fw O' Nf' i m S' e
  | 0, e, he => h3 e he
  | m + 1, e, he => gst_eq h1 (h2 _) (fw_eq h1 h2 h3 m) he
theorem s_hisWay : stp264 Inv mX10_hisWay mX11_hisWay := by
  intro σ a b hI
  have j1 : ∀ τ, mX11_in b.toInt64 (0 : Int64) (1 : Int64) τ = some (b2 (inR b 0 1), τ) := fun τ => in_m b 0 1 τ
  cases h : inR b 0 1
  · refine ⟨-1000000001, σ, pI σ 45 16 0, ?_, ?_, Inv_core c16 hI⟩
    · unfold mX10_hisWay mX10_hisWay_16 mX10_ofLongs
      rw [either_c, h, b2_f, cl2_e, kl_e, if_pos rfl]
      simp only [if_neg (show ¬ (-1 : Int32) = 0 by decide), cl2_e]
      rfl
    · unfold mX11_hisWay mX11_hisWay_24
      rw [kl_e, j1, h, b2_f, cl2_e, kl_e, if_pos rfl]
      simp only [if_neg (show ¬ (0 : Int32) ≤ -1 by decide)]
      rfl
  rcases tr_or hI a with ⟨v, v1, v2, v3, v4, v5⟩ | ⟨d, s, n, hd, rfl, hR, h0, hr, v3, v4⟩
  · refine ⟨v.toInt64 - 1000000000, σ, pI σ 45 16 0, ?_, ?_, Inv_core c16 hI⟩
    · unfold mX10_hisWay mX10_hisWay_16 mX10_ofLongs
      rw [either_c, h, b2_t, cl2_e, kl_e, if_neg n10, v3, cl2_e]
      simp only [if_neg v1, cl2_e]
    · unfold mX11_hisWay mX11_hisWay_24
      rw [kl_e, j1, h, b2_t, cl2_e, kl_e, if_neg n10, v4 _ c16, cl2_e]
      simp only [if_neg v2, v5]
  · have hn := hR.2.2.2.1
    obtain ⟨s0, s1, s2, s3, s4, s5⟩ := lay_c σ
    have hc0 := core_FB s5
    obtain ⟨τ, t1, t2, t3⟩ := follow_c (O := Op (ld σ 1)) (σ := σ) hd hn h0 hc0 hR.2.2.2.2.2.2.1 (fun i hi => ⟨(hr i hi).1, (hr i hi).2.1⟩) s3
    have hc : core τ = core σ := by rw [core_FT t3, hc0]
    have hcp : core (pI τ 45 16 0) = core σ := by rw [c16, hc]
    have hl : lm (pI τ 45 16 0) = ld σ 1 := by rw [lm_core hcp, hI.1]
    have hO : ∀ c, c < 36 → Om (pI τ 45 16 0) c = Op (ld σ 1) c := fun c hc' => by rw [Om_core hcp, Inv_Om hI hc']
    have m53 : ∀ i, i < n → rcN σ d i < 36 ∧ gL (pI τ 45 16 0) 53 (100 * d + i) = (nI (rcN σ d i)).toInt64 := fun i hi => ⟨(hr i hi).1, by rw [core_L hcp 53 _ rfl]; exact (hr i hi).2.2⟩
    have hlast := toLast_m (σ := pI τ 45 16 0) (O := Om (pI τ 45 16 0)) (rc := rcN σ d) (Nf := fun i => Nr (ld σ 1) (ls (ld σ 1) 3) (ls (ld σ 1) 4) (rcN σ d i)) (S := fun e => Om (pI τ 45 16 0) e && Nr (ld σ 1) (ls (ld σ 1) 3) (ls (ld σ 1) 4) (rcN σ d 0) e) hd hn h0 (by rw [core_A hcp 52 d rfl]; exact hR.2.2.2.2.2.2.2.1) m53 rfl (fun i => by rw [hl])
    have hE : ∀ e, e < 36 → fw (Om (pI τ 45 16 0)) (fun i => Nr (ld σ 1) (ls (ld σ 1) 3) (ls (ld σ 1) 4) (rcN σ d i)) 0 (n - 1 - 0) (fun e => Om (pI τ 45 16 0) e && Nr (ld σ 1) (ls (ld σ 1) 3) (ls (ld σ 1) 4) (rcN σ d 0) e) e = fF (Op (ld σ 1)) (fun i => Nr (ld σ 1) (ls (ld σ 1) 3) (ls (ld σ 1) 4) (rcN σ d i)) (n - 1) e := fun e he => by
      rw [fF_fw]
      exact fw_eq hO (fun _ _ _ => rfl) (fun e he => by
        show (Om (pI τ 45 16 0) e && _) = (Op (ld σ 1) e && _)
        rw [hO e he]) (n - 1) e he
    refine ⟨if b = 0 then bs (fF (Op (ld σ 1)) (fun i => Nr (ld σ 1) (ls (ld σ 1) 3) (ls (ld σ 1) 4) (rcN σ d i)) (n - 1)) else (nI (cnt (fF (Op (ld σ 1)) (fun i => Nr (ld σ 1) (ls (ld σ 1) 3) (ls (ld σ 1) 4) (rcN σ d i)) (n - 1)) 36)).toInt64, τ, pI τ 45 16 0, ?_, ?_, Inv_core hcp hI⟩
    · unfold mX10_hisWay mX10_hisWay_16
      rw [either_c, h, b2_t, cl2_e, kl_e, if_neg n10, v3, cl2_e]
      simp only [ite_true, s1, cl1_e, shelfAt_c hd, cl2_e, openCells_c, ld_core hc0, t1, bitCount_c]
      by_cases y : b = 0
      · rw [if_pos y, if_pos y]
      · rw [if_neg y, if_neg y]
    · unfold mX11_hisWay mX11_hisWay_24
      rw [kl_e, j1, h, b2_t, cl2_e, kl_e, if_neg n10, v4 _ hcp, cl2_e]
      have hno := notOff_m (σ := pI τ 45 16 0) (i := 0) (S := Om (pI τ 45 16 0)) hd (by omega) (m53 0 h0).2 (m53 0 h0).1
      rw [hl, nI_0] at hno
      rw [nI_0] at hlast
      simp only [if_pos (show (0 : Int32) ≤ 0 by decide), openCells_m, cl2_e]
      rw [hno, cl2_e, hlast, cl2_e, bs_eq hE]
      simp only [onesOf_m, cl2_e]
      by_cases y : b = 0
      · rw [if_pos y, if_pos y]
      · rw [if_neg y, if_neg y]
