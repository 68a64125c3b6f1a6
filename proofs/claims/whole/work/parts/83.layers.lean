/-! ===== PURE: the class's days by layers ===== -/
/-- the class has gone n days from src over P -/
def LY (N : Nat) (P : Nat → Nat → Bool) (src n : Nat) (s : St) : Prop := (∀ h, h < 36 → gL s 33 h = bs (fun e => Sx N A2 (fl2 P) src n (36 * h + e))) ∧ ∀ k, k < N → gA s 35 k = if Sx N A2 (fl2 P) src n k then nI (Dx N A2 (fl2 P) src k) else -4
abbrev FL (σ τ : St) : Prop := Fx (fun _ _ => False) (fun a => a = 35) (fun a => a = 33 ∨ a = 34) σ τ
theorem core_FL {σ τ : St} (h : FL σ τ) : core τ = core σ := core_Fx (fun o k e => e.elim) (fun a e => by subst e; rfl) (fun a e => by rcases e with rfl | rfl <;> rfl) h
theorem start_c2 {N a b : Nat} {P : Nat → Nat → Bool} {σ : St} (hN : N = 1296) (ha : a < 36) (hb : b < 36) (hP : Bfit P σ) : ∃ τ, mX0_start (nI a) (nI b) σ = some τ ∧ LY N P (36 * a + b) 0 τ ∧ FL σ τ := by
  unfold mX0_start
  obtain ⟨s1, e1, e2, e3⟩ := fillA_c (o := 35) (n := N) (v := -4) (by rw [hN]; rfl) (by omega) σ
  obtain ⟨s2, f1, f2, f3⟩ := fillL_c (o := 33) (n := 36) (v := 0) rfl (by omega) s1
  have F1 : FL σ s1 := Fx_mono (fun _ _ h => h) (fun _ h => h) (fun _ h => h.elim) e3
  have F2 : FL σ s2 := Fx_tr F1 (Fx_mono (fun _ _ h => h) (fun _ h => h.elim) (fun _ h => Or.inl h) f3)
  have P2 : Bfit P s2 := fun c hc => by rw [Fx_L F2 (by omega)]; exact hP c hc
  have d2 : ∀ k, k < N → gA s2 35 k = -4 := fun k hk => by rw [Fx_A f3 (by simp), e2 k hk]
  rw [e1, cl1_e, f1, cl1_e, isPair_c P2 ha hb, cl2_e]
  have h0 : ∀ k, Sx N A2 (fl2 P) (36 * a + b) 0 k = (decide (k = 36 * a + b) && fl2 P k) := fun k => rfl
  cases y : P a b
  · rw [b2_f, if_pos rfl]
    have hz : ∀ k, Sx N A2 (fl2 P) (36 * a + b) 0 k = false := fun k => by
      rw [h0]
      by_cases q : k = 36 * a + b
      · rw [q, fl2_at hb, y, Bool.and_false]
      · rw [decide_eq_false q]; rfl
    refine ⟨s2, rfl, ⟨fun h hh => ?_, fun k hk => ?_⟩, F2⟩
    · rw [f2 h hh, ← bs_0]
      exact bs_eq (fun e _ => (hz _).symm)
    · rw [hz, if_neg (by decide)]; exact d2 k hk
  · rw [b2_t, if_neg n10, bit_c hb, cl2_e, stL_36 ha, ix36, stA_1296 (by omega)]
    have hz : ∀ k, Sx N A2 (fl2 P) (36 * a + b) 0 k = decide (k = 36 * a + b) := fun k => by
      rw [h0]
      by_cases q : k = 36 * a + b
      · rw [q, fl2_at hb, y, Bool.and_true]
      · rw [decide_eq_false q]; rfl
    refine ⟨_, rfl, ⟨fun h hh => ?_, fun k hk => ?_⟩, Fx_pA rfl (Fx_pL (Or.inl rfl) F2)⟩
    · rw [gL_pA]
      by_cases q : h = a
      · rw [q, gL_pL_eq]
        refine bs_eq (fun e _ => ?_)
        rw [hz]
        by_cases z : e = b
        · rw [z, decide_eq_true rfl, decide_eq_true rfl]
        · rw [decide_eq_false z, decide_eq_false (by omega)]
      · rw [gL_pL_ne (by omega), f2 h hh, ← bs_0]
        refine bs_eq (fun e he => ?_)
        rw [hz, decide_eq_false (by omega)]
    · rw [hz]
      by_cases q : k = 36 * a + b
      · rw [q, gA_pA_eq, decide_eq_true rfl, if_pos rfl, Dx_self (by omega) (by rw [fl2_at hb]; exact y)]; rfl
      · rw [gA_pA_ne (by omega), gA_pL, decide_eq_false q, if_neg (by decide)]; exact d2 k hk
theorem comeAround_c {S : Nat → Nat → Bool} {h : Nat} {s : St} (hS : ∀ a, a < 36 → gL s 33 a = bs (S a)) (hh : h < 36) : mX0_comeAround (nI h) s = some (bs (fun e => anyN (fun a => adj h a && S a e) 36), s) := by
  have e0 : mX0_comeAround (nI h) s = some (bs (fun e => anyN (fun d => match nbo h d with | none => false | some a => S a e) 5), s) := by
    unfold mX0_comeAround
    rw [kl_e]
    have i0 : ∀ J : Int64 → Int32 → St → Option (Int64 × St), J 0 0 s = J (bs (fun e => anyN (fun d => match nbo h d with | none => false | some a => S a e) 0)) (nI 0) s := fun J => by
      rw [nI_0, ← bs_0]; rfl
    rw [i0 (lp (fun _ _ _ => none) (mX0_comeAround_5 (nI h)) 2000)]
    refine lp_for (app := fun d (J : Int64 → Int32 → St → Option (Int64 × St)) => J (bs (fun e => anyN (fun d => match nbo h d with | none => false | some a => S a e) d)) (nI d) s) 5 _ ?_ ?_ 2000 (by omega)
    · intro d hd J
      have hb : (fun e => anyN (fun d => match nbo h d with | none => false | some a => S a e) (d + 1)) = fun e => (anyN (fun d => match nbo h d with | none => false | some a => S a e) d || match nbo h d with | none => false | some a => S a e) := rfl
      rw [hb]
      unfold mX0_comeAround_5 mX0_comeAround_38
      rw [if_neg (lt5 hd), cellTo_c hh hd, cl2_e]
      cases hn : nbo h d with
      | none =>
        rw [ncell_c (show inR (oi none) 0 35 = false by decide), cl2_e, kl_e, if_pos rfl]
        simp only [nI_1, Bool.or_false]
      | some a =>
        have ha := nbo_lt' hh hd hn
        rw [show oi (some a) = nI a from rfl, cell_c ha, cl2_e, kl_e, if_neg n10, ldL_36 ha, hS a ha, bs_or, kl_e]
        simp only [nI_1]
    · intro J
      unfold mX0_comeAround_5
      rw [if_pos at5]
  rw [e0]
  refine congrArg (fun x => some (x, s)) (bs_eq (fun e _ => bool_ext ?_))
  rw [anyN_iff, anyN_iff]
  constructor
  · rintro ⟨d, hd, h2⟩
    cases hn : nbo h d with
    | none => rw [hn] at h2; cases h2
    | some a =>
      rw [hn] at h2
      exact ⟨a, nbo_lt' hh hd hn, by rw [Bool.and_eq_true]; exact ⟨adj_iff.2 ⟨d, hd, hn⟩, h2⟩⟩
  · rintro ⟨a, _, h2⟩
    rw [Bool.and_eq_true] at h2
    obtain ⟨d, hd, hn⟩ := adj_iff.1 h2.1
    exact ⟨d, hd, by rw [hn]; exact h2.2⟩
theorem mark_c {h : Nat} {T : Nat → Bool} {v : Int32} {s : St} (hh : h < 36) : ∃ τ, mX0_mark (nI h) (bs T) v s = some τ ∧ (∀ k, gA τ 35 k = if k / 36 = h ∧ T (k % 36) = true then v else gA s 35 k) ∧ Fx (fun _ _ => False) (fun a => a = 35) (fun _ => False) s τ := by
  unfold mX0_mark
  rw [kl_e]
  refine lp_rel (app := fun e (s : St) (J : Int32 → St → Option St) => J (nI e) s) (P := fun e t => (∀ k, gA t 35 k = if k / 36 = h ∧ k % 36 < e ∧ T (k % 36) = true then v else gA s 35 k) ∧ Fx (fun _ _ => False) (fun a => a = 35) (fun _ => False) s t) 36 (Q := fun r => ∃ τ, r = some τ ∧ (∀ k, gA τ 35 k = if k / 36 = h ∧ T (k % 36) = true then v else gA s 35 k) ∧ Fx (fun _ _ => False) (fun a => a = 35) (fun _ => False) s τ) ?_ ?_ 2000 (by omega) s ⟨fun k => by rw [if_neg (by omega)], Fx_rfl⟩
  · intro e t he ⟨g1, g2⟩ J
    show ∃ x', _ ∧ mX0_mark_3 (nI h) (bs T) v J (nI e) t = J (nI (e + 1)) x'
    unfold mX0_mark_3 mX0_mark_41
    rw [if_neg (lt36 he), cell_c hh, cl2_e, kl_e, if_neg n10, has_c he, cl2_e, ix36, stA_1296 (by omega)]
    simp only [nI_1]
    cases y : T e
    · rw [b2_f, if_pos rfl]
      refine ⟨t, ⟨fun k => ?_, g2⟩, rfl⟩
      rw [g1 k]
      by_cases z : k / 36 = h ∧ k % 36 < e ∧ T (k % 36) = true
      · rw [if_pos z, if_pos ⟨z.1, by omega, z.2.2⟩]
      · rw [if_neg z, if_neg (fun w => z ⟨w.1, by
          by_cases q : k % 36 = e
          · rw [q, y] at w; cases w.2.2
          · omega, w.2.2⟩)]
    · rw [b2_t, if_neg n10]
      refine ⟨_, ⟨fun k => ?_, Fx_pA rfl g2⟩, rfl⟩
      by_cases q : k = 36 * h + e
      · rw [q, gA_pA_eq, if_pos ⟨by omega, by omega, by rw [show (36 * h + e) % 36 = e by omega]; exact y⟩]
      · rw [gA_pA_ne (by omega), g1 k]
        by_cases z : k / 36 = h ∧ k % 36 < e ∧ T (k % 36) = true
        · rw [if_pos z, if_pos ⟨z.1, by omega, z.2.2⟩]
        · rw [if_neg z, if_neg (fun w => z ⟨w.1, by omega, w.2.2⟩)]
  · intro t ⟨g1, g2⟩ J
    refine ⟨t, ?_, fun k => ?_, g2⟩
    · show mX0_mark_3 (nI h) (bs T) v J (nI 36) t = _
      unfold mX0_mark_3
      rw [if_pos at36]
    · rw [g1 k]
      by_cases z : k / 36 = h ∧ T (k % 36) = true
      · rw [if_pos z, if_pos ⟨z.1, by omega, z.2⟩]
      · rw [if_neg z, if_neg (fun w => z ⟨w.1, w.2.2⟩)]
/-- what comes new on the day behind n -/
def Sf (N : Nat) (P : Nat → Nat → Bool) (src n k : Nat) : Bool := Sx N A2 (fl2 P) src (n + 1) k && !Sx N A2 (fl2 P) src n k
theorem fresh_eq {N src n h e : Nat} {P : Nat → Nat → Bool} (hN : N = 1296) (hh : h < 36) (he : e < 36) : ((sp (fun e => anyN (fun a => adj h a && Sx N A2 (fl2 P) src n (36 * a + e)) 36) e && P h e) && !Sx N A2 (fl2 P) src n (36 * h + e)) = Sf N P src n (36 * h + e) := by
  unfold Sf
  rw [Sx_s, fl2_at he, sp_adj he]
  refine congrArg (fun x => x && !Sx N A2 (fl2 P) src n (36 * h + e)) ?_
  rw [Bool.and_comm]
  refine congrArg (fun x => P h e && x) (bool_ext ?_)
  rw [anyN_iff, anyN_iff]
  constructor
  · rintro ⟨b, hb, h2⟩
    rw [Bool.and_eq_true] at h2
    obtain ⟨a, ha, h3⟩ := anyN_iff.1 h2.1
    rw [Bool.and_eq_true] at h3
    refine ⟨36 * a + b, by omega, ?_⟩
    rw [Bool.and_eq_true]
    refine ⟨h3.2, ?_⟩
    unfold A2
    rw [show (36 * a + b) / 36 = a by omega, show (36 * a + b) % 36 = b by omega, show (36 * h + e) / 36 = h by omega, show (36 * h + e) % 36 = e by omega, adj_sym a ha h hh, h3.1, h2.2]; rfl
  · rintro ⟨k, hk, h2⟩
    rw [Bool.and_eq_true] at h2
    have h3 := h2.2
    unfold A2 at h3
    rw [show (36 * h + e) / 36 = h by omega, show (36 * h + e) % 36 = e by omega, Bool.and_eq_true] at h3
    refine ⟨k % 36, by omega, ?_⟩
    rw [Bool.and_eq_true]
    refine ⟨anyN_iff.2 ⟨k / 36, by omega, ?_⟩, h3.2⟩
    rw [Bool.and_eq_true, show 36 * (k / 36) + k % 36 = k by omega]
    exact ⟨by rw [adj_sym h hh (k / 36) (by omega)]; exact h3.1, h2.1⟩
theorem Sf_no {N src n h : Nat} {P : Nat → Nat → Bool} (hz : ∀ e, e < 36 → P h e = false) {e : Nat} (he : e < 36) : Sf N P src n (36 * h + e) = false := by
  unfold Sf
  cases y : Sx N A2 (fl2 P) src (n + 1) (36 * h + e)
  · rfl
  · have := Sx_P y
    rw [fl2_at he, hz e he] at this; cases this
theorem Sx_Sf {N src n k : Nat} {P : Nat → Nat → Bool} (hN : N = 1296) (hk : k < N) : Sx N A2 (fl2 P) src (n + 1) k = (Sx N A2 (fl2 P) src n k || Sf N P src n k) := by
  unfold Sf
  cases y : Sx N A2 (fl2 P) src n k
  · simp
  · rw [Sx_up (fun k hk => A2_r (by omega)) hk y]; rfl
theorem spread_c2 {N src n : Nat} {P : Nat → Nat → Bool} {σ s : St} (hN : N = 1296) (hn : n < N) (hP : Bfit P σ) (hL : LY N P src n s) (hF : FL σ s) : ∃ τ, mX0_spreadOn (nI (n + 1)) s = some (b2 (anyN (fun k => Sf N P src n k) N), τ) ∧ LY N P src (n + 1) τ ∧ FL σ τ := by
  have hr : ∀ k, k < N → A2 k k = true := fun k hk => A2_r (by omega)
  unfold mX0_spreadOn
  rw [kl_e]
  refine lp_rel (app := fun h (s : St) (J : Int32 → St → Option (Int32 × St)) => J (nI h) s) (P := fun h t => (∀ a, a < h → gL t 34 a = bs (fun e => Sf N P src n (36 * a + e))) ∧ LY N P src n t ∧ FL σ t) 36 (Q := fun r => ∃ τ, r = some (b2 (anyN (fun k => Sf N P src n k) N), τ) ∧ LY N P src (n + 1) τ ∧ FL σ τ) ?_ ?_ 2000 (by omega) s ⟨fun a h => by omega, hL, hF⟩
  · intro h t hh ⟨g1, g2, g3⟩ J
    have hfit : gL t 32 h = bs (P h) := by rw [Fx_L g3 (by omega)]; exact hP h hh
    have fin : ∀ x, x = bs (fun e => Sf N P src n (36 * h + e)) → ∃ x', ((∀ a, a < h + 1 → gL x' 34 a = bs (fun e => Sf N P src n (36 * a + e))) ∧ LY N P src n x' ∧ FL σ x') ∧ mX0_spreadOn_54 (nI h) J x t = J (nI (h + 1)) x' := by
      intro x hx
      refine ⟨pL t 34 h x, ⟨fun a ha => ?_, ⟨fun a ha => by rw [gL_pL_ne (by omega)]; exact g2.1 a ha, g2.2⟩, Fx_pL (Or.inr rfl) g3⟩, ?_⟩
      · by_cases q : a = h
        · rw [q, gL_pL_eq, hx]
        · rw [gL_pL_ne (by omega)]; exact g1 a (by omega)
      · unfold mX0_spreadOn_54
        rw [stL_36 hh, nI_1]
    show ∃ x', _ ∧ mX0_spreadOn_2 (nI (n + 1)) J (nI h) t = J (nI (h + 1)) x'
    unfold mX0_spreadOn_2
    rw [if_neg (lt36 hh), ldL_36 hh, hfit, kl_e]
    by_cases z : ∀ e, e < 36 → P h e = false
    · rw [if_pos (by rw [lg_0, bs_z]; exact z)]
      refine fin 0 ?_
      rw [← bs_0]
      exact bs_eq (fun e he => (Sf_no z he).symm)
    · rw [if_neg (by rw [lg_0, bs_z]; exact z), comeAround_c (S := fun a e => Sx N A2 (fl2 P) src n (36 * a + e)) (fun a ha => g2.1 a ha) hh, cl2_e, spread_c, cl2_e, ldL_36 hh, hfit, ldL_36 hh, g2.1 h hh, bs_and, bs_not]
      exact fin _ (bs_eq (fun e he => fresh_eq hN hh he))
  · intro t ⟨g1, g2, g3⟩ J
    show ∃ τ, mX0_spreadOn_2 (nI (n + 1)) J (nI 36) t = some (b2 (anyN (fun k => Sf N P src n k) N), τ) ∧ _
    unfold mX0_spreadOn_2
    rw [if_pos at36, kl_e]
    have hany : anyN (fun k => Sf N P src n k) N = anyN (fun a => anyN (fun e => Sf N P src n (36 * a + e)) 36) 36 := by
      apply bool_ext
      rw [anyN_iff, anyN_iff]
      constructor
      · rintro ⟨k, hk, h2⟩
        exact ⟨k / 36, by omega, anyN_iff.2 ⟨k % 36, by omega, by rw [show 36 * (k / 36) + k % 36 = k by omega]; exact h2⟩⟩
      · rintro ⟨a, ha, h2⟩
        obtain ⟨e, he, h3⟩ := anyN_iff.1 h2
        exact ⟨36 * a + e, by omega, h3⟩
    rw [hany]
    have hDf : ∀ k, k < N → Sf N P src n k = true → Dx N A2 (fl2 P) src k = n + 1 := fun k hk h => by
      unfold Sf at h
      rw [Bool.and_eq_true] at h
      have h2 := Dx_ever hr hk h.1
      have h3 : ¬ Dx N A2 (fl2 P) src k ≤ n := fun z => by
        have := Dx_at (src := src) (P := fl2 P) hr hk hn
        rw [decide_eq_true z] at this
        rw [this] at h
        exact absurd h.2 (by decide)
      omega
    refine lp_rel (app := fun h (s : St) (J : Int32 → Int32 → St → Option (Int32 × St)) => J (b2 (anyN (fun a => anyN (fun e => Sf N P src n (36 * a + e)) 36) h)) (nI h) s) (P := fun h t => (∀ a, a < 36 → gL t 34 a = bs (fun e => Sf N P src n (36 * a + e))) ∧ (∀ a, a < 36 → gL t 33 a = bs (fun e => if a < h then Sx N A2 (fl2 P) src (n + 1) (36 * a + e) else Sx N A2 (fl2 P) src n (36 * a + e))) ∧ (∀ k, k < N → gA t 35 k = if (if k / 36 < h then Sx N A2 (fl2 P) src (n + 1) k else Sx N A2 (fl2 P) src n k) = true then nI (Dx N A2 (fl2 P) src k) else -4) ∧ FL σ t) 36 (Q := fun r => ∃ τ, r = some (b2 (anyN (fun a => anyN (fun e => Sf N P src n (36 * a + e)) 36) 36), τ) ∧ LY N P src (n + 1) τ ∧ FL σ τ) ?_ ?_ 2000 (by omega) t ⟨g1, fun a ha => by rw [g2.1 a ha]; exact bs_eq (fun e _ => by rw [if_neg (by omega)]), fun k hk => by rw [g2.2 k hk, if_neg (show ¬ k / 36 < 0 by omega)], g3⟩
    · intro h t hh ⟨g1, g2, g3, g4⟩ J
      have hA : anyN (fun a => anyN (fun e => Sf N P src n (36 * a + e)) 36) (h + 1) = (anyN (fun a => anyN (fun e => Sf N P src n (36 * a + e)) 36) h || anyN (fun e => Sf N P src n (36 * h + e)) 36) := rfl
      rw [hA]
      show ∃ x', _ ∧ mX0_spreadOn_65 (nI (n + 1)) J (b2 (anyN (fun a => anyN (fun e => Sf N P src n (36 * a + e)) 36) h)) (nI h) t = J _ (nI (h + 1)) x'
      unfold mX0_spreadOn_65 mX0_spreadOn_111
      rw [if_neg (lt36 hh), ldL_36 hh, g1 h hh, kl_e]
      cases y : anyN (fun e => Sf N P src n (36 * h + e)) 36
      · rw [if_pos (by rw [lg_0, bs_z]; exact anyN_f.1 y)]
        simp only [nI_1, Bool.or_false]
        have hno : ∀ e, e < 36 → Sf N P src n (36 * h + e) = false := anyN_f.1 y
        refine ⟨t, ⟨g1, fun a ha => ?_, fun k hk => ?_, g4⟩, rfl⟩
        · rw [g2 a ha]
          refine bs_eq (fun e he => ?_)
          by_cases q : a = h
          · rw [if_neg (by omega), if_pos (by omega), q, Sx_Sf hN (by omega), hno e he, Bool.or_false]
          · by_cases z : a < h
            · rw [if_pos z, if_pos (by omega)]
            · rw [if_neg z, if_neg (by omega)]
        · rw [g3 k hk]
          by_cases q : k / 36 = h
          · have hnk : Sf N P src n k = false := by
              have := hno (k % 36) (by omega)
              rwa [show 36 * h + k % 36 = k by omega] at this
            rw [if_neg (show ¬ k / 36 < h by omega), if_pos (show k / 36 < h + 1 by omega), Sx_Sf hN hk, hnk, Bool.or_false]
          · by_cases z : k / 36 < h
            · rw [if_pos z, if_pos (show k / 36 < h + 1 by omega)]
            · rw [if_neg z, if_neg (show ¬ k / 36 < h + 1 by omega)]
      · rw [if_neg (by
          rw [lg_0, bs_z]
          intro z
          rw [anyN_f.2 z] at y; cases y), ldL_36 hh, ldL_36 hh, stL_36 hh, ldL_36 hh, g1 h hh, g2 h hh, bs_or, gL_pL_ne (by omega), g1 h hh]
        obtain ⟨τ, m1, m2, m3⟩ := mark_c (h := h) (T := fun e => Sf N P src n (36 * h + e)) (v := nI (n + 1)) (s := pL t 33 h (bs (fun j => (if h < h then Sx N A2 (fl2 P) src (n + 1) (36 * h + j) else Sx N A2 (fl2 P) src n (36 * h + j)) || Sf N P src n (36 * h + j)))) hh
        rw [m1, cl1_e]
        simp only [nI_1, Bool.or_true]
        refine ⟨τ, ⟨fun a ha => ?_, fun a ha => ?_, fun k hk => ?_, Fx_tr g4 (Fx_tr (Fx_pL (Or.inl rfl) Fx_rfl) (Fx_mono (fun _ _ h => h) (fun _ h => h) (fun _ h => h.elim) m3))⟩, rfl⟩
        · rw [Fx_L m3 (by simp), gL_pL_ne (by omega)]; exact g1 a ha
        · rw [Fx_L m3 (by simp)]
          by_cases q : a = h
          · rw [q, gL_pL_eq]
            refine bs_eq (fun e he => ?_)
            rw [if_neg (Nat.lt_irrefl h), if_pos (by omega), Sx_Sf hN (by omega)]
          · rw [gL_pL_ne (by omega), g2 a ha]
            refine bs_eq (fun e he => ?_)
            by_cases z : a < h
            · rw [if_pos z, if_pos (by omega)]
            · rw [if_neg z, if_neg (by omega)]
        · rw [m2 k, gA_pL]
          by_cases q : k / 36 = h
          · rw [if_pos (show k / 36 < h + 1 by omega), Sx_Sf hN hk]
            have hk2 : 36 * h + k % 36 = k := by omega
            cases w : Sf N P src n k
            · rw [if_neg (show ¬ (k / 36 = h ∧ Sf N P src n (36 * h + k % 36) = true) by rw [hk2, w]; rintro ⟨_, z⟩; cases z), g3 k hk, if_neg (show ¬ k / 36 < h by omega), Bool.or_false]
            · rw [if_pos (show k / 36 = h ∧ Sf N P src n (36 * h + k % 36) = true by rw [hk2, w]; exact ⟨q, rfl⟩), Bool.or_true, if_pos rfl, hDf k hk w]
          · rw [if_neg (fun w => q w.1), g3 k hk]
            by_cases z : k / 36 < h
            · rw [if_pos z, if_pos (show k / 36 < h + 1 by omega)]
            · rw [if_neg z, if_neg (show ¬ k / 36 < h + 1 by omega)]
    · intro t ⟨g1, g2, g3, g4⟩ J
      refine ⟨t, ?_, ⟨fun a ha => ?_, fun k hk => ?_⟩, g4⟩
      · show mX0_spreadOn_65 (nI (n + 1)) J _ (nI 36) t = _
        unfold mX0_spreadOn_65
        rw [if_pos at36, rz_b]
      · rw [g2 a ha]
        exact bs_eq (fun e _ => by rw [if_pos ha])
      · rw [g3 k hk, if_pos (show k / 36 < 36 by omega)]
def dO (N d : Nat) : Int32 := if d < N then nI d else -4
theorem daysBetween_c {N p q a b : Nat} {P : Nat → Nat → Bool} {σ : St} (hN : N = 1296) (hp : p < 36) (hq : q < 36) (ha : a < 36) (hb : b < 36) (hP : Bfit P σ) : ∃ τ, mX0_daysBetween (nI p) (nI q) (nI a) (nI b) σ = some (dO N (Dx N A2 (fl2 P) (36 * a + b) (36 * p + q)), τ) ∧ FL σ τ ∧ (Dx N A2 (fl2 P) (36 * a + b) (36 * p + q) < N → LY N P (36 * a + b) (Dx N A2 (fl2 P) (36 * a + b) (36 * p + q)) τ) := by
  have hr : ∀ k, k < N → A2 k k = true := fun k hk => A2_r (by omega)
  have hk : 36 * p + q < N := by omega
  unfold mX0_daysBetween
  rw [isPair_c hP hp hq, cl2_e]
  cases y1 : P p q
  · rw [b2_f, if_pos rfl]
    have hD : Dx N A2 (fl2 P) (36 * a + b) (36 * p + q) = N := Dx_nP (by rw [fl2_at hq]; exact y1)
    rw [hD]
    unfold dO
    rw [if_neg (Nat.lt_irrefl _)]
    exact ⟨σ, rfl, Fx_rfl, fun z => absurd z (Nat.lt_irrefl _)⟩
  · rw [b2_t, if_neg n10, isPair_c hP ha hb, cl2_e]
    cases y2 : P a b
    · rw [b2_f, if_pos rfl]
      have hD : Dx N A2 (fl2 P) (36 * a + b) (36 * p + q) = N := Dx_src hk (by omega) (by rw [fl2_at hb]; exact y2)
      rw [hD]
      unfold dO
      rw [if_neg (Nat.lt_irrefl _)]
      exact ⟨σ, rfl, Fx_rfl, fun z => absurd z (Nat.lt_irrefl _)⟩
    · obtain ⟨s0, t1, t2, t3⟩ := start_c2 hN ha hb hP
      rw [b2_t, if_neg n10, t1, cl1_e, kl_e]
      refine lp_rx (bot := fun (_ : Int32) (_ : St) => (none : Option (Int32 × St))) (app := fun i (s : St) (J : Int32 → St → Option (Int32 × St)) => J (nI i) s) (P := fun i s => LY N P (36 * a + b) i s ∧ FL σ s ∧ i ≤ Dx N A2 (fl2 P) (36 * a + b) (36 * p + q)) N (Q := fun r => ∃ τ, r = some (dO N (Dx N A2 (fl2 P) (36 * a + b) (36 * p + q)), τ) ∧ FL σ τ ∧ (Dx N A2 (fl2 P) (36 * a + b) (36 * p + q) < N → LY N P (36 * a + b) (Dx N A2 (fl2 P) (36 * a + b) (36 * p + q)) τ)) ?_ ?_ 2000 0 s0 (by omega) (by omega) ⟨t2, t3, Nat.zero_le _⟩
      · intro i s hi ⟨g1, g2, g3⟩ J
        show (∃ τ, mX0_daysBetween_32 (nI p) (nI q) J (nI i) s = some (_, τ) ∧ _) ∨ ∃ x', _ ∧ mX0_daysBetween_32 (nI p) (nI q) J (nI i) s = J (nI (i + 1)) x'
        unfold mX0_daysBetween_32
        rw [if_neg (lt1296 (show i < 1296 by omega)), ldL_36 hp, g1.1 p hp, has_c hq, cl2_e, Dx_at hr hk hi]
        by_cases z : Dx N A2 (fl2 P) (36 * a + b) (36 * p + q) ≤ i
        · left
          have hD : Dx N A2 (fl2 P) (36 * a + b) (36 * p + q) = i := by omega
          rw [decide_eq_true z, b2_t, if_neg n10, hD]
          unfold dO
          rw [if_pos hi]
          exact ⟨s, rfl, g2, fun _ => g1⟩
        · rw [decide_eq_false z, b2_f, if_pos rfl, nI_1]
          obtain ⟨τ, u1, u2, u3⟩ := spread_c2 hN hi hP g1 g2
          rw [u1, cl2_e]
          cases w : anyN (fun k => Sf N P (36 * a + b) i k) N
          · left
            have hD : Dx N A2 (fl2 P) (36 * a + b) (36 * p + q) = N := by
              have hle := Dx_le (N := N) (A := A2) (P := fl2 P) (src := 36 * a + b) (36 * p + q)
              rcases Nat.lt_or_ge (Dx N A2 (fl2 P) (36 * a + b) (36 * p + q)) N with q' | q'
              · have hst : ∀ k, k < N → Sx N A2 (fl2 P) (36 * a + b) (i + 1) k = Sx N A2 (fl2 P) (36 * a + b) i k := fun k hk => by
                  rw [Sx_Sf hN hk, anyN_f.1 w k hk, Bool.or_false]
                have h1 := Dx_yes q'
                have h2 := Sx_st hst (Dx N A2 (fl2 P) (36 * a + b) (36 * p + q) - i) _ hk
                rw [show i + (Dx N A2 (fl2 P) (36 * a + b) (36 * p + q) - i) = Dx N A2 (fl2 P) (36 * a + b) (36 * p + q) by omega, h1, Dx_at hr hk hi, decide_eq_false z] at h2
                cases h2
              · omega
            rw [b2_f, if_pos rfl, hD]
            unfold dO
            rw [if_neg (Nat.lt_irrefl _)]
            exact ⟨τ, rfl, u3, fun k => absurd k (Nat.lt_irrefl _)⟩
          · right
            rw [b2_t, if_neg n10]
            exact ⟨τ, ⟨u2, u3, by omega⟩, rfl⟩
      · intro s ⟨g1, g2, g3⟩ J
        have hD : Dx N A2 (fl2 P) (36 * a + b) (36 * p + q) = N := by
          have hle := Dx_le (N := N) (A := A2) (P := fl2 P) (src := 36 * a + b) (36 * p + q)
          omega
        rw [hD]
        show ∃ τ, mX0_daysBetween_32 (nI p) (nI q) J (nI N) s = some (_, τ) ∧ _
        unfold mX0_daysBetween_32 dO
        rw [if_pos (show (1296 : Int32) ≤ nI N by rw [hN]; exact at1296), if_neg (Nat.lt_irrefl _)]
        exact ⟨s, rfl, g2, fun k => absurd k (Nat.lt_irrefl _)⟩
