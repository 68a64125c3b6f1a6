/-! ===== PURE: which letter ===== -/
theorem fw_front {O : Nat → Bool} {Nf : Nat → Nat → Bool} {i : Nat} {S : Nat → Bool} : ∀ m, fw O Nf i (m + 1) S = fw O Nf (i + 1) m (gst O (Nf (i + 1)) S)
  | 0 => rfl
  | m + 1 => by
    show gst O (Nf (i + (m + 1) + 1)) (fw O Nf i (m + 1) S) = gst O (Nf (i + 1 + m + 1)) (fw O Nf (i + 1) m (gst O (Nf (i + 1)) S))
    rw [fw_front m, show i + (m + 1) + 1 = i + 1 + m + 1 by omega]
theorem one_e {c e : Nat} : one c e = decide (e = c) := rfl
theorem fw_add {O : Nat → Bool} {Nf : Nat → Nat → Bool} {i : Nat} {S : Nat → Bool} : ∀ m e, e < 36 → fw O Nf i m S e = anyN (fun c => S c && fw O Nf i m (one c) e) 36
  | 0, e, he => by
    apply bool_ext
    rw [anyN_iff]
    constructor
    · intro h
      exact ⟨e, he, by rw [Bool.and_eq_true]; exact ⟨h, decide_eq_true rfl⟩⟩
    · rintro ⟨c, _, h⟩
      rw [Bool.and_eq_true] at h
      have h2 : decide (e = c) = true := h.2
      rw [of_decide_eq_true h2]; exact h.1
  | m + 1, e, he => by
    have hg : ∀ T : Nat → Bool, fw O Nf i (m + 1) T e = true ↔ (∃ x, x < 36 ∧ fw O Nf i m T x = true ∧ adj x e = true) ∧ O e = true ∧ Nf (i + m + 1) e = true := fun T => by
      show ((sp (fw O Nf i m T) e && O e) && Nf (i + m + 1) e) = true ↔ _
      rw [Bool.and_eq_true, Bool.and_eq_true, sp_adj he, anyN_iff]
      constructor
      · rintro ⟨⟨⟨x, hx, h1⟩, h2⟩, h3⟩
        rw [Bool.and_eq_true] at h1
        exact ⟨⟨x, hx, h1.1, h1.2⟩, h2, h3⟩
      · rintro ⟨⟨x, hx, h1, h1'⟩, h2, h3⟩
        exact ⟨⟨⟨x, hx, by rw [Bool.and_eq_true]; exact ⟨h1, h1'⟩⟩, h2⟩, h3⟩
    apply bool_ext
    rw [hg S, anyN_iff]
    constructor
    · rintro ⟨⟨x, hx, h1, h1'⟩, h2, h3⟩
      rw [fw_add m x hx] at h1
      obtain ⟨c, hc, h4⟩ := anyN_iff.1 h1
      rw [Bool.and_eq_true] at h4
      exact ⟨c, hc, by rw [Bool.and_eq_true]; exact ⟨h4.1, (hg (one c)).2 ⟨⟨x, hx, h4.2, h1'⟩, h2, h3⟩⟩⟩
    · rintro ⟨c, hc, h4⟩
      rw [Bool.and_eq_true] at h4
      obtain ⟨⟨x, hx, h1, h1'⟩, h2, h3⟩ := (hg (one c)).1 h4.2
      refine ⟨⟨x, hx, ?_, h1'⟩, h2, h3⟩
      rw [fw_add m x hx]
      exact anyN_iff.2 ⟨c, hc, by rw [Bool.and_eq_true]; exact ⟨h4.1, h1⟩⟩
theorem fF_on {O : Nat → Bool} {Nf : Nat → Nat → Bool} {i : Nat} : ∀ m, fF O Nf (i + m) = fw O Nf i m (fF O Nf i)
  | 0 => rfl
  | m + 1 => by
    show gst O (Nf (i + m + 1)) (fF O Nf (i + m)) = gst O (Nf (i + m + 1)) (fw O Nf i m (fF O Nf i))
    rw [fF_on m]
theorem fF_fit {O : Nat → Bool} {Nf : Nat → Nat → Bool} {i e : Nat} (h : fF O Nf i e = true) : (Nf i e && O e) = true := by
  cases i with
  | zero =>
    have h' : (O e && Nf 0 e) = true := h
    rw [Bool.and_comm]; exact h'
  | succ i =>
    have h' : ((sp (fF O Nf i) e && O e) && Nf (i + 1) e) = true := h
    rw [Bool.and_eq_true, Bool.and_eq_true] at h'
    rw [h'.2, h'.1.2]; rfl
/-- what is left at the last for c told at place i, 0 where c can't be -/
def bW (O : Nat → Bool) (Nf : Nat → Nat → Bool) (n i c e : Nat) : Bool := (Nf i c && O c) && fw O Nf i (n - 1 - i) (one c) e
theorem sp_one {c a : Nat} (hc : c < 36) (ha : a < 36) : sp (one c) a = adj c a := by
  rw [sp_adj ha]
  apply bool_ext
  rw [anyN_iff]
  constructor
  · rintro ⟨x, _, h⟩
    rw [Bool.and_eq_true] at h
    have h2 : decide (x = c) = true := h.1
    rw [← of_decide_eq_true h2]; exact h.2
  · intro h
    exact ⟨c, hc, by rw [Bool.and_eq_true]; exact ⟨decide_eq_true rfl, h⟩⟩
theorem bW_step {O : Nat → Bool} {Nf : Nat → Nat → Bool} {n i c e : Nat} (hi : i + 1 < n) (hc : c < 36) (he : e < 36) : fw O Nf i (n - 1 - i) (one c) e = anyN (fun a => adj c a && bW O Nf n (i + 1) a e) 36 := by
  obtain ⟨m, hm⟩ : ∃ m, n - 1 - i = m + 1 := ⟨n - 1 - i - 1, by omega⟩
  have hm2 : n - 1 - (i + 1) = m := by omega
  rw [hm, fw_front, fw_add m e he]
  refine anyN_eq 36 (fun a ha => ?_)
  unfold bW
  rw [hm2]
  show (((sp (one c) a && O a) && Nf (i + 1) a) && fw O Nf (i + 1) m (one a) e) = _
  rw [sp_one hc ha]
  cases adj c a <;> cases O a <;> cases Nf (i + 1) a <;> rfl
theorem leftAround_c {S : Nat → Nat → Bool} {h : Nat} {s : St} (hS : ∀ a, a < 36 → gL s 40 a = bs (S a)) (hh : h < 36) : mX9_leftAround (nI h) s = some (bs (fun e => anyN (fun a => adj h a && S a e) 36), s) := by
  have e0 : mX9_leftAround (nI h) s = some (bs (fun e => anyN (fun d => match nbo h d with | none => false | some a => S a e) 5), s) := by
    unfold mX9_leftAround
    rw [kl_e]
    have i0 : ∀ J : Int64 → Int32 → St → Option (Int64 × St), J 0 0 s = J (bs (fun e => anyN (fun d => match nbo h d with | none => false | some a => S a e) 0)) (nI 0) s := fun J => by
      rw [nI_0, ← bs_0]; rfl
    rw [i0 (lp (fun _ _ _ => none) (mX9_leftAround_5 (nI h)) 2000)]
    refine lp_for (app := fun d (J : Int64 → Int32 → St → Option (Int64 × St)) => J (bs (fun e => anyN (fun d => match nbo h d with | none => false | some a => S a e) d)) (nI d) s) 5 _ ?_ ?_ 2000 (by omega)
    · intro d hd J
      have hb : (fun e => anyN (fun d => match nbo h d with | none => false | some a => S a e) (d + 1)) = fun e => (anyN (fun d => match nbo h d with | none => false | some a => S a e) d || match nbo h d with | none => false | some a => S a e) := rfl
      rw [hb]
      unfold mX9_leftAround_5 mX9_leftAround_38
      rw [if_neg (lt5 hd), cellTo_c hh hd, cl2_e]
      cases hn : nbo h d with
      | none =>
        rw [ncell_c (show inR (oi none) 0 35 = false by decide), cl2_e, kl_e, if_pos rfl]
        simp only [nI_1, Bool.or_false]
      | some a =>
        have ha := nbo_lt' hh hd hn
        rw [show oi (some a) = nI a from rfl, cell_c ha, cl2_e, kl_e, if_neg n10, ldL_36 ha, hS a ha, bs_or, kl_e]
        simp only [nI_1]
    · intro J
      unfold mX9_leftAround_5
      rw [if_pos at5]
  rw [e0]
  refine congrArg (fun x => some (x, s)) (bs_eq (fun e _ => bool_ext ?_))
  rw [anyN_iff, anyN_iff]
  constructor
  · rintro ⟨d, hd, h2⟩
    cases hn : nbo h d with
    | none => rw [hn] at h2; cases h2
    | some a =>
      rw [hn] at h2
      exact ⟨a, nbo_lt' hh hd hn, by rw [Bool.and_eq_true]; exact ⟨adj_iff.2 ⟨d, hd, hn⟩, h2⟩⟩
  · rintro ⟨a, _, h2⟩
    rw [Bool.and_eq_true] at h2
    obtain ⟨d, hd, hn⟩ := adj_iff.1 h2.1
    exact ⟨d, hd, by rw [hn]; exact h2.2⟩
/-- the largest of numbers -/
def mxc (f : Nat → Nat) : Nat → Nat
  | 0 => 0
  | c + 1 => if mxc f c < f c then f c else mxc f c
theorem mxc_le {f : Nat → Nat} {B : Nat} : ∀ n, (∀ i, i < n → f i ≤ B) → mxc f n ≤ B
  | 0, _ => Nat.zero_le _
  | n + 1, h => by
    unfold mxc
    by_cases y : mxc f n < f n
    · rw [if_pos y]; exact h n (by omega)
    · rw [if_neg y]; exact mxc_le n (fun i hi => h i (by omega))
theorem mxc_ge {f : Nat → Nat} : ∀ {n i}, i < n → f i ≤ mxc f n
  | 0, i, h => absurd h (Nat.not_lt_zero _)
  | n + 1, i, h => by
    unfold mxc
    by_cases e : i = n
    · rw [e]
      by_cases y : mxc f n < f n
      · rw [if_pos y]; exact Nat.le_refl _
      · rw [if_neg y]; omega
    · have := mxc_ge (f := f) (n := n) (i := i) (by omega)
      by_cases y : mxc f n < f n
      · rw [if_pos y]; omega
      · rw [if_neg y]; exact this
theorem mxc_eq {f g : Nat → Nat} : ∀ n, (∀ i, i < n → f i = g i) → mxc f n = mxc g n
  | 0, _ => rfl
  | n + 1, h => by
    unfold mxc
    rw [mxc_eq n (fun i hi => h i (by omega)), h n (by omega)]
def lfW (O : Nat → Bool) (Nf : Nat → Nat → Bool) (n i c : Nat) : Nat := if fF O Nf i c = true then cnt (fw O Nf i (n - 1 - i) (one c)) 36 else 0
def WN (O : Nat → Bool) (Nf : Nat → Nat → Bool) (n i : Nat) : Nat := mxc (lfW O Nf n i) 36
theorem lfW_le {O : Nat → Bool} {Nf : Nat → Nat → Bool} {n i c : Nat} : lfW O Nf n i c ≤ 36 := by
  unfold lfW
  by_cases y : fF O Nf i c = true
  · rw [if_pos y]; exact cnt_le 36
  · rw [if_neg y]; omega
theorem WN_le {O : Nat → Bool} {Nf : Nat → Nat → Bool} {n i : Nat} : WN O Nf n i ≤ 36 := mxc_le 36 (fun _ _ => lfW_le)
theorem worstOf_c {O : Nat → Bool} {Nf : Nat → Nat → Bool} {n i : Nat} {s : St} (h : ∀ c, c < 36 → gL s 40 c = bs (bW O Nf n i c)) : mX9_worstOf (bs (fF O Nf i)) s = some (nI (WN O Nf n i), s) := by
  unfold mX9_worstOf
  rw [kl_e]
  refine lp_for (app := fun c (J : Int32 → Int32 → St → Option (Int32 × St)) => J (nI (mxc (lfW O Nf n i) c)) (nI c) s) 36 _ ?_ ?_ 2000 (by omega)
  · intro c hc J
    have hm : mxc (lfW O Nf n i) c ≤ 36 := mxc_le c (fun _ _ => lfW_le)
    have hS : mxc (lfW O Nf n i) (c + 1) = if mxc (lfW O Nf n i) c < lfW O Nf n i c then lfW O Nf n i c else mxc (lfW O Nf n i) c := rfl
    rw [hS]
    unfold mX9_worstOf_5 mX9_worstOf_36
    rw [if_neg (lt36 hc), has_c hc, cl2_e, kl_e]
    cases y : fF O Nf i c
    · have hl : lfW O Nf n i c = 0 := by unfold lfW; rw [y, if_neg (by decide)]
      rw [b2_f, if_pos rfl, hl, if_neg (Nat.not_lt_zero _)]
      simp only [nI_1]
    · have hl : lfW O Nf n i c = cnt (bW O Nf n i c) 36 := by
        unfold lfW
        rw [y, if_pos rfl]
        refine cnt_eq 36 (fun e _ => ?_)
        unfold bW
        rw [fF_fit y, Bool.true_and]
      have hcl := cnt_le (S := bW O Nf n i c) 36
      rw [b2_t, if_neg n10, ldL_36 hc, h c hc, bitCount_c, cl2_e, kl_e, hl]
      simp only [nI_1]
      by_cases z : mxc (lfW O Nf n i) c < cnt (bW O Nf n i c) 36
      · rw [if_pos z, if_pos (nI_lt z (by omega))]
      · rw [if_neg z, if_neg (nI_nlt (by omega) (by omega))]
  · intro J
    unfold mX9_worstOf_5
    rw [if_pos at36]
    rfl
/-- from the last on back: the best of the last t -/
def dmB (W : Nat → Nat) (n : Nat) : Nat → Option Nat
  | 0 => none
  | t + 1 => match dmB W n t with
    | none => some (n - 1 - t)
    | some b => if W b < W (n - 1 - t) then some b else some (n - 1 - t)
def dnn (n t : Nat) : Int32 := if t < n then nI (n - 1 - t) else -1
theorem dnn_s {n t : Nat} (h : t < n) : dnn n t = nI (n - 1 - t) ∧ nI (n - 1 - t) + (-1) = dnn n (t + 1) := by
  unfold dnn
  rw [if_pos h]
  refine ⟨rfl, ?_⟩
  by_cases y : t + 1 < n
  · rw [if_pos y, show n - 1 - t = (n - 1 - (t + 1)) + 1 by omega, pk_m1]
  · rw [if_neg y, show n - 1 - t = 0 by omega]; rfl
theorem dnn_e {n : Nat} : dnn n n < 0 := by
  unfold dnn
  rw [if_neg (Nat.lt_irrefl _)]; decide
def o37 (W : Nat → Nat) : Option Nat → Int32
  | none => 37
  | some b => nI (W b)
theorem best_c {d n : Nat} {O : Nat → Bool} {B : Nat → Nat → Bool} {σ s0 : St} (hd : d < 8) (hn : n ≤ 100) (h0 : 0 < n) (hc0 : core s0 = core σ) (h4 : gI σ (10 + d) 4 = nI n) (hr : ∀ i, i < n → rcN σ d i < 36 ∧ gL σ (19 + d) i = (nI (rcN σ d i)).toInt64) (hB : Bnear B s0) (hF : ∀ i, i < n → gL s0 39 i = bs (fF O (fun i => B (rcN σ d i)) i)) : ∃ τ, mX9_bestDay (10 + d) (bs O) s0 = some (oi (dmB (WN O (fun i => B (rcN σ d i)) n) n n), τ) ∧ FT s0 τ := by
  have h40 : gI s0 (10 + d) 4 = nI n := by rw [core_I hc0 _ _ (keI_sh hd), h4]
  unfold mX9_bestDay
  have hx2 : (if (100 : Int32) < nI n then (100 : Int32) else nI n) - 1 = nI (n - 1) := by
    rw [if_neg (show ¬ (100 : Int32) < nI n from nI_nlt (b := n) (a := 100) hn (by omega))]
    obtain ⟨w, hw⟩ : ∃ w, n = w + 1 := ⟨n - 1, by omega⟩
    rw [hw, nI_pred]; rfl
  rw [kl_e, h40, kl_e, hx2, kl_e]
  have e0 : nI (n - 1) = dnn n 0 := by unfold dnn; rw [if_pos h0]; rfl
  have key : ∀ J : Int32 → Int32 → Int32 → St → Option (Int32 × St), J (-4) 37 (nI (n - 1)) s0 = J (oi (dmB (WN O (fun i => B (rcN σ d i)) n) n 0)) (o37 (WN O (fun i => B (rcN σ d i)) n) (dmB (WN O (fun i => B (rcN σ d i)) n) n 0)) (dnn n 0) s0 := fun J => by rw [e0]; rfl
  rw [key (lp (fun _ _ _ _ => none) (mX9_bestDay_25 (10 + d) (bs O) (nI (n - 1))) 2000)]
  refine lp_rel (app := fun t (s : St) (J : Int32 → Int32 → Int32 → St → Option (Int32 × St)) => J (oi (dmB (WN O (fun i => B (rcN σ d i)) n) n t)) (o37 (WN O (fun i => B (rcN σ d i)) n) (dmB (WN O (fun i => B (rcN σ d i)) n) n t)) (dnn n t) s) (P := fun t s => (0 < t → ∀ c, c < 36 → gL s 40 c = bs (bW O (fun i => B (rcN σ d i)) n (n - t) c)) ∧ FT s0 s ∧ ∀ i, i < n → gL s 39 i = bs (fF O (fun i => B (rcN σ d i)) i)) n (Q := fun r => ∃ τ, r = some (oi (dmB (WN O (fun i => B (rcN σ d i)) n) n n), τ) ∧ FT s0 τ) ?_ ?_ 2000 (by omega) s0 ⟨fun h => absurd h (Nat.lt_irrefl _), Fx_rfl, hF⟩
  · intro t s ht ⟨g1, g2, g3⟩ J
    have hcs : core s = core σ := by rw [core_FT g2, hc0]
    have hBs : Bnear B s := fun a ha => by rw [Fx_L g2 (by omega)]; exact hB a ha
    have hi : n - 1 - t < n := by omega
    have hWl : ∀ i, WN O (fun i => B (rcN σ d i)) n i ≤ 36 := fun i => WN_le
    show ∃ x', _ ∧ mX9_bestDay_25 (10 + d) (bs O) (nI (n - 1)) J _ _ (dnn n t) s = J _ _ (dnn n (t + 1)) x'
    unfold mX9_bestDay_25
    rw [(dnn_s ht).1, if_neg (nI_pos (by omega)), fitOn_c (σ := σ) hn (by rw [core_I hcs _ _ (keI_sh hd), h4]) hi (by rw [core_L hcs _ _ (keL_sh hd)]; exact (hr _ hi).2) (hr _ hi).1 hBs, cl2_e, kl_e]
    refine lp_rel (app := fun c (s : St) (J : Int32 → St → Option (Int32 × St)) => J (nI c) s) (P := fun c s => (∀ b, b < c → gL s 41 b = bs (fw O (fun i => B (rcN σ d i)) (n - 1 - t) (n - 1 - (n - 1 - t)) (one b))) ∧ (0 < t → ∀ c, c < 36 → gL s 40 c = bs (bW O (fun i => B (rcN σ d i)) n (n - t) c)) ∧ FT s0 s ∧ ∀ i, i < n → gL s 39 i = bs (fF O (fun i => B (rcN σ d i)) i)) 36 (Q := fun r => ∃ x', ((0 < t + 1 → ∀ c, c < 36 → gL x' 40 c = bs (bW O (fun i => B (rcN σ d i)) n (n - (t + 1)) c)) ∧ FT s0 x' ∧ ∀ i, i < n → gL x' 39 i = bs (fF O (fun i => B (rcN σ d i)) i)) ∧ r = J (oi (dmB (WN O (fun i => B (rcN σ d i)) n) n (t + 1))) (o37 (WN O (fun i => B (rcN σ d i)) n) (dmB (WN O (fun i => B (rcN σ d i)) n) n (t + 1))) (dnn n (t + 1)) x') ?_ ?_ 2000 (by omega) s ⟨fun b h => by omega, g1, g2, g3⟩
    · intro c s hc ⟨k0, k1, k2, k3⟩ J'
      have fin : ∀ x, x = bs (fw O (fun i => B (rcN σ d i)) (n - 1 - t) (n - 1 - (n - 1 - t)) (one c)) → ∃ x', ((∀ b, b < c + 1 → gL x' 41 b = bs (fw O (fun i => B (rcN σ d i)) (n - 1 - t) (n - 1 - (n - 1 - t)) (one b))) ∧ (0 < t → ∀ c, c < 36 → gL x' 40 c = bs (bW O (fun i => B (rcN σ d i)) n (n - t) c)) ∧ FT s0 x' ∧ ∀ i, i < n → gL x' 39 i = bs (fF O (fun i => B (rcN σ d i)) i)) ∧ mX9_bestDay_77 (nI c) J' x s = J' (nI (c + 1)) x' := by
        intro x hx
        refine ⟨pL s 41 c x, ⟨fun b hb => ?_, fun h b hb => by rw [gL_pL_ne (by omega)]; exact k1 h b hb, Fx_pL (Or.inr (Or.inr rfl)) k2, fun i hi => by rw [gL_pL_ne (by omega)]; exact k3 i hi⟩, ?_⟩
        · by_cases y : b = c
          · rw [y, gL_pL_eq, hx]
          · rw [gL_pL_ne (by omega)]; exact k0 b (by omega)
        · unfold mX9_bestDay_77
          rw [stL_36 hc, nI_1]
      show ∃ x', _ ∧ mX9_bestDay_43 (nI (n - 1 - t)) J _ _ _ (nI (n - 1)) J' (nI c) s = J' (nI (c + 1)) x'
      unfold mX9_bestDay_43
      rw [if_neg (lt36 hc), kl_e]
      by_cases y : t = 0
      · rw [if_pos (show nI (n - 1 - t) = nI (n - 1) by rw [y]; rfl), bit_c hc, cl2_e]
        refine fin _ ?_
        rw [y, show n - 1 - (n - 1 - 0) = 0 by omega]
        rfl
      · rw [if_neg (show ¬ nI (n - 1 - t) = nI (n - 1) from nI_ne (by omega) (by omega) (by omega)), leftAround_c (S := fun a e => bW O (fun i => B (rcN σ d i)) n (n - t) a e) (fun a ha => k1 (by omega) a ha) hc, cl2_e]
        refine fin _ (bs_eq (fun e he => ?_))
        rw [bW_step (by omega) hc he, show n - 1 - t + 1 = n - t by omega]
    · intro s ⟨k0, k1, k2, k3⟩ J'
      show ∃ x', _ ∧ mX9_bestDay_43 (nI (n - 1 - t)) J _ _ _ (nI (n - 1)) J' (nI 36) s = _
      unfold mX9_bestDay_43
      rw [if_pos at36, kl_e]
      refine lp_rel (app := fun c (s : St) (J : Int32 → St → Option (Int32 × St)) => J (nI c) s) (P := fun c s => (∀ b, b < 36 → gL s 41 b = bs (fw O (fun i => B (rcN σ d i)) (n - 1 - t) (n - 1 - (n - 1 - t)) (one b))) ∧ (∀ b, b < c → gL s 40 b = bs (bW O (fun i => B (rcN σ d i)) n (n - 1 - t) b)) ∧ FT s0 s ∧ ∀ i, i < n → gL s 39 i = bs (fF O (fun i => B (rcN σ d i)) i)) 36 (Q := fun r => ∃ x', ((0 < t + 1 → ∀ c, c < 36 → gL x' 40 c = bs (bW O (fun i => B (rcN σ d i)) n (n - (t + 1)) c)) ∧ FT s0 x' ∧ ∀ i, i < n → gL x' 39 i = bs (fF O (fun i => B (rcN σ d i)) i)) ∧ r = J (oi (dmB (WN O (fun i => B (rcN σ d i)) n) n (t + 1))) (o37 (WN O (fun i => B (rcN σ d i)) n) (dmB (WN O (fun i => B (rcN σ d i)) n) n (t + 1))) (dnn n (t + 1)) x') ?_ ?_ 2000 (by omega) s ⟨k0, fun b h => by omega, k2, k3⟩
      · intro c s hc ⟨k0, k1, k2, k3⟩ J'
        have fin : ∀ x, x = bs (bW O (fun i => B (rcN σ d i)) n (n - 1 - t) c) → ∃ x', ((∀ b, b < 36 → gL x' 41 b = bs (fw O (fun i => B (rcN σ d i)) (n - 1 - t) (n - 1 - (n - 1 - t)) (one b))) ∧ (∀ b, b < c + 1 → gL x' 40 b = bs (bW O (fun i => B (rcN σ d i)) n (n - 1 - t) b)) ∧ FT s0 x' ∧ ∀ i, i < n → gL x' 39 i = bs (fF O (fun i => B (rcN σ d i)) i)) ∧ mX9_bestDay_121 (nI c) J' x s = J' (nI (c + 1)) x' := by
          intro x hx
          refine ⟨pL s 40 c x, ⟨fun b hb => by rw [gL_pL_ne (by omega)]; exact k0 b hb, fun b hb => ?_, Fx_pL (Or.inr (Or.inl rfl)) k2, fun i hi => by rw [gL_pL_ne (by omega)]; exact k3 i hi⟩, ?_⟩
          · by_cases y : b = c
            · rw [y, gL_pL_eq, hx]
            · rw [gL_pL_ne (by omega)]; exact k1 b (by omega)
          · unfold mX9_bestDay_121
            rw [stL_36 hc, nI_1]
        show ∃ x', _ ∧ mX9_bestDay_87 (nI (n - 1 - t)) J _ _ _ J' (nI c) s = J' (nI (c + 1)) x'
        unfold mX9_bestDay_87
        rw [if_neg (lt36 hc), has_c hc, cl2_e, kl_e]
        cases y : (B (rcN σ d (n - 1 - t)) c && O c)
        · rw [b2_f, if_pos rfl]
          refine fin 0 ?_
          rw [← bs_0]
          refine bs_eq (fun e _ => ?_)
          unfold bW
          rw [y]; rfl
        · rw [b2_t, if_neg n10, ldL_36 hc, k0 c hc]
          refine fin _ (bs_eq (fun e _ => ?_))
          unfold bW
          rw [y]; rfl
      · intro s ⟨k0, k1, k2, k3⟩ J'
        refine ⟨s, ⟨fun _ c hc => by rw [show n - (t + 1) = n - 1 - t by omega]; exact k1 c hc, k2, k3⟩, ?_⟩
        show mX9_bestDay_87 (nI (n - 1 - t)) J _ _ _ J' (nI 36) s = _
        unfold mX9_bestDay_87 mX9_bestDay_156
        rw [if_pos at36, ldL_100 (by omega), k3 _ hi, worstOf_c k1, cl2_e]
        simp only [kl_e, (dnn_s ht).2]
        rw [show dmB (WN O (fun i => B (rcN σ d i)) n) n (t + 1) = match dmB (WN O (fun i => B (rcN σ d i)) n) n t with | none => some (n - 1 - t) | some b => if WN O (fun i => B (rcN σ d i)) n b < WN O (fun i => B (rcN σ d i)) n (n - 1 - t) then some b else some (n - 1 - t) from rfl]
        have hw := hWl (n - 1 - t)
        cases y : dmB (WN O (fun i => B (rcN σ d i)) n) n t with
        | none =>
          rw [if_neg (show ¬ o37 (WN O (fun i => B (rcN σ d i)) n) none < nI (WN O (fun i => B (rcN σ d i)) n (n - 1 - t)) from nI_nlt (a := 37) (by omega) (by omega))]
          rfl
        | some b =>
          have hwb := hWl b
          show _ = J (oi (if WN O (fun i => B (rcN σ d i)) n b < WN O (fun i => B (rcN σ d i)) n (n - 1 - t) then some b else some (n - 1 - t))) (o37 _ (if WN O (fun i => B (rcN σ d i)) n b < WN O (fun i => B (rcN σ d i)) n (n - 1 - t) then some b else some (n - 1 - t))) _ _
          by_cases z : WN O (fun i => B (rcN σ d i)) n b < WN O (fun i => B (rcN σ d i)) n (n - 1 - t)
          · rw [if_pos (show o37 (WN O (fun i => B (rcN σ d i)) n) (some b) < nI (WN O (fun i => B (rcN σ d i)) n (n - 1 - t)) from nI_lt z (by omega)), if_pos z]
          · rw [if_neg (show ¬ o37 (WN O (fun i => B (rcN σ d i)) n) (some b) < nI (WN O (fun i => B (rcN σ d i)) n (n - 1 - t)) from nI_nlt (by omega) (by omega)), if_neg z]
            rfl
  · intro s ⟨g1, g2, g3⟩ J
    refine ⟨s, ?_, g2⟩
    show mX9_bestDay_25 (10 + d) (bs O) (nI (n - 1)) J _ _ (dnn n n) s = _
    unfold mX9_bestDay_25
    rw [if_pos dnn_e]
