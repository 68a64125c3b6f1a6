/-! ===== PURE: the board ===== -/
theorem lp_rx {F α ρ : Type} {bot : F} {b : F → F} (app : Nat → α → F → ρ) (P : Nat → α → Prop) (N : Nat) (Q : ρ → Prop) (hs : ∀ i x, i < N → P i x → ∀ J, Q (app i x (b J)) ∨ ∃ x', P (i + 1) x' ∧ app i x (b J) = app (i + 1) x' J) (hx : ∀ x, P N x → ∀ J, Q (app N x (b J))) : ∀ fuel i x, i ≤ N → N - i < fuel → P i x → Q (app i x (lp bot b fuel)) := by
  intro fuel
  induction fuel with
  | zero => intro i x _ h; omega
  | succ f ih =>
    intro i x h1 h2 hp
    show Q (app i x (b (lp bot b f)))
    by_cases e : i = N
    · subst e; exact hx x hp _
    · rcases hs i x (by omega) hp (lp bot b f) with q | ⟨x', hp', q⟩
      · exact q
      · rw [q]; exact ih (i + 1) x' (by omega) (by omega) hp'
theorem lp_ex {F ρ : Type} {bot : F} {b : F → F} (app : Nat → F → ρ) (N : Nat) (Q : ρ → Prop) (hs : ∀ i, i < N → ∀ J, Q (app i (b J)) ∨ app i (b J) = app (i + 1) J) (hx : ∀ J, Q (app N (b J))) (fuel : Nat) (hf : N < fuel) : Q (app 0 (lp bot b fuel)) :=
  lp_rx (α := Unit) (fun i _ J => app i J) (fun _ _ => True) N Q (fun i _ hi _ J => (hs i hi J).imp id (fun h => ⟨(), trivial, h⟩)) (fun _ _ J => hx J) fuel 0 () (by omega) (by omega) trivial
def Nr (L : Ld) (lo hi : Int32) (a b : Nat) : Bool := decide (lo ≤ Fr L a b) && decide (Fr L a b ≤ hi)
def Pr (O : Nat → Bool) (L : Ld) (lo hi : Int32) (a b : Nat) : Bool := O a && (O b && Nr L lo hi a b)
def Bfar (L : Ld) (s : St) : Prop := ∀ a b, a < 36 → b < 36 → gA s 30 (36 * a + b) = Fr L a b
def Bnear (N : Nat → Nat → Bool) (s : St) : Prop := ∀ a, a < 36 → gL s 31 a = bs (N a)
def Bfit (P : Nat → Nat → Bool) (s : St) : Prop := ∀ a, a < 36 → gL s 32 a = bs (P a)
theorem ix36 {a b : Nat} : nI a * (36 : Int32) + nI b = nI (36 * a + b) := by
  rw [show (36 : Int32) = nI 36 from rfl, pk_mul, nI_add, Nat.mul_comm a 36]
theorem ldA_1296 {ρ : Type} {σ : St} {a i : Nat} {f : Int32 → Option ρ} (h : i < 1296) : ldA σ a 1296 (nI i) f = f (gA σ a i) := ldA_n h (by omega)
theorem stA_1296 {ρ : Type} {σ : St} {a i : Nat} {v : Int32} {f : St → Option ρ} (h : i < 1296) : stA σ a 1296 (nI i) v f = f (pA σ a i v) := stA_n h (by omega)
theorem ldL_36 {ρ : Type} {σ : St} {a i : Nat} {f : Int64 → Option ρ} (h : i < 36) : ldL σ a 36 (nI i) f = f (gL σ a i) := ldL_n h (by omega)
theorem stL_36 {ρ : Type} {σ : St} {a i : Nat} {v : Int64} {f : St → Option ρ} (h : i < 36) : stL σ a 36 (nI i) v f = f (pL σ a i v) := stL_n h (by omega)
theorem gL_pL_ne {σ : St} {a i a' i' : Nat} {v : Int64} (h : ¬ (a' = a ∧ i' = i)) : gL (pL σ a i v) a' i' = gL σ a' i' := by rw [gL_pL, if_neg h]
theorem gL_pL_eq {σ : St} {a i : Nat} {v : Int64} : gL (pL σ a i v) a i = v := by rw [gL_pL, if_pos ⟨rfl, rfl⟩]
theorem bound_c {L : Ld} {lo hi : Int32} {σ : St} (hf : Bfar L σ) : ∃ τ, mX0_bound lo hi σ = some τ ∧ Bnear (Nr L lo hi) τ ∧ Fx (fun _ _ => False) (fun _ => False) (fun a => a = 31) σ τ := by
  unfold mX0_bound
  rw [kl_e]
  refine lp_rel (app := fun i (s : St) (J : Int32 → St → Option St) => J (nI i) s) (P := fun i s => (∀ a, a < i → gL s 31 a = bs (Nr L lo hi a)) ∧ Fx (fun _ _ => False) (fun _ => False) (fun a => a = 31) σ s) 36 (Q := fun q => ∃ τ, q = some τ ∧ Bnear (Nr L lo hi) τ ∧ Fx (fun _ _ => False) (fun _ => False) (fun a => a = 31) σ τ) ?_ ?_ 2000 (by omega) σ ⟨fun e he => by omega, Fx_rfl⟩
  · intro a s ha ⟨g1, g2⟩ J
    refine ⟨pL s 31 a (bs (Nr L lo hi a)), ⟨fun e he => ?_, Fx_pL rfl g2⟩, ?_⟩
    · by_cases q : e = a
      · subst q; exact gL_pL_eq
      · rw [gL_pL_ne (by omega)]; exact g1 e (by omega)
    · unfold mX0_bound_2
      rw [if_neg (lt36 ha), kl_e]
      refine lp_for (app := fun i (J' : Int64 → Int32 → St → Option St) => J' (bsn (Nr L lo hi a) i) (nI i) s) 36 _ ?_ ?_ 2000 (by omega)
      · intro b hb J'
        unfold mX0_bound_14 mX0_bound_56
        rw [if_neg (lt36 hb), ix36, ldA_1296 (by omega), Fx_A g2 (by simp), hf a b ha hb]
        simp only [kl_e, sh_c hb, nI_1]
        rw [show bsn (Nr L lo hi a) (b + 1) = if Nr L lo hi a b then bsn (Nr L lo hi a) b ||| ((1 : Int64) <<< lN b) else bsn (Nr L lo hi a) b from rfl, bs_bit hb]
        unfold Nr
        by_cases c1 : Fr L a b < lo
        · rw [if_pos c1, decide_eq_false (Int32.not_le.2 c1)]; rfl
        · rw [if_neg c1, decide_eq_true (Int32.not_lt.1 c1)]
          by_cases c2 : hi < Fr L a b
          · rw [if_pos c2, decide_eq_false (Int32.not_le.2 c2)]; rfl
          · rw [if_neg c2, decide_eq_true (Int32.not_lt.1 c2)]; rfl
      · intro J'
        unfold mX0_bound_14
        rw [if_pos at36, stL_36 ha, nI_1]
        rfl
  · intro s ⟨g1, g2⟩ J
    refine ⟨s, ?_, g1, g2⟩
    show mX0_bound_2 lo hi J (nI 36) s = _
    unfold mX0_bound_2
    rw [if_pos at36]
theorem admit_c {N : Nat → Nat → Bool} {O : Nat → Bool} {σ : St} (hn : Bnear N σ) : ∃ τ, mX0_admit (bs O) σ = some τ ∧ Bfit (fun a b => O a && (O b && N a b)) τ ∧ Fx (fun _ _ => False) (fun _ => False) (fun a => a = 32) σ τ := by
  unfold mX0_admit
  rw [kl_e]
  refine lp_rel (app := fun i (s : St) (J : Int32 → St → Option St) => J (nI i) s) (P := fun i s => (∀ a, a < i → gL s 32 a = bs (fun b => O a && (O b && N a b))) ∧ Fx (fun _ _ => False) (fun _ => False) (fun a => a = 32) σ s) 36 (Q := fun q => ∃ τ, q = some τ ∧ Bfit (fun a b => O a && (O b && N a b)) τ ∧ Fx (fun _ _ => False) (fun _ => False) (fun a => a = 32) σ τ) ?_ ?_ 2000 (by omega) σ ⟨fun e he => by omega, Fx_rfl⟩
  · intro a s ha ⟨g1, g2⟩ J
    refine ⟨pL s 32 a (bs (fun b => O a && (O b && N a b))), ⟨fun e he => ?_, Fx_pL rfl g2⟩, ?_⟩
    · by_cases q : e = a
      · subst q; exact gL_pL_eq
      · rw [gL_pL_ne (by omega)]; exact g1 e (by omega)
    · unfold mX0_admit_2 mX0_admit_33
      rw [if_neg (lt36 ha)]
      simp only [has_c ha, cl2_e, kl_e, b2_c, stL_36 ha, ldL_36 ha, nI_1]
      rw [Fx_L g2 (by omega), hn a ha, bs_and]
      cases O a
      · rw [if_neg (by decide)]
        simp only [Bool.false_and, bs_0]
      · rw [if_pos rfl]
        simp only [Bool.true_and, Bool.and_comm]
  · intro s ⟨g1, g2⟩ J
    refine ⟨s, ?_, g1, g2⟩
    show mX0_admit_2 (bs O) J (nI 36) s = _
    unfold mX0_admit_2
    rw [if_pos at36]
abbrev FB (σ τ : St) : Prop := Fx (fun _ _ => False) (fun a => a = 29 ∨ a = 30) (fun a => a = 31 ∨ a = 32) σ τ
theorem core_FB {σ τ : St} (h : FB σ τ) : core τ = core σ := core_Fx (fun o k e => e.elim) (fun a e => by rcases e with rfl | rfl <;> rfl) (fun a e => by rcases e with rfl | rfl <;> rfl) h
def PrL (L : Ld) : Nat → Nat → Bool := Pr (Op L) L (ls L 3) (ls L 4)
theorem lay_c (σ : St) : ∃ τ, mX0_lay 1 σ = some τ ∧ Bfar (ld σ 1) τ ∧ Bnear (Nr (ld σ 1) (ls (ld σ 1) 3) (ls (ld σ 1) 4)) τ ∧ Bfit (PrL (ld σ 1)) τ ∧ FB σ τ := by
  unfold mX0_lay
  rw [kl_e]
  refine lp_rel (app := fun i (s : St) (J : Int32 → St → Option St) => J (nI i) s) (P := fun i s => (∀ a, a < i → gA s 29 a = Hh (ld σ 1) a) ∧ FB σ s) 36 (Q := fun q => ∃ τ, q = some τ ∧ Bfar (ld σ 1) τ ∧ Bnear (Nr (ld σ 1) (ls (ld σ 1) 3) (ls (ld σ 1) 4)) τ ∧ Bfit (PrL (ld σ 1)) τ ∧ FB σ τ) ?_ ?_ 2000 (by omega) σ ⟨fun e he => by omega, Fx_rfl⟩
  · intro a s ha ⟨g1, g2⟩ J
    refine ⟨pA s 29 a (Hh (ld σ 1) a), ⟨fun e he => ?_, Fx_pA (Or.inl rfl) g2⟩, ?_⟩
    · by_cases q : e = a
      · subst q; exact gA_pA_eq
      · rw [gA_pA_ne (by omega)]; exact g1 e (by omega)
    · unfold mX0_lay_2
      rw [if_neg (lt36 ha), heightAt_c ha, cl2_e, stA_36 ha, nI_1, ld_core (core_FB g2)]
  · intro s ⟨g1, g2⟩ J
    show ∃ τ, mX0_lay_2 1 J (nI 36) s = some τ ∧ _
    unfold mX0_lay_2
    rw [if_pos at36, kl_e]
    refine lp_rel (app := fun i (s : St) (J : Int32 → St → Option St) => J (nI i) s) (P := fun i s => (∀ a, a < 36 → gA s 29 a = Hh (ld σ 1) a) ∧ (∀ a b, a < i → b < 36 → gA s 30 (36 * a + b) = Fr (ld σ 1) a b) ∧ FB σ s) 36 (Q := fun q => ∃ τ, q = some τ ∧ Bfar (ld σ 1) τ ∧ Bnear (Nr (ld σ 1) (ls (ld σ 1) 3) (ls (ld σ 1) 4)) τ ∧ Bfit (PrL (ld σ 1)) τ ∧ FB σ τ) ?_ ?_ 2000 (by omega) s ⟨g1, fun a b h => by omega, g2⟩
    · intro a s ha ⟨g1, g2, g3⟩ J
      show ∃ x', _ ∧ mX0_lay_27 1 J (nI a) s = J (nI (a + 1)) x'
      unfold mX0_lay_27
      rw [if_neg (lt36 ha), kl_e]
      refine lp_rel (app := fun i (s : St) (J : Int32 → St → Option St) => J (nI i) s) (P := fun i s => (∀ a, a < 36 → gA s 29 a = Hh (ld σ 1) a) ∧ (∀ c b, (c < a ∧ b < 36) ∨ (c = a ∧ b < i) → gA s 30 (36 * c + b) = Fr (ld σ 1) c b) ∧ FB σ s) 36 (Q := fun q => ∃ x', ((∀ a, a < 36 → gA x' 29 a = Hh (ld σ 1) a) ∧ (∀ c b, c < a + 1 → b < 36 → gA x' 30 (36 * c + b) = Fr (ld σ 1) c b) ∧ FB σ x') ∧ q = J (nI (a + 1)) x') ?_ ?_ 2000 (by omega) s ⟨g1, fun c b h => g2 c b (by omega) (by omega), g3⟩
      · intro b s hb ⟨g1, g2, g3⟩ J'
        refine ⟨pA s 30 (36 * a + b) (Fr (ld σ 1) a b), ⟨fun e he => by rw [gA_pA_ne (by omega)]; exact g1 e he, fun c d h => ?_, Fx_pA (Or.inr rfl) g3⟩, ?_⟩
        · by_cases q : c = a ∧ d = b
          · obtain ⟨rfl, rfl⟩ := q; exact gA_pA_eq
          · rw [gA_pA_ne (by omega)]; exact g2 c d (by omega)
        · show mX0_lay_35 J (nI a) J' (nI b) s = J' (nI (b + 1)) _
          unfold mX0_lay_35 mX7_apart
          rw [if_neg (lt36 hb), ldA_36 ha, ldA_36 hb, g1 a ha, g1 b hb]
          simp only [kl_e, cl2_e, ix36]
          rw [stA_1296 (by omega), nI_1]
          rfl
      · intro s ⟨g1, g2, g3⟩ J'
        refine ⟨s, ⟨g1, fun c b h1 h2 => g2 c b (by omega), g3⟩, ?_⟩
        show mX0_lay_35 J (nI a) J' (nI 36) s = _
        unfold mX0_lay_35
        rw [if_pos at36, nI_1]
    · intro s ⟨g1, g2, g3⟩ J
      show ∃ τ, mX0_lay_27 1 J (nI 36) s = some τ ∧ _
      have hL := ld_core (core_FB g3)
      obtain ⟨ρ, b1, b2, b3⟩ := bound_c (lo := ls (ld σ 1) 3) (hi := ls (ld σ 1) 4) (σ := s) (L := ld σ 1) (fun a b ha hb => g2 a b ha hb)
      have g4 : FB σ ρ := Fx_tr g3 (Fx_mono (fun _ _ h => h.elim) (fun _ h => h.elim) (fun _ h => Or.inl h) b3)
      obtain ⟨τ, c1, c2, c3⟩ := admit_c (O := Op (ld σ 1)) b2
      unfold mX0_lay_27
      rw [if_pos at36, kl_e, kl_e, ld_s (k := 3) (by omega), ld_s (k := 4) (by omega), hL, b1, cl1_e, openCells_c, cl2_e, ld_core (core_FB g4), c1, cl1_e]
      refine ⟨τ, rfl, fun a b ha hb => ?_, fun a ha => ?_, c2, Fx_tr g4 (Fx_mono (fun _ _ h => h.elim) (fun _ h => h.elim) (fun _ h => Or.inr h) c3)⟩
      · rw [Fx_A c3 (by simp), Fx_A b3 (by simp)]; exact g2 a b ha hb
      · rw [Fx_L c3 (by omega)]; exact b2 a ha
/-! pairs of the reference -/
def Pm (σ : St) (a b : Nat) : Bool := Pr (Om σ) (lm σ) (ls (lm σ) 3) (ls (lm σ) 4) a b
theorem Off_Nr {L : Ld} {a b : Nat} : (!Off L a b) = Nr L (ls L 3) (ls L 4) a b := by
  unfold Off Nr
  by_cases c1 : Fr L a b < ls L 3
  · rw [decide_eq_true c1, decide_eq_false (Int32.not_le.2 c1)]; rfl
  · rw [decide_eq_false c1, decide_eq_true (Int32.not_lt.1 c1)]
    by_cases c2 : ls L 4 < Fr L a b
    · rw [decide_eq_true c2, decide_eq_false (Int32.not_le.2 c2)]; rfl
    · rw [decide_eq_false c2, decide_eq_true (Int32.not_lt.1 c2)]; rfl
theorem isPair_m {a b : Nat} (ha : a < 36) (hb : b < 36) (σ : St) : mX11_isPair (nI a) (nI b) σ = some (b2 (Pm σ a b), σ) := by
  unfold mX11_isPair Pm Pr
  simp only [isOpen_M ha, isOpen_M hb, isOff_m ha hb, cl2_e, b2_c, ← Off_Nr]
  cases Om σ a
  · rw [if_neg (by decide)]; rfl
  · rw [if_pos rfl]
    cases Om σ b
    · rw [if_neg (by decide)]; rfl
    · rw [if_pos rfl]
      cases Off (lm σ) a b
      · rw [if_neg (by decide)]; rfl
      · rw [if_pos rfl]; rfl
/-- pairs in a row -/
def fl2 (P : Nat → Nat → Bool) (k : Nat) : Bool := P (k / 36) (k % 36)
theorem k36 {k : Nat} (h : k < 2 ^ 31) : nI k / 36 = nI (k / 36) ∧ nI k - nI k / 36 * 36 = nI (k % 36) := ⟨pk_div (d := 36) h (by omega) (by omega), pk_rem (d := 36) h (by omega) (by omega)⟩
theorem isPair_k {k : Nat} (h : k < 1296) (σ : St) : mX11_isPair (nI k / 36) (nI k - nI k / 36 * 36) σ = some (b2 (fl2 (Pm σ) k), σ) := by
  rw [(k36 (by omega)).2, (k36 (by omega)).1]
  exact isPair_m (by omega) (by omega) σ
theorem lt1296 {i : Nat} (h : i < 1296) : ¬ (1296 : Int32) ≤ nI i := nI_ge (b := 1296) h (by omega)
theorem at1296 : (1296 : Int32) ≤ nI 1296 := Int32.le_refl _
theorem pairMany_m (σ : St) : mX11_pairMany σ = some (nI (cnt (fl2 (Pm σ)) 1296), σ) := by
  unfold mX11_pairMany
  rw [kl_e]
  refine lp_for (app := fun i (J : Int32 → Int32 → St → Option (Int32 × St)) => J (nI (cnt (fl2 (Pm σ)) i)) (nI i) σ) 1296 _ ?_ ?_ 2000 (by omega)
  · intro i hi J
    unfold mX11_pairMany_4 mX11_pairMany_32
    rw [if_neg (lt1296 hi), isPair_k hi]
    simp only [cl2_e, kl_e, b2_c, nI_1]
    show (if fl2 (Pm σ) i = true then J (nI (cnt (fl2 (Pm σ)) i + 1)) (nI (i + 1)) σ else J (nI (cnt (fl2 (Pm σ)) i) + 0) (nI (i + 1)) σ) = J (nI (cnt (fl2 (Pm σ)) i + (fl2 (Pm σ) i).toNat)) (nI (i + 1)) σ
    cases fl2 (Pm σ) i
    · rw [if_neg (by decide), show nI (cnt (fl2 (Pm σ)) i) + 0 = nI (cnt (fl2 (Pm σ)) i) from nI_add _ 0]; rfl
    · rw [if_pos rfl]; rfl
  · intro J
    unfold mX11_pairMany_4
    rw [if_pos at1296]
theorem fl2_at {P : Nat → Nat → Bool} {a b : Nat} (h : b < 36) : fl2 P (36 * a + b) = P a b := by
  unfold fl2
  rw [show (36 * a + b) / 36 = a by omega, show (36 * a + b) % 36 = b by omega]
theorem cnt_fl2 {P : Nat → Nat → Bool} {a : Nat} : ∀ b, b ≤ 36 → cnt (fl2 P) (36 * a + b) = cnt (fl2 P) (36 * a) + cnt (P a) b
  | 0, _ => rfl
  | b + 1, h => by
    show cnt (fl2 P) (36 * a + b) + (fl2 P (36 * a + b)).toNat = cnt (fl2 P) (36 * a) + (cnt (P a) b + (P a b).toNat)
    rw [cnt_fl2 b (by omega), fl2_at (by omega)]
    omega
theorem bitsOf_c {P : Nat → Nat → Bool} {r : Nat} {σ : St} (hr : ln r = 36) (h : ∀ a, a < 36 → gL σ r a = bs (P a)) : mX0_bitsOf r σ = some (nI (cnt (fl2 P) 1296), σ) := by
  unfold mX0_bitsOf
  rw [kl_e]
  refine lp_for (app := fun i (J : Int32 → Int32 → St → Option (Int32 × St)) => J (nI (cnt (fl2 P) (36 * i))) (nI i) σ) 36 _ ?_ ?_ 2000 (by omega)
  · intro i hi J
    unfold mX0_bitsOf_4
    rw [hr, if_neg (show ¬ Int32.ofNat 36 ≤ nI i from lt36 hi), ldL_36 hi, h i hi, bitCount_c, cl2_e, kl_e, nI_add, nI_1, show 36 * (i + 1) = 36 * i + 36 by omega, cnt_fl2 36 (by omega)]
  · intro J
    unfold mX0_bitsOf_4
    rw [hr, if_pos (show Int32.ofNat 36 ≤ nI 36 from at36)]
theorem cnt_fl2_le {P : Nat → Nat → Bool} : cnt (fl2 P) 1296 ≤ 1296 := cnt_le 1296
theorem Pr_eq {O O' : Nat → Bool} {L : Ld} {lo hi : Int32} (h : ∀ j, j < 36 → O j = O' j) {a b : Nat} (ha : a < 36) (hb : b < 36) : Pr O L lo hi a b = Pr O' L lo hi a b := by
  unfold Pr; rw [h a ha, h b hb]
theorem Pm_Inv {σ : St} (hI : Inv σ) {a b : Nat} (ha : a < 36) (hb : b < 36) : Pm σ a b = PrL (ld σ 1) a b := by
  unfold Pm PrL
  rw [← hI.1]
  exact Pr_eq (fun j hj => Inv_Om hI hj) ha hb
theorem Pm_core {σ τ : St} (h : core σ = core τ) : Pm σ = Pm τ := by
  unfold Pm
  rw [Om_core h, lm_core h]
theorem fl2_eq {P Q : Nat → Nat → Bool} (h : ∀ a b, a < 36 → b < 36 → P a b = Q a b) {k : Nat} (hk : k < 1296) : fl2 P k = fl2 Q k := h _ _ (by omega) (by omega)
