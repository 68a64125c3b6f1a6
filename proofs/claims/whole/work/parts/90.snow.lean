/-! ===== PURE: snow, of the class ===== -/
theorem cv_t : ∀ k, k < 8 → ∀ f, f < 10 → cv (nI k) (nI f) = nI ((cv (nI k) (nI f)).toNatClampNeg) ∧ (cv (nI k) (nI f)).toNatClampNeg ≤ 10 := by decide +kernel
def chN (L : Ld) (c : Nat) : Nat := (Ch L c).toNatClampNeg
theorem chN_e {L : Ld} (hL : Ldok L) {c : Nat} (hc : c < 36) : Ch L c = nI (chN L c) ∧ chN L c ≤ 10 := by
  obtain ⟨k, f, hk, hf, e1, e2⟩ := hL.1 c hc
  have := cv_t k hk f hf
  unfold chN Ch
  rw [e1, e2]
  exact this
def suN (L : Ld) (c : Nat) : Bool := decide (chN L c = 10)
def unN (L : Ld) (c : Nat) : Bool := decide (0 < chN L c) && decide (chN L c < 10)
theorem sure_c {L : Ld} {σ : St} (hl : ld σ 1 = L) (hL : Ldok L) : mX3_sureCells 1 σ = some (bs (suN L), σ) := by
  unfold mX3_sureCells
  rw [kl_e]
  refine lp_for (app := fun c (J : Int64 → Int32 → St → Option (Int64 × St)) => J (bsn (suN L) c) (nI c) σ) 36 _ ?_ ?_ 2000 (by omega)
  · intro c hc J
    unfold mX3_sureCells_4 mX3_sureCells_27
    have hv := chN_e hL hc
    rw [if_neg (lt36 hc), chanceAt_c hc, cl2_e, hl, hv.1, kl_e, bit_c hc, cl2_e]
    simp only [kl_e, nI_1]
    rw [show bsn (suN L) (c + 1) = if suN L c then bsn (suN L) c ||| ((1 : Int64) <<< lN c) else bsn (suN L) c from rfl, bs_bit hc]
    unfold suN
    by_cases z : chN L c = 10
    · rw [if_pos (show nI (chN L c) = 10 by rw [z]; rfl), decide_eq_true z]
      rfl
    · rw [if_neg (show ¬ nI (chN L c) = 10 from nI_ne (b := 10) (by omega) (by omega) z), decide_eq_false z]
      rfl
  · intro J
    unfold mX3_sureCells_4
    rw [if_pos at36]
    rfl
theorem unsure_c {L : Ld} {σ : St} (hl : ld σ 1 = L) (hL : Ldok L) : mX3_unsureCells 1 σ = some (bs (unN L), σ) := by
  unfold mX3_unsureCells
  rw [kl_e]
  refine lp_for (app := fun c (J : Int64 → Int32 → St → Option (Int64 × St)) => J (bsn (unN L) c) (nI c) σ) 36 _ ?_ ?_ 2000 (by omega)
  · intro c hc J
    unfold mX3_unsureCells_4 mX3_unsureCells_35
    have hv := chN_e hL hc
    rw [if_neg (lt36 hc)]
    simp only [chanceAt_c hc, cl2_e, hl, hv.1, kl_e, bit_c hc, nI_1]
    rw [show bsn (unN L) (c + 1) = if unN L c then bsn (unN L) c ||| ((1 : Int64) <<< lN c) else bsn (unN L) c from rfl, bs_bit hc]
    unfold unN
    by_cases z : 0 < chN L c
    · rw [if_neg (nI_nle z (by omega)), decide_eq_true z, Bool.true_and]
      by_cases y : chN L c < 10
      · rw [if_neg (show ¬ (10 : Int32) ≤ nI (chN L c) from nI_ge (b := 10) y (by omega)), decide_eq_true y]
        rfl
      · rw [if_pos (show (10 : Int32) ≤ nI (chN L c) from nI_le (a := 10) (by omega) (by omega)), decide_eq_false y]
        rfl
    · rw [if_pos (by rw [nI_0le (by omega)]; omega), decide_eq_false z]
      rfl
  · intro J
    unfold mX3_unsureCells_4
    rw [if_pos at36]
    rfl
theorem tb_t : ∀ m, m < 256 → ∀ k, k < 8 → decide (((nI m >>> (nI k &&& 31)) &&& (1 : Int32)) = 1) = m.testBit k := by decide +kernel
theorem tb_e {m k : Nat} (hm : m < 256) (hk : k < 8) : (((nI m >>> (nI k &&& 31)) &&& (1 : Int32)) = 1) = (m.testBit k = true) := by
  have := tb_t m hm k hk
  apply propext
  rw [← this, decide_eq_true_eq]
theorem sh_t : ∀ k, k < 9 → (1 : Int32) <<< (nI k &&& 31) = nI (2 ^ k) := by decide +kernel
/-- the way m in which the cells may lie -/
def psN (L : Ld) (m c : Nat) : Bool := unN L c && m.testBit (cnt (unN L) c)
def paN (L : Ld) (m c : Nat) : Bool := suN L c || psN L m c
theorem passable_c {L : Ld} {m : Nat} (σ : St) (hm : m < 256) (h8 : cnt (unN L) 36 ≤ 8) : mX6_passableOf (bs (unN L)) (nI m) σ = some (bs (psN L m), σ) := by
  unfold mX6_passableOf
  rw [kl_e]
  refine lp_for (app := fun c (J : Int64 → Int32 → Int32 → St → Option (Int64 × St)) => J (bsn (psN L m) c) (nI (cnt (unN L) c)) (nI c) σ) 36 _ ?_ ?_ 2000 (by omega)
  · intro c hc J
    unfold mX6_passableOf_8 mX6_passableOf_42 mX6_passableOf_45
    have hcl := cnt_up (S := unN L) (n := c + 1) (m := 36) (by omega)
    have hS : cnt (unN L) (c + 1) = cnt (unN L) c + (unN L c).toNat := rfl
    rw [if_neg (lt36 hc)]
    simp only [has_c hc, cl2_e, bit_c hc, kl_e, nI_1]
    rw [show bsn (psN L m) (c + 1) = if psN L m c then bsn (psN L m) c ||| ((1 : Int64) <<< lN c) else bsn (psN L m) c from rfl, bs_bit hc, hS]
    unfold psN
    cases y : unN L c
    · rw [b2_f, if_pos rfl, Bool.false_and, if_neg (by decide)]
      rfl
    · rw [y] at hS
      have hk : cnt (unN L) c < 8 := by
        have : cnt (unN L) (c + 1) = cnt (unN L) c + 1 := hS
        omega
      rw [b2_t, if_neg n10, Bool.true_and]
      by_cases z : m.testBit (cnt (unN L) c) = true
      · rw [if_pos (by rw [tb_e hm hk]; exact z), if_pos z]
        rfl
      · rw [if_neg (by rw [tb_e hm hk]; exact z), if_neg z]
        rfl
  · intro J
    unfold mX6_passableOf_8
    rw [if_pos at36]
    rfl
/-- how likely a cell's part of it is -/
def faN (L : Ld) (m c : Nat) : Nat := if m.testBit (cnt (unN L) c) then chN L c else 10 - chN L c
def wgN (L : Ld) (m : Nat) : Nat → Nat
  | 0 => 1
  | c + 1 => if unN L c then wgN L m c * faN L m c else wgN L m c
theorem un_su {L : Ld} {c : Nat} (h : unN L c = true) : suN L c = false := by
  unfold unN at h
  unfold suN
  rw [Bool.and_eq_true] at h
  have := of_decide_eq_true h.2
  rw [decide_eq_false (by omega)]
theorem faN_le {L : Ld} (hL : Ldok L) {m c : Nat} (hc : c < 36) : faN L m c ≤ 10 := by
  have := (chN_e hL hc).2
  unfold faN
  by_cases y : m.testBit (cnt (unN L) c) = true
  · rw [if_pos y]; exact this
  · rw [if_neg y]; omega
theorem wgN_le {L : Ld} (hL : Ldok L) {m : Nat} : ∀ c, c ≤ 36 → wgN L m c ≤ 10 ^ cnt (unN L) c
  | 0, _ => Nat.le_refl _
  | c + 1, hc => by
    have ih := wgN_le hL (m := m) c (by omega)
    have hS : cnt (unN L) (c + 1) = cnt (unN L) c + (unN L c).toNat := rfl
    unfold wgN
    rw [hS]
    cases y : unN L c
    · rw [if_neg (by decide)]; exact ih
    · rw [if_pos rfl]
      show _ ≤ 10 ^ (cnt (unN L) c + 1)
      rw [Nat.pow_succ]
      exact Nat.mul_le_mul ih (faN_le hL (by omega))
theorem weight_c {L : Ld} {m : Nat} {σ : St} (hl : ld σ 1 = L) (hL : Ldok L) : mX6_weightOf 1 (bs (unN L)) (bs (paN L m)) σ = some (lN (wgN L m 36), σ) := by
  unfold mX6_weightOf
  rw [kl_e]
  refine lp_for (app := fun c (J : Int64 → Int32 → St → Option (Int64 × St)) => J (lN (wgN L m c)) (nI c) σ) 36 _ ?_ ?_ 2000 (by omega)
  · intro c hc J
    unfold mX6_weightOf_6 mX6_weightOf_53 mX6_weightOf_56
    have hv := chN_e hL hc
    rw [if_neg (lt36 hc)]
    simp only [has_c hc, cl2_e, chanceAt_c hc, hl, hv.1, kl_e, nI_1]
    rw [show wgN L m (c + 1) = if unN L c then wgN L m c * faN L m c else wgN L m c from rfl]
    cases y : unN L c
    · rw [b2_f, if_pos rfl, if_neg (by decide)]
    · rw [b2_t, if_neg n10, if_pos rfl]
      have hpa : paN L m c = m.testBit (cnt (unN L) c) := by
        unfold paN psN
        rw [un_su y, y]; rfl
      unfold faN
      rw [hpa]
      cases z : m.testBit (cnt (unN L) c)
      · rw [b2_f, if_pos rfl, if_neg (by decide), show (10 : Int32) = nI 10 from rfl, pk_sub (by omega), nI_l (by omega), lN_mul]
      · rw [b2_t, if_neg n10, if_pos rfl, nI_l (by omega), lN_mul]
  · intro J
    unfold mX6_weightOf_6
    rw [if_pos at36]
/-- how likely there is a way, over the first ways in which it may lie -/
def liN (L : Ld) (a b m : Nat) : Nat := if dst (paN L m) a b < 36 then wgN L m 36 else 0
theorem oi4_ne {d : Nat} (h : d < 36) : ¬ nI d = -4 := nI_n4 d h
theorem likely_c {L : Ld} {a b : Nat} {σ : St} (hl : ld σ 1 = L) (hL : Ldok L) (ha : a < 36) (hb : b < 36) (h8 : cnt (unN L) 36 ≤ 8) : mX6_likely 1 (nI a) (nI b) σ = some (lN (smN (liN L a b) (2 ^ cnt (unN L) 36)), σ) := by
  have h2 : 2 ^ cnt (unN L) 36 ≤ 256 := by
    have := Nat.pow_le_pow_right (show 2 > 0 by omega) h8
    exact this
  unfold mX6_likely
  rw [sure_c hl hL, cl2_e, unsure_c hl hL, cl2_e, bitCount_c, cl2_e, kl_e, kl_e, if_neg (show ¬ (8 : Int32) < nI (cnt (unN L) 36) from nI_nlt (b := cnt (unN L) 36) (a := 8) h8 (by omega)), sh_t _ (by omega)]
  generalize hw : 2 ^ cnt (unN L) 36 = w at h2
  refine lp_for (app := fun m (J : Int64 → Int32 → St → Option (Int64 × St)) => J (lN (smN (liN L a b) m)) (nI m) σ) w _ ?_ ?_ 2000 (by omega)
  · intro m hm J
    unfold mX6_likely_31 mX6_likely_74
    rw [if_neg (nI_ge hm (by omega)), passable_c σ (by omega) h8, cl2_e, kl_e, bs_or, show (fun j => suN L j || psN L m j) = paN L m from rfl, stepsBetween_c ha hb, cl2_e, kl_e]
    simp only [weight_c hl hL, cl2_e, kl_e, nI_1]
    have hS : smN (liN L a b) (m + 1) = smN (liN L a b) m + liN L a b m := rfl
    have hli : liN L a b m = if dst (paN L m) a b < 36 then wgN L m 36 else 0 := rfl
    rw [hS, hli]
    by_cases z : dst (paN L m) a b < 36
    · rw [if_pos z, if_neg (oi4_ne z), if_pos z, lN_add]
    · rw [if_neg z, if_pos rfl, if_neg z, Nat.add_zero (smN (liN L a b) m)]
  · intro J
    unfold mX6_likely_31
    rw [if_pos (Int32.le_refl _)]
theorem pow8 {k : Nat} (h : k ≤ 8) : 10 ^ k ≤ 100000000 := by
  have := Nat.pow_le_pow_right (show 10 > 0 by omega) h
  exact this
theorem liN_sum {L : Ld} (hL : Ldok L) {a b : Nat} (h8 : cnt (unN L) 36 ≤ 8) : smN (liN L a b) (2 ^ cnt (unN L) 36) ≤ 100000000 * 256 := by
  have h2 : 2 ^ cnt (unN L) 36 ≤ 256 := by
    have := Nat.pow_le_pow_right (show 2 > 0 by omega) h8
    exact this
  have h3 : smN (liN L a b) (2 ^ cnt (unN L) 36) ≤ 100000000 * 2 ^ cnt (unN L) 36 := smN_le _ (fun m _ => by
    unfold liN
    by_cases z : dst (paN L m) a b < 36
    · rw [if_pos z]
      exact Nat.le_trans (wgN_le hL 36 (Nat.le_refl _)) (pow8 h8)
    · rw [if_neg z]; omega)
  exact Nat.le_trans h3 (Nat.mul_le_mul_left _ h2)
theorem part_snow {L : Ld} (hL : Ldok L) {a b : Nat} (h8 : cnt (unN L) 36 ≤ 8) : smN (liN L a b) (2 ^ cnt (unN L) 36) < 2 ^ 63 ∧ 10 ^ cnt (unN L) 36 < 2 ^ 63 ∧ smN (liN L a b) (2 ^ cnt (unN L) 36) * 10 ^ cnt (unN L) 36 < 2 ^ 63 := by
  have h1 := liN_sum hL (a := a) (b := b) h8
  have h2 := pow8 h8
  have h3 := Nat.mul_le_mul h1 h2
  refine ⟨by omega, by omega, ?_⟩
  omega
