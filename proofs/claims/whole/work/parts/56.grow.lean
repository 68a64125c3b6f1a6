/-! ===== PURE: growing from a cell over passable cells ===== -/
def Gr (O S : Nat → Bool) : Nat → Nat → Bool
  | 0 => fun e => S e && O e
  | n + 1 => nx O (Gr O S n)
def one (a : Nat) : Nat → Bool := fun j => decide (j = a)
theorem Gr_O {O S : Nat → Bool} {n e : Nat} (h : Gr O S n e = true) : O e = true := by
  cases n with
  | zero => unfold Gr at h; rw [Bool.and_eq_true] at h; exact h.2
  | succ n => unfold Gr nx at h; rw [Bool.and_eq_true] at h; exact h.2
theorem Gr_up {O S : Nat → Bool} {n e : Nat} (h : Gr O S n e = true) : Gr O S (n + 1) e = true := by
  show nx O (Gr O S n) e = true
  unfold nx sp
  rw [h, Gr_O h]
  rfl
theorem Gr_mono {O S : Nat → Bool} {n e : Nat} (h : Gr O S n e = true) : ∀ m, Gr O S (n + m) e = true
  | 0 => h
  | m + 1 => Gr_up (Gr_mono h m)
theorem Gr_le {O S : Nat → Bool} {n m e : Nat} (hm : n ≤ m) (h : Gr O S n e = true) : Gr O S m e = true := by
  have := Gr_mono h (m - n)
  rwa [show n + (m - n) = m by omega] at this
theorem anyN_eq {p q : Nat → Bool} : ∀ n, (∀ i, i < n → p i = q i) → anyN p n = anyN q n
  | 0, _ => rfl
  | n + 1, h => by
    show (anyN p n || p n) = (anyN q n || q n)
    rw [anyN_eq n (fun i hi => h i (by omega)), h n (by omega)]
theorem sp_eq {S T : Nat → Bool} (h : ∀ j, j < 36 → S j = T j) {e : Nat} (he : e < 36) : sp S e = sp T e := by
  rw [sp_adj he, sp_adj he]
  exact anyN_eq 36 (fun i hi => by rw [h i hi])
theorem nx_eq {O S T : Nat → Bool} (h : ∀ j, j < 36 → S j = T j) {e : Nat} (he : e < 36) : nx O S e = nx O T e := by
  unfold nx
  rw [sp_eq h he]
theorem Gr_st {O S : Nat → Bool} {n : Nat} (h : ∀ e, e < 36 → Gr O S (n + 1) e = Gr O S n e) : ∀ m e, e < 36 → Gr O S (n + m) e = Gr O S n e
  | 0, _, _ => rfl
  | m + 1, e, he => by
    show nx O (Gr O S (n + m)) e = _
    rw [nx_eq (T := Gr O S n) (fun j hj => Gr_st h m j hj) he]
    exact h e he
theorem Gr_card {O S : Nat → Bool} : ∀ n, (∀ i, i < n → ∃ e, e < 36 ∧ Gr O S (i + 1) e ≠ Gr O S i e) → n + cnt (Gr O S 0) 36 ≤ cnt (Gr O S n) 36
  | 0, _ => by omega
  | n + 1, h => by
    have ih := Gr_card (O := O) (S := S) n (fun i hi => h i (by omega))
    obtain ⟨e, he, hne⟩ := h n (by omega)
    have : cnt (Gr O S n) 36 < cnt (Gr O S (n + 1)) 36 := by
      cases h1 : Gr O S n e
      · refine cnt_lt 36 (fun j _ hj => Gr_up hj) e he h1 ?_
        cases h2 : Gr O S (n + 1) e
        · rw [h1, h2] at hne; exact absurd rfl hne
        · rfl
      · rw [h1, Gr_up h1] at hne; exact absurd rfl hne
    omega
theorem bs_inj {S T : Nat → Bool} : bs S = bs T ↔ ∀ j, j < 36 → S j = T j := by
  constructor
  · intro h j hj
    have := bt_bs (S := S) (j := j)
    rw [h, bt_bs] at this
    simpa [hj] using this.symm
  · exact bs_eq
/-- nothing comes after n -/
def stl (O S : Nat → Bool) (n : Nat) : Bool := decide (bs (Gr O S (n + 1)) = bs (Gr O S n))
/-- it stands still somewhere below 36 -/
theorem Gr_still (O S : Nat → Bool) : ∃ n, n < 36 ∧ (∀ e, e < 36 → Gr O S (n + 1) e = Gr O S n e) ∧ ∀ i, i < n → ∃ e, e < 36 ∧ Gr O S (i + 1) e ≠ Gr O S i e := by
  by_cases h0 : cnt (Gr O S 0) 36 = 0
  · refine ⟨0, by omega, fun e he => ?_, fun i hi => by omega⟩
    have hz := cnt_0 36 h0
    rw [hz e he]
    show nx O (Gr O S 0) e = false
    rw [nx_eq (T := fun _ => false) (fun j hj => hz j hj) he]
    unfold nx sp
    simp
  · have key : ∀ i, stl O S i = false → ∃ e, e < 36 ∧ Gr O S (i + 1) e ≠ Gr O S i e := by
      intro i hi
      by_cases q : ∃ e, e < 36 ∧ Gr O S (i + 1) e ≠ Gr O S i e
      · exact q
      · have : bs (Gr O S (i + 1)) = bs (Gr O S i) := bs_eq (fun e he => Classical.byContradiction (fun hn => q ⟨e, he, hn⟩))
        unfold stl at hi
        rw [this] at hi
        simp at hi
    by_cases hf : fst (stl O S) 36 < 36
    · exact ⟨fst (stl O S) 36, hf, bs_inj.1 (of_decide_eq_true (fst_yes (p := stl O S) hf)), fun i hi => key i (fst_no (n := 36) hi)⟩
    · exfalso
      have h36 : fst (stl O S) 36 = 36 := by have := fst_le (p := stl O S) 36; omega
      have := Gr_card (O := O) (S := S) 36 (fun i hi => key i (fst_no (n := 36) (by omega)))
      have := cnt_le (S := Gr O S 36) 36
      omega
theorem Gr_35 {O S : Nat → Bool} {m e : Nat} (hm : 35 ≤ m) (he : e < 36) : Gr O S m e = Gr O S 35 e := by
  obtain ⟨n, hn, hs, _⟩ := Gr_still O S
  have h1 := Gr_st hs (m - n) e he
  have h2 := Gr_st hs (35 - n) e he
  rw [show n + (m - n) = m by omega] at h1
  rw [show n + (35 - n) = 35 by omega] at h2
  rw [h1, h2]
/-- steps from a to b over O; 36: no way -/
def dst (O : Nat → Bool) (a b : Nat) : Nat := fst (fun n => Gr O (one a) n b) 36
theorem dst_le (O : Nat → Bool) (a b : Nat) : dst O a b ≤ 36 := fst_le 36
theorem dst_yes {O : Nat → Bool} {a b : Nat} (h : dst O a b < 36) : Gr O (one a) (dst O a b) b = true := fst_yes (p := fun n => Gr O (one a) n b) (n := 36) h
theorem dst_no {O : Nat → Bool} {a b i : Nat} (h : i < dst O a b) : Gr O (one a) i b = false := fst_no (p := fun n => Gr O (one a) n b) (n := 36) h
theorem dst_lt {O : Nat → Bool} {a b : Nat} : dst O a b < 36 ↔ Gr O (one a) 35 b = true := by
  constructor
  · intro h
    exact Gr_le (by omega) (dst_yes h)
  · intro h
    rcases Nat.lt_or_ge (dst O a b) 36 with q | q
    · exact q
    · have h1 := dst_no (O := O) (a := a) (b := b) (i := 35) (by omega)
      rw [h] at h1
      cases h1
theorem Gr_dst {O : Nat → Bool} {a b n : Nat} (hn : n < 36) : Gr O (one a) n b = decide (dst O a b ≤ n) := by
  by_cases h : dst O a b ≤ n
  · rw [decide_eq_true h]
    exact Gr_le h (dst_yes (by omega))
  · rw [decide_eq_false h]
    exact dst_no (by omega)
theorem start_c {O : Nat → Bool} {a : Nat} : bs (one a) &&& bs O = bs (Gr O (one a) 0) := bs_and
theorem cellsWithin_c {O : Nat → Bool} {a n : Nat} (ha : a < 36) (hn : n < 2000) (σ : St) : mX7_cellsWithin (nI a) (nI n) (bs O) σ = some (bs (Gr O (one a) n), σ) := by
  unfold mX7_cellsWithin
  simp only [bit_c ha, cl2_e, kl_e]
  rw [show (bs fun j => decide (j = a)) = bs (one a) from rfl, start_c]
  refine lp_for (app := fun i (J : Int64 → Int32 → St → Option (Int64 × St)) => J (bs (Gr O (one a) i)) (nI i) σ) n _ ?_ ?_ 2000 hn
  · intro i hi J
    unfold mX7_cellsWithin_11
    rw [if_neg (nI_ge hi (by omega))]
    simp only [spread_c, cl2_e, kl_e, bs_and, nI_1]
    rfl
  · intro J
    unfold mX7_cellsWithin_11
    rw [if_pos (nI_le (Nat.le_refl _) (by omega))]
theorem islandOf_c {O : Nat → Bool} {a : Nat} (ha : a < 36) (σ : St) : mX7_islandOf (nI a) (bs O) σ = some (bs (Gr O (one a) 35), σ) := by
  unfold mX7_islandOf
  rw [show (36 : Int32) = nI 36 from rfl, cellsWithin_c ha (by omega), cl2_e]
  exact congrArg (fun x => some (x, σ)) (bs_eq (fun e he => Gr_35 (by omega) he))
theorem stepsBetween_c {O : Nat → Bool} {a b : Nat} (ha : a < 36) (hb : b < 36) (σ : St) : mX7_stepsBetween (nI a) (nI b) (bs O) σ = some (if dst O a b < 36 then nI (dst O a b) else -4, σ) := by
  unfold mX7_stepsBetween
  simp only [bit_c ha, cl2_e, kl_e]
  rw [show (bs fun j => decide (j = a)) = bs (one a) from rfl, start_c]
  have hl := dst_le O a b
  refine lp_for (app := fun i (J : Int64 → Int32 → St → Option (Int32 × St)) => J (bs (Gr O (one a) i)) (nI i) σ) (dst O a b) _ ?_ ?_ 2000 (by omega)
  · intro i hi J
    unfold mX7_stepsBetween_11
    rw [if_neg (lt36 (by omega))]
    simp only [has_c hb, cl2_e, b2_c, spread_c, kl_e, bs_and, nI_1]
    rw [Gr_dst (by omega), decide_eq_false (by omega), if_neg (by decide)]
    rfl
  · intro J
    unfold mX7_stepsBetween_11
    by_cases h : dst O a b < 36
    · rw [if_neg (lt36 h), if_pos h]
      simp only [has_c hb, cl2_e, b2_c]
      rw [Gr_dst h, decide_eq_true (Nat.le_refl _), if_pos rfl]
    · rw [if_neg h, show dst O a b = 36 by omega, if_pos at36]
