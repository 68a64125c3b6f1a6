/-! ===== PURE: growing over pairs, in general ===== -/
section
variable {N : Nat} {A : Nat → Nat → Bool} {P : Nat → Bool} {src : Nat}
/-- what is come to in n days -/
def Sx (N : Nat) (A : Nat → Nat → Bool) (P : Nat → Bool) (src : Nat) : Nat → Nat → Bool
  | 0 => fun k => decide (k = src) && P k
  | n + 1 => fun k => P k && anyN (fun c => Sx N A P src n c && A c k) N
theorem Sx_s {n k : Nat} : Sx N A P src (n + 1) k = (P k && anyN (fun c => Sx N A P src n c && A c k) N) := rfl
theorem Sx_P {n k : Nat} (h : Sx N A P src n k = true) : P k = true := by
  cases n with
  | zero =>
    have h' : (decide (k = src) && P k) = true := h
    rw [Bool.and_eq_true] at h'
    exact h'.2
  | succ n =>
    rw [Sx_s, Bool.and_eq_true] at h
    exact h.1
theorem Sx_up (hr : ∀ k, k < N → A k k = true) {n k : Nat} (hk : k < N) (h : Sx N A P src n k = true) : Sx N A P src (n + 1) k = true := by
  rw [Sx_s, Bool.and_eq_true]
  exact ⟨Sx_P h, anyN_iff.2 ⟨k, hk, by rw [h, hr k hk]; rfl⟩⟩
theorem Sx_le (hr : ∀ k, k < N → A k k = true) {n k : Nat} (hk : k < N) (h : Sx N A P src n k = true) : ∀ m, Sx N A P src (n + m) k = true
  | 0 => h
  | m + 1 => Sx_up hr hk (Sx_le hr hk h m)
theorem Sx_mono (hr : ∀ k, k < N → A k k = true) {n m k : Nat} (hk : k < N) (hm : n ≤ m) (h : Sx N A P src n k = true) : Sx N A P src m k = true := by
  have := Sx_le hr hk h (m - n)
  rwa [show n + (m - n) = m by omega] at this
theorem Sx_eq {n m : Nat} (h : ∀ k, k < N → Sx N A P src n k = Sx N A P src m k) {k : Nat} : Sx N A P src (n + 1) k = Sx N A P src (m + 1) k := by
  rw [Sx_s, Sx_s, anyN_eq N (fun c hc => by rw [h c hc])]
theorem Sx_st {n : Nat} (h : ∀ k, k < N → Sx N A P src (n + 1) k = Sx N A P src n k) : ∀ m k, k < N → Sx N A P src (n + m) k = Sx N A P src n k
  | 0, _, _ => rfl
  | m + 1, k, hk => by
    show Sx N A P src (n + m + 1) k = _
    rw [Sx_eq (m := n) (fun c hc => Sx_st h m c hc), h k hk]
theorem Sx_card (hr : ∀ k, k < N → A k k = true) : ∀ n, (∀ i, i < n → ∃ k, k < N ∧ Sx N A P src (i + 1) k ≠ Sx N A P src i k) → n + cnt (Sx N A P src 0) N ≤ cnt (Sx N A P src n) N
  | 0, _ => by omega
  | n + 1, h => by
    have ih := Sx_card hr n (fun i hi => h i (by omega))
    obtain ⟨k, hk, hne⟩ := h n (by omega)
    have : cnt (Sx N A P src n) N < cnt (Sx N A P src (n + 1)) N := by
      cases h1 : Sx N A P src n k
      · refine cnt_lt N (fun j hj hS => Sx_up hr hj hS) k hk h1 ?_
        cases h2 : Sx N A P src (n + 1) k
        · rw [h1, h2] at hne; exact absurd rfl hne
        · rfl
      · rw [h1, Sx_up hr hk h1] at hne; exact absurd rfl hne
    omega
theorem Sx_0 (h0 : ∀ k, k < N → Sx N A P src 0 k = false) : ∀ n k, k < N → Sx N A P src n k = false
  | 0, k, hk => h0 k hk
  | n + 1, k, hk => by
    rw [Sx_s]
    have : anyN (fun c => Sx N A P src n c && A c k) N = false := anyN_f.2 (fun c hc => by rw [Sx_0 h0 n c hc]; rfl)
    rw [this, Bool.and_false]
theorem Sx_still (hr : ∀ k, k < N → A k k = true) (h0 : ∃ k, k < N ∧ Sx N A P src 0 k = true) : ∃ n, n < N ∧ ∀ k, k < N → Sx N A P src (n + 1) k = Sx N A P src n k := by
  refine Classical.byContradiction (fun hn => ?_)
  have key : ∀ i, i < N → ∃ k, k < N ∧ Sx N A P src (i + 1) k ≠ Sx N A P src i k := fun i hi => Classical.byContradiction (fun h => hn ⟨i, hi, fun k hk => Classical.byContradiction (fun h2 => h ⟨k, hk, h2⟩)⟩)
  have h1 := Sx_card hr N key
  have h2 := cnt_le (S := Sx N A P src N) N
  obtain ⟨k, hk, h3⟩ := h0
  have : cnt (Sx N A P src 0) N ≠ 0 := fun z => by
    have := cnt_0 N z k hk
    rw [this] at h3; cases h3
  omega
/-- in how many days; N: never -/
def Dx (N : Nat) (A : Nat → Nat → Bool) (P : Nat → Bool) (src k : Nat) : Nat := fst (fun n => Sx N A P src n k) N
theorem Dx_le (k : Nat) : Dx N A P src k ≤ N := fst_le N
theorem Dx_yes {k : Nat} (h : Dx N A P src k < N) : Sx N A P src (Dx N A P src k) k = true := fst_yes (p := fun n => Sx N A P src n k) (n := N) h
theorem Dx_no {k i : Nat} (h : i < Dx N A P src k) : Sx N A P src i k = false := fst_no (p := fun n => Sx N A P src n k) (n := N) h
theorem Dx_at (hr : ∀ k, k < N → A k k = true) {k n : Nat} (hk : k < N) (hn : n < N) : Sx N A P src n k = decide (Dx N A P src k ≤ n) := by
  by_cases h : Dx N A P src k ≤ n
  · rw [decide_eq_true h]
    exact Sx_mono hr hk h (Dx_yes (Nat.lt_of_le_of_lt h hn))
  · rw [decide_eq_false h]
    exact Dx_no (Nat.lt_of_not_le h)
theorem Dx_ever (hr : ∀ k, k < N → A k k = true) {k m : Nat} (hk : k < N) (h : Sx N A P src m k = true) : Dx N A P src k < N ∧ Dx N A P src k ≤ m := by
  have h2 : Dx N A P src k ≤ m := by
    refine Nat.le_of_not_lt (fun z => ?_)
    rw [Dx_no z] at h; cases h
  refine ⟨?_, h2⟩
  by_cases z : ∃ k, k < N ∧ Sx N A P src 0 k = true
  · obtain ⟨n, hn, hs⟩ := Sx_still hr z
    have : Sx N A P src n k = true := by
      rcases Nat.le_total n m with q | q
      · have := Sx_st hs (m - n) k hk
        rw [show n + (m - n) = m by omega, h] at this
        exact this.symm
      · exact Sx_mono hr hk q h
    rcases Nat.lt_or_ge (Dx N A P src k) N with y | y
    · exact y
    · rw [Dx_no (Nat.lt_of_lt_of_le hn y)] at this; cases this
  · have h0 : ∀ k, k < N → Sx N A P src 0 k = false := fun k hk => by
      cases y : Sx N A P src 0 k
      · rfl
      · exact absurd ⟨k, hk, y⟩ z
    rw [Sx_0 h0 m k hk] at h; cases h
theorem Dx_nP {k : Nat} (h : P k = false) : Dx N A P src k = N := by
  have := Dx_le (N := N) (A := A) (P := P) (src := src) k
  rcases Nat.lt_or_ge (Dx N A P src k) N with q | q
  · have := Sx_P (Dx_yes q)
    rw [h] at this; cases this
  · omega
theorem Dx_src {k : Nat} (hk : k < N) (hs : src < N) (h : P src = false) : Dx N A P src k = N := by
  have h0 : ∀ k, k < N → Sx N A P src 0 k = false := fun k hk => by
    show (decide (k = src) && P k) = false
    by_cases q : k = src
    · rw [q, h, Bool.and_false]
    · rw [decide_eq_false q]; rfl
  have := Dx_le (N := N) (A := A) (P := P) (src := src) k
  rcases Nat.lt_or_ge (Dx N A P src k) N with q | q
  · have h2 := Dx_yes q
    rw [Sx_0 h0 _ k hk] at h2; cases h2
  · omega
theorem Dx_0 {k : Nat} (hN : 0 < N) (hk : k < N) (h : Dx N A P src k = 0) : k = src := by
  have h2 := Dx_yes (N := N) (A := A) (P := P) (src := src) (k := k) (by omega)
  rw [h] at h2
  have h' : (decide (k = src) && P k) = true := h2
  rw [Bool.and_eq_true] at h'
  exact of_decide_eq_true h'.1
theorem Dx_self (hs : src < N) (h : P src = true) : Dx N A P src src = 0 := by
  refine fst_is (by omega) ?_ (fun i hi => by omega)
  show (decide (src = src) && P src) = true
  rw [h, decide_eq_true rfl]; rfl
/-- a step from c to k -/
theorem Dx_step (hr : ∀ k, k < N → A k k = true) {c k : Nat} (hc : c < N) (hk : k < N) (h : Dx N A P src c < N) (hP : P k = true) (hA : A c k = true) : Dx N A P src k < N ∧ Dx N A P src k ≤ Dx N A P src c + 1 := by
  refine Dx_ever hr hk (m := Dx N A P src c + 1) ?_
  rw [Sx_s, hP, Bool.true_and]
  exact anyN_iff.2 ⟨c, hc, by rw [Dx_yes h, hA]; rfl⟩
/-- whence one comes -/
theorem Dx_pred (hr : ∀ k, k < N → A k k = true) {k m : Nat} (hk : k < N) (h : Dx N A P src k = m + 1) (h2 : m + 1 < N) : ∃ c, c < N ∧ A c k = true ∧ Dx N A P src c = m ∧ P k = true := by
  have h3 := Dx_yes (N := N) (A := A) (P := P) (src := src) (k := k) (by omega)
  rw [h, Sx_s, Bool.and_eq_true] at h3
  obtain ⟨c, hc, h4⟩ := anyN_iff.1 h3.2
  rw [Bool.and_eq_true] at h4
  obtain ⟨e1, e2⟩ := Dx_ever hr hc h4.1
  refine ⟨c, hc, h4.2, ?_, h3.1⟩
  have := Dx_step hr hc hk e1 h3.1 h4.2
  omega
/-! the queue -/
def inQ (Q : Nat → Nat) (m k : Nat) : Bool := anyN (fun j => decide (Q j = k)) m
theorem inQ_iff {Q : Nat → Nat} {m k : Nat} : inQ Q m k = true ↔ ∃ j, j < m ∧ Q j = k := by
  unfold inQ
  rw [anyN_iff]
  exact ⟨fun ⟨j, h1, h2⟩ => ⟨j, h1, of_decide_eq_true h2⟩, fun ⟨j, h1, h2⟩ => ⟨j, h1, decide_eq_true h2⟩⟩
theorem inQ_cnt {Q : Nat → Nat} : ∀ m, (∀ j, j < m → Q j < N) → (∀ j j', j < m → j' < m → Q j = Q j' → j = j') → cnt (inQ Q m) N = m
  | 0, _, _ => by
    have : cnt (inQ Q 0) N = cnt (fun _ => false) N := cnt_eq N (fun _ _ => rfl)
    rw [this]
    have z : ∀ n, cnt (fun _ => false) n = 0 := fun n => by
      induction n with
      | zero => rfl
      | succ n ih => show cnt (fun _ => false) n + 0 = 0; rw [ih]
    exact z N
  | m + 1, h1, h2 => by
    have ih := inQ_cnt m (fun j hj => h1 j (by omega)) (fun j j' a b => h2 j j' (by omega) (by omega))
    have hin : inQ Q (m + 1) (Q m) = true := inQ_iff.2 ⟨m, by omega, rfl⟩
    have hrm := cnt_rm hin N
    rw [if_pos (h1 m (by omega))] at hrm
    rw [hrm]
    have : cnt (fun j => inQ Q (m + 1) j && !decide (j = Q m)) N = cnt (inQ Q m) N := cnt_eq N (fun j _ => by
      show ((anyN (fun i => decide (Q i = j)) m || decide (Q m = j)) && !decide (j = Q m)) = inQ Q m j
      by_cases q : j = Q m
      · have hno : inQ Q m j = false := by
          cases y : inQ Q m j
          · rfl
          · obtain ⟨i, hi, e⟩ := inQ_iff.1 y
            have := h2 i m (by omega) (by omega) (by rw [e, q])
            omega
        rw [hno, decide_eq_true q]
        simp
      · rw [decide_eq_false q, decide_eq_false (fun z => q z.symm), Bool.or_false, Bool.not_false, Bool.and_true]
        rfl)
    rw [this, ih]
/-- the queue holds m, the first i are done -/
def QI (N : Nat) (A : Nat → Nat → Bool) (P : Nat → Bool) (src : Nat) (Q : Nat → Nat) (m i : Nat) : Prop := i ≤ m ∧ m ≤ N ∧ (∀ j, j < m → Q j < N ∧ Dx N A P src (Q j) < N) ∧ (∀ j j', j < m → j' < m → Q j = Q j' → j = j') ∧ (∀ j j', j ≤ j' → j' < m → Dx N A P src (Q j) ≤ Dx N A P src (Q j')) ∧ (∀ j k, j < i → k < N → A (Q j) k = true → P k = true → inQ Q m k = true) ∧ (∀ j, j < m → i < m → Dx N A P src (Q j) ≤ Dx N A P src (Q i) + 1) ∧ inQ Q m src = true
theorem QI_near (hr : ∀ k, k < N → A k k = true) (hN : 0 < N) {Q : Nat → Nat} {m i : Nat} (h : QI N A P src Q m i) (hi : i < m) : ∀ n k, k < N → Dx N A P src k = n → n ≤ Dx N A P src (Q i) → inQ Q m k = true := by
  obtain ⟨h1, h2, h3, h4, h5, h6, h7, h8⟩ := h
  intro n
  induction n with
  | zero =>
    intro k hk e _
    rw [Dx_0 hN hk e]; exact h8
  | succ n ih =>
    intro k hk e hle
    have hlt := (h3 i hi).2
    obtain ⟨c, hc, hA, hD, hP⟩ := Dx_pred hr hk e (by omega)
    obtain ⟨j, hj, hQ⟩ := inQ_iff.1 (ih c hc hD (by omega))
    have hji : j < i := by
      refine Nat.lt_of_not_le (fun z => ?_)
      have := h5 i j z hj
      rw [hQ, hD] at this
      omega
    exact h6 j k hji hk (by rw [hQ]; exact hA) hP
theorem QI_end (hr : ∀ k, k < N → A k k = true) {Q : Nat → Nat} {m : Nat} (hN : 0 < N) (h : QI N A P src Q m m) : ∀ n k, k < N → Dx N A P src k = n → n < N → inQ Q m k = true := by
  obtain ⟨h1, h2, h3, h4, h5, h6, h7, h8⟩ := h
  intro n
  induction n with
  | zero =>
    intro k hk e _
    rw [Dx_0 hN hk e]; exact h8
  | succ n ih =>
    intro k hk e hlt
    obtain ⟨c, hc, hA, hD, hP⟩ := Dx_pred hr hk e hlt
    obtain ⟨j, hj, hQ⟩ := inQ_iff.1 (ih c hc hD (by omega))
    exact h6 j k hj hk (by rw [hQ]; exact hA) hP
/-- within one of the queue: n its days; all nearer ones are in -/
def QJ (N : Nat) (A : Nat → Nat → Bool) (P : Nat → Bool) (src : Nat) (Q : Nat → Nat) (m i q : Nat) : Prop := i < m ∧ Q i = q ∧ m ≤ N ∧ (∀ j, j < m → Q j < N ∧ Dx N A P src (Q j) < N) ∧ (∀ j j', j < m → j' < m → Q j = Q j' → j = j') ∧ (∀ j j', j ≤ j' → j' < m → Dx N A P src (Q j) ≤ Dx N A P src (Q j')) ∧ (∀ j k, j < i → k < N → A (Q j) k = true → P k = true → inQ Q m k = true) ∧ (∀ j, j < m → Dx N A P src (Q j) ≤ Dx N A P src q + 1) ∧ inQ Q m src = true ∧ ∀ k, k < N → Dx N A P src k ≤ Dx N A P src q → inQ Q m k = true
theorem QJ_of (hr : ∀ k, k < N → A k k = true) (hN : 0 < N) {Q : Nat → Nat} {m i : Nat} (h : QI N A P src Q m i) (hi : i < m) : QJ N A P src Q m i (Q i) := by
  have hn := QI_near hr hN h hi
  obtain ⟨h1, h2, h3, h4, h5, h6, h7, h8⟩ := h
  exact ⟨hi, rfl, h2, h3, h4, h5, h6, fun j hj => h7 j hj hi, h8, fun k hk hle => hn _ k hk rfl hle⟩
def ap1 (Q : Nat → Nat) (m k : Nat) : Nat → Nat := fun j => if j = m then k else Q j
theorem ap1_in {Q : Nat → Nat} {m k e : Nat} : inQ (ap1 Q m k) (m + 1) e = (inQ Q m e || decide (k = e)) := by
  show (anyN (fun j => decide (ap1 Q m k j = e)) m || decide (ap1 Q m k m = e)) = _
  have h1 : ap1 Q m k m = k := if_pos rfl
  rw [h1]
  congr 1
  exact anyN_eq m (fun j hj => by
    have : ap1 Q m k j = Q j := if_neg (by omega)
    rw [this])
theorem QJ_add (hr : ∀ k, k < N → A k k = true) {Q : Nat → Nat} {m i q k : Nat} (h : QJ N A P src Q m i q) (hk : k < N) (hP : P k = true) (hA : A q k = true) (hno : inQ Q m k = false) : QJ N A P src (ap1 Q m k) (m + 1) i q ∧ Dx N A P src k = Dx N A P src q + 1 ∧ m < N := by
  obtain ⟨h1, h2, h3, h4, h5, h6, h7, h8, h9, h10⟩ := h
  have hq := h4 i h1
  rw [h2] at hq
  have hst := Dx_step hr hq.1 hk hq.2 hP hA
  have hD : Dx N A P src k = Dx N A P src q + 1 := by
    have : ¬ Dx N A P src k ≤ Dx N A P src q := fun z => by rw [h10 k hk z] at hno; cases hno
    omega
  have hm : m < N := by
    have e1 := inQ_cnt (N := N) m (fun j hj => (h4 j hj).1) h5
    have e2 : cnt (inQ Q m) N < cnt (fun _ => true) N := cnt_lt N (fun _ _ _ => rfl) k hk hno rfl
    have e3 := cnt_le (S := fun _ => true) N
    omega
  have a1 : ∀ j, j < m → ap1 Q m k j = Q j := fun j hj => if_neg (by omega)
  have a2 : ap1 Q m k m = k := if_pos rfl
  have old : ∀ e, inQ Q m e = true → inQ (ap1 Q m k) (m + 1) e = true := fun e he => by rw [ap1_in, he]; rfl
  refine ⟨⟨by omega, by rw [a1 i h1]; exact h2, by omega, fun j hj => ?_, fun j j' hj hj' e => ?_, fun j j' hj hj' => ?_, fun j c hj hc hAc hPc => ?_, fun j hj => ?_, old _ h9, fun c hc hle => old _ (h10 c hc hle)⟩, hD, hm⟩
  · by_cases y : j = m
    · rw [y, a2]; exact ⟨hk, hst.1⟩
    · rw [a1 j (by omega)]; exact h4 j (by omega)
  · by_cases y : j = m
    · by_cases y' : j' = m
      · rw [y, y']
      · rw [y, a2, a1 j' (by omega)] at e
        have : inQ Q m k = true := inQ_iff.2 ⟨j', by omega, e.symm⟩
        rw [this] at hno; cases hno
    · by_cases y' : j' = m
      · rw [y', a2, a1 j (by omega)] at e
        have : inQ Q m k = true := inQ_iff.2 ⟨j, by omega, e⟩
        rw [this] at hno; cases hno
      · rw [a1 j (by omega), a1 j' (by omega)] at e
        exact h5 j j' (by omega) (by omega) e
  · by_cases y' : j' = m
    · rw [y', a2, hD]
      by_cases y : j = m
      · rw [y, a2, hD]; exact Nat.le_refl _
      · rw [a1 j (by omega)]; exact h8 j (by omega)
    · rw [a1 j (by omega), a1 j' (by omega)]; exact h6 j j' hj (by omega)
  · rw [a1 j (by omega)] at hAc
    exact old _ (h7 j c hj hc hAc hPc)
  · by_cases y : j = m
    · rw [y, a2, hD]; exact Nat.le_refl _
    · rw [a1 j (by omega)]; exact h8 j (by omega)
theorem QI_next {Q : Nat → Nat} {m i q : Nat} (h : QJ N A P src Q m i q) (hc : ∀ k, k < N → A q k = true → P k = true → inQ Q m k = true) : QI N A P src Q m (i + 1) := by
  obtain ⟨h1, h2, h3, h4, h5, h6, h7, h8, h9, h10⟩ := h
  refine ⟨by omega, h3, h4, h5, h6, fun j k hj hk hA hP => ?_, fun j hj hi => ?_, h9⟩
  · by_cases y : j = i
    · rw [y, h2] at hA; exact hc k hk hA hP
    · exact h7 j k (by omega) hk hA hP
  · have a := h8 j hj
    have b := h6 i (i + 1) (by omega) hi
    rw [h2] at b
    omega
theorem QI_0 (hs : src < N) (hP : P src = true) : QI N A P src (fun _ => src) 1 0 := by
  have h0 := Dx_self (N := N) (A := A) hs hP
  refine ⟨by omega, by omega, fun j hj => ⟨hs, by rw [h0]; omega⟩, fun j j' hj hj' _ => by omega, fun j j' _ _ => Nat.le_refl _, fun j k hj => by omega, fun j _ _ => Nat.le_succ _, inQ_iff.2 ⟨0, by omega, rfl⟩⟩
end
