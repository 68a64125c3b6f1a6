/-! ===== PURE: one step of spreading, on both sides ===== -/
theorem lp_rel {F α ρ : Type} {bot : F} {b : F → F} (app : Nat → α → F → ρ) (P : Nat → α → Prop) (N : Nat) (Q : ρ → Prop) (hs : ∀ i x, i < N → P i x → ∀ J, ∃ x', P (i + 1) x' ∧ app i x (b J) = app (i + 1) x' J) (hx : ∀ x, P N x → ∀ J, Q (app N x (b J))) : ∀ fuel, N < fuel → ∀ x, P 0 x → Q (app 0 x (lp bot b fuel)) := by
  have key : ∀ k i fuel x, i + k = N → k < fuel → P i x → Q (app i x (lp bot b fuel)) := by
    intro k
    induction k with
    | zero =>
      intro i fuel x h1 h2 hp
      obtain ⟨f, rfl⟩ : ∃ f, fuel = f + 1 := ⟨fuel - 1, by omega⟩
      have : i = N := by omega
      subst this
      exact hx _ hp _
    | succ k ih =>
      intro i fuel x h1 h2 hp
      obtain ⟨f, rfl⟩ : ∃ f, fuel = f + 1 := ⟨fuel - 1, by omega⟩
      obtain ⟨x', hp', e⟩ := hs i x (by omega) hp (lp bot b f)
      show Q (app i x (b (lp bot b f)))
      rw [e]
      exact ih (i + 1) f x' (by omega) (by omega) hp'
  exact fun fuel h x hp => key N 0 fuel x (by omega) h hp
theorem lp_wf {F α ρ : Type} {bot : F} {b : F → F} (app : α → F → ρ) (m : α → Nat) (P : α → Prop) (Q : ρ → Prop) (h : ∀ x, P x → ∀ J, Q (app x (b J)) ∨ ∃ x', P x' ∧ m x' < m x ∧ app x (b J) = app x' J) : ∀ fuel x, P x → m x < fuel → Q (app x (lp bot b fuel)) := by
  intro fuel
  induction fuel with
  | zero => intro x _ h2; omega
  | succ f ih =>
    intro x hp h2
    show Q (app x (b (lp bot b f)))
    rcases h x hp (lp bot b f) with q | ⟨x', hp', hm, e⟩
    · exact q
    · rw [e]; exact ih x' hp' (by omega)
theorem lt5 {i : Nat} (h : i < 5) : ¬ (5 : Int32) ≤ nI i := nI_ge (b := 5) h (by omega)
theorem at5 : (5 : Int32) ≤ nI 5 := nI_le (a := 5) (Nat.le_refl _) (by omega)
def anyN (p : Nat → Bool) : Nat → Bool
  | 0 => false
  | n + 1 => anyN p n || p n
theorem anyN_iff {p : Nat → Bool} : ∀ {n : Nat}, anyN p n = true ↔ ∃ i, i < n ∧ p i = true
  | 0 => by simp [anyN]
  | n + 1 => by
    rw [show anyN p (n + 1) = (anyN p n || p n) from rfl, Bool.or_eq_true, anyN_iff]
    constructor
    · rintro (⟨i, h1, h2⟩ | h)
      · exact ⟨i, by omega, h2⟩
      · exact ⟨n, by omega, h⟩
    · rintro ⟨i, h1, h2⟩
      by_cases e : i = n
      · subst e; exact Or.inr h2
      · exact Or.inl ⟨i, by omega, h2⟩
theorem bool_ext {a b : Bool} (h : a = true ↔ b = true) : a = b := by cases a <;> cases b <;> simp_all
/-- a set and all that lies beside it -/
def sp (S : Nat → Bool) (e : Nat) : Bool := S e || (decide (6 ≤ e) && S (e - 6)) || (!decide (e % 6 = 0) && S (e - 1)) || (!decide (e % 6 = 5) && S (e + 1)) || (decide (e ≤ 29) && S (e + 6))
def nx (O S : Nat → Bool) (e : Nat) : Bool := sp S e && O e
theorem m1_t : ∀ k, k < 64 → bt (-1090785346 : Int64) k = !(decide (k < 36) && decide (k % 6 = 0)) := by decide +kernel
theorem m2_t : ∀ k, k < 64 → bt (-34905131041 : Int64) k = !(decide (k < 36) && decide (k % 6 = 5)) := by decide +kernel
theorem m3_t : ∀ k, k < 64 → bt (68719476735 : Int64) k = decide (k < 36) := by decide +kernel
theorem spread_c {S : Nat → Bool} (σ : St) : mX7_spread (bs S) σ = some (bs (sp S), σ) := by
  unfold mX7_spread
  rw [kl_e]
  rw [show ((1 : Int32).toInt64 &&& 63) = lN 1 from by decide, show ((6 : Int32).toInt64 &&& 63) = lN 6 from by decide]
  refine congrArg (fun x => some (x, σ)) (eq_bs (fun j hj => ?_))
  rw [bt_and, m3_t j hj]
  by_cases h36 : j < 36
  · rw [decide_eq_true h36, Bool.and_true, Bool.true_and]
    simp only [bt_or, bt_shr (show 1 < 64 by omega), bt_shl (show 1 < 64 by omega), bt_shr (show 6 < 64 by omega), bt_shl (show 6 < 64 by omega), bt_and]
    rw [decide_eq_true hj, if_pos (by omega), if_pos (by omega), bt_bs, bt_bs, bt_bs, bt_bs, bt_bs, m1_t (1 + j) (by omega), m2_t (j - 1) (by omega), decide_eq_true h36]
    simp only [Bool.true_and]
    unfold sp
    have a1 : decide (j - 6 < 36) = true := decide_eq_true (by omega)
    have a2 : decide (j - 1 < 36) = true := decide_eq_true (by omega)
    rw [a1, a2]
    simp only [Bool.true_and]
    have c1 : (decide (1 + j < 36) && S (1 + j) && !(decide (1 + j < 36) && decide ((1 + j) % 6 = 0))) = (!decide (j % 6 = 5) && S (j + 1)) := by
      rw [Nat.add_comm 1 j]
      by_cases q : j % 6 = 5
      · have : (j + 1) % 6 = 0 := by omega
        simp [q, this]
        intro h _; exact h
      · have h1 : ¬ (j + 1) % 6 = 0 := by omega
        have h2 : j + 1 < 36 := by omega
        simp [q, h1, h2]
    have c2 : (decide (1 ≤ j) && (S (j - 1) && !(decide (j - 1 < 36) && decide ((j - 1) % 6 = 5)))) = (!decide (j % 6 = 0) && S (j - 1)) := by
      by_cases q : j % 6 = 0
      · by_cases q2 : 1 ≤ j
        · have h1 : (j - 1) % 6 = 5 := by omega
          simp [q, h1]; intros; omega
        · simp [q, q2]
      · have h1 : ¬ (j - 1) % 6 = 5 := by omega
        have h2 : 1 ≤ j := by omega
        simp [q, h1, h2]
    have c3 : (decide (6 + j < 36) && S (6 + j)) = (decide (j ≤ 29) && S (j + 6)) := by
      rw [Nat.add_comm 6 j]
      by_cases q : j ≤ 29
      · have : j + 6 < 36 := by omega
        simp [q, this]
      · have : ¬ j + 6 < 36 := by omega
        simp [q, this]
    rw [a2] at c2
    simp only [Bool.true_and] at c2
    rw [c1, c2, c3]
    cases S j <;> cases (decide (6 ≤ j) && S (j - 6)) <;> cases (!decide (j % 6 = 0) && S (j - 1)) <;> cases (!decide (j % 6 = 5) && S (j + 1)) <;> cases (decide (j ≤ 29) && S (j + 6)) <;> rfl
  · simp [h36]
/-- c lies at e or beside it -/
def adj (c e : Nat) : Bool := anyN (fun d => decide (nbo c d = some e)) 5
theorem adj_t : ∀ e, e < 36 → ∀ c, c < 36 → adj c e = (decide (c = e) || (decide (6 ≤ e) && decide (c = e - 6)) || (!decide (e % 6 = 0) && decide (c = e - 1)) || (!decide (e % 6 = 5) && decide (c = e + 1)) || (decide (e ≤ 29) && decide (c = e + 6))) := by decide +kernel
theorem sp_adj {S : Nat → Bool} {e : Nat} (he : e < 36) : sp S e = anyN (fun c => S c && adj c e) 36 := by
  apply bool_ext
  rw [anyN_iff]
  unfold sp
  constructor
  · intro h
    have go : ∀ c, c < 36 → S c = true → adj c e = true → ∃ i, i < 36 ∧ (S i && adj i e) = true := fun c h1 h2 h3 => ⟨c, h1, by rw [h2, h3]; rfl⟩
    simp only [Bool.or_eq_true, Bool.and_eq_true, Bool.not_eq_true', decide_eq_true_eq, decide_eq_false_iff_not] at h
    rcases h with (((h | h) | h) | h) | h
    · exact go e he h (by rw [adj_t e he e he]; simp)
    · exact go (e - 6) (by omega) h.2 (by rw [adj_t e he _ (by omega)]; simp [h.1])
    · exact go (e - 1) (by omega) h.2 (by rw [adj_t e he _ (by omega)]; simp [h.1])
    · exact go (e + 1) (by omega) h.2 (by rw [adj_t e he _ (by omega)]; simp [h.1])
    · exact go (e + 6) (by omega) h.2 (by rw [adj_t e he _ (by omega)]; simp [h.1])
  · rintro ⟨c, hc, h⟩
    rw [adj_t e he c hc] at h
    simp only [Bool.or_eq_true, Bool.and_eq_true, Bool.not_eq_true', decide_eq_true_eq, decide_eq_false_iff_not] at h ⊢
    obtain ⟨hS, h⟩ := h
    rcases h with (((h | ⟨h1, h⟩) | ⟨h1, h⟩) | ⟨h1, h⟩) | ⟨h1, h⟩
    · subst h; exact Or.inl (Or.inl (Or.inl (Or.inl hS)))
    · subst h; exact Or.inl (Or.inl (Or.inl (Or.inr ⟨h1, hS⟩)))
    · subst h; exact Or.inl (Or.inl (Or.inr ⟨h1, hS⟩))
    · subst h; exact Or.inl (Or.inr ⟨h1, hS⟩)
    · subst h; exact Or.inr ⟨h1, hS⟩
theorem bs_add {T : Nat → Bool} {e : Nat} (h : e < 36) : bs T ||| bs (fun j => decide (j = e)) = bs (fun j => T j || decide (j = e)) := bs_or
theorem goOn_m {S : Nat → Bool} (σ : St) : mX11_goOn (bs S) σ = some (bs (nx (Om σ) S), σ) := by
  unfold mX11_goOn
  rw [kl_e]
  have e0 : ∀ J : Int64 → Int32 → St → Option (Int64 × St), J (0 : Int64) (0 : Int32) σ = J (bs (fun e => anyN (fun c => S c && adj c e) 0 && Om σ e)) (nI 0) σ := by
    intro J
    rw [nI_0, show (fun e => anyN (fun c => S c && adj c e) 0 && Om σ e) = fun _ => false from rfl, bs_0]
  refine (e0 _).trans ?_
  refine lp_for (app := fun i (J : Int64 → Int32 → St → Option (Int64 × St)) => J (bs (fun e => anyN (fun c => S c && adj c e) i && Om σ e)) (nI i) σ) 36 _ ?_ ?_ 2000 (by omega)
  · intro c hc J
    unfold mX11_goOn_5
    rw [if_neg (lt36 hc), kl_e]
    cases hS : S c
    · have e1 : (fun e => anyN (fun c => S c && adj c e) (c + 1) && Om σ e) = fun e => anyN (fun c => S c && adj c e) c && Om σ e := by
        funext e
        simp [anyN, hS]
      rw [e1]
      show mX11_goOn_15 J (nI c) (bs S) _ _ (0 : Int32) σ = _
      unfold mX11_goOn_15 mX11_goOn_71
      simp only [kl_e, isOn_m hc, cl2_e, b2_c, hS, nI_1]
      rw [if_neg (by decide), if_neg (by decide)]
    have e1 : ∀ J' : Int64 → Int32 → St → Option (Int64 × St), J' (bs (fun e => anyN (fun c => S c && adj c e) c && Om σ e)) (0 : Int32) σ = J' (bs (fun e => (anyN (fun c => S c && adj c e) c || (anyN (fun d => decide (nbo c d = some e)) 0)) && Om σ e)) (nI 0) σ := by
      intro J'
      rw [nI_0]
      congr 2
      funext e
      simp [anyN]
    refine (e1 _).trans ?_
    refine lp_for (app := fun i (J' : Int64 → Int32 → St → Option (Int64 × St)) => J' (bs (fun e => (anyN (fun c => S c && adj c e) c || (anyN (fun d => decide (nbo c d = some e)) i)) && Om σ e)) (nI i) σ) 5 _ ?_ ?_ 2000 (by omega)
    · intro d hd J'
      unfold mX11_goOn_15 mX11_goOn_63 mX11_goOn_62 mX11_goOn_71
      simp only [kl_e, isOn_m hc, cl2_e, b2_c, hS, if_true, goneTo_m hc hd]
      rw [if_neg (lt5 hd)]
      cases hg : gone (Om σ) c d with
      | none =>
        rw [show oi none = -4 from rfl, if_pos (by decide), nI_1, show ∀ x : Int64, x ||| 0 = x from fun x => by simp]
        congr 1
        refine bs_eq (fun e he => ?_)
        have : (decide (nbo c d = some e) && Om σ e) = false := by
          cases hO : Om σ e
          · simp
          · unfold gone at hg
            by_cases h0 : d = 0
            · rw [if_pos h0] at hg; cases hg
            · rw [if_neg h0] at hg
              by_cases hn : nbo c d = some e
              · rw [hn] at hg
                simp [hO] at hg
              · simp [hn]
        rw [show anyN (fun d => decide (nbo c d = some e)) (d + 1) = (anyN (fun d => decide (nbo c d = some e)) d || decide (nbo c d = some e)) from rfl]
        cases hO : Om σ e
        · simp
        · rw [hO, Bool.and_true] at this
          rw [this, Bool.or_false]
      | some q =>
        have hq := gone_lt hc hd hg
        simp only [oi, nI_lt0 (n := q) (by omega), if_false, isOpen_M hq, cl2_e, b2_c, sh_c hq, nI_1, show ∀ x : Int64, x ||| 0 = x from fun x => by simp, bs_or]
        have hnb : nbo c d = some q := by
          unfold gone at hg
          by_cases h0 : d = 0
          · rw [if_pos h0] at hg; cases hg; rw [h0]; rfl
          · rw [if_neg h0] at hg
            cases hn : nbo c d with
            | none => rw [hn] at hg; cases hg
            | some z =>
              rw [hn] at hg
              simp only at hg
              by_cases hz : Om σ z = true
              · rw [if_pos hz] at hg; exact hg
              · rw [if_neg hz] at hg; cases hg
        have hA : ∀ e, anyN (fun d => decide (nbo c d = some e)) (d + 1) = (anyN (fun d => decide (nbo c d = some e)) d || decide (e = q)) := by
          intro e
          show (anyN (fun d => decide (nbo c d = some e)) d || decide (nbo c d = some e)) = _
          rw [hnb]
          congr 1
          by_cases e1 : e = q
          · subst e1; simp
          · simp [e1, Ne.symm e1]
        cases hO : Om σ q
        · rw [if_neg (by decide)]
          congr 1
          refine bs_eq (fun e he => ?_)
          rw [hA]
          by_cases e1 : e = q
          · subst e1; simp [hO]
          · simp [e1]
        · rw [if_pos rfl]
          congr 1
          refine bs_eq (fun e he => ?_)
          rw [hA]
          by_cases e1 : e = q
          · subst e1; simp [hO]
          · simp [e1]
    · intro J'
      unfold mX11_goOn_15
      simp only [kl_e]
      rw [if_pos at5]
      unfold mX11_goOn_71
      rw [nI_1]
      congr 1
      refine bs_eq (fun e he => ?_)
      show _ = ((anyN (fun c => S c && adj c e) c || (S c && adj c e)) && Om σ e)
      rw [hS, Bool.true_and]
      rfl
  · intro J
    unfold mX11_goOn_5
    rw [if_pos at36]
    refine congrArg (fun x => some (x, σ)) (bs_eq (fun e he => ?_))
    unfold nx
    rw [sp_adj he]
