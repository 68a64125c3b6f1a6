/-! ===== PURE: snow, of the reference ===== -/
/-- the unsure cell number k -/
def ucN (L : Ld) (k : Nat) : Nat := fst (fun c => unN L c && decide (cnt (unN L) c = k)) 36
theorem ucN_is {L : Ld} {c : Nat} (hc : c < 36) (h : unN L c = true) : ucN L (cnt (unN L) c) = c := by
  refine fst_is hc (by rw [h, decide_eq_true rfl]; rfl) (fun i hi => ?_)
  cases y : unN L i
  · rfl
  · have a1 : cnt (unN L) (i + 1) = cnt (unN L) i + 1 := by show cnt (unN L) i + (unN L i).toNat = _; rw [y]; rfl
    have a2 := cnt_up (S := unN L) (n := i + 1) (m := c) (by omega)
    rw [decide_eq_false (by omega)]; rfl
theorem ucN_ex {L : Ld} : ∀ n k, n ≤ 36 → k < cnt (unN L) n → ∃ c, c < n ∧ unN L c = true ∧ cnt (unN L) c = k
  | 0, k, _, h => absurd h (Nat.not_lt_zero _)
  | n + 1, k, hn, h => by
    have hS : cnt (unN L) (n + 1) = cnt (unN L) n + (unN L n).toNat := rfl
    by_cases y : k < cnt (unN L) n
    · obtain ⟨c, h1, h2, h3⟩ := ucN_ex n k (by omega) y
      exact ⟨c, by omega, h2, h3⟩
    · cases z : unN L n
      · rw [hS, z] at h
        exact absurd (show k < cnt (unN L) n from h) y
      · rw [hS, z] at h
        have h' : k < cnt (unN L) n + 1 := h
        exact ⟨n, by omega, z, by omega⟩
theorem ucN_k {L : Ld} {k : Nat} (h : k < cnt (unN L) 36) : ucN L k < 36 ∧ unN L (ucN L k) = true ∧ cnt (unN L) (ucN L k) = k := by
  obtain ⟨c, h1, h2, h3⟩ := ucN_ex 36 k (Nat.le_refl _) h
  have := ucN_is h1 h2
  rw [h3] at this
  rw [this]
  exact ⟨h1, h2, h3⟩
/-- the weight by the numbers of unsure cells -/
def wkN (L : Ld) (m : Nat) : Nat → Nat
  | 0 => 1
  | k + 1 => wkN L m k * faN L m (ucN L k)
theorem wk_wg {L : Ld} {m : Nat} : ∀ n, n ≤ 36 → wgN L m n = wkN L m (cnt (unN L) n)
  | 0, _ => rfl
  | n + 1, hn => by
    have hS : cnt (unN L) (n + 1) = cnt (unN L) n + (unN L n).toNat := rfl
    rw [show wgN L m (n + 1) = if unN L n then wgN L m n * faN L m n else wgN L m n from rfl, hS, wk_wg n (by omega)]
    cases y : unN L n
    · rw [if_neg (by decide)]; rfl
    · rw [if_pos rfl]
      show _ = wkN L m (cnt (unN L) n) * faN L m (ucN L (cnt (unN L) n))
      rw [ucN_is (by omega) y]
/-- the cells by the numbers of unsure cells -/
def ckN (L : Ld) (m k e : Nat) : Bool := suN L e || anyN (fun j => m.testBit j && decide (ucN L j = e)) k
theorem ck_pa {L : Ld} {m e : Nat} (he : e < 36) : ckN L m (cnt (unN L) 36) e = paN L m e := by
  unfold ckN paN psN
  refine congrArg (fun b => suN L e || b) (bool_ext ?_)
  rw [anyN_iff, Bool.and_eq_true]
  constructor
  · rintro ⟨j, hj, h⟩
    rw [Bool.and_eq_true] at h
    have hu := ucN_k hj
    rw [of_decide_eq_true h.2] at hu
    exact ⟨hu.2.1, by rw [hu.2.2]; exact h.1⟩
  · rintro ⟨h1, h2⟩
    refine ⟨cnt (unN L) e, ?_, ?_⟩
    · have a1 : cnt (unN L) (e + 1) = cnt (unN L) e + 1 := by show cnt (unN L) e + (unN L e).toNat = _; rw [h1]; rfl
      have a2 := cnt_up (S := unN L) (n := e + 1) (m := 36) (by omega)
      omega
    · rw [Bool.and_eq_true]
      exact ⟨h2, decide_eq_true (ucN_is he h1)⟩
/-! is there a way -/
def nb1 (c e i : Nat) : Bool := anyN (fun d => decide (nbo c (d + 1) = some e)) i
theorem adj_nb1 {c e : Nat} : adj c e = (decide (c = e) || nb1 c e 4) := by
  apply bool_ext
  rw [adj_iff, Bool.or_eq_true]
  unfold nb1
  rw [anyN_iff]
  constructor
  · rintro ⟨d, hd, h⟩
    by_cases y : d = 0
    · left
      rw [y] at h
      have h' : some c = some e := h
      exact decide_eq_true (Option.some.inj h')
    · right
      exact ⟨d - 1, by omega, by rw [show d - 1 + 1 = d by omega]; exact decide_eq_true h⟩
  · rintro (h | ⟨d, hd, h⟩)
    · exact ⟨0, by omega, by rw [of_decide_eq_true h]; rfl⟩
    · exact ⟨d + 1, by omega, of_decide_eq_true h⟩
theorem isWay_in {O S T : Nat → Bool} {c : Nat} {J24 : Int64 → Int32 → St → Option (Int32 × St)} (σ : St) (hc : c < 36) : (lp (fun _ _ _ => none) (mX11_isWay_34 J24 (nI c) (bs S) (bs O)) 2000) (bs T) (1 : Int32) σ = J24 (bs (fun e => T e || (S c && (nb1 c e 4 && O e)))) (nI (c + 1)) σ := by
  cases hS : S c
  · show mX11_isWay_34 J24 (nI c) (bs S) (bs O) _ (bs T) (1 : Int32) σ = _
    unfold mX11_isWay_34 mX11_isWay_92
    rw [kl_e, if_neg (by decide), isOn_m hc, cl2_e, hS, b2_f, if_pos rfl]
    simp only [nI_1, Bool.false_and, Bool.or_false]
  · have e0 : bs T = bs (fun e => T e || (true && (nb1 c e 0 && O e))) := bs_eq (fun e _ => by
      show T e = (T e || (true && (false && O e)))
      simp)
    rw [e0]
    refine lp_for (app := fun i (J : Int64 → Int32 → St → Option (Int32 × St)) => J (bs (fun e => T e || (true && (nb1 c e i && O e)))) (nI (i + 1)) σ) 4 _ ?_ ?_ 2000 (by omega)
    · intro i hi J
      have hN : ∀ e, nb1 c e (i + 1) = (nb1 c e i || decide (nbo c (i + 1) = some e)) := fun e => rfl
      unfold mX11_isWay_34 mX11_isWay_92 mX11_isWay_83 mX11_isWay_82
      rw [kl_e, if_neg (lt5 (show i + 1 < 5 by omega)), isOn_m hc, cl2_e, hS, b2_t, if_neg n10, beside_m hc (show i + 1 < 5 by omega), cl2_e]
      simp only [kl_e, nI_1]
      have no : (∀ e, e < 36 → (decide (nbo c (i + 1) = some e) && O e) = false) → J (bs (fun e => T e || (true && (nb1 c e i && O e))) ||| 0) (nI (i + 1 + 1)) σ = J (bs (fun e => T e || (true && (nb1 c e (i + 1) && O e)))) (nI (i + 1 + 1)) σ := fun h => by
        rw [show ∀ x : Int64, x ||| 0 = x from fun x => by simp]
        refine congrArg (fun x => J x (nI (i + 1 + 1)) σ) (bs_eq (fun e he => ?_))
        have := h e he
        rw [hN]
        cases hOe : O e
        · simp
        · rw [hOe, Bool.and_true] at this
          rw [this, Bool.or_false]
      cases hn : nbo c (i + 1) with
      | none =>
        rw [if_pos oi_n0]
        exact no (fun e _ => by rw [hn]; rfl)
      | some x =>
        have hx := nbo_lt' hc (show i + 1 < 5 by omega) hn
        rw [if_neg (oi_nn hx), show oi (some x) = nI x from rfl, isOn_m hx, cl2_e, sh_c hx]
        cases hO : O x
        · rw [b2_f, if_pos rfl]
          exact no (fun e _ => by
            rw [hn]
            by_cases y : e = x
            · rw [y, hO, Bool.and_false]
            · rw [decide_eq_false (fun z => y (Option.some.inj z).symm)]; rfl)
        · rw [b2_t, if_neg n10, bs_or]
          refine congrArg (fun x => J x (nI (i + 1 + 1)) σ) (bs_eq (fun e _ => ?_))
          rw [hN, hn]
          by_cases y : e = x
          · rw [y, decide_eq_true rfl, decide_eq_true rfl, hO]
            simp
          · rw [decide_eq_false y, decide_eq_false (fun z => y (Option.some.inj z).symm), Bool.or_false, Bool.or_false]
    · intro J
      unfold mX11_isWay_34 mX11_isWay_92
      rw [kl_e, if_pos (show (5 : Int32) ≤ nI (4 + 1) from at5)]
      simp only [nI_1]
theorem isWay_m {O : Nat → Bool} {a b : Nat} (ha : a < 36) (hb : b < 36) (σ : St) : mX11_isWay (bs O) (nI a) (nI b) σ = some (b2 (decide (dst O a b < 36)), σ) := by
  have hd : decide (dst O a b < 36) = Gr O (one a) 36 b := by
    apply bool_ext
    rw [decide_eq_true_eq, dst_lt, Gr_35 (show 35 ≤ 36 by omega) hb]
  rw [hd]
  unfold mX11_isWay
  rw [kl_e, kl_e, sh_c ha, show (bs fun j => decide (j = a)) = bs (one a) from rfl, start_c]
  refine lp_for (app := fun n (J : Int64 → Int32 → St → Option (Int32 × St)) => J (bs (Gr O (one a) n)) (nI n) σ) 36 _ ?_ ?_ 2000 (by omega)
  · intro n hn J
    unfold mX11_isWay_10
    rw [if_neg (lt36 hn), kl_e]
    have hsub : ∀ e, Gr O (one a) n e = true → O e = true := fun e h => Gr_O h
    have hfin : ∀ e, e < 36 → (Gr O (one a) n e || anyN (fun c => Gr O (one a) n c && (nb1 c e 4 && O e)) 36) = Gr O (one a) (n + 1) e := fun e he => by
      show _ = (sp (Gr O (one a) n) e && O e)
      rw [sp_adj he]
      apply bool_ext
      rw [Bool.or_eq_true, Bool.and_eq_true, anyN_iff, anyN_iff]
      constructor
      · rintro (h | ⟨c, hc, h⟩)
        · exact ⟨⟨e, he, by rw [h, adj_r e he]; rfl⟩, hsub e h⟩
        · rw [Bool.and_eq_true, Bool.and_eq_true] at h
          exact ⟨⟨c, hc, by rw [h.1, adj_nb1, h.2.1, Bool.or_true]; rfl⟩, h.2.2⟩
      · rintro ⟨⟨c, hc, h⟩, hO⟩
        rw [Bool.and_eq_true, adj_nb1, Bool.or_eq_true] at h
        rcases h.2 with h2 | h2
        · left
          rw [← of_decide_eq_true h2]; exact h.1
        · right
          exact ⟨c, hc, by rw [h.1, h2, hO]; rfl⟩
    generalize Gr O (one a) n = S at hfin
    generalize Gr O (one a) (n + 1) = S' at hfin
    have e0 : bs S = bs (fun e => S e || anyN (fun c => S c && (nb1 c e 4 && O e)) 0) := bs_eq (fun e _ => by
      show S e = (S e || false)
      rw [Bool.or_false])
    have go : (lp (fun _ _ _ => none) (mX11_isWay_24 J (nI n) (bs S) (bs O)) 2000) (bs (fun e => S e || anyN (fun c => S c && (nb1 c e 4 && O e)) 0)) (0 : Int32) σ = J (bs S') (nI (n + 1)) σ := by
      refine lp_for (app := fun c (J' : Int64 → Int32 → St → Option (Int32 × St)) => J' (bs (fun e => S e || anyN (fun c => S c && (nb1 c e 4 && O e)) c)) (nI c) σ) 36 _ ?_ ?_ 2000 (by omega)
      · intro c hc J'
        unfold mX11_isWay_24
        rw [if_neg (lt36 hc), kl_e, isWay_in σ hc]
        refine congrArg (fun x => J' x (nI (c + 1)) σ) (bs_eq (fun e _ => ?_))
        show ((S e || anyN (fun c => S c && (nb1 c e 4 && O e)) c) || _) = (S e || (anyN (fun c => S c && (nb1 c e 4 && O e)) c || _))
        rw [Bool.or_assoc]
      · intro J'
        unfold mX11_isWay_24
        rw [if_pos at36, nI_1, bs_eq hfin]
    rw [← e0] at go
    exact go
  · intro J
    unfold mX11_isWay_10
    rw [if_pos at36, isOn_m hb, cl2_e, rz_b]
