/-! ===== PURE: islands are classes; middle ===== -/
def Is (O : Nat → Bool) (a : Nat) : Nat → Bool := Gr O (one a) 35
theorem Is_O {O : Nat → Bool} {a b : Nat} (h : Is O a b = true) : O b = true := Gr_O h
theorem Is_self {O : Nat → Bool} {a : Nat} (h : O a = true) : Is O a a = true := Gr_le (n := 0) (by omega) (by show (one a a && O a) = true; rw [h]; simp [one])
theorem Is_step {O : Nat → Bool} {a b c : Nat} (hb : b < 36) (hc : c < 36) (h : Is O a b = true) (hO : O c = true) (hd : adj b c = true) : Is O a c = true := by
  have : Gr O (one a) 36 c = true := by
    show (sp (Gr O (one a) 35) c && O c) = true
    rw [hO, Bool.and_true, sp_adj hc, anyN_iff]
    exact ⟨b, hb, by rw [hd, Bool.and_true]; exact h⟩
  rw [Gr_35 (by omega) hc] at this
  exact this
theorem Gr_min {O : Nat → Bool} {a : Nat} (X : Nat → Prop) (h0 : a < 36 → O a = true → X a) (h1 : ∀ b c, b < 36 → c < 36 → X b → O c = true → adj b c = true → X c) : ∀ n e, e < 36 → Gr O (one a) n e = true → X e
  | 0, e, he, h => by
    have h' : (one a e && O e) = true := h
    rw [Bool.and_eq_true] at h'
    have : e = a := of_decide_eq_true h'.1
    subst this
    exact h0 he h'.2
  | n + 1, e, he, h => by
    have h' : (sp (Gr O (one a) n) e && O e) = true := h
    rw [Bool.and_eq_true, sp_adj he, anyN_iff] at h'
    obtain ⟨⟨b, hb, h2⟩, h3⟩ := h'
    rw [Bool.and_eq_true] at h2
    exact h1 b e hb he (Gr_min X h0 h1 n b hb h2.1) h3 h2.2
theorem adj_sym : ∀ b, b < 36 → ∀ c, c < 36 → adj b c = adj c b := by decide +kernel
theorem Is_sub {O : Nat → Bool} {a b : Nat} (h : Is O a b = true) : ∀ e, e < 36 → Is O b e = true → Is O a e = true :=
  fun e he h2 => Gr_min (fun e => Is O a e = true) (fun _ _ => h) (fun b c hb hc hx hO hd => Is_step hb hc hx hO hd) 35 e he h2
theorem Is_sym {O : Nat → Bool} {a b : Nat} (ha : a < 36) (hb : b < 36) (h : Is O a b = true) : Is O b a = true := by
  have := Gr_min (O := O) (a := a) (fun e => O e = true ∧ Is O e a = true) (fun _ hO => ⟨hO, Is_self hO⟩) (fun b c hb hc hx hO hd => ⟨hO, by
    have h1 : Is O c b = true := Is_step hc hb (Is_self hO) hx.1 (by rw [adj_sym c hc b hb]; exact hd)
    exact Is_sub h1 a ha hx.2⟩) 35 b hb h
  exact this.2
theorem Is_eq {O : Nat → Bool} {a b : Nat} (ha : a < 36) (hb : b < 36) (h : Is O a b = true) {e : Nat} (he : e < 36) : Is O a e = Is O b e := by
  apply bool_ext
  exact ⟨fun h2 => Is_sub (Is_sym ha hb h) e he h2, fun h2 => Is_sub h e he h2⟩
theorem Is_none {O : Nat → Bool} {a : Nat} (h : O a = false) {e : Nat} (he : e < 36) : Is O a e = false := by
  cases q : Is O a e
  · rfl
  · exact (Gr_min (O := O) (a := a) (fun _ => False) (fun _ hO => by rw [h] at hO; cases hO) (fun _ _ _ _ hx _ _ => hx) 35 e he q).elim
/-- the largest of the first islands -/
def lgS (O : Nat → Bool) : Nat → Nat → Bool
  | 0 => fun _ => false
  | n + 1 => if cnt (Is O n) 36 ≤ cnt (lgS O n) 36 then lgS O n else Is O n
theorem lgS_ge {O : Nat → Bool} : ∀ {n i}, i < n → cnt (Is O i) 36 ≤ cnt (lgS O n) 36
  | 0, i, h => by omega
  | n + 1, i, h => by
    unfold lgS
    by_cases q : cnt (Is O n) 36 ≤ cnt (lgS O n) 36
    · rw [if_pos q]
      by_cases e : i = n
      · rw [e]; exact q
      · exact lgS_ge (by omega)
    · rw [if_neg q]
      by_cases e : i = n
      · rw [e]; exact Nat.le_refl _
      · have := lgS_ge (O := O) (n := n) (i := i) (by omega)
        omega
theorem lgS_eq {O P : Nat → Bool} (h : ∀ j, j < 36 → O j = P j) : ∀ n, n ≤ 36 → ∀ e, e < 36 → lgS O n e = lgS P n e
  | 0, _, _, _ => rfl
  | n + 1, hn, e, he => by
    have ih := lgS_eq h n (by omega)
    unfold lgS
    have c1 : cnt (Is O n) 36 = cnt (Is P n) 36 := cnt_eq 36 (fun j hj => Gr_eq h 35 j hj)
    have c2 : cnt (lgS O n) 36 = cnt (lgS P n) 36 := cnt_eq 36 ih
    rw [c1, c2]
    by_cases q : cnt (Is P n) 36 ≤ cnt (lgS P n) 36
    · rw [if_pos q, if_pos q]; exact ih e he
    · rw [if_neg q, if_neg q]; exact Gr_eq h 35 e he
/-- some island of the first n holds e -/
def sn (O : Nat → Bool) (n e : Nat) : Bool := anyN (fun i => Is O i e) n
theorem cnt36 {S : Nat → Bool} : cnt S 36 < 2 ^ 31 := by have := cnt_le (S := S) 36; omega
theorem largest_c {O : Nat → Bool} (σ : St) : mX7_largestIsland (bs O) σ = some (bs (lgS O 36), σ) := by
  unfold mX7_largestIsland
  rw [kl_e]
  have e0 : ∀ J : Int64 → Int64 → Int32 → St → Option (Int64 × St), J (bs O) 0 0 σ = J (bs (fun e => O e && !sn O 0 e)) (bs (lgS O 0)) (nI 0) σ := by
    intro J
    simp [sn, anyN, lgS, nI_0, bs_0]
  refine (e0 _).trans ?_
  refine lp_for (app := fun i (J : Int64 → Int64 → Int32 → St → Option (Int64 × St)) => J (bs (fun e => O e && !sn O i e)) (bs (lgS O i)) (nI i) σ) 36 _ ?_ ?_ 2000 (by omega)
  · intro i hi J
    unfold mX7_largestIsland_8 mX7_largestIsland_58
    rw [if_neg (lt36 hi)]
    simp only [has_c hi, cl2_e, kl_e, b2_c, islandOf_c hi, bs_not, bitCount_c, nI_1]
    rw [show Gr O (one i) 35 = Is O i from rfl]
    have hS : ∀ e, sn O (i + 1) e = (sn O i e || Is O i e) := fun e => rfl
    cases q : (O i && !sn O i i)
    · rw [if_neg (by decide)]
      have hle : cnt (Is O i) 36 ≤ cnt (lgS O i) 36 ∧ ∀ e, e < 36 → (O e && !sn O i e) = (O e && !sn O (i + 1) e) := by
        by_cases o : O i = true
        · rw [o, Bool.true_and, Bool.not_eq_false'] at q
          obtain ⟨j, hj, h⟩ := anyN_iff.1 q
          have hE : ∀ e, e < 36 → Is O j e = Is O i e := fun e he => Is_eq (by omega) hi h he
          refine ⟨?_, fun e he => ?_⟩
          · rw [← cnt_eq 36 hE]; exact lgS_ge hj
          · rw [hS]
            cases y : Is O i e
            · rw [Bool.or_false]
            · rw [show sn O i e = true from anyN_iff.2 ⟨j, hj, by rw [hE e he]; exact y⟩]; rfl
        · have o' : O i = false := Bool.eq_false_iff.2 o
          refine ⟨?_, fun e he => by rw [hS, Is_none o' he, Bool.or_false]⟩
          rw [cnt_eq (T := fun _ => false) 36 (fun e he => Is_none o' he)]
          exact Nat.zero_le _
      rw [bs_eq hle.2]
      show J _ (bs (lgS O i)) _ _ = J _ (bs (if cnt (Is O i) 36 ≤ cnt (lgS O i) 36 then lgS O i else Is O i)) _ _
      rw [if_pos hle.1]
    · rw [if_pos rfl]
      have hl : bs (fun j => (O j && !sn O i j) && !Is O i j) = bs (fun e => O e && !sn O (i + 1) e) := bs_eq (fun e _ => by
        rw [hS]; cases O e <;> cases sn O i e <;> cases Is O i e <;> rfl)
      rw [hl]
      show _ = J _ (bs (if cnt (Is O i) 36 ≤ cnt (lgS O i) 36 then lgS O i else Is O i)) _ _
      by_cases y : cnt (Is O i) 36 ≤ cnt (lgS O i) 36
      · rw [if_pos y, if_pos (nI_le y cnt36)]
      · rw [if_neg y, if_neg (nI_ge (by omega) cnt36)]
  · intro J
    unfold mX7_largestIsland_8
    rw [if_pos at36]
/-- after so many steps nothing more comes -/
def ge (O : Nat → Bool) (a : Nat) : Nat := fst (stl O (one a)) 36
theorem ge_lt (O : Nat → Bool) (a : Nat) : ge O a < 36 := by
  obtain ⟨n, hn, h1, _⟩ := Gr_still O (one a)
  have : stl O (one a) n = true := decide_eq_true (bs_eq h1)
  rcases Nat.lt_or_ge n (ge O a) with q | q
  · have h2 : stl O (one a) n = false := fst_no (p := stl O (one a)) (n := 36) q
    rw [h2] at this; cases this
  · exact Nat.lt_of_le_of_lt q hn
theorem ge_no {O : Nat → Bool} {a i : Nat} (h : i < ge O a) : stl O (one a) i = false := fst_no (p := stl O (one a)) (n := 36) h
theorem ge_yes (O : Nat → Bool) (a : Nat) : stl O (one a) (ge O a) = true := fst_yes (p := stl O (one a)) (n := 36) (ge_lt O a)
theorem stl_no {O S : Nat → Bool} {n : Nat} (h : stl O S n = false) : ¬ bs (Gr O S (n + 1)) = bs (Gr O S n) := by
  unfold stl at h
  exact of_decide_eq_false h
theorem stl_yes {O S : Nat → Bool} {n : Nat} (h : stl O S n = true) : bs (Gr O S (n + 1)) = bs (Gr O S n) := by
  unfold stl at h
  exact of_decide_eq_true h
theorem gs_step {O S : Nat → Bool} {i : Nat} (hi : i < 36) (J : Int64 → Int32 → St → Option (Int32 × St)) (σ : St) : mX7_greatestSteps_10 (bs O) J (bs S) (nI i) σ = if bs (nx O S) = bs S then some (nI i, σ) else J (bs (nx O S)) (nI (i + 1)) σ := by
  unfold mX7_greatestSteps_10
  rw [if_neg (lt36 hi), spread_c, cl2_e, kl_e, bs_and, nI_1, show (fun j => sp S j && O j) = nx O S from rfl]
  by_cases h : bs (nx O S) = bs S
  · rw [if_pos h, if_pos (by rw [lg_0]; exact h)]
  · rw [if_neg h, if_neg (by rw [lg_0]; exact h)]
theorem gs_go {O : Nat → Bool} {a g : Nat} (hl : g < 36) (hno : ∀ i, i < g → ¬ bs (Gr O (one a) (i + 1)) = bs (Gr O (one a) i)) (hyes : bs (Gr O (one a) (g + 1)) = bs (Gr O (one a) g)) (σ : St) : (lp (fun _ _ _ => none) (mX7_greatestSteps_10 (bs O)) 2000) (bs (Gr O (one a) 0)) (0 : Int32) σ = some (nI g, σ) := by
  refine lp_for (app := fun i (J : Int64 → Int32 → St → Option (Int32 × St)) => J (bs (Gr O (one a) i)) (nI i) σ) g _ ?_ ?_ 2000 (by omega)
  · intro i hi J
    show mX7_greatestSteps_10 (bs O) J (bs (Gr O (one a) i)) (nI i) σ = J (bs (Gr O (one a) (i + 1))) (nI (i + 1)) σ
    rw [gs_step (by omega)]
    exact if_neg (hno i hi)
  · intro J
    show mX7_greatestSteps_10 (bs O) J (bs (Gr O (one a) g)) (nI g) σ = _
    rw [gs_step hl]
    exact if_pos hyes
theorem greatest_c1 {O : Nat → Bool} {a g : Nat} (ha : a < 36) (hl : g < 36) (hno : ∀ i, i < g → ¬ bs (Gr O (one a) (i + 1)) = bs (Gr O (one a) i)) (hyes : bs (Gr O (one a) (g + 1)) = bs (Gr O (one a) g)) (σ : St) : mX7_greatestSteps (nI a) (bs O) σ = some (nI g, σ) := by
  unfold mX7_greatestSteps
  rw [bit_c ha, cl2_e, kl_e, kl_e, show (bs fun j => decide (j = a)) = bs (one a) from rfl, start_c]
  exact gs_go hl hno hyes σ
theorem greatest_c {O : Nat → Bool} {a : Nat} (ha : a < 36) (σ : St) : mX7_greatestSteps (nI a) (bs O) σ = some (nI (ge O a), σ) :=
  greatest_c1 ha (ge_lt O a) (fun i hi => stl_no (ge_no hi)) (stl_yes (ge_yes O a)) σ
/-- the farthest of the first i -/
def mxd (O : Nat → Bool) (a : Nat) : Nat → Nat
  | 0 => 0
  | i + 1 => if dst O a i < 36 ∧ mxd O a i < dst O a i then dst O a i else mxd O a i
theorem mxd_lt {O : Nat → Bool} {a : Nat} : ∀ i, mxd O a i < 36
  | 0 => by show 0 < 36; omega
  | i + 1 => by
    have := mxd_lt (O := O) (a := a) i
    unfold mxd
    by_cases q : dst O a i < 36 ∧ mxd O a i < dst O a i
    · rw [if_pos q]; exact q.1
    · rw [if_neg q]; exact this
theorem mxd_ge {O : Nat → Bool} {a e : Nat} (h2 : dst O a e < 36) : ∀ i, e < i → dst O a e ≤ mxd O a i := by
  generalize hD : dst O a e = D at h2
  intro i
  induction i with
  | zero => intro h; exact absurd h (Nat.not_lt_zero _)
  | succ i ih =>
    intro h
    unfold mxd
    by_cases q : dst O a i < 36 ∧ mxd O a i < dst O a i
    · rw [if_pos q]
      by_cases y : e = i
      · rw [← y, hD]; exact Nat.le_refl _
      · exact Nat.le_of_lt (Nat.lt_of_le_of_lt (ih (by omega)) q.2)
    · rw [if_neg q]
      by_cases y : e = i
      · rw [← y, hD] at q
        rw [← y]
        exact Nat.le_of_not_lt (fun z => q ⟨h2, z⟩)
      · exact ih (by omega)
theorem mxd_is {O : Nat → Bool} {a : Nat} : ∀ i, mxd O a i = 0 ∨ ∃ e, e < i ∧ dst O a e = mxd O a i
  | 0 => Or.inl rfl
  | i + 1 => by
    unfold mxd
    by_cases q : dst O a i < 36 ∧ mxd O a i < dst O a i
    · rw [if_pos q]; exact Or.inr ⟨i, by omega, rfl⟩
    · rw [if_neg q]
      rcases mxd_is (O := O) (a := a) i with y | ⟨e, h1, h2⟩
      · exact Or.inl y
      · exact Or.inr ⟨e, by omega, h2⟩
theorem mxd_ge36 {O : Nat → Bool} {a : Nat} : mxd O a 36 = ge O a := by
  have hl := ge_lt O a
  have hs : ∀ e, e < 36 → Gr O (one a) (ge O a + 1) e = Gr O (one a) (ge O a) e := bs_inj.1 (stl_yes (ge_yes O a))
  have up : ∀ e, e < 36 → dst O a e < 36 → dst O a e ≤ ge O a := by
    intro e he h
    have h1 := dst_yes h
    have h2 : Gr O (one a) (ge O a + (dst O a e)) e = true := by rw [Nat.add_comm]; exact Gr_mono h1 _
    rw [Gr_st hs _ e he] at h2
    rw [Gr_dst hl] at h2
    exact of_decide_eq_true h2
  apply Nat.le_antisymm
  · rcases mxd_is (O := O) (a := a) 36 with y | ⟨e, h1, h2⟩
    · omega
    · rw [← h2]; exact up e h1 (by rw [h2]; exact mxd_lt 36)
  · by_cases z : ge O a = 0
    · omega
    · obtain ⟨w, hw⟩ : ∃ w, ge O a = w + 1 := ⟨ge O a - 1, by omega⟩
      have hne : ¬ bs (Gr O (one a) (w + 1)) = bs (Gr O (one a) w) := stl_no (ge_no (by omega))
      rw [bs_inj] at hne
      have : ∃ e, e < 36 ∧ Gr O (one a) (w + 1) e ≠ Gr O (one a) w e := Classical.byContradiction (fun h => hne (fun e he => Classical.byContradiction (fun h2 => h ⟨e, he, h2⟩)))
      obtain ⟨e, he, h2⟩ := this
      rw [Gr_dst (by omega), Gr_dst (by omega)] at h2
      have h3 : dst O a e = w + 1 := by
        by_cases y1 : dst O a e ≤ w
        · rw [decide_eq_true y1, decide_eq_true (by omega)] at h2; exact absurd rfl h2
        · by_cases y2 : dst O a e ≤ w + 1
          · omega
          · rw [decide_eq_false y1, decide_eq_false y2] at h2; exact absurd rfl h2
      have := mxd_ge (O := O) (a := a) (e := e) (by omega) 36 he
      omega
/-- the best of the first i cells of S -/
def md (S : Nat → Bool) (g : Nat → Nat) : Nat → Option Nat
  | 0 => none
  | i + 1 => match md S g i with
    | none => if S i then some i else none
    | some b => if S i && decide (g i < g b) then some i else some b
theorem md_lt {S : Nat → Bool} {g : Nat → Nat} : ∀ {i b}, md S g i = some b → b < i
  | 0, b, h => by cases h
  | i + 1, b, h => by
    unfold md at h
    cases q : md S g i with
    | none =>
      rw [q] at h
      simp only at h
      by_cases y : S i = true
      · rw [if_pos y] at h; cases h; omega
      · rw [if_neg y] at h; cases h
    | some c =>
      have := md_lt q
      rw [q] at h
      simp only at h
      by_cases y : (S i && decide (g i < g c)) = true
      · rw [if_pos y] at h; cases h; omega
      · rw [if_neg y] at h; cases h; omega
theorem md_eq {S T : Nat → Bool} {g : Nat → Nat} : ∀ i, (∀ j, j < i → S j = T j) → md S g i = md T g i
  | 0, _ => rfl
  | i + 1, h => by
    unfold md
    rw [md_eq i (fun j hj => h j (by omega)), h i (by omega)]
def o36 (g : Nat → Nat) : Option Nat → Int32
  | none => 36
  | some b => nI (g b)
def o4 (g : Nat → Nat) : Option Nat → Int32
  | none => -4
  | some b => nI (g b)
theorem middleOf_c {O : Nat → Bool} (σ : St) : mX7_middleOf (bs O) σ = some (oi (md (lgS O 36) (ge O) 36), σ) := by
  unfold mX7_middleOf
  rw [largest_c, cl2_e, kl_e]
  refine lp_for (app := fun i (J : Int32 → Int32 → Int32 → St → Option (Int32 × St)) => J (oi (md (lgS O 36) (ge O) i)) (o36 (ge O) (md (lgS O 36) (ge O) i)) (nI i) σ) 36 _ ?_ ?_ 2000 (by omega)
  · intro i hi J
    unfold mX7_middleOf_16 mX7_middleOf_55
    rw [if_neg (lt36 hi)]
    simp only [has_c hi, cl2_e, kl_e, b2_c, greatest_c hi, nI_1]
    have hg : ∀ c, ge O c < 2 ^ 31 := fun c => by have := ge_lt O c; omega
    rw [show md (lgS O 36) (ge O) (i + 1) = (match md (lgS O 36) (ge O) i with | none => if lgS O 36 i then some i else none | some b => if lgS O 36 i && decide (ge O i < ge O b) then some i else some b) from rfl]
    cases q : lgS O 36 i
    · rw [if_neg (by decide)]
      cases md (lgS O 36) (ge O) i <;> rfl
    · rw [if_pos rfl]
      cases y : md (lgS O 36) (ge O) i with
      | none =>
        rw [if_neg (show ¬ o36 (ge O) none ≤ nI (ge O i) from lt36 (ge_lt O i))]
        rfl
      | some b =>
        simp only [Bool.true_and]
        by_cases z : ge O i < ge O b
        · rw [if_neg (show ¬ o36 (ge O) (some b) ≤ nI (ge O i) from nI_ge z (hg b)), decide_eq_true z]
          rfl
        · rw [if_pos (show o36 (ge O) (some b) ≤ nI (ge O i) from nI_le (by omega) (hg i)), decide_eq_false z]
          rfl
  · intro J
    unfold mX7_middleOf_16
    rw [if_pos at36]
theorem most_m {O : Nat → Bool} {a : Nat} {best least : Int32} {J : Int32 → Int32 → Int32 → St → Option (Int32 × St)} {s : St} (h : ∀ e, e < 36 → gA s 59 e = sv (dst O a e)) : (lp (fun _ _ _ => none) (mX11_middle_101 (mX11_middle_199 J) (nI a) least best) 2000) (0 : Int32) (0 : Int32) s = (if best < 0 then J (nI a) (nI (ge O a)) (nI (a + 1)) s else if least ≤ nI (ge O a) then J best least (nI (a + 1)) s else J (nI a) (nI (ge O a)) (nI (a + 1)) s) := by
  refine lp_for (app := fun i (J' : Int32 → Int32 → St → Option (Int32 × St)) => J' (nI (mxd O a i)) (nI i) s) 36 _ ?_ ?_ 2000 (by omega)
  · intro i hi J'
    unfold mX11_middle_101 mX11_middle_144 mX11_middle_142
    rw [if_neg (lt36 hi)]
    simp only [ldA_36 hi, kl_e, h i hi, sv_99 (dst_le _ _ _), nI_1]
    have hd := dst_le O a i
    have hm := mxd_lt (O := O) (a := a) i
    rw [show mxd O a (i + 1) = if dst O a i < 36 ∧ mxd O a i < dst O a i then dst O a i else mxd O a i from rfl]
    by_cases q : dst O a i = 36
    · rw [if_pos q, if_neg (by omega)]
    · rw [if_neg q]
      have hv : sv (dst O a i) = nI (dst O a i) := by unfold sv; rw [if_pos (by omega)]
      rw [hv]
      by_cases y : mxd O a i < dst O a i
      · rw [if_neg (nI_ge y (by omega)), if_pos ⟨by omega, y⟩]
      · rw [if_pos (nI_le (by omega) (by omega)), if_neg (by omega)]
  · intro J'
    unfold mX11_middle_101 mX11_middle_169 mX11_middle_164 mX11_middle_183 mX11_middle_197 mX11_middle_199
    rw [if_pos at36, mxd_ge36]
    simp only [kl_e, nI_1]
    simp only [if_neg n10, ite_true]
theorem mid_m {O : Nat → Bool} {S : Nat → Bool} {a1 : Int32} {σ : St} (hO : Om σ = O) : ∃ τ, (lp (fun _ _ _ _ => none) (mX11_middle_73 a1 (bs S)) 2000) (-4 : Int32) (-4 : Int32) (0 : Int32) σ = some (if a1 = 0 then oi (md S (ge O) 36) else o4 (ge O) (md S (ge O) 36), τ) ∧ core τ = core σ := by
  refine lp_rel (app := fun i (s : St) (J : Int32 → Int32 → Int32 → St → Option (Int32 × St)) => J (oi (md S (ge O) i)) (o4 (ge O) (md S (ge O) i)) (nI i) s) (P := fun _ s => core s = core σ) 36 (Q := fun r => ∃ τ, r = some (if a1 = 0 then oi (md S (ge O) 36) else o4 (ge O) (md S (ge O) 36), τ) ∧ core τ = core σ) ?_ ?_ 2000 (by omega) σ rfl
  · intro i s hi hc J
    show ∃ x', core x' = core σ ∧ mX11_middle_73 a1 (bs S) J (oi (md S (ge O) i)) (o4 (ge O) (md S (ge O) i)) (nI i) s = J (oi (md S (ge O) (i + 1))) (o4 (ge O) (md S (ge O) (i + 1))) (nI (i + 1)) x'
    obtain ⟨τ, h1, h2, h3⟩ := laySteps_m hi s
    rw [Om_core hc, hO] at h3
    have hg : ∀ c, ge O c < 2 ^ 31 := fun c => by have := ge_lt O c; omega
    unfold mX11_middle_73
    rw [if_neg (lt36 hi)]
    simp only [isOn_m hi, cl2_e, kl_e, b2_c, h1, cl1_e]
    rw [show md S (ge O) (i + 1) = (match md S (ge O) i with | none => if S i then some i else none | some b => if S i && decide (ge O i < ge O b) then some i else some b) from rfl]
    cases q : S i
    · rw [if_neg (by decide)]
      refine ⟨s, hc, ?_⟩
      unfold mX11_middle_199
      rw [nI_1]
      cases md S (ge O) i <;> rfl
    · rw [if_pos rfl, most_m h3]
      refine ⟨τ, by rw [h2, hc], ?_⟩
      cases y : md S (ge O) i with
      | none =>
        rw [if_pos (show oi none < 0 by decide)]
        rfl
      | some b =>
        have hb := md_lt y
        rw [if_neg (show ¬ oi (some b) < 0 from nI_pos (by omega))]
        simp only [Bool.true_and]
        by_cases z : ge O i < ge O b
        · rw [if_neg (show ¬ o4 (ge O) (some b) ≤ nI (ge O i) from nI_ge z (hg b)), decide_eq_true z]
          rfl
        · rw [if_pos (show o4 (ge O) (some b) ≤ nI (ge O i) from nI_le (by omega) (hg i)), decide_eq_false z]
          rfl
  · intro s hc J
    refine ⟨s, ?_, hc⟩
    show mX11_middle_73 a1 (bs S) J _ _ (nI 36) s = _
    unfold mX11_middle_73
    rw [if_pos at36]
    by_cases y : a1 = 0
    · rw [if_pos y, if_pos y]
    · rw [if_neg y, if_neg y]
theorem large_m {O : Nat → Bool} {a1 : Int32} {σ : St} (hO : Om σ = O) : ∃ τ, (lp (fun _ _ _ => none) (mX11_middle_22 a1) 2000) (0 : Int64) (0 : Int32) σ = (lp (fun _ _ _ _ => none) (mX11_middle_73 a1 (bs (lgS O 36))) 2000) (-4 : Int32) (-4 : Int32) (0 : Int32) τ ∧ core τ = core σ := by
  have e0 : ∀ J : Int64 → Int32 → St → Option (Int32 × St), J 0 0 σ = J (bs (lgS O 0)) (nI 0) σ := by
    intro J
    simp [lgS, nI_0, bs_0]
  rw [e0 (lp (fun _ _ _ => none) (mX11_middle_22 a1) 2000)]
  refine lp_rel (app := fun i (s : St) (J : Int64 → Int32 → St → Option (Int32 × St)) => J (bs (lgS O i)) (nI i) s) (P := fun _ s => core s = core σ) 36 (Q := fun r => ∃ τ, r = (lp (fun _ _ _ _ => none) (mX11_middle_73 a1 (bs (lgS O 36))) 2000) (-4 : Int32) (-4 : Int32) (0 : Int32) τ ∧ core τ = core σ) ?_ ?_ 2000 (by omega) σ rfl
  · intro i s hi hc J
    show ∃ x', core x' = core σ ∧ mX11_middle_22 a1 J (bs (lgS O i)) (nI i) s = J (bs (lgS O (i + 1))) (nI (i + 1)) x'
    obtain ⟨τ, h1, h2, _⟩ := partWith_m hi s
    rw [Om_core hc, hO] at h1
    unfold mX11_middle_22 mX11_middle_55
    rw [if_neg (lt36 hi), h1]
    simp only [cl2_e, onesOf_m, kl_e, nI_1]
    refine ⟨τ, by rw [h2, hc], ?_⟩
    rw [show Gr O (one i) 35 = Is O i from rfl]
    show _ = J (bs (if cnt (Is O i) 36 ≤ cnt (lgS O i) 36 then lgS O i else Is O i)) _ _
    by_cases y : cnt (Is O i) 36 ≤ cnt (lgS O i) 36
    · rw [if_pos y, if_pos (nI_le y cnt36)]
    · rw [if_neg y, if_neg (nI_ge (by omega) cnt36)]
  · intro s hc J
    refine ⟨s, ?_, hc⟩
    show mX11_middle_22 a1 J _ (nI 36) s = _
    unfold mX11_middle_22
    rw [if_pos at36, kl_e]
theorem ge_eq {O P : Nat → Bool} (h : ∀ j, j < 36 → O j = P j) (a : Nat) : ge O a = ge P a := fst_eq 36 (fun n _ => by
  unfold stl
  rw [bs_eq (fun e he => Gr_eq h (n + 1) e he), bs_eq (fun e he => Gr_eq (S := one a) h n e he)])
theorem s_middle : stp132 Inv mX10_middle mX11_middle := by
  intro σ a hI
  have j1 : ∀ τ, mX11_in a.toInt64 (0 : Int64) (1 : Int64) τ = some (b2 (inR a 0 1), τ) := fun τ => in_m a 0 1 τ
  cases h : inR a 0 1
  · refine ag (f := mX10_middle a) (g := mX11_middle a) (v := -1) (ρ := σ) (τ := pI σ 45 16 0) ?_ ?_ c16 hI
    · unfold mX10_middle
      simp only [either_c, h, b2_f, cl2_e, ite_true]
    · unfold mX11_middle
      simp only [j1, h, b2_f, cl2_e, kl_e, ite_true]
  obtain ⟨ρ, r1, r2⟩ := large_m (a1 := a) (σ := pI σ 45 16 0) rfl
  obtain ⟨τ, t1, t2⟩ := mid_m (a1 := a) (S := lgS (Om (pI σ 45 16 0)) 36) (σ := ρ) (O := Om (pI σ 45 16 0)) (by rw [Om_core r2])
  have hO : ∀ j, j < 36 → Om (pI σ 45 16 0) j = Op (ld σ 1) j := fun j hj => by rw [Om_core c16, Inv_Om hI hj]
  have hM : md (lgS (Om (pI σ 45 16 0)) 36) (ge (Om (pI σ 45 16 0))) 36 = md (lgS (Op (ld σ 1)) 36) (ge (Op (ld σ 1))) 36 := by
    rw [funext (ge_eq hO)]
    exact md_eq 36 (fun j hj => lgS_eq hO 36 (by omega) j hj)
  refine ag (f := mX10_middle a) (g := mX11_middle a) (v := if a = 0 then oi (md (lgS (Op (ld σ 1)) 36) (ge (Op (ld σ 1))) 36) else o4 (ge (Op (ld σ 1))) (md (lgS (Op (ld σ 1)) 36) (ge (Op (ld σ 1))) 36)) (ρ := σ) (τ := τ) ?_ ?_ (by rw [t2, r2, c16]) hI
  · unfold mX10_middle mX10_middle_34
    simp only [either_c, h, b2_t, if_neg n10, cl2_e, openCells_c, middleOf_c, kl_e]
    by_cases z : a = 0
    · rw [if_pos z, if_pos z]
    · rw [if_neg z, if_neg z]
      cases y : md (lgS (Op (ld σ 1)) 36) (ge (Op (ld σ 1))) 36 with
      | none => rw [if_pos (show oi none = -4 from rfl)]; rfl
      | some b =>
        have hb := md_lt y
        rw [if_neg (show ¬ oi (some b) = -4 from nI_n4 b hb)]
        simp only [oi, greatest_c hb, cl2_e, o4]
  · unfold mX11_middle
    simp only [j1, h, b2_t, if_neg n10, cl2_e, kl_e, r1, t1]
    rw [hM, funext (ge_eq hO)]
