/-! ===== PURE: frames; lays, go ===== -/
/-- nothing but p, q, r may differ -/
def Fx (p : Nat → Nat → Prop) (q r : Nat → Prop) (σ τ : St) : Prop := (∀ o k, p o k ∨ gI τ o k = gI σ o k) ∧ (∀ a i, q a ∨ gA τ a i = gA σ a i) ∧ (∀ a i, r a ∨ gL τ a i = gL σ a i)
theorem Fx_rfl {p : Nat → Nat → Prop} {q r : Nat → Prop} {σ : St} : Fx p q r σ σ := ⟨fun _ _ => Or.inr rfl, fun _ _ => Or.inr rfl, fun _ _ => Or.inr rfl⟩
theorem Fx_tr {p : Nat → Nat → Prop} {q r : Nat → Prop} {σ τ ρ : St} (h : Fx p q r σ τ) (g : Fx p q r τ ρ) : Fx p q r σ ρ := by
  refine ⟨fun o k => ?_, fun a i => ?_, fun a i => ?_⟩
  · rcases g.1 o k with e | e
    · exact Or.inl e
    · rw [e]; exact h.1 o k
  · rcases g.2.1 a i with e | e
    · exact Or.inl e
    · rw [e]; exact h.2.1 a i
  · rcases g.2.2 a i with e | e
    · exact Or.inl e
    · rw [e]; exact h.2.2 a i
theorem Fx_mono {p p' : Nat → Nat → Prop} {q q' r r' : Nat → Prop} {σ τ : St} (hp : ∀ o k, p o k → p' o k) (hq : ∀ a, q a → q' a) (hr : ∀ a, r a → r' a) (h : Fx p q r σ τ) : Fx p' q' r' σ τ :=
  ⟨fun o k => (h.1 o k).imp (hp o k) id, fun a i => (h.2.1 a i).imp (hq a) id, fun a i => (h.2.2 a i).imp (hr a) id⟩
theorem Fx_pI {p : Nat → Nat → Prop} {q r : Nat → Prop} {σ τ : St} {o k : Nat} {v : Int32} (e : p o k) (h : Fx p q r σ τ) : Fx p q r σ (pI τ o k v) := by
  refine ⟨fun o' k' => ?_, h.2.1, h.2.2⟩
  rw [gI_pI]
  by_cases q : o' = o ∧ k' = k
  · obtain ⟨rfl, rfl⟩ := q; exact Or.inl e
  · rw [if_neg q]; exact h.1 o' k'
theorem Fx_pA {p : Nat → Nat → Prop} {q r : Nat → Prop} {σ τ : St} {a i : Nat} {v : Int32} (e : q a) (h : Fx p q r σ τ) : Fx p q r σ (pA τ a i v) := by
  refine ⟨h.1, fun a' i' => ?_, h.2.2⟩
  rw [gA_pA]
  by_cases c : a' = a ∧ i' = i
  · obtain ⟨rfl, rfl⟩ := c; exact Or.inl e
  · rw [if_neg c]; exact h.2.1 a' i'
theorem Fx_pL {p : Nat → Nat → Prop} {q r : Nat → Prop} {σ τ : St} {a i : Nat} {v : Int64} (e : r a) (h : Fx p q r σ τ) : Fx p q r σ (pL τ a i v) := by
  refine ⟨h.1, h.2.1, fun a' i' => ?_⟩
  rw [gL_pL]
  by_cases c : a' = a ∧ i' = i
  · obtain ⟨rfl, rfl⟩ := c; exact Or.inl e
  · rw [if_neg c]; exact h.2.2 a' i'
theorem Fx_sL {p : Nat → Nat → Prop} {q r : Nat → Prop} {σ τ : St} {a : Nat} {f : Nat → Int64} (e : r a) (h : Fx p q r σ τ) : Fx p q r σ (sL τ a f) := by
  refine ⟨h.1, h.2.1, fun a' i' => ?_⟩
  rw [gL_sL]
  by_cases c : a' = a
  · subst c; exact Or.inl e
  · rw [if_neg c]; exact h.2.2 a' i'
theorem Fx_pK {p : Nat → Nat → Prop} {q r : Nat → Prop} {σ τ : St} {n : Nat} (h : Fx p q r σ τ) : Fx p q r σ (pK τ n) := h
theorem Fx_I {p : Nat → Nat → Prop} {q r : Nat → Prop} {σ τ : St} (h : Fx p q r σ τ) {o k : Nat} (e : ¬ p o k) : gI τ o k = gI σ o k := (h.1 o k).resolve_left e
theorem Fx_A {p : Nat → Nat → Prop} {q r : Nat → Prop} {σ τ : St} (h : Fx p q r σ τ) {a i : Nat} (e : ¬ q a) : gA τ a i = gA σ a i := (h.2.1 a i).resolve_left e
theorem Fx_L {p : Nat → Nat → Prop} {q r : Nat → Prop} {σ τ : St} (h : Fx p q r σ τ) {a i : Nat} (e : ¬ r a) : gL τ a i = gL σ a i := (h.2.2 a i).resolve_left e
theorem core_Fx {p : Nat → Nat → Prop} {q r : Nat → Prop} {σ τ : St} (hp : ∀ o k, p o k → keI o k = false) (hq : ∀ a, q a → keA a = false) (hr : ∀ a, r a → keL a = false) (h : Fx p q r σ τ) : core τ = core σ := by
  unfold core
  refine Prod.ext (funext fun o => funext fun k => ?_) (Prod.ext (funext fun a => funext fun i => ?_) (funext fun a => funext fun i => ?_))
  · show (if keI o k then gI τ o k else 0) = if keI o k then gI σ o k else 0
    rcases h.1 o k with e | e
    · rw [hp o k e]; rfl
    · rw [e]
  · show (if keA a then gA τ a i else 0) = if keA a then gA σ a i else 0
    rcases h.2.1 a i with e | e
    · rw [hq a e]; rfl
    · rw [e]
  · show (if keL a then gL τ a i else 0) = if keL a then gL σ a i else 0
    rcases h.2.2 a i with e | e
    · rw [hr a e]; rfl
    · rw [e]
theorem Rs_Fx {p : Nat → Nat → Prop} {q r : Nat → Prop} {σ τ : St} (hp : ∀ o k, p o k → rsI o k = false) (hq : ∀ a, q a → rsA a = false) (hr : ∀ a, r a → keL a = false) (h : Fx p q r σ τ) : Rs σ τ := by
  refine ⟨fun o k e => ?_, fun a i e => ?_, fun a i e => ?_⟩
  · exact (h.1 o k).resolve_left (fun c => by rw [hp o k c] at e; cases e)
  · exact (h.2.1 a i).resolve_left (fun c => by rw [hq a c] at e; cases e)
  · exact (h.2.2 a i).resolve_left (fun c => by rw [hr a c] at e; cases e)
theorem Rs_tr {σ τ ρ : St} (h : Rs σ τ) (g : Rs τ ρ) : Rs σ ρ := ⟨fun o k e => by rw [g.1 o k e, h.1 o k e], fun a i e => by rw [g.2.1 a i e, h.2.1 a i e], fun a i e => by rw [g.2.2 a i e, h.2.2 a i e]⟩
/-- land o of the class, and nothing else -/
abbrev Fo (o : Nat) (σ τ : St) : Prop := Fx (fun o' k => o' = o ∧ 2 ≤ k ∧ k < 10) (fun a => a = o + 3 ∨ a = o + 6) (fun _ => False) σ τ
/-- the land of the reference, and thrown -/
abbrev Fm (σ τ : St) : Prop := Fx (fun o' k => o' = 45 ∧ ((2 ≤ k ∧ k < 10) ∨ k = 16)) (fun a => a = 46 ∨ a = 47) (fun _ => False) σ τ
theorem Rs_Fo {σ τ : St} (h : Fo 1 σ τ) : Rs σ τ := Rs_Fx (fun o k e => by obtain ⟨rfl, _⟩ := e; rfl) (fun a e => by rcases e with rfl | rfl <;> rfl) (fun a e => e.elim) h
theorem Rs_Fm {σ τ : St} (h : Fm σ τ) : Rs σ τ := Rs_Fx (fun o k e => by
  obtain ⟨rfl, e⟩ := e
  unfold rsI
  rw [decide_eq_false (show ¬ k = 17 by omega), decide_eq_false (show ¬ k = 27 by omega)]
  rfl) (fun a e => by rcases e with rfl | rfl <;> rfl) (fun a e => e.elim) h
theorem core_Fo3 {σ τ : St} (h : Fo 3 σ τ) : core τ = core σ := core_Fx (fun o k e => by obtain ⟨rfl, _⟩ := e; rfl) (fun a e => by rcases e with rfl | rfl <;> rfl) (fun a e => e.elim) h
theorem ld_Fo {o o' : Nat} {σ τ : St} (h : Fo o σ τ) (h1 : o ≠ o') (h2 : o < 4) (h3 : 0 < o) (h4 : 0 < o') (h5 : o' < 4) : ld τ o' = ld σ o' := by
  unfold ld
  refine Prod.ext (funext fun c => ?_) (Prod.ext (funext fun c => ?_) (funext fun k => ?_))
  · show (if c < 36 then gA τ (o' + 3) c else 0) = if c < 36 then gA σ (o' + 3) c else 0
    rw [Fx_A h (by omega)]
  · show (if c < 36 then gA τ (o' + 6) c else 0) = if c < 36 then gA σ (o' + 6) c else 0
    rw [Fx_A h (by omega)]
  · show (if 2 ≤ k ∧ k < 10 then gI τ o' k else 0) = if 2 ≤ k ∧ k < 10 then gI σ o' k else 0
    rw [Fx_I h (by omega)]
theorem lm_Fo {o : Nat} {σ τ : St} (h : Fo o σ τ) (h2 : o < 4) : lm τ = lm σ := by
  unfold lm
  refine Prod.ext (funext fun c => ?_) (Prod.ext (funext fun c => ?_) (funext fun k => ?_))
  · show (if c < 36 then gA τ 46 c else 0) = if c < 36 then gA σ 46 c else 0
    rw [Fx_A h (by omega)]
  · show (if c < 36 then gA τ 47 c else 0) = if c < 36 then gA σ 47 c else 0
    rw [Fx_A h (by omega)]
  · show (if 2 ≤ k ∧ k < 10 then gI τ 45 k else 0) = if 2 ≤ k ∧ k < 10 then gI σ 45 k else 0
    rw [Fx_I h (by omega)]
theorem ld_Fm {o : Nat} {σ τ : St} (h : Fm σ τ) (h2 : o < 4) : ld τ o = ld σ o := by
  unfold ld
  refine Prod.ext (funext fun c => ?_) (Prod.ext (funext fun c => ?_) (funext fun k => ?_))
  · show (if c < 36 then gA τ (o + 3) c else 0) = if c < 36 then gA σ (o + 3) c else 0
    rw [Fx_A h (by omega)]
  · show (if c < 36 then gA τ (o + 6) c else 0) = if c < 36 then gA σ (o + 6) c else 0
    rw [Fx_A h (by omega)]
  · show (if 2 ≤ k ∧ k < 10 then gI τ o k else 0) = if 2 ≤ k ∧ k < 10 then gI σ o k else 0
    rw [Fx_I h (by omega)]
/-- the land with one ground changed -/
def upk (L : Ld) (c : Nat) (k f : Int32) : Ld := (fun j => if j = c then k else L.1 j, fun j => if j = c then f else L.2.1 j, L.2.2)
theorem ld_lay {o c : Nat} {σ : St} {k f : Int32} (hc : c < 36) : ld (pA (pA σ (o + 3) c k) (o + 6) c f) o = upk (ld σ o) c k f := by
  unfold ld upk
  refine Prod.ext (funext fun j => ?_) (Prod.ext (funext fun j => ?_) rfl)
  · show (if j < 36 then gA (pA (pA σ (o + 3) c k) (o + 6) c f) (o + 3) j else 0) = if j = c then k else if j < 36 then gA σ (o + 3) j else 0
    rw [gA_pA_ne (by omega), gA_pA]
    by_cases e : j = c
    · subst e; simp [hc]
    · simp [e]
  · show (if j < 36 then gA (pA (pA σ (o + 3) c k) (o + 6) c f) (o + 6) j else 0) = if j = c then f else if j < 36 then gA σ (o + 6) j else 0
    rw [gA_pA, gA_pA_ne (by omega)]
    by_cases e : j = c
    · subst e; simp [hc]
    · simp [e]
theorem lm_lay {c : Nat} {σ : St} {k f : Int32} (hc : c < 36) : lm (pA (pA σ 46 c k) 47 c f) = upk (lm σ) c k f := by
  unfold lm upk
  refine Prod.ext (funext fun j => ?_) (Prod.ext (funext fun j => ?_) rfl)
  · show (if j < 36 then gA (pA (pA σ 46 c k) 47 c f) 46 j else 0) = if j = c then k else if j < 36 then gA σ 46 j else 0
    rw [gA_pA_ne (by omega), gA_pA]
    by_cases e : j = c
    · subst e; simp [hc]
    · simp [e]
  · show (if j < 36 then gA (pA (pA σ 46 c k) 47 c f) 47 j else 0) = if j = c then f else if j < 36 then gA σ 47 j else 0
    rw [gA_pA, gA_pA_ne (by omega)]
    by_cases e : j = c
    · subst e; simp [hc]
    · simp [e]
theorem Ldok_upk {L : Ld} {c k f : Nat} (h : Ldok L) (hk : k < 8) (hf : f < 10) : Ldok (upk L c (nI k) (nI f)) := by
  refine ⟨fun j hj => ?_, h.2⟩
  by_cases e : j = c
  · exact ⟨k, f, hk, hf, by show (if j = c then nI k else L.1 j) = nI k; rw [if_pos e], by show (if j = c then nI f else L.2.1 j) = nI f; rw [if_pos e]⟩
  · obtain ⟨k', f', h1, h2, h3, h4⟩ := h.1 j hj
    exact ⟨k', f', h1, h2, by show (if j = c then nI k else L.1 j) = nI k'; rw [if_neg e]; exact h3, by show (if j = c then nI f else L.2.1 j) = nI f'; rw [if_neg e]; exact h4⟩
theorem layAt_c {o c : Nat} {k f : Int32} (hc : c < 36) (σ : St) : mX3_layAt o (nI c) k f σ = some (pA (pA σ (o + 3) c k) (o + 6) c f) := by
  unfold mX3_layAt
  simp only [cell_c hc, cl2_e, if_neg n10, stA_36 hc]
theorem wrongKept_g {d : Nat} (h : d < 8) {τ : St} {v : Int32} (e : gA τ 48 d = v) : mX11_wrongKept (nI d) τ = some (if v = 0 then -11 else if v = 1 then 0 else -12, τ) := by
  unfold mX11_wrongKept
  have : inR (nI d) 0 7 = true := (inR_n (n := 7) (by omega)).2 ⟨d, h, rfl⟩
  simp only [in7_m, this, b2_t, cl2_e, if_neg n10, ldA_8 h, e]
  repeat' split
  all_goals first | rfl | simp_all
theorem lm_16 {σ : St} {v : Int32} : lm (pI σ 45 16 v) = lm σ := lm_pI_ne (by omega)
theorem s_lays : stp232 Inv mX10_lays mX11_lays := by
  intro σ a b hI
  rcases cell_or b with hb | ⟨b, hb, rfl⟩
  · refine ag (f := mX10_lays a b) (g := mX11_lays a b) (v := -1) (ρ := σ) (τ := pI σ 45 16 0) ?_ ?_ c16 hI
    · unfold mX10_lays mX10_lays_17
      simp only [ncell_c hb, cl2_e, kl_e, ite_true]
      rw [if_neg (by decide)]
    · unfold mX11_lays mX11_lays_22
      simp only [ncell_m hb, cl2_e, kl_e, ite_true]
      rw [if_neg (by decide)]
  rcases shelf_or a with h | ⟨d, hd, rfl, _⟩
  · refine ag (f := mX10_lays a (nI b)) (g := mX11_lays a (nI b)) (v := -1) (ρ := σ) (τ := pI σ 45 16 0) ?_ ?_ c16 hI
    · unfold mX10_lays mX10_lays_17 mX10_refusalOfGround
      simp only [cell_c hb, cl2_e, kl_e, if_neg n10, unless_n h]
      rw [if_neg (by decide)]
    · unfold mX11_lays mX11_lays_22
      simp only [cell_m hb, cl2_e, kl_e, if_neg n10, wrongKept_n h]
      rw [if_neg (by decide)]
  have hs := hI.2.2.2.2 d hd
  by_cases q : rfs σ d 1 = 0
  · have q' := q
    rw [rfs_0] at q'
    obtain ⟨h0, hh⟩ := hs
    rcases hh with hh | ⟨hh, k, f, hk, hf, e1, e2, e3, e4⟩ | ⟨hh, _⟩
    · exact absurd hh q'.1
    · have g0 : gA σ 48 d = 1 := by rw [← h0, hh]
      refine ⟨lk (ld σ 1) b, pA (pA σ 4 b (nI k)) 7 b (nI f), pA (pA (pI (pA (pA σ 4 b (nI k)) 7 b (nI f)) 45 16 0) 46 b (nI k)) 47 b (nI f), ?_, ?_, ?_⟩
      · unfold mX10_lays mX10_lays_17 mX10_refusalOfGround
        simp only [cell_c hb, cl2_e, kl_e, if_neg n10, unless_c hd, q, ite_true, kindAt_c hb, shelfAt_c hd, e1, e3, layAt_c hb, cl1_e]
      · have w : ∀ {τ : St}, τ = pI (pA (pA σ 4 b (nI k)) 7 b (nI f)) 45 16 0 → mX11_wrongKept (nI d) τ = some (0, τ) := by
          intro τ e
          rw [wrongKept_g hd (v := 1) (by rw [e]; exact g0)]
          rfl
        have g1 : ∀ j, gA (pI (pA (pA σ 4 b (nI k)) 7 b (nI f)) 45 16 0) 46 j = gA σ 46 j := fun j => by rw [gA_pI, gA_pA_ne (by omega), gA_pA_ne (by omega)]
        unfold mX11_lays mX11_lays_22
        simp only [cell_m hb, cl2_e, kl_e, if_neg n10, w rfl, ldA_36 hb, ldA_8 hd, stA_36 hb, g1]
        rw [if_pos (by decide), gA_pA_ne (by omega), gA_pI, gA_pA_ne (by omega), gA_pA_ne (by omega), gA_pI, gA_pA_ne (by omega), gA_pA_ne (by omega), e2, e4, lm_k hb, hI.1]
      · have F : Fo 1 σ (pA (pA σ 4 b (nI k)) 7 b (nI f)) := Fx_pA (Or.inr rfl) (Fx_pA (Or.inl rfl) Fx_rfl)
        have M : Fm (pA (pA σ 4 b (nI k)) 7 b (nI f)) (pA (pA (pI (pA (pA σ 4 b (nI k)) 7 b (nI f)) 45 16 0) 46 b (nI k)) 47 b (nI f)) := Fx_pA (Or.inr rfl) (Fx_pA (Or.inl rfl) (Fx_pI ⟨rfl, Or.inr rfl⟩ Fx_rfl))
        have l1 : ld (pA (pA (pI (pA (pA σ 4 b (nI k)) 7 b (nI f)) 45 16 0) 46 b (nI k)) 47 b (nI f)) 1 = upk (ld σ 1) b (nI k) (nI f) := by
          rw [ld_Fm M (by omega)]
          exact ld_lay (o := 1) hb
        refine Inv_land hI (Rs_tr (Rs_Fo F) (Rs_Fm M)) ?_ ?_
        · rw [l1, lm_lay hb, lm_16, lm_Fo F (by omega), hI.1]
        · rw [l1]; exact Ldok_upk hI.2.1 hk hf
    · rw [q'.2] at hh; exact absurd hh (by decide)
  · refine ag (f := mX10_lays (nI d) (nI b)) (g := mX11_lays (nI d) (nI b)) (v := rfs σ d 1) (ρ := σ) (τ := pI σ 45 16 0) ?_ ?_ c16 hI
    · unfold mX10_lays mX10_lays_17 mX10_refusalOfGround
      simp only [cell_c hb, cl2_e, kl_e, if_neg n10, unless_c hd, if_neg q]
    · unfold mX11_lays mX11_lays_22
      simp only [cell_m hb, cl2_e, kl_e, if_neg n10, wrongKept_m hd hs c16, rfs_ge, if_neg q]
/-! go -/
/-- where one stands -/
def stN (v : Int32) : Option Nat := if v < 0 then none else some v.toNatClampNeg
theorem stN_none : stN (-4) = none := by decide
theorem stN_nI {c : Nat} (h : c < 36) : stN (nI c) = some c := by
  unfold stN
  rw [if_neg (nI_pos (by omega)), nI_clamp (by omega)]
/-- the land behind a day -/
def gdL (L : Ld) (a b : Nat) : Ld := (L.1, L.2.1, fun j => if j = 5 then nI a else if j = 6 then nI b else if j = 7 then L.2.2 7 + 1 else if j = 8 then L.2.2 8 + (if Fr L a b < ls L 3 then 1 else 0) else if j = 9 then L.2.2 9 + (if ls L 4 < Fr L a b then 1 else 0) else L.2.2 j)
/-- the land behind a day by two ways, if it can be gone -/
def goF (L : Ld) (i j : Nat) : Option (Nat × Nat) := match stN (ls L 5), stN (ls L 6) with
  | some p, some q => match gone (Op L) p i, gone (Op L) q j with
    | some p', some q' => if ls L 7 < 999 then some (p', q') else none
    | _, _ => none
  | _, _ => none
theorem gone_eq {O P : Nat → Bool} (h : ∀ j, j < 36 → O j = P j) {c d : Nat} (hc : c < 36) (hd : d < 5) : gone O c d = gone P c d := by
  unfold gone
  by_cases h0 : d = 0
  · rw [if_pos h0, if_pos h0]
  · rw [if_neg h0, if_neg h0]
    cases hn : nbo c d with
    | none => rfl
    | some e => simp only [h e (nbo_lt' hc hd hn)]
theorem cellTo_n {a d : Int32} (h : inR a 0 35 = false) (σ : St) : mX7_cellTo a d σ = some (-4, σ) := by
  unfold mX7_cellTo
  simp only [ncell_c h, cl2_e, ite_true]
theorem n4 : inR (-4) 0 35 = false := by decide
theorem cellBy_n {o : Nat} {d : Int32} (σ : St) : mX3_cellBy o (-4) d σ = some (-4, σ) := by
  unfold mX3_cellBy mX3_cellBy_18
  simp only [cellTo_n n4, cl2_e, kl_e, isOpen_n n4]
  repeat' split
  all_goals rfl
theorem nI_n4 : ∀ c, c < 36 → ¬ nI c = -4 := by decide +kernel
theorem goF_lt {L : Ld} (hL : Ldok L) {i j p q : Nat} (hi : i < 5) (hj : j < 5) (h : goF L i j = some (p, q)) : p < 36 ∧ q < 36 := by
  unfold goF at h
  rcases hL.2.2.2.2.1 with e1 | ⟨a, ha, e1⟩
  · rw [e1, stN_none] at h; cases h
  · rcases hL.2.2.2.2.2.1 with e2 | ⟨b, hb, e2⟩
    · rw [e1, e2, stN_none, stN_nI ha] at h; cases h
    · rw [e1, e2, stN_nI ha, stN_nI hb] at h
      simp only at h
      cases g1 : gone (Op L) a i with
      | none => rw [g1] at h; cases h
      | some p' =>
        cases g2 : gone (Op L) b j with
        | none => rw [g1, g2] at h; cases h
        | some q' =>
          rw [g1, g2] at h
          simp only at h
          by_cases c : ls L 7 < 999
          · rw [if_pos c] at h
            cases h
            exact ⟨gone_lt ha hi g1, gone_lt hb hj g2⟩
          · rw [if_neg c] at h; cases h
theorem Fr_up {L : Ld} {k : Nat} {v : Int32} {a b : Nat} : Fr (up L k v) a b = Fr L a b := rfl
/-- the end of a day, of the class -/
def edL (L : Ld) (a b : Nat) : Ld := (L.1, L.2.1, fun j => if j = 5 then nI a else if j = 6 then nI b else if j = 8 then ls L 8 + (if Fr L a b < ls L 3 then 1 else 0) else if j = 9 then ls L 9 + (if ls L 4 < Fr L a b then 1 else 0) else ls L j)
theorem endDay_c {o a b : Nat} (ha : a < 36) (hb : b < 36) (σ : St) : ∃ τ, mX3_endDay o (nI a) (nI b) σ = some τ ∧ ld τ o = edL (ld σ o) a b ∧ Fo o σ τ := by
  have f2 : ld (pI (pI σ o 5 (nI a)) o 6 (nI b)) o = up (up (ld σ o) 5 (nI a)) 6 (nI b) := by rw [ld_pI (by omega), ld_pI (by omega)]
  have F2 : Fo o σ (pI (pI σ o 5 (nI a)) o 6 (nI b)) := Fx_pI ⟨rfl, by omega⟩ (Fx_pI ⟨rfl, by omega⟩ Fx_rfl)
  have e5 : gI (pI (pI σ o 5 (nI a)) o 6 (nI b)) o 5 = nI a := by rw [gI_pI, if_neg (by omega), gI_pI, if_pos ⟨rfl, rfl⟩]
  have e6 : gI (pI (pI σ o 5 (nI a)) o 6 (nI b)) o 6 = nI b := by rw [gI_pI, if_pos ⟨rfl, rfl⟩]
  have e3 : gI (pI (pI σ o 5 (nI a)) o 6 (nI b)) o 3 = ls (ld σ o) 3 := by rw [gI_pI, if_neg (by omega), gI_pI, if_neg (by omega), ld_s (by omega)]
  have e4 : gI (pI (pI σ o 5 (nI a)) o 6 (nI b)) o 4 = ls (ld σ o) 4 := by rw [gI_pI, if_neg (by omega), gI_pI, if_neg (by omega), ld_s (by omega)]
  have e8 : gI (pI (pI σ o 5 (nI a)) o 6 (nI b)) o 8 = ls (ld σ o) 8 := by rw [gI_pI, if_neg (by omega), gI_pI, if_neg (by omega), ld_s (by omega)]
  have e9 : gI (pI (pI σ o 5 (nI a)) o 6 (nI b)) o 9 = ls (ld σ o) 9 := by rw [gI_pI, if_neg (by omega), gI_pI, if_neg (by omega), ld_s (by omega)]
  unfold mX3_endDay mX3_endDay_41
  simp only [kl_e, e5, e6, far_c ha hb, cl2_e, f2, Fr_up, e3, e4, e8, e9]
  generalize hS : pI (pI σ o 5 (nI a)) o 6 (nI b) = S at *
  by_cases c1 : Fr (ld σ o) a b < ls (ld σ o) 3
  · rw [if_neg (Int32.not_le.2 c1)]
    have x4 : gI (pI S o 8 (ls (ld σ o) 8 + 1)) o 4 = ls (ld σ o) 4 := by rw [gI_pI, if_neg (by omega), e4]
    have x9 : gI (pI S o 8 (ls (ld σ o) 8 + 1)) o 9 = ls (ld σ o) 9 := by rw [gI_pI, if_neg (by omega), e9]
    rw [x4, x9]
    by_cases c2 : ls (ld σ o) 4 < Fr (ld σ o) a b
    · rw [if_neg (Int32.not_le.2 c2)]
      refine ⟨_, rfl, ?_, Fx_pI ⟨rfl, by omega⟩ (Fx_pI ⟨rfl, by omega⟩ F2)⟩
      rw [ld_pI (by omega), ld_pI (by omega), f2]
      unfold edL
      rw [if_pos c1, if_pos c2]
      clear c1 c2
      refine Prod.ext rfl (Prod.ext rfl (funext fun j => ?_))
      simp only [up, ls]
      by_cases j5 : j = 5 <;> by_cases j6 : j = 6 <;> by_cases j8 : j = 8 <;> by_cases j9 : j = 9 <;> simp_all
    · rw [if_pos (Int32.not_lt.1 c2)]
      refine ⟨_, rfl, ?_, Fx_pI ⟨rfl, by omega⟩ F2⟩
      rw [ld_pI (by omega), f2]
      unfold edL
      rw [if_pos c1, if_neg c2]
      clear c1 c2
      refine Prod.ext rfl (Prod.ext rfl (funext fun j => ?_))
      simp only [up, ls]
      by_cases j5 : j = 5 <;> by_cases j6 : j = 6 <;> by_cases j8 : j = 8 <;> by_cases j9 : j = 9 <;> simp_all
  · rw [if_pos (Int32.not_lt.1 c1)]
    by_cases c2 : ls (ld σ o) 4 < Fr (ld σ o) a b
    · rw [if_neg (Int32.not_le.2 c2)]
      refine ⟨_, rfl, ?_, Fx_pI ⟨rfl, by omega⟩ F2⟩
      rw [ld_pI (by omega), f2]
      unfold edL
      rw [if_neg c1, if_pos c2]
      clear c1 c2
      refine Prod.ext rfl (Prod.ext rfl (funext fun j => ?_))
      simp only [up, ls]
      by_cases j5 : j = 5 <;> by_cases j6 : j = 6 <;> by_cases j8 : j = 8 <;> by_cases j9 : j = 9 <;> simp_all
    · rw [if_pos (Int32.not_lt.1 c2)]
      refine ⟨_, rfl, ?_, F2⟩
      rw [f2]
      unfold edL
      rw [if_neg c1, if_neg c2]
      clear c1 c2
      refine Prod.ext rfl (Prod.ext rfl (funext fun j => ?_))
      simp only [up, ls]
      by_cases j5 : j = 5 <;> by_cases j6 : j = 6 <;> by_cases j8 : j = 8 <;> by_cases j9 : j = 9 <;> simp_all
theorem gd_ed {L : Ld} {p q : Nat} : edL (up L 7 (ls L 7 + 1)) p q = gdL L p q := by
  unfold edL gdL
  rw [Fr_up]
  generalize Fr L p q = F
  refine Prod.ext rfl (Prod.ext rfl (funext fun k => ?_))
  simp only [up, ls]
  by_cases k5 : k = 5 <;> by_cases k6 : k = 6 <;> by_cases k7 : k = 7 <;> by_cases k8 : k = 8 <;> by_cases k9 : k = 9 <;> simp_all <;> rfl
theorem goDay_c {o i j : Nat} {σ : St} (hL : Ldok (ld σ o)) (hi : i < 5) (hj : j < 5) : (goF (ld σ o) i j = none ∧ mX3_goDay o (nI i) (nI j) σ = some (0, σ)) ∨ ∃ p q τ, goF (ld σ o) i j = some (p, q) ∧ p < 36 ∧ q < 36 ∧ mX3_goDay o (nI i) (nI j) σ = some (1, τ) ∧ ld τ o = gdL (ld σ o) p q ∧ Fo o σ τ := by
  have s5 : gI σ o 5 = ls (ld σ o) 5 := ld_s (by omega)
  have s6 : gI σ o 6 = ls (ld σ o) 6 := ld_s (by omega)
  have s7 : gI σ o 7 = ls (ld σ o) 7 := ld_s (by omega)
  unfold mX3_goDay
  simp only [kl_e, s5]
  rcases hL.2.2.2.2.1 with e1 | ⟨a, ha, e1⟩
  · left
    refine ⟨by unfold goF; rw [e1, stN_none], ?_⟩
    rcases hL.2.2.2.2.2.1 with e2 | ⟨b, hb, e2⟩
    · simp only [e1, cellBy_n, cl2_e, s6, e2, ite_true, rz_0]
    · simp only [e1, cellBy_n, cl2_e, s6, e2, cellBy_c hb hj, ite_true, rz_0]
  · rcases hL.2.2.2.2.2.1 with e2 | ⟨b, hb, e2⟩
    · left
      refine ⟨by unfold goF; rw [e1, e2, stN_none, stN_nI ha], ?_⟩
      simp only [e1, cellBy_n, cl2_e, s6, e2, cellBy_c ha hi, ite_true, rz_0, ite_self]
    · simp only [e1, cl2_e, s6, s7, e2, cellBy_c ha hi, cellBy_c hb hj]
      have hg : goF (ld σ o) i j = match gone (Op (ld σ o)) a i, gone (Op (ld σ o)) b j with
        | some p', some q' => if ls (ld σ o) 7 < 999 then some (p', q') else none
        | _, _ => none := by unfold goF; rw [e1, e2, stN_nI ha, stN_nI hb]
      rw [hg]
      cases g1 : gone (Op (ld σ o)) a i with
      | none => left; exact ⟨rfl, by rw [if_pos (by rfl)]; rfl⟩
      | some p =>
        have hp := gone_lt ha hi g1
        cases g2 : gone (Op (ld σ o)) b j with
        | none =>
          left
          refine ⟨rfl, ?_⟩
          rw [if_neg (show ¬ oi (some p) = -4 from nI_n4 p hp), if_pos (by rfl)]; rfl
        | some q =>
          have hq := gone_lt hb hj g2
          rw [if_neg (show ¬ oi (some p) = -4 from nI_n4 p hp), if_neg (show ¬ oi (some q) = -4 from nI_n4 q hq)]
          simp only [oi]
          by_cases c : ls (ld σ o) 7 < 999
          · right
            rw [if_pos c, if_pos c]
            obtain ⟨τ, t1, t2, t3⟩ := endDay_c (o := o) hp hq (pI σ o 7 (ls (ld σ o) 7 + 1))
            rw [t1, cl1_e]
            refine ⟨p, q, τ, rfl, hp, hq, rfl, ?_, Fx_tr (Fx_pI ⟨rfl, by omega⟩ Fx_rfl) t3⟩
            rw [t2, ld_pI (by omega), gd_ed]
          · left
            rw [if_neg c, if_neg c]
            exact ⟨rfl, rfl⟩
