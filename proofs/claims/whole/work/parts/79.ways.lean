/-! ===== PURE: how many ways, of the class ===== -/
theorem smN_add {f g : Nat → Nat} : ∀ n, smN (fun i => f i + g i) n = smN f n + smN g n
  | 0 => rfl
  | n + 1 => by
    show smN (fun i => f i + g i) n + (f n + g n) = smN f n + f n + (smN g n + g n)
    rw [smN_add n]; omega
theorem smN_mul {f : Nat → Nat} {c : Nat} : ∀ n, smN (fun i => f i * c) n = smN f n * c
  | 0 => (Nat.zero_mul c).symm
  | n + 1 => by
    show smN (fun i => f i * c) n + f n * c = (smN f n + f n) * c
    rw [smN_mul n, Nat.add_mul]
theorem smN_mulL {f : Nat → Nat} {c : Nat} : ∀ n, smN (fun i => c * f i) n = c * smN f n
  | 0 => (Nat.mul_zero c).symm
  | n + 1 => by
    show smN (fun i => c * f i) n + c * f n = c * (smN f n + f n)
    rw [smN_mulL n, Nat.mul_add]
theorem smN_0 {f : Nat → Nat} : ∀ n, (∀ i, i < n → f i = 0) → smN f n = 0
  | 0, _ => rfl
  | n + 1, h => by
    show smN f n + f n = 0
    rw [smN_0 n (fun i hi => h i (by omega)), h n (by omega)]
theorem smN_swap {f : Nat → Nat → Nat} {m : Nat} : ∀ n, smN (fun i => smN (fun j => f i j) m) n = smN (fun j => smN (fun i => f i j) n) m
  | 0 => (smN_0 m (fun _ _ => rfl)).symm
  | n + 1 => by
    show smN (fun i => smN (fun j => f i j) m) n + smN (fun j => f n j) m = smN (fun j => smN (fun i => f i j) n + f n j) m
    rw [smN_swap n, smN_add]
theorem smN_one {f : Nat → Nat} {k : Nat} : ∀ n, smN (fun i => if i = k then f i else 0) n = if k < n then f k else 0
  | 0 => by rw [if_neg (by omega)]; rfl
  | n + 1 => by
    show smN (fun i => if i = k then f i else 0) n + (if n = k then f n else 0) = _
    rw [smN_one n]
    by_cases h : n = k
    · rw [if_neg (by omega), if_pos h, if_pos (by omega), h, Nat.zero_add]
    · rw [if_neg h]
      by_cases h2 : k < n
      · rw [if_pos h2, if_pos (by omega), Nat.add_zero]
      · rw [if_neg h2, if_neg (by omega)]
/-- what stands at a neighbour, or 0 -/
def opt (x : Option Nat) (f : Nat → Nat) : Nat := match x with
  | none => 0
  | some c => f c
/-- in how many ways a lies beside c -/
def mu (a c : Nat) : Nat := smN (fun d => if nbo a d = some c then 1 else 0) 5
theorem mu_sym : ∀ a, a < 36 → ∀ c, c < 36 → mu a c = mu c a := by decide +kernel
theorem opt_sum {x : Option Nat} {f : Nat → Nat} (h : ∀ c, x = some c → c < 36) : smN (fun c => (if x = some c then 1 else 0) * f c) 36 = opt x f := by
  cases x with
  | none =>
    refine smN_0 36 (fun i _ => ?_)
    rw [if_neg (by intro q; cases q), Nat.zero_mul]
  | some e =>
    have e0 : smN (fun c => (if some e = some c then 1 else 0) * f c) 36 = smN (fun c => if c = e then f c else 0) 36 := smN_eq 36 (fun c _ => by
      by_cases q : c = e
      · rw [if_pos q, if_pos (by rw [q]), Nat.one_mul]
      · rw [if_neg q, if_neg (by intro z; exact q (Option.some.inj z).symm), Nat.zero_mul])
    rw [e0, smN_one, if_pos (h e rfl)]
    rfl
theorem mu_sum {a : Nat} {f : Nat → Nat} (ha : a < 36) : smN (fun d => opt (nbo a d) f) 5 = smN (fun c => mu a c * f c) 36 := by
  have e1 : smN (fun d => opt (nbo a d) f) 5 = smN (fun d => smN (fun c => (if nbo a d = some c then 1 else 0) * f c) 36) 5 := smN_eq 5 (fun d hd => (opt_sum (fun c hc => nbo_lt' ha hd hc)).symm)
  rw [e1, smN_swap]
  refine smN_eq 36 (fun c _ => ?_)
  rw [smN_mul]
  rfl
abbrev Wt : Type := Nat → Nat → Nat
def Wl (r : Nat) (W : Wt) (σ : St) : Prop := ∀ h s, h < 36 → s < 36 → gL σ r (36 * h + s) = lN (W h s)
/-- his move -/
def hfW (W : Wt) (d h s : Nat) : Nat := smN (fun d => opt (nbo h d) (fun h' => W h' s)) d
/-- hers behind it -/
def hrW (P : Nat → Nat → Bool) (H : Wt) (d h s : Nat) : Nat := if P h s then smN (fun d => opt (nbo s d) (fun s' => H h s')) d else 0
theorem ldL_1296 {ρ : Type} {σ : St} {a i : Nat} {f : Int64 → Option ρ} (h : i < 1296) : ldL σ a 1296 (nI i) f = f (gL σ a i) := ldL_n h (by omega)
theorem stL_1296 {ρ : Type} {σ : St} {a i : Nat} {v : Int64} {f : St → Option ρ} (h : i < 1296) : stL σ a 1296 (nI i) v f = f (pL σ a i v) := stL_n h (by omega)
abbrev FW (σ τ : St) : Prop := Fx (fun _ _ => False) (fun _ => False) (fun a => a = 36 ∨ a = 37) σ τ
theorem core_FW {σ τ : St} (h : FW σ τ) : core τ = core σ := core_Fx (fun o k e => e.elim) (fun a e => e.elim) (fun a e => by rcases e with rfl | rfl <;> rfl) h
theorem him_in {W V : Wt} {a d c : Nat} {J18 : Int32 → St → Option St} {σ s : St} (ha : a < 36) (hc : c < 36) (hW : Wl 36 W s) (hV : Wl 37 V s) (hF : FW σ s) : ∃ τ, (lp (fun _ _ => none) (mX0_walkHim_32 J18 (nI d) (nI c) (nI a)) 2000) (0 : Int32) s = J18 (nI (d + 1)) τ ∧ Wl 36 W τ ∧ Wl 37 (fun h e => if h = a then V h e + W c e else V h e) τ ∧ FW σ τ := by
  refine lp_rel (app := fun b (s : St) (J : Int32 → St → Option St) => J (nI b) s) (P := fun b s => Wl 36 W s ∧ Wl 37 (fun h e => if h = a ∧ e < b then V h e + W c e else V h e) s ∧ FW σ s) 36 (Q := fun r => ∃ τ, r = J18 (nI (d + 1)) τ ∧ Wl 36 W τ ∧ Wl 37 (fun h e => if h = a then V h e + W c e else V h e) τ ∧ FW σ τ) ?_ ?_ 2000 (by omega) s ⟨hW, fun h e hh he => by rw [hV h e hh he]; try dsimp only; rw [if_neg (by omega)], hF⟩
  · intro b s hb ⟨g1, g2, g3⟩ J
    refine ⟨pL s 37 (36 * a + b) (lN (V a b + W c b)), ⟨fun h e hh he => by rw [gL_pL_ne (by omega)]; exact g1 h e hh he, fun h e hh he => ?_, Fx_pL (Or.inr rfl) g3⟩, ?_⟩
    · by_cases q : h = a ∧ e = b
      · obtain ⟨rfl, rfl⟩ := q
        rw [gL_pL_eq]
        try dsimp only
        rw [if_pos ⟨rfl, by omega⟩]
      · rw [gL_pL_ne (by omega), g2 h e hh he]
        try dsimp only
        by_cases z : h = a ∧ e < b
        · rw [if_pos z, if_pos (by omega)]
        · rw [if_neg z, if_neg (by omega)]
    · show mX0_walkHim_32 J18 (nI d) (nI c) (nI a) J (nI b) s = J (nI (b + 1)) _
      unfold mX0_walkHim_32
      rw [kl_e, if_neg (lt36 hb), cell_c hc, cl2_e, if_neg n10, ix36, ix36, ldL_1296 (by omega), ldL_1296 (by omega), stL_1296 (by omega), g1 c b hc hb, g2 a b ha hb]
      try dsimp only
      rw [if_neg (by omega), lN_add, nI_1]
  · intro s ⟨g1, g2, g3⟩ J
    refine ⟨s, ?_, g1, fun h e hh he => ?_, g3⟩
    · show mX0_walkHim_32 J18 (nI d) (nI c) (nI a) J (nI 36) s = _
      unfold mX0_walkHim_32 mX0_walkHim_80
      rw [kl_e, if_pos at36]
      simp only [nI_1]
    · rw [g2 h e hh he]
      try dsimp only
      by_cases z : h = a
      · rw [if_pos ⟨z, he⟩, if_pos z]
      · rw [if_neg (by omega), if_neg z]
theorem him_out {d : Nat} {x7 y2 : Int32} {J18 : Int32 → St → Option St} {s : St} (hx : inR x7 0 35 = false) : (lp (fun _ _ => none) (mX0_walkHim_32 J18 (nI d) x7 y2) 2000) (0 : Int32) s = J18 (nI (d + 1)) s := by
  show mX0_walkHim_32 J18 (nI d) x7 y2 _ (0 : Int32) s = _
  unfold mX0_walkHim_32 mX0_walkHim_80
  rw [kl_e, if_neg (by decide), ncell_c hx, cl2_e, if_pos rfl]
  simp only [nI_1]
theorem Wl_eq {r : Nat} {V W : Wt} {s : St} (h : ∀ a b, a < 36 → b < 36 → V a b = W a b) (hV : Wl r V s) : Wl r W s := fun a b ha hb => by rw [hV a b ha hb, h a b ha hb]
theorem walkHim_c {W : Wt} {σ : St} (hW : Wl 36 W σ) : ∃ τ, mX0_walkHim σ = some τ ∧ Wl 36 W τ ∧ Wl 37 (hfW W 5) τ ∧ FW σ τ := by
  unfold mX0_walkHim
  obtain ⟨s0, e1, e2, e3⟩ := fillL_c (o := 37) (n := 1296) (v := 0) rfl (by omega) σ
  rw [e1, cl1_e, kl_e]
  have F0 : FW σ s0 := Fx_mono (fun _ _ h => h) (fun _ h => h) (fun _ h => Or.inr h) e3
  refine lp_rel (app := fun a (s : St) (J : Int32 → St → Option St) => J (nI a) s) (P := fun a s => Wl 36 W s ∧ Wl 37 (fun h e => if h < a then hfW W 5 h e else 0) s ∧ FW σ s) 36 (Q := fun r => ∃ τ, r = some τ ∧ Wl 36 W τ ∧ Wl 37 (hfW W 5) τ ∧ FW σ τ) ?_ ?_ 2000 (by omega) s0 ⟨fun h e hh he => by rw [Fx_L e3 (by omega)]; exact hW h e hh he, fun h e hh he => by rw [e2 _ (by omega)]; try dsimp only; rw [if_neg (by omega)]; rfl, F0⟩
  · intro a s ha ⟨g1, g2, g3⟩ J
    show ∃ x', _ ∧ mX0_walkHim_10 J (nI a) s = J (nI (a + 1)) x'
    unfold mX0_walkHim_10
    rw [if_neg (lt36 ha), kl_e]
    refine lp_rel (app := fun d (s : St) (J : Int32 → St → Option St) => J (nI d) s) (P := fun d s => Wl 36 W s ∧ Wl 37 (fun h e => if h < a then hfW W 5 h e else if h = a then hfW W d h e else 0) s ∧ FW σ s) 5 (Q := fun r => ∃ x', (Wl 36 W x' ∧ Wl 37 (fun h e => if h < a + 1 then hfW W 5 h e else 0) x' ∧ FW σ x') ∧ r = J (nI (a + 1)) x') ?_ ?_ 2000 (by omega) s ⟨g1, Wl_eq (fun h e _ _ => by
      try dsimp only
      by_cases z : h < a
      · rw [if_pos z, if_pos z]
      · rw [if_neg z, if_neg z]
        by_cases y : h = a
        · rw [if_pos y]; rfl
        · rw [if_neg y]) g2, g3⟩
    · intro d s hd ⟨g1, g2, g3⟩ J'
      show ∃ x', _ ∧ mX0_walkHim_18 J (nI a) J' (nI d) s = J' (nI (d + 1)) x'
      unfold mX0_walkHim_18
      rw [if_neg (lt5 hd), cellTo_c ha hd, cl2_e, kl_e]
      have hS : ∀ h e, hfW W (d + 1) h e = hfW W d h e + opt (nbo h d) (fun h' => W h' e) := fun h e => rfl
      cases hn : nbo a d with
      | none =>
        rw [him_out (show inR (oi none) 0 35 = false by decide)]
        refine ⟨s, ⟨g1, Wl_eq (fun h e _ _ => ?_) g2, g3⟩, rfl⟩
        try dsimp only
        by_cases z : h < a
        · rw [if_pos z, if_pos z]
        · rw [if_neg z, if_neg z]
          by_cases y : h = a
          · rw [if_pos y, if_pos y, hS, y, hn]; rfl
          · rw [if_neg y, if_neg y]
      | some c =>
        have hc := nbo_lt' ha hd hn
        obtain ⟨τ, t1, t2, t3, t4⟩ := him_in (d := d) (J18 := J') ha hc g1 g2 g3
        rw [show oi (some c) = nI c from rfl, t1]
        refine ⟨τ, ⟨t2, Wl_eq (fun h e _ _ => ?_) t3, t4⟩, rfl⟩
        try dsimp only
        by_cases y : h = a
        · rw [if_pos y, if_neg (by omega), if_pos y, if_neg (by omega), if_pos y, hS, y, hn]; rfl
        · rw [if_neg y]
          by_cases z : h < a
          · rw [if_pos z, if_pos z]
          · rw [if_neg z, if_neg y, if_neg z, if_neg y]
    · intro s ⟨g1, g2, g3⟩ J'
      refine ⟨s, ⟨g1, Wl_eq (fun h e _ _ => ?_) g2, g3⟩, ?_⟩
      · try dsimp only
        by_cases z : h < a
        · rw [if_pos z, if_pos (by omega)]
        · rw [if_neg z]
          by_cases y : h = a
          · rw [if_pos y, if_pos (by omega)]
          · rw [if_neg y, if_neg (by omega)]
      · show mX0_walkHim_18 J (nI a) J' (nI 5) s = _
        unfold mX0_walkHim_18
        rw [if_pos at5, nI_1]
  · intro s ⟨g1, g2, g3⟩ J
    refine ⟨s, ?_, g1, Wl_eq (fun h e hh _ => if_pos hh) g2, g3⟩
    show mX0_walkHim_10 J (nI 36) s = _
    unfold mX0_walkHim_10
    rw [if_pos at36]
theorem bit_is {S : Nat → Bool} {c : Nat} (h : c < 36) : (lg_cmp ((bs S >>> ((nI c).toInt64 &&& 63)) &&& (1 : Int64)) (1 : Int64) = 0) = (S c = true) := by
  have := isOn_m (S := S) h σi
  unfold mX11_isOn at this
  apply propext
  by_cases q : lg_cmp ((bs S >>> ((nI c).toInt64 &&& 63)) &&& (1 : Int64)) (1 : Int64) = 0
  · rw [if_pos q] at this
    cases e : S c
    · rw [e] at this
      have h2 := congrArg (fun x => x.map Prod.fst) this
      exact absurd h2 (by decide)
    · exact ⟨fun _ => rfl, fun _ => q⟩
  · rw [if_neg q] at this
    cases e : S c
    · exact ⟨fun z => absurd z q, fun z => by cases z⟩
    · rw [e] at this
      have h2 := congrArg (fun x => x.map Prod.fst) this
      exact absurd h2 (by decide)
abbrev FV (σ τ : St) : Prop := Fx (fun _ _ => False) (fun _ => False) (fun a => a = 36) σ τ
theorem her_in {P : Nat → Nat → Bool} {H V : Wt} {b d c : Nat} {J18 : Int32 → St → Option St} {σ s : St} (hb : b < 36) (hc : c < 36) (hP : Bfit P σ) (hH : Wl 37 H σ) (hV : Wl 36 V s) (hF : FV σ s) : ∃ τ, (lp (fun _ _ => none) (mX0_walkHer_32 J18 (nI d) (nI c) (nI b)) 2000) (0 : Int32) s = J18 (nI (d + 1)) τ ∧ Wl 36 (fun h e => if e = b ∧ P h e = true then V h e + H h c else V h e) τ ∧ FV σ τ := by
  refine lp_rel (app := fun a (s : St) (J : Int32 → St → Option St) => J (nI a) s) (P := fun a s => Wl 36 (fun h e => if h < a ∧ e = b ∧ P h e = true then V h e + H h c else V h e) s ∧ FV σ s) 36 (Q := fun r => ∃ τ, r = J18 (nI (d + 1)) τ ∧ Wl 36 (fun h e => if e = b ∧ P h e = true then V h e + H h c else V h e) τ ∧ FV σ τ) ?_ ?_ 2000 (by omega) s ⟨fun h e hh he => by rw [hV h e hh he]; try dsimp only; rw [if_neg (by omega)], hF⟩
  · intro a s ha ⟨g2, g3⟩ J
    show ∃ x', _ ∧ mX0_walkHer_32 J18 (nI d) (nI c) (nI b) J (nI a) s = J (nI (a + 1)) x'
    unfold mX0_walkHer_32 mX0_walkHer_90
    have hfit : gL s 32 a = bs (P a) := by rw [Fx_L g3 (by omega)]; exact hP a ha
    have hhalf : gL s 37 (36 * a + c) = lN (H a c) := by rw [Fx_L g3 (by omega)]; exact hH a c ha hc
    rw [kl_e, if_neg (lt36 ha), cell_c hc, cl2_e, if_neg n10, ldL_36 ha, hfit, kl_e]
    by_cases y : P a b = true
    · rw [if_pos (by rw [bit_is hb]; exact y), ix36, ix36, ldL_1296 (by omega), ldL_1296 (by omega), stL_1296 (by omega), hhalf, g2 a b ha hb]
      try dsimp only
      rw [if_neg (by omega), lN_add]
      try simp only [nI_1]
      refine ⟨_, ⟨fun h e hh he => ?_, Fx_pL rfl g3⟩, rfl⟩
      by_cases q : h = a ∧ e = b
      · obtain ⟨rfl, rfl⟩ := q
        rw [gL_pL_eq]
        try dsimp only
        rw [if_pos ⟨by omega, rfl, y⟩]
      · rw [gL_pL_ne (by omega), g2 h e hh he]
        try dsimp only
        by_cases z : h < a ∧ e = b ∧ P h e = true
        · rw [if_pos z, if_pos ⟨by omega, z.2⟩]
        · rw [if_neg z, if_neg (fun w => z ⟨by omega, w.2⟩)]
    · rw [if_neg (by rw [bit_is hb]; exact y)]
      simp only [nI_1]
      refine ⟨s, ⟨Wl_eq (fun h e _ _ => ?_) g2, g3⟩, rfl⟩
      try dsimp only
      by_cases z : h < a ∧ e = b ∧ P h e = true
      · rw [if_pos z, if_pos ⟨by omega, z.2⟩]
      · rw [if_neg z, if_neg (fun w => z ⟨by
          by_cases k : h = a
          · rw [k, w.2.1] at w; exact absurd w.2.2 y
          · omega, w.2⟩)]
  · intro s ⟨g2, g3⟩ J
    refine ⟨s, ?_, Wl_eq (fun h e hh _ => ?_) g2, g3⟩
    · show mX0_walkHer_32 J18 (nI d) (nI c) (nI b) J (nI 36) s = _
      unfold mX0_walkHer_32 mX0_walkHer_96
      rw [kl_e, if_pos at36]
      simp only [nI_1]
    · try dsimp only
      by_cases z : e = b ∧ P h e = true
      · rw [if_pos ⟨hh, z⟩, if_pos z]
      · rw [if_neg (fun w => z w.2), if_neg z]
theorem her_out {d : Nat} {x7 y2 : Int32} {J18 : Int32 → St → Option St} {s : St} (hx : inR x7 0 35 = false) : (lp (fun _ _ => none) (mX0_walkHer_32 J18 (nI d) x7 y2) 2000) (0 : Int32) s = J18 (nI (d + 1)) s := by
  show mX0_walkHer_32 J18 (nI d) x7 y2 _ (0 : Int32) s = _
  unfold mX0_walkHer_32 mX0_walkHer_96
  rw [kl_e, if_neg (by decide), ncell_c hx, cl2_e, if_pos rfl]
  simp only [nI_1]
theorem walkHer_c {P : Nat → Nat → Bool} {H : Wt} {σ : St} (hP : Bfit P σ) (hH : Wl 37 H σ) : ∃ τ, mX0_walkHer σ = some τ ∧ Wl 36 (hrW P H 5) τ ∧ FV σ τ := by
  unfold mX0_walkHer
  obtain ⟨s0, e1, e2, e3⟩ := fillL_c (o := 36) (n := 1296) (v := 0) rfl (by omega) σ
  rw [e1, cl1_e, kl_e]
  refine lp_rel (app := fun b (s : St) (J : Int32 → St → Option St) => J (nI b) s) (P := fun b s => Wl 36 (fun h e => if e < b then hrW P H 5 h e else 0) s ∧ FV σ s) 36 (Q := fun r => ∃ τ, r = some τ ∧ Wl 36 (hrW P H 5) τ ∧ FV σ τ) ?_ ?_ 2000 (by omega) s0 ⟨fun h e hh he => by rw [e2 _ (by omega)]; try dsimp only; rw [if_neg (by omega)]; rfl, e3⟩
  · intro b s hb ⟨g2, g3⟩ J
    show ∃ x', _ ∧ mX0_walkHer_10 J (nI b) s = J (nI (b + 1)) x'
    unfold mX0_walkHer_10
    rw [if_neg (lt36 hb), kl_e]
    refine lp_rel (app := fun d (s : St) (J : Int32 → St → Option St) => J (nI d) s) (P := fun d s => Wl 36 (fun h e => if e < b then hrW P H 5 h e else if e = b then hrW P H d h e else 0) s ∧ FV σ s) 5 (Q := fun r => ∃ x', (Wl 36 (fun h e => if e < b + 1 then hrW P H 5 h e else 0) x' ∧ FV σ x') ∧ r = J (nI (b + 1)) x') ?_ ?_ 2000 (by omega) s ⟨Wl_eq (fun h e _ _ => by
      try dsimp only
      by_cases z : e < b
      · rw [if_pos z, if_pos z]
      · rw [if_neg z, if_neg z]
        by_cases y : e = b
        · rw [if_pos y]; unfold hrW; by_cases w : P h e = true
          · rw [if_pos w]; rfl
          · rw [if_neg w]
        · rw [if_neg y]) g2, g3⟩
    · intro d s hd ⟨g2, g3⟩ J'
      show ∃ x', _ ∧ mX0_walkHer_18 J (nI b) J' (nI d) s = J' (nI (d + 1)) x'
      unfold mX0_walkHer_18
      rw [if_neg (lt5 hd), cellTo_c hb hd, cl2_e, kl_e]
      have hS : ∀ h e, hrW P H (d + 1) h e = if P h e = true then hrW P H d h e + opt (nbo e d) (fun s' => H h s') else hrW P H d h e := fun h e => by
        unfold hrW
        by_cases w : P h e = true
        · rw [if_pos w, if_pos w, if_pos w]; rfl
        · rw [if_neg w, if_neg w, if_neg w]
      cases hn : nbo b d with
      | none =>
        rw [her_out (show inR (oi none) 0 35 = false by decide)]
        refine ⟨s, ⟨Wl_eq (fun h e _ _ => ?_) g2, g3⟩, rfl⟩
        try dsimp only
        by_cases z : e < b
        · rw [if_pos z, if_pos z]
        · rw [if_neg z, if_neg z]
          by_cases y : e = b
          · rw [if_pos y, if_pos y, hS, y, hn]
            by_cases w : P h b = true
            · rw [if_pos w]; rfl
            · rw [if_neg w]
          · rw [if_neg y, if_neg y]
      | some c =>
        have hc := nbo_lt' hb hd hn
        obtain ⟨τ, t1, t3, t4⟩ := her_in (d := d) (J18 := J') hb hc hP hH g2 g3
        rw [show oi (some c) = nI c from rfl, t1]
        refine ⟨τ, ⟨Wl_eq (fun h e _ _ => ?_) t3, t4⟩, rfl⟩
        try dsimp only
        by_cases y : e = b
        · rw [if_neg (show ¬ e < b by omega), if_pos y, if_neg (show ¬ e < b by omega), if_pos y, hS]
          by_cases w : P h e = true
          · rw [if_pos ⟨y, w⟩, if_pos w, y, hn]; rfl
          · rw [if_neg (fun k => w k.2), if_neg w]
        · rw [if_neg (fun k => y k.1)]
          by_cases z : e < b
          · rw [if_pos z, if_pos z]
          · rw [if_neg z, if_neg y, if_neg z, if_neg y]
    · intro s ⟨g2, g3⟩ J'
      refine ⟨s, ⟨Wl_eq (fun h e _ _ => ?_) g2, g3⟩, ?_⟩
      · try dsimp only
        by_cases z : e < b
        · rw [if_pos z, if_pos (by omega)]
        · rw [if_neg z]
          by_cases y : e = b
          · rw [if_pos y, if_pos (by omega)]
          · rw [if_neg y, if_neg (by omega)]
      · show mX0_walkHer_18 J (nI b) J' (nI 5) s = _
        unfold mX0_walkHer_18
        rw [if_pos at5, nI_1]
  · intro s ⟨g2, g3⟩ J
    refine ⟨s, ?_, Wl_eq (fun h e _ he => if_pos he) g2, g3⟩
    show mX0_walkHer_10 J (nI 36) s = _
    unfold mX0_walkHer_10
    rw [if_pos at36]
/-- one day more -/
def nxW (P : Nat → Nat → Bool) (W : Wt) (h s : Nat) : Nat := if P h s then smN (fun h' => smN (fun s' => mu h' h * (mu s' s * W h' s')) 36) 36 else 0
theorem nxW_c {P : Nat → Nat → Bool} {W : Wt} {h s : Nat} (hh : h < 36) (hs : s < 36) : hrW P (hfW W 5) 5 h s = nxW P W h s := by
  unfold hrW nxW
  by_cases w : P h s = true
  · rw [if_pos w, if_pos w, mu_sum hs, smN_swap]
    refine smN_eq 36 (fun s' hs' => ?_)
    show mu s s' * smN (fun d => opt (nbo h d) (fun h' => W h' s')) 5 = _
    rw [mu_sum hh, ← smN_mulL]
    refine smN_eq 36 (fun h' hh' => ?_)
    rw [mu_sym s hs s' hs', mu_sym h hh h' hh', Nat.mul_left_comm]
  · rw [if_neg w, if_neg w]
def stW (P : Nat → Nat → Bool) (p q h s : Nat) : Nat := if h = p ∧ s = q ∧ P h s = true then 1 else 0
def itW (P : Nat → Nat → Bool) (p q : Nat) : Nat → Wt
  | 0 => stW P p q
  | n + 1 => nxW P (itW P p q n)
theorem isPair_c {P : Nat → Nat → Bool} {a b : Nat} {σ : St} (hP : Bfit P σ) (ha : a < 36) (hb : b < 36) : mX0_isPair (nI a) (nI b) σ = some (b2 (P a b), σ) := by
  unfold mX0_isPair
  rw [cell_c ha, cl2_e, if_neg n10, ldL_36 ha, hP a ha, has_c hb, cl2_e]
  cases P a b <;> rfl
theorem walk_c {P : Nat → Nat → Bool} {p q n : Nat} {σ : St} (hP : Bfit P σ) (hp : p < 36) (hq : q < 36) (hn : n ≤ 10) : ∃ τ, mX0_walk (nI p) (nI q) (nI n) σ = some τ ∧ Wl 36 (itW P p q n) τ ∧ FW σ τ := by
  unfold mX0_walk mX0_walk_29
  obtain ⟨s0, e1, e2, e3⟩ := fillL_c (o := 36) (n := 1296) (v := 0) rfl (by omega) σ
  have F0 : FW σ s0 := Fx_mono (fun _ _ h => h) (fun _ h => h) (fun _ h => Or.inl h) e3
  have P0 : Bfit P s0 := fun a ha => by rw [Fx_L e3 (by omega)]; exact hP a ha
  rw [e1, cl1_e, isPair_c P0 hp hq, cl2_e, kl_e]
  simp only [kl_e]
  have go : ∀ s1, Wl 36 (stW P p q) s1 → FW σ s1 → ∃ τ, (lp (fun _ _ => none) (mX0_walk_32 (nI n)) 2000) (0 : Int32) s1 = some τ ∧ Wl 36 (itW P p q n) τ ∧ FW σ τ := by
    intro s1 w1 w2
    refine lp_rel (app := fun i (s : St) (J : Int32 → St → Option St) => J (nI i) s) (P := fun i s => Wl 36 (itW P p q i) s ∧ FW σ s) n (Q := fun r => ∃ τ, r = some τ ∧ Wl 36 (itW P p q n) τ ∧ FW σ τ) ?_ ?_ 2000 (by omega) s1 ⟨w1, w2⟩
    · intro i s hi ⟨g1, g2⟩ J
      obtain ⟨τ, t1, t2, t3, t4⟩ := walkHim_c g1
      have g3 : FW σ τ := Fx_tr g2 t4
      have P1 : Bfit P τ := fun a ha => by rw [Fx_L g3 (by omega)]; exact hP a ha
      obtain ⟨ρ, r1, r2, r3⟩ := walkHer_c P1 t3
      refine ⟨ρ, ⟨Wl_eq (fun h e hh he => nxW_c hh he) r2, Fx_tr g3 (Fx_mono (fun _ _ h => h) (fun _ h => h) (fun _ h => Or.inl h) r3)⟩, ?_⟩
      show mX0_walk_32 (nI n) J (nI i) s = J (nI (i + 1)) ρ
      unfold mX0_walk_32
      rw [if_neg (nI_ge hi (by omega)), t1, cl1_e, r1, cl1_e, nI_1]
    · intro s ⟨g1, g2⟩ J
      refine ⟨s, ?_, g1, g2⟩
      show mX0_walk_32 (nI n) J (nI n) s = _
      unfold mX0_walk_32
      rw [if_pos (Int32.le_refl _)]
  cases y : P p q
  · rw [b2_f, if_pos rfl]
    refine go s0 (fun h e hh he => ?_) F0
    rw [e2 _ (by omega)]
    unfold stW
    rw [if_neg (by rintro ⟨rfl, rfl, z⟩; rw [y] at z; cases z)]
    rfl
  · rw [b2_t, if_neg n10, ix36, stL_1296 (by omega)]
    refine go _ (fun h e hh he => ?_) (Fx_pL (Or.inl rfl) F0)
    unfold stW
    by_cases z : h = p ∧ e = q
    · obtain ⟨rfl, rfl⟩ := z
      rw [gL_pL_eq, if_pos ⟨rfl, rfl, y⟩]
      rfl
    · rw [gL_pL_ne (by omega), e2 _ (by omega), if_neg (fun w => z ⟨w.1, w.2.1⟩)]
      rfl
