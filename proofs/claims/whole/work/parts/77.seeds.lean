/-! ===== PURE: seeds ===== -/
def nxz (z : Int32) : Int32 := (z * (1103515245 : Int32)) + (12345 : Int32)
def drw (z : Int32) : Int32 := ((z &&& (2147483647 : Int32)) / (65536 : Int32)) - ((z &&& (2147483647 : Int32)) / (65536 : Int32)) / (5 : Int32) * (5 : Int32)
theorem drw_n (z : Int32) : ∃ d, d < 5 ∧ drw z = nI d := by
  obtain ⟨j, hj, e⟩ := pk_andE z (m := 2147483647) 31 (by decide)
  refine ⟨j / 65536 % 5, by omega, ?_⟩
  unfold drw
  rw [e, show (65536 : Int32) = nI 65536 from rfl, pk_div hj (by omega) (by omega), show (5 : Int32) = nI 5 from rfl, pk_rem (by omega) (by omega) (by omega)]
def dw (z : Int32) : Nat := (drw z).toNatClampNeg
theorem dw_e (z : Int32) : drw z = nI (dw z) ∧ dw z < 5 := by
  obtain ⟨d, hd, e⟩ := drw_n z
  unfold dw
  rw [e, nI_clamp (by omega)]
  exact ⟨rfl, hd⟩
def gos (O : Nat → Bool) (a d : Nat) : Nat := match gone O a d with
  | none => a
  | some e => e
theorem gos_lt {O : Nat → Bool} {a d : Nat} (ha : a < 36) (hd : d < 5) : gos O a d < 36 := by
  unfold gos
  cases h : gone O a d with
  | none => exact ha
  | some e => exact gone_lt ha hd h
abbrev Sd : Type := Int32 × Nat × Nat × Int32 × Int32
/-- a day by seeds: seed, his, hers, too near, too far -/
def sdS (L : Ld) (x : Sd) : Sd :=
  let z1 := nxz x.1
  let z2 := nxz z1
  let a := gos (Op L) x.2.1 (dw z1)
  let b := gos (Op L) x.2.2.1 (dw z2)
  (z2, a, b, x.2.2.2.1 + (if Fr L a b < ls L 3 then 1 else 0), x.2.2.2.2 + (if ls L 4 < Fr L a b then 1 else 0))
def itn {α : Type} (f : α → α) : Nat → α → α
  | 0, x => x
  | n + 1, x => f (itn f n x)
def wkS (nd : Nat) (L : Ld) (p q : Nat) (y : Int32 × Int32 × Int32) : Int32 × Int32 × Int32 :=
  ((itn (sdS L) nd (y.1, p, q, y.2.1, y.2.2)).1, (itn (sdS L) nd (y.1, p, q, y.2.1, y.2.2)).2.2.2.1, (itn (sdS L) nd (y.1, p, q, y.2.1, y.2.2)).2.2.2.2)
theorem sdS_x (L : Ld) (x : Sd) : ∃ (z2 : Int32) (A B : Nat) (n' w' : Int32), sdS L x = (z2, A, B, n', w') ∧ z2 = nxz (nxz x.1) ∧ A = gos (Op L) x.2.1 (dw (nxz x.1)) ∧ B = gos (Op L) x.2.2.1 (dw (nxz (nxz x.1))) ∧ n' = x.2.2.2.1 + (if Fr L A B < ls L 3 then 1 else 0) ∧ w' = x.2.2.2.2 + (if ls L 4 < Fr L A B then 1 else 0) := ⟨_, _, _, _, _, rfl, rfl, rfl, rfl, rfl, rfl⟩
theorem wkS_x (nd : Nat) (L : Ld) (p q : Nat) (y : Int32 × Int32 × Int32) : ∃ r : Sd, itn (sdS L) nd (y.1, p, q, y.2.1, y.2.2) = r ∧ wkS nd L p q y = (r.1, r.2.2.2.1, r.2.2.2.2) := ⟨_, rfl, rfl⟩
theorem itn_s {α : Type} (f : α → α) (n : Nat) (x : α) : itn f (n + 1) x = f (itn f n x) := rfl
theorem sd_lt {L : Ld} {p q : Nat} {z n w : Int32} (hp : p < 36) (hq : q < 36) : ∀ i, (itn (sdS L) i (z, p, q, n, w)).2.1 < 36 ∧ (itn (sdS L) i (z, p, q, n, w)).2.2.1 < 36
  | 0 => ⟨hp, hq⟩
  | i + 1 => by
    have ih := sd_lt (L := L) (z := z) (n := n) (w := w) hp hq i
    rw [itn_s]
    generalize itn (sdS L) i (z, p, q, n, w) = x at ih
    obtain ⟨z2, A, B, n', w', hx, _, hA, hB, _, _⟩ := sdS_x L x
    rw [hx]
    constructor
    · show A < 36
      rw [hA]
      exact gos_lt ih.1 (dw_e _).2
    · show B < 36
      rw [hB]
      exact gos_lt ih.2 (dw_e _).2
/-- the land with both elsewhere and counts of its own -/
def slL (L : Ld) (a b : Nat) (n w : Int32) : Ld := (L.1, L.2.1, fun j => if j = 5 then nI a else if j = 6 then nI b else if j = 8 then n else if j = 9 then w else ls L j)
theorem sl_ed {L : Ld} {a b a' b' : Nat} {n w : Int32} : edL (slL L a b n w) a' b' = slL L a' b' (n + (if Fr L a' b' < ls L 3 then 1 else 0)) (w + (if ls L 4 < Fr L a' b' then 1 else 0)) := by
  unfold edL
  rw [show Fr (slL L a b n w) a' b' = Fr L a' b' from rfl, show ls (slL L a b n w) 3 = ls L 3 from rfl, show ls (slL L a b n w) 4 = ls L 4 from rfl, show ls (slL L a b n w) 8 = n from rfl, show ls (slL L a b n w) 9 = w from rfl]
  generalize n + (if Fr L a' b' < ls L 3 then 1 else 0) = n'
  generalize w + (if ls L 4 < Fr L a' b' then 1 else 0) = w'
  refine Prod.ext rfl (Prod.ext rfl (funext fun j => ?_))
  simp only [slL, ls]
  by_cases k5 : j = 5 <;> by_cases k6 : j = 6 <;> by_cases k8 : j = 8 <;> by_cases k9 : j = 9 <;> simp_all
theorem sl_up {L : Ld} {a b p q : Nat} {n w : Int32} : up (up (slL L a b n w) 5 (nI p)) 6 (nI q) = slL L p q n w := by
  refine Prod.ext rfl (Prod.ext rfl (funext fun j => ?_))
  simp only [up, slL, ls]
  by_cases k5 : j = 5 <;> by_cases k6 : j = 6 <;> simp_all
theorem sl_0 {L : Ld} {p q : Nat} (e5 : ls L 5 = nI p) (e6 : ls L 6 = nI q) : up (up L 8 0) 9 0 = slL L p q 0 0 := by
  refine Prod.ext rfl (Prod.ext rfl (funext fun j => ?_))
  simp only [up, slL, ls] at *
  by_cases k5 : j = 5 <;> by_cases k6 : j = 6 <;> by_cases k8 : j = 8 <;> by_cases k9 : j = 9 <;> simp_all
theorem orStay_c {o a d : Nat} {O : Nat → Bool} {s : St} (hO : Op (ld s o) = O) (ha : a < 36) (hd : d < 5) : mX3_cellByOrStay o (nI a) (nI d) s = some (nI (gos O a d), s) := by
  unfold mX3_cellByOrStay gos
  rw [cellBy_c ha hd, cl2_e, hO]
  cases h : gone O a d with
  | none => rw [if_pos (show oi none = -4 from rfl)]
  | some e => rw [if_neg (show ¬ oi (some e) = -4 from nI_n4 e (gone_lt ha hd h))]; rfl
theorem lt20 {i : Nat} (h : i < 20) : ¬ (20 : Int32) ≤ nI i := nI_ge (b := 20) h (by omega)
theorem at20 : (20 : Int32) ≤ nI 20 := Int32.le_refl _
theorem drawOf_c (z : Int32) (s : St) : mX10_drawOf z s = some (nI (dw z), s) := by
  rw [← (dw_e z).1]; rfl
theorem day_c {L : Ld} {p q nd : Nat} {z n w y9 : Int32} {J66 : Int32 → Int32 → St → Option (Int32 × St)} {σ s0 : St} (hn : nd = 20) (hp : p < 36) (hq : q < 36) (h0 : core s0 = core σ) (hs : ld s0 3 = slL L p q n w) : ∃ τ, (lp (fun _ _ _ => none) (mX10_seeds_103 J66 y9) 2000) z (0 : Int32) s0 = J66 (itn (sdS L) nd (z, p, q, n, w)).1 (y9 + 1) τ ∧ core τ = core σ ∧ ld τ 3 = slL L (itn (sdS L) nd (z, p, q, n, w)).2.1 (itn (sdS L) nd (z, p, q, n, w)).2.2.1 (itn (sdS L) nd (z, p, q, n, w)).2.2.2.1 (itn (sdS L) nd (z, p, q, n, w)).2.2.2.2 := by
  refine lp_rel (app := fun i (s : St) (J : Int32 → Int32 → St → Option (Int32 × St)) => J (itn (sdS L) i (z, p, q, n, w)).1 (nI i) s) (P := fun i s => core s = core σ ∧ ld s 3 = slL L (itn (sdS L) i (z, p, q, n, w)).2.1 (itn (sdS L) i (z, p, q, n, w)).2.2.1 (itn (sdS L) i (z, p, q, n, w)).2.2.2.1 (itn (sdS L) i (z, p, q, n, w)).2.2.2.2) nd (Q := fun r => ∃ τ, r = J66 (itn (sdS L) nd (z, p, q, n, w)).1 (y9 + 1) τ ∧ core τ = core σ ∧ ld τ 3 = slL L (itn (sdS L) nd (z, p, q, n, w)).2.1 (itn (sdS L) nd (z, p, q, n, w)).2.2.1 (itn (sdS L) nd (z, p, q, n, w)).2.2.2.1 (itn (sdS L) nd (z, p, q, n, w)).2.2.2.2) ?_ ?_ 2000 (by omega) s0 ⟨h0, hs⟩
  · intro i s hi ⟨g1, g2⟩ J
    have hlt := sd_lt (L := L) (z := z) (n := n) (w := w) hp hq i
    rw [itn_s]
    generalize itn (sdS L) i (z, p, q, n, w) = x at hlt g2
    obtain ⟨z2, A, B, n', w', hx, hz, hA, hB, hn', hw'⟩ := sdS_x L x
    rw [hx]
    obtain ⟨x1, xa, xb, xn, xw⟩ := x
    simp only at hlt g2 hz hA hB hn' hw'
    have hO : Op (ld s 3) = Op L := by rw [g2]; rfl
    have s5 : gI s 3 5 = nI xa := by rw [ld_s (by omega), g2]; rfl
    have s6 : gI s 3 6 = nI xb := by rw [ld_s (by omega), g2]; rfl
    have hAl : A < 36 := by rw [hA]; exact gos_lt hlt.1 (dw_e _).2
    have hBl : B < 36 := by rw [hB]; exact gos_lt hlt.2 (dw_e _).2
    obtain ⟨τ, t1, t2, t3⟩ := endDay_c (o := 3) hAl hBl s
    have o1 : mX3_cellByOrStay 3 (nI xa) (nI (dw (nxz x1))) s = some (nI A, s) := by rw [orStay_c hO hlt.1 (dw_e _).2, ← hA]
    have o2 : mX3_cellByOrStay 3 (nI xb) (nI (dw z2)) s = some (nI B, s) := by rw [hz, orStay_c hO hlt.2 (dw_e _).2, ← hB]
    have d1 : mX10_nextSeed x1 s = some (nxz x1, s) := rfl
    have d2 : mX10_nextSeed (nxz x1) s = some (z2, s) := by rw [hz]; rfl
    refine ⟨τ, ⟨by rw [core_Fo3 t3, g1], ?_⟩, ?_⟩
    · rw [t2, g2, sl_ed, ← hn', ← hw']
    · show mX10_seeds_103 J66 y9 J x1 (nI i) s = J z2 (nI (i + 1)) τ
      unfold mX10_seeds_103
      rw [if_neg (lt20 (show i < 20 by omega)), d1, cl2_e, kl_e, s5, drawOf_c, cl2_e, o1, cl2_e, d2, cl2_e, kl_e, s6, drawOf_c, cl2_e, o2, cl2_e, t1, cl1_e, nI_1]
  · intro s ⟨g1, g2⟩ J
    refine ⟨s, ?_, g1, g2⟩
    show mX10_seeds_103 J66 y9 J _ (nI nd) s = _
    unfold mX10_seeds_103
    rw [if_pos (show (20 : Int32) ≤ nI nd by rw [hn]; exact at20)]
theorem seeds_c {L : Ld} {p q k nd : Nat} {z a3 : Int32} {σ s0 : St} (hn : nd = 20) (hk : k ≤ 20) (hp : p < 36) (hq : q < 36) (hL : ld σ 1 = L) (e5 : ls L 5 = nI p) (e6 : ls L 6 = nI q) (h0 : core s0 = core σ) (hs : ld s0 3 = slL L p q 0 0) : ∃ τ, (lp (fun _ _ _ => none) (mX10_seeds_66 (nI k) a3) 2000) z (0 : Int32) s0 = some (if a3 = 0 then (itn (wkS nd L p q) k (z, 0, 0)).2.1 else (itn (wkS nd L p q) k (z, 0, 0)).2.2, τ) ∧ core τ = core σ := by
  refine lp_rel (app := fun i (s : St) (J : Int32 → Int32 → St → Option (Int32 × St)) => J (itn (wkS nd L p q) i (z, 0, 0)).1 (nI i) s) (P := fun i s => core s = core σ ∧ ∃ a b, ld s 3 = slL L a b (itn (wkS nd L p q) i (z, 0, 0)).2.1 (itn (wkS nd L p q) i (z, 0, 0)).2.2) k (Q := fun r => ∃ τ, r = some (if a3 = 0 then (itn (wkS nd L p q) k (z, 0, 0)).2.1 else (itn (wkS nd L p q) k (z, 0, 0)).2.2, τ) ∧ core τ = core σ) ?_ ?_ 2000 (by omega) s0 ⟨h0, p, q, hs⟩
  · intro i s hi ⟨g1, a, b, g2⟩ J
    rw [itn_s]
    generalize itn (wkS nd L p q) i (z, 0, 0) = y at g2
    obtain ⟨r, hr, hw⟩ := wkS_x nd L p q y
    rw [hw]
    obtain ⟨y1, yn, yw⟩ := y
    simp only at g2 hr
    have s5 : gI s 1 5 = nI p := by rw [ld_s (by omega), ld_core g1, hL, e5]
    have s6 : gI (pI s 3 5 (nI p)) 1 6 = nI q := by rw [gI_pI_o (by omega), ld_s (by omega), ld_core g1, hL, e6]
    have hl : ld (pI (pI s 3 5 (nI p)) 3 6 (nI q)) 3 = slL L p q yn yw := by rw [ld_pI (by omega), ld_pI (by omega), g2, sl_up]
    obtain ⟨τ, t1, t2, t3⟩ := day_c (L := L) (z := y1) (y9 := nI i) (J66 := J) (σ := σ) hn hp hq (by rw [core_pI rfl, core_pI rfl, g1]) hl
    rw [hr] at t1 t3
    refine ⟨τ, ⟨t2, _, _, t3⟩, ?_⟩
    show mX10_seeds_66 (nI k) a3 J y1 (nI i) s = J r.1 (nI (i + 1)) τ
    unfold mX10_seeds_66
    rw [if_neg (nI_ge hi (by omega)), kl_e, s5, kl_e, kl_e, s6, kl_e, kl_e, t1, nI_1]
  · intro s ⟨g1, a, b, g2⟩ J
    refine ⟨s, ?_, g1⟩
    show mX10_seeds_66 (nI k) a3 J _ (nI k) s = _
    unfold mX10_seeds_66
    rw [if_pos (Int32.le_refl _)]
    simp only [kl_e]
    rw [show gI s 3 8 = (itn (wkS nd L p q) k (z, 0, 0)).2.1 from by rw [ld_s (by omega), g2]; rfl, show gI s 3 9 = (itn (wkS nd L p q) k (z, 0, 0)).2.2 from by rw [ld_s (by omega), g2]; rfl]
    by_cases y : a3 = 0
    · rw [if_pos y, if_pos y]
    · rw [if_neg y, if_neg y]
/-! of the reference -/
theorem drawBelow_m {z : Int32} {s : St} (h : gI s 45 37 = z) : mX11_drawBelow (5 : Int32) s = some (nI (dw (nxz z)), pI s 45 37 (nxz z)) := by
  unfold mX11_drawBelow dvI
  simp only [kl_e, h]
  rw [show ((z * (1103515245 : Int32)) + (12345 : Int32)) = nxz z from rfl, gI_pI_eq, if_neg (by decide), ← (dw_e (nxz z)).1]
  rfl
theorem c37 {σ : St} {v : Int32} : core (pI σ 45 37 v) = core σ := core_pI rfl
theorem gos_or (O : Nat → Bool) (a d : Nat) : (gone O a d = none ∧ gos O a d = a) ∨ ∃ e, gone O a d = some e ∧ gos O a d = e := by
  unfold gos
  cases h : gone O a d with
  | none => exact Or.inl ⟨rfl, rfl⟩
  | some e => exact Or.inr ⟨e, rfl, rfl⟩
theorem add_if {n : Int32} {c : Prop} [Decidable c] : (if c then n + 1 else n + 0) = n + (if c then 1 else 0) := by
  by_cases h : c
  · rw [if_pos h, if_pos h]
  · rw [if_neg h, if_neg h]
theorem day_m {L : Ld} {p q nd : Nat} {z n w y11 : Int32} {J53 : Int32 → Int32 → Int32 → St → Option (Int32 × St)} {σ s0 : St} (hn : nd = 20) (hp : p < 36) (hq : q < 36) (hl : lm σ = L) (hO : ∀ c, c < 36 → Om σ c = Op L c) (h0 : core s0 = core σ) (hz : gI s0 45 37 = z) : ∃ τ, (lp (fun _ _ _ _ _ _ => none) (mX11_seeds_74 J53 y11) 2000) n w (nI p) (nI q) (0 : Int32) s0 = J53 (itn (sdS L) nd (z, p, q, n, w)).2.2.2.1 (itn (sdS L) nd (z, p, q, n, w)).2.2.2.2 (y11 + 1) τ ∧ core τ = core σ ∧ gI τ 45 37 = (itn (sdS L) nd (z, p, q, n, w)).1 := by
  refine lp_rel (app := fun i (s : St) (J : Int32 → Int32 → Int32 → Int32 → Int32 → St → Option (Int32 × St)) => J (itn (sdS L) i (z, p, q, n, w)).2.2.2.1 (itn (sdS L) i (z, p, q, n, w)).2.2.2.2 (nI (itn (sdS L) i (z, p, q, n, w)).2.1) (nI (itn (sdS L) i (z, p, q, n, w)).2.2.1) (nI i) s) (P := fun i s => core s = core σ ∧ gI s 45 37 = (itn (sdS L) i (z, p, q, n, w)).1) nd (Q := fun r => ∃ τ, r = J53 (itn (sdS L) nd (z, p, q, n, w)).2.2.2.1 (itn (sdS L) nd (z, p, q, n, w)).2.2.2.2 (y11 + 1) τ ∧ core τ = core σ ∧ gI τ 45 37 = (itn (sdS L) nd (z, p, q, n, w)).1) ?_ ?_ 2000 (by omega) s0 ⟨h0, hz⟩
  · intro i s hi ⟨g1, g2⟩ J
    have hlt := sd_lt (L := L) (z := z) (n := n) (w := w) hp hq i
    rw [itn_s]
    generalize itn (sdS L) i (z, p, q, n, w) = x at hlt g2
    obtain ⟨z2, A, B, n', w', hx, hz, hA, hB, hn', hw'⟩ := sdS_x L x
    rw [hx]
    obtain ⟨x1, xa, xb, xn, xw⟩ := x
    simp only at hlt g2 hz hA hB hn' hw'
    have hAl : A < 36 := by rw [hA]; exact gos_lt hlt.1 (dw_e _).2
    have hBl : B < 36 := by rw [hB]; exact gos_lt hlt.2 (dw_e _).2
    have D1 := drawBelow_m g2
    have D2 : mX11_drawBelow (5 : Int32) (pI s 45 37 (nxz x1)) = some (nI (dw z2), pI (pI s 45 37 (nxz x1)) 45 37 z2) := by
      rw [hz]; exact drawBelow_m gI_pI_eq
    have C1 : core (pI s 45 37 (nxz x1)) = core σ := by rw [c37, g1]
    have C2 : core (pI (pI s 45 37 (nxz x1)) 45 37 z2) = core σ := by rw [c37, C1]
    have G1 : mX11_goneTo (nI xa) (nI (dw (nxz x1))) (pI s 45 37 (nxz x1)) = some (oi (gone (Op L) xa (dw (nxz x1))), pI s 45 37 (nxz x1)) := by
      rw [goneTo_m hlt.1 (dw_e _).2, Om_core C1, gone_eq hO hlt.1 (dw_e _).2]
    have G2 : mX11_goneTo (nI xb) (nI (dw z2)) (pI (pI s 45 37 (nxz x1)) 45 37 z2) = some (oi (gone (Op L) xb (dw z2)), pI (pI s 45 37 (nxz x1)) 45 37 z2) := by
      rw [goneTo_m hlt.2 (dw_e _).2, Om_core C2, gone_eq hO hlt.2 (dw_e _).2]
    have K2 : gI (pI (pI s 45 37 (nxz x1)) 45 37 z2) 45 37 = z2 := gI_pI_eq
    rw [← hz] at hB
    have ga := gos_or (Op L) xa (dw (nxz x1))
    have gb := gos_or (Op L) xb (dw z2)
    rw [← hA] at ga
    rw [← hB] at gb
    refine ⟨pI (pI s 45 37 (nxz x1)) 45 37 z2, ⟨C2, K2⟩, ?_⟩
    show mX11_seeds_74 J53 y11 J xn xw (nI xa) (nI xb) (nI i) s = J n' w' (nI A) (nI B) (nI (i + 1)) (pI (pI s 45 37 (nxz x1)) 45 37 z2)
    unfold mX11_seeds_74
    rw [if_neg (lt20 (show i < 20 by omega)), D1, cl2_e, G1, cl2_e, D2, cl2_e, G2, cl2_e, kl_e]
    generalize pI (pI s 45 37 (nxz x1)) 45 37 z2 = S at *
    generalize gone (Op L) xa (dw (nxz x1)) = gA at *
    generalize gone (Op L) xb (dw z2) = gB at *
    have M : lm S = L := by rw [lm_core C2, hl]
    have key : mX11_seeds_133 (nI A) xn xw J (nI i) (nI B) S = J n' w' (nI A) (nI B) (nI (i + 1)) S := by
      unfold mX11_seeds_133 mX11_seeds_157 mX11_seeds_182
      simp only [kl_e, far_m hAl hBl, cl2_e, M, lm_s (σ := S) (k := 3) (by omega), lm_s (σ := S) (k := 4) (by omega), nI_1]
      rw [hn', hw', ← add_if, ← add_if]
      by_cases c1 : Fr L A B < ls L 3
      · rw [if_neg (Int32.not_le.2 c1), if_pos c1]
        by_cases c2 : ls L 4 < Fr L A B
        · rw [if_neg (Int32.not_le.2 c2), if_pos c2]
        · rw [if_pos (Int32.not_lt.1 c2), if_neg c2]
      · rw [if_pos (Int32.not_lt.1 c1), if_neg c1]
        by_cases c2 : ls L 4 < Fr L A B
        · rw [if_neg (Int32.not_le.2 c2), if_pos c2]
        · rw [if_pos (Int32.not_lt.1 c2), if_neg c2]
    have k119 : ∀ v, v = nI A → mX11_seeds_119 xn xw J (nI i) (oi gB) (nI xb) v S = J n' w' (nI A) (nI B) (nI (i + 1)) S := by
      intro v hv
      rw [hv]
      unfold mX11_seeds_119
      rw [kl_e]
      rcases gb with ⟨v1, v2⟩ | ⟨e', v1, v2⟩
      · rw [v1, if_neg (show ¬ 0 ≤ oi none by decide), ← v2]
        exact key
      · rw [v1, ← v2, if_pos (show 0 ≤ oi (some B) from nI_pos' (by omega))]
        exact key
    rcases ga with ⟨v1, v2⟩ | ⟨e', v1, v2⟩
    · rw [v1, if_neg (show ¬ 0 ≤ oi none by decide), ← v2]
      exact k119 _ rfl
    · rw [v1, ← v2, if_pos (show 0 ≤ oi (some A) from nI_pos' (by omega))]
      exact k119 _ rfl
  · intro s ⟨g1, g2⟩ J
    refine ⟨s, ?_, g1, g2⟩
    show mX11_seeds_74 J53 y11 J _ _ _ _ (nI nd) s = _
    unfold mX11_seeds_74
    rw [if_pos (show (20 : Int32) ≤ nI nd by rw [hn]; exact at20)]
theorem seeds_m {L : Ld} {p q k nd : Nat} {z a3 : Int32} {σ s0 : St} (hn : nd = 20) (hk : k ≤ 20) (hp : p < 36) (hq : q < 36) (hl : lm σ = L) (hO : ∀ c, c < 36 → Om σ c = Op L c) (e5 : ls L 5 = nI p) (e6 : ls L 6 = nI q) (h0 : core s0 = core σ) (hz : gI s0 45 37 = z) : ∃ τ, (lp (fun _ _ _ _ => none) (mX11_seeds_53 (nI k) a3) 2000) (0 : Int32) (0 : Int32) (0 : Int32) s0 = some (if a3 = 0 then (itn (wkS nd L p q) k (z, 0, 0)).2.1 else (itn (wkS nd L p q) k (z, 0, 0)).2.2, τ) ∧ core τ = core σ := by
  refine lp_rel (app := fun i (s : St) (J : Int32 → Int32 → Int32 → St → Option (Int32 × St)) => J (itn (wkS nd L p q) i (z, 0, 0)).2.1 (itn (wkS nd L p q) i (z, 0, 0)).2.2 (nI i) s) (P := fun i s => core s = core σ ∧ gI s 45 37 = (itn (wkS nd L p q) i (z, 0, 0)).1) k (Q := fun r => ∃ τ, r = some (if a3 = 0 then (itn (wkS nd L p q) k (z, 0, 0)).2.1 else (itn (wkS nd L p q) k (z, 0, 0)).2.2, τ) ∧ core τ = core σ) ?_ ?_ 2000 (by omega) s0 ⟨h0, hz⟩
  · intro i s hi ⟨g1, g2⟩ J
    rw [itn_s]
    generalize itn (wkS nd L p q) i (z, 0, 0) = y at g2
    obtain ⟨r, hr, hw⟩ := wkS_x nd L p q y
    rw [hw]
    obtain ⟨y1, yn, yw⟩ := y
    simp only at g2 hr
    have s5 : gI s 45 5 = nI p := by rw [lm_s (by omega), lm_core g1, hl, e5]
    have s6 : gI s 45 6 = nI q := by rw [lm_s (by omega), lm_core g1, hl, e6]
    obtain ⟨τ, t1, t2, t3⟩ := day_m (L := L) (z := y1) (n := yn) (w := yw) (y11 := nI i) (J53 := J) (σ := σ) hn hp hq hl hO g1 g2
    rw [hr] at t1 t3
    refine ⟨τ, ⟨t2, t3⟩, ?_⟩
    show mX11_seeds_53 (nI k) a3 J yn yw (nI i) s = J r.2.2.2.1 r.2.2.2.2 (nI (i + 1)) τ
    unfold mX11_seeds_53
    rw [if_neg (nI_ge hi (by omega)), kl_e, s5, kl_e, s6, kl_e, t1, nI_1]
  · intro s ⟨g1, g2⟩ J
    refine ⟨s, ?_, g1⟩
    show mX11_seeds_53 (nI k) a3 J _ _ (nI k) s = _
    unfold mX11_seeds_53
    rw [if_pos (Int32.le_refl _)]
    by_cases y : a3 = 0
    · rw [if_pos y, if_pos y]
    · rw [if_neg y, if_neg y]
theorem s_seeds : stp332 Inv mX10_seeds mX11_seeds := by
  intro σ a b c hI
  have jc : ∀ τ, mX11_in c.toInt64 (0 : Int64) (1 : Int64) τ = some (b2 (inR c 0 1), τ) := fun τ => in_m c 0 1 τ
  have ja : ∀ τ, mX11_in a.toInt64 (1 : Int64) (20 : Int64) τ = some (b2 (inR a 1 20), τ) := fun τ => in_m a 1 20 τ
  by_cases a1 : a < 1
  · have h : inR a 1 20 = false := by unfold inR; rw [decide_eq_false (Int32.not_le.2 a1)]; rfl
    refine ag (f := mX10_seeds a b c) (g := mX11_seeds a b c) (v := -1) (ρ := σ) (τ := pI σ 45 16 0) ?_ ?_ c16 hI
    · unfold mX10_seeds
      rw [if_pos a1]
    · unfold mX11_seeds
      simp only [ja, h, b2_f, cl2_e, kl_e, ite_true]
  by_cases a2 : 20 < a
  · have h : inR a 1 20 = false := by unfold inR; rw [decide_eq_false (Int32.not_le.2 a2), Bool.and_false]
    refine ag (f := mX10_seeds a b c) (g := mX11_seeds a b c) (v := -1) (ρ := σ) (τ := pI σ 45 16 0) ?_ ?_ c16 hI
    · unfold mX10_seeds
      rw [if_neg a1, if_pos a2]
    · unfold mX11_seeds
      simp only [ja, h, b2_f, cl2_e, kl_e, ite_true]
  have ha : inR a 1 20 = true := by unfold inR; rw [decide_eq_true (Int32.not_lt.1 a1), decide_eq_true (Int32.not_lt.1 a2)]; rfl
  have a0 : ¬ a < 0 := by
    intro z
    rw [Int32.lt_iff_toInt_lt] at z a1
    have z1 : (1 : Int32).toInt = 1 := rfl
    have z0 : (0 : Int32).toInt = 0 := rfl
    omega
  obtain ⟨k, hk, rfl⟩ := nI_of2 (M := 20) (n := 20) rfl a0 (Int32.not_lt.1 a2)
  cases h : inR c 0 1
  · refine ag (f := mX10_seeds (nI k) b c) (g := mX11_seeds (nI k) b c) (v := -1) (ρ := σ) (τ := pI σ 45 16 0) ?_ ?_ c16 hI
    · unfold mX10_seeds
      rw [if_neg a1, if_neg a2]
      simp only [either_c, h, b2_f, cl2_e, ite_true]
    · unfold mX11_seeds
      simp only [ja, ha, b2_t, if_neg n10, jc, h, b2_f, cl2_e, kl_e, ite_true]
  rcases both_or hI with ⟨y1, y2⟩ | ⟨p, q, hp, hq, e5, e6, y1, y2⟩
  · refine ag (f := mX10_seeds (nI k) b c) (g := mX11_seeds (nI k) b c) (v := -3) (ρ := σ) (τ := pI σ 45 16 0) ?_ ?_ c16 hI
    · unfold mX10_seeds
      rw [if_neg a1, if_neg a2]
      simp only [either_c, h, b2_t, if_neg n10, cl2_e, y1, ite_true]
    · unfold mX11_seeds
      simp only [ja, ha, jc, h, b2_t, if_neg n10, cl2_e, kl_e, y2 (pI σ 45 16 0) (by rw [lm_16, hI.1]), ite_true]
  · obtain ⟨nd, hn⟩ : ∃ nd : Nat, nd = 20 := ⟨20, rfl⟩
    obtain ⟨ρ, r1, r2, r3⟩ := becomes_c (o := 3) (o' := 1) (by omega) (by omega) (by omega) (by omega) (by omega) σ
    have hc : core (pI (pI ρ 3 8 0) 3 9 0) = core σ := by rw [core_pI rfl, core_pI rfl, core_Fo3 r3]
    obtain ⟨τ, t1, t2⟩ := seeds_c (L := ld σ 1) (z := b) (a3 := c) (σ := σ) (s0 := pI (pI ρ 3 8 0) 3 9 0) hn hk hp hq rfl e5 e6 hc (by rw [ld_pI (by omega), ld_pI (by omega), r2, sl_0 e5 e6])
    have hcp : core (pI τ 45 16 0) = core σ := by rw [c16, t2]
    have hl : lm (pI τ 45 16 0) = ld σ 1 := by rw [lm_core hcp, hI.1]
    obtain ⟨π, u1, u2⟩ := seeds_m (L := ld σ 1) (z := b) (a3 := c) (σ := σ) (s0 := pI (pI τ 45 16 0) 45 37 b) hn hk hp hq hI.1.symm (fun c hc => Inv_Om hI hc) e5 e6 (by rw [c37, hcp]) gI_pI_eq
    refine ag (f := mX10_seeds (nI k) b c) (g := mX11_seeds (nI k) b c) (v := if c = 0 then (itn (wkS nd (ld σ 1) p q) k (b, 0, 0)).2.1 else (itn (wkS nd (ld σ 1) p q) k (b, 0, 0)).2.2) (ρ := τ) (τ := π) ?_ ?_ u2 hI
    · unfold mX10_seeds
      rw [if_neg a1, if_neg a2]
      simp only [either_c, h, b2_t, if_neg n10, cl2_e, y1, r1, cl1_e, kl_e, t1]
    · unfold mX11_seeds
      simp only [ja, ha, jc, h, b2_t, if_neg n10, cl2_e, kl_e, y2 _ hl, u1]
