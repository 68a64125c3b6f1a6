/-! ===== PURE: the land, what a cell is, both sides' small methods ===== -/
theorem l3 (x y : Int64) : (y < x ∧ ¬ x < y ∧ ¬ x = y) ∨ (¬ y < x ∧ ¬ x < y ∧ x = y) ∨ (¬ y < x ∧ x < y ∧ ¬ x = y) := by
  rw [Int64.lt_iff_toInt_lt, Int64.lt_iff_toInt_lt, ← Int64.toInt_inj]
  omega
theorem lg_lt (x y : Int64) : (lg_cmp x y < 0) = (x < y) := by
  unfold lg_cmp
  rcases l3 x y with ⟨h1, h2, h3⟩ | ⟨h1, h2, h3⟩ | ⟨h1, h2, h3⟩
  · simp [h1, h2]
  · subst h3; simp [h1]
  · simp [h1, h2, h3]
theorem lg_0 (x y : Int64) : (lg_cmp x y = 0) = (x = y) := by
  unfold lg_cmp
  rcases l3 x y with ⟨h1, h2, h3⟩ | ⟨h1, h2, h3⟩ | ⟨h1, h2, h3⟩
  · simp [h1, h3]
  · subst h3; simp [h1]
  · simp [h1, h3]
theorem lg_gt (x y : Int64) : (0 < lg_cmp x y) = (y < x) := by
  unfold lg_cmp
  rcases l3 x y with ⟨h1, h2, h3⟩ | ⟨h1, h2, h3⟩ | ⟨h1, h2, h3⟩
  · simp [h1]
  · subst h3; simp [h1]
  · simp [h1, h3]
theorem lg_le0 (x y : Int64) : (0 ≤ lg_cmp x y) = (y ≤ x) := by
  have := lg_lt x y
  apply propext
  rw [← Int32.not_lt, ← Int64.not_lt, this]
theorem lg_le (x y : Int64) : (lg_cmp x y ≤ 0) = (x ≤ y) := by
  have := lg_gt x y
  apply propext
  rw [← Int32.not_lt, ← Int64.not_lt, this]
theorem il_lt (a b : Int32) : (a.toInt64 < b.toInt64) = (a < b) := by
  apply propext
  rw [Int64.lt_iff_toInt_lt, Int32.lt_iff_toInt_lt, Int32.toInt_toInt64, Int32.toInt_toInt64]
theorem il_le (a b : Int32) : (a.toInt64 ≤ b.toInt64) = (a ≤ b) := by
  apply propext
  rw [Int64.le_iff_toInt_le, Int32.le_iff_toInt_le, Int32.toInt_toInt64, Int32.toInt_toInt64]
/-- between two ints, as a truth -/
def inR (a lo hi : Int32) : Bool := decide (lo ≤ a) && decide (a ≤ hi)
theorem in_m (a lo hi : Int32) (σ : St) : mX11_in a.toInt64 lo.toInt64 hi.toInt64 σ = some (b2 (inR a lo hi), σ) := by
  unfold mX11_in
  simp only [lg_lt, lg_gt, il_lt]
  unfold inR
  by_cases h : a < lo
  · rw [if_pos h]; simp [Int32.not_le.2 h, b2, rz_0]
  · rw [if_neg h]
    by_cases h2 : hi < a
    · rw [if_pos h2]; simp [Int32.not_le.2 h2, b2, rz_0]
    · rw [if_neg h2]; simp [Int32.not_lt.1 h, Int32.not_lt.1 h2, b2, rz_1]
theorem isCell_c (a : Int32) (σ : St) : mX10_isCell a.toInt64 σ = some (b2 (inR a 0 35), σ) := by
  unfold mX10_isCell
  simp only [lg_lt, lg_le0, show (0 : Int64) = (0 : Int32).toInt64 from rfl, show (36 : Int64) = (36 : Int32).toInt64 from rfl, il_lt, il_le]
  unfold inR
  have e : (a ≤ 35) = ¬ (36 ≤ a) := by
    apply propext
    rw [Int32.le_iff_toInt_le, Int32.le_iff_toInt_le, show (35 : Int32).toInt = 35 from rfl, show (36 : Int32).toInt = 36 from rfl]
    omega
  by_cases h : a < 0
  · rw [if_pos h]; simp [Int32.not_le.2 h, b2, rz_0]
  · rw [if_neg h]
    by_cases h2 : 36 ≤ a
    · rw [if_pos h2]; simp [e, h2, b2, rz_0]
    · rw [if_neg h2]; simp [e, Int32.not_lt.1 h, h2, b2, rz_1]
theorem isCell_m (a : Int32) (σ : St) : mX11_isCell a.toInt64 σ = some (b2 (inR a 0 35), σ) := by
  unfold mX11_isCell
  rw [show (0 : Int64) = (0 : Int32).toInt64 from rfl, show (35 : Int64) = (35 : Int32).toInt64 from rfl, in_m, cl2_e, rz_b]
theorem inR_n {a : Int32} {n : Nat} (hn : n < 2 ^ 31 - 1) : inR a 0 (nI n) = true ↔ ∃ j, j < n + 1 ∧ a = nI j := by
  unfold inR
  constructor
  · intro h
    rw [Bool.and_eq_true, decide_eq_true_eq, decide_eq_true_eq] at h
    obtain ⟨j, h1, h2⟩ := nI_of (x := a) (Int32.not_lt.2 h.1)
    subst h2
    refine ⟨j, ?_, rfl⟩
    have := (nI_leI h1 (by omega)).1 h.2
    omega
  · rintro ⟨j, h1, rfl⟩
    rw [Bool.and_eq_true, decide_eq_true_eq, decide_eq_true_eq]
    exact ⟨nI_pos' (by omega), nI_le (by omega) (by omega)⟩
theorem inR_f {a : Int32} {n : Nat} (hn : n < 2 ^ 31 - 1) (h : ∀ j, j < n + 1 → a ≠ nI j) : inR a 0 (nI n) = false := by
  cases e : inR a 0 (nI n)
  · rfl
  · obtain ⟨j, h1, h2⟩ := (inR_n hn).1 e
    exact absurd h2 (h j h1)
/-- a is one of the first n, or not -/
theorem inR_or (a : Int32) (n : Nat) (hn : n < 2 ^ 31 - 1) : (inR a 0 (nI n) = false ∧ ∀ j, j < n + 1 → a ≠ nI j) ∨ ∃ j, j < n + 1 ∧ a = nI j ∧ inR a 0 (nI n) = true := by
  cases e : inR a 0 (nI n)
  · exact Or.inl ⟨rfl, fun j hj q => by rw [(inR_n hn).2 ⟨j, hj, q⟩] at e; cases e⟩
  · obtain ⟨j, h1, h2⟩ := (inR_n hn).1 e
    exact Or.inr ⟨j, h1, h2, rfl⟩
theorem b2_t : b2 true = 1 := rfl
theorem b2_f : b2 false = 0 := rfl
/-- the land: kinds, figures, and its eight numbers -/
abbrev Ld : Type := (Nat → Int32) × (Nat → Int32) × (Nat → Int32)
def ld (σ : St) (o : Nat) : Ld := (fun c => if c < 36 then gA σ (o + 3) c else 0, fun c => if c < 36 then gA σ (o + 6) c else 0, fun k => if 2 ≤ k ∧ k < 10 then gI σ o k else 0)
def lm (σ : St) : Ld := (fun c => if c < 36 then gA σ 46 c else 0, fun c => if c < 36 then gA σ 47 c else 0, fun k => if 2 ≤ k ∧ k < 10 then gI σ 45 k else 0)
def lk (L : Ld) (c : Nat) : Int32 := L.1 c
def lf (L : Ld) (c : Nat) : Int32 := L.2.1 c
def ls (L : Ld) (k : Nat) : Int32 := L.2.2 k
theorem ld_k {σ : St} {o c : Nat} (h : c < 36) : gA σ (o + 3) c = lk (ld σ o) c := by simp [lk, ld, h]
theorem ld_f {σ : St} {o c : Nat} (h : c < 36) : gA σ (o + 6) c = lf (ld σ o) c := by simp [lf, ld, h]
theorem ld_s {σ : St} {o k : Nat} (h : 2 ≤ k ∧ k < 10) : gI σ o k = ls (ld σ o) k := by simp [ls, ld, h]
theorem lm_k {σ : St} {c : Nat} (h : c < 36) : gA σ 46 c = lk (lm σ) c := by simp [lk, lm, h]
theorem lm_f {σ : St} {c : Nat} (h : c < 36) : gA σ 47 c = lf (lm σ) c := by simp [lf, lm, h]
theorem lm_s {σ : St} {k : Nat} (h : 2 ≤ k ∧ k < 10) : gI σ 45 k = ls (lm σ) k := by simp [ls, lm, h]
/-! height, chance, passable, far, over the land -/
def hv (k f : Int32) : Int32 := if k = 2 then 2 else if k = 3 then 2 + f else if k = 4 then (2 + f) / 2 else if k = 6 then 1 else 0
def cv (k f : Int32) : Int32 := if k = 2 then 9 else if k = 3 then 5 else if k = 4 then 5 + f / 3 else if k = 5 then 0 else if k = 6 then 8 else if k = 7 then 10 - f else 10
def ov (k f w : Int32) : Bool := if k = 3 then decide (w = 0) else if k = 4 then (decide (f ≤ 4) || decide (w = 0)) else if k = 5 then decide (w = 1) else true
def Hh (L : Ld) (c : Nat) : Int32 := hv (lk L c) (lf L c)
def Ch (L : Ld) (c : Nat) : Int32 := cv (lk L c) (lf L c)
def Op (L : Ld) (c : Nat) : Bool := ov (lk L c) (lf L c) (ls L 2)
def iabs (x : Int32) : Int32 := if 0 ≤ x then x else 0 - x
def Fr (L : Ld) (a b : Nat) : Int32 := (iabs (nI a / 6 - nI b / 6) + iabs ((nI a - nI a / 6 * 6) - (nI b - nI b / 6 * 6))) + iabs (Hh L a - Hh L b) / 2
def Off (L : Ld) (a b : Nat) : Bool := decide (Fr L a b < ls L 3) || decide (ls L 4 < Fr L a b)
theorem heightOf_c (k f : Int32) (σ : St) : mX2_heightOf k f σ = some (hv k f, σ) := by
  unfold mX2_heightOf hv
  repeat' split
  all_goals rfl
theorem chanceOf_c (k f : Int32) (σ : St) : mX2_chanceOf k f σ = some (cv k f, σ) := by
  unfold mX2_chanceOf cv
  repeat' split
  all_goals rfl
theorem isOpen_c0 (k f w : Int32) (σ : St) : mX2_isOpen k f w σ = some (b2 (ov k f w), σ) := by
  unfold mX2_isOpen mX2_isOpen_47 ov
  simp only [kl_e]
  by_cases h3 : k = 3
  · simp only [if_pos h3]; by_cases hw : w = 0 <;> simp [hw, rz_0, rz_1, b2]
  · simp only [if_neg h3]
    by_cases h4 : k = 4
    · simp only [if_pos h4]; by_cases hf : f ≤ 4 <;> by_cases hw : w = 0 <;> simp [hf, hw, rz_0, rz_1, b2]
    · simp only [if_neg h4]
      by_cases h5 : k = 5
      · simp only [if_pos h5]; by_cases hw : w = 1 <;> simp [hw, rz_0, rz_1, b2]
      · simp only [if_neg h5]; rfl
theorem ldA_36 {ρ : Type} {σ : St} {a i : Nat} {f : Int32 → Option ρ} (h : i < 36) : ldA σ a 36 (nI i) f = f (gA σ a i) := ldA_n h (by omega)
theorem stA_36 {ρ : Type} {σ : St} {a i : Nat} {v : Int32} {f : St → Option ρ} (h : i < 36) : stA σ a 36 (nI i) v f = f (pA σ a i v) := stA_n h (by omega)
theorem cell_c {c : Nat} (h : c < 36) (σ : St) : mX10_isCell (nI c).toInt64 σ = some (1, σ) := by
  rw [isCell_c, show (35 : Int32) = nI 35 from rfl, (inR_n (by omega)).2 ⟨c, h, rfl⟩]; rfl
theorem cell_m {c : Nat} (h : c < 36) (σ : St) : mX11_isCell (nI c).toInt64 σ = some (1, σ) := by
  rw [isCell_m, show (35 : Int32) = nI 35 from rfl, (inR_n (by omega)).2 ⟨c, h, rfl⟩]; rfl
theorem n10 : ¬ (1 : Int32) = 0 := by decide
theorem heightAt_c {o c : Nat} (h : c < 36) (σ : St) : mX3_heightAt o (nI c) σ = some (Hh (ld σ o) c, σ) := by
  unfold mX3_heightAt
  simp only [cell_c h, cl2_e, if_neg n10, ldA_36 h, heightOf_c, ld_f h, Hh]
  simp only [ld_k h]
theorem chanceAt_c {o c : Nat} (h : c < 36) (σ : St) : mX3_chanceAt o (nI c) σ = some (Ch (ld σ o) c, σ) := by
  unfold mX3_chanceAt
  simp only [cell_c h, cl2_e, if_neg n10, ldA_36 h, chanceOf_c, ld_f h, Ch]
  simp only [ld_k h]
theorem kindAt_c {o c : Nat} (h : c < 36) (σ : St) : mX3_kindAt o (nI c) σ = some (lk (ld σ o) c, σ) := by
  unfold mX3_kindAt
  simp only [cell_c h, cl2_e, if_neg n10, ldA_36 h, ld_k h]
theorem figureAt_c {o c : Nat} (h : c < 36) (σ : St) : mX3_figureAt o (nI c) σ = some (lf (ld σ o) c, σ) := by
  unfold mX3_figureAt
  simp only [cell_c h, cl2_e, if_neg n10, ldA_36 h, ld_f h]
theorem b2_c {b : Bool} {α : Type} {x y : α} : (if b2 b = 0 then x else y) = if b = true then y else x := by cases b <;> rfl
theorem isOpen_c {o c : Nat} (h : c < 36) (σ : St) : mX3_isOpen o (nI c) σ = some (b2 (Op (ld σ o) c), σ) := by
  unfold mX3_isOpen
  simp only [cell_c h, cl2_e, if_neg n10, ldA_36 h, kl_e, isOpen_c0, ld_f h, ld_s (σ := σ) (o := o) (k := 2) (by omega), Op, b2_c]
  simp only [ld_k h]
  cases ov (lk (ld σ o) c) (lf (ld σ o) c) (ls (ld σ o) 2) <;> rfl
theorem far_c {o a b : Nat} (ha : a < 36) (hb : b < 36) (σ : St) : mX3_farBetween o (nI a) (nI b) σ = some (Fr (ld σ o) a b, σ) := by
  unfold mX3_farBetween mX7_apart
  simp only [cl2_e, heightAt_c ha, heightAt_c hb]
  rfl
theorem height_m {c : Nat} (h : c < 36) (σ : St) : mX11_heightOf (nI c) σ = some (Hh (lm σ) c, σ) := by
  unfold mX11_heightOf
  simp only [ldA_36 h, lm_k h, lm_f h, Hh, hv]
  repeat' split
  all_goals rfl
theorem chance_m {c : Nat} (h : c < 36) (σ : St) : mX11_chanceOf (nI c) σ = some (Ch (lm σ) c, σ) := by
  unfold mX11_chanceOf
  simp only [ldA_36 h, lm_k h, lm_f h, Ch, cv]
  repeat' split
  all_goals rfl
theorem isOpen_m {c : Nat} (h : c < 36) (σ : St) : mX11_isOpen (nI c) σ = some (b2 (decide (nI c = gI σ 45 17) || Op (lm σ) c), σ) := by
  unfold mX11_isOpen mX11_isOpen_74
  simp only [kl_e, ldA_36 h, lm_k h, lm_f h, lm_s (σ := σ) (k := 2) (by omega), Op, ov]
  by_cases ht : nI c = gI σ 45 17
  · simp [ht, rz_1, b2]
  · simp only [if_neg ht]
    generalize lk (lm σ) c = k
    generalize lf (lm σ) c = f
    generalize ls (lm σ) 2 = w
    by_cases h3 : k = 3
    · simp only [if_pos h3]; by_cases hw : w = 0 <;> simp [ht, hw, rz_0, rz_1, b2]
    · simp only [if_neg h3]
      by_cases h4 : k = 4
      · simp only [if_pos h4]
        by_cases hf : f ≤ 4
        · have := Int32.not_lt.2 hf
          by_cases hw : w = 0 <;> simp [ht, hf, hw, this, rz_1, b2]
        · have := Int32.not_le.1 hf
          by_cases hw : w = 0 <;> simp [ht, hf, hw, this, rz_0, rz_1, b2]
      · simp only [if_neg h4]
        by_cases h5 : k = 5
        · simp only [if_pos h5]; by_cases hw : w = 1 <;> simp [ht, hw, rz_0, rz_1, b2]
        · simp only [if_neg h5]; simp [ht, rz_1, b2]
theorem plainly_m (x : Int32) (σ : St) : mX11_plainly x σ = some (iabs x, σ) := by
  unfold mX11_plainly iabs
  by_cases h : 0 ≤ x
  · simp [h]
  · simp [h]
theorem far_m {a b : Nat} (ha : a < 36) (hb : b < 36) (σ : St) : mX11_farOf (nI a) (nI b) σ = some (Fr (lm σ) a b, σ) := by
  unfold mX11_farOf
  simp only [cl2_e, plainly_m, height_m ha, height_m hb]
  rfl
theorem isOff_m {a b : Nat} (ha : a < 36) (hb : b < 36) (σ : St) : mX11_isOff (nI a) (nI b) σ = some (b2 (Off (lm σ) a b), σ) := by
  unfold mX11_isOff mX11_isOff_26
  simp only [cl2_e, kl_e, far_m ha hb, lm_s (σ := σ) (k := 3) (by omega), lm_s (σ := σ) (k := 4) (by omega), Off]
  by_cases h1 : Fr (lm σ) a b < ls (lm σ) 3
  · simp [h1, rz_1, b2]
  · by_cases h2 : Fr (lm σ) a b ≤ ls (lm σ) 4
    · simp [h1, h2, Int32.not_lt.2 h2, rz_0, b2]
    · simp [h1, h2, Int32.not_le.1 h2, rz_1, b2]
/-! what lasts between calls: the rest is scratch -/
def keI (o k : Nat) : Bool := (decide (o < 18) && !decide (o = 3)) || (decide (o = 45) && ((decide (2 ≤ k) && decide (k < 10)) || decide (k = 17) || decide (k = 27)))
def keA (a : Nat) : Bool := decide (a = 4) || decide (a = 5) || decide (a = 7) || decide (a = 8) || (decide (46 ≤ a) && decide (a ≤ 52)) || decide (a = 58)
def keL (a : Nat) : Bool := (decide (19 ≤ a) && decide (a < 27)) || decide (a = 53)
abbrev Cr : Type := (Nat → Nat → Int32) × (Nat → Nat → Int32) × (Nat → Nat → Int64)
def core (σ : St) : Cr := (fun o k => if keI o k then gI σ o k else 0, fun a i => if keA a then gA σ a i else 0, fun a i => if keL a then gL σ a i else 0)
theorem core_I {σ τ : St} (h : core σ = core τ) (o k : Nat) (e : keI o k = true) : gI σ o k = gI τ o k := by
  have := congrFun (congrFun (congrArg Prod.fst h) o) k
  simpa [core, e] using this
theorem core_A {σ τ : St} (h : core σ = core τ) (a i : Nat) (e : keA a = true) : gA σ a i = gA τ a i := by
  have := congrFun (congrFun (congrArg (fun x => x.2.1) h) a) i
  simpa [core, e] using this
theorem core_L {σ τ : St} (h : core σ = core τ) (a i : Nat) (e : keL a = true) : gL σ a i = gL τ a i := by
  have := congrFun (congrFun (congrArg (fun x => x.2.2) h) a) i
  simpa [core, e] using this
theorem core_pI {σ : St} {o k : Nat} {v : Int32} (e : keI o k = false) : core (pI σ o k v) = core σ := by
  unfold core
  refine Prod.ext ?_ rfl
  funext o' k'
  show (if keI o' k' = true then gI (pI σ o k v) o' k' else 0) = if keI o' k' = true then gI σ o' k' else 0
  by_cases h : o' = o ∧ k' = k
  · obtain ⟨rfl, rfl⟩ := h
    simp [e]
  · rw [gI_pI, if_neg h]
theorem core_pA {σ : St} {a i : Nat} {v : Int32} (e : keA a = false) : core (pA σ a i v) = core σ := by
  unfold core
  refine Prod.ext rfl (Prod.ext ?_ rfl)
  funext a' i'
  show (if keA a' = true then gA (pA σ a i v) a' i' else 0) = if keA a' = true then gA σ a' i' else 0
  by_cases h : a' = a ∧ i' = i
  · obtain ⟨rfl, rfl⟩ := h
    simp [e]
  · rw [gA_pA, if_neg h]
theorem core_pL {σ : St} {a i : Nat} {v : Int64} (e : keL a = false) : core (pL σ a i v) = core σ := by
  unfold core
  refine Prod.ext rfl (Prod.ext rfl ?_)
  funext a' i'
  show (if keL a' = true then gL (pL σ a i v) a' i' else 0) = if keL a' = true then gL σ a' i' else 0
  by_cases h : a' = a ∧ i' = i
  · obtain ⟨rfl, rfl⟩ := h
    simp [e]
  · rw [gL_pL, if_neg h]
theorem core_pK {σ : St} {n : Nat} : core (pK σ n) = core σ := rfl
theorem core_sL {σ : St} {a : Nat} {f : Nat → Int64} (e : keL a = false) : core (sL σ a f) = core σ := by
  unfold core
  refine Prod.ext rfl (Prod.ext rfl ?_)
  funext a' i'
  show (if keL a' = true then gL (sL σ a f) a' i' else 0) = if keL a' = true then gL σ a' i' else 0
  by_cases h : a' = a
  · subst h; simp [e]
  · rw [gL_sL, if_neg h]
theorem ld_core {σ τ : St} (h : core σ = core τ) : ld σ 1 = ld τ 1 := by
  unfold ld
  refine Prod.ext (funext fun c => ?_) (Prod.ext (funext fun c => ?_) (funext fun k => ?_))
  · show (if c < 36 then gA σ 4 c else 0) = if c < 36 then gA τ 4 c else 0
    rw [core_A h 4 c rfl]
  · show (if c < 36 then gA σ 7 c else 0) = if c < 36 then gA τ 7 c else 0
    rw [core_A h 7 c rfl]
  · show (if 2 ≤ k ∧ k < 10 then gI σ 1 k else 0) = if 2 ≤ k ∧ k < 10 then gI τ 1 k else 0
    rw [core_I h 1 k rfl]
theorem lm_core {σ τ : St} (h : core σ = core τ) : lm σ = lm τ := by
  unfold lm
  refine Prod.ext (funext fun c => ?_) (Prod.ext (funext fun c => ?_) (funext fun k => ?_))
  · show (if c < 36 then gA σ 46 c else 0) = if c < 36 then gA τ 46 c else 0
    rw [core_A h 46 c rfl]
  · show (if c < 36 then gA σ 47 c else 0) = if c < 36 then gA τ 47 c else 0
    rw [core_A h 47 c rfl]
  · show (if 2 ≤ k ∧ k < 10 then gI σ 45 k else 0) = if 2 ≤ k ∧ k < 10 then gI τ 45 k else 0
    by_cases hk : 2 ≤ k ∧ k < 10
    · rw [core_I h 45 k (by simp [keI, hk])]
    · simp [hk]
