/-! the state of all cells by their ids: int fields, int rows, long rows, and the model's row that is kept in; the programs over it; the world -/
abbrev St : Type := (Nat → Nat → Int32) × (Nat → Nat → Int32) × (Nat → Nat → Int64) × Nat
def fu {α : Type} (f : Nat → α) (a : Nat) (v : α) : Nat → α := fun b => if b = a then v else f b
def gI (σ : St) (o k : Nat) : Int32 := σ.1 o k
def gA (σ : St) (a i : Nat) : Int32 := σ.2.1 a i
def gL (σ : St) (a i : Nat) : Int64 := σ.2.2.1 a i
def pI (σ : St) (o k : Nat) (v : Int32) : St := (fu σ.1 o (upd (σ.1 o) k v), σ.2)
def pA (σ : St) (a i : Nat) (v : Int32) : St := (σ.1, fu σ.2.1 a (upd (σ.2.1 a) i v), σ.2.2)
def pL (σ : St) (a i : Nat) (v : Int64) : St := (σ.1, σ.2.1, fu σ.2.2.1 a (vp_updL (σ.2.2.1 a) i v), σ.2.2.2)
def pK (σ : St) (n : Nat) : St := (σ.1, σ.2.1, σ.2.2.1, n)
def sL (σ : St) (a : Nat) (f : Nat → Int64) : St := (σ.1, σ.2.1, fu σ.2.2.1 a f, σ.2.2.2)
/-! what the programs are made of -/
def kl {α : Type} {β : Type} (a : α) (f : α → β) : β := f a
def cl2 {α ρ : Type} (x : Option (α × St)) (f : α → St → Option ρ) : Option ρ := x.bind (fun q => f q.1 q.2)
def cl1 {ρ : Type} (x : Option St) (f : St → Option ρ) : Option ρ := x.bind f
def ldA {ρ : Type} (σ : St) (a n : Nat) (i : Int32) (f : Int32 → Option ρ) : Option ρ := if i < 0 ∨ n ≤ i.toNatClampNeg then none else f (gA σ a i.toNatClampNeg)
def ldL {ρ : Type} (σ : St) (a n : Nat) (i : Int32) (f : Int64 → Option ρ) : Option ρ := if i < 0 ∨ n ≤ i.toNatClampNeg then none else f (gL σ a i.toNatClampNeg)
def ldR {ρ : Type} (i : Int32) (f : Nat → Option ρ) : Option ρ := if i < 0 ∨ 8 ≤ i.toNatClampNeg then none else f (10 + i.toNatClampNeg)
def stA {ρ : Type} (σ : St) (a n : Nat) (i v : Int32) (f : St → Option ρ) : Option ρ := if i < 0 ∨ n ≤ i.toNatClampNeg then none else f (pA σ a i.toNatClampNeg v)
def stL {ρ : Type} (σ : St) (a n : Nat) (i : Int32) (v : Int64) (f : St → Option ρ) : Option ρ := if i < 0 ∨ n ≤ i.toNatClampNeg then none else f (pL σ a i.toNatClampNeg v)
def stZ {ρ : Type} (σ : St) (o k : Nat) (v : Int32) (f : St → Option ρ) : Option ρ := if v = 0 ∨ v = 1 then f (pI σ o k v) else none
def gK {ρ : Type} (σ : St) (f : Nat → Option ρ) : Option ρ := if σ.2.2.2 = 57 ∨ σ.2.2.2 = 58 then f σ.2.2.2 else none
def cpL {ρ : Type} (σ : St) (a n : Nat) (sp : Int32) (b m : Nat) (dp k : Int32) (f : St → Option ρ) : Option ρ := if sp < 0 ∨ dp < 0 ∨ k < 0 ∨ n < sp.toNatClampNeg + k.toNatClampNeg ∨ m < dp.toNatClampNeg + k.toNatClampNeg then none else f (sL σ b (va_cpy (σ.2.2.1 a) (σ.2.2.1 b) sp.toNatClampNeg dp.toNatClampNeg k.toNatClampNeg))
def dvI {ρ : Type} (y : Int32) (x : Option ρ) : Option ρ := if y = 0 then none else x
def dvL {ρ : Type} (y : Int64) (x : Option ρ) : Option ρ := if y = 0 then none else x
def rz (x : Int32) (σ : St) : Option (Int32 × St) := if x = 0 ∨ x = 1 then some (x, σ) else none
def lp {F : Type} (bot : F) (b : F → F) : Nat → F
  | 0 => bot
  | n + 1 => b (lp bot b n)
theorem lp_P {F : Type} {bot : F} {b : F → F} (P : F → Prop) (h0 : P bot) (h : ∀ J, P J → P (b J)) : ∀ n, P (lp bot b n)
  | 0 => h0
  | n + 1 => h _ (lp_P P h0 h n)
def kdl : List Nat := [5, 1, 1, 1, 10, 10, 10, 10, 10, 10, 3, 3, 3, 3, 3, 3, 3, 3, 3, 11, 11, 11, 11, 11, 11, 11, 11, 11, 0, 10, 10, 11, 11, 11, 11, 10, 11, 11, 4, 11, 11, 11, 2, 10, 12, 6, 10, 10, 10, 10, 10, 10, 10, 11, 10, 10, 10, 10, 10, 10, 10, 10, 11, 11, 10, 11, 11]
def lnl : List Nat := [0, 0, 0, 0, 36, 36, 36, 36, 36, 36, 0, 0, 0, 0, 0, 0, 0, 0, 0, 100, 100, 100, 100, 100, 100, 100, 100, 100, 0, 36, 1296, 36, 36, 36, 36, 1296, 1296, 1296, 0, 100, 36, 36, 0, 25, 8, 0, 36, 36, 8, 8, 8, 8, 8, 800, 51, 51, 153, 80, 80, 36, 1296, 1296, 1296, 1296, 8, 100, 1]
def kd (o : Nat) : Nat := kdl.getD o 99
def ln (o : Nat) : Nat := lnl.getD o 0
abbrev G : Type := va_G × (ClassId × ClassId × ClassId) × (Nat → Nat)
def fl (ad : Nat → Nat) (σ : St) (o : Nat) (c : Nat) : List Value := match c with
  | 0 => [.ref (ad 29), .ref (ad 30), .ref (ad 31), .ref (ad 32), .ref (ad 33), .ref (ad 34), .ref (ad 35), .ref (ad 36), .ref (ad 37)]
  | 1 => [.ref (ad (o + 3)), .ref (ad (o + 6)), .int (gI σ o 2), .int (gI σ o 3), .int (gI σ o 4), .int (gI σ o 5), .int (gI σ o 6), .int (gI σ o 7), .int (gI σ o 8), .int (gI σ o 9)]
  | 2 => [.ref (ad 43)]
  | 3 => [.int (gI σ o 0), .int (gI σ o 1), .int (gI σ o 2), .int (gI σ o 3), .int (gI σ o 4), .ref (ad (o + 9))]
  | 4 => [.ref (ad 39), .ref (ad 40), .ref (ad 41)]
  | 5 => [.ref (ad 1), .ref (ad 2), .ref (ad 3), .int (gI σ o 3), .ref (ad 28), .ref (ad 38), .ref (ad 42), .ref (ad 44), .ref (ad 18)]
  | _ => [.ref (ad 46), .ref (ad 47), .int (gI σ o 2), .int (gI σ o 3), .int (gI σ o 4), .int (gI σ o 5), .int (gI σ o 6), .int (gI σ o 7), .int (gI σ o 8), .int (gI σ o 9), .ref (ad 48), .ref (ad 49), .ref (ad 50), .ref (ad 51), .ref (ad 52), .ref (ad 53), .int (gI σ o 16), .int (gI σ o 17), .int (gI σ o 18), .int (gI σ o 19), .int (gI σ o 20), .int (gI σ o 21), .ref (ad 54), .ref (ad 55), .ref (ad 56), .ref (ad 57), .ref (ad 58), .int (gI σ o 27), .int (gI σ o 28), .int (gI σ o 29), (if σ.2.2.2 = 0 then .null else .ref (ad σ.2.2.2)), .ref (ad 59), .ref (ad 60), .ref (ad 61), .ref (ad 62), .ref (ad 63), .ref (ad 64), .int (gI σ o 37), .ref (ad 65)]
def en (g : G) (σ : St) (o : Nat) : va_E := if kd o = 10 then .inl (g.2.1.1, ln o, .inl (σ.2.1 o)) else if kd o = 11 then .inl (g.2.1.2.1, ln o, .inr (.inl (σ.2.2.1 o))) else if kd o = 12 then .inl (g.2.1.2.2, 8, .inr (.inr (.inr (.inr (fun i => some (g.2.2 (10 + i))))))) else .inr (kd o, fl g.2.2 σ o (kd o))
def wd (g : G) (σ : St) : va_W := (List.range 67).map (fun o => (g.2.2 o, en g σ o))
def tys (g : G) : List (ClassId × FieldType) := [(g.2.1.1, .int), (g.2.1.2.1, .long), (g.2.1.2.2, .object RX5)]
def nws : List (String × Nat × MethodName × String) := [(RX8, 68, yX10_isCell, RX10), (RX3, 43, yX10_isCell, RX10), (RX8, 83, yX10_isDistance, RX10), (RX8, 92, yX10_isEither, RX10), (RX7, 25, yX10_isCell, RX10), (RX0, 80, yX10_isCell, RX10), (RX9, 31, yX10_isCell, RX10), (RX4, 31, yX10_isWay, RX10)]
def wU (g : G) (U : State) : Prop := va_K g.1 vwCl (tys g) U ∧ ∀ q ∈ nws, va_Nw (.methodLinkNest q.1 q.2.1 q.2.2.1 q.2.2.2) U
def gOK (g : G) : Prop := ∀ i j, i < 67 → j < 67 → g.2.2 i = g.2.2 j → i = j
def aA (g : G) (sz : Nat) : Nat → Prop := fun q => (∃ o, o < 67 ∧ q = g.2.2 o) ∨ sz ≤ q
def kP (g : G) (av : List Value) (σ : St) (sz : Nat) : Array Value → State → Prop := va_Pc av (fun U => U.heap.size = sz ∧ va_P g.1 vwCl (wd g σ) U.heap ∧ wU g U)
def kQ (g : G) (o : Option Value) (σ : St) (A : Nat → Prop) : Array Value → State → Outcome → State → Prop := fun _ st oc t => (oc = .returned o ∧ va_P g.1 vwCl (wd g σ) t.heap) ∧ va_F A st t
/-- a method's contract: on these arguments and this state it answers o, and leaves the state σ'; no cell is made -/
def Mc (l : Launch) (g : G) (y : MethodName) (cc : ByteArray) (nL : Nat) (rt : Option FieldType) (rm : Room) (As : List Value) (σ : St) (o : Option Value) (σ' : St) : Prop := ∀ sz, Met l y (Cond.code y cc nL rt :: WS) rm (kP g As σ sz) (kQ g o σ' (aA g sz)) 0 0 (aA g sz)
/-- a walk: WK pc locals stack state -/
def kY (g : G) (l : Launch) (R : Room) (own : String) (cc : ByteArray) (nL : Nat) (WK : Nat → List (Nat × Value) → List Value → St → Prop) : Prop :=
  ∃ (p : Program) (e : Env) (s : State) (m : MethodId) (args : Array Value) (below : List Frame) (meth : Method) (c : Code) (nc ns : Nat) (Q : State → Prop),
    CallFix p m c cc nL s args WS own ∧ wU g s ∧ gOK g ∧ nc ≤ R.cells ∧ ns ≤ R.slots ∧
    WK = fun pc lv st σ => ∀ (ls : Array Slot) (H : Heap) (locs : List Loc), lv_has ls nL lv → va_P g.1 vwCl (wd g σ) H → va_S (aA g s.heap.size) s.heap H locs → W p l e R s m args below meth c H locs nc ns Q (F0 m pc ls st)
/-- the walk of a method's body, and what it owes at its end -/
def kX (g : G) (l : Launch) (R : Room) (own : String) (cc : ByteArray) (nL : Nat) (rt : Option FieldType) (o : Option Value) (σe : St) (WK : Nat → List (Nat × Value) → List Value → St → Prop) : Prop :=
  ∃ (p : Program) (e : Env) (s : State) (m : MethodId) (args : Array Value) (below : List Frame) (meth : Method) (c : Code),
    CallFix p m c cc nL s args WS own ∧ meth.sig.returnType = rt ∧ meth.locks = false ∧ wU g s ∧ gOK g ∧
    WK = fun pc lv st σ => ∀ (ls : Array Slot) (H : Heap) (locs : List Loc), lv_has ls nL lv → va_P g.1 vwCl (wd g σ) H → va_S (aA g s.heap.size) s.heap H locs → W p l e R s m args below meth c H locs 0 0 (MQ below (kQ g o σe (aA g s.heap.size)) args s 0 0 (aA g s.heap.size)) (F0 m pc ls st)
theorem kX_y {g : G} {l : Launch} {R : Room} {own : String} {cc : ByteArray} {nL : Nat} {rt : Option FieldType} {o : Option Value} {σe : St} {WK : Nat → List (Nat × Value) → List Value → St → Prop} (C : kX g l R own cc nL rt o σe WK) : kY g l R own cc nL WK := by
  obtain ⟨p, ev, s, m, args, below, meth, c, h1, -, -, h2, h3, h4⟩ := C
  exact ⟨p, ev, s, m, args, below, meth, c, 0, 0, _, h1, h2, h3, Nat.zero_le _, Nat.zero_le _, h4⟩
/-! ===== the world's rows ===== -/
theorem kd_lt {o c : Nat} (h : kd o = c) (hc : c < 99) : o < 67 := by
  rcases Nat.lt_or_ge o 67 with q | q
  · exact q
  · have : kd o = 99 := by
      unfold kd
      rw [List.getD_eq_getElem?_getD, List.getElem?_eq_none (show kdl.length ≤ o from q)]
      rfl
    omega
theorem wd_get {g : G} {σ : St} {o : Nat} (h : o < 67) : (wd g σ)[o]? = some (g.2.2 o, en g σ o) := by
  simp [wd, h]
theorem wd_set {g : G} {σ σ' : St} {o : Nat} {e : va_E} (h : o < 67) (he : en g σ' o = e) (hj : ∀ j, j ≠ o → en g σ' j = en g σ j) : (wd g σ).set o (g.2.2 o, e) = wd g σ' := by
  apply List.ext_getElem?
  intro j
  by_cases hjo : j = o
  · subst hjo
    rw [wd_get h, List.getElem?_set_self (by simp [wd]; exact h), he]
  · rw [List.getElem?_set_ne (fun q => hjo q.symm)]
    rcases Nat.lt_or_ge j 67 with q | q
    · rw [wd_get q, wd_get q, hj j hjo]
    · rw [List.getElem?_eq_none (by simp [wd]; exact q), List.getElem?_eq_none (by simp [wd]; exact q)]
theorem en_o {g : G} {σ : St} {o c : Nat} (h : kd o = c) (hc : c < 10) : en g σ o = .inr (c, fl g.2.2 σ o c) := by
  subst h
  unfold en
  rw [if_neg (by omega), if_neg (by omega), if_neg (by omega)]
theorem en_i {g : G} {σ : St} {o : Nat} (h : kd o = 10) : en g σ o = .inl (g.2.1.1, ln o, .inl (σ.2.1 o)) := by
  unfold en
  rw [if_pos h]
theorem en_l {g : G} {σ : St} {o : Nat} (h : kd o = 11) : en g σ o = .inl (g.2.1.2.1, ln o, .inr (.inl (σ.2.2.1 o))) := by
  unfold en
  rw [if_neg (by omega), if_pos h]
theorem en_r {g : G} {σ : St} {o : Nat} (h : kd o = 12) : en g σ o = .inl (g.2.1.2.2, 8, .inr (.inr (.inr (.inr (fun i => some (g.2.2 (10 + i))))))) := by
  unfold en
  rw [if_neg (by omega), if_neg (by omega), if_pos h]
theorem fu_s {α : Type} {f : Nat → α} {a : Nat} {v : α} : fu f a v a = v := by simp [fu]
theorem fu_n {α : Type} {f : Nat → α} {a b : Nat} {v : α} (h : b ≠ a) : fu f a v b = f b := by simp [fu, h]
theorem gI_pI_s {σ : St} {o k : Nat} {v : Int32} : gI (pI σ o k v) o k = v := by simp [gI, pI, fu, upd]
theorem gI_pI_k {σ : St} {o k j : Nat} {v : Int32} (h : j ≠ k) : gI (pI σ o k v) o j = gI σ o j := by simp [gI, pI, fu, upd, h]
theorem gI_pI_o {σ : St} {o q k j : Nat} {v : Int32} (h : q ≠ o) : gI (pI σ o k v) q j = gI σ q j := by simp [gI, pI, fu, h]
theorem fl_o {ad : Nat → Nat} {σ : St} {o q k c : Nat} {v : Int32} (h : q ≠ o) : fl ad (pI σ o k v) q c = fl ad σ q c := by
  unfold fl
  split <;> simp only [gI_pI_o h] <;> rfl
theorem en_pI_n {g : G} {σ : St} {o k j : Nat} {v : Int32} (h : j ≠ o) : en g (pI σ o k v) j = en g σ j := by
  unfold en
  rw [fl_o h]
  rfl
theorem fl_A {ad : Nat → Nat} {σ : St} {a i q c : Nat} {v : Int32} : fl ad (pA σ a i v) q c = fl ad σ q c := rfl
theorem fl_L {ad : Nat → Nat} {σ : St} {a i q c : Nat} {v : Int64} : fl ad (pL σ a i v) q c = fl ad σ q c := rfl
theorem fl_sL {ad : Nat → Nat} {σ : St} {a q c : Nat} {f : Nat → Int64} : fl ad (sL σ a f) q c = fl ad σ q c := rfl
theorem en_pA_n {g : G} {σ : St} {a i j : Nat} {v : Int32} (h : j ≠ a) : en g (pA σ a i v) j = en g σ j := by
  unfold en
  rw [fl_A]
  show (if kd j = 10 then (.inl (g.2.1.1, ln j, .inl (fu σ.2.1 a (upd (σ.2.1 a) i v) j)) : va_E) else _) = _
  rw [fu_n h]
  rfl
theorem en_pL_n {g : G} {σ : St} {a i j : Nat} {v : Int64} (h : j ≠ a) : en g (pL σ a i v) j = en g σ j := by
  unfold en
  rw [fl_L]
  show (if kd j = 10 then (.inl (g.2.1.1, ln j, .inl (σ.2.1 j)) : va_E) else if kd j = 11 then .inl (g.2.1.2.1, ln j, .inr (.inl (fu σ.2.2.1 a (vp_updL (σ.2.2.1 a) i v) j))) else _) = _
  rw [fu_n h]
theorem en_sL_n {g : G} {σ : St} {a j : Nat} {f : Nat → Int64} (h : j ≠ a) : en g (sL σ a f) j = en g σ j := by
  unfold en
  rw [fl_sL]
  show (if kd j = 10 then (.inl (g.2.1.1, ln j, .inl (σ.2.1 j)) : va_E) else if kd j = 11 then .inl (g.2.1.2.1, ln j, .inr (.inl (fu σ.2.2.1 a f j))) else _) = _
  rw [fu_n h]
theorem fl_K {ad : Nat → Nat} {σ : St} {n q c : Nat} (h : c < 6) : fl ad (pK σ n) q c = fl ad σ q c := by
  match c, h with
  | 0, _ => rfl
  | 1, _ => rfl
  | 2, _ => rfl
  | 3, _ => rfl
  | 4, _ => rfl
  | 5, _ => rfl
theorem kd6 : ∀ j, j < 67 → kd j = 6 → j = 45 := by decide +kernel
theorem kdq : ∀ j, j < 67 → (kd j = 10 ∨ kd j = 11 ∨ kd j = 12 ∨ kd j ≤ 6) := by decide +kernel
theorem en_pK_n {g : G} {σ : St} {n j : Nat} (hj : j < 67) (h : j ≠ 45) : en g (pK σ n) j = en g σ j := by
  unfold en
  have h6 : kd j ≠ 6 := fun q => h (kd6 j hj q)
  by_cases h1 : kd j = 10
  · rw [if_pos h1, if_pos h1]; rfl
  · by_cases h2 : kd j = 11
    · rw [if_neg h1, if_neg h1, if_pos h2, if_pos h2]; rfl
    · by_cases h3 : kd j = 12
      · rw [if_neg h1, if_neg h1, if_neg h2, if_neg h2, if_pos h3, if_pos h3]
      · rw [if_neg h1, if_neg h1, if_neg h2, if_neg h2, if_neg h3, if_neg h3]
        by_cases h7 : kd j < 6
        · rw [fl_K h7]
        · exact absurd (kdq j hj) (by omega)
theorem wd_D {g : G} (hg : gOK g) {σ : St} {sz : Nat} : va_D (aA g sz) (wd g σ) := by
  refine ⟨fun i j p q hp hq e => ?_, fun k q hk => ?_⟩
  · have hi : i < 67 := by
      have := (List.getElem?_eq_some_iff.mp hp).1
      simpa [wd] using this
    have hj : j < 67 := by
      have := (List.getElem?_eq_some_iff.mp hq).1
      simpa [wd] using this
    rw [wd_get hi] at hp
    rw [wd_get hj] at hq
    cases hp
    cases hq
    exact hg i j hi hj e
  · have hi : k < 67 := by
      have := (List.getElem?_eq_some_iff.mp hk).1
      simpa [wd] using this
    rw [wd_get hi] at hk
    cases hk
    exact Or.inl ⟨k, hi, rfl⟩
theorem wU_warm {g : G} {s U : State} (h : wU g s) (hW : s.WarmedH U.vm) : wU g U := ⟨va_K.moved hW.alike h.1, fun q hq => va_Nw.warmM hW (h.2 q hq)⟩
theorem kP_blind {g : G} {av : List Value} {σ : St} {sz : Nat} : FrameBlind (kP g av σ sz) := by
  intro a U gg mk h
  obtain ⟨h0, h1, h2, h3, h4⟩ := h
  exact ⟨h0, h1, h2, va_K.moved (u := U) (U := U.calling gg mk a) (Vm.Alike.refl U.vm) h3, fun q hq => va_Nw.same (u := U) (U := U.calling gg mk a) rfl rfl (h4 q hq)⟩


theorem dk {cc : ByteArray} {t : List (Nat × Instr × Nat)} (h : ∀ q ∈ t, decode cc q.1 = .ok q.2) (n : Nat) {pc : Nat} {i : Instr} {len : Nat} (e : t[n]? = some (pc, i, len)) : decode cc pc = .ok (i, len) := by
  have h1 := h (pc, i, len) (List.mem_of_getElem? e)
  exact h1
theorem kl_J {F ρ : Type} {a : F} {f : F → Option ρ} {r : ρ} {P : F → Prop} {Z : Prop} (h : kl a f = some r) (hP : P a) (k : ∀ J, P J → f J = some r → Z) : Z := k a hP h
theorem kl_L {F ρ : Type} {bot : F} {b : F → F} {n : Nat} {f : F → Option ρ} {r : ρ} {P : F → Prop} {Z : Prop} (h : kl (lp bot b n) f = some r) (h0 : P bot) (hb : ∀ J, P J → P (b J)) (k : ∀ J, P J → f J = some r → Z) : Z := k _ (lp_P P h0 hb n) h
theorem nmL {ρ : Type} {x : Int64} {f : Int64 → Option ρ} {r : ρ} {WK : Nat → List (Nat × Value) → List Value → St → Prop} {pc : Nat} {lv : List (Nat × Value)} {st : List Value} {σ : St} (h : kl x f = some r) (k : ∀ y, f y = some r → WK pc lv (.long y :: st) σ) : WK pc lv (.long x :: st) σ := k x h
theorem cl2_k {α ρ : Type} {x : Option (α × St)} {f : α → St → Option ρ} {r : ρ} {Z : Prop} (h : cl2 x f = some r) (k : ∀ v σ, x = some (v, σ) → f v σ = some r → Z) : Z := by
  match x, h with
  | some (v, σ), h => exact k v σ rfl h
theorem cl1_k {ρ : Type} {x : Option St} {f : St → Option ρ} {r : ρ} {Z : Prop} (h : cl1 x f = some r) (k : ∀ σ, x = some σ → f σ = some r → Z) : Z := by
  match x, h with
  | some σ, h => exact k σ rfl h
theorem nmI {ρ : Type} {x : Int32} {f : Int32 → Option ρ} {r : ρ} {WK : Nat → List (Nat × Value) → List Value → St → Prop} {pc : Nat} {lv : List (Nat × Value)} {st : List Value} {σ : St} (h : kl x f = some r) (k : ∀ y, f y = some r → WK pc lv (.int y :: st) σ) : WK pc lv (.int x :: st) σ := k x h
theorem kd_L3 {o : Nat} (h : kd o = 1) : kd (o + 3) = 10 := (show ∀ o, o < 67 → kd o = 1 → kd (o + 3) = 10 by decide +kernel) o (kd_lt h (by omega)) h
theorem kd_L6 {o : Nat} (h : kd o = 1) : kd (o + 6) = 10 := (show ∀ o, o < 67 → kd o = 1 → kd (o + 6) = 10 by decide +kernel) o (kd_lt h (by omega)) h
theorem ln_L3 {o : Nat} (h : kd o = 1) : ln (o + 3) = 36 := (show ∀ o, o < 67 → kd o = 1 → ln (o + 3) = 36 by decide +kernel) o (kd_lt h (by omega)) h
theorem ln_L6 {o : Nat} (h : kd o = 1) : ln (o + 6) = 36 := (show ∀ o, o < 67 → kd o = 1 → ln (o + 6) = 36 by decide +kernel) o (kd_lt h (by omega)) h
theorem kd_S9 {o : Nat} (h : kd o = 3) : kd (o + 9) = 11 := (show ∀ o, o < 67 → kd o = 3 → kd (o + 9) = 11 by decide +kernel) o (kd_lt h (by omega)) h
theorem ln_S9 {o : Nat} (h : kd o = 3) : ln (o + 9) = 100 := (show ∀ o, o < 67 → kd o = 3 → ln (o + 9) = 100 by decide +kernel) o (kd_lt h (by omega)) h
theorem kd_K {n : Nat} (h : n = 57 ∨ n = 58) : kd n = 10 := by rcases h with rfl | rfl <;> rfl
theorem ln_K {n : Nat} (h : n = 57 ∨ n = 58) : ln n = 80 := by rcases h with rfl | rfl <;> rfl
theorem ne_K {n : Nat} (h : n = 57 ∨ n = 58) : n ≠ 0 := by omega
theorem WS_ok : GoodIn WS WS := fun w h => ⟨h, good_of_word (List.all_eq_true.mp WS_good w h)⟩
theorem WS_c {w : Cond} (h : w ∈ WS) : GoodIn WS (w :: WS) := fun x hx => (List.mem_cons.mp hx).elim (fun e => by rw [e]; exact WS_ok w h) (WS_ok x)
theorem gV {own : String} {idx : Nat} {D : String} {y : MethodName} {b : ByteArray} {n : Nat} {ret : Option FieldType} (h1 : Cond.methodLink own idx y ∈ WS) (h2 : Cond.instanceMethod y ∈ WS) (h3 : Cond.selects D y y ∈ WS) (h4 : Cond.initialized D ∈ WS) (h5 : Cond.code y b n ret ∈ WS) : GoodIn WS (wsV own idx D y (Cond.code y b n ret :: WS)) := by
  intro w hw
  rcases List.mem_append.mp hw with h | h
  · simp only [List.mem_cons, List.not_mem_nil, or_false] at h
    rcases h with rfl | rfl | rfl | rfl
    · exact WS_ok _ h1
    · exact WS_ok _ h2
    · exact WS_ok _ h3
    · exact WS_ok _ h4
  · exact WS_c h5 w h
theorem gS {own : String} {idx : Nat} {y : MethodName} {b : ByteArray} {n : Nat} {ret : Option FieldType} (h1 : Cond.methodLink own idx y ∈ WS) (h2 : Cond.static y ∈ WS) (h4 : Cond.initialized y.cls ∈ WS) (h5 : Cond.code y b n ret ∈ WS) : GoodIn WS (va_wsS own idx y (Cond.code y b n ret :: WS)) := by
  intro w hw
  rcases List.mem_append.mp hw with h | h
  · simp only [List.mem_cons, List.not_mem_nil, or_false] at h
    rcases h with rfl | rfl | rfl
    · exact WS_ok _ h1
    · exact WS_ok _ h2
    · exact WS_ok _ h4
  · exact WS_c h5 w h
theorem gN {y : MethodName} {b : ByteArray} {n : Nat} {ret : Option FieldType} (h5 : Cond.code y b n ret ∈ WS) : GoodIn WS (Cond.code y b n ret :: WS) := WS_c h5
set_option maxHeartbeats 1000000 in
theorem k_enter {l : Launch} {g : G} {y : MethodName} {cc : ByteArray} {nL : Nat} {rt : Option FieldType} {rm : Room} {own : String} {As : List Value} {σ : St} {o : Option Value} {σ' : St} (hg : gOK g) (hy : plainName y.cls = true) (hown : y.cls = own) (hlen : (lg_sl As).length ≤ nL)
    (body : ∀ WK, kX g l rm own cc nL rt o σ' WK → WK 0 (lv_args 0 As) [] σ) : Mc l g y cc nL rt rm As σ o σ' := by
  intro sz
  refine Met.ofW hy rfl ?_
  intro p e s m args below meth c s₁ B hml hv
  obtain ⟨rfl, hsz, hP, hU⟩ := hv
  subst hsz
  subst hown
  rw [lg_entry_eq]
  exact body _ ⟨p, e, s, m, _, below, meth, c, ⟨B.exec, B.bytes, hml, findClass_of_methodNamed B.named, fun w h => atoms_spec (ws := Cond.code y cc nL rt :: WS) B.pre w (List.mem_cons_of_mem _ h)⟩, B.returns, B.notSynchronized, hU, hg, rfl⟩ _ _ _ (lv_entry As hlen) hP va_S.rf
section KR
variable {g : G} {l : Launch} {R : Room} {own : String} {cc : ByteArray} {nL : Nat} {rt : Option FieldType} {o : Option Value} {σe : St} {WK : Nat → List (Nat × Value) → List Value → St → Prop} {pc : Nat} {lv lv' : List (Nat × Value)} {st : List Value} {σ : St} {ρ : Type}
theorem k_iconst (C : kY g l R own cc nL WK) {n : Int} {v : Int32} (hd : decode cc pc = .ok (.iconst n, 1)) (hv : Int32.ofInt n = v) (k : WK (pc + 1) lv (.int v :: st) σ) : WK pc lv st σ := by
  obtain ⟨p, ev, s, m, args, below, meth, c, nc, ns, Q, ⟨hx, hb, hml, hown, hts⟩, hU, hg, hnc, hns, rfl⟩ := C
  exact fun ls H locs hl hP hS => lv_iconst hx hb hd hv (k ls H locs hl hP hS)
theorem k_bipush (C : kY g l R own cc nL WK) {n : Int} {v : Int32} (hd : decode cc pc = .ok (.bipush n, 2)) (hv : (Int8.ofInt n).toInt32 = v) (k : WK (pc + 2) lv (.int v :: st) σ) : WK pc lv st σ := by
  obtain ⟨p, ev, s, m, args, below, meth, c, nc, ns, Q, ⟨hx, hb, hml, hown, hts⟩, hU, hg, hnc, hns, rfl⟩ := C
  exact fun ls H locs hl hP hS => lv_bipush hx hb hd hv (k ls H locs hl hP hS)
theorem k_sipush (C : kY g l R own cc nL WK) {n : Int} {v : Int32} (hd : decode cc pc = .ok (.sipush n, 3)) (hv : (Int16.ofInt n).toInt32 = v) (k : WK (pc + 3) lv (.int v :: st) σ) : WK pc lv st σ := by
  obtain ⟨p, ev, s, m, args, below, meth, c, nc, ns, Q, ⟨hx, hb, hml, hown, hts⟩, hU, hg, hnc, hns, rfl⟩ := C
  exact fun ls H locs hl hP hS => lv_sipush hx hb hd hv (k ls H locs hl hP hS)
theorem k_lconst (C : kY g l R own cc nL WK) {n : Fin 2} {v : Int64} (hd : decode cc pc = .ok (.lconst n, 1)) (hv : Int64.ofNat n = v) (k : WK (pc + 1) lv (.long v :: st) σ) : WK pc lv st σ := by
  obtain ⟨p, ev, s, m, args, below, meth, c, nc, ns, Q, ⟨hx, hb, hml, hown, hts⟩, hU, hg, hnc, hns, rfl⟩ := C
  exact fun ls H locs hl hP hS => lv_lconst hx hb hd hv (k ls H locs hl hP hS)
theorem k_ldc (C : kY g l R own cc nL WK) {i : Nat} {v : Int32} (hd : decode cc pc = .ok (.ldc i, 2)) (hw : Cond.constant own i v ∈ WS) (k : WK (pc + 2) lv (.int v :: st) σ) : WK pc lv st σ := by
  obtain ⟨p, ev, s, m, args, below, meth, c, nc, ns, Q, ⟨hx, hb, hml, hown, hts⟩, hU, hg, hnc, hns, rfl⟩ := C
  exact fun ls H locs hl hP hS => lv_ldc hx hb hown (hts _ hw) hd (k ls H locs hl hP hS)
theorem k_ldcw (C : kY g l R own cc nL WK) {i : Nat} {v : Int32} (hd : decode cc pc = .ok (.ldc_w i, 3)) (hw : Cond.constant own i v ∈ WS) (k : WK (pc + 3) lv (.int v :: st) σ) : WK pc lv st σ := by
  obtain ⟨p, ev, s, m, args, below, meth, c, nc, ns, Q, ⟨hx, hb, hml, hown, hts⟩, hU, hg, hnc, hns, rfl⟩ := C
  exact fun ls H locs hl hP hS => lv_ldcw hx hb hown (hts _ hw) hd (k ls H locs hl hP hS)
theorem k_ldc2 (C : kY g l R own cc nL WK) {i : Nat} {v : Int64} (hd : decode cc pc = .ok (.ldc2_w i, 3)) (hw : Cond.constantLong own i v ∈ WS) (k : WK (pc + 3) lv (.long v :: st) σ) : WK pc lv st σ := by
  obtain ⟨p, ev, s, m, args, below, meth, c, nc, ns, Q, ⟨hx, hb, hml, hown, hts⟩, hU, hg, hnc, hns, rfl⟩ := C
  exact fun ls H locs hl hP hS => lv_ldc2 hx hb hown (hts _ hw) hd (k ls H locs hl hP hS)
theorem k_iload_n (C : kY g l R own cc nL WK) {q : Fin 4} {i : Nat} {x : Int32} (hd : decode cc pc = .ok (.iload_n q, 1)) (hi : (q : Nat) = i) (j : Nat) (hj : lv[j]? = some (i, .int x)) (k : WK (pc + 1) lv (.int x :: st) σ) : WK pc lv st σ := by
  obtain ⟨p, ev, s, m, args, below, meth, c, nc, ns, Q, ⟨hx, hb, hml, hown, hts⟩, hU, hg, hnc, hns, rfl⟩ := C
  exact fun ls H locs hl hP hS => lv_iload_n hx hb hd hi (lv_at hl j hj) (k ls H locs hl hP hS)
theorem k_iload (C : kY g l R own cc nL WK) {i : Nat} {x : Int32} (hd : decode cc pc = .ok (.iload i, 2)) (j : Nat) (hj : lv[j]? = some (i, .int x)) (k : WK (pc + 2) lv (.int x :: st) σ) : WK pc lv st σ := by
  obtain ⟨p, ev, s, m, args, below, meth, c, nc, ns, Q, ⟨hx, hb, hml, hown, hts⟩, hU, hg, hnc, hns, rfl⟩ := C
  exact fun ls H locs hl hP hS => lv_iload hx hb hd (lv_at hl j hj) (k ls H locs hl hP hS)
theorem k_lload_n (C : kY g l R own cc nL WK) {q : Fin 4} {i : Nat} {x : Int64} (hd : decode cc pc = .ok (.lload_n q, 1)) (hi : (q : Nat) = i) (j : Nat) (hj : lv[j]? = some (i, .long x)) (k : WK (pc + 1) lv (.long x :: st) σ) : WK pc lv st σ := by
  obtain ⟨p, ev, s, m, args, below, meth, c, nc, ns, Q, ⟨hx, hb, hml, hown, hts⟩, hU, hg, hnc, hns, rfl⟩ := C
  exact fun ls H locs hl hP hS => lv_lload_n hx hb hd hi (lv_at hl j hj) (k ls H locs hl hP hS)
theorem k_lload (C : kY g l R own cc nL WK) {i : Nat} {x : Int64} (hd : decode cc pc = .ok (.lload i, 2)) (j : Nat) (hj : lv[j]? = some (i, .long x)) (k : WK (pc + 2) lv (.long x :: st) σ) : WK pc lv st σ := by
  obtain ⟨p, ev, s, m, args, below, meth, c, nc, ns, Q, ⟨hx, hb, hml, hown, hts⟩, hU, hg, hnc, hns, rfl⟩ := C
  exact fun ls H locs hl hP hS => lv_lload hx hb hd (lv_at hl j hj) (k ls H locs hl hP hS)
theorem k_aload_n (C : kY g l R own cc nL WK) {q : Fin 4} {i : Nat} {x : Nat} (hd : decode cc pc = .ok (.aload_n q, 1)) (hi : (q : Nat) = i) (j : Nat) (hj : lv[j]? = some (i, .ref x)) (k : WK (pc + 1) lv (.ref x :: st) σ) : WK pc lv st σ := by
  obtain ⟨p, ev, s, m, args, below, meth, c, nc, ns, Q, ⟨hx, hb, hml, hown, hts⟩, hU, hg, hnc, hns, rfl⟩ := C
  exact fun ls H locs hl hP hS => lv_aload_n hx hb hd hi (lv_at hl j hj) (k ls H locs hl hP hS)
theorem k_aload (C : kY g l R own cc nL WK) {i : Nat} {x : Nat} (hd : decode cc pc = .ok (.aload i, 2)) (j : Nat) (hj : lv[j]? = some (i, .ref x)) (k : WK (pc + 2) lv (.ref x :: st) σ) : WK pc lv st σ := by
  obtain ⟨p, ev, s, m, args, below, meth, c, nc, ns, Q, ⟨hx, hb, hml, hown, hts⟩, hU, hg, hnc, hns, rfl⟩ := C
  exact fun ls H locs hl hP hS => lv_aload hx hb hd (lv_at hl j hj) (k ls H locs hl hP hS)
theorem k_istore_n (C : kY g l R own cc nL WK) {q : Fin 4} {i : Nat} {x : Int32} (hd : decode cc pc = .ok (.istore_n q, 1)) (hi : (q : Nat) = i) (hn : i < nL) (hl' : (i, (.int x : Value)) :: lv.filter (fun q => !(q.1 == i) && !(q.1 + 1 == i && q.2.category == 2)) = lv') (k : WK (pc + 1) lv' st σ) : WK pc lv (.int x :: st) σ := by
  obtain ⟨p, ev, s, m, args, below, meth, c, nc, ns, Q, ⟨hx, hb, hml, hown, hts⟩, hU, hg, hnc, hns, rfl⟩ := C
  exact fun ls H locs hl hP hS => lv_istore_n hx hb hd hi hl hn hl' (fun ls' h' => k ls' H locs h' hP hS)
theorem k_istore (C : kY g l R own cc nL WK) {i : Nat} {x : Int32} (hd : decode cc pc = .ok (.istore i, 2)) (hn : i < nL) (hl' : (i, (.int x : Value)) :: lv.filter (fun q => !(q.1 == i) && !(q.1 + 1 == i && q.2.category == 2)) = lv') (k : WK (pc + 2) lv' st σ) : WK pc lv (.int x :: st) σ := by
  obtain ⟨p, ev, s, m, args, below, meth, c, nc, ns, Q, ⟨hx, hb, hml, hown, hts⟩, hU, hg, hnc, hns, rfl⟩ := C
  exact fun ls H locs hl hP hS => lv_istore hx hb hd hl hn hl' (fun ls' h' => k ls' H locs h' hP hS)
theorem k_lstore_n (C : kY g l R own cc nL WK) {q : Fin 4} {i : Nat} {x : Int64} (hd : decode cc pc = .ok (.lstore_n q, 1)) (hi : (q : Nat) = i) (hn : i + 1 < nL) (hl' : (i, (.long x : Value)) :: lv.filter (fun q => !(q.1 == i) && (!(q.1 == i + 1) && !(q.1 + 1 == i && q.2.category == 2))) = lv') (k : WK (pc + 1) lv' st σ) : WK pc lv (.long x :: st) σ := by
  obtain ⟨p, ev, s, m, args, below, meth, c, nc, ns, Q, ⟨hx, hb, hml, hown, hts⟩, hU, hg, hnc, hns, rfl⟩ := C
  exact fun ls H locs hl hP hS => lv_lstore_n hx hb hd hi hl hn hl' (fun ls' h' => k ls' H locs h' hP hS)
theorem k_lstore (C : kY g l R own cc nL WK) {i : Nat} {x : Int64} (hd : decode cc pc = .ok (.lstore i, 2)) (hn : i + 1 < nL) (hl' : (i, (.long x : Value)) :: lv.filter (fun q => !(q.1 == i) && (!(q.1 == i + 1) && !(q.1 + 1 == i && q.2.category == 2))) = lv') (k : WK (pc + 2) lv' st σ) : WK pc lv (.long x :: st) σ := by
  obtain ⟨p, ev, s, m, args, below, meth, c, nc, ns, Q, ⟨hx, hb, hml, hown, hts⟩, hU, hg, hnc, hns, rfl⟩ := C
  exact fun ls H locs hl hP hS => lv_lstore hx hb hd hl hn hl' (fun ls' h' => k ls' H locs h' hP hS)
theorem k_astore_n (C : kY g l R own cc nL WK) {q : Fin 4} {i : Nat} {x : Nat} (hd : decode cc pc = .ok (.astore_n q, 1)) (hi : (q : Nat) = i) (hn : i < nL) (hl' : (i, (.ref x : Value)) :: lv.filter (fun q => !(q.1 == i) && !(q.1 + 1 == i && q.2.category == 2)) = lv') (k : WK (pc + 1) lv' st σ) : WK pc lv (.ref x :: st) σ := by
  obtain ⟨p, ev, s, m, args, below, meth, c, nc, ns, Q, ⟨hx, hb, hml, hown, hts⟩, hU, hg, hnc, hns, rfl⟩ := C
  exact fun ls H locs hl hP hS => lv_astore_n hx hb hd hi hl hn hl' (fun ls' h' => k ls' H locs h' hP hS)
theorem k_astore (C : kY g l R own cc nL WK) {i : Nat} {x : Nat} (hd : decode cc pc = .ok (.astore i, 2)) (hn : i < nL) (hl' : (i, (.ref x : Value)) :: lv.filter (fun q => !(q.1 == i) && !(q.1 + 1 == i && q.2.category == 2)) = lv') (k : WK (pc + 2) lv' st σ) : WK pc lv (.ref x :: st) σ := by
  obtain ⟨p, ev, s, m, args, below, meth, c, nc, ns, Q, ⟨hx, hb, hml, hown, hts⟩, hU, hg, hnc, hns, rfl⟩ := C
  exact fun ls H locs hl hP hS => lv_astore hx hb hd hl hn hl' (fun ls' h' => k ls' H locs h' hP hS)
theorem k_iinc (C : kY g l R own cc nL WK) {i j : Nat} {n : Int} {x v : Int32} (hd : decode cc pc = .ok (.iinc i n, 3)) (hj : lv[j]? = some (i, .int x)) (hv : x + Int32.ofInt n = v) (hn : i < nL) (hl' : (i, Value.int v) :: lv.filter (fun q => !(q.1 == i) && !(q.1 + 1 == i && q.2.category == 2)) = lv') (k : WK (pc + 3) lv' st σ) : WK pc lv st σ := by
  obtain ⟨p, ev, s, m, args, below, meth, c, nc, ns, Q, ⟨hx, hb, hml, hown, hts⟩, hU, hg, hnc, hns, rfl⟩ := C
  exact fun ls H locs hl hP hS => lv_iinc hx hb hd hl hj hv hn hl' (fun ls' h' => k ls' H locs h' hP hS)
theorem k_iadd (C : kY g l R own cc nL WK) {x y : Int32} (hd : decode cc pc = .ok (.iadd, 1))  (k : WK (pc + 1) lv (.int (x + y) :: st) σ) : WK pc lv (.int y :: .int x :: st) σ := by
  obtain ⟨p, ev, s, m, args, below, meth, c, nc, ns, Q, ⟨hx, hb, hml, hown, hts⟩, hU, hg, hnc, hns, rfl⟩ := C
  exact fun ls H locs hl hP hS => lv_iadd hx hb hd (k ls H locs hl hP hS)
theorem k_isub (C : kY g l R own cc nL WK) {x y : Int32} (hd : decode cc pc = .ok (.isub, 1))  (k : WK (pc + 1) lv (.int (x - y) :: st) σ) : WK pc lv (.int y :: .int x :: st) σ := by
  obtain ⟨p, ev, s, m, args, below, meth, c, nc, ns, Q, ⟨hx, hb, hml, hown, hts⟩, hU, hg, hnc, hns, rfl⟩ := C
  exact fun ls H locs hl hP hS => lv_isub hx hb hd (k ls H locs hl hP hS)
theorem k_imul (C : kY g l R own cc nL WK) {x y : Int32} (hd : decode cc pc = .ok (.imul, 1))  (k : WK (pc + 1) lv (.int (x * y) :: st) σ) : WK pc lv (.int y :: .int x :: st) σ := by
  obtain ⟨p, ev, s, m, args, below, meth, c, nc, ns, Q, ⟨hx, hb, hml, hown, hts⟩, hU, hg, hnc, hns, rfl⟩ := C
  exact fun ls H locs hl hP hS => lv_imul hx hb hd (k ls H locs hl hP hS)
theorem k_iand (C : kY g l R own cc nL WK) {x y : Int32} (hd : decode cc pc = .ok (.iand, 1))  (k : WK (pc + 1) lv (.int (x &&& y) :: st) σ) : WK pc lv (.int y :: .int x :: st) σ := by
  obtain ⟨p, ev, s, m, args, below, meth, c, nc, ns, Q, ⟨hx, hb, hml, hown, hts⟩, hU, hg, hnc, hns, rfl⟩ := C
  exact fun ls H locs hl hP hS => lv_iand hx hb hd (k ls H locs hl hP hS)
theorem k_ior (C : kY g l R own cc nL WK) {x y : Int32} (hd : decode cc pc = .ok (.ior, 1))  (k : WK (pc + 1) lv (.int (x ||| y) :: st) σ) : WK pc lv (.int y :: .int x :: st) σ := by
  obtain ⟨p, ev, s, m, args, below, meth, c, nc, ns, Q, ⟨hx, hb, hml, hown, hts⟩, hU, hg, hnc, hns, rfl⟩ := C
  exact fun ls H locs hl hP hS => lv_ior hx hb hd (k ls H locs hl hP hS)
theorem k_ixor (C : kY g l R own cc nL WK) {x y : Int32} (hd : decode cc pc = .ok (.ixor, 1))  (k : WK (pc + 1) lv (.int (x ^^^ y) :: st) σ) : WK pc lv (.int y :: .int x :: st) σ := by
  obtain ⟨p, ev, s, m, args, below, meth, c, nc, ns, Q, ⟨hx, hb, hml, hown, hts⟩, hU, hg, hnc, hns, rfl⟩ := C
  exact fun ls H locs hl hP hS => lv_ixor hx hb hd (k ls H locs hl hP hS)
theorem k_ladd (C : kY g l R own cc nL WK) {x y : Int64} (hd : decode cc pc = .ok (.ladd, 1))  (k : WK (pc + 1) lv (.long (x + y) :: st) σ) : WK pc lv (.long y :: .long x :: st) σ := by
  obtain ⟨p, ev, s, m, args, below, meth, c, nc, ns, Q, ⟨hx, hb, hml, hown, hts⟩, hU, hg, hnc, hns, rfl⟩ := C
  exact fun ls H locs hl hP hS => lv_ladd hx hb hd (k ls H locs hl hP hS)
theorem k_lsub (C : kY g l R own cc nL WK) {x y : Int64} (hd : decode cc pc = .ok (.lsub, 1))  (k : WK (pc + 1) lv (.long (x - y) :: st) σ) : WK pc lv (.long y :: .long x :: st) σ := by
  obtain ⟨p, ev, s, m, args, below, meth, c, nc, ns, Q, ⟨hx, hb, hml, hown, hts⟩, hU, hg, hnc, hns, rfl⟩ := C
  exact fun ls H locs hl hP hS => lv_lsub hx hb hd (k ls H locs hl hP hS)
theorem k_lmul (C : kY g l R own cc nL WK) {x y : Int64} (hd : decode cc pc = .ok (.lmul, 1))  (k : WK (pc + 1) lv (.long (x * y) :: st) σ) : WK pc lv (.long y :: .long x :: st) σ := by
  obtain ⟨p, ev, s, m, args, below, meth, c, nc, ns, Q, ⟨hx, hb, hml, hown, hts⟩, hU, hg, hnc, hns, rfl⟩ := C
  exact fun ls H locs hl hP hS => lv_lmul hx hb hd (k ls H locs hl hP hS)
theorem k_land (C : kY g l R own cc nL WK) {x y : Int64} (hd : decode cc pc = .ok (.land, 1))  (k : WK (pc + 1) lv (.long (x &&& y) :: st) σ) : WK pc lv (.long y :: .long x :: st) σ := by
  obtain ⟨p, ev, s, m, args, below, meth, c, nc, ns, Q, ⟨hx, hb, hml, hown, hts⟩, hU, hg, hnc, hns, rfl⟩ := C
  exact fun ls H locs hl hP hS => lv_land hx hb hd (k ls H locs hl hP hS)
theorem k_lor (C : kY g l R own cc nL WK) {x y : Int64} (hd : decode cc pc = .ok (.lor, 1))  (k : WK (pc + 1) lv (.long (x ||| y) :: st) σ) : WK pc lv (.long y :: .long x :: st) σ := by
  obtain ⟨p, ev, s, m, args, below, meth, c, nc, ns, Q, ⟨hx, hb, hml, hown, hts⟩, hU, hg, hnc, hns, rfl⟩ := C
  exact fun ls H locs hl hP hS => lv_lor hx hb hd (k ls H locs hl hP hS)
theorem k_lxor (C : kY g l R own cc nL WK) {x y : Int64} (hd : decode cc pc = .ok (.lxor, 1))  (k : WK (pc + 1) lv (.long (x ^^^ y) :: st) σ) : WK pc lv (.long y :: .long x :: st) σ := by
  obtain ⟨p, ev, s, m, args, below, meth, c, nc, ns, Q, ⟨hx, hb, hml, hown, hts⟩, hU, hg, hnc, hns, rfl⟩ := C
  exact fun ls H locs hl hP hS => lv_lxor hx hb hd (k ls H locs hl hP hS)
theorem k_ishl (C : kY g l R own cc nL WK) {x y : Int32} (hd : decode cc pc = .ok (.ishl, 1))  (k : WK (pc + 1) lv (.int (x <<< (y &&& 31)) :: st) σ) : WK pc lv (.int y :: .int x :: st) σ := by
  obtain ⟨p, ev, s, m, args, below, meth, c, nc, ns, Q, ⟨hx, hb, hml, hown, hts⟩, hU, hg, hnc, hns, rfl⟩ := C
  exact fun ls H locs hl hP hS => lv_ishl hx hb hd (k ls H locs hl hP hS)
theorem k_ishr (C : kY g l R own cc nL WK) {x y : Int32} (hd : decode cc pc = .ok (.ishr, 1))  (k : WK (pc + 1) lv (.int (x >>> (y &&& 31)) :: st) σ) : WK pc lv (.int y :: .int x :: st) σ := by
  obtain ⟨p, ev, s, m, args, below, meth, c, nc, ns, Q, ⟨hx, hb, hml, hown, hts⟩, hU, hg, hnc, hns, rfl⟩ := C
  exact fun ls H locs hl hP hS => lv_ishr hx hb hd (k ls H locs hl hP hS)
theorem k_idiv (C : kY g l R own cc nL WK) {x y : Int32} (hd : decode cc pc = .ok (.idiv, 1)) (hy : ¬ y = 0) (k : WK (pc + 1) lv (.int (x / y) :: st) σ) : WK pc lv (.int y :: .int x :: st) σ := by
  obtain ⟨p, ev, s, m, args, below, meth, c, nc, ns, Q, ⟨hx, hb, hml, hown, hts⟩, hU, hg, hnc, hns, rfl⟩ := C
  exact fun ls H locs hl hP hS => lv_idiv hx hb hd hy (k ls H locs hl hP hS)
theorem k_idivv (C : kY g l R own cc nL WK) {x y : Int32} {f : Option ρ} {r : ρ} (hd : decode cc pc = .ok (.idiv, 1)) (h : dvI y f = some r) (k : f = some r → WK (pc + 1) lv (.int (x / y) :: st) σ) : WK pc lv (.int y :: .int x :: st) σ := by
  obtain ⟨p, ev, s, m, args, below, meth, c, nc, ns, Q, ⟨hx, hb, hml, hown, hts⟩, hU, hg, hnc, hns, rfl⟩ := C
  by_cases hy : y = 0
  · rw [dvI, if_pos hy] at h; cases h
  · rw [dvI, if_neg hy] at h
    exact fun ls H locs hl hP hS => lv_idiv hx hb hd hy (k h ls H locs hl hP hS)
theorem k_irem (C : kY g l R own cc nL WK) {x y : Int32} (hd : decode cc pc = .ok (.irem, 1)) (hy : ¬ y = 0) (k : WK (pc + 1) lv (.int (x - x / y * y) :: st) σ) : WK pc lv (.int y :: .int x :: st) σ := by
  obtain ⟨p, ev, s, m, args, below, meth, c, nc, ns, Q, ⟨hx, hb, hml, hown, hts⟩, hU, hg, hnc, hns, rfl⟩ := C
  exact fun ls H locs hl hP hS => lv_irem hx hb hd hy (k ls H locs hl hP hS)
theorem k_iremv (C : kY g l R own cc nL WK) {x y : Int32} {f : Option ρ} {r : ρ} (hd : decode cc pc = .ok (.irem, 1)) (h : dvI y f = some r) (k : f = some r → WK (pc + 1) lv (.int (x - x / y * y) :: st) σ) : WK pc lv (.int y :: .int x :: st) σ := by
  obtain ⟨p, ev, s, m, args, below, meth, c, nc, ns, Q, ⟨hx, hb, hml, hown, hts⟩, hU, hg, hnc, hns, rfl⟩ := C
  by_cases hy : y = 0
  · rw [dvI, if_pos hy] at h; cases h
  · rw [dvI, if_neg hy] at h
    exact fun ls H locs hl hP hS => lv_irem hx hb hd hy (k h ls H locs hl hP hS)
theorem k_ldiv (C : kY g l R own cc nL WK) {x y : Int64} (hd : decode cc pc = .ok (.ldiv, 1)) (hy : ¬ y = 0) (k : WK (pc + 1) lv (.long (x / y) :: st) σ) : WK pc lv (.long y :: .long x :: st) σ := by
  obtain ⟨p, ev, s, m, args, below, meth, c, nc, ns, Q, ⟨hx, hb, hml, hown, hts⟩, hU, hg, hnc, hns, rfl⟩ := C
  exact fun ls H locs hl hP hS => lv_ldiv hx hb hd hy (k ls H locs hl hP hS)
theorem k_ldivv (C : kY g l R own cc nL WK) {x y : Int64} {f : Option ρ} {r : ρ} (hd : decode cc pc = .ok (.ldiv, 1)) (h : dvL y f = some r) (k : f = some r → WK (pc + 1) lv (.long (x / y) :: st) σ) : WK pc lv (.long y :: .long x :: st) σ := by
  obtain ⟨p, ev, s, m, args, below, meth, c, nc, ns, Q, ⟨hx, hb, hml, hown, hts⟩, hU, hg, hnc, hns, rfl⟩ := C
  by_cases hy : y = 0
  · rw [dvL, if_pos hy] at h; cases h
  · rw [dvL, if_neg hy] at h
    exact fun ls H locs hl hP hS => lv_ldiv hx hb hd hy (k h ls H locs hl hP hS)
theorem k_lrem (C : kY g l R own cc nL WK) {x y : Int64} (hd : decode cc pc = .ok (.lrem, 1)) (hy : ¬ y = 0) (k : WK (pc + 1) lv (.long (x - x / y * y) :: st) σ) : WK pc lv (.long y :: .long x :: st) σ := by
  obtain ⟨p, ev, s, m, args, below, meth, c, nc, ns, Q, ⟨hx, hb, hml, hown, hts⟩, hU, hg, hnc, hns, rfl⟩ := C
  exact fun ls H locs hl hP hS => lv_lrem hx hb hd hy (k ls H locs hl hP hS)
theorem k_lremv (C : kY g l R own cc nL WK) {x y : Int64} {f : Option ρ} {r : ρ} (hd : decode cc pc = .ok (.lrem, 1)) (h : dvL y f = some r) (k : f = some r → WK (pc + 1) lv (.long (x - x / y * y) :: st) σ) : WK pc lv (.long y :: .long x :: st) σ := by
  obtain ⟨p, ev, s, m, args, below, meth, c, nc, ns, Q, ⟨hx, hb, hml, hown, hts⟩, hU, hg, hnc, hns, rfl⟩ := C
  by_cases hy : y = 0
  · rw [dvL, if_pos hy] at h; cases h
  · rw [dvL, if_neg hy] at h
    exact fun ls H locs hl hP hS => lv_lrem hx hb hd hy (k h ls H locs hl hP hS)
theorem k_ineg (C : kY g l R own cc nL WK) {x : Int32} (hd : decode cc pc = .ok (.ineg, 1))  (k : WK (pc + 1) lv (.int (-x) :: st) σ) : WK pc lv (.int x :: st) σ := by
  obtain ⟨p, ev, s, m, args, below, meth, c, nc, ns, Q, ⟨hx, hb, hml, hown, hts⟩, hU, hg, hnc, hns, rfl⟩ := C
  exact fun ls H locs hl hP hS => lv_ineg hx hb hd (k ls H locs hl hP hS)
theorem k_i2l (C : kY g l R own cc nL WK) {x : Int32} (hd : decode cc pc = .ok (.i2l, 1))  (k : WK (pc + 1) lv (.long x.toInt64 :: st) σ) : WK pc lv (.int x :: st) σ := by
  obtain ⟨p, ev, s, m, args, below, meth, c, nc, ns, Q, ⟨hx, hb, hml, hown, hts⟩, hU, hg, hnc, hns, rfl⟩ := C
  exact fun ls H locs hl hP hS => lv_i2l hx hb hd rfl (k ls H locs hl hP hS)
theorem k_l2i (C : kY g l R own cc nL WK) {x : Int64} (hd : decode cc pc = .ok (.l2i, 1))  (k : WK (pc + 1) lv (.int x.toInt32 :: st) σ) : WK pc lv (.long x :: st) σ := by
  obtain ⟨p, ev, s, m, args, below, meth, c, nc, ns, Q, ⟨hx, hb, hml, hown, hts⟩, hU, hg, hnc, hns, rfl⟩ := C
  exact fun ls H locs hl hP hS => lv_l2i hx hb hd rfl (k ls H locs hl hP hS)
theorem k_i2b (C : kY g l R own cc nL WK) {x : Int32} (hd : decode cc pc = .ok (.i2b, 1))  (k : WK (pc + 1) lv (.int x.toInt8.toInt32 :: st) σ) : WK pc lv (.int x :: st) σ := by
  obtain ⟨p, ev, s, m, args, below, meth, c, nc, ns, Q, ⟨hx, hb, hml, hown, hts⟩, hU, hg, hnc, hns, rfl⟩ := C
  exact fun ls H locs hl hP hS => lv_i2b hx hb hd rfl (k ls H locs hl hP hS)
theorem k_lshl (C : kY g l R own cc nL WK) {x : Int64} {y : Int32} (hd : decode cc pc = .ok (.lshl, 1))  (k : WK (pc + 1) lv (.long (x <<< (y.toInt64 &&& 63)) :: st) σ) : WK pc lv (.int y :: .long x :: st) σ := by
  obtain ⟨p, ev, s, m, args, below, meth, c, nc, ns, Q, ⟨hx, hb, hml, hown, hts⟩, hU, hg, hnc, hns, rfl⟩ := C
  exact fun ls H locs hl hP hS => lv_lshl hx hb hd rfl (k ls H locs hl hP hS)
theorem k_lshr (C : kY g l R own cc nL WK) {x : Int64} {y : Int32} (hd : decode cc pc = .ok (.lshr, 1))  (k : WK (pc + 1) lv (.long (x >>> (y.toInt64 &&& 63)) :: st) σ) : WK pc lv (.int y :: .long x :: st) σ := by
  obtain ⟨p, ev, s, m, args, below, meth, c, nc, ns, Q, ⟨hx, hb, hml, hown, hts⟩, hU, hg, hnc, hns, rfl⟩ := C
  exact fun ls H locs hl hP hS => lv_lshr hx hb hd rfl (k ls H locs hl hP hS)
theorem k_lushr (C : kY g l R own cc nL WK) {x : Int64} {y : Int32} (hd : decode cc pc = .ok (.lushr, 1))  (k : WK (pc + 1) lv (.long (x.toUInt64 >>> (y.toInt64.toUInt64 &&& Int64.toUInt64 63)).toInt64 :: st) σ) : WK pc lv (.int y :: .long x :: st) σ := by
  obtain ⟨p, ev, s, m, args, below, meth, c, nc, ns, Q, ⟨hx, hb, hml, hown, hts⟩, hU, hg, hnc, hns, rfl⟩ := C
  exact fun ls H locs hl hP hS => lv_lushr hx hb hd rfl (k ls H locs hl hP hS)
theorem k_lcmp (C : kY g l R own cc nL WK) {x y : Int64} (hd : decode cc pc = .ok (.lcmp, 1))  (k : WK (pc + 1) lv (.int (lg_cmp x y) :: st) σ) : WK pc lv (.long y :: .long x :: st) σ := by
  obtain ⟨p, ev, s, m, args, below, meth, c, nc, ns, Q, ⟨hx, hb, hml, hown, hts⟩, hU, hg, hnc, hns, rfl⟩ := C
  exact fun ls H locs hl hP hS => W.lcmp hx hb hd (k ls H locs hl hP hS)
theorem k_dup (C : kY g l R own cc nL WK) {v : Value} (hd : decode cc pc = .ok (.dup, 1)) (hv : v.category = 1) (k : WK (pc + 1) lv (v :: v :: st) σ) : WK pc lv (v :: st) σ := by
  obtain ⟨p, ev, s, m, args, below, meth, c, nc, ns, Q, ⟨hx, hb, hml, hown, hts⟩, hU, hg, hnc, hns, rfl⟩ := C
  exact fun ls H locs hl hP hS => lv_dup hx hb hd hv (k ls H locs hl hP hS)
theorem k_dup2 (C : kY g l R own cc nL WK) {v u : Value} (hd : decode cc pc = .ok (.dup2, 1)) (hv : v.category = 1) (hu : u.category = 1) (k : WK (pc + 1) lv (v :: u :: v :: u :: st) σ) : WK pc lv (v :: u :: st) σ := by
  obtain ⟨p, ev, s, m, args, below, meth, c, nc, ns, Q, ⟨hx, hb, hml, hown, hts⟩, hU, hg, hnc, hns, rfl⟩ := C
  exact fun ls H locs hl hP hS => lv_dup2_11 hx hb hd hv hu (k ls H locs hl hP hS)
theorem k_goto (C : kY g l R own cc nL WK) {off : Int} {tgt : Nat} (hd : decode cc pc = .ok (.goto off, 3)) (ht : (pc : Int) + off = (tgt : Int)) (k : WK tgt lv st σ) : WK pc lv st σ := by
  obtain ⟨p, ev, s, m, args, below, meth, c, nc, ns, Q, ⟨hx, hb, hml, hown, hts⟩, hU, hg, hnc, hns, rfl⟩ := C
  exact fun ls H locs hl hP hS => lv_goto hx hb hd ht (k ls H locs hl hP hS)
theorem k_if_eq (C : kY g l R own cc nL WK) {x : Int32} {off : Int} {tgt : Nat} {a b : Option ρ} {r : ρ} (hd : decode cc pc = .ok (.ifCond .eq off, 3)) (ht : (pc : Int) + off = (tgt : Int)) (h : (if x = 0 then a else b) = some r) (kt : a = some r → WK tgt lv st σ) (kf : b = some r → WK (pc + 3) lv st σ) : WK pc lv (.int x :: st) σ := by
  obtain ⟨p, ev, s, m, args, below, meth, c, nc, ns, Q, ⟨hx, hb, hml, hown, hts⟩, hU, hg, hnc, hns, rfl⟩ := C
  exact fun ls H locs hl hP hS => lv_if_eq hx hb hd ht (fun q => kt (by rw [if_pos q] at h; exact h) ls H locs hl hP hS) (fun q => kf (by rw [if_neg q] at h; exact h) ls H locs hl hP hS)
theorem k_icmp_eq (C : kY g l R own cc nL WK) {x y : Int32} {off : Int} {tgt : Nat} {a b : Option ρ} {r : ρ} (hd : decode cc pc = .ok (.if_icmp .eq off, 3)) (ht : (pc : Int) + off = (tgt : Int)) (h : (if x = y then a else b) = some r) (kt : a = some r → WK tgt lv st σ) (kf : b = some r → WK (pc + 3) lv st σ) : WK pc lv (.int y :: .int x :: st) σ := by
  obtain ⟨p, ev, s, m, args, below, meth, c, nc, ns, Q, ⟨hx, hb, hml, hown, hts⟩, hU, hg, hnc, hns, rfl⟩ := C
  exact fun ls H locs hl hP hS => lv_icmp_eq hx hb hd ht (fun q => kt (by rw [if_pos q] at h; exact h) ls H locs hl hP hS) (fun q => kf (by rw [if_neg q] at h; exact h) ls H locs hl hP hS)
theorem k_if_ne (C : kY g l R own cc nL WK) {x : Int32} {off : Int} {tgt : Nat} {a b : Option ρ} {r : ρ} (hd : decode cc pc = .ok (.ifCond .ne off, 3)) (ht : (pc : Int) + off = (tgt : Int)) (h : (if x = 0 then a else b) = some r) (kt : b = some r → WK tgt lv st σ) (kf : a = some r → WK (pc + 3) lv st σ) : WK pc lv (.int x :: st) σ := by
  obtain ⟨p, ev, s, m, args, below, meth, c, nc, ns, Q, ⟨hx, hb, hml, hown, hts⟩, hU, hg, hnc, hns, rfl⟩ := C
  exact fun ls H locs hl hP hS => lv_if_ne hx hb hd ht (fun q => kt (by rw [if_neg q] at h; exact h) ls H locs hl hP hS) (fun q => kf (by rw [if_pos q] at h; exact h) ls H locs hl hP hS)
theorem k_icmp_ne (C : kY g l R own cc nL WK) {x y : Int32} {off : Int} {tgt : Nat} {a b : Option ρ} {r : ρ} (hd : decode cc pc = .ok (.if_icmp .ne off, 3)) (ht : (pc : Int) + off = (tgt : Int)) (h : (if x = y then a else b) = some r) (kt : b = some r → WK tgt lv st σ) (kf : a = some r → WK (pc + 3) lv st σ) : WK pc lv (.int y :: .int x :: st) σ := by
  obtain ⟨p, ev, s, m, args, below, meth, c, nc, ns, Q, ⟨hx, hb, hml, hown, hts⟩, hU, hg, hnc, hns, rfl⟩ := C
  exact fun ls H locs hl hP hS => lv_icmp_ne hx hb hd ht (fun q => kt (by rw [if_neg q] at h; exact h) ls H locs hl hP hS) (fun q => kf (by rw [if_pos q] at h; exact h) ls H locs hl hP hS)
theorem k_if_lt (C : kY g l R own cc nL WK) {x : Int32} {off : Int} {tgt : Nat} {a b : Option ρ} {r : ρ} (hd : decode cc pc = .ok (.ifCond .lt off, 3)) (ht : (pc : Int) + off = (tgt : Int)) (h : (if x < 0 then a else b) = some r) (kt : a = some r → WK tgt lv st σ) (kf : b = some r → WK (pc + 3) lv st σ) : WK pc lv (.int x :: st) σ := by
  obtain ⟨p, ev, s, m, args, below, meth, c, nc, ns, Q, ⟨hx, hb, hml, hown, hts⟩, hU, hg, hnc, hns, rfl⟩ := C
  exact fun ls H locs hl hP hS => lv_if_lt hx hb hd ht (fun q => kt (by rw [if_pos q] at h; exact h) ls H locs hl hP hS) (fun q => kf (by rw [if_neg q] at h; exact h) ls H locs hl hP hS)
theorem k_icmp_lt (C : kY g l R own cc nL WK) {x y : Int32} {off : Int} {tgt : Nat} {a b : Option ρ} {r : ρ} (hd : decode cc pc = .ok (.if_icmp .lt off, 3)) (ht : (pc : Int) + off = (tgt : Int)) (h : (if x < y then a else b) = some r) (kt : a = some r → WK tgt lv st σ) (kf : b = some r → WK (pc + 3) lv st σ) : WK pc lv (.int y :: .int x :: st) σ := by
  obtain ⟨p, ev, s, m, args, below, meth, c, nc, ns, Q, ⟨hx, hb, hml, hown, hts⟩, hU, hg, hnc, hns, rfl⟩ := C
  exact fun ls H locs hl hP hS => lv_icmp_lt hx hb hd ht (fun q => kt (by rw [if_pos q] at h; exact h) ls H locs hl hP hS) (fun q => kf (by rw [if_neg q] at h; exact h) ls H locs hl hP hS)
theorem k_if_ge (C : kY g l R own cc nL WK) {x : Int32} {off : Int} {tgt : Nat} {a b : Option ρ} {r : ρ} (hd : decode cc pc = .ok (.ifCond .ge off, 3)) (ht : (pc : Int) + off = (tgt : Int)) (h : (if 0 ≤ x then a else b) = some r) (kt : a = some r → WK tgt lv st σ) (kf : b = some r → WK (pc + 3) lv st σ) : WK pc lv (.int x :: st) σ := by
  obtain ⟨p, ev, s, m, args, below, meth, c, nc, ns, Q, ⟨hx, hb, hml, hown, hts⟩, hU, hg, hnc, hns, rfl⟩ := C
  exact fun ls H locs hl hP hS => lv_if_ge hx hb hd ht (fun q => kt (by rw [if_pos q] at h; exact h) ls H locs hl hP hS) (fun q => kf (by rw [if_neg q] at h; exact h) ls H locs hl hP hS)
theorem k_icmp_ge (C : kY g l R own cc nL WK) {x y : Int32} {off : Int} {tgt : Nat} {a b : Option ρ} {r : ρ} (hd : decode cc pc = .ok (.if_icmp .ge off, 3)) (ht : (pc : Int) + off = (tgt : Int)) (h : (if y ≤ x then a else b) = some r) (kt : a = some r → WK tgt lv st σ) (kf : b = some r → WK (pc + 3) lv st σ) : WK pc lv (.int y :: .int x :: st) σ := by
  obtain ⟨p, ev, s, m, args, below, meth, c, nc, ns, Q, ⟨hx, hb, hml, hown, hts⟩, hU, hg, hnc, hns, rfl⟩ := C
  exact fun ls H locs hl hP hS => lv_icmp_ge hx hb hd ht (fun q => kt (by rw [if_pos q] at h; exact h) ls H locs hl hP hS) (fun q => kf (by rw [if_neg q] at h; exact h) ls H locs hl hP hS)
theorem k_if_gt (C : kY g l R own cc nL WK) {x : Int32} {off : Int} {tgt : Nat} {a b : Option ρ} {r : ρ} (hd : decode cc pc = .ok (.ifCond .gt off, 3)) (ht : (pc : Int) + off = (tgt : Int)) (h : (if 0 < x then a else b) = some r) (kt : a = some r → WK tgt lv st σ) (kf : b = some r → WK (pc + 3) lv st σ) : WK pc lv (.int x :: st) σ := by
  obtain ⟨p, ev, s, m, args, below, meth, c, nc, ns, Q, ⟨hx, hb, hml, hown, hts⟩, hU, hg, hnc, hns, rfl⟩ := C
  exact fun ls H locs hl hP hS => lv_if_gt hx hb hd ht (fun q => kt (by rw [if_pos q] at h; exact h) ls H locs hl hP hS) (fun q => kf (by rw [if_neg q] at h; exact h) ls H locs hl hP hS)
theorem k_icmp_gt (C : kY g l R own cc nL WK) {x y : Int32} {off : Int} {tgt : Nat} {a b : Option ρ} {r : ρ} (hd : decode cc pc = .ok (.if_icmp .gt off, 3)) (ht : (pc : Int) + off = (tgt : Int)) (h : (if y < x then a else b) = some r) (kt : a = some r → WK tgt lv st σ) (kf : b = some r → WK (pc + 3) lv st σ) : WK pc lv (.int y :: .int x :: st) σ := by
  obtain ⟨p, ev, s, m, args, below, meth, c, nc, ns, Q, ⟨hx, hb, hml, hown, hts⟩, hU, hg, hnc, hns, rfl⟩ := C
  exact fun ls H locs hl hP hS => lv_icmp_gt hx hb hd ht (fun q => kt (by rw [if_pos q] at h; exact h) ls H locs hl hP hS) (fun q => kf (by rw [if_neg q] at h; exact h) ls H locs hl hP hS)
theorem k_if_le (C : kY g l R own cc nL WK) {x : Int32} {off : Int} {tgt : Nat} {a b : Option ρ} {r : ρ} (hd : decode cc pc = .ok (.ifCond .le off, 3)) (ht : (pc : Int) + off = (tgt : Int)) (h : (if x ≤ 0 then a else b) = some r) (kt : a = some r → WK tgt lv st σ) (kf : b = some r → WK (pc + 3) lv st σ) : WK pc lv (.int x :: st) σ := by
  obtain ⟨p, ev, s, m, args, below, meth, c, nc, ns, Q, ⟨hx, hb, hml, hown, hts⟩, hU, hg, hnc, hns, rfl⟩ := C
  exact fun ls H locs hl hP hS => lv_if_le hx hb hd ht (fun q => kt (by rw [if_pos q] at h; exact h) ls H locs hl hP hS) (fun q => kf (by rw [if_neg q] at h; exact h) ls H locs hl hP hS)
theorem k_icmp_le (C : kY g l R own cc nL WK) {x y : Int32} {off : Int} {tgt : Nat} {a b : Option ρ} {r : ρ} (hd : decode cc pc = .ok (.if_icmp .le off, 3)) (ht : (pc : Int) + off = (tgt : Int)) (h : (if x ≤ y then a else b) = some r) (kt : a = some r → WK tgt lv st σ) (kf : b = some r → WK (pc + 3) lv st σ) : WK pc lv (.int y :: .int x :: st) σ := by
  obtain ⟨p, ev, s, m, args, below, meth, c, nc, ns, Q, ⟨hx, hb, hml, hown, hts⟩, hU, hg, hnc, hns, rfl⟩ := C
  exact fun ls H locs hl hP hS => lv_icmp_le hx hb hd ht (fun q => kt (by rw [if_pos q] at h; exact h) ls H locs hl hP hS) (fun q => kf (by rw [if_neg q] at h; exact h) ls H locs hl hP hS)
theorem k_tsIn (C : kY g l R own cc nL WK) {dflt lo hi : Int} {offs : Array Int} {len : Nat} {x q : Int32} {off : Int} {tgt : Nat} (hd : decode cc pc = .ok (.tableswitch dflt lo hi offs, len)) (h1 : ¬ q.toInt < lo) (h2 : ¬ hi < q.toInt) (ho : offs[(q.toInt - lo).toNat]? = some off) (ht : (pc : Int) + off = (tgt : Int)) (e : x = q) (k : WK tgt lv st σ) : WK pc lv (.int x :: st) σ := by
  obtain ⟨p, ev, s, m, args, below, meth, c, nc, ns, Q, ⟨hx, hb, hml, hown, hts⟩, hU, hg, hnc, hns, rfl⟩ := C
  subst e
  exact fun ls H locs hl hP hS => lv_tableIn hx hb hd h1 h2 ho ht (k ls H locs hl hP hS)
theorem k_tsOut (C : kY g l R own cc nL WK) {dflt lo hi : Int} {offs : Array Int} {len : Nat} {x : Int32} {tgt : Nat} (hd : decode cc pc = .ok (.tableswitch dflt lo hi offs, len)) (h : x.toInt < lo ∨ hi < x.toInt) (ht : (pc : Int) + dflt = (tgt : Int)) (k : WK tgt lv st σ) : WK pc lv (.int x :: st) σ := by
  obtain ⟨p, ev, s, m, args, below, meth, c, nc, ns, Q, ⟨hx, hb, hml, hown, hts⟩, hU, hg, hnc, hns, rfl⟩ := C
  exact fun ls H locs hl hP hS => lv_tableOut hx hb hd h ht (k ls H locs hl hP hS)
theorem k_ls (C : kY g l R own cc nL WK) {dflt : Int} {ps : Array (Int × Int)} {len : Nat} {x : Int32} {off : Int} {tgt : Nat} (hd : decode cc pc = .ok (.lookupswitch dflt ps, len)) (hp : (ps.toList.zip (ps.toList.drop 1)).all (fun (a, next) => a.1 < next.1) = true) (ho : Op.lookupswitch.offset ps.toList dflt x.toInt = off) (ht : (pc : Int) + off = (tgt : Int)) (k : WK tgt lv st σ) : WK pc lv (.int x :: st) σ := by
  obtain ⟨p, ev, s, m, args, below, meth, c, nc, ns, Q, ⟨hx, hb, hml, hown, hts⟩, hU, hg, hnc, hns, rfl⟩ := C
  exact fun ls H locs hl hP hS => lv_lookup hx hb hd hp ho ht (k ls H locs hl hP hS)
theorem k_sub (C : kY g l R own cc nL WK) (js : List Nat) (e : lv_pick lv js = lv') (k : WK pc lv' st σ) : WK pc lv st σ := by
  obtain ⟨p, ev, s, m, args, below, meth, c, nc, ns, Q, ⟨hx, hb, hml, hown, hts⟩, hU, hg, hnc, hns, rfl⟩ := C
  exact fun ls H locs hl hP hS => k ls H locs (lv_sub hl js e) hP hS
theorem k_getI (C : kY g l R own cc nL WK) {D : String} {T : u_T} {N ci i k ob : Nat} {f : Int32 → Option ρ} {r : ρ} (hin : ∀ w ∈ u_ws D T N, w ∈ WS) (hk : kd ob = ci) (hci : ci < 10) (hc : vwCl[ci]? = some (D, T, N)) (hkN : k < N) (hw : Cond.fieldLink own i (T k).1 (T k).2.1 (T k).2.2.1 ∈ WS) (hv : (fl g.2.2 σ ob ci)[k]? = some (.int (gI σ ob k))) (hd : decode cc pc = .ok (.getfield i, 3)) (h : kl (gI σ ob k) f = some r) (kk : ∀ v, f v = some r → WK (pc + 3) lv (.int v :: st) σ) : WK pc lv (.ref (g.2.2 ob) :: st) σ := by
  obtain ⟨p, ev, s, m, args, below, meth, c, nc, ns, Q, ⟨hx, hb, hml, hown, hts⟩, hU, hg, hnc, hns, rfl⟩ := C
  exact fun ls H locs hl hP hS => va_get (D := g.1) hx hb hts hin hown hU.1 hP ob (by rw [wd_get (kd_lt hk (by omega)), en_o hk hci]) hc k hkN (hts _ hw) (fun _ h9 => h9) hv hd (kk _ h ls H locs hl hP hS)
theorem k_getR (C : kY g l R own cc nL WK) {D : String} {T : u_T} {N ci i k ob q : Nat} (hin : ∀ w ∈ u_ws D T N, w ∈ WS) (hk : kd ob = ci) (hci : ci < 10) (hc : vwCl[ci]? = some (D, T, N)) (hkN : k < N) (hw : Cond.fieldLink own i (T k).1 (T k).2.1 (T k).2.2.1 ∈ WS) (hv : (fl g.2.2 σ ob ci)[k]? = some (.ref (g.2.2 q))) (hd : decode cc pc = .ok (.getfield i, 3)) (kk : WK (pc + 3) lv (.ref (g.2.2 q) :: st) σ) : WK pc lv (.ref (g.2.2 ob) :: st) σ := by
  obtain ⟨p, ev, s, m, args, below, meth, c, nc, ns, Q, ⟨hx, hb, hml, hown, hts⟩, hU, hg, hnc, hns, rfl⟩ := C
  exact fun ls H locs hl hP hS => va_get (D := g.1) hx hb hts hin hown hU.1 hP ob (by rw [wd_get (kd_lt hk (by omega)), en_o hk hci]) hc k hkN (hts _ hw) (fun _ h9 => h9) hv hd (kk ls H locs hl hP hS)
theorem k_getK (C : kY g l R own cc nL WK) {i : Nat} {f : Nat → Option ρ} {r : ρ} (hin : ∀ w ∈ u_ws RX11 TX11 39, w ∈ WS) (hw : Cond.fieldLink own i (TX11 30).1 (TX11 30).2.1 (TX11 30).2.2.1 ∈ WS) (hd : decode cc pc = .ok (.getfield i, 3)) (h : gK σ f = some r) (kk : ∀ n, (n = 57 ∨ n = 58) → f n = some r → WK (pc + 3) lv (.ref (g.2.2 n) :: st) σ) : WK pc lv (.ref (g.2.2 45) :: st) σ := by
  obtain ⟨p, ev, s, m, args, below, meth, c, nc, ns, Q, ⟨hx, hb, hml, hown, hts⟩, hU, hg, hnc, hns, rfl⟩ := C
  unfold gK at h
  split at h
  · rename_i hn
    exact fun ls H locs hl hP hS => va_get (D := g.1) (v := .ref (g.2.2 σ.2.2.2)) hx hb hts hin hown hU.1 hP 45 (by rw [wd_get (by omega), en_o (c := 6) rfl (by omega)]) (show vwCl[6]? = some (RX11, TX11, 39) from rfl) 30 (by omega) (hts _ hw) (fun _ h9 => h9) (by show some (if σ.2.2.2 = 0 then Value.null else .ref (g.2.2 σ.2.2.2)) = _; rw [if_neg (by omega)]) hd (kk _ hn h ls H locs hl hP hS)
  · cases h
theorem k_putI (C : kY g l R own cc nL WK) {D : String} {T : u_T} {N ci i k ob : Nat} {ty0 : Nat → FieldType} {v : Int32} {f : St → Option ρ} {r : ρ} (hin : ∀ w ∈ u_ws D T N, w ∈ WS) (hty : ∀ k, k < N → parseFieldDescriptor (T k).2.2.1 = some (ty0 k)) (hnm : ∀ a, a < N → ∀ b, b < N → a ≠ b → (T a).2.1 ≠ (T b).2.1) (hk : kd ob = ci) (hci : ci < 10) (hc : vwCl[ci]? = some (D, T, N)) (hkN : k < N) (hw : Cond.fieldLink own i (T k).1 (T k).2.1 (T k).2.2.1 ∈ WS) (hfin : (T k).2.2.2 = false) (hdsc : ty0 k = .int) (hlen : k < (fl g.2.2 σ ob ci).length) (hfl : (fl g.2.2 σ ob ci).set k (.int v) = fl g.2.2 (pI σ ob k v) ob ci) (hd : decode cc pc = .ok (.putfield i, 3)) (h : kl (pI σ ob k v) f = some r) (kk : ∀ σ', f σ' = some r → WK (pc + 3) lv st σ') : WK pc lv (.int v :: .ref (g.2.2 ob) :: st) σ := by
  obtain ⟨p, ev, s, m, args, below, meth, c, nc, ns, Q, ⟨hx, hb, hml, hown, hts⟩, hU, hg, hnc, hns, rfl⟩ := C
  intro ls H locs hl hP hS
  have h67 : ob < 67 := kd_lt hk (by omega)
  refine va_put (D := g.1) (ty := .int) hx hb hts hin ty0 hty hnm hown hU.1 hP (wd_D hg) hS ob (by rw [wd_get h67, en_o hk hci]) hc k hkN (hts _ hw) (fun _ h9 => h9) hfin (by rw [hty k hkN, hdsc]) rfl rfl hlen hd (fun H1 locs1 hP1 hD1 hS1 => ?_)
  rw [wd_set (σ' := pI σ ob k v) h67 (by rw [en_o hk hci, hfl]) (fun j hj => en_pI_n hj)] at hP1
  exact kk _ h ls H1 locs1 hl hP1 hS1
theorem k_putZ (C : kY g l R own cc nL WK) {D : String} {T : u_T} {N ci i k ob : Nat} {ty0 : Nat → FieldType} {v : Int32} {f : St → Option ρ} {r : ρ} (hin : ∀ w ∈ u_ws D T N, w ∈ WS) (hty : ∀ k, k < N → parseFieldDescriptor (T k).2.2.1 = some (ty0 k)) (hnm : ∀ a, a < N → ∀ b, b < N → a ≠ b → (T a).2.1 ≠ (T b).2.1) (hk : kd ob = ci) (hci : ci < 10) (hc : vwCl[ci]? = some (D, T, N)) (hkN : k < N) (hw : Cond.fieldLink own i (T k).1 (T k).2.1 (T k).2.2.1 ∈ WS) (hfin : (T k).2.2.2 = false) (hdsc : ty0 k = .boolean) (hlen : k < (fl g.2.2 σ ob ci).length) (hfl : (fl g.2.2 σ ob ci).set k (.int v) = fl g.2.2 (pI σ ob k v) ob ci) (hd : decode cc pc = .ok (.putfield i, 3)) (h : stZ σ ob k v f = some r) (kk : ∀ σ', f σ' = some r → WK (pc + 3) lv st σ') : WK pc lv (.int v :: .ref (g.2.2 ob) :: st) σ := by
  obtain ⟨p, ev, s, m, args, below, meth, c, nc, ns, Q, ⟨hx, hb, hml, hown, hts⟩, hU, hg, hnc, hns, rfl⟩ := C
  unfold stZ at h
  split at h
  · rename_i hv
    intro ls H locs hl hP hS
    have h67 : ob < 67 := kd_lt hk (by omega)
    refine va_put (D := g.1) (ty := .boolean) hx hb hts hin ty0 hty hnm hown hU.1 hP (wd_D hg) hS ob (by rw [wd_get h67, en_o hk hci]) hc k hkN (hts _ hw) (fun _ h9 => h9) hfin (by rw [hty k hkN, hdsc]) (by rcases hv with rfl | rfl <;> rfl) (by rcases hv with rfl | rfl <;> rfl) hlen hd (fun H1 locs1 hP1 hD1 hS1 => ?_)
    rw [wd_set (σ' := pI σ ob k v) h67 (by rw [en_o hk hci, hfl]) (fun j hj => en_pI_n hj)] at hP1
    exact kk _ h ls H1 locs1 hl hP1 hS1
  · cases h
theorem k_putK (C : kY g l R own cc nL WK) {i n : Nat} {f : St → Option ρ} {r : ρ} (hin : ∀ w ∈ u_ws RX11 TX11 39, w ∈ WS) (hw : Cond.fieldLink own i (TX11 30).1 (TX11 30).2.1 (TX11 30).2.2.1 ∈ WS) (hn : n ≠ 0) (hd : decode cc pc = .ok (.putfield i, 3)) (h : kl (pK σ n) f = some r) (kk : ∀ σ', f σ' = some r → WK (pc + 3) lv st σ') : WK pc lv (.ref (g.2.2 n) :: .ref (g.2.2 45) :: st) σ := by
  obtain ⟨p, ev, s, m, args, below, meth, c, nc, ns, Q, ⟨hx, hb, hml, hown, hts⟩, hU, hg, hnc, hns, rfl⟩ := C
  intro ls H locs hl hP hS
  refine va_put (D := g.1) (ty := .array .int) hx hb hts hin tyX11 tyX11_ok nmX11 hown hU.1 hP (wd_D hg) hS 45 (by rw [wd_get (by omega), en_o (c := 6) rfl (by omega)]) (show vwCl[6]? = some (RX11, TX11, 39) from rfl) 30 (by omega) (hts _ hw) (fun _ h9 => h9) rfl (tyX11_ok 30 (by omega)) rfl rfl (Nat.le_of_ble_eq_true rfl) hd (fun H1 locs1 hP1 hD1 hS1 => ?_)
  have e9 : (if n = 0 then Value.null else .ref (g.2.2 n)) = .ref (g.2.2 n) := if_neg hn
  have hw9 : ∀ j, j < 67 → j ≠ 45 → en g (pK σ n) j = en g σ j := fun j h1 h2 => en_pK_n h1 h2
  have e8 : (wd g σ).set 45 (g.2.2 45, .inr (6, (fl g.2.2 σ 45 6).set 30 (.ref (g.2.2 n)))) = wd g (pK σ n) := by
    rw [← e9]
    apply List.ext_getElem?
    intro j
    by_cases hjo : j = 45
    · subst hjo
      rw [wd_get (by omega), List.getElem?_set_self (by simp [wd]), en_o (c := 6) rfl (by omega)]
      rfl
    · rw [List.getElem?_set_ne (fun q => hjo q.symm)]
      rcases Nat.lt_or_ge j 67 with q | q
      · rw [wd_get q, wd_get q, hw9 j q hjo]
      · rw [List.getElem?_eq_none (by simp [wd]; exact q), List.getElem?_eq_none (by simp [wd]; exact q)]
  rw [e8] at hP1
  exact kk _ h ls H1 locs1 hl hP1 hS1
theorem k_iald (C : kY g l R own cc nL WK) {a n : Nat} {i : Int32} {f : Int32 → Option ρ} {r : ρ} (hk : kd a = 10) (hn : ln a = n) (hd : decode cc pc = .ok (.iaload, 1)) (h : ldA σ a n i f = some r) (kk : ∀ v, f v = some r → WK (pc + 1) lv (.int v :: st) σ) : WK pc lv (.int i :: .ref (g.2.2 a) :: st) σ := by
  obtain ⟨p, ev, s, m, args, below, meth, c, nc, ns, Q, ⟨hx, hb, hml, hown, hts⟩, hU, hg, hnc, hns, rfl⟩ := C
  unfold ldA at h
  split at h
  · cases h
  · rename_i hi
    exact fun ls H locs hl hP hS => va_iald (D := g.1) (f := σ.2.1 a) hx hb hU.1 hP a 0 (by rw [wd_get (kd_lt hk (by omega)), en_i hk, hn]) rfl hi hd (kk _ h ls H locs hl hP hS)
theorem k_lald (C : kY g l R own cc nL WK) {a n : Nat} {i : Int32} {f : Int64 → Option ρ} {r : ρ} (hk : kd a = 11) (hn : ln a = n) (hd : decode cc pc = .ok (.laload, 1)) (h : ldL σ a n i f = some r) (kk : ∀ v, f v = some r → WK (pc + 1) lv (.long v :: st) σ) : WK pc lv (.int i :: .ref (g.2.2 a) :: st) σ := by
  obtain ⟨p, ev, s, m, args, below, meth, c, nc, ns, Q, ⟨hx, hb, hml, hown, hts⟩, hU, hg, hnc, hns, rfl⟩ := C
  unfold ldL at h
  split at h
  · cases h
  · rename_i hi
    exact fun ls H locs hl hP hS => va_lald (D := g.1) (f := σ.2.2.1 a) hx hb hU.1 hP a 1 (by rw [wd_get (kd_lt hk (by omega)), en_l hk, hn]) rfl hi hd (kk _ h ls H locs hl hP hS)
theorem k_aald (C : kY g l R own cc nL WK) {i : Int32} {f : Nat → Option ρ} {r : ρ} (hd : decode cc pc = .ok (.aaload, 1)) (h : ldR i f = some r) (kk : ∀ n, kd n = 3 → f n = some r → WK (pc + 1) lv (.ref (g.2.2 n) :: st) σ) : WK pc lv (.int i :: .ref (g.2.2 44) :: st) σ := by
  obtain ⟨p, ev, s, m, args, below, meth, c, nc, ns, Q, ⟨hx, hb, hml, hown, hts⟩, hU, hg, hnc, hns, rfl⟩ := C
  unfold ldR at h
  split at h
  · cases h
  · rename_i hi
    have h3 : ∀ j, j < 8 → kd (10 + j) = 3 := by decide +kernel
    have h8 : i.toNatClampNeg < 8 := Nat.not_le.mp (fun q => hi (Or.inr q))
    exact fun ls H locs hl hP hS => va_aldq (D := g.1) (f := fun i => some (g.2.2 (10 + i))) hx hb hU.1 hP 44 2 (by rw [wd_get (by omega), en_r rfl]) rfl hi hd (kk _ (h3 _ h8) h ls H locs hl hP hS)
theorem k_iast (C : kY g l R own cc nL WK) {a n : Nat} {i v : Int32} {f : St → Option ρ} {r : ρ} (hk : kd a = 10) (hn : ln a = n) (hd : decode cc pc = .ok (.iastore, 1)) (h : stA σ a n i v f = some r) (kk : ∀ σ', f σ' = some r → WK (pc + 1) lv st σ') : WK pc lv (.int v :: .int i :: .ref (g.2.2 a) :: st) σ := by
  obtain ⟨p, ev, s, m, args, below, meth, c, nc, ns, Q, ⟨hx, hb, hml, hown, hts⟩, hU, hg, hnc, hns, rfl⟩ := C
  unfold stA at h
  split at h
  · cases h
  · rename_i hi
    intro ls H locs hl hP hS
    have h67 : a < 67 := kd_lt hk (by omega)
    refine va_iast (D := g.1) hx hb hU.1 hP (wd_D hg) hS a 0 (by rw [wd_get h67, en_i hk, hn]) rfl hi hd (fun H1 locs1 hP1 hD1 hS1 => ?_)
    rw [wd_set (σ' := pA σ a i.toNatClampNeg v) h67 (by rw [en_i hk, hn]; show (Sum.inl (_, _, Sum.inl (fu σ.2.1 a _ a)) : va_E) = _; rw [fu_s]) (fun j hj => en_pA_n hj)] at hP1
    exact kk _ h ls H1 locs1 hl hP1 hS1
theorem k_last (C : kY g l R own cc nL WK) {a n : Nat} {i : Int32} {v : Int64} {f : St → Option ρ} {r : ρ} (hk : kd a = 11) (hn : ln a = n) (hd : decode cc pc = .ok (.lastore, 1)) (h : stL σ a n i v f = some r) (kk : ∀ σ', f σ' = some r → WK (pc + 1) lv st σ') : WK pc lv (.long v :: .int i :: .ref (g.2.2 a) :: st) σ := by
  obtain ⟨p, ev, s, m, args, below, meth, c, nc, ns, Q, ⟨hx, hb, hml, hown, hts⟩, hU, hg, hnc, hns, rfl⟩ := C
  unfold stL at h
  split at h
  · cases h
  · rename_i hi
    intro ls H locs hl hP hS
    have h67 : a < 67 := kd_lt hk (by omega)
    refine va_last (D := g.1) hx hb hU.1 hP (wd_D hg) hS a 1 (by rw [wd_get h67, en_l hk, hn]) rfl hi hd (fun H1 locs1 hP1 hD1 hS1 => ?_)
    rw [wd_set (σ' := pL σ a i.toNatClampNeg v) h67 (by rw [en_l hk, hn]; show (Sum.inl (_, _, Sum.inr (Sum.inl (fu σ.2.2.1 a _ a))) : va_E) = _; rw [fu_s]) (fun j hj => en_pL_n hj)] at hP1
    exact kk _ h ls H1 locs1 hl hP1 hS1
theorem k_alenI (C : kY g l R own cc nL WK) {a n : Nat} {v : Int32} (hk : kd a = 10) (hn : ln a = n) (hv : Int32.ofNat n = v) (hd : decode cc pc = .ok (.arraylength, 1)) (kk : WK (pc + 1) lv (.int v :: st) σ) : WK pc lv (.ref (g.2.2 a) :: st) σ := by
  obtain ⟨p, ev, s, m, args, below, meth, c, nc, ns, Q, ⟨hx, hb, hml, hown, hts⟩, hU, hg, hnc, hns, rfl⟩ := C
  exact fun ls H locs hl hP hS => va_alen (D := g.1) hx hb hU.1 hP a 0 (by rw [wd_get (kd_lt hk (by omega)), en_i hk, hn]) (ty := .int) rfl hv hd (kk ls H locs hl hP hS)
theorem k_alenL (C : kY g l R own cc nL WK) {a n : Nat} {v : Int32} (hk : kd a = 11) (hn : ln a = n) (hv : Int32.ofNat n = v) (hd : decode cc pc = .ok (.arraylength, 1)) (kk : WK (pc + 1) lv (.int v :: st) σ) : WK pc lv (.ref (g.2.2 a) :: st) σ := by
  obtain ⟨p, ev, s, m, args, below, meth, c, nc, ns, Q, ⟨hx, hb, hml, hown, hts⟩, hU, hg, hnc, hns, rfl⟩ := C
  exact fun ls H locs hl hP hS => va_alen (D := g.1) hx hb hU.1 hP a 1 (by rw [wd_get (kd_lt hk (by omega)), en_l hk, hn]) (ty := .long) rfl hv hd (kk ls H locs hl hP hS)
theorem k_alenR (C : kY g l R own cc nL WK) {v : Int32} (hv : Int32.ofNat 8 = v) (hd : decode cc pc = .ok (.arraylength, 1)) (kk : WK (pc + 1) lv (.int v :: st) σ) : WK pc lv (.ref (g.2.2 44) :: st) σ := by
  obtain ⟨p, ev, s, m, args, below, meth, c, nc, ns, Q, ⟨hx, hb, hml, hown, hts⟩, hU, hg, hnc, hns, rfl⟩ := C
  exact fun ls H locs hl hP hS => va_alen (D := g.1) hx hb hU.1 hP 44 2 (by rw [wd_get (by omega), en_r rfl]) (ty := .object RX5) rfl hv hd (kk ls H locs hl hP hS)
theorem k_mmax (C : kY g l R own cc nL WK) {x y : Int32} {i : Nat} (h1 : Cond.methodLink own i Lib.Math.max.name ∈ WS) (h2 : Cond.static Lib.Math.max.name ∈ WS) (h3 : Cond.initialized "java/lang/Math" ∈ WS) (h4 : Cond.code Lib.Math.max.name Lib.Math.max.code 2 (some .int) ∈ WS) (hf : 1 ≤ R.frames) (hlo : (st.map fun v => v.category).sum + 13 ≤ R.locals) (hd : decode cc pc = .ok (.invokestatic i, 3)) (k : WK (pc + 3) lv (.int (if x < y then y else x) :: st) σ) : WK pc lv (.int y :: .int x :: st) σ := by
  obtain ⟨p, ev, s, m, args, below, meth, c, nc, ns, Q, ⟨hx, hb, hml, hown, hts⟩, hU, hg, hnc, hns, rfl⟩ := C
  exact fun ls H locs hl hP hS => va_mmax hx hb (hml.trans hl.1.symm) hown (hts _ h1) (hts _ h2) (hts _ h3) (hts _ h4) hf hlo hnc hns hd (k ls H locs hl hP hS)
theorem k_mmin (C : kY g l R own cc nL WK) {x y : Int32} {i : Nat} (h1 : Cond.methodLink own i Lib.Math.min.name ∈ WS) (h2 : Cond.static Lib.Math.min.name ∈ WS) (h3 : Cond.initialized "java/lang/Math" ∈ WS) (h4 : Cond.code Lib.Math.min.name Lib.Math.min.code 2 (some .int) ∈ WS) (hf : 1 ≤ R.frames) (hlo : (st.map fun v => v.category).sum + 13 ≤ R.locals) (hd : decode cc pc = .ok (.invokestatic i, 3)) (k : WK (pc + 3) lv (.int (if y < x then y else x) :: st) σ) : WK pc lv (.int y :: .int x :: st) σ := by
  obtain ⟨p, ev, s, m, args, below, meth, c, nc, ns, Q, ⟨hx, hb, hml, hown, hts⟩, hU, hg, hnc, hns, rfl⟩ := C
  exact fun ls H locs hl hP hS => va_mmin hx hb (hml.trans hl.1.symm) hown (hts _ h1) (hts _ h2) (hts _ h3) (hts _ h4) hf hlo hnc hns hd (k ls H locs hl hP hS)
theorem k_mabs (C : kY g l R own cc nL WK) {x : Int32} {i : Nat} (h1 : Cond.methodLink own i Lib.Math.abs.name ∈ WS) (h2 : Cond.static Lib.Math.abs.name ∈ WS) (h3 : Cond.initialized "java/lang/Math" ∈ WS) (h4 : Cond.code Lib.Math.abs.name Lib.Math.abs.code 1 (some .int) ∈ WS) (hf : 1 ≤ R.frames) (hlo : (st.map fun v => v.category).sum + 13 ≤ R.locals) (hd : decode cc pc = .ok (.invokestatic i, 3)) (k : WK (pc + 3) lv (.int (if 0 ≤ x then x else 0 - x) :: st) σ) : WK pc lv (.int x :: st) σ := by
  obtain ⟨p, ev, s, m, args, below, meth, c, nc, ns, Q, ⟨hx, hb, hml, hown, hts⟩, hU, hg, hnc, hns, rfl⟩ := C
  exact fun ls H locs hl hP hS => va_mabs hx hb (hml.trans hl.1.symm) hown (hts _ h1) (hts _ h2) (hts _ h3) (hts _ h4) hf hlo hnc hns hd (k ls H locs hl hP hS)
theorem k_copyL (C : kY g l R own cc nL WK) {i a n b q : Nat} {sp dp k : Int32} {f : St → Option ρ} {r : ρ} (h1 : Cond.methodLink own i arraycopyName ∈ WS) (h2 : Cond.native arraycopyName ∈ WS) (h3 : Cond.static arraycopyName ∈ WS) (h4 : Cond.initialized "java/lang/System" ∈ WS) (hka : kd a = 11) (hna : ln a = n) (hkb : kd b = 11) (hnb : ln b = q) (hf : 1 ≤ R.frames) (hlo : (st.map fun v => v.category).sum + (nativeFrameWords "java/lang/System" "arraycopy" 5 + 11) ≤ R.locals) (hd : decode cc pc = .ok (.invokestatic i, 3)) (h : cpL σ a n sp b q dp k f = some r) (kk : ∀ σ', f σ' = some r → WK (pc + 3) lv st σ') : WK pc lv (.int k :: .int dp :: .ref (g.2.2 b) :: .int sp :: .ref (g.2.2 a) :: st) σ := by
  obtain ⟨p, ev, s, m, args, below, meth, c, nc, ns, Q, ⟨hx, hb, hml, hown, hts⟩, hU, hg, hnc, hns, rfl⟩ := C
  unfold cpL at h
  split at h
  · cases h
  · rename_i hi
    simp only [not_or, Nat.not_lt] at hi
    obtain ⟨i1, i2, i3, i4, i5⟩ := hi
    intro ls H locs hl hP hS
    have h67 : b < 67 := kd_lt hkb (by omega)
    refine va_copyl (D := g.1) (ty := .long) hx hb (hml.trans hl.1.symm) hown (hts _ h1) (hts _ h2) (hts _ h3) (hts _ h4) hU.1 hP (wd_D hg) hS a b 1 1 (by rw [wd_get (kd_lt hka (by omega)), en_l hka, hna]) (by rw [wd_get h67, en_l hkb, hnb]) rfl rfl rfl i1 i2 i3 i4 i5 (fun _ _ => rfl) hf hlo hd (fun H1 locs1 hP1 hD1 hS1 => ?_)
    rw [wd_set (σ' := sL σ b (va_cpy (σ.2.2.1 a) (σ.2.2.1 b) sp.toNatClampNeg dp.toNatClampNeg k.toNatClampNeg)) h67 (by rw [en_l hkb, hnb]; show (Sum.inl (_, _, Sum.inr (Sum.inl (fu σ.2.2.1 b _ b))) : va_E) = _; rw [fu_s]) (fun j hj => en_sL_n hj)] at hP1
    exact kk _ h ls H1 locs1 hl hP1 hS1
theorem k_iret {x v : Int32} (C : kX g l R own cc nL (some .int) (some (.int v)) σe WK) (hd : decode cc pc = .ok (.ireturn, 1)) (h : some (x, σ) = some (v, σe)) : WK pc lv [.int x] σ := by
  obtain ⟨p, ev, s, m, args, below, meth, c, ⟨hx, hb, hml, hown, hts⟩, hr, hlk, hU, hg, rfl⟩ := C
  cases h
  exact fun ls H locs hl hP hS => W.iret hx hb hr (fun t ht hW => ⟨⟨rfl, by rw [ht]; exact hP⟩, hS.F ht⟩) hS.2.2 hd hlk
theorem k_lret {x v : Int64} (C : kX g l R own cc nL (some .long) (some (.long v)) σe WK) (hd : decode cc pc = .ok (.lreturn, 1)) (h : some (x, σ) = some (v, σe)) : WK pc lv [.long x] σ := by
  obtain ⟨p, ev, s, m, args, below, meth, c, ⟨hx, hb, hml, hown, hts⟩, hr, hlk, hU, hg, rfl⟩ := C
  cases h
  exact fun ls H locs hl hP hS => W.lret hx hb hr (fun t ht hW => ⟨⟨rfl, by rw [ht]; exact hP⟩, hS.F ht⟩) hS.2.2 hd hlk
theorem k_zret {x v : Int32} (C : kX g l R own cc nL (some .boolean) (some (.int v)) σe WK) (hd : decode cc pc = .ok (.ireturn, 1)) (h : rz x σ = some (v, σe)) : WK pc lv [.int x] σ := by
  obtain ⟨p, ev, s, m, args, below, meth, c, ⟨hx, hb, hml, hown, hts⟩, hr, hlk, hU, hg, rfl⟩ := C
  unfold rz at h
  split at h
  · rename_i hx2
    cases h
    exact fun ls H locs hl hP hS => W.zret hx hb hr (by rcases hx2 with rfl | rfl <;> rfl) (fun t ht hW => ⟨⟨rfl, by rw [ht]; exact hP⟩, hS.F ht⟩) hS.2.2 hd hlk
  · cases h
theorem k_vret (C : kX g l R own cc nL none none σe WK) (hd : decode cc pc = .ok (.return_, 1)) (h : some σ = some σe) : WK pc lv [] σ := by
  obtain ⟨p, ev, s, m, args, below, meth, c, ⟨hx, hb, hml, hown, hts⟩, hr, hlk, hU, hg, rfl⟩ := C
  cases h
  exact fun ls H locs hl hP hS => W.vret hx hb hr (fun t ht hW => ⟨⟨rfl, by rw [ht]; exact hP⟩, hS.F ht⟩) hS.2.2 hd hlk
theorem k_aret {x v : Nat} {N : String} (C : kX g l R own cc nL (some (.object N)) (some (.ref (g.2.2 v))) σe WK) (hd : decode cc pc = .ok (.areturn, 1)) (h : some (x, σ) = some (v, σe)) : WK pc lv [.ref (g.2.2 x)] σ := by
  obtain ⟨p, ev, s, m, args, below, meth, c, ⟨hx, hb, hml, hown, hts⟩, hr, hlk, hU, hg, rfl⟩ := C
  cases h
  exact fun ls H locs hl hP hS => W.aret hx hb hr (Or.inl ⟨_, rfl⟩) (Or.inr ⟨_, rfl⟩) (fun t ht hW => ⟨⟨rfl, by rw [ht]; exact hP⟩, hS.F ht⟩) hS.2.2 hd hlk
theorem k_fin {p : Program} {e : Env} {s : State} {m : MethodId} {args : Array Value} {below : List Frame} {meth : Method} {c : Code} {H : Heap} {locs : List Loc} {ls : Array Slot} {stk a : List Value} {oo : Option Value} {σ' : St} {Q : State → Prop} {nc ns : Nat} (hS : va_S (aA g s.heap.size) s.heap H locs) (run : va_Run p l e R s m args below meth c H locs nc ns 0 0 (F0 m pc ls stk) st (kQ g oo σ' (aA g H.size) a.toArray) (aA g H.size))
    (k : ∀ (H : Heap) (locs : List Loc), va_P g.1 vwCl (wd g σ') H → va_S (aA g s.heap.size) s.heap H locs → W p l e R s m args below meth c H locs nc ns Q (F0 m (pc + 3) ls (oo.toList ++ st))) : W p l e R s m args below meth c H locs nc ns Q (F0 m pc ls stk) := by
  have hA : ∀ q, aA g H.size q → aA g s.heap.size q := fun q h => h.elim Or.inl (fun h => Or.inr (Nat.le_trans hS.1 h))
  intro T hT X
  obtain ⟨v, st₀, t, T', L, h0, X', hL, e1, e2, ⟨⟨hv, hP'⟩, hz, hk⟩, go⟩ := run T hT X
  cases hv
  rw [h0] at hz hk
  obtain ⟨t2, a1, b1⟩ := k T'.heap (locs ++ L) (by rw [e1]; exact hP')
    ⟨Nat.le_trans hS.1 (by rw [e1]; exact hz), fun q h1 h2 => by rw [e1, hk q (Nat.lt_of_lt_of_le h1 hS.1) (fun z => h2 (hA q z))]; exact hS.2.1 q h1 h2, fun q hq => by
      rcases List.mem_append.mp hq with h | h
      · exact hS.2.2 q h
      · exact hA _ (hL q h)⟩ T' rfl X'
  exact ⟨t2, go t2 a1, b1⟩
theorem k_cv {y : MethodName} {rm : Room} {bytes : ByteArray} {maxL n idx ci ob : Nat} {ret : Option FieldType} {D : String} {T : u_T} {N : Nat} {As stk : List Value} {oo : Option Value} {σ' : St} (C : kY g l R own cc nL WK) (hM : Mc l g y bytes maxL ret rm (.ref (g.2.2 ob) :: As) σ oo σ') (h1 : Cond.methodLink own idx y ∈ WS) (h2 : Cond.instanceMethod y ∈ WS) (h3 : Cond.selects D y y ∈ WS) (h4 : Cond.initialized D ∈ WS) (h5 : Cond.code y bytes maxL ret ∈ WS) (hrc : rm.cells = 0) (hrs : rm.slots = 0)
    (hd2 : y.cls = D ∧ y.cls ≠ "java/lang/invoke/MethodHandle" ∧ y.cls ≠ "java/lang/invoke/VarHandle" ∧ (parseMethodDescriptor y.desc).map (fun d => d.parameters.length) = some n) (hR : rm.frames + 1 ≤ R.frames ∧ 8 + (maxL + 11) + rm.locals ≤ R.locals) (hk : kd ob = ci) (hci : ci < 10) (hc : vwCl[ci]? = some (D, T, N)) (hn : As.length = n) (hs : stk = As.reverse ++ .ref (g.2.2 ob) :: st) (hroom : (st.map fun v => v.category).sum ≤ 8)
    (hdg : decode cc pc = .ok (.invokevirtual idx, 3)) (k : WK (pc + 3) lv (oo.toList ++ st) σ') : WK pc lv stk σ := by
  obtain ⟨p, ev, s, m, args, below, meth, c, nc, ns, Q, ⟨hx, hb, hml, hown, hts⟩, hU, hg, hnc, hns, rfl⟩ := C
  intro ls H locs hl hP hS
  exact k_fin (a := .ref (g.2.2 ob) :: As) hS (va_runV ⟨hx, hb, hml, hown, hts⟩ (hM H.size) (cwV n hts (gV h1 h2 h3 h4 h5) rfl hrc hrs hd2 hR) ⟨kP_blind, va_recv (q := (D, T, N)) hU.1 hP (q0 := ob) hc (by rw [wd_get (kd_lt hk (by omega)), en_o hk hci]), fun U hU2 hW => ⟨rfl, by rw [hU2], by rw [hU2]; exact hP, wU_warm hU hW⟩⟩ rfl hn hl.1 hs (lv_room hroom) hdg ⟨hnc, hns⟩) (fun H1 locs1 hP1 hS1 => k ls H1 locs1 hl hP1 hS1)
theorem k_cs {y : MethodName} {rm : Room} {bytes : ByteArray} {maxL n idx : Nat} {ret : Option FieldType} {As stk : List Value} {oo : Option Value} {σ' : St} (C : kY g l R own cc nL WK) (hM : Mc l g y bytes maxL ret rm As σ oo σ') (h1 : Cond.methodLink own idx y ∈ WS) (h2 : Cond.static y ∈ WS) (h4 : Cond.initialized y.cls ∈ WS) (h5 : Cond.code y bytes maxL ret ∈ WS) (hrc : rm.cells = 0) (hrs : rm.slots = 0)
    (hd2 : y.cls ≠ "java/lang/invoke/MethodHandle" ∧ y.cls ≠ "java/lang/invoke/VarHandle" ∧ (parseMethodDescriptor y.desc).map (fun d => d.parameters.length) = some n) (hR : rm.frames + 1 ≤ R.frames ∧ 8 + (maxL + 11) + rm.locals ≤ R.locals) (hn : As.length = n) (hs : stk = As.reverse ++ st) (hroom : (st.map fun v => v.category).sum ≤ 8)
    (hdg : decode cc pc = .ok (.invokestatic idx, 3)) (k : WK (pc + 3) lv (oo.toList ++ st) σ') : WK pc lv stk σ := by
  obtain ⟨p, ev, s, m, args, below, meth, c, nc, ns, Q, ⟨hx, hb, hml, hown, hts⟩, hU, hg, hnc, hns, rfl⟩ := C
  intro ls H locs hl hP hS
  exact k_fin (a := As) hS (va_runS ⟨hx, hb, hml, hown, hts⟩ (hM H.size) (va_cwS n hts (gS h1 h2 h4 h5) rfl hrc hrs hd2 hR) ⟨kP_blind, fun U hU2 hW => ⟨rfl, by rw [hU2], by rw [hU2]; exact hP, wU_warm hU hW⟩⟩ rfl hn hl.1 hs (lv_room hroom) hdg ⟨hnc, hns⟩) (fun H1 locs1 hP1 hS1 => k ls H1 locs1 hl hP1 hS1)
theorem k_cn {y : MethodName} {host : String} {rm : Room} {bytes : ByteArray} {maxL n idx : Nat} {ret : Option FieldType} {As stk : List Value} {oo : Option Value} {σ' : St} (C : kY g l R own cc nL WK) (hM : Mc l g y bytes maxL ret rm As σ oo σ') (h5 : Cond.code y bytes maxL ret ∈ WS) (hrc : rm.cells = 0) (hrs : rm.slots = 0) (hq : (own, idx, y, host) ∈ nws) (hst : Cond.static y ∈ WS) (hini : Cond.initialized y.cls ∈ WS)
    (hd2 : y.cls ≠ "java/lang/invoke/MethodHandle" ∧ y.cls ≠ "java/lang/invoke/VarHandle" ∧ (parseMethodDescriptor y.desc).map (fun d => d.parameters.length) = some n) (hR : rm.frames + 1 ≤ R.frames ∧ 8 + (maxL + 11) + rm.locals ≤ R.locals) (hn : As.length = n) (hs : stk = As.reverse ++ st) (hroom : (st.map fun v => v.category).sum ≤ 8)
    (hdg : decode cc pc = .ok (.invokestatic idx, 3)) (k : WK (pc + 3) lv (oo.toList ++ st) σ') : WK pc lv stk σ := by
  obtain ⟨p, ev, s, m, args, below, meth, c, nc, ns, Q, ⟨hx, hb, hml, hown, hts⟩, hU, hg, hnc, hns, rfl⟩ := C
  intro ls H locs hl hP hS
  exact k_fin (a := As) hS (va_runSN ⟨hx, hb, hml, hown, hts⟩ (hM H.size) ⟨va_cnB n hts (gN h5) rfl hrc hrs (hU.2 _ hq) (hts _ hini) hd2 hR, hts _ hst, trivial⟩ ⟨kP_blind, fun U hU2 hW => ⟨rfl, by rw [hU2], by rw [hU2]; exact hP, wU_warm hU hW⟩⟩ rfl hn hl.1 hs (lv_room hroom) hdg ⟨hnc, hns⟩) (fun H1 locs1 hP1 hS1 => k ls H1 locs1 hl hP1 hS1)
end KR
theorem flp1_2 {ad : Nat → Nat} {σ : St} {o : Nat} {v : Int32} : (fl ad σ o 1).set 2 (.int v) = fl ad (pI σ o 2 v) o 1 := by
  simp only [fl, List.set_cons_succ, List.set_cons_zero, gI_pI_s, gI_pI_k, ne_eq, Nat.reduceEqDiff, not_false_eq_true]
theorem flq1_2 {ad : Nat → Nat} {σ : St} {o : Nat} : 2 < (fl ad σ o 1).length := Nat.le_of_ble_eq_true rfl
theorem flp1_3 {ad : Nat → Nat} {σ : St} {o : Nat} {v : Int32} : (fl ad σ o 1).set 3 (.int v) = fl ad (pI σ o 3 v) o 1 := by
  simp only [fl, List.set_cons_succ, List.set_cons_zero, gI_pI_s, gI_pI_k, ne_eq, Nat.reduceEqDiff, not_false_eq_true]
theorem flq1_3 {ad : Nat → Nat} {σ : St} {o : Nat} : 3 < (fl ad σ o 1).length := Nat.le_of_ble_eq_true rfl
theorem flp1_4 {ad : Nat → Nat} {σ : St} {o : Nat} {v : Int32} : (fl ad σ o 1).set 4 (.int v) = fl ad (pI σ o 4 v) o 1 := by
  simp only [fl, List.set_cons_succ, List.set_cons_zero, gI_pI_s, gI_pI_k, ne_eq, Nat.reduceEqDiff, not_false_eq_true]
theorem flq1_4 {ad : Nat → Nat} {σ : St} {o : Nat} : 4 < (fl ad σ o 1).length := Nat.le_of_ble_eq_true rfl
theorem flp1_5 {ad : Nat → Nat} {σ : St} {o : Nat} {v : Int32} : (fl ad σ o 1).set 5 (.int v) = fl ad (pI σ o 5 v) o 1 := by
  simp only [fl, List.set_cons_succ, List.set_cons_zero, gI_pI_s, gI_pI_k, ne_eq, Nat.reduceEqDiff, not_false_eq_true]
theorem flq1_5 {ad : Nat → Nat} {σ : St} {o : Nat} : 5 < (fl ad σ o 1).length := Nat.le_of_ble_eq_true rfl
theorem flp1_6 {ad : Nat → Nat} {σ : St} {o : Nat} {v : Int32} : (fl ad σ o 1).set 6 (.int v) = fl ad (pI σ o 6 v) o 1 := by
  simp only [fl, List.set_cons_succ, List.set_cons_zero, gI_pI_s, gI_pI_k, ne_eq, Nat.reduceEqDiff, not_false_eq_true]
theorem flq1_6 {ad : Nat → Nat} {σ : St} {o : Nat} : 6 < (fl ad σ o 1).length := Nat.le_of_ble_eq_true rfl
theorem flp1_7 {ad : Nat → Nat} {σ : St} {o : Nat} {v : Int32} : (fl ad σ o 1).set 7 (.int v) = fl ad (pI σ o 7 v) o 1 := by
  simp only [fl, List.set_cons_succ, List.set_cons_zero, gI_pI_s, gI_pI_k, ne_eq, Nat.reduceEqDiff, not_false_eq_true]
theorem flq1_7 {ad : Nat → Nat} {σ : St} {o : Nat} : 7 < (fl ad σ o 1).length := Nat.le_of_ble_eq_true rfl
theorem flp1_8 {ad : Nat → Nat} {σ : St} {o : Nat} {v : Int32} : (fl ad σ o 1).set 8 (.int v) = fl ad (pI σ o 8 v) o 1 := by
  simp only [fl, List.set_cons_succ, List.set_cons_zero, gI_pI_s, gI_pI_k, ne_eq, Nat.reduceEqDiff, not_false_eq_true]
theorem flq1_8 {ad : Nat → Nat} {σ : St} {o : Nat} : 8 < (fl ad σ o 1).length := Nat.le_of_ble_eq_true rfl
theorem flp1_9 {ad : Nat → Nat} {σ : St} {o : Nat} {v : Int32} : (fl ad σ o 1).set 9 (.int v) = fl ad (pI σ o 9 v) o 1 := by
  simp only [fl, List.set_cons_succ, List.set_cons_zero, gI_pI_s, gI_pI_k, ne_eq, Nat.reduceEqDiff, not_false_eq_true]
theorem flq1_9 {ad : Nat → Nat} {σ : St} {o : Nat} : 9 < (fl ad σ o 1).length := Nat.le_of_ble_eq_true rfl
theorem flp3_0 {ad : Nat → Nat} {σ : St} {o : Nat} {v : Int32} : (fl ad σ o 3).set 0 (.int v) = fl ad (pI σ o 0 v) o 3 := by
  simp only [fl, List.set_cons_succ, List.set_cons_zero, gI_pI_s, gI_pI_k, ne_eq, Nat.reduceEqDiff, not_false_eq_true]
theorem flq3_0 {ad : Nat → Nat} {σ : St} {o : Nat} : 0 < (fl ad σ o 3).length := Nat.le_of_ble_eq_true rfl
theorem flp3_1 {ad : Nat → Nat} {σ : St} {o : Nat} {v : Int32} : (fl ad σ o 3).set 1 (.int v) = fl ad (pI σ o 1 v) o 3 := by
  simp only [fl, List.set_cons_succ, List.set_cons_zero, gI_pI_s, gI_pI_k, ne_eq, Nat.reduceEqDiff, not_false_eq_true]
theorem flq3_1 {ad : Nat → Nat} {σ : St} {o : Nat} : 1 < (fl ad σ o 3).length := Nat.le_of_ble_eq_true rfl
theorem flp3_2 {ad : Nat → Nat} {σ : St} {o : Nat} {v : Int32} : (fl ad σ o 3).set 2 (.int v) = fl ad (pI σ o 2 v) o 3 := by
  simp only [fl, List.set_cons_succ, List.set_cons_zero, gI_pI_s, gI_pI_k, ne_eq, Nat.reduceEqDiff, not_false_eq_true]
theorem flq3_2 {ad : Nat → Nat} {σ : St} {o : Nat} : 2 < (fl ad σ o 3).length := Nat.le_of_ble_eq_true rfl
theorem flp3_3 {ad : Nat → Nat} {σ : St} {o : Nat} {v : Int32} : (fl ad σ o 3).set 3 (.int v) = fl ad (pI σ o 3 v) o 3 := by
  simp only [fl, List.set_cons_succ, List.set_cons_zero, gI_pI_s, gI_pI_k, ne_eq, Nat.reduceEqDiff, not_false_eq_true]
theorem flq3_3 {ad : Nat → Nat} {σ : St} {o : Nat} : 3 < (fl ad σ o 3).length := Nat.le_of_ble_eq_true rfl
theorem flp3_4 {ad : Nat → Nat} {σ : St} {o : Nat} {v : Int32} : (fl ad σ o 3).set 4 (.int v) = fl ad (pI σ o 4 v) o 3 := by
  simp only [fl, List.set_cons_succ, List.set_cons_zero, gI_pI_s, gI_pI_k, ne_eq, Nat.reduceEqDiff, not_false_eq_true]
theorem flq3_4 {ad : Nat → Nat} {σ : St} {o : Nat} : 4 < (fl ad σ o 3).length := Nat.le_of_ble_eq_true rfl
theorem flp5_3 {ad : Nat → Nat} {σ : St} {o : Nat} {v : Int32} : (fl ad σ o 5).set 3 (.int v) = fl ad (pI σ o 3 v) o 5 := by
  simp only [fl, List.set_cons_succ, List.set_cons_zero, gI_pI_s, gI_pI_k, ne_eq, Nat.reduceEqDiff, not_false_eq_true]
theorem flq5_3 {ad : Nat → Nat} {σ : St} {o : Nat} : 3 < (fl ad σ o 5).length := Nat.le_of_ble_eq_true rfl
theorem flp6_2 {ad : Nat → Nat} {σ : St} {o : Nat} {v : Int32} : (fl ad σ o 6).set 2 (.int v) = fl ad (pI σ o 2 v) o 6 := by
  simp only [fl, List.set_cons_succ, List.set_cons_zero, gI_pI_s, gI_pI_k, ne_eq, Nat.reduceEqDiff, not_false_eq_true]
  rfl
theorem flq6_2 {ad : Nat → Nat} {σ : St} {o : Nat} : 2 < (fl ad σ o 6).length := Nat.le_of_ble_eq_true rfl
theorem flp6_3 {ad : Nat → Nat} {σ : St} {o : Nat} {v : Int32} : (fl ad σ o 6).set 3 (.int v) = fl ad (pI σ o 3 v) o 6 := by
  simp only [fl, List.set_cons_succ, List.set_cons_zero, gI_pI_s, gI_pI_k, ne_eq, Nat.reduceEqDiff, not_false_eq_true]
  rfl
theorem flq6_3 {ad : Nat → Nat} {σ : St} {o : Nat} : 3 < (fl ad σ o 6).length := Nat.le_of_ble_eq_true rfl
theorem flp6_4 {ad : Nat → Nat} {σ : St} {o : Nat} {v : Int32} : (fl ad σ o 6).set 4 (.int v) = fl ad (pI σ o 4 v) o 6 := by
  simp only [fl, List.set_cons_succ, List.set_cons_zero, gI_pI_s, gI_pI_k, ne_eq, Nat.reduceEqDiff, not_false_eq_true]
  rfl
theorem flq6_4 {ad : Nat → Nat} {σ : St} {o : Nat} : 4 < (fl ad σ o 6).length := Nat.le_of_ble_eq_true rfl
theorem flp6_5 {ad : Nat → Nat} {σ : St} {o : Nat} {v : Int32} : (fl ad σ o 6).set 5 (.int v) = fl ad (pI σ o 5 v) o 6 := by
  simp only [fl, List.set_cons_succ, List.set_cons_zero, gI_pI_s, gI_pI_k, ne_eq, Nat.reduceEqDiff, not_false_eq_true]
  rfl
theorem flq6_5 {ad : Nat → Nat} {σ : St} {o : Nat} : 5 < (fl ad σ o 6).length := Nat.le_of_ble_eq_true rfl
theorem flp6_6 {ad : Nat → Nat} {σ : St} {o : Nat} {v : Int32} : (fl ad σ o 6).set 6 (.int v) = fl ad (pI σ o 6 v) o 6 := by
  simp only [fl, List.set_cons_succ, List.set_cons_zero, gI_pI_s, gI_pI_k, ne_eq, Nat.reduceEqDiff, not_false_eq_true]
  rfl
theorem flq6_6 {ad : Nat → Nat} {σ : St} {o : Nat} : 6 < (fl ad σ o 6).length := Nat.le_of_ble_eq_true rfl
theorem flp6_7 {ad : Nat → Nat} {σ : St} {o : Nat} {v : Int32} : (fl ad σ o 6).set 7 (.int v) = fl ad (pI σ o 7 v) o 6 := by
  simp only [fl, List.set_cons_succ, List.set_cons_zero, gI_pI_s, gI_pI_k, ne_eq, Nat.reduceEqDiff, not_false_eq_true]
  rfl
theorem flq6_7 {ad : Nat → Nat} {σ : St} {o : Nat} : 7 < (fl ad σ o 6).length := Nat.le_of_ble_eq_true rfl
theorem flp6_8 {ad : Nat → Nat} {σ : St} {o : Nat} {v : Int32} : (fl ad σ o 6).set 8 (.int v) = fl ad (pI σ o 8 v) o 6 := by
  simp only [fl, List.set_cons_succ, List.set_cons_zero, gI_pI_s, gI_pI_k, ne_eq, Nat.reduceEqDiff, not_false_eq_true]
  rfl
theorem flq6_8 {ad : Nat → Nat} {σ : St} {o : Nat} : 8 < (fl ad σ o 6).length := Nat.le_of_ble_eq_true rfl
theorem flp6_9 {ad : Nat → Nat} {σ : St} {o : Nat} {v : Int32} : (fl ad σ o 6).set 9 (.int v) = fl ad (pI σ o 9 v) o 6 := by
  simp only [fl, List.set_cons_succ, List.set_cons_zero, gI_pI_s, gI_pI_k, ne_eq, Nat.reduceEqDiff, not_false_eq_true]
  rfl
theorem flq6_9 {ad : Nat → Nat} {σ : St} {o : Nat} : 9 < (fl ad σ o 6).length := Nat.le_of_ble_eq_true rfl
theorem flp6_16 {ad : Nat → Nat} {σ : St} {o : Nat} {v : Int32} : (fl ad σ o 6).set 16 (.int v) = fl ad (pI σ o 16 v) o 6 := by
  simp only [fl, List.set_cons_succ, List.set_cons_zero, gI_pI_s, gI_pI_k, ne_eq, Nat.reduceEqDiff, not_false_eq_true]
  rfl
theorem flq6_16 {ad : Nat → Nat} {σ : St} {o : Nat} : 16 < (fl ad σ o 6).length := Nat.le_of_ble_eq_true rfl
theorem flp6_17 {ad : Nat → Nat} {σ : St} {o : Nat} {v : Int32} : (fl ad σ o 6).set 17 (.int v) = fl ad (pI σ o 17 v) o 6 := by
  simp only [fl, List.set_cons_succ, List.set_cons_zero, gI_pI_s, gI_pI_k, ne_eq, Nat.reduceEqDiff, not_false_eq_true]
  rfl
theorem flq6_17 {ad : Nat → Nat} {σ : St} {o : Nat} : 17 < (fl ad σ o 6).length := Nat.le_of_ble_eq_true rfl
theorem flp6_18 {ad : Nat → Nat} {σ : St} {o : Nat} {v : Int32} : (fl ad σ o 6).set 18 (.int v) = fl ad (pI σ o 18 v) o 6 := by
  simp only [fl, List.set_cons_succ, List.set_cons_zero, gI_pI_s, gI_pI_k, ne_eq, Nat.reduceEqDiff, not_false_eq_true]
  rfl
theorem flq6_18 {ad : Nat → Nat} {σ : St} {o : Nat} : 18 < (fl ad σ o 6).length := Nat.le_of_ble_eq_true rfl
theorem flp6_19 {ad : Nat → Nat} {σ : St} {o : Nat} {v : Int32} : (fl ad σ o 6).set 19 (.int v) = fl ad (pI σ o 19 v) o 6 := by
  simp only [fl, List.set_cons_succ, List.set_cons_zero, gI_pI_s, gI_pI_k, ne_eq, Nat.reduceEqDiff, not_false_eq_true]
  rfl
theorem flq6_19 {ad : Nat → Nat} {σ : St} {o : Nat} : 19 < (fl ad σ o 6).length := Nat.le_of_ble_eq_true rfl
theorem flp6_20 {ad : Nat → Nat} {σ : St} {o : Nat} {v : Int32} : (fl ad σ o 6).set 20 (.int v) = fl ad (pI σ o 20 v) o 6 := by
  simp only [fl, List.set_cons_succ, List.set_cons_zero, gI_pI_s, gI_pI_k, ne_eq, Nat.reduceEqDiff, not_false_eq_true]
  rfl
theorem flq6_20 {ad : Nat → Nat} {σ : St} {o : Nat} : 20 < (fl ad σ o 6).length := Nat.le_of_ble_eq_true rfl
theorem flp6_21 {ad : Nat → Nat} {σ : St} {o : Nat} {v : Int32} : (fl ad σ o 6).set 21 (.int v) = fl ad (pI σ o 21 v) o 6 := by
  simp only [fl, List.set_cons_succ, List.set_cons_zero, gI_pI_s, gI_pI_k, ne_eq, Nat.reduceEqDiff, not_false_eq_true]
  rfl
theorem flq6_21 {ad : Nat → Nat} {σ : St} {o : Nat} : 21 < (fl ad σ o 6).length := Nat.le_of_ble_eq_true rfl
theorem flp6_27 {ad : Nat → Nat} {σ : St} {o : Nat} {v : Int32} : (fl ad σ o 6).set 27 (.int v) = fl ad (pI σ o 27 v) o 6 := by
  simp only [fl, List.set_cons_succ, List.set_cons_zero, gI_pI_s, gI_pI_k, ne_eq, Nat.reduceEqDiff, not_false_eq_true]
  rfl
theorem flq6_27 {ad : Nat → Nat} {σ : St} {o : Nat} : 27 < (fl ad σ o 6).length := Nat.le_of_ble_eq_true rfl
theorem flp6_28 {ad : Nat → Nat} {σ : St} {o : Nat} {v : Int32} : (fl ad σ o 6).set 28 (.int v) = fl ad (pI σ o 28 v) o 6 := by
  simp only [fl, List.set_cons_succ, List.set_cons_zero, gI_pI_s, gI_pI_k, ne_eq, Nat.reduceEqDiff, not_false_eq_true]
  rfl
theorem flq6_28 {ad : Nat → Nat} {σ : St} {o : Nat} : 28 < (fl ad σ o 6).length := Nat.le_of_ble_eq_true rfl
theorem flp6_29 {ad : Nat → Nat} {σ : St} {o : Nat} {v : Int32} : (fl ad σ o 6).set 29 (.int v) = fl ad (pI σ o 29 v) o 6 := by
  simp only [fl, List.set_cons_succ, List.set_cons_zero, gI_pI_s, gI_pI_k, ne_eq, Nat.reduceEqDiff, not_false_eq_true]
  rfl
theorem flq6_29 {ad : Nat → Nat} {σ : St} {o : Nat} : 29 < (fl ad σ o 6).length := Nat.le_of_ble_eq_true rfl
theorem flp6_37 {ad : Nat → Nat} {σ : St} {o : Nat} {v : Int32} : (fl ad σ o 6).set 37 (.int v) = fl ad (pI σ o 37 v) o 6 := by
  simp only [fl, List.set_cons_succ, List.set_cons_zero, gI_pI_s, gI_pI_k, ne_eq, Nat.reduceEqDiff, not_false_eq_true]
  rfl
theorem flq6_37 {ad : Nat → Nat} {σ : St} {o : Nat} : 37 < (fl ad σ o 6).length := Nat.le_of_ble_eq_true rfl
