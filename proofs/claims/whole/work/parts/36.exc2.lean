def mX10_toss (a1 : Int32) (s0 : St) : Option (Int32 × St) := cl2 (mX10_refusalOfGround a1 s0) (fun x2 s1 => if x2 = 0 then cl2 (mX10_shelfAt a1 s1) (fun n3 s2 => kl (gI s2 n3 1) (fun x4 => cl2 (mX10_shelfAt a1 s2) (fun n5 s3 => kl (gI s3 n5 2) (fun x6 => if x4 = 1 ∨ x6 = 0 then some (-15, s3) else if x4 = 4 then cl2 (mX2_costOf x4 x6 s3) (fun x7 s4 => some (200 + x7, s4)) else if x4 = 2 ∨ x4 = 3 then some (100 + x6, s3) else some (x6, s3))))) else some (x2, s1))
def mL_element (a1 a2 : Int32) (s0 : St) : Option (Int32 × St) := cl2 (mX10_elem a1 a2 s0) (fun q s1 => if q.1 = 0 then some (0, pL s1 66 0 q.2) else some (q.1, s1))
/-- the walk of a body that catches, by the room used -/
def kC (g : G) (l : Launch) (R : Room) (own : String) (cc : ByteArray) (nL : Nat) (hh : List (Nat × Nat × Nat × Nat)) (o : Option Value) (σe : St) (rt : Option FieldType) (WN : Nat → Nat → Nat → List (Nat × Value) → List Value → St → Prop) : Prop :=
  ∃ (p : Program) (e : Env) (s : State) (m : MethodId) (args : Array Value) (below : List Frame) (meth : Method) (c : Code),
    CallFix p m c cc nL s args WX own ∧ meth.sig.returnType = rt ∧ meth.locks = false ∧ wU g s ∧ gOK g ∧ xU (aA g s.heap.size) s s.heap ∧ c.exceptionTable.toList = tableOf hh ∧ 1 ≤ R.cells ∧ 6 ≤ R.slots ∧
    WN = fun nc ns pc lv st σ => ∀ (ls : Array Slot) (H : Heap) (locs : List Loc), lv_has ls nL lv → va_P g.1 vwCl (wd g σ) H → va_S (aA g s.heap.size) s.heap H locs → W p l e R s m args below meth c H locs nc ns (MQ below (kQ g o σe (aA g s.heap.size)) args s 1 6 (aA g s.heap.size)) (F0 m pc ls st)
theorem kC_y {g : G} {l : Launch} {R : Room} {own : String} {cc : ByteArray} {nL : Nat} {hh : List (Nat × Nat × Nat × Nat)} {o : Option Value} {σe : St} {rt : Option FieldType} {WN : Nat → Nat → Nat → List (Nat × Value) → List Value → St → Prop} (C : kC g l R own cc nL hh o σe rt WN) {nc ns : Nat} (h1 : nc ≤ 1) (h2 : ns ≤ 6) : kY g l R own cc nL (WN nc ns) := by
  obtain ⟨p, ev, s, m, args, below, meth, c, ⟨hx, hb, hml, hown, hts⟩, hr, hlk, hU, hg, hxu, htab, hRc, hRs, rfl⟩ := C
  exact ⟨p, ev, s, m, args, below, meth, c, nc, ns, _, ⟨hx, hb, hml, hown, fun w h => hts w (WX_s h)⟩, hU, hg, Nat.le_trans h1 hRc, Nat.le_trans h2 hRs, rfl⟩
theorem kC_ret {g : G} {l : Launch} {R : Room} {own : String} {cc : ByteArray} {nL : Nat} {hh : List (Nat × Nat × Nat × Nat)} {v x : Int32} {σ σe : St} {WN : Nat → Nat → Nat → List (Nat × Value) → List Value → St → Prop} (C : kC g l R own cc nL hh (some (.int v)) σe (some .int) WN) {nc ns pc : Nat} {lv : List (Nat × Value)} (h1 : nc ≤ 1) (h2 : ns ≤ 6) (hd : decode cc pc = .ok (.ireturn, 1)) (h : some (x, σ) = some (v, σe)) : WN nc ns pc lv [.int x] σ := by
  obtain ⟨p, ev, s, m, args, below, meth, c, ⟨hx, hb, hml, hown, hts⟩, hr, hlk, hU, hg, hxu, htab, hRc, hRs, rfl⟩ := C
  cases h
  exact fun ls H locs hl hP hS => W.widen h1 h2 (W.iret hx hb hr (fun t ht hW => ⟨⟨rfl, by rw [ht]; exact hP⟩, hS.F ht⟩) hS.2.2 hd hlk)
theorem kC_enter {l : Launch} {g : G} {y : MethodName} {cc : ByteArray} {nL : Nat} {rt : Option FieldType} {hh : List (Nat × Nat × Nat × Nat)} {rm : Room} {own : String} {As : List Value} {σ : St} {o : Option Value} {σ' : St} (hg : gOK g) (hy : plainName y.cls = true) (hown : y.cls = own) (hlen : (lg_sl As).length ≤ nL) (hRc : 1 ≤ rm.cells) (hRs : 6 ≤ rm.slots)
    (body : ∀ WN, kC g l rm own cc nL hh o σ' rt WN → WN 0 0 0 (lv_args 0 As) [] σ) : ∀ sz, Met l y (Cond.codeWith y cc nL rt hh :: WX) rm (xP g As σ sz) (kQ g o σ' (aA g sz)) 1 6 (aA g sz) := by
  intro sz
  refine va_MetW hy rfl ?_
  intro p e s m args below meth c s₁ B hml hv
  obtain ⟨rfl, hsz, hP, hU, hX⟩ := hv
  subst hsz
  subst hown
  have htab := vx_table (x := y) B (atoms_spec (ws := Cond.codeWith y cc nL rt hh :: WX) B.pre _ List.mem_cons_self)
  rw [lg_entry_eq]
  exact body _ ⟨p, e, s, m, _, below, meth, c, ⟨B.exec, B.bytes, hml, findClass_of_methodNamed B.named, fun w h => atoms_spec (ws := Cond.codeWith y cc nL rt hh :: WX) B.pre w (List.mem_cons_of_mem _ h)⟩, B.returns, B.notSynchronized, hU, hg, hX, htab, hRc, hRs, rfl⟩ _ _ _ (lv_entry As hlen) hP va_S.rf
/-- a call that may throw, from here: it returns, or q is thrown over this frame -/
theorem x_fin {g : G} {p : Program} {l : Launch} {e : Env} {R : Room} {s : State} {m : MethodId} {args : Array Value} {below : List Frame} {meth : Method} {c : Code} {H : Heap} {locs : List Loc} {ls : Array Slot} {stk st : List Value} {a : Array Value} {pc : Nat} {Q : State → Prop} {QR : Option Value → St → Prop} {XC : String → St → Prop} (hS : va_S (aA g s.heap.size) s.heap H locs) (run : vx_Run p l e R s m args below meth c H locs 0 0 1 6 (F0 m pc ls stk) st (xQ g QR (aA g H.size) a) (xX g XC (aA g H.size)) (aA g H.size))
    (kr : ∀ (v : Option Value) (σ : St) (H : Heap) (locs : List Loc), QR v σ → va_P g.1 vwCl (wd g σ) H → va_S (aA g s.heap.size) s.heap H locs → W p l e R s m args below meth c H locs 1 6 Q (F0 m (pc + 3) ls (v.toList ++ st)))
    (kx : ∀ (E : String) (σ : St) (q : Nat) (ce : Cell) (H : Heap) (locs : List Loc), XC E σ → va_P g.1 vwCl (wd g σ) H → va_S (aA g s.heap.size) s.heap H locs → H[q]? = some ce → ce.vm = .none → s.vm.findClass E = some ce.cls → vx_W p l e R s m args below meth c H locs 1 6 Q (F0 m pc ls st) q) : W p l e R s m args below meth c H locs 0 0 Q (F0 m pc ls stk) := by
  have hA : ∀ q, aA g H.size q → aA g s.heap.size q := fun q h => h.elim Or.inl (fun h => Or.inr (Nat.le_trans hS.1 h))
  have keep : ∀ {t T' : State} {L : List Loc}, T'.heap = t.heap → (∀ z ∈ L, aA g H.size z.base) → H.size ≤ t.heap.size → (∀ q : Nat, q < H.size → ¬ aA g H.size q → t.heap[q]? = H[q]?) → va_S (aA g s.heap.size) s.heap T'.heap (locs ++ L) := fun e1 hL hz hk =>
    ⟨Nat.le_trans hS.1 (by rw [e1]; exact hz), fun q h1 h2 => by rw [e1, hk q (Nat.lt_of_lt_of_le h1 hS.1) (fun z => h2 (hA q z))]; exact hS.2.1 q h1 h2, fun q hq => by
      rcases List.mem_append.mp hq with h | h
      · exact hS.2.2 q h
      · exact hA _ (hL q h)⟩
  intro T hT X
  rcases run T hT X with ⟨v, st₀, t, T', L, h0, X', hL, e1, e2, ⟨⟨v2, σ, hq, hv, hP'⟩, hz, hk⟩, go⟩ | ⟨q, st₀, t, T', L, E, ce, h0, X', hL, e1, e2, ⟨σ, hx, hP', hz, hk⟩, hce, hcv, hcl, go⟩
  · cases hv
    rw [h0] at hz hk
    obtain ⟨t2, a1, b1⟩ := kr v σ T'.heap (locs ++ L) hq (by rw [e1]; exact hP') (keep e1 hL hz hk) T' rfl X'
    exact ⟨t2, go t2 a1, b1⟩
  · rw [h0] at hz hk
    obtain ⟨t2, a1, b1⟩ := kx E σ q ce T'.heap (locs ++ L) hx (by rw [e1]; exact hP') (keep e1 hL hz hk) (by rw [e1]; exact hce) hcv hcl T' rfl X'
    exact ⟨t2, go.trans a1, b1⟩
theorem x_pre {g : G} {s : State} {H : Heap} {locs : List Loc} {σ : St} (hU : wU g s) (hX : xU (aA g s.heap.size) s s.heap) (hP : va_P g.1 vwCl (wd g σ) H) (hS : va_S (aA g s.heap.size) s.heap H locs) : ∀ U : State, U.heap = H → s.WarmedH U.vm → U.heap.size = H.size ∧ va_P g.1 vwCl (wd g σ) U.heap ∧ wU g U ∧ xU (aA g H.size) U U.heap := by
  intro U hU2 hW
  refine ⟨by rw [hU2], by rw [hU2]; exact hP, wU_warm hU hW, ?_⟩
  rw [hU2]
  have h1 : xU (aA g s.heap.size) s H := xU_kept hX (fun a ha hna => hS.2.1 a ha hna)
  exact xU_narrow (xU_warm hW h1) (fun q h => h.elim Or.inl (fun h => Or.inr (Nat.le_trans hS.1 h)))
set_option maxRecDepth 100000 in
set_option maxHeartbeats 4000000 in
theorem qX10_toss (l : Launch) (hfl : l.stackTraces = false) (g : G) (hg : gOK g) {a1 v : Int32} {s0 σe : St} (h : mX10_toss a1 s0 = some (v, σe)) : ∀ sz, Met l yX10_toss (Cond.codeWith yX10_toss cX10_toss 6 (some .int) [(31, 37, 40, 381), (31, 37, 53, 352), (31, 37, 61, 345)] :: WX) { frames := 7, cells := 1, slots := 6, locals := 110 } (xP g [.ref (g.2.2 0), .int a1] s0 sz) (kQ g (some (.int v)) σe (aA g sz)) 1 6 (aA g sz) := by
  refine kC_enter hg pnRX10 rfl (Nat.le_of_ble_eq_true rfl) (by decide) (by decide) ?_
  intro WN E
  have C := kC_y E (Nat.zero_le 1) (Nat.zero_le 6)
  unfold mX10_toss at h
  show WN 0 0 0 [(0, .ref (g.2.2 0)), (1, .int a1)] [] s0
  refine k_aload_n C (dk dX10_toss_0 0 rfl) rfl 0 rfl ?_
  refine k_iload_n C (dk dX10_toss_0 1 rfl) rfl 1 rfl ?_
  refine cl2_k h (fun x2 s1 hc h => ?_)
  refine k_cv (T := TX10) (N := 9) (ci := 5) (ob := 0) (As := [.int a1]) (st := []) C (qX10_refusalOfGround l g hg hc) (iW12 _ (List.mem_of_getElem? (i := 5) rfl)) (iW12 _ (List.mem_of_getElem? (i := 6) rfl)) (iW12 _ (List.mem_of_getElem? (i := 7) rfl)) (iW0 _ (List.mem_of_getElem? (i := 2) rfl)) (iW12 _ (List.mem_of_getElem? (i := 8) rfl)) rfl rfl hdX10_refusalOfGround (by decide) rfl (by decide) rfl rfl rfl (Nat.le_of_ble_eq_true rfl) (dk dX10_toss_0 2 rfl) ?_
  refine k_istore_n (lv' := [(2, .int x2), (0, .ref (g.2.2 0)), (1, .int a1)]) C (dk dX10_toss_0 3 rfl) rfl (by decide) rfl ?_
  refine k_iload_n C (dk dX10_toss_0 4 rfl) rfl 0 rfl ?_
  refine k_if_eq (tgt := 12) C (dk dX10_toss_0 5 rfl) (by decide) h (fun h => ?_) (fun h => ?_)
  rotate_left
  · refine k_iload_n C (dk dX10_toss_0 6 rfl) rfl 0 rfl ?_
    exact kC_ret E (by decide) (by decide) (dk dX10_toss_0 7 rfl) h
  refine k_aload_n C (dk dX10_toss_0 8 rfl) rfl 1 rfl ?_
  refine k_iload_n C (dk dX10_toss_0 9 rfl) rfl 2 rfl ?_
  refine cl2_k h (fun n3 s2 hc h => ?_)
  refine k_cv (T := TX10) (N := 9) (ci := 5) (ob := 0) (As := [.int a1]) (st := []) C (qX10_shelfAt l g hg hc) (iW4 _ (List.mem_of_getElem? (i := 8) rfl)) (iW4 _ (List.mem_of_getElem? (i := 9) rfl)) (iW4 _ (List.mem_of_getElem? (i := 10) rfl)) (iW0 _ (List.mem_of_getElem? (i := 2) rfl)) (iW4 _ (List.mem_of_getElem? (i := 11) rfl)) rfl rfl hdX10_shelfAt (by decide) rfl (by decide) rfl rfl rfl (Nat.le_of_ble_eq_true rfl) (dk dX10_toss_0 10 rfl) ?_
  have hn3 : kd n3 = 3 := rX10_shelfAt hc
  refine k_getI (D := RX5) (T := TX5) (N := 6) (ci := 3) (k := 1) C iCX5 hn3 (by decide) rfl (by decide) (iW12 _ (List.mem_of_getElem? (i := 3) rfl)) rfl (dk dX10_toss_0 11 rfl) h (fun x4 h => ?_)
  refine k_istore_n (lv' := [(3, .int x4), (2, .int x2), (0, .ref (g.2.2 0)), (1, .int a1)]) C (dk dX10_toss_0 12 rfl) rfl (by decide) rfl ?_
  refine k_aload_n C (dk dX10_toss_0 13 rfl) rfl 2 rfl ?_
  refine k_iload_n C (dk dX10_toss_0 14 rfl) rfl 3 rfl ?_
  refine cl2_k h (fun n5 s3 hc h => ?_)
  refine k_cv (T := TX10) (N := 9) (ci := 5) (ob := 0) (As := [.int a1]) (st := []) C (qX10_shelfAt l g hg hc) (iW4 _ (List.mem_of_getElem? (i := 8) rfl)) (iW4 _ (List.mem_of_getElem? (i := 9) rfl)) (iW4 _ (List.mem_of_getElem? (i := 10) rfl)) (iW0 _ (List.mem_of_getElem? (i := 2) rfl)) (iW4 _ (List.mem_of_getElem? (i := 11) rfl)) rfl rfl hdX10_shelfAt (by decide) rfl (by decide) rfl rfl rfl (Nat.le_of_ble_eq_true rfl) (dk dX10_toss_0 15 rfl) ?_
  have hn5 : kd n5 = 3 := rX10_shelfAt hc
  refine k_getI (D := RX5) (T := TX5) (N := 6) (ci := 3) (k := 2) C iCX5 hn5 (by decide) rfl (by decide) (iW12 _ (List.mem_of_getElem? (i := 4) rfl)) rfl (dk dX10_toss_0 16 rfl) h (fun x6 h => ?_)
  refine k_istore (lv' := [(4, .int x6), (3, .int x4), (2, .int x2), (0, .ref (g.2.2 0)), (1, .int a1)]) C (dk dX10_toss_0 17 rfl) (by decide) rfl ?_
  refine k_iload_n C (dk dX10_toss_0 18 rfl) rfl 1 rfl ?_
  refine k_iload C (dk dX10_toss_0 19 rfl) 0 rfl ?_
  have C1 := kC_y E (Nat.le_refl 1) (Nat.le_refl 6)
  have hret : (x4 = 1 ∨ x6 = 0) → WN 1 6 37 [(4, .int x6), (3, .int x4), (2, .int x2), (0, .ref (g.2.2 0)), (1, .int a1)] [] s3 := by
    intro hq
    rw [if_pos hq] at h
    refine k_goto (tgt := 66) C1 (dk dX10_toss_0 21 rfl) (by decide) ?_
    refine k_bipush (v := (-15 : Int32)) C1 (dk dX10_toss_1 5 rfl) (by decide) ?_
    exact kC_ret E (by decide) (by decide) (dk dX10_toss_1 6 rfl) h
  have hU4 : ∀ q, ¬ (x4 = 1 ∨ x6 = 0) → xK x4 = xUOE → WN 1 6 40 [(4, .int x6), (3, .int x4), (2, .int x2), (0, .ref (g.2.2 0)), (1, .int a1)] [.ref q] s3 := by
    intro q hq hk
    rw [if_neg hq] at h
    have e4 : x4 = 4 := by
      by_cases e : x4 = 4
      · exact e
      · unfold xK at hk
        rw [if_neg e] at hk
        split at hk <;> exact absurd hk (by decide)
    rw [if_pos e4] at h
    refine k_astore (lv' := [(5, .ref q), (4, .int x6), (3, .int x4), (2, .int x2), (0, .ref (g.2.2 0)), (1, .int a1)]) C1 (dk dX10_toss_0 22 rfl) (by decide) rfl ?_
    refine k_sipush (v := (200 : Int32)) C1 (dk dX10_toss_0 23 rfl) (by decide) ?_
    refine k_iload_n C1 (dk dX10_toss_0 24 rfl) rfl 2 rfl ?_
    refine k_iload C1 (dk dX10_toss_0 25 rfl) 1 rfl ?_
    refine cl2_k h (fun x7 s4 hc h => ?_)
    refine k_cs (As := [.int x4, .int x6]) (st := [.int (200 : Int32)]) C1 (qX2_costOf l g hg hc) (iW38 _ (List.mem_of_getElem? (i := 7) rfl)) (iW38 _ (List.mem_of_getElem? (i := 8) rfl)) (iW5 _ (List.mem_of_getElem? (i := 18) rfl)) (iW38 _ (List.mem_of_getElem? (i := 9) rfl)) rfl rfl hdX2_costOf (by decide) rfl rfl (Nat.le_of_ble_eq_true rfl) (dk dX10_toss_0 26 rfl) ?_
    refine k_iadd C1 (dk dX10_toss_0 27 rfl) ?_
    exact kC_ret E (by decide) (by decide) (dk dX10_toss_0 28 rfl) h
  have hI4 : ∀ q, ¬ (x4 = 1 ∨ x6 = 0) → xK x4 = xISE → WN 1 6 53 [(4, .int x6), (3, .int x4), (2, .int x2), (0, .ref (g.2.2 0)), (1, .int a1)] [.ref q] s3 := by
    intro q hq hk
    rw [if_neg hq] at h
    have e4 : ¬ x4 = 4 := by
      intro e
      unfold xK at hk
      rw [if_pos e] at hk
      exact absurd hk (by decide)
    have e5 : x4 = 2 ∨ x4 = 3 := by
      by_cases e : x4 = 2 ∨ x4 = 3
      · exact e
      · unfold xK at hk
        rw [if_neg e4, if_neg e] at hk
        exact absurd hk (by decide)
    rw [if_neg e4, if_pos e5] at h
    refine k_astore (lv' := [(5, .ref q), (4, .int x6), (3, .int x4), (2, .int x2), (0, .ref (g.2.2 0)), (1, .int a1)]) C1 (dk dX10_toss_0 29 rfl) (by decide) rfl ?_
    refine k_bipush (v := (100 : Int32)) C1 (dk dX10_toss_0 30 rfl) (by decide) ?_
    refine k_iload C1 (dk dX10_toss_0 31 rfl) 1 rfl ?_
    refine k_iadd C1 (dk dX10_toss_1 0 rfl) ?_
    exact kC_ret E (by decide) (by decide) (dk dX10_toss_1 1 rfl) h
  have hA4 : ∀ q, ¬ (x4 = 1 ∨ x6 = 0) → xK x4 = xIAE → WN 1 6 61 [(4, .int x6), (3, .int x4), (2, .int x2), (0, .ref (g.2.2 0)), (1, .int a1)] [.ref q] s3 := by
    intro q hq hk
    rw [if_neg hq] at h
    have e4 : ¬ x4 = 4 := by
      intro e
      unfold xK at hk
      rw [if_pos e] at hk
      exact absurd hk (by decide)
    have e5 : ¬ (x4 = 2 ∨ x4 = 3) := by
      intro e
      unfold xK at hk
      rw [if_neg e4, if_pos e] at hk
      exact absurd hk (by decide)
    rw [if_neg e4, if_neg e5] at h
    refine k_astore (lv' := [(5, .ref q), (4, .int x6), (3, .int x4), (2, .int x2), (0, .ref (g.2.2 0)), (1, .int a1)]) C1 (dk dX10_toss_1 2 rfl) (by decide) rfl ?_
    refine k_iload C1 (dk dX10_toss_1 3 rfl) 1 rfl ?_
    exact kC_ret E (by decide) (by decide) (dk dX10_toss_1 4 rfl) h
  clear C C1
  obtain ⟨p, ev, s, m, args, below, meth, c, ⟨hx, hb, hml, hown, hts⟩, hr, hlk, hU, hg2, hxu, htab, hRc, hRs, rfl⟩ := E
  intro ls H locs hl hP hS
  have cl1' : (Cond.classLink RX10 381 xUOE).before args s = true := hts _ (WX_s (iW38 _ (List.mem_of_getElem? (i := 22) rfl)))
  have cl2' : (Cond.classLink RX10 352 xISE).before args s = true := hts _ (WX_s (iW37 _ (List.mem_of_getElem? (i := 5) rfl)))
  have cl3' : (Cond.classLink RX10 345 xIAE).before args s = true := hts _ (WX_s (iW37 _ (List.mem_of_getElem? (i := 3) rfl)))
  have nc1 := hxu.2.2.2.2.1
  refine x_fin (st := []) (a := #[.int x4, .int x6]) hS (vx_runS (bytes := cX2_fail) (maxL := 2) (ret := none) (As := [.int x4, .int x6]) (n := 2) ⟨hx, hb, hml, hown, hts⟩ (qX2_fail l hfl g hg x4 x6 s3 H.size) ?_ ⟨xP_blind, fun U h1 h2 => ⟨rfl, x_pre hU hxu hP hS U h1 h2⟩⟩ rfl rfl hl.1 rfl (lv_room (Nat.le_of_ble_eq_true rfl)) (dk dX10_toss_0 20 rfl) ⟨by decide, by decide⟩) ?_ ?_
  · refine ⟨callB_of 2 hts (WX_c (iW38 _ (List.mem_of_getElem? (i := 25) rfl))) rfl rfl rfl (hts _ (WX_s (iW5 _ (List.mem_of_getElem? (i := 18) rfl)))) (hts _ (WX_s (iW38 _ (List.mem_of_getElem? (i := 23) rfl)))) ⟨by decide +kernel, by decide +kernel, by decide +kernel⟩ ⟨by decide, by decide⟩, hts _ (WX_s (iW38 _ (List.mem_of_getElem? (i := 24) rfl)))⟩
  · rintro v9 σ9 H1 locs1 ⟨rfl, rfl, hq⟩ hP1 hS1
    exact hret hq ls H1 locs1 hl hP1 hS1
  · rintro E9 σ9 q ce H1 locs1 ⟨rfl, rfl, hq⟩ hP1 hS1 hce hcv hcl
    have hcast : (Cond.castable (xK x4) (xK x4)).before args s = true := va_Nw.use rfl (hxu.2.2.2.1 _ (by unfold xK; split; exact List.mem_of_getElem? (i := 0) rfl; split; exact List.mem_of_getElem? (i := 1) rfl; exact List.mem_of_getElem? (i := 2) rfl))
    by_cases k1 : xK x4 = xUOE
    · refine vx_catch (name := xUOE) hown [] ⟨31, 37, 40, 381⟩ [⟨31, 37, 53, 352⟩, ⟨31, 37, 61, 345⟩] htab (fun z hz => nomatch hz) (by decide) (by decide) cl1' (by rw [k1] at hcast ⊢; exact hcast) hce hcv hcl (hU4 q hq k1 ls H1 locs1 hl hP1 hS1)
    by_cases k2 : xK x4 = xISE
    · refine vx_catch (name := xISE) hown [⟨31, 37, 40, 381⟩] ⟨31, 37, 53, 352⟩ [⟨31, 37, 61, 345⟩] htab (fun z hz => ?_) (by decide) (by decide) cl2' (by rw [k2] at hcast ⊢; exact hcast) hce hcv hcl (hI4 q hq k2 ls H1 locs1 hl hP1 hS1)
      cases hz with
      | head => exact Or.inr ⟨by decide, xUOE, cl1', by rw [k2]; exact nc1 (xISE, xUOE) (List.mem_of_getElem? (i := 0) rfl)⟩
      | tail _ hz => cases hz
    have k3 : xK x4 = xIAE := by
      unfold xK at k1 k2 ⊢
      split at k1
      · exact absurd rfl k1
      · rename_i f4
        rw [if_neg f4] at k2 ⊢
        split at k2
        · exact absurd rfl k2
        · rename_i f5
          rw [if_neg f5]
    refine vx_catch (name := xIAE) hown [⟨31, 37, 40, 381⟩, ⟨31, 37, 53, 352⟩] ⟨31, 37, 61, 345⟩ [] htab (fun z hz => ?_) (by decide) (by decide) cl3' (by rw [k3] at hcast ⊢; exact hcast) hce hcv hcl (hA4 q hq k3 ls H1 locs1 hl hP1 hS1)
    cases hz with
    | head => exact Or.inr ⟨by decide, xUOE, cl1', by rw [k3]; exact nc1 (xIAE, xUOE) (List.mem_of_getElem? (i := 1) rfl)⟩
    | tail _ hz =>
      cases hz with
      | head => exact Or.inr ⟨by decide, xISE, cl2', by rw [k3]; exact nc1 (xIAE, xISE) (List.mem_of_getElem? (i := 2) rfl)⟩
      | tail _ hz => cases hz
theorem pnRL : plainName RL = true := by decide +kernel
set_option maxRecDepth 100000 in
set_option maxHeartbeats 4000000 in
theorem qL_element (l : Launch) (hfl : l.stackTraces = false) (g : G) (hg : gOK g) {a1 a2 v : Int32} {s0 σe : St} (h : mL_element a1 a2 s0 = some (v, σe)) : ∀ sz, Met l yL_element (Cond.codeWith yL_element cL_element 5 (some .int) [(0, 9, 12, 13), (0, 9, 16, 15)] :: WX) { frames := 7, cells := 1, slots := 6, locals := 110 } (xP g [.ref (g.2.2 0), .int a1, .int a2, .ref (g.2.2 66)] s0 sz) (kQ g (some (.int v)) σe (aA g sz)) 1 6 (aA g sz) := by
  refine kC_enter hg pnRL rfl (Nat.le_of_ble_eq_true rfl) (by decide) (by decide) ?_
  intro WN E
  have C := kC_y E (Nat.zero_le 1) (Nat.zero_le 6)
  unfold mL_element at h
  show WN 0 0 0 [(0, .ref (g.2.2 0)), (1, .int a1), (2, .int a2), (3, .ref (g.2.2 66))] [] s0
  refine cl2_k h (fun k s1 hc h => ?_)
  refine k_aload_n C (dk dL_element_0 0 rfl) rfl 3 rfl ?_
  refine k_iconst (v := (0 : Int32)) C (dk dL_element_0 1 rfl) (by decide) ?_
  refine k_aload_n C (dk dL_element_0 2 rfl) rfl 0 rfl ?_
  refine k_iload_n C (dk dL_element_0 3 rfl) rfl 1 rfl ?_
  refine k_iload_n C (dk dL_element_0 4 rfl) rfl 2 rfl ?_
  have C1 := kC_y E (Nat.le_refl 1) (Nat.le_refl 6)
  have hret : k.1 = 0 → WN 1 6 8 [(0, .ref (g.2.2 0)), (1, .int a1), (2, .int a2), (3, .ref (g.2.2 66))] [.long k.2, .int 0, .ref (g.2.2 66)] s1 := by
    intro hk
    rw [if_pos hk] at h
    refine k_last (f := fun s => some s) (r := pL s1 66 0 k.2) (n := 1) C1 rfl rfl (dk dL_element_0 6 rfl) rfl (fun s2 h2 => ?_)
    cases h2
    refine k_goto (tgt := 20) C1 (dk dL_element_0 7 rfl) (by decide) ?_
    refine k_iconst (v := (0 : Int32)) C1 (dk dL_element_0 14 rfl) (by decide) ?_
    exact kC_ret E (by decide) (by decide) (dk dL_element_0 15 rfl) h
  have h1 : ∀ q, k.1 = 1 → WN 1 6 12 [(0, .ref (g.2.2 0)), (1, .int a1), (2, .int a2), (3, .ref (g.2.2 66))] [.ref q] s1 := by
    intro q hk
    rw [if_neg (by rw [hk]; decide)] at h
    refine k_astore (lv' := [(4, .ref q), (0, .ref (g.2.2 0)), (1, .int a1), (2, .int a2), (3, .ref (g.2.2 66))]) C1 (dk dL_element_0 8 rfl) (by decide) rfl ?_
    refine k_iconst (v := (1 : Int32)) C1 (dk dL_element_0 9 rfl) (by decide) ?_
    refine kC_ret E (by decide) (by decide) (dk dL_element_0 10 rfl) ?_
    rw [← hk]; exact h
  have h2 : ∀ q, k.1 = 2 → WN 1 6 16 [(0, .ref (g.2.2 0)), (1, .int a1), (2, .int a2), (3, .ref (g.2.2 66))] [.ref q] s1 := by
    intro q hk
    rw [if_neg (by rw [hk]; decide)] at h
    refine k_astore (lv' := [(4, .ref q), (0, .ref (g.2.2 0)), (1, .int a1), (2, .int a2), (3, .ref (g.2.2 66))]) C1 (dk dL_element_0 11 rfl) (by decide) rfl ?_
    refine k_iconst (v := (2 : Int32)) C1 (dk dL_element_0 12 rfl) (by decide) ?_
    refine kC_ret E (by decide) (by decide) (dk dL_element_0 13 rfl) ?_
    rw [← hk]; exact h
  clear C C1
  obtain ⟨p, ev, s, m, args, below, meth, c, ⟨hx, hb, hml, hown, hts⟩, hr, hlk, hU, hg2, hxu, htab, hRc, hRs, rfl⟩ := E
  intro ls H locs hl hP hS
  have cl1' : (Cond.classLink RL 13 xIAE).before args s = true := hts _ (WX_s (iW36 _ (List.mem_of_getElem? (i := 27) rfl)))
  have cl2' : (Cond.classLink RL 15 xISE).before args s = true := hts _ (WX_s (iW36 _ (List.mem_of_getElem? (i := 28) rfl)))
  have nc1 := hxu.2.2.2.2.1
  refine x_fin (st := [.int 0, .ref (g.2.2 66)]) (a := #[.ref (g.2.2 0), .int a1, .int a2]) hS (vx_runV (bytes := cX10_element) (maxL := 3) (ret := some .long) (C := RX10) (b := g.2.2 0) (As := [.int a1, .int a2]) (n := 2) ⟨hx, hb, hml, hown, hts⟩ (qX10_element l hfl g hg (k := k.1) (v := k.2) hc H.size) ?_ ⟨xP_blind, va_recv (q := (RX10, TX10, 9)) (ci := 5) hU.1 hP (q0 := 0) rfl (by rw [wd_get (by omega), en_o (c := 5) rfl (by omega)]), fun U h1 h2 => ⟨rfl, x_pre hU hxu hP hS U h1 h2⟩⟩ rfl rfl hl.1 rfl (lv_room (Nat.le_of_ble_eq_true rfl)) (dk dL_element_0 5 rfl) ⟨by decide, by decide⟩) ?_ ?_
  · exact ⟨callB_of 2 hts (WX_c (iW37 _ (List.mem_of_getElem? (i := 2) rfl))) rfl rfl rfl (hts _ (WX_s (iW0 _ (List.mem_of_getElem? (i := 2) rfl)))) (hts _ (WX_s (iW36 _ (List.mem_of_getElem? (i := 29) rfl)))) ⟨by decide +kernel, by decide +kernel, by decide +kernel⟩ ⟨by decide, by decide⟩, hts _ (WX_s (iW37 _ (List.mem_of_getElem? (i := 0) rfl))), hts _ (WX_s (iW37 _ (List.mem_of_getElem? (i := 1) rfl)))⟩
  · rintro v9 σ9 H1 locs1 ⟨rfl, rfl, hq⟩ hP1 hS1
    exact hret hq ls H1 locs1 hl hP1 hS1
  · rintro E9 σ9 q ce H1 locs1 ⟨rfl, hq⟩ hP1 hS1 hce hcv hcl
    rcases hq with ⟨rfl, hk⟩ | ⟨rfl, hk⟩
    · exact vx_catch (name := xIAE) hown [] ⟨0, 9, 12, 13⟩ [⟨0, 9, 16, 15⟩] htab (fun z hz => nomatch hz) (by decide) (by decide) cl1' (va_Nw.use rfl (hxu.2.2.2.1 _ (List.mem_of_getElem? (i := 2) rfl))) hce hcv hcl (h1 q hk ls H1 locs1 hl hP1 hS1)
    · refine vx_catch (name := xISE) hown [⟨0, 9, 12, 13⟩] ⟨0, 9, 16, 15⟩ [] htab (fun z hz => ?_) (by decide) (by decide) cl2' (va_Nw.use rfl (hxu.2.2.2.1 _ (List.mem_of_getElem? (i := 1) rfl))) hce hcv hcl (h2 q hk ls H1 locs1 hl hP1 hS1)
      cases hz with
      | head => exact Or.inr ⟨by decide, xIAE, cl1', nc1 (xISE, xIAE) (List.mem_of_getElem? (i := 3) rfl)⟩
      | tail _ hz => cases hz
