def xN : List String := ["java/lang/RuntimeException", "java/lang/Exception"]
def xUOE : String := "java/lang/UnsupportedOperationException"
def xISE : String := "java/lang/IllegalStateException"
def xIAE : String := "java/lang/IllegalArgumentException"
def XF : List Cond := (vx_atS RX2 19 xUOE xN).filter goodWord ++ ((vx_atS RX2 26 xISE xN).filter goodWord ++ ((vx_atS RX2 33 xIAE xN).filter goodWord ++ ((vx_atS RX10 349 xIAE xN).filter goodWord ++ (vx_atS RX10 356 xISE xN).filter goodWord)))
def WX : List Cond := WS ++ XF
theorem XF_good : XF.all goodWord = true := by
  rw [List.all_eq_true]
  intro w hw
  simp only [XF, List.mem_append, List.mem_filter] at hw
  rcases hw with h | h | h | h | h <;> exact h.2
theorem WX_ok : GoodIn WX WX := fun w h => ⟨h, good_of_word ((List.mem_append.mp h).elim (fun q => List.all_eq_true.mp WS_good w q) (fun q => List.all_eq_true.mp XF_good w q))⟩
theorem WX_s {w : Cond} (h : w ∈ WS) : w ∈ WX := List.mem_append_left _ h
theorem WX_c {w : Cond} (h : w ∈ WS) : GoodIn WX (w :: WX) := fun x hx => (List.mem_cons.mp hx).elim (fun e => by rw [e]; exact WX_ok w (WX_s h)) (WX_ok x)
theorem WX_b {w : Cond} (h : w ∈ WS) : GoodIn WX (w :: WS) := fun x hx => (List.mem_cons.mp hx).elim (fun e => by rw [e]; exact WX_ok w (WX_s h)) (fun q => WX_ok x (WX_s q))
def xstr : List (String × Nat × String) := [(RX2, 17, "a pass fails"), (RX2, 24, "a hill fails"), (RX2, 27, "a mountain fails"), (RX2, 31, "a ground fails"), (RX10, 347, "no such shelf"), (RX10, 354, "no row"), (RX10, 357, "no such place")]
def xcst : List String := [xUOE, xISE, xIAE]
def xdcl : List MethodName := [Bundle.initS "java/lang/RuntimeException", Bundle.initS "java/lang/Exception", Bundle.initS Bundle.tN]
def xnc : List (String × String) := [(xISE, xUOE), (xIAE, xUOE), (xIAE, xISE), (xISE, xIAE)]
/-- what a throw needs of the machine -/
def xU (A : Nat → Prop) (U : State) (H : Heap) : Prop := vx_Zq Bundle.tN "UNASSIGNED_STACK" Bundle.steD A U H ∧ vx_Zq Bundle.tN "SUPPRESSED_SENTINEL" Bundle.listD A U H ∧ (∀ q ∈ xstr, ∃ a, vk_R q.1 q.2.1 q.2.2 a U) ∧ (∀ q ∈ xcst, va_Nw (.castable q q) U) ∧ (∀ q ∈ xnc, va_Nc q.1 q.2 U) ∧ (∀ q ∈ xdcl, va_Nw (.declares q) U)
theorem xU_warm {A : Nat → Prop} {s U : State} {H : Heap} (hW : s.WarmedH U.vm) (h : xU A s H) : xU A U H := by
  obtain ⟨h1, h2, h3, h4, h5, h6⟩ := h
  exact ⟨h1.moved hW.alike, h2.moved hW.alike, fun q hq => by obtain ⟨a, ha⟩ := h3 q hq; exact ⟨a, vk_R.warm hW ha⟩, fun q hq => va_Nw.warmC hW (h4 q hq), fun q hq => va_Nc.moved hW.alike (h5 q hq), fun q hq => va_Nw.warmD hW (h6 q hq)⟩
theorem xU_kept {A : Nat → Prop} {s : State} {H H1 : Heap} (h : xU A s H) (hq : ∀ a : Nat, a < H.size → ¬ A a → H1[a]? = H[a]?) : xU A s H1 := by
  obtain ⟨h1, h2, h3⟩ := h
  exact ⟨h1.kept hq, h2.kept hq, h3⟩
theorem xU_narrow {A B : Nat → Prop} {s : State} {H : Heap} (h : xU A s H) (hAB : ∀ q, B q → A q) : xU B s H := by
  obtain ⟨h1, h2, h3⟩ := h
  exact ⟨h1.narrow hAB, h2.narrow hAB, h3⟩
def xP (g : G) (av : List Value) (σ : St) (sz : Nat) : Array Value → State → Prop := va_Pc av (fun U => U.heap.size = sz ∧ va_P g.1 vwCl (wd g σ) U.heap ∧ wU g U ∧ xU (aA g sz) U U.heap)
theorem xP_blind {g : G} {av : List Value} {σ : St} {sz : Nat} : FrameBlind (xP g av σ sz) := by
  intro a U gg mk h
  obtain ⟨h0, h1, h2, h3, h4⟩ := h
  have e := kP_blind (g := g) (av := av) (σ := σ) (sz := sz) a U gg mk ⟨h0, h1, h2, h3⟩
  obtain ⟨-, -, -, e4⟩ := e
  refine ⟨h0, h1, h2, e4, ?_⟩
  obtain ⟨z1, z2, z3, z4, z5, z6⟩ := h4
  have hal : U.vm.Alike (U.calling gg mk a).vm := Vm.Alike.refl U.vm
  exact ⟨z1.moved hal, z2.moved hal, fun q hq => by obtain ⟨a9, ha⟩ := z3 q hq; exact ⟨a9, vk_R.same (u := U) (U := U.calling gg mk a) rfl ha⟩, fun q hq => va_Nw.same (u := U) (U := U.calling gg mk a) rfl rfl (z4 q hq), fun q hq => va_Nc.moved hal (z5 q hq), fun q hq => va_Nw.same (u := U) (U := U.calling gg mk a) rfl rfl (z6 q hq)⟩
def xB (cls : String) : List Cond := Cond.castable cls cls :: xdcl.map Cond.declares
/-- a throw's words -/
theorem x_hat {own cls : String} {ic : Nat} {args : Array Value} {s : State} {A : Nat → Prop} {H : Heap} (hts : ∀ w ∈ WX, w.before args s = true) (hX : xU A s H) (hin : ∀ w ∈ (vx_atS own ic cls xN).filter goodWord, w ∈ XF) (h2 : ∀ w ∈ (vx_atS own ic cls xN).filter (fun w => !goodWord w), w ∈ xB cls) (hc : cls ∈ xcst) : ∀ w ∈ vx_atS own ic cls xN, w.before args s = true :=
  vx_hat (B := xB cls) (fun w h => hts w (List.mem_append_right _ (hin w h))) h2 (vx_c (va_Nw.use rfl (hX.2.2.2.1 cls hc)) (fun w hw => by obtain ⟨q, hq, rfl⟩ := List.mem_map.mp hw; exact va_Nw.use rfl (hX.2.2.2.2.2 q hq)))
theorem xiRX2_19 : ∀ w ∈ (vx_atS RX2 19 xUOE xN).filter goodWord, w ∈ XF := fun w h => (List.mem_append_left _ h)
theorem xjRX2_19 : ∀ w ∈ (vx_atS RX2 19 xUOE xN).filter (fun w => !goodWord w), w ∈ xB xUOE := by decide +kernel
theorem xiRX2_26 : ∀ w ∈ (vx_atS RX2 26 xISE xN).filter goodWord, w ∈ XF := fun w h => (List.mem_append_right _ (List.mem_append_left _ h))
theorem xjRX2_26 : ∀ w ∈ (vx_atS RX2 26 xISE xN).filter (fun w => !goodWord w), w ∈ xB xISE := by decide +kernel
theorem xiRX2_33 : ∀ w ∈ (vx_atS RX2 33 xIAE xN).filter goodWord, w ∈ XF := fun w h => (List.mem_append_right _ (List.mem_append_right _ (List.mem_append_left _ h)))
theorem xjRX2_33 : ∀ w ∈ (vx_atS RX2 33 xIAE xN).filter (fun w => !goodWord w), w ∈ xB xIAE := by decide +kernel
theorem xiRX10_349 : ∀ w ∈ (vx_atS RX10 349 xIAE xN).filter goodWord, w ∈ XF := fun w h => (List.mem_append_right _ (List.mem_append_right _ (List.mem_append_right _ (List.mem_append_left _ h))))
theorem xjRX10_349 : ∀ w ∈ (vx_atS RX10 349 xIAE xN).filter (fun w => !goodWord w), w ∈ xB xIAE := by decide +kernel
theorem xiRX10_356 : ∀ w ∈ (vx_atS RX10 356 xISE xN).filter goodWord, w ∈ XF := fun w h => (List.mem_append_right _ (List.mem_append_right _ (List.mem_append_right _ (List.mem_append_right _ h))))
theorem xjRX10_356 : ∀ w ∈ (vx_atS RX10 356 xISE xN).filter (fun w => !goodWord w), w ∈ xB xISE := by decide +kernel
theorem xgRX2_19 : ∀ w ∈ Cond.classLink RX2 15 xUOE :: Cond.initialized xUOE :: vx_atS RX2 19 xUOE xN, vx_ot w = true := fun w h => List.all_eq_true.mp (show (Cond.classLink RX2 15 xUOE :: Cond.initialized xUOE :: vx_atS RX2 19 xUOE xN).all vx_ot = true by decide +kernel) w h
theorem xgRX2_26 : ∀ w ∈ Cond.classLink RX2 22 xISE :: Cond.initialized xISE :: vx_atS RX2 26 xISE xN, vx_ot w = true := fun w h => List.all_eq_true.mp (show (Cond.classLink RX2 22 xISE :: Cond.initialized xISE :: vx_atS RX2 26 xISE xN).all vx_ot = true by decide +kernel) w h
theorem xgRX2_33 : ∀ w ∈ Cond.classLink RX2 29 xIAE :: Cond.initialized xIAE :: vx_atS RX2 33 xIAE xN, vx_ot w = true := fun w h => List.all_eq_true.mp (show (Cond.classLink RX2 29 xIAE :: Cond.initialized xIAE :: vx_atS RX2 33 xIAE xN).all vx_ot = true by decide +kernel) w h
theorem xgRX10_349 : ∀ w ∈ Cond.classLink RX10 345 xIAE :: Cond.initialized xIAE :: vx_atS RX10 349 xIAE xN, vx_ot w = true := fun w h => List.all_eq_true.mp (show (Cond.classLink RX10 345 xIAE :: Cond.initialized xIAE :: vx_atS RX10 349 xIAE xN).all vx_ot = true by decide +kernel) w h
theorem xgRX10_356 : ∀ w ∈ Cond.classLink RX10 352 xISE :: Cond.initialized xISE :: vx_atS RX10 356 xISE xN, vx_ot w = true := fun w h => List.all_eq_true.mp (show (Cond.classLink RX10 352 xISE :: Cond.initialized xISE :: vx_atS RX10 356 xISE xN).all vx_ot = true by decide +kernel) w h
theorem xfit : Bundle.fit xUOE = true ∧ Bundle.fit xISE = true ∧ Bundle.fit xIAE = true ∧ ∀ n ∈ xN, Bundle.fit n = true := by decide +kernel
/-- the walk of a method that may throw, WK over the room it stands in -/
def kT (g : G) (l : Launch) (R : Room) (own : String) (cc : ByteArray) (nL mc ms : Nat) (XC : String → St → Prop) (WK : Nat → List (Nat × Value) → List Value → St → Prop) : Prop :=
  ∃ (p : Program) (e : Env) (s : State) (m : MethodId) (args : Array Value) (below : List Frame) (meth : Method) (c : Code) (Qc : Array Value → State → Outcome → State → Prop),
    CallFix p m c cc nL s args WX own ∧ meth.locks = false ∧ wU g s ∧ gOK g ∧ xU (aA g s.heap.size) s s.heap ∧ (∀ x ∈ c.exceptionTable.toList, False) ∧
    WK = fun pc lv st σ => ∀ (ls : Array Slot) (H : Heap) (locs : List Loc), lv_has ls nL lv → va_P g.1 vwCl (wd g σ) H → va_S (aA g s.heap.size) s.heap H locs → W p l e R s m args below meth c H locs 0 0 (vx_MQ below Qc (fun E st t => ∃ σ, XC E σ ∧ va_P g.1 vwCl (wd g σ) t.heap ∧ va_F (aA g s.heap.size) st t) args s mc ms (aA g s.heap.size)) (F0 m pc ls st)
theorem x_thr {g : G} {l : Launch} (hfl : l.stackTraces = false) {R : Room} {own cls text : String} {cc : ByteArray} {nL mc ms ik is ic pc : Nat} {XC : String → St → Prop} {WK : Nat → List (Nat × Value) → List Value → St → Prop} {lv : List (Nat × Value)} {st : List Value} {σ : St} (C : kT g l R own cc nL mc ms XC WK)
    (hcls : Bundle.fit cls = true) (h1 : Cond.classLink own ik cls ∈ WS) (h2 : Cond.initialized cls ∈ WS) (hs : (own, is, text) ∈ xstr) (hc : cls ∈ xcst) (hi : ∀ w ∈ (vx_atS own ic cls xN).filter goodWord, w ∈ XF) (hj : ∀ w ∈ (vx_atS own ic cls xN).filter (fun w => !goodWord w), w ∈ xB cls) (hg2 : ∀ w ∈ Cond.classLink own ik cls :: Cond.initialized cls :: vx_atS own ic cls xN, vx_ot w = true)
    (d0 : decode cc pc = .ok (.new ik, 3)) (d3 : decode cc (pc + 3) = .ok (.dup, 1)) (d4 : decode cc (pc + 4) = .ok (.ldc is, 2)) (d6 : decode cc (pc + 6) = .ok (.invokespecial ic, 3)) (d9 : decode cc (pc + 9) = .ok (.athrow, 1)) (hRf : 5 < R.frames) (hRl : (st.map fun v => v.category).sum + 82 ≤ R.locals) (hRc : 1 ≤ R.cells) (hRs : 6 ≤ R.slots) (hmc : 1 ≤ mc) (hms : 6 ≤ ms) (hX : XC cls σ) : WK pc lv st σ := by
  obtain ⟨p, ev, s, m, args, below, meth, c, Qc, ⟨hx, hb, hml, hown, hts⟩, hlk, hU, hg, hxu, htab, rfl⟩ := C
  intro ls H locs hl hP hS
  obtain ⟨sa, hstr⟩ := hxu.2.2.1 _ hs
  exact vx_throwS (names := xN) (A := aA g s.heap.size) (text := text) (sa := sa) hx hb hfl hown hcls xfit.2.2.2 (hts _ (WX_s h1)) (hts _ (WX_s h2)) hstr (x_hat hts hxu hi hj hc) hg2 hxu.1 hxu.2.1 hS (hl.1.trans hml.symm) d0 d3 d4 d6 d9 (fun x hx2 => (htab x hx2).elim) hRf hRl (by omega) (by omega) hlk (fun t hvm hsz hk => ⟨σ, hX, hP.kept (fun k q hq => hk q.1 (hP k q hq).lt), Nat.le_trans hS.1 hsz, fun q q1 q2 => (hk q (Nat.lt_of_lt_of_le q1 hS.1)).trans (hS.2.1 q q1 q2)⟩) hS.2.2 (by omega) (by omega)
theorem x_thrW {g : G} {l : Launch} (hfl : l.stackTraces = false) {R : Room} {own cls text : String} {cc : ByteArray} {nL mc ms ik is ic pc : Nat} {XC : String → St → Prop} {WK : Nat → List (Nat × Value) → List Value → St → Prop} {lv : List (Nat × Value)} {st : List Value} {σ : St} (C : kT g l R own cc nL mc ms XC WK)
    (hcls : Bundle.fit cls = true) (h1 : Cond.classLink own ik cls ∈ WS) (h2 : Cond.initialized cls ∈ WS) (hs : (own, is, text) ∈ xstr) (hc : cls ∈ xcst) (hi : ∀ w ∈ (vx_atS own ic cls xN).filter goodWord, w ∈ XF) (hj : ∀ w ∈ (vx_atS own ic cls xN).filter (fun w => !goodWord w), w ∈ xB cls) (hg2 : ∀ w ∈ Cond.classLink own ik cls :: Cond.initialized cls :: vx_atS own ic cls xN, vx_ot w = true)
    (d0 : decode cc pc = .ok (.new ik, 3)) (d3 : decode cc (pc + 3) = .ok (.dup, 1)) (d4 : decode cc (pc + 4) = .ok (.ldc_w is, 3)) (d7 : decode cc (pc + 7) = .ok (.invokespecial ic, 3)) (d10 : decode cc (pc + 10) = .ok (.athrow, 1)) (hRf : 5 < R.frames) (hRl : (st.map fun v => v.category).sum + 82 ≤ R.locals) (hRc : 1 ≤ R.cells) (hRs : 6 ≤ R.slots) (hmc : 1 ≤ mc) (hms : 6 ≤ ms) (hX : XC cls σ) : WK pc lv st σ := by
  obtain ⟨p, ev, s, m, args, below, meth, c, Qc, ⟨hx, hb, hml, hown, hts⟩, hlk, hU, hg, hxu, htab, rfl⟩ := C
  intro ls H locs hl hP hS
  obtain ⟨sa, hstr⟩ := hxu.2.2.1 _ hs
  exact vx_throwSW (names := xN) (A := aA g s.heap.size) (text := text) (sa := sa) hx hb hfl hown hcls xfit.2.2.2 (hts _ (WX_s h1)) (hts _ (WX_s h2)) hstr (x_hat hts hxu hi hj hc) hg2 hxu.1 hxu.2.1 hS (hl.1.trans hml.symm) d0 d3 d4 d7 d10 (fun x hx2 => (htab x hx2).elim) hRf hRl (by omega) (by omega) hlk (fun t hvm hsz hk => ⟨σ, hX, hP.kept (fun k q hq => hk q.1 (hP k q hq).lt), Nat.le_trans hS.1 hsz, fun q q1 q2 => (hk q (Nat.lt_of_lt_of_le q1 hS.1)).trans (hS.2.1 q q1 q2)⟩) hS.2.2 (by omega) (by omega)
theorem kT_y {g : G} {l : Launch} {R : Room} {own : String} {cc : ByteArray} {nL mc ms : Nat} {XC : String → St → Prop} {WK : Nat → List (Nat × Value) → List Value → St → Prop} (C : kT g l R own cc nL mc ms XC WK) : kY g l R own cc nL WK := by
  obtain ⟨p, ev, s, m, args, below, meth, c, Qc, ⟨hx, hb, hml, hown, hts⟩, hlk, hU, hg, hxu, htab, rfl⟩ := C
  exact ⟨p, ev, s, m, args, below, meth, c, 0, 0, _, ⟨hx, hb, hml, hown, fun w h => hts w (WX_s h)⟩, hU, hg, Nat.zero_le _, Nat.zero_le _, rfl⟩
/-- a method that may throw, entered; its returns -/
def xQ (g : G) (QR : Option Value → St → Prop) (A : Nat → Prop) : Array Value → State → Outcome → State → Prop := fun _ st oc t => (∃ v σ, QR v σ ∧ oc = .returned v ∧ va_P g.1 vwCl (wd g σ) t.heap) ∧ va_F A st t
def xX (g : G) (XC : String → St → Prop) (A : Nat → Prop) : String → State → State → Prop := fun E st t => ∃ σ, XC E σ ∧ va_P g.1 vwCl (wd g σ) t.heap ∧ va_F A st t
theorem x_enter {l : Launch} {g : G} {y : MethodName} {cc : ByteArray} {nL mc ms : Nat} {rt : Option FieldType} {rm : Room} {own : String} {As : List Value} {σ : St} {QR : Option Value → St → Prop} {XC : String → St → Prop} (hg : gOK g) (hy : plainName y.cls = true) (hown : y.cls = own) (hlen : (lg_sl As).length ≤ nL)
    (body : ∀ (WK : Nat → List (Nat × Value) → List Value → St → Prop), kT g l rm own cc nL mc ms XC WK → (∀ (pc : Nat) (lv : List (Nat × Value)) (v : Int64) (σ : St), rt = some .long → decode cc pc = .ok (.lreturn, 1) → QR (some (.long v)) σ → WK pc lv [.long v] σ) → (∀ (pc : Nat) (lv : List (Nat × Value)) (σ : St), rt = none → decode cc pc = .ok (.return_, 1) → QR none σ → WK pc lv [] σ) → WK 0 (lv_args 0 As) [] σ) :
    ∀ sz, vx_Met l y (Cond.code y cc nL rt :: WX) rm (xP g As σ sz) (xQ g QR (aA g sz)) (xX g XC (aA g sz)) mc ms (aA g sz) := by
  intro sz
  refine vx_ofW hy rfl ?_
  intro p e s m args below meth c s₁ B hml htab hv
  obtain ⟨rfl, hsz, hP, hU, hX⟩ := hv
  subst hsz
  subst hown
  have hx := B.exec
  have hb := B.bytes
  have hr := B.returns
  have hlk := B.notSynchronized
  have hts : ∀ w ∈ WX, w.before _ s = true := fun w h => atoms_spec (ws := Cond.code y cc nL rt :: WX) B.pre w (List.mem_cons_of_mem _ h)
  rw [lg_entry_eq]
  exact body _ ⟨p, e, s, m, _, below, meth, c, _, ⟨hx, hb, hml, findClass_of_methodNamed B.named, hts⟩, hlk, hU, hg, hX, htab, rfl⟩
    (fun pc lv v σ e1 hd hq ls H locs hl hP hS => W.widen (Nat.zero_le _) (Nat.zero_le _) (vx_ret (W.lret hx hb (hr.trans e1) (fun t ht hW => ⟨⟨_, σ, hq, rfl, by rw [ht]; exact hP⟩, hS.F ht⟩) hS.2.2 hd hlk)))
    (fun pc lv σ e1 hd hq ls H locs hl hP hS => W.widen (Nat.zero_le _) (Nat.zero_le _) (vx_ret (W.vret hx hb (hr.trans e1) (fun t ht hW => ⟨⟨_, σ, hq, rfl, by rw [ht]; exact hP⟩, hS.F ht⟩) hS.2.2 hd hlk))) _ _ _ (lv_entry As hlen) hP va_S.rf
def xK (k : Int32) : String := if k = 4 then xUOE else if k = 2 ∨ k = 3 then xISE else xIAE
set_option maxRecDepth 100000 in
set_option maxHeartbeats 4000000 in
theorem qX2_fail (l : Launch) (hfl : l.stackTraces = false) (g : G) (hg : gOK g) (k f : Int32) (σ : St) : ∀ sz, vx_Met l yX2_fail (Cond.code yX2_fail cX2_fail 2 none :: WX) { frames := 6, cells := 1, slots := 6, locals := 82 } (xP g [.int k, .int f] σ sz) (xQ g (fun v σ2 => v = none ∧ σ2 = σ ∧ (k = 1 ∨ f = 0)) (aA g sz)) (xX g (fun E σ2 => E = xK k ∧ σ2 = σ ∧ ¬ (k = 1 ∨ f = 0)) (aA g sz)) 1 6 (aA g sz) := by
  refine x_enter hg pnRX2 rfl (Nat.le_of_ble_eq_true rfl) ?_
  intro WK T hl hv
  have C := kT_y T
  show WK 0 [(0, .int k), (1, .int f)] [] σ
  refine k_iload_n C (dk dX2_fail_0 0 rfl) rfl 0 rfl ?_
  refine k_iconst (v := (1 : Int32)) C (dk dX2_fail_0 1 rfl) (by decide) ?_
  by_cases e1 : k = 1
  · refine k_icmp_eq (tgt := 9) (a := some (0 : Nat)) (b := none) (r := 0) C (dk dX2_fail_0 2 rfl) (by decide) (if_pos e1) (fun _ => ?_) (fun h => nomatch h)
    exact hv _ _ _ rfl (dk dX2_fail_0 5 rfl) ⟨rfl, rfl, Or.inl e1⟩
  refine k_icmp_eq (tgt := 9) (a := none) (b := some (0 : Nat)) (r := 0) C (dk dX2_fail_0 2 rfl) (by decide) (if_neg e1) (fun h => nomatch h) (fun _ => ?_)
  refine k_iload_n C (dk dX2_fail_0 3 rfl) rfl 1 rfl ?_
  by_cases e2 : f = 0
  · refine k_if_ne (tgt := 10) (a := some (0 : Nat)) (b := none) (r := 0) C (dk dX2_fail_0 4 rfl) (by decide) (if_pos e2) (fun h => nomatch h) (fun _ => ?_)
    exact hv _ _ _ rfl (dk dX2_fail_0 5 rfl) ⟨rfl, rfl, Or.inr e2⟩
  refine k_if_ne (tgt := 10) (a := none) (b := some (0 : Nat)) (r := 0) C (dk dX2_fail_0 4 rfl) (by decide) (if_neg e2) (fun _ => ?_) (fun h => nomatch h)
  have e3 : ¬ (k = 1 ∨ f = 0) := fun h => h.elim e1 e2
  refine k_iload_n C (dk dX2_fail_0 6 rfl) rfl 0 rfl ?_
  by_cases f2 : k = (2 : Int32)
  · refine k_tsIn (q := (2 : Int32)) (tgt := 46) C (dk dX2_fail_0 7 rfl) (by decide) (by decide) rfl (by decide) f2 ?_
    exact x_thr hfl (cls := xISE) (text := "a hill fails") T xfit.2.1 (iW38 _ (List.mem_of_getElem? (i := 28) rfl)) (iW37 _ (List.mem_of_getElem? (i := 6) rfl)) (List.mem_of_getElem? (i := 1) rfl) (List.mem_of_getElem? (i := 1) rfl) xiRX2_26 xjRX2_26 xgRX2_26 (dk dX2_fail_0 13 rfl) (dk dX2_fail_0 14 rfl) (dk dX2_fail_0 15 rfl) (dk dX2_fail_0 16 rfl) (dk dX2_fail_0 17 rfl) (by decide) (by decide) (by decide) (by decide) (by decide) (by decide) ⟨by rw [f2]; rfl, rfl, e3⟩
  by_cases f3 : k = (3 : Int32)
  · refine k_tsIn (q := (3 : Int32)) (tgt := 56) C (dk dX2_fail_0 7 rfl) (by decide) (by decide) rfl (by decide) f3 ?_
    exact x_thr hfl (cls := xISE) (text := "a mountain fails") T xfit.2.1 (iW38 _ (List.mem_of_getElem? (i := 28) rfl)) (iW37 _ (List.mem_of_getElem? (i := 6) rfl)) (List.mem_of_getElem? (i := 2) rfl) (List.mem_of_getElem? (i := 1) rfl) xiRX2_26 xjRX2_26 xgRX2_26 (dk dX2_fail_0 18 rfl) (dk dX2_fail_0 19 rfl) (dk dX2_fail_0 20 rfl) (dk dX2_fail_0 21 rfl) (dk dX2_fail_0 22 rfl) (by decide) (by decide) (by decide) (by decide) (by decide) (by decide) ⟨by rw [f3]; rfl, rfl, e3⟩
  by_cases f4 : k = (4 : Int32)
  · refine k_tsIn (q := (4 : Int32)) (tgt := 36) C (dk dX2_fail_0 7 rfl) (by decide) (by decide) rfl (by decide) f4 ?_
    exact x_thr hfl (cls := xUOE) (text := "a pass fails") T xfit.1 (iW38 _ (List.mem_of_getElem? (i := 26) rfl)) (iW38 _ (List.mem_of_getElem? (i := 27) rfl)) (List.mem_of_getElem? (i := 0) rfl) (List.mem_of_getElem? (i := 0) rfl) xiRX2_19 xjRX2_19 xgRX2_19 (dk dX2_fail_0 8 rfl) (dk dX2_fail_0 9 rfl) (dk dX2_fail_0 10 rfl) (dk dX2_fail_0 11 rfl) (dk dX2_fail_0 12 rfl) (by decide) (by decide) (by decide) (by decide) (by decide) (by decide) ⟨by rw [f4]; rfl, rfl, e3⟩
  refine k_tsOut (tgt := 66) C (dk dX2_fail_0 7 rfl) (by have n2 : k.toInt ≠ 2 := fun q => f2 (Int32.toInt_inj.mp (q.trans (by decide))); have n3 : k.toInt ≠ 3 := fun q => f3 (Int32.toInt_inj.mp (q.trans (by decide))); have n4 : k.toInt ≠ 4 := fun q => f4 (Int32.toInt_inj.mp (q.trans (by decide))); omega) (by decide) ?_
  exact x_thr hfl (cls := xIAE) (text := "a ground fails") T xfit.2.2.1 (iW38 _ (List.mem_of_getElem? (i := 29) rfl)) (iW37 _ (List.mem_of_getElem? (i := 4) rfl)) (List.mem_of_getElem? (i := 3) rfl) (List.mem_of_getElem? (i := 2) rfl) xiRX2_33 xjRX2_33 xgRX2_33 (dk dX2_fail_0 23 rfl) (dk dX2_fail_0 24 rfl) (dk dX2_fail_0 25 rfl) (dk dX2_fail_0 26 rfl) (dk dX2_fail_0 27 rfl) (by decide) (by decide) (by decide) (by decide) (by decide) (by decide) ⟨by unfold xK; rw [if_neg f4, if_neg (fun h => h.elim f2 f3)], rfl, e3⟩
/-- element: 0 and the number, or 1, 2 by what it throws -/
def mX10_elem (a1 a2 : Int32) (s0 : St) : Option ((Int32 × Int64) × St) := cl2 (mX10_isShelf a1 s0) (fun x s1 => if x = 0 then some ((1, 0), s1) else cl2 (mX10_shelfAt a1 s1) (fun n s2 => kl (gI s2 n 0) (fun h => if h = 2 then cl2 (mX10_shelfAt a1 s2) (fun n2 s3 => cl2 (mX5_hasPlace n2 a2 s3) (fun y s4 => if y = 0 then some ((2, 0), s4) else cl2 (mX10_shelfAt a1 s4) (fun n3 s5 => cl2 (mX5_numberAt n3 a2 s5) (fun v s6 => some ((0, v), s6))))) else some ((2, 0), s2))))
set_option maxRecDepth 100000 in
set_option maxHeartbeats 4000000 in
theorem qX10_element (l : Launch) (hfl : l.stackTraces = false) (g : G) (hg : gOK g) {a1 a2 k : Int32} {v : Int64} {s0 σe : St} (h : mX10_elem a1 a2 s0 = some ((k, v), σe)) : ∀ sz, vx_Met l yX10_element (Cond.code yX10_element cX10_element 3 (some .long) :: WX) { frames := 6, cells := 1, slots := 6, locals := 82 } (xP g [.ref (g.2.2 0), .int a1, .int a2] s0 sz) (xQ g (fun o σ2 => o = some (.long v) ∧ σ2 = σe ∧ k = 0) (aA g sz)) (xX g (fun E σ2 => σ2 = σe ∧ (E = xIAE ∧ k = 1 ∨ E = xISE ∧ k = 2)) (aA g sz)) 1 6 (aA g sz) := by
  refine x_enter hg pnRX10 rfl (Nat.le_of_ble_eq_true rfl) ?_
  intro WK T hl hv
  have C := kT_y T
  unfold mX10_elem at h
  show WK 0 [(0, .ref (g.2.2 0)), (1, .int a1), (2, .int a2)] [] s0
  refine k_iload_n C (dk dX10_element_0 0 rfl) rfl 1 rfl ?_
  refine cl2_k h (fun x s1 hc h => ?_)
  refine k_cs (As := [.int a1]) (st := []) C (qX10_isShelf l g hg hc) (iW4 _ (List.mem_of_getElem? (i := 5) rfl)) (iW4 _ (List.mem_of_getElem? (i := 6) rfl)) (iW0 _ (List.mem_of_getElem? (i := 2) rfl)) (iW4 _ (List.mem_of_getElem? (i := 7) rfl)) rfl rfl hdX10_isShelf (by decide) rfl rfl (Nat.le_of_ble_eq_true rfl) (dk dX10_element_0 1 rfl) ?_
  refine k_if_ne (tgt := 18) C (dk dX10_element_0 2 rfl) (by decide) h (fun h => ?_) (fun h => ?_)
  rotate_left
  · cases h
    exact x_thrW hfl (cls := xIAE) (text := "no such shelf") T xfit.2.2.1 (iW37 _ (List.mem_of_getElem? (i := 3) rfl)) (iW37 _ (List.mem_of_getElem? (i := 4) rfl)) (List.mem_of_getElem? (i := 4) rfl) (List.mem_of_getElem? (i := 2) rfl) xiRX10_349 xjRX10_349 xgRX10_349 (dk dX10_element_0 3 rfl) (dk dX10_element_0 4 rfl) (dk dX10_element_0 5 rfl) (dk dX10_element_0 6 rfl) (dk dX10_element_0 7 rfl) (by decide) (by decide) (by decide) (by decide) (by decide) (by decide) ⟨rfl, Or.inl ⟨rfl, rfl⟩⟩
  refine k_aload_n C (dk dX10_element_0 8 rfl) rfl 0 rfl ?_
  refine k_iload_n C (dk dX10_element_0 9 rfl) rfl 1 rfl ?_
  refine cl2_k h (fun n s2 hc h => ?_)
  refine k_cv (T := TX10) (N := 9) (ci := 5) (ob := 0) (As := [.int a1]) (st := []) C (qX10_shelfAt l g hg hc) (iW4 _ (List.mem_of_getElem? (i := 8) rfl)) (iW4 _ (List.mem_of_getElem? (i := 9) rfl)) (iW4 _ (List.mem_of_getElem? (i := 10) rfl)) (iW0 _ (List.mem_of_getElem? (i := 2) rfl)) (iW4 _ (List.mem_of_getElem? (i := 11) rfl)) rfl rfl hdX10_shelfAt (by decide) rfl (by decide) rfl rfl rfl (Nat.le_of_ble_eq_true rfl) (dk dX10_element_0 10 rfl) ?_
  have hn : kd n = 3 := rX10_shelfAt hc
  refine k_getI (D := RX5) (T := TX5) (N := 6) (ci := 3) (k := 0) C iCX5 hn (by decide) rfl (by decide) (iW4 _ (List.mem_of_getElem? (i := 4) rfl)) rfl (dk dX10_element_0 11 rfl) h (fun x1 h => ?_)
  refine k_iconst (v := (2 : Int32)) C (dk dX10_element_0 12 rfl) (by decide) ?_
  refine k_icmp_eq (tgt := 41) C (dk dX10_element_0 13 rfl) (by decide) h (fun h => ?_) (fun h => ?_)
  rotate_left
  · cases h
    exact x_thrW hfl (cls := xISE) (text := "no row") T xfit.2.1 (iW37 _ (List.mem_of_getElem? (i := 5) rfl)) (iW37 _ (List.mem_of_getElem? (i := 6) rfl)) (List.mem_of_getElem? (i := 5) rfl) (List.mem_of_getElem? (i := 1) rfl) xiRX10_356 xjRX10_356 xgRX10_356 (dk dX10_element_0 14 rfl) (dk dX10_element_0 15 rfl) (dk dX10_element_0 16 rfl) (dk dX10_element_0 17 rfl) (dk dX10_element_0 18 rfl) (by decide) (by decide) (by decide) (by decide) (by decide) (by decide) ⟨rfl, Or.inr ⟨rfl, rfl⟩⟩
  refine k_aload_n C (dk dX10_element_0 19 rfl) rfl 0 rfl ?_
  refine k_iload_n C (dk dX10_element_0 20 rfl) rfl 1 rfl ?_
  refine cl2_k h (fun n2 s3 hc h => ?_)
  refine k_cv (T := TX10) (N := 9) (ci := 5) (ob := 0) (As := [.int a1]) (st := []) C (qX10_shelfAt l g hg hc) (iW4 _ (List.mem_of_getElem? (i := 8) rfl)) (iW4 _ (List.mem_of_getElem? (i := 9) rfl)) (iW4 _ (List.mem_of_getElem? (i := 10) rfl)) (iW0 _ (List.mem_of_getElem? (i := 2) rfl)) (iW4 _ (List.mem_of_getElem? (i := 11) rfl)) rfl rfl hdX10_shelfAt (by decide) rfl (by decide) rfl rfl rfl (Nat.le_of_ble_eq_true rfl) (dk dX10_element_0 21 rfl) ?_
  have hn2 : kd n2 = 3 := rX10_shelfAt hc
  refine k_iload_n C (dk dX10_element_0 22 rfl) rfl 2 rfl ?_
  refine cl2_k h (fun x2 s4 hc h => ?_)
  refine k_cv (T := TX5) (N := 6) (ci := 3) (ob := n2) (As := [.int a2]) (st := []) C (qX5_hasPlace l g hg hn2 hc) (iW36 _ (List.mem_of_getElem? (i := 8) rfl)) (iW36 _ (List.mem_of_getElem? (i := 9) rfl)) (iW36 _ (List.mem_of_getElem? (i := 10) rfl)) (iW1 _ (List.mem_of_getElem? (i := 3) rfl)) (iW36 _ (List.mem_of_getElem? (i := 11) rfl)) rfl rfl hdX5_hasPlace (by decide) hn2 (by decide) rfl rfl rfl (Nat.le_of_ble_eq_true rfl) (dk dX10_element_0 23 rfl) ?_
  refine k_if_ne (tgt := 64) C (dk dX10_element_0 24 rfl) (by decide) h (fun h => ?_) (fun h => ?_)
  rotate_left
  · cases h
    exact x_thrW hfl (cls := xISE) (text := "no such place") T xfit.2.1 (iW37 _ (List.mem_of_getElem? (i := 5) rfl)) (iW37 _ (List.mem_of_getElem? (i := 6) rfl)) (List.mem_of_getElem? (i := 6) rfl) (List.mem_of_getElem? (i := 1) rfl) xiRX10_356 xjRX10_356 xgRX10_356 (dk dX10_element_0 25 rfl) (dk dX10_element_0 26 rfl) (dk dX10_element_0 27 rfl) (dk dX10_element_0 28 rfl) (dk dX10_element_0 29 rfl) (by decide) (by decide) (by decide) (by decide) (by decide) (by decide) ⟨rfl, Or.inr ⟨rfl, rfl⟩⟩
  refine k_aload_n C (dk dX10_element_0 30 rfl) rfl 0 rfl ?_
  refine k_iload_n C (dk dX10_element_0 31 rfl) rfl 1 rfl ?_
  refine cl2_k h (fun n3 s5 hc h => ?_)
  refine k_cv (T := TX10) (N := 9) (ci := 5) (ob := 0) (As := [.int a1]) (st := []) C (qX10_shelfAt l g hg hc) (iW4 _ (List.mem_of_getElem? (i := 8) rfl)) (iW4 _ (List.mem_of_getElem? (i := 9) rfl)) (iW4 _ (List.mem_of_getElem? (i := 10) rfl)) (iW0 _ (List.mem_of_getElem? (i := 2) rfl)) (iW4 _ (List.mem_of_getElem? (i := 11) rfl)) rfl rfl hdX10_shelfAt (by decide) rfl (by decide) rfl rfl rfl (Nat.le_of_ble_eq_true rfl) (dk dX10_element_1 0 rfl) ?_
  have hn3 : kd n3 = 3 := rX10_shelfAt hc
  refine k_iload_n C (dk dX10_element_1 1 rfl) rfl 2 rfl ?_
  refine cl2_k h (fun v2 s6 hc h => ?_)
  refine k_cv (T := TX5) (N := 6) (ci := 3) (ob := n3) (As := [.int a2]) (st := []) C (qX5_numberAt l g hg hn3 hc) (iW37 _ (List.mem_of_getElem? (i := 7) rfl)) (iW4 _ (List.mem_of_getElem? (i := 21) rfl)) (iW4 _ (List.mem_of_getElem? (i := 22) rfl)) (iW1 _ (List.mem_of_getElem? (i := 3) rfl)) (iW4 _ (List.mem_of_getElem? (i := 23) rfl)) rfl rfl hdX5_numberAt (by decide) hn3 (by decide) rfl rfl rfl (Nat.le_of_ble_eq_true rfl) (dk dX10_element_1 2 rfl) ?_
  cases h
  exact hl _ _ _ _ rfl (dk dX10_element_1 3 rfl) ⟨rfl, rfl, rfl⟩
