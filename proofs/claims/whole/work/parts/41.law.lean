-- ===== end of PART A; then your names; then what follows =====
/-! THE CLAIM OUT OF ONE WALK OF THE LAW'S BODY. Your part is whole_start (and what it stands on); all else here is the same for every law, but numbers. -/
def R_law : String := "NineMilesOffLaw"
def lw_P (b : Addr) (xs : List Int32) (args : Array Value) (s : State) : Prop := args = #[.ref b] ∧ s.IntsAt b xs ∧ xs.length ≤ 3072 ∧ (Jvm.Cond.and given_1 narrow_1).before args s = true
def lw_Q (_ : Array Value) (s : State) (o : Outcome) (t : State) : Prop := o = .returned (some (.int 1)) ∧ Framed s o t [] 601024 7293034
def lw_Z (below : List Frame) (a : Array Value) (s : State) : State → Prop := fun t => ∃ o, t.status = .running ∧ Ended t below o ∧ lw_Q a s o t
/-- the law's own end, with 1 on the stack, nothing written that was there before, its room as the claim has it -/
theorem lw_ret {p : Program} {l : Launch} {e : Env} {s : State} {m : MethodId} {below : List Frame} {meth : Method} {c : Code} {b : Nat} (hx : p.tables.exec = Jvm.exec) (hb : c.code = code) (hr : meth.sig.returnType = ret) (hlocks : meth.locks = false) {pc : Nat} {H : Heap} {ls : Array Slot} (hdg : decode code pc = .ok (.ireturn, 1)) : W p l e room_1 s m #[Value.ref b] below meth c H [] 601024 7293034 (lw_Z below #[Value.ref b] s) (F0 m pc ls [.int 1]) := by
  intro T hT X
  obtain ⟨fs, hret, hrun, hended, hW, hframe⟩ := X.leave (v := some (.int 1)) (hlocks := hlocks) (fun h => by rw [hr] at h; cases h)
  have hmeth' : T.vm.method? m = some meth := X.method'
  refine ⟨T.setFrames fs, ?_, .returned (some (.int 1)), hrun, hended, rfl, ⟨_, rfl⟩, hW, hframe⟩
  jvm_step X.here [X.here.top, hx, hb, hdg, hmeth', hr, ret, narrow_b1]
  (try refine ⟨rfl, ?_⟩); (try refine ⟨rfl, ?_⟩)
  first | (intro acts; rw [hret _ acts rfl rfl rfl]) | rw [hret _ _ rfl rfl rfl]
  exact Steps.refl _
/-- what holds at the law's entry: the machine, the code, the tables' words (any of lw_tbl by 'hts w (by decide +kernel)'), the script of L ints xs at the cell b, what the Statement gives of the start (any of its parts by flat_of_before) -/
def lw_At (p : Program) (s : State) (m : MethodId) (meth : Method) (c : Code) (b L : Nat) (xs : Nat → Int32) : Prop :=
  p.tables.exec = Jvm.exec ∧ c.code = code ∧ meth.sig.returnType = ret ∧ c.maxLocals = 8 ∧ s.vm.findClass R_law = some m.cls ∧ (∀ w ∈ lw_tbl, w.before #[Value.ref b] s = true) ∧ va_X b L xs s s.heap ∧ b < s.heap.size ∧ meth.locks = false ∧ (Jvm.Cond.and given_1 narrow_1).before #[Value.ref b] s = true

def LK (g : G) (p : Program) (l : Launch) (e : Env) (s : State) (m : MethodId) (below : List Frame) (meth : Method) (c : Code) (b : Nat) (nc ns : Nat) : Nat → List (Nat × Value) → List Value → St → Prop := fun pc lv st σ => ∀ (ls : Array Slot) (H : Heap) (locs : List Loc), lv_has ls 8 lv → va_P g.1 vwCl (wd g σ) H → va_S (aA g s.heap.size) s.heap H locs → W p l e room_1 s m #[Value.ref b] below meth c H locs nc ns (lw_Z below #[Value.ref b] s) (F0 m pc ls st)
theorem LK_y {g : G} {p : Program} {l : Launch} {e : Env} {s : State} {m : MethodId} {below : List Frame} {meth : Method} {c : Code} {b L nc ns : Nat} {xs : Nat → Int32} (C0 : lw_At p s m meth c b L xs) (hU : wU g s) (hg : gOK g) (hc : nc ≤ 601024) (hs : ns ≤ 7293034) : kY g l room_1 RL cL_law 8 (LK g p l e s m below meth c b nc ns) := by
  obtain ⟨hx, hb, hr, hml, hown, hts, -⟩ := C0
  exact ⟨p, e, s, m, _, below, meth, c, nc, ns, _, ⟨hx, hb, hml, hown, fun w h => hts w (WS_tbl w h)⟩, hU, hg, hc, hs, rfl⟩
/-- the law's reads of the script -/
def SL (b L : Nat) (xs : Nat → Int32) (WK : Nat → List (Nat × Value) → List Value → St → Prop) : Prop := (∀ (pc : Nat) (lv : List (Nat × Value)) (st : List Value) (σ : St) (j : Nat) (x : Int32), x = nI j → j < L → decode cL_law pc = .ok (.iaload, 1) → WK (pc + 1) lv (.int (xs j) :: st) σ → WK pc lv (.int x :: .ref b :: st) σ) ∧ (∀ (pc : Nat) (lv : List (Nat × Value)) (st : List Value) (σ : St), decode cL_law pc = .ok (.arraylength, 1) → WK (pc + 1) lv (.int (nI L) :: st) σ → WK pc lv (.ref b :: st) σ)
theorem LK_s {g : G} {p : Program} {l : Launch} {e : Env} {s : State} {m : MethodId} {below : List Frame} {meth : Method} {c : Code} {b L nc ns : Nat} {xs : Nat → Int32} (C0 : lw_At p s m meth c b L xs) (hL : L ≤ 3072) (hga : ∀ o, o < 67 → s.heap.size ≤ g.2.2 o) : SL b L xs (LK g p l e s m below meth c b nc ns) := by
  obtain ⟨hx, hb, hr, hml, hown, hts, hX, hbl, hlocks, hgv⟩ := C0
  have hbA : ¬ aA g s.heap.size b := by
    rintro (⟨o, ho, rfl⟩ | h)
    · exact absurd (hga o ho) (by omega)
    · omega
  refine ⟨fun pc lv st σ j x ex hj hd k => ?_, fun pc lv st σ hd k => ?_⟩
  · intro ls H locs hl hP hS
    subst ex
    refine va_sld hx hb hX hbl hbA hS (vp_in_nI hj (by omega)) hd ?_
    rw [nI_clamp (by omega)]
    exact k ls H locs hl hP hS
  · intro ls H locs hl hP hS
    exact va_slen hx hb hX hbl hbA hS hd (k ls H locs hl hP hS)
theorem lg_same (v : Int64) : lg_cmp v v = 0 := by simp [lg_cmp]
set_option maxRecDepth 100000 in
set_option maxHeartbeats 4000000 in
theorem law_c0 {g : G} {l : Launch} {b L i : Nat} {xs : Nat → Int32} {WK : Nat → List (Nat × Value) → List Value → St → Prop} (hg : gOK g) (C : kY g l room_1 RL cL_law 8 WK) (hsl : SL b L xs WK) (hi : i + 6 ≤ L) {σ σ1 σ2 : St} {v : Int32} (h1 : mX10_land (xs (i + 1)) σ = some (v, σ1)) (h2 : mX11_land (xs (i + 1)) σ1 = some (v, σ2)) (k : WK 1546 [(0, .ref b), (1, .ref (g.2.2 0)), (2, .ref (g.2.2 45)), (3, .ref (g.2.2 66)), (4, .int (nI i))] [] σ2) : WK 212 [(0, .ref b), (1, .ref (g.2.2 0)), (2, .ref (g.2.2 45)), (3, .ref (g.2.2 66)), (4, .int (nI i))] [] σ := by
  refine k_aload_n C (dk dL_law_0 25 rfl) rfl 1 rfl ?_
  refine k_aload_n C (dk dL_law_0 26 rfl) rfl 0 rfl ?_
  refine k_iload C (dk dL_law_0 27 rfl) 4 rfl ?_
  refine k_iconst (v := (1 : Int32)) C (dk dL_law_0 28 rfl) (by decide) ?_
  refine k_iadd C (dk dL_law_0 29 rfl) ?_
  refine hsl.1 _ _ _ _ (i + 1) _ (nI_add i 1) (by omega) (dk dL_law_0 30 rfl) ?_
  refine k_cv (T := TX10) (N := 9) (ci := 5) (ob := 0) (As := [.int (xs (i + 1))]) (st := []) C (qX10_land l g hg h1) (iW3 _ (List.mem_of_getElem? (i := 21) rfl)) (iW3 _ (List.mem_of_getElem? (i := 22) rfl)) (iW3 _ (List.mem_of_getElem? (i := 23) rfl)) (iW0 _ (List.mem_of_getElem? (i := 2) rfl)) (iW3 _ (List.mem_of_getElem? (i := 24) rfl)) rfl rfl hdX10_land (by decide) rfl (by decide) rfl rfl rfl (Nat.le_of_ble_eq_true rfl) (dk dL_law_0 31 rfl) ?_
  refine k_aload_n C (dk dL_law_1 0 rfl) rfl 2 rfl ?_
  refine k_aload_n C (dk dL_law_1 1 rfl) rfl 0 rfl ?_
  refine k_iload C (dk dL_law_1 2 rfl) 4 rfl ?_
  refine k_iconst (v := (1 : Int32)) C (dk dL_law_1 3 rfl) (by decide) ?_
  refine k_iadd C (dk dL_law_1 4 rfl) ?_
  refine hsl.1 _ _ _ _ (i + 1) _ (nI_add i 1) (by omega) (dk dL_law_1 5 rfl) ?_
  refine k_cv (T := TX11) (N := 39) (ci := 6) (ob := 45) (As := [.int (xs (i + 1))]) (st := [.int v]) C (qX11_land l g hg h2) (iW8 _ (List.mem_of_getElem? (i := 3) rfl)) (iW8 _ (List.mem_of_getElem? (i := 4) rfl)) (iW8 _ (List.mem_of_getElem? (i := 5) rfl)) (iW0 _ (List.mem_of_getElem? (i := 5) rfl)) (iW8 _ (List.mem_of_getElem? (i := 6) rfl)) rfl rfl hdX11_land (by decide) rfl (by decide) rfl rfl rfl (Nat.le_of_ble_eq_true rfl) (dk dL_law_1 6 rfl) ?_
  refine k_icmp_eq (tgt := 1546) (a := some (0 : Nat)) (b := none) (r := 0) C (dk dL_law_1 7 rfl) (by decide) (if_pos rfl) (fun _ => ?_) (fun h => nomatch h)
  exact k
set_option maxRecDepth 100000 in
set_option maxHeartbeats 4000000 in
theorem law_c1 {g : G} {l : Launch} {b L i : Nat} {xs : Nat → Int32} {WK : Nat → List (Nat × Value) → List Value → St → Prop} (hg : gOK g) (C : kY g l room_1 RL cL_law 8 WK) (hsl : SL b L xs WK) (hi : i + 6 ≤ L) {σ σ1 σ2 : St} {v : Int32} (h1 : mX10_ground (xs (i + 1)) (xs (i + 2)) σ = some (v, σ1)) (h2 : mX11_ground (xs (i + 1)) (xs (i + 2)) σ1 = some (v, σ2)) (k : WK 1546 [(0, .ref b), (1, .ref (g.2.2 0)), (2, .ref (g.2.2 45)), (3, .ref (g.2.2 66)), (4, .int (nI i))] [] σ2) : WK 237 [(0, .ref b), (1, .ref (g.2.2 0)), (2, .ref (g.2.2 45)), (3, .ref (g.2.2 66)), (4, .int (nI i))] [] σ := by
  refine k_aload_n C (dk dL_law_1 10 rfl) rfl 1 rfl ?_
  refine k_aload_n C (dk dL_law_1 11 rfl) rfl 0 rfl ?_
  refine k_iload C (dk dL_law_1 12 rfl) 4 rfl ?_
  refine k_iconst (v := (1 : Int32)) C (dk dL_law_1 13 rfl) (by decide) ?_
  refine k_iadd C (dk dL_law_1 14 rfl) ?_
  refine hsl.1 _ _ _ _ (i + 1) _ (nI_add i 1) (by omega) (dk dL_law_1 15 rfl) ?_
  refine k_aload_n C (dk dL_law_1 16 rfl) rfl 0 rfl ?_
  refine k_iload C (dk dL_law_1 17 rfl) 4 rfl ?_
  refine k_iconst (v := (2 : Int32)) C (dk dL_law_1 18 rfl) (by decide) ?_
  refine k_iadd C (dk dL_law_1 19 rfl) ?_
  refine hsl.1 _ _ _ _ (i + 2) _ (nI_add i 2) (by omega) (dk dL_law_1 20 rfl) ?_
  refine k_cv (T := TX10) (N := 9) (ci := 5) (ob := 0) (As := [.int (xs (i + 1)), .int (xs (i + 2))]) (st := []) C (qX10_ground l g hg h1) (iW10 _ (List.mem_of_getElem? (i := 25) rfl)) (iW10 _ (List.mem_of_getElem? (i := 26) rfl)) (iW10 _ (List.mem_of_getElem? (i := 27) rfl)) (iW0 _ (List.mem_of_getElem? (i := 2) rfl)) (iW10 _ (List.mem_of_getElem? (i := 28) rfl)) rfl rfl hdX10_ground (by decide) rfl (by decide) rfl rfl rfl (Nat.le_of_ble_eq_true rfl) (dk dL_law_1 21 rfl) ?_
  refine k_aload_n C (dk dL_law_1 22 rfl) rfl 2 rfl ?_
  refine k_aload_n C (dk dL_law_1 23 rfl) rfl 0 rfl ?_
  refine k_iload C (dk dL_law_1 24 rfl) 4 rfl ?_
  refine k_iconst (v := (1 : Int32)) C (dk dL_law_1 25 rfl) (by decide) ?_
  refine k_iadd C (dk dL_law_1 26 rfl) ?_
  refine hsl.1 _ _ _ _ (i + 1) _ (nI_add i 1) (by omega) (dk dL_law_1 27 rfl) ?_
  refine k_aload_n C (dk dL_law_1 28 rfl) rfl 0 rfl ?_
  refine k_iload C (dk dL_law_1 29 rfl) 4 rfl ?_
  refine k_iconst (v := (2 : Int32)) C (dk dL_law_1 30 rfl) (by decide) ?_
  refine k_iadd C (dk dL_law_1 31 rfl) ?_
  refine hsl.1 _ _ _ _ (i + 2) _ (nI_add i 2) (by omega) (dk dL_law_2 0 rfl) ?_
  refine k_cv (T := TX11) (N := 39) (ci := 6) (ob := 45) (As := [.int (xs (i + 1)), .int (xs (i + 2))]) (st := [.int v]) C (qX11_ground l g hg h2) (iW11 _ (List.mem_of_getElem? (i := 17) rfl)) (iW11 _ (List.mem_of_getElem? (i := 18) rfl)) (iW11 _ (List.mem_of_getElem? (i := 19) rfl)) (iW0 _ (List.mem_of_getElem? (i := 5) rfl)) (iW11 _ (List.mem_of_getElem? (i := 20) rfl)) rfl rfl hdX11_ground (by decide) rfl (by decide) rfl rfl rfl (Nat.le_of_ble_eq_true rfl) (dk dL_law_2 1 rfl) ?_
  refine k_icmp_eq (tgt := 1546) (a := some (0 : Nat)) (b := none) (r := 0) C (dk dL_law_2 2 rfl) (by decide) (if_pos rfl) (fun _ => ?_) (fun h => nomatch h)
  exact k
set_option maxRecDepth 100000 in
set_option maxHeartbeats 4000000 in
theorem law_c2 {g : G} {l : Launch} {b L i : Nat} {xs : Nat → Int32} {WK : Nat → List (Nat × Value) → List Value → St → Prop} (hg : gOK g) (C : kY g l room_1 RL cL_law 8 WK) (hsl : SL b L xs WK) (hi : i + 6 ≤ L) {σ σ1 σ2 : St} {v : Int32} (h1 : mX10_lays (xs (i + 1)) (xs (i + 2)) σ = some (v, σ1)) (h2 : mX11_lays (xs (i + 1)) (xs (i + 2)) σ1 = some (v, σ2)) (k : WK 1546 [(0, .ref b), (1, .ref (g.2.2 0)), (2, .ref (g.2.2 45)), (3, .ref (g.2.2 66)), (4, .int (nI i))] [] σ2) : WK 274 [(0, .ref b), (1, .ref (g.2.2 0)), (2, .ref (g.2.2 45)), (3, .ref (g.2.2 66)), (4, .int (nI i))] [] σ := by
  refine k_aload_n C (dk dL_law_2 5 rfl) rfl 1 rfl ?_
  refine k_aload_n C (dk dL_law_2 6 rfl) rfl 0 rfl ?_
  refine k_iload C (dk dL_law_2 7 rfl) 4 rfl ?_
  refine k_iconst (v := (1 : Int32)) C (dk dL_law_2 8 rfl) (by decide) ?_
  refine k_iadd C (dk dL_law_2 9 rfl) ?_
  refine hsl.1 _ _ _ _ (i + 1) _ (nI_add i 1) (by omega) (dk dL_law_2 10 rfl) ?_
  refine k_aload_n C (dk dL_law_2 11 rfl) rfl 0 rfl ?_
  refine k_iload C (dk dL_law_2 12 rfl) 4 rfl ?_
  refine k_iconst (v := (2 : Int32)) C (dk dL_law_2 13 rfl) (by decide) ?_
  refine k_iadd C (dk dL_law_2 14 rfl) ?_
  refine hsl.1 _ _ _ _ (i + 2) _ (nI_add i 2) (by omega) (dk dL_law_2 15 rfl) ?_
  refine k_cv (T := TX10) (N := 9) (ci := 5) (ob := 0) (As := [.int (xs (i + 1)), .int (xs (i + 2))]) (st := []) C (qX10_lays l g hg h1) (iW11 _ (List.mem_of_getElem? (i := 29) rfl)) (iW12 _ (List.mem_of_getElem? (i := 0) rfl)) (iW12 _ (List.mem_of_getElem? (i := 1) rfl)) (iW0 _ (List.mem_of_getElem? (i := 2) rfl)) (iW12 _ (List.mem_of_getElem? (i := 2) rfl)) rfl rfl hdX10_lays (by decide) rfl (by decide) rfl rfl rfl (Nat.le_of_ble_eq_true rfl) (dk dL_law_2 16 rfl) ?_
  refine k_aload_n C (dk dL_law_2 17 rfl) rfl 2 rfl ?_
  refine k_aload_n C (dk dL_law_2 18 rfl) rfl 0 rfl ?_
  refine k_iload C (dk dL_law_2 19 rfl) 4 rfl ?_
  refine k_iconst (v := (1 : Int32)) C (dk dL_law_2 20 rfl) (by decide) ?_
  refine k_iadd C (dk dL_law_2 21 rfl) ?_
  refine hsl.1 _ _ _ _ (i + 1) _ (nI_add i 1) (by omega) (dk dL_law_2 22 rfl) ?_
  refine k_aload_n C (dk dL_law_2 23 rfl) rfl 0 rfl ?_
  refine k_iload C (dk dL_law_2 24 rfl) 4 rfl ?_
  refine k_iconst (v := (2 : Int32)) C (dk dL_law_2 25 rfl) (by decide) ?_
  refine k_iadd C (dk dL_law_2 26 rfl) ?_
  refine hsl.1 _ _ _ _ (i + 2) _ (nI_add i 2) (by omega) (dk dL_law_2 27 rfl) ?_
  refine k_cv (T := TX11) (N := 39) (ci := 6) (ob := 45) (As := [.int (xs (i + 1)), .int (xs (i + 2))]) (st := [.int v]) C (qX11_lays l g hg h2) (iW12 _ (List.mem_of_getElem? (i := 10) rfl)) (iW12 _ (List.mem_of_getElem? (i := 11) rfl)) (iW12 _ (List.mem_of_getElem? (i := 12) rfl)) (iW0 _ (List.mem_of_getElem? (i := 5) rfl)) (iW12 _ (List.mem_of_getElem? (i := 13) rfl)) rfl rfl hdX11_lays (by decide) rfl (by decide) rfl rfl rfl (Nat.le_of_ble_eq_true rfl) (dk dL_law_2 28 rfl) ?_
  refine k_icmp_eq (tgt := 1546) (a := some (0 : Nat)) (b := none) (r := 0) C (dk dL_law_2 29 rfl) (by decide) (if_pos rfl) (fun _ => ?_) (fun h => nomatch h)
  exact k
set_option maxRecDepth 100000 in
set_option maxHeartbeats 4000000 in
theorem law_c3 {g : G} {l : Launch} {b L i : Nat} {xs : Nat → Int32} {WK : Nat → List (Nat × Value) → List Value → St → Prop} (hg : gOK g) (C : kY g l room_1 RL cL_law 8 WK) (hsl : SL b L xs WK) (hi : i + 6 ≤ L) {σ σ1 σ2 : St} {v : Int32} (h1 : mX10_stands (xs (i + 1)) (xs (i + 2)) σ = some (v, σ1)) (h2 : mX11_stands (xs (i + 1)) (xs (i + 2)) σ1 = some (v, σ2)) (k : WK 1546 [(0, .ref b), (1, .ref (g.2.2 0)), (2, .ref (g.2.2 45)), (3, .ref (g.2.2 66)), (4, .int (nI i))] [] σ2) : WK 311 [(0, .ref b), (1, .ref (g.2.2 0)), (2, .ref (g.2.2 45)), (3, .ref (g.2.2 66)), (4, .int (nI i))] [] σ := by
  refine k_aload_n C (dk dL_law_3 0 rfl) rfl 1 rfl ?_
  refine k_aload_n C (dk dL_law_3 1 rfl) rfl 0 rfl ?_
  refine k_iload C (dk dL_law_3 2 rfl) 4 rfl ?_
  refine k_iconst (v := (1 : Int32)) C (dk dL_law_3 3 rfl) (by decide) ?_
  refine k_iadd C (dk dL_law_3 4 rfl) ?_
  refine hsl.1 _ _ _ _ (i + 1) _ (nI_add i 1) (by omega) (dk dL_law_3 5 rfl) ?_
  refine k_aload_n C (dk dL_law_3 6 rfl) rfl 0 rfl ?_
  refine k_iload C (dk dL_law_3 7 rfl) 4 rfl ?_
  refine k_iconst (v := (2 : Int32)) C (dk dL_law_3 8 rfl) (by decide) ?_
  refine k_iadd C (dk dL_law_3 9 rfl) ?_
  refine hsl.1 _ _ _ _ (i + 2) _ (nI_add i 2) (by omega) (dk dL_law_3 10 rfl) ?_
  refine k_cv (T := TX10) (N := 9) (ci := 5) (ob := 0) (As := [.int (xs (i + 1)), .int (xs (i + 2))]) (st := []) C (qX10_stands l g hg h1) (iW12 _ (List.mem_of_getElem? (i := 18) rfl)) (iW12 _ (List.mem_of_getElem? (i := 19) rfl)) (iW12 _ (List.mem_of_getElem? (i := 20) rfl)) (iW0 _ (List.mem_of_getElem? (i := 2) rfl)) (iW12 _ (List.mem_of_getElem? (i := 21) rfl)) rfl rfl hdX10_stands (by decide) rfl (by decide) rfl rfl rfl (Nat.le_of_ble_eq_true rfl) (dk dL_law_3 11 rfl) ?_
  refine k_aload_n C (dk dL_law_3 12 rfl) rfl 2 rfl ?_
  refine k_aload_n C (dk dL_law_3 13 rfl) rfl 0 rfl ?_
  refine k_iload C (dk dL_law_3 14 rfl) 4 rfl ?_
  refine k_iconst (v := (1 : Int32)) C (dk dL_law_3 15 rfl) (by decide) ?_
  refine k_iadd C (dk dL_law_3 16 rfl) ?_
  refine hsl.1 _ _ _ _ (i + 1) _ (nI_add i 1) (by omega) (dk dL_law_3 17 rfl) ?_
  refine k_aload_n C (dk dL_law_3 18 rfl) rfl 0 rfl ?_
  refine k_iload C (dk dL_law_3 19 rfl) 4 rfl ?_
  refine k_iconst (v := (2 : Int32)) C (dk dL_law_3 20 rfl) (by decide) ?_
  refine k_iadd C (dk dL_law_3 21 rfl) ?_
  refine hsl.1 _ _ _ _ (i + 2) _ (nI_add i 2) (by omega) (dk dL_law_3 22 rfl) ?_
  refine k_cv (T := TX11) (N := 39) (ci := 6) (ob := 45) (As := [.int (xs (i + 1)), .int (xs (i + 2))]) (st := [.int v]) C (qX11_stands l g hg h2) (iW12 _ (List.mem_of_getElem? (i := 26) rfl)) (iW12 _ (List.mem_of_getElem? (i := 27) rfl)) (iW12 _ (List.mem_of_getElem? (i := 28) rfl)) (iW0 _ (List.mem_of_getElem? (i := 5) rfl)) (iW12 _ (List.mem_of_getElem? (i := 29) rfl)) rfl rfl hdX11_stands (by decide) rfl (by decide) rfl rfl rfl (Nat.le_of_ble_eq_true rfl) (dk dL_law_3 23 rfl) ?_
  refine k_icmp_eq (tgt := 1546) (a := some (0 : Nat)) (b := none) (r := 0) C (dk dL_law_3 24 rfl) (by decide) (if_pos rfl) (fun _ => ?_) (fun h => nomatch h)
  exact k
set_option maxRecDepth 100000 in
set_option maxHeartbeats 4000000 in
theorem law_c4 {g : G} {l : Launch} {b L i : Nat} {xs : Nat → Int32} {WK : Nat → List (Nat × Value) → List Value → St → Prop} (hg : gOK g) (C : kY g l room_1 RL cL_law 8 WK) (hsl : SL b L xs WK) (hi : i + 6 ≤ L) {σ σ1 σ2 : St} {v : Int32} (h1 : mX10_set (xs (i + 1)) (xs (i + 2)) σ = some (v, σ1)) (h2 : mX11_set (xs (i + 1)) (xs (i + 2)) σ1 = some (v, σ2)) (k : WK 1546 [(0, .ref b), (1, .ref (g.2.2 0)), (2, .ref (g.2.2 45)), (3, .ref (g.2.2 66)), (4, .int (nI i))] [] σ2) : WK 348 [(0, .ref b), (1, .ref (g.2.2 0)), (2, .ref (g.2.2 45)), (3, .ref (g.2.2 66)), (4, .int (nI i))] [] σ := by
  refine k_aload_n C (dk dL_law_3 27 rfl) rfl 1 rfl ?_
  refine k_aload_n C (dk dL_law_3 28 rfl) rfl 0 rfl ?_
  refine k_iload C (dk dL_law_3 29 rfl) 4 rfl ?_
  refine k_iconst (v := (1 : Int32)) C (dk dL_law_3 30 rfl) (by decide) ?_
  refine k_iadd C (dk dL_law_3 31 rfl) ?_
  refine hsl.1 _ _ _ _ (i + 1) _ (nI_add i 1) (by omega) (dk dL_law_4 0 rfl) ?_
  refine k_aload_n C (dk dL_law_4 1 rfl) rfl 0 rfl ?_
  refine k_iload C (dk dL_law_4 2 rfl) 4 rfl ?_
  refine k_iconst (v := (2 : Int32)) C (dk dL_law_4 3 rfl) (by decide) ?_
  refine k_iadd C (dk dL_law_4 4 rfl) ?_
  refine hsl.1 _ _ _ _ (i + 2) _ (nI_add i 2) (by omega) (dk dL_law_4 5 rfl) ?_
  refine k_cv (T := TX10) (N := 9) (ci := 5) (ob := 0) (As := [.int (xs (i + 1)), .int (xs (i + 2))]) (st := []) C (qX10_set l g hg h1) (iW13 _ (List.mem_of_getElem? (i := 0) rfl)) (iW13 _ (List.mem_of_getElem? (i := 1) rfl)) (iW13 _ (List.mem_of_getElem? (i := 2) rfl)) (iW0 _ (List.mem_of_getElem? (i := 2) rfl)) (iW13 _ (List.mem_of_getElem? (i := 3) rfl)) rfl rfl hdX10_set (by decide) rfl (by decide) rfl rfl rfl (Nat.le_of_ble_eq_true rfl) (dk dL_law_4 6 rfl) ?_
  refine k_aload_n C (dk dL_law_4 7 rfl) rfl 2 rfl ?_
  refine k_aload_n C (dk dL_law_4 8 rfl) rfl 0 rfl ?_
  refine k_iload C (dk dL_law_4 9 rfl) 4 rfl ?_
  refine k_iconst (v := (1 : Int32)) C (dk dL_law_4 10 rfl) (by decide) ?_
  refine k_iadd C (dk dL_law_4 11 rfl) ?_
  refine hsl.1 _ _ _ _ (i + 1) _ (nI_add i 1) (by omega) (dk dL_law_4 12 rfl) ?_
  refine k_aload_n C (dk dL_law_4 13 rfl) rfl 0 rfl ?_
  refine k_iload C (dk dL_law_4 14 rfl) 4 rfl ?_
  refine k_iconst (v := (2 : Int32)) C (dk dL_law_4 15 rfl) (by decide) ?_
  refine k_iadd C (dk dL_law_4 16 rfl) ?_
  refine hsl.1 _ _ _ _ (i + 2) _ (nI_add i 2) (by omega) (dk dL_law_4 17 rfl) ?_
  refine k_cv (T := TX11) (N := 39) (ci := 6) (ob := 45) (As := [.int (xs (i + 1)), .int (xs (i + 2))]) (st := [.int v]) C (qX11_set l g hg h2) (iW13 _ (List.mem_of_getElem? (i := 8) rfl)) (iW13 _ (List.mem_of_getElem? (i := 9) rfl)) (iW13 _ (List.mem_of_getElem? (i := 10) rfl)) (iW0 _ (List.mem_of_getElem? (i := 5) rfl)) (iW13 _ (List.mem_of_getElem? (i := 11) rfl)) rfl rfl hdX11_set (by decide) rfl (by decide) rfl rfl rfl (Nat.le_of_ble_eq_true rfl) (dk dL_law_4 18 rfl) ?_
  refine k_icmp_eq (tgt := 1546) (a := some (0 : Nat)) (b := none) (r := 0) C (dk dL_law_4 19 rfl) (by decide) (if_pos rfl) (fun _ => ?_) (fun h => nomatch h)
  exact k
set_option maxRecDepth 100000 in
set_option maxHeartbeats 4000000 in
theorem law_c5 {g : G} {l : Launch} {b L i : Nat} {xs : Nat → Int32} {WK : Nat → List (Nat × Value) → List Value → St → Prop} (hg : gOK g) (C : kY g l room_1 RL cL_law 8 WK) (hsl : SL b L xs WK) (hi : i + 6 ≤ L) {σ σ1 σ2 : St} {v : Int32} (h1 : mX10_go (xs (i + 1)) (xs (i + 2)) σ = some (v, σ1)) (h2 : mX11_go (xs (i + 1)) (xs (i + 2)) σ1 = some (v, σ2)) (k : WK 1546 [(0, .ref b), (1, .ref (g.2.2 0)), (2, .ref (g.2.2 45)), (3, .ref (g.2.2 66)), (4, .int (nI i))] [] σ2) : WK 385 [(0, .ref b), (1, .ref (g.2.2 0)), (2, .ref (g.2.2 45)), (3, .ref (g.2.2 66)), (4, .int (nI i))] [] σ := by
  refine k_aload_n C (dk dL_law_4 22 rfl) rfl 1 rfl ?_
  refine k_aload_n C (dk dL_law_4 23 rfl) rfl 0 rfl ?_
  refine k_iload C (dk dL_law_4 24 rfl) 4 rfl ?_
  refine k_iconst (v := (1 : Int32)) C (dk dL_law_4 25 rfl) (by decide) ?_
  refine k_iadd C (dk dL_law_4 26 rfl) ?_
  refine hsl.1 _ _ _ _ (i + 1) _ (nI_add i 1) (by omega) (dk dL_law_4 27 rfl) ?_
  refine k_aload_n C (dk dL_law_4 28 rfl) rfl 0 rfl ?_
  refine k_iload C (dk dL_law_4 29 rfl) 4 rfl ?_
  refine k_iconst (v := (2 : Int32)) C (dk dL_law_4 30 rfl) (by decide) ?_
  refine k_iadd C (dk dL_law_4 31 rfl) ?_
  refine hsl.1 _ _ _ _ (i + 2) _ (nI_add i 2) (by omega) (dk dL_law_5 0 rfl) ?_
  refine k_cv (T := TX10) (N := 9) (ci := 5) (ob := 0) (As := [.int (xs (i + 1)), .int (xs (i + 2))]) (st := []) C (qX10_go l g hg h1) (iW13 _ (List.mem_of_getElem? (i := 14) rfl)) (iW13 _ (List.mem_of_getElem? (i := 15) rfl)) (iW13 _ (List.mem_of_getElem? (i := 16) rfl)) (iW0 _ (List.mem_of_getElem? (i := 2) rfl)) (iW13 _ (List.mem_of_getElem? (i := 17) rfl)) rfl rfl hdX10_go (by decide) rfl (by decide) rfl rfl rfl (Nat.le_of_ble_eq_true rfl) (dk dL_law_5 1 rfl) ?_
  refine k_aload_n C (dk dL_law_5 2 rfl) rfl 2 rfl ?_
  refine k_aload_n C (dk dL_law_5 3 rfl) rfl 0 rfl ?_
  refine k_iload C (dk dL_law_5 4 rfl) 4 rfl ?_
  refine k_iconst (v := (1 : Int32)) C (dk dL_law_5 5 rfl) (by decide) ?_
  refine k_iadd C (dk dL_law_5 6 rfl) ?_
  refine hsl.1 _ _ _ _ (i + 1) _ (nI_add i 1) (by omega) (dk dL_law_5 7 rfl) ?_
  refine k_aload_n C (dk dL_law_5 8 rfl) rfl 0 rfl ?_
  refine k_iload C (dk dL_law_5 9 rfl) 4 rfl ?_
  refine k_iconst (v := (2 : Int32)) C (dk dL_law_5 10 rfl) (by decide) ?_
  refine k_iadd C (dk dL_law_5 11 rfl) ?_
  refine hsl.1 _ _ _ _ (i + 2) _ (nI_add i 2) (by omega) (dk dL_law_5 12 rfl) ?_
  refine k_cv (T := TX11) (N := 39) (ci := 6) (ob := 45) (As := [.int (xs (i + 1)), .int (xs (i + 2))]) (st := [.int v]) C (qX11_go l g hg h2) (iW13 _ (List.mem_of_getElem? (i := 23) rfl)) (iW13 _ (List.mem_of_getElem? (i := 24) rfl)) (iW13 _ (List.mem_of_getElem? (i := 25) rfl)) (iW0 _ (List.mem_of_getElem? (i := 5) rfl)) (iW13 _ (List.mem_of_getElem? (i := 26) rfl)) rfl rfl hdX11_go (by decide) rfl (by decide) rfl rfl rfl (Nat.le_of_ble_eq_true rfl) (dk dL_law_5 13 rfl) ?_
  refine k_icmp_eq (tgt := 1546) (a := some (0 : Nat)) (b := none) (r := 0) C (dk dL_law_5 14 rfl) (by decide) (if_pos rfl) (fun _ => ?_) (fun h => nomatch h)
  exact k
set_option maxRecDepth 100000 in
set_option maxHeartbeats 4000000 in
theorem law_c6 {g : G} {l : Launch} {b L i : Nat} {xs : Nat → Int32} {WK : Nat → List (Nat × Value) → List Value → St → Prop} (hg : gOK g) (C : kY g l room_1 RL cL_law 8 WK) (hsl : SL b L xs WK) (hi : i + 6 ≤ L) {σ σ1 σ2 : St} {v : Int32} (h1 : mX10_far (xs (i + 1)) (xs (i + 2)) σ = some (v, σ1)) (h2 : mX11_far (xs (i + 1)) (xs (i + 2)) σ1 = some (v, σ2)) (k : WK 1546 [(0, .ref b), (1, .ref (g.2.2 0)), (2, .ref (g.2.2 45)), (3, .ref (g.2.2 66)), (4, .int (nI i))] [] σ2) : WK 422 [(0, .ref b), (1, .ref (g.2.2 0)), (2, .ref (g.2.2 45)), (3, .ref (g.2.2 66)), (4, .int (nI i))] [] σ := by
  refine k_aload_n C (dk dL_law_5 17 rfl) rfl 1 rfl ?_
  refine k_aload_n C (dk dL_law_5 18 rfl) rfl 0 rfl ?_
  refine k_iload C (dk dL_law_5 19 rfl) 4 rfl ?_
  refine k_iconst (v := (1 : Int32)) C (dk dL_law_5 20 rfl) (by decide) ?_
  refine k_iadd C (dk dL_law_5 21 rfl) ?_
  refine hsl.1 _ _ _ _ (i + 1) _ (nI_add i 1) (by omega) (dk dL_law_5 22 rfl) ?_
  refine k_aload_n C (dk dL_law_5 23 rfl) rfl 0 rfl ?_
  refine k_iload C (dk dL_law_5 24 rfl) 4 rfl ?_
  refine k_iconst (v := (2 : Int32)) C (dk dL_law_5 25 rfl) (by decide) ?_
  refine k_iadd C (dk dL_law_5 26 rfl) ?_
  refine hsl.1 _ _ _ _ (i + 2) _ (nI_add i 2) (by omega) (dk dL_law_5 27 rfl) ?_
  refine k_cv (T := TX10) (N := 9) (ci := 5) (ob := 0) (As := [.int (xs (i + 1)), .int (xs (i + 2))]) (st := []) C (qX10_far l g hg h1) (iW13 _ (List.mem_of_getElem? (i := 28) rfl)) (iW13 _ (List.mem_of_getElem? (i := 29) rfl)) (iW14 _ (List.mem_of_getElem? (i := 0) rfl)) (iW0 _ (List.mem_of_getElem? (i := 2) rfl)) (iW14 _ (List.mem_of_getElem? (i := 1) rfl)) rfl rfl hdX10_far (by decide) rfl (by decide) rfl rfl rfl (Nat.le_of_ble_eq_true rfl) (dk dL_law_5 28 rfl) ?_
  refine k_aload_n C (dk dL_law_5 29 rfl) rfl 2 rfl ?_
  refine k_aload_n C (dk dL_law_5 30 rfl) rfl 0 rfl ?_
  refine k_iload C (dk dL_law_5 31 rfl) 4 rfl ?_
  refine k_iconst (v := (1 : Int32)) C (dk dL_law_6 0 rfl) (by decide) ?_
  refine k_iadd C (dk dL_law_6 1 rfl) ?_
  refine hsl.1 _ _ _ _ (i + 1) _ (nI_add i 1) (by omega) (dk dL_law_6 2 rfl) ?_
  refine k_aload_n C (dk dL_law_6 3 rfl) rfl 0 rfl ?_
  refine k_iload C (dk dL_law_6 4 rfl) 4 rfl ?_
  refine k_iconst (v := (2 : Int32)) C (dk dL_law_6 5 rfl) (by decide) ?_
  refine k_iadd C (dk dL_law_6 6 rfl) ?_
  refine hsl.1 _ _ _ _ (i + 2) _ (nI_add i 2) (by omega) (dk dL_law_6 7 rfl) ?_
  refine k_cv (T := TX11) (N := 39) (ci := 6) (ob := 45) (As := [.int (xs (i + 1)), .int (xs (i + 2))]) (st := [.int v]) C (qX11_far l g hg h2) (iW14 _ (List.mem_of_getElem? (i := 2) rfl)) (iW14 _ (List.mem_of_getElem? (i := 3) rfl)) (iW14 _ (List.mem_of_getElem? (i := 4) rfl)) (iW0 _ (List.mem_of_getElem? (i := 5) rfl)) (iW14 _ (List.mem_of_getElem? (i := 5) rfl)) rfl rfl hdX11_far (by decide) rfl (by decide) rfl rfl rfl (Nat.le_of_ble_eq_true rfl) (dk dL_law_6 8 rfl) ?_
  refine k_icmp_eq (tgt := 1546) (a := some (0 : Nat)) (b := none) (r := 0) C (dk dL_law_6 9 rfl) (by decide) (if_pos rfl) (fun _ => ?_) (fun h => nomatch h)
  exact k
set_option maxRecDepth 100000 in
set_option maxHeartbeats 4000000 in
theorem law_c7 {g : G} {l : Launch} {b L i : Nat} {xs : Nat → Int32} {WK : Nat → List (Nat × Value) → List Value → St → Prop} (hg : gOK g) (C : kY g l room_1 RL cL_law 8 WK) (hsl : SL b L xs WK) (hi : i + 6 ≤ L) {σ σ1 σ2 : St} {v : Int32} (h1 : mX10_steps (xs (i + 1)) (xs (i + 2)) σ = some (v, σ1)) (h2 : mX11_steps (xs (i + 1)) (xs (i + 2)) σ1 = some (v, σ2)) (k : WK 1546 [(0, .ref b), (1, .ref (g.2.2 0)), (2, .ref (g.2.2 45)), (3, .ref (g.2.2 66)), (4, .int (nI i))] [] σ2) : WK 459 [(0, .ref b), (1, .ref (g.2.2 0)), (2, .ref (g.2.2 45)), (3, .ref (g.2.2 66)), (4, .int (nI i))] [] σ := by
  refine k_aload_n C (dk dL_law_6 12 rfl) rfl 1 rfl ?_
  refine k_aload_n C (dk dL_law_6 13 rfl) rfl 0 rfl ?_
  refine k_iload C (dk dL_law_6 14 rfl) 4 rfl ?_
  refine k_iconst (v := (1 : Int32)) C (dk dL_law_6 15 rfl) (by decide) ?_
  refine k_iadd C (dk dL_law_6 16 rfl) ?_
  refine hsl.1 _ _ _ _ (i + 1) _ (nI_add i 1) (by omega) (dk dL_law_6 17 rfl) ?_
  refine k_aload_n C (dk dL_law_6 18 rfl) rfl 0 rfl ?_
  refine k_iload C (dk dL_law_6 19 rfl) 4 rfl ?_
  refine k_iconst (v := (2 : Int32)) C (dk dL_law_6 20 rfl) (by decide) ?_
  refine k_iadd C (dk dL_law_6 21 rfl) ?_
  refine hsl.1 _ _ _ _ (i + 2) _ (nI_add i 2) (by omega) (dk dL_law_6 22 rfl) ?_
  refine k_cv (T := TX10) (N := 9) (ci := 5) (ob := 0) (As := [.int (xs (i + 1)), .int (xs (i + 2))]) (st := []) C (qX10_steps l g hg h1) (iW14 _ (List.mem_of_getElem? (i := 6) rfl)) (iW14 _ (List.mem_of_getElem? (i := 7) rfl)) (iW14 _ (List.mem_of_getElem? (i := 8) rfl)) (iW0 _ (List.mem_of_getElem? (i := 2) rfl)) (iW14 _ (List.mem_of_getElem? (i := 9) rfl)) rfl rfl hdX10_steps (by decide) rfl (by decide) rfl rfl rfl (Nat.le_of_ble_eq_true rfl) (dk dL_law_6 23 rfl) ?_
  refine k_aload_n C (dk dL_law_6 24 rfl) rfl 2 rfl ?_
  refine k_aload_n C (dk dL_law_6 25 rfl) rfl 0 rfl ?_
  refine k_iload C (dk dL_law_6 26 rfl) 4 rfl ?_
  refine k_iconst (v := (1 : Int32)) C (dk dL_law_6 27 rfl) (by decide) ?_
  refine k_iadd C (dk dL_law_6 28 rfl) ?_
  refine hsl.1 _ _ _ _ (i + 1) _ (nI_add i 1) (by omega) (dk dL_law_6 29 rfl) ?_
  refine k_aload_n C (dk dL_law_6 30 rfl) rfl 0 rfl ?_
  refine k_iload C (dk dL_law_6 31 rfl) 4 rfl ?_
  refine k_iconst (v := (2 : Int32)) C (dk dL_law_7 0 rfl) (by decide) ?_
  refine k_iadd C (dk dL_law_7 1 rfl) ?_
  refine hsl.1 _ _ _ _ (i + 2) _ (nI_add i 2) (by omega) (dk dL_law_7 2 rfl) ?_
  refine k_cv (T := TX11) (N := 39) (ci := 6) (ob := 45) (As := [.int (xs (i + 1)), .int (xs (i + 2))]) (st := [.int v]) C (qX11_steps l g hg h2) (iW15 _ (List.mem_of_getElem? (i := 0) rfl)) (iW15 _ (List.mem_of_getElem? (i := 1) rfl)) (iW15 _ (List.mem_of_getElem? (i := 2) rfl)) (iW0 _ (List.mem_of_getElem? (i := 5) rfl)) (iW15 _ (List.mem_of_getElem? (i := 3) rfl)) rfl rfl hdX11_steps (by decide) rfl (by decide) rfl rfl rfl (Nat.le_of_ble_eq_true rfl) (dk dL_law_7 3 rfl) ?_
  refine k_icmp_eq (tgt := 1546) (a := some (0 : Nat)) (b := none) (r := 0) C (dk dL_law_7 4 rfl) (by decide) (if_pos rfl) (fun _ => ?_) (fun h => nomatch h)
  exact k
set_option maxRecDepth 100000 in
set_option maxHeartbeats 4000000 in
theorem law_c8 {g : G} {l : Launch} {b L i : Nat} {xs : Nat → Int32} {WK : Nat → List (Nat × Value) → List Value → St → Prop} (hg : gOK g) (C : kY g l room_1 RL cL_law 8 WK) (hsl : SL b L xs WK) (hi : i + 6 ≤ L) {σ σ1 σ2 : St} {v : Int32} (h1 : mX10_pairs (xs (i + 1)) σ = some (v, σ1)) (h2 : mX11_pairs (xs (i + 1)) σ1 = some (v, σ2)) (k : WK 1546 [(0, .ref b), (1, .ref (g.2.2 0)), (2, .ref (g.2.2 45)), (3, .ref (g.2.2 66)), (4, .int (nI i))] [] σ2) : WK 496 [(0, .ref b), (1, .ref (g.2.2 0)), (2, .ref (g.2.2 45)), (3, .ref (g.2.2 66)), (4, .int (nI i))] [] σ := by
  refine k_aload_n C (dk dL_law_7 7 rfl) rfl 1 rfl ?_
  refine k_aload_n C (dk dL_law_7 8 rfl) rfl 0 rfl ?_
  refine k_iload C (dk dL_law_7 9 rfl) 4 rfl ?_
  refine k_iconst (v := (1 : Int32)) C (dk dL_law_7 10 rfl) (by decide) ?_
  refine k_iadd C (dk dL_law_7 11 rfl) ?_
  refine hsl.1 _ _ _ _ (i + 1) _ (nI_add i 1) (by omega) (dk dL_law_7 12 rfl) ?_
  refine k_cv (T := TX10) (N := 9) (ci := 5) (ob := 0) (As := [.int (xs (i + 1))]) (st := []) C (qX10_pairs l g hg h1) (iW15 _ (List.mem_of_getElem? (i := 19) rfl)) (iW15 _ (List.mem_of_getElem? (i := 20) rfl)) (iW15 _ (List.mem_of_getElem? (i := 21) rfl)) (iW0 _ (List.mem_of_getElem? (i := 2) rfl)) (iW15 _ (List.mem_of_getElem? (i := 22) rfl)) rfl rfl hdX10_pairs (by decide) rfl (by decide) rfl rfl rfl (Nat.le_of_ble_eq_true rfl) (dk dL_law_7 13 rfl) ?_
  refine k_aload_n C (dk dL_law_7 14 rfl) rfl 2 rfl ?_
  refine k_aload_n C (dk dL_law_7 15 rfl) rfl 0 rfl ?_
  refine k_iload C (dk dL_law_7 16 rfl) 4 rfl ?_
  refine k_iconst (v := (1 : Int32)) C (dk dL_law_7 17 rfl) (by decide) ?_
  refine k_iadd C (dk dL_law_7 18 rfl) ?_
  refine hsl.1 _ _ _ _ (i + 1) _ (nI_add i 1) (by omega) (dk dL_law_7 19 rfl) ?_
  refine k_cv (T := TX11) (N := 39) (ci := 6) (ob := 45) (As := [.int (xs (i + 1))]) (st := [.int v]) C (qX11_pairs l g hg h2) (iW17 _ (List.mem_of_getElem? (i := 0) rfl)) (iW17 _ (List.mem_of_getElem? (i := 1) rfl)) (iW17 _ (List.mem_of_getElem? (i := 2) rfl)) (iW0 _ (List.mem_of_getElem? (i := 5) rfl)) (iW17 _ (List.mem_of_getElem? (i := 3) rfl)) rfl rfl hdX11_pairs (by decide) rfl (by decide) rfl rfl rfl (Nat.le_of_ble_eq_true rfl) (dk dL_law_7 20 rfl) ?_
  refine k_icmp_eq (tgt := 1546) (a := some (0 : Nat)) (b := none) (r := 0) C (dk dL_law_7 21 rfl) (by decide) (if_pos rfl) (fun _ => ?_) (fun h => nomatch h)
  exact k
set_option maxRecDepth 100000 in
set_option maxHeartbeats 4000000 in
theorem law_c9 {g : G} {l : Launch} {b L i : Nat} {xs : Nat → Int32} {WK : Nat → List (Nat × Value) → List Value → St → Prop} (hg : gOK g) (C : kY g l room_1 RL cL_law 8 WK) (hsl : SL b L xs WK) (hi : i + 6 ≤ L) {σ σ1 σ2 : St} {v : Int32} (h1 : mX10_islands  σ = some (v, σ1)) (h2 : mX11_islands  σ1 = some (v, σ2)) (k : WK 1546 [(0, .ref b), (1, .ref (g.2.2 0)), (2, .ref (g.2.2 45)), (3, .ref (g.2.2 66)), (4, .int (nI i))] [] σ2) : WK 521 [(0, .ref b), (1, .ref (g.2.2 0)), (2, .ref (g.2.2 45)), (3, .ref (g.2.2 66)), (4, .int (nI i))] [] σ := by
  refine k_aload_n C (dk dL_law_7 24 rfl) rfl 1 rfl ?_
  refine k_cv (T := TX10) (N := 9) (ci := 5) (ob := 0) (As := []) (st := []) C (qX10_islands l g hg h1) (iW17 _ (List.mem_of_getElem? (i := 16) rfl)) (iW17 _ (List.mem_of_getElem? (i := 17) rfl)) (iW17 _ (List.mem_of_getElem? (i := 18) rfl)) (iW0 _ (List.mem_of_getElem? (i := 2) rfl)) (iW17 _ (List.mem_of_getElem? (i := 19) rfl)) rfl rfl hdX10_islands (by decide) rfl (by decide) rfl rfl rfl (Nat.le_of_ble_eq_true rfl) (dk dL_law_7 25 rfl) ?_
  refine k_aload_n C (dk dL_law_7 26 rfl) rfl 2 rfl ?_
  refine k_cv (T := TX11) (N := 39) (ci := 6) (ob := 45) (As := []) (st := [.int v]) C (qX11_islands l g hg h2) (iW18 _ (List.mem_of_getElem? (i := 0) rfl)) (iW18 _ (List.mem_of_getElem? (i := 1) rfl)) (iW18 _ (List.mem_of_getElem? (i := 2) rfl)) (iW0 _ (List.mem_of_getElem? (i := 5) rfl)) (iW18 _ (List.mem_of_getElem? (i := 3) rfl)) rfl rfl hdX11_islands (by decide) rfl (by decide) rfl rfl rfl (Nat.le_of_ble_eq_true rfl) (dk dL_law_7 27 rfl) ?_
  refine k_icmp_eq (tgt := 1546) (a := some (0 : Nat)) (b := none) (r := 0) C (dk dL_law_7 28 rfl) (by decide) (if_pos rfl) (fun _ => ?_) (fun h => nomatch h)
  exact k
set_option maxRecDepth 100000 in
set_option maxHeartbeats 4000000 in
theorem law_c10 {g : G} {l : Launch} {b L i : Nat} {xs : Nat → Int32} {WK : Nat → List (Nat × Value) → List Value → St → Prop} (hg : gOK g) (C : kY g l room_1 RL cL_law 8 WK) (hsl : SL b L xs WK) (hi : i + 6 ≤ L) {σ σ1 σ2 : St} {v : Int32} (h1 : mX10_island (xs (i + 1)) σ = some (v, σ1)) (h2 : mX11_island (xs (i + 1)) σ1 = some (v, σ2)) (k : WK 1546 [(0, .ref b), (1, .ref (g.2.2 0)), (2, .ref (g.2.2 45)), (3, .ref (g.2.2 66)), (4, .int (nI i))] [] σ2) : WK 534 [(0, .ref b), (1, .ref (g.2.2 0)), (2, .ref (g.2.2 45)), (3, .ref (g.2.2 66)), (4, .int (nI i))] [] σ := by
  refine k_aload_n C (dk dL_law_7 31 rfl) rfl 1 rfl ?_
  refine k_aload_n C (dk dL_law_8 0 rfl) rfl 0 rfl ?_
  refine k_iload C (dk dL_law_8 1 rfl) 4 rfl ?_
  refine k_iconst (v := (1 : Int32)) C (dk dL_law_8 2 rfl) (by decide) ?_
  refine k_iadd C (dk dL_law_8 3 rfl) ?_
  refine hsl.1 _ _ _ _ (i + 1) _ (nI_add i 1) (by omega) (dk dL_law_8 4 rfl) ?_
  refine k_cv (T := TX10) (N := 9) (ci := 5) (ob := 0) (As := [.int (xs (i + 1))]) (st := []) C (qX10_island l g hg h1) (iW18 _ (List.mem_of_getElem? (i := 8) rfl)) (iW18 _ (List.mem_of_getElem? (i := 9) rfl)) (iW18 _ (List.mem_of_getElem? (i := 10) rfl)) (iW0 _ (List.mem_of_getElem? (i := 2) rfl)) (iW18 _ (List.mem_of_getElem? (i := 11) rfl)) rfl rfl hdX10_island (by decide) rfl (by decide) rfl rfl rfl (Nat.le_of_ble_eq_true rfl) (dk dL_law_8 5 rfl) ?_
  refine k_aload_n C (dk dL_law_8 6 rfl) rfl 2 rfl ?_
  refine k_aload_n C (dk dL_law_8 7 rfl) rfl 0 rfl ?_
  refine k_iload C (dk dL_law_8 8 rfl) 4 rfl ?_
  refine k_iconst (v := (1 : Int32)) C (dk dL_law_8 9 rfl) (by decide) ?_
  refine k_iadd C (dk dL_law_8 10 rfl) ?_
  refine hsl.1 _ _ _ _ (i + 1) _ (nI_add i 1) (by omega) (dk dL_law_8 11 rfl) ?_
  refine k_cv (T := TX11) (N := 39) (ci := 6) (ob := 45) (As := [.int (xs (i + 1))]) (st := [.int v]) C (qX11_island l g hg h2) (iW18 _ (List.mem_of_getElem? (i := 15) rfl)) (iW18 _ (List.mem_of_getElem? (i := 16) rfl)) (iW18 _ (List.mem_of_getElem? (i := 17) rfl)) (iW0 _ (List.mem_of_getElem? (i := 5) rfl)) (iW18 _ (List.mem_of_getElem? (i := 18) rfl)) rfl rfl hdX11_island (by decide) rfl (by decide) rfl rfl rfl (Nat.le_of_ble_eq_true rfl) (dk dL_law_8 12 rfl) ?_
  refine k_icmp_eq (tgt := 1546) (a := some (0 : Nat)) (b := none) (r := 0) C (dk dL_law_8 13 rfl) (by decide) (if_pos rfl) (fun _ => ?_) (fun h => nomatch h)
  exact k
set_option maxRecDepth 100000 in
set_option maxHeartbeats 4000000 in
theorem law_c11 {g : G} {l : Launch} {b L i : Nat} {xs : Nat → Int32} {WK : Nat → List (Nat × Value) → List Value → St → Prop} (hg : gOK g) (C : kY g l room_1 RL cL_law 8 WK) (hsl : SL b L xs WK) (hi : i + 6 ≤ L) {σ σ1 σ2 : St} {v : Int32} (h1 : mX10_middle (xs (i + 1)) σ = some (v, σ1)) (h2 : mX11_middle (xs (i + 1)) σ1 = some (v, σ2)) (k : WK 1546 [(0, .ref b), (1, .ref (g.2.2 0)), (2, .ref (g.2.2 45)), (3, .ref (g.2.2 66)), (4, .int (nI i))] [] σ2) : WK 559 [(0, .ref b), (1, .ref (g.2.2 0)), (2, .ref (g.2.2 45)), (3, .ref (g.2.2 66)), (4, .int (nI i))] [] σ := by
  refine k_aload_n C (dk dL_law_8 16 rfl) rfl 1 rfl ?_
  refine k_aload_n C (dk dL_law_8 17 rfl) rfl 0 rfl ?_
  refine k_iload C (dk dL_law_8 18 rfl) 4 rfl ?_
  refine k_iconst (v := (1 : Int32)) C (dk dL_law_8 19 rfl) (by decide) ?_
  refine k_iadd C (dk dL_law_8 20 rfl) ?_
  refine hsl.1 _ _ _ _ (i + 1) _ (nI_add i 1) (by omega) (dk dL_law_8 21 rfl) ?_
  refine k_cv (T := TX10) (N := 9) (ci := 5) (ob := 0) (As := [.int (xs (i + 1))]) (st := []) C (qX10_middle l g hg h1) (iW18 _ (List.mem_of_getElem? (i := 22) rfl)) (iW18 _ (List.mem_of_getElem? (i := 23) rfl)) (iW18 _ (List.mem_of_getElem? (i := 24) rfl)) (iW0 _ (List.mem_of_getElem? (i := 2) rfl)) (iW18 _ (List.mem_of_getElem? (i := 25) rfl)) rfl rfl hdX10_middle (by decide) rfl (by decide) rfl rfl rfl (Nat.le_of_ble_eq_true rfl) (dk dL_law_8 22 rfl) ?_
  refine k_aload_n C (dk dL_law_8 23 rfl) rfl 2 rfl ?_
  refine k_aload_n C (dk dL_law_8 24 rfl) rfl 0 rfl ?_
  refine k_iload C (dk dL_law_8 25 rfl) 4 rfl ?_
  refine k_iconst (v := (1 : Int32)) C (dk dL_law_8 26 rfl) (by decide) ?_
  refine k_iadd C (dk dL_law_8 27 rfl) ?_
  refine hsl.1 _ _ _ _ (i + 1) _ (nI_add i 1) (by omega) (dk dL_law_8 28 rfl) ?_
  refine k_cv (T := TX11) (N := 39) (ci := 6) (ob := 45) (As := [.int (xs (i + 1))]) (st := [.int v]) C (qX11_middle l g hg h2) (iW19 _ (List.mem_of_getElem? (i := 7) rfl)) (iW19 _ (List.mem_of_getElem? (i := 8) rfl)) (iW19 _ (List.mem_of_getElem? (i := 9) rfl)) (iW0 _ (List.mem_of_getElem? (i := 5) rfl)) (iW19 _ (List.mem_of_getElem? (i := 10) rfl)) rfl rfl hdX11_middle (by decide) rfl (by decide) rfl rfl rfl (Nat.le_of_ble_eq_true rfl) (dk dL_law_8 29 rfl) ?_
  refine k_icmp_eq (tgt := 1546) (a := some (0 : Nat)) (b := none) (r := 0) C (dk dL_law_8 30 rfl) (by decide) (if_pos rfl) (fun _ => ?_) (fun h => nomatch h)
  exact k
set_option maxRecDepth 100000 in
set_option maxHeartbeats 4000000 in
theorem law_c12 {g : G} {l : Launch} {b L i : Nat} {xs : Nat → Int32} {WK : Nat → List (Nat × Value) → List Value → St → Prop} (hg : gOK g) (C : kY g l room_1 RL cL_law 8 WK) (hsl : SL b L xs WK) (hi : i + 6 ≤ L) {σ σ1 σ2 : St} {v : Int32} (h1 : mX10_see (xs (i + 1)) (xs (i + 2)) σ = some (v, σ1)) (h2 : mX11_see (xs (i + 1)) (xs (i + 2)) σ1 = some (v, σ2)) (k : WK 1546 [(0, .ref b), (1, .ref (g.2.2 0)), (2, .ref (g.2.2 45)), (3, .ref (g.2.2 66)), (4, .int (nI i))] [] σ2) : WK 584 [(0, .ref b), (1, .ref (g.2.2 0)), (2, .ref (g.2.2 45)), (3, .ref (g.2.2 66)), (4, .int (nI i))] [] σ := by
  refine k_aload_n C (dk dL_law_9 1 rfl) rfl 1 rfl ?_
  refine k_aload_n C (dk dL_law_9 2 rfl) rfl 0 rfl ?_
  refine k_iload C (dk dL_law_9 3 rfl) 4 rfl ?_
  refine k_iconst (v := (1 : Int32)) C (dk dL_law_9 4 rfl) (by decide) ?_
  refine k_iadd C (dk dL_law_9 5 rfl) ?_
  refine hsl.1 _ _ _ _ (i + 1) _ (nI_add i 1) (by omega) (dk dL_law_9 6 rfl) ?_
  refine k_aload_n C (dk dL_law_9 7 rfl) rfl 0 rfl ?_
  refine k_iload C (dk dL_law_9 8 rfl) 4 rfl ?_
  refine k_iconst (v := (2 : Int32)) C (dk dL_law_9 9 rfl) (by decide) ?_
  refine k_iadd C (dk dL_law_9 10 rfl) ?_
  refine hsl.1 _ _ _ _ (i + 2) _ (nI_add i 2) (by omega) (dk dL_law_9 11 rfl) ?_
  refine k_cv (T := TX10) (N := 9) (ci := 5) (ob := 0) (As := [.int (xs (i + 1)), .int (xs (i + 2))]) (st := []) C (qX10_see l g hg h1) (iW19 _ (List.mem_of_getElem? (i := 11) rfl)) (iW19 _ (List.mem_of_getElem? (i := 12) rfl)) (iW19 _ (List.mem_of_getElem? (i := 13) rfl)) (iW0 _ (List.mem_of_getElem? (i := 2) rfl)) (iW19 _ (List.mem_of_getElem? (i := 14) rfl)) rfl rfl hdX10_see (by decide) rfl (by decide) rfl rfl rfl (Nat.le_of_ble_eq_true rfl) (dk dL_law_9 12 rfl) ?_
  refine k_aload_n C (dk dL_law_9 13 rfl) rfl 2 rfl ?_
  refine k_aload_n C (dk dL_law_9 14 rfl) rfl 0 rfl ?_
  refine k_iload C (dk dL_law_9 15 rfl) 4 rfl ?_
  refine k_iconst (v := (1 : Int32)) C (dk dL_law_9 16 rfl) (by decide) ?_
  refine k_iadd C (dk dL_law_9 17 rfl) ?_
  refine hsl.1 _ _ _ _ (i + 1) _ (nI_add i 1) (by omega) (dk dL_law_9 18 rfl) ?_
  refine k_aload_n C (dk dL_law_9 19 rfl) rfl 0 rfl ?_
  refine k_iload C (dk dL_law_9 20 rfl) 4 rfl ?_
  refine k_iconst (v := (2 : Int32)) C (dk dL_law_9 21 rfl) (by decide) ?_
  refine k_iadd C (dk dL_law_9 22 rfl) ?_
  refine hsl.1 _ _ _ _ (i + 2) _ (nI_add i 2) (by omega) (dk dL_law_9 23 rfl) ?_
  refine k_cv (T := TX11) (N := 39) (ci := 6) (ob := 45) (As := [.int (xs (i + 1)), .int (xs (i + 2))]) (st := [.int v]) C (qX11_see l g hg h2) (iW20 _ (List.mem_of_getElem? (i := 28) rfl)) (iW20 _ (List.mem_of_getElem? (i := 29) rfl)) (iW21 _ (List.mem_of_getElem? (i := 0) rfl)) (iW0 _ (List.mem_of_getElem? (i := 5) rfl)) (iW21 _ (List.mem_of_getElem? (i := 1) rfl)) rfl rfl hdX11_see (by decide) rfl (by decide) rfl rfl rfl (Nat.le_of_ble_eq_true rfl) (dk dL_law_9 24 rfl) ?_
  refine k_icmp_eq (tgt := 1546) (a := some (0 : Nat)) (b := none) (r := 0) C (dk dL_law_9 25 rfl) (by decide) (if_pos rfl) (fun _ => ?_) (fun h => nomatch h)
  exact k
set_option maxRecDepth 100000 in
set_option maxHeartbeats 4000000 in
theorem law_c13 {g : G} {l : Launch} {b L i : Nat} {xs : Nat → Int32} {WK : Nat → List (Nat × Value) → List Value → St → Prop} (hg : gOK g) (C : kY g l room_1 RL cL_law 8 WK) (hsl : SL b L xs WK) (hi : i + 6 ≤ L) {σ σ1 σ2 : St} {v : Int32} (h1 : mX10_way (xs (i + 1)) (xs (i + 2)) (xs (i + 3)) σ = some (v, σ1)) (h2 : mX11_way (xs (i + 1)) (xs (i + 2)) (xs (i + 3)) σ1 = some (v, σ2)) (k : WK 1546 [(0, .ref b), (1, .ref (g.2.2 0)), (2, .ref (g.2.2 45)), (3, .ref (g.2.2 66)), (4, .int (nI i))] [] σ2) : WK 621 [(0, .ref b), (1, .ref (g.2.2 0)), (2, .ref (g.2.2 45)), (3, .ref (g.2.2 66)), (4, .int (nI i))] [] σ := by
  refine k_aload_n C (dk dL_law_9 28 rfl) rfl 1 rfl ?_
  refine k_aload_n C (dk dL_law_9 29 rfl) rfl 0 rfl ?_
  refine k_iload C (dk dL_law_9 30 rfl) 4 rfl ?_
  refine k_iconst (v := (1 : Int32)) C (dk dL_law_9 31 rfl) (by decide) ?_
  refine k_iadd C (dk dL_law_10 0 rfl) ?_
  refine hsl.1 _ _ _ _ (i + 1) _ (nI_add i 1) (by omega) (dk dL_law_10 1 rfl) ?_
  refine k_aload_n C (dk dL_law_10 2 rfl) rfl 0 rfl ?_
  refine k_iload C (dk dL_law_10 3 rfl) 4 rfl ?_
  refine k_iconst (v := (2 : Int32)) C (dk dL_law_10 4 rfl) (by decide) ?_
  refine k_iadd C (dk dL_law_10 5 rfl) ?_
  refine hsl.1 _ _ _ _ (i + 2) _ (nI_add i 2) (by omega) (dk dL_law_10 6 rfl) ?_
  refine k_aload_n C (dk dL_law_10 7 rfl) rfl 0 rfl ?_
  refine k_iload C (dk dL_law_10 8 rfl) 4 rfl ?_
  refine k_iconst (v := (3 : Int32)) C (dk dL_law_10 9 rfl) (by decide) ?_
  refine k_iadd C (dk dL_law_10 10 rfl) ?_
  refine hsl.1 _ _ _ _ (i + 3) _ (nI_add i 3) (by omega) (dk dL_law_10 11 rfl) ?_
  refine k_cv (T := TX10) (N := 9) (ci := 5) (ob := 0) (As := [.int (xs (i + 1)), .int (xs (i + 2)), .int (xs (i + 3))]) (st := []) C (qX10_way l g hg h1) (iW21 _ (List.mem_of_getElem? (i := 18) rfl)) (iW21 _ (List.mem_of_getElem? (i := 19) rfl)) (iW21 _ (List.mem_of_getElem? (i := 20) rfl)) (iW0 _ (List.mem_of_getElem? (i := 2) rfl)) (iW21 _ (List.mem_of_getElem? (i := 21) rfl)) rfl rfl hdX10_way (by decide) rfl (by decide) rfl rfl rfl (Nat.le_of_ble_eq_true rfl) (dk dL_law_10 12 rfl) ?_
  refine k_aload_n C (dk dL_law_10 13 rfl) rfl 2 rfl ?_
  refine k_aload_n C (dk dL_law_10 14 rfl) rfl 0 rfl ?_
  refine k_iload C (dk dL_law_10 15 rfl) 4 rfl ?_
  refine k_iconst (v := (1 : Int32)) C (dk dL_law_10 16 rfl) (by decide) ?_
  refine k_iadd C (dk dL_law_10 17 rfl) ?_
  refine hsl.1 _ _ _ _ (i + 1) _ (nI_add i 1) (by omega) (dk dL_law_10 18 rfl) ?_
  refine k_aload_n C (dk dL_law_10 19 rfl) rfl 0 rfl ?_
  refine k_iload C (dk dL_law_10 20 rfl) 4 rfl ?_
  refine k_iconst (v := (2 : Int32)) C (dk dL_law_10 21 rfl) (by decide) ?_
  refine k_iadd C (dk dL_law_10 22 rfl) ?_
  refine hsl.1 _ _ _ _ (i + 2) _ (nI_add i 2) (by omega) (dk dL_law_10 23 rfl) ?_
  refine k_aload_n C (dk dL_law_10 24 rfl) rfl 0 rfl ?_
  refine k_iload C (dk dL_law_10 25 rfl) 4 rfl ?_
  refine k_iconst (v := (3 : Int32)) C (dk dL_law_10 26 rfl) (by decide) ?_
  refine k_iadd C (dk dL_law_10 27 rfl) ?_
  refine hsl.1 _ _ _ _ (i + 3) _ (nI_add i 3) (by omega) (dk dL_law_10 28 rfl) ?_
  refine k_cv (T := TX11) (N := 39) (ci := 6) (ob := 45) (As := [.int (xs (i + 1)), .int (xs (i + 2)), .int (xs (i + 3))]) (st := [.int v]) C (qX11_way l g hg h2) (iW22 _ (List.mem_of_getElem? (i := 4) rfl)) (iW22 _ (List.mem_of_getElem? (i := 5) rfl)) (iW22 _ (List.mem_of_getElem? (i := 6) rfl)) (iW0 _ (List.mem_of_getElem? (i := 5) rfl)) (iW22 _ (List.mem_of_getElem? (i := 7) rfl)) rfl rfl hdX11_way (by decide) rfl (by decide) rfl rfl rfl (Nat.le_of_ble_eq_true rfl) (dk dL_law_10 29 rfl) ?_
  refine k_icmp_eq (tgt := 1546) (a := some (0 : Nat)) (b := none) (r := 0) C (dk dL_law_10 30 rfl) (by decide) (if_pos rfl) (fun _ => ?_) (fun h => nomatch h)
  exact k
set_option maxRecDepth 100000 in
set_option maxHeartbeats 4000000 in
theorem law_c14 {g : G} {l : Launch} {b L i : Nat} {xs : Nat → Int32} {WK : Nat → List (Nat × Value) → List Value → St → Prop} (hg : gOK g) (C : kY g l room_1 RL cL_law 8 WK) (hsl : SL b L xs WK) (hi : i + 6 ≤ L) {σ σ1 σ2 : St} {v : Int32} (h1 : mX10_hinders (xs (i + 1)) (xs (i + 2)) σ = some (v, σ1)) (h2 : mX11_hinders (xs (i + 1)) (xs (i + 2)) σ1 = some (v, σ2)) (k : WK 1546 [(0, .ref b), (1, .ref (g.2.2 0)), (2, .ref (g.2.2 45)), (3, .ref (g.2.2 66)), (4, .int (nI i))] [] σ2) : WK 670 [(0, .ref b), (1, .ref (g.2.2 0)), (2, .ref (g.2.2 45)), (3, .ref (g.2.2 66)), (4, .int (nI i))] [] σ := by
  refine k_aload_n C (dk dL_law_11 1 rfl) rfl 1 rfl ?_
  refine k_aload_n C (dk dL_law_11 2 rfl) rfl 0 rfl ?_
  refine k_iload C (dk dL_law_11 3 rfl) 4 rfl ?_
  refine k_iconst (v := (1 : Int32)) C (dk dL_law_11 4 rfl) (by decide) ?_
  refine k_iadd C (dk dL_law_11 5 rfl) ?_
  refine hsl.1 _ _ _ _ (i + 1) _ (nI_add i 1) (by omega) (dk dL_law_11 6 rfl) ?_
  refine k_aload_n C (dk dL_law_11 7 rfl) rfl 0 rfl ?_
  refine k_iload C (dk dL_law_11 8 rfl) 4 rfl ?_
  refine k_iconst (v := (2 : Int32)) C (dk dL_law_11 9 rfl) (by decide) ?_
  refine k_iadd C (dk dL_law_11 10 rfl) ?_
  refine hsl.1 _ _ _ _ (i + 2) _ (nI_add i 2) (by omega) (dk dL_law_11 11 rfl) ?_
  refine k_cv (T := TX10) (N := 9) (ci := 5) (ob := 0) (As := [.int (xs (i + 1)), .int (xs (i + 2))]) (st := []) C (qX10_hinders l g hg h1) (iW22 _ (List.mem_of_getElem? (i := 8) rfl)) (iW22 _ (List.mem_of_getElem? (i := 9) rfl)) (iW22 _ (List.mem_of_getElem? (i := 10) rfl)) (iW0 _ (List.mem_of_getElem? (i := 2) rfl)) (iW22 _ (List.mem_of_getElem? (i := 11) rfl)) rfl rfl hdX10_hinders (by decide) rfl (by decide) rfl rfl rfl (Nat.le_of_ble_eq_true rfl) (dk dL_law_11 12 rfl) ?_
  refine k_aload_n C (dk dL_law_11 13 rfl) rfl 2 rfl ?_
  refine k_aload_n C (dk dL_law_11 14 rfl) rfl 0 rfl ?_
  refine k_iload C (dk dL_law_11 15 rfl) 4 rfl ?_
  refine k_iconst (v := (1 : Int32)) C (dk dL_law_11 16 rfl) (by decide) ?_
  refine k_iadd C (dk dL_law_11 17 rfl) ?_
  refine hsl.1 _ _ _ _ (i + 1) _ (nI_add i 1) (by omega) (dk dL_law_11 18 rfl) ?_
  refine k_aload_n C (dk dL_law_11 19 rfl) rfl 0 rfl ?_
  refine k_iload C (dk dL_law_11 20 rfl) 4 rfl ?_
  refine k_iconst (v := (2 : Int32)) C (dk dL_law_11 21 rfl) (by decide) ?_
  refine k_iadd C (dk dL_law_11 22 rfl) ?_
  refine hsl.1 _ _ _ _ (i + 2) _ (nI_add i 2) (by omega) (dk dL_law_11 23 rfl) ?_
  refine k_cv (T := TX11) (N := 39) (ci := 6) (ob := 45) (As := [.int (xs (i + 1)), .int (xs (i + 2))]) (st := [.int v]) C (qX11_hinders l g hg h2) (iW22 _ (List.mem_of_getElem? (i := 14) rfl)) (iW22 _ (List.mem_of_getElem? (i := 15) rfl)) (iW22 _ (List.mem_of_getElem? (i := 16) rfl)) (iW0 _ (List.mem_of_getElem? (i := 5) rfl)) (iW22 _ (List.mem_of_getElem? (i := 17) rfl)) rfl rfl hdX11_hinders (by decide) rfl (by decide) rfl rfl rfl (Nat.le_of_ble_eq_true rfl) (dk dL_law_11 24 rfl) ?_
  refine k_icmp_eq (tgt := 1546) (a := some (0 : Nat)) (b := none) (r := 0) C (dk dL_law_11 25 rfl) (by decide) (if_pos rfl) (fun _ => ?_) (fun h => nomatch h)
  exact k
set_option maxRecDepth 100000 in
set_option maxHeartbeats 4000000 in
theorem law_c15 {g : G} {l : Launch} {b L i : Nat} {xs : Nat → Int32} {WK : Nat → List (Nat × Value) → List Value → St → Prop} (hg : gOK g) (C : kY g l room_1 RL cL_law 8 WK) (hsl : SL b L xs WK) (hi : i + 6 ≤ L) {σ σ1 σ2 : St} {v : Int32} (h1 : mX10_needs (xs (i + 1)) (xs (i + 2)) σ = some (v, σ1)) (h2 : mX11_needs (xs (i + 1)) (xs (i + 2)) σ1 = some (v, σ2)) (k : WK 1546 [(0, .ref b), (1, .ref (g.2.2 0)), (2, .ref (g.2.2 45)), (3, .ref (g.2.2 66)), (4, .int (nI i))] [] σ2) : WK 707 [(0, .ref b), (1, .ref (g.2.2 0)), (2, .ref (g.2.2 45)), (3, .ref (g.2.2 66)), (4, .int (nI i))] [] σ := by
  refine k_aload_n C (dk dL_law_11 28 rfl) rfl 1 rfl ?_
  refine k_aload_n C (dk dL_law_11 29 rfl) rfl 0 rfl ?_
  refine k_iload C (dk dL_law_11 30 rfl) 4 rfl ?_
  refine k_iconst (v := (1 : Int32)) C (dk dL_law_11 31 rfl) (by decide) ?_
  refine k_iadd C (dk dL_law_12 0 rfl) ?_
  refine hsl.1 _ _ _ _ (i + 1) _ (nI_add i 1) (by omega) (dk dL_law_12 1 rfl) ?_
  refine k_aload_n C (dk dL_law_12 2 rfl) rfl 0 rfl ?_
  refine k_iload C (dk dL_law_12 3 rfl) 4 rfl ?_
  refine k_iconst (v := (2 : Int32)) C (dk dL_law_12 4 rfl) (by decide) ?_
  refine k_iadd C (dk dL_law_12 5 rfl) ?_
  refine hsl.1 _ _ _ _ (i + 2) _ (nI_add i 2) (by omega) (dk dL_law_12 6 rfl) ?_
  refine k_cv (T := TX10) (N := 9) (ci := 5) (ob := 0) (As := [.int (xs (i + 1)), .int (xs (i + 2))]) (st := []) C (qX10_needs l g hg h1) (iW22 _ (List.mem_of_getElem? (i := 18) rfl)) (iW22 _ (List.mem_of_getElem? (i := 19) rfl)) (iW22 _ (List.mem_of_getElem? (i := 20) rfl)) (iW0 _ (List.mem_of_getElem? (i := 2) rfl)) (iW22 _ (List.mem_of_getElem? (i := 21) rfl)) rfl rfl hdX10_needs (by decide) rfl (by decide) rfl rfl rfl (Nat.le_of_ble_eq_true rfl) (dk dL_law_12 7 rfl) ?_
  refine k_aload_n C (dk dL_law_12 8 rfl) rfl 2 rfl ?_
  refine k_aload_n C (dk dL_law_12 9 rfl) rfl 0 rfl ?_
  refine k_iload C (dk dL_law_12 10 rfl) 4 rfl ?_
  refine k_iconst (v := (1 : Int32)) C (dk dL_law_12 11 rfl) (by decide) ?_
  refine k_iadd C (dk dL_law_12 12 rfl) ?_
  refine hsl.1 _ _ _ _ (i + 1) _ (nI_add i 1) (by omega) (dk dL_law_12 13 rfl) ?_
  refine k_aload_n C (dk dL_law_12 14 rfl) rfl 0 rfl ?_
  refine k_iload C (dk dL_law_12 15 rfl) 4 rfl ?_
  refine k_iconst (v := (2 : Int32)) C (dk dL_law_12 16 rfl) (by decide) ?_
  refine k_iadd C (dk dL_law_12 17 rfl) ?_
  refine hsl.1 _ _ _ _ (i + 2) _ (nI_add i 2) (by omega) (dk dL_law_12 18 rfl) ?_
  refine k_cv (T := TX11) (N := 39) (ci := 6) (ob := 45) (As := [.int (xs (i + 1)), .int (xs (i + 2))]) (st := [.int v]) C (qX11_needs l g hg h2) (iW22 _ (List.mem_of_getElem? (i := 23) rfl)) (iW22 _ (List.mem_of_getElem? (i := 24) rfl)) (iW22 _ (List.mem_of_getElem? (i := 25) rfl)) (iW0 _ (List.mem_of_getElem? (i := 5) rfl)) (iW22 _ (List.mem_of_getElem? (i := 26) rfl)) rfl rfl hdX11_needs (by decide) rfl (by decide) rfl rfl rfl (Nat.le_of_ble_eq_true rfl) (dk dL_law_12 19 rfl) ?_
  refine k_icmp_eq (tgt := 1546) (a := some (0 : Nat)) (b := none) (r := 0) C (dk dL_law_12 20 rfl) (by decide) (if_pos rfl) (fun _ => ?_) (fun h => nomatch h)
  exact k
set_option maxRecDepth 100000 in
set_option maxHeartbeats 4000000 in
theorem law_c16 {g : G} {l : Launch} {b L i : Nat} {xs : Nat → Int32} {WK : Nat → List (Nat × Value) → List Value → St → Prop} (hg : gOK g) (C : kY g l room_1 RL cL_law 8 WK) (hsl : SL b L xs WK) (hi : i + 6 ≤ L) {σ σ1 σ2 : St} {v : Int32} (h1 : mX10_within (xs (i + 1)) σ = some (v, σ1)) (h2 : mX11_within (xs (i + 1)) σ1 = some (v, σ2)) (k : WK 1546 [(0, .ref b), (1, .ref (g.2.2 0)), (2, .ref (g.2.2 45)), (3, .ref (g.2.2 66)), (4, .int (nI i))] [] σ2) : WK 744 [(0, .ref b), (1, .ref (g.2.2 0)), (2, .ref (g.2.2 45)), (3, .ref (g.2.2 66)), (4, .int (nI i))] [] σ := by
  refine k_aload_n C (dk dL_law_12 23 rfl) rfl 1 rfl ?_
  refine k_aload_n C (dk dL_law_12 24 rfl) rfl 0 rfl ?_
  refine k_iload C (dk dL_law_12 25 rfl) 4 rfl ?_
  refine k_iconst (v := (1 : Int32)) C (dk dL_law_12 26 rfl) (by decide) ?_
  refine k_iadd C (dk dL_law_12 27 rfl) ?_
  refine hsl.1 _ _ _ _ (i + 1) _ (nI_add i 1) (by omega) (dk dL_law_12 28 rfl) ?_
  refine k_cv (T := TX10) (N := 9) (ci := 5) (ob := 0) (As := [.int (xs (i + 1))]) (st := []) C (qX10_within l g hg h1) (iW22 _ (List.mem_of_getElem? (i := 27) rfl)) (iW22 _ (List.mem_of_getElem? (i := 28) rfl)) (iW22 _ (List.mem_of_getElem? (i := 29) rfl)) (iW0 _ (List.mem_of_getElem? (i := 2) rfl)) (iW23 _ (List.mem_of_getElem? (i := 0) rfl)) rfl rfl hdX10_within (by decide) rfl (by decide) rfl rfl rfl (Nat.le_of_ble_eq_true rfl) (dk dL_law_12 29 rfl) ?_
  refine k_aload_n C (dk dL_law_12 30 rfl) rfl 2 rfl ?_
  refine k_aload_n C (dk dL_law_12 31 rfl) rfl 0 rfl ?_
  refine k_iload C (dk dL_law_13 0 rfl) 4 rfl ?_
  refine k_iconst (v := (1 : Int32)) C (dk dL_law_13 1 rfl) (by decide) ?_
  refine k_iadd C (dk dL_law_13 2 rfl) ?_
  refine hsl.1 _ _ _ _ (i + 1) _ (nI_add i 1) (by omega) (dk dL_law_13 3 rfl) ?_
  refine k_cv (T := TX11) (N := 39) (ci := 6) (ob := 45) (As := [.int (xs (i + 1))]) (st := [.int v]) C (qX11_within l g hg h2) (iW23 _ (List.mem_of_getElem? (i := 5) rfl)) (iW23 _ (List.mem_of_getElem? (i := 6) rfl)) (iW23 _ (List.mem_of_getElem? (i := 7) rfl)) (iW0 _ (List.mem_of_getElem? (i := 5) rfl)) (iW23 _ (List.mem_of_getElem? (i := 8) rfl)) rfl rfl hdX11_within (by decide) rfl (by decide) rfl rfl rfl (Nat.le_of_ble_eq_true rfl) (dk dL_law_13 4 rfl) ?_
  refine k_icmp_eq (tgt := 1546) (a := some (0 : Nat)) (b := none) (r := 0) C (dk dL_law_13 5 rfl) (by decide) (if_pos rfl) (fun _ => ?_) (fun h => nomatch h)
  exact k
set_option maxRecDepth 100000 in
set_option maxHeartbeats 4000000 in
theorem law_c17 {g : G} {l : Launch} {b L i : Nat} {xs : Nat → Int32} {WK : Nat → List (Nat × Value) → List Value → St → Prop} (hg : gOK g) (C : kY g l room_1 RL cL_law 8 WK) (hsl : SL b L xs WK) (hi : i + 6 ≤ L) {σ σ1 σ2 : St} {v : Int64} (h1 : mX10_ways (xs (i + 1)) σ = some (v, σ1)) (h2 : mX11_ways (xs (i + 1)) σ1 = some (v, σ2)) (k : WK 1546 [(0, .ref b), (1, .ref (g.2.2 0)), (2, .ref (g.2.2 45)), (3, .ref (g.2.2 66)), (4, .int (nI i))] [] σ2) : WK 769 [(0, .ref b), (1, .ref (g.2.2 0)), (2, .ref (g.2.2 45)), (3, .ref (g.2.2 66)), (4, .int (nI i))] [] σ := by
  refine k_aload_n C (dk dL_law_13 8 rfl) rfl 1 rfl ?_
  refine k_aload_n C (dk dL_law_13 9 rfl) rfl 0 rfl ?_
  refine k_iload C (dk dL_law_13 10 rfl) 4 rfl ?_
  refine k_iconst (v := (1 : Int32)) C (dk dL_law_13 11 rfl) (by decide) ?_
  refine k_iadd C (dk dL_law_13 12 rfl) ?_
  refine hsl.1 _ _ _ _ (i + 1) _ (nI_add i 1) (by omega) (dk dL_law_13 13 rfl) ?_
  refine k_cv (T := TX10) (N := 9) (ci := 5) (ob := 0) (As := [.int (xs (i + 1))]) (st := []) C (qX10_ways l g hg h1) (iW23 _ (List.mem_of_getElem? (i := 10) rfl)) (iW23 _ (List.mem_of_getElem? (i := 11) rfl)) (iW23 _ (List.mem_of_getElem? (i := 12) rfl)) (iW0 _ (List.mem_of_getElem? (i := 2) rfl)) (iW23 _ (List.mem_of_getElem? (i := 13) rfl)) rfl rfl hdX10_ways (by decide) rfl (by decide) rfl rfl rfl (Nat.le_of_ble_eq_true rfl) (dk dL_law_13 14 rfl) ?_
  refine k_aload_n C (dk dL_law_13 15 rfl) rfl 2 rfl ?_
  refine k_aload_n C (dk dL_law_13 16 rfl) rfl 0 rfl ?_
  refine k_iload C (dk dL_law_13 17 rfl) 4 rfl ?_
  refine k_iconst (v := (1 : Int32)) C (dk dL_law_13 18 rfl) (by decide) ?_
  refine k_iadd C (dk dL_law_13 19 rfl) ?_
  refine hsl.1 _ _ _ _ (i + 1) _ (nI_add i 1) (by omega) (dk dL_law_13 20 rfl) ?_
  refine k_cv (T := TX11) (N := 39) (ci := 6) (ob := 45) (As := [.int (xs (i + 1))]) (st := [.long v]) C (qX11_ways l g hg h2) (iW24 _ (List.mem_of_getElem? (i := 8) rfl)) (iW24 _ (List.mem_of_getElem? (i := 9) rfl)) (iW24 _ (List.mem_of_getElem? (i := 10) rfl)) (iW0 _ (List.mem_of_getElem? (i := 5) rfl)) (iW24 _ (List.mem_of_getElem? (i := 11) rfl)) rfl rfl hdX11_ways (by decide) rfl (by decide) rfl rfl rfl (Nat.le_of_ble_eq_true rfl) (dk dL_law_13 21 rfl) ?_
  refine k_lcmp C (dk dL_law_13 22 rfl) ?_
  refine k_if_eq (tgt := 1546) (a := some (0 : Nat)) (b := none) (r := 0) C (dk dL_law_13 23 rfl) (by decide) (if_pos (lg_same v)) (fun _ => ?_) (fun h => nomatch h)
  exact k
set_option maxRecDepth 100000 in
set_option maxHeartbeats 4000000 in
theorem law_c18 {g : G} {l : Launch} {b L i : Nat} {xs : Nat → Int32} {WK : Nat → List (Nat × Value) → List Value → St → Prop} (hg : gOK g) (C : kY g l room_1 RL cL_law 8 WK) (hsl : SL b L xs WK) (hi : i + 6 ≤ L) {σ σ1 σ2 : St} {v : Int64} (h1 : mX10_rounds (xs (i + 1)) σ = some (v, σ1)) (h2 : mX11_rounds (xs (i + 1)) σ1 = some (v, σ2)) (k : WK 1546 [(0, .ref b), (1, .ref (g.2.2 0)), (2, .ref (g.2.2 45)), (3, .ref (g.2.2 66)), (4, .int (nI i))] [] σ2) : WK 795 [(0, .ref b), (1, .ref (g.2.2 0)), (2, .ref (g.2.2 45)), (3, .ref (g.2.2 66)), (4, .int (nI i))] [] σ := by
  refine k_aload_n C (dk dL_law_13 26 rfl) rfl 1 rfl ?_
  refine k_aload_n C (dk dL_law_13 27 rfl) rfl 0 rfl ?_
  refine k_iload C (dk dL_law_13 28 rfl) 4 rfl ?_
  refine k_iconst (v := (1 : Int32)) C (dk dL_law_13 29 rfl) (by decide) ?_
  refine k_iadd C (dk dL_law_13 30 rfl) ?_
  refine hsl.1 _ _ _ _ (i + 1) _ (nI_add i 1) (by omega) (dk dL_law_13 31 rfl) ?_
  refine k_cv (T := TX10) (N := 9) (ci := 5) (ob := 0) (As := [.int (xs (i + 1))]) (st := []) C (qX10_rounds l g hg h1) (iW24 _ (List.mem_of_getElem? (i := 22) rfl)) (iW24 _ (List.mem_of_getElem? (i := 23) rfl)) (iW24 _ (List.mem_of_getElem? (i := 24) rfl)) (iW0 _ (List.mem_of_getElem? (i := 2) rfl)) (iW24 _ (List.mem_of_getElem? (i := 25) rfl)) rfl rfl hdX10_rounds (by decide) rfl (by decide) rfl rfl rfl (Nat.le_of_ble_eq_true rfl) (dk dL_law_14 0 rfl) ?_
  refine k_aload_n C (dk dL_law_14 1 rfl) rfl 2 rfl ?_
  refine k_aload_n C (dk dL_law_14 2 rfl) rfl 0 rfl ?_
  refine k_iload C (dk dL_law_14 3 rfl) 4 rfl ?_
  refine k_iconst (v := (1 : Int32)) C (dk dL_law_14 4 rfl) (by decide) ?_
  refine k_iadd C (dk dL_law_14 5 rfl) ?_
  refine hsl.1 _ _ _ _ (i + 1) _ (nI_add i 1) (by omega) (dk dL_law_14 6 rfl) ?_
  refine k_cv (T := TX11) (N := 39) (ci := 6) (ob := 45) (As := [.int (xs (i + 1))]) (st := [.long v]) C (qX11_rounds l g hg h2) (iW25 _ (List.mem_of_getElem? (i := 0) rfl)) (iW25 _ (List.mem_of_getElem? (i := 1) rfl)) (iW25 _ (List.mem_of_getElem? (i := 2) rfl)) (iW0 _ (List.mem_of_getElem? (i := 5) rfl)) (iW25 _ (List.mem_of_getElem? (i := 3) rfl)) rfl rfl hdX11_rounds (by decide) rfl (by decide) rfl rfl rfl (Nat.le_of_ble_eq_true rfl) (dk dL_law_14 7 rfl) ?_
  refine k_lcmp C (dk dL_law_14 8 rfl) ?_
  refine k_if_eq (tgt := 1546) (a := some (0 : Nat)) (b := none) (r := 0) C (dk dL_law_14 9 rfl) (by decide) (if_pos (lg_same v)) (fun _ => ?_) (fun h => nomatch h)
  exact k
set_option maxRecDepth 100000 in
set_option maxHeartbeats 4000000 in
theorem law_c19 {g : G} {l : Launch} {b L i : Nat} {xs : Nat → Int32} {WK : Nat → List (Nat × Value) → List Value → St → Prop} (hg : gOK g) (C : kY g l room_1 RL cL_law 8 WK) (hsl : SL b L xs WK) (hi : i + 6 ≤ L) {σ σ1 σ2 : St} {v : Int32} (h1 : mX10_late (xs (i + 1)) (xs (i + 2)) σ = some (v, σ1)) (h2 : mX11_late (xs (i + 1)) (xs (i + 2)) σ1 = some (v, σ2)) (k : WK 1546 [(0, .ref b), (1, .ref (g.2.2 0)), (2, .ref (g.2.2 45)), (3, .ref (g.2.2 66)), (4, .int (nI i))] [] σ2) : WK 821 [(0, .ref b), (1, .ref (g.2.2 0)), (2, .ref (g.2.2 45)), (3, .ref (g.2.2 66)), (4, .int (nI i))] [] σ := by
  refine k_aload_n C (dk dL_law_14 12 rfl) rfl 1 rfl ?_
  refine k_aload_n C (dk dL_law_14 13 rfl) rfl 0 rfl ?_
  refine k_iload C (dk dL_law_14 14 rfl) 4 rfl ?_
  refine k_iconst (v := (1 : Int32)) C (dk dL_law_14 15 rfl) (by decide) ?_
  refine k_iadd C (dk dL_law_14 16 rfl) ?_
  refine hsl.1 _ _ _ _ (i + 1) _ (nI_add i 1) (by omega) (dk dL_law_14 17 rfl) ?_
  refine k_aload_n C (dk dL_law_14 18 rfl) rfl 0 rfl ?_
  refine k_iload C (dk dL_law_14 19 rfl) 4 rfl ?_
  refine k_iconst (v := (2 : Int32)) C (dk dL_law_14 20 rfl) (by decide) ?_
  refine k_iadd C (dk dL_law_14 21 rfl) ?_
  refine hsl.1 _ _ _ _ (i + 2) _ (nI_add i 2) (by omega) (dk dL_law_14 22 rfl) ?_
  refine k_cv (T := TX10) (N := 9) (ci := 5) (ob := 0) (As := [.int (xs (i + 1)), .int (xs (i + 2))]) (st := []) C (qX10_late l g hg h1) (iW25 _ (List.mem_of_getElem? (i := 4) rfl)) (iW25 _ (List.mem_of_getElem? (i := 5) rfl)) (iW25 _ (List.mem_of_getElem? (i := 6) rfl)) (iW0 _ (List.mem_of_getElem? (i := 2) rfl)) (iW25 _ (List.mem_of_getElem? (i := 7) rfl)) rfl rfl hdX10_late (by decide) rfl (by decide) rfl rfl rfl (Nat.le_of_ble_eq_true rfl) (dk dL_law_14 23 rfl) ?_
  refine k_aload_n C (dk dL_law_14 24 rfl) rfl 2 rfl ?_
  refine k_aload_n C (dk dL_law_14 25 rfl) rfl 0 rfl ?_
  refine k_iload C (dk dL_law_14 26 rfl) 4 rfl ?_
  refine k_iconst (v := (1 : Int32)) C (dk dL_law_14 27 rfl) (by decide) ?_
  refine k_iadd C (dk dL_law_14 28 rfl) ?_
  refine hsl.1 _ _ _ _ (i + 1) _ (nI_add i 1) (by omega) (dk dL_law_14 29 rfl) ?_
  refine k_aload_n C (dk dL_law_14 30 rfl) rfl 0 rfl ?_
  refine k_iload C (dk dL_law_14 31 rfl) 4 rfl ?_
  refine k_iconst (v := (2 : Int32)) C (dk dL_law_15 0 rfl) (by decide) ?_
  refine k_iadd C (dk dL_law_15 1 rfl) ?_
  refine hsl.1 _ _ _ _ (i + 2) _ (nI_add i 2) (by omega) (dk dL_law_15 2 rfl) ?_
  refine k_cv (T := TX11) (N := 39) (ci := 6) (ob := 45) (As := [.int (xs (i + 1)), .int (xs (i + 2))]) (st := [.int v]) C (qX11_late l g hg h2) (iW25 _ (List.mem_of_getElem? (i := 15) rfl)) (iW25 _ (List.mem_of_getElem? (i := 16) rfl)) (iW25 _ (List.mem_of_getElem? (i := 17) rfl)) (iW0 _ (List.mem_of_getElem? (i := 5) rfl)) (iW25 _ (List.mem_of_getElem? (i := 18) rfl)) rfl rfl hdX11_late (by decide) rfl (by decide) rfl rfl rfl (Nat.le_of_ble_eq_true rfl) (dk dL_law_15 3 rfl) ?_
  refine k_icmp_eq (tgt := 1546) (a := some (0 : Nat)) (b := none) (r := 0) C (dk dL_law_15 4 rfl) (by decide) (if_pos rfl) (fun _ => ?_) (fun h => nomatch h)
  exact k
set_option maxRecDepth 100000 in
set_option maxHeartbeats 4000000 in
theorem law_c20 {g : G} {l : Launch} {b L i : Nat} {xs : Nat → Int32} {WK : Nat → List (Nat × Value) → List Value → St → Prop} (hg : gOK g) (C : kY g l room_1 RL cL_law 8 WK) (hsl : SL b L xs WK) (hi : i + 6 ≤ L) {σ σ1 σ2 : St} {v : Int64} (h1 : mX10_hisWay (xs (i + 1)) (xs (i + 2)) σ = some (v, σ1)) (h2 : mX11_hisWay (xs (i + 1)) (xs (i + 2)) σ1 = some (v, σ2)) (k : WK 1546 [(0, .ref b), (1, .ref (g.2.2 0)), (2, .ref (g.2.2 45)), (3, .ref (g.2.2 66)), (4, .int (nI i))] [] σ2) : WK 858 [(0, .ref b), (1, .ref (g.2.2 0)), (2, .ref (g.2.2 45)), (3, .ref (g.2.2 66)), (4, .int (nI i))] [] σ := by
  refine k_aload_n C (dk dL_law_15 7 rfl) rfl 1 rfl ?_
  refine k_aload_n C (dk dL_law_15 8 rfl) rfl 0 rfl ?_
  refine k_iload C (dk dL_law_15 9 rfl) 4 rfl ?_
  refine k_iconst (v := (1 : Int32)) C (dk dL_law_15 10 rfl) (by decide) ?_
  refine k_iadd C (dk dL_law_15 11 rfl) ?_
  refine hsl.1 _ _ _ _ (i + 1) _ (nI_add i 1) (by omega) (dk dL_law_15 12 rfl) ?_
  refine k_aload_n C (dk dL_law_15 13 rfl) rfl 0 rfl ?_
  refine k_iload C (dk dL_law_15 14 rfl) 4 rfl ?_
  refine k_iconst (v := (2 : Int32)) C (dk dL_law_15 15 rfl) (by decide) ?_
  refine k_iadd C (dk dL_law_15 16 rfl) ?_
  refine hsl.1 _ _ _ _ (i + 2) _ (nI_add i 2) (by omega) (dk dL_law_15 17 rfl) ?_
  refine k_cv (T := TX10) (N := 9) (ci := 5) (ob := 0) (As := [.int (xs (i + 1)), .int (xs (i + 2))]) (st := []) C (qX10_hisWay l g hg h1) (iW25 _ (List.mem_of_getElem? (i := 20) rfl)) (iW25 _ (List.mem_of_getElem? (i := 21) rfl)) (iW25 _ (List.mem_of_getElem? (i := 22) rfl)) (iW0 _ (List.mem_of_getElem? (i := 2) rfl)) (iW25 _ (List.mem_of_getElem? (i := 23) rfl)) rfl rfl hdX10_hisWay (by decide) rfl (by decide) rfl rfl rfl (Nat.le_of_ble_eq_true rfl) (dk dL_law_15 18 rfl) ?_
  refine k_aload_n C (dk dL_law_15 19 rfl) rfl 2 rfl ?_
  refine k_aload_n C (dk dL_law_15 20 rfl) rfl 0 rfl ?_
  refine k_iload C (dk dL_law_15 21 rfl) 4 rfl ?_
  refine k_iconst (v := (1 : Int32)) C (dk dL_law_15 22 rfl) (by decide) ?_
  refine k_iadd C (dk dL_law_15 23 rfl) ?_
  refine hsl.1 _ _ _ _ (i + 1) _ (nI_add i 1) (by omega) (dk dL_law_15 24 rfl) ?_
  refine k_aload_n C (dk dL_law_15 25 rfl) rfl 0 rfl ?_
  refine k_iload C (dk dL_law_15 26 rfl) 4 rfl ?_
  refine k_iconst (v := (2 : Int32)) C (dk dL_law_15 27 rfl) (by decide) ?_
  refine k_iadd C (dk dL_law_15 28 rfl) ?_
  refine hsl.1 _ _ _ _ (i + 2) _ (nI_add i 2) (by omega) (dk dL_law_15 29 rfl) ?_
  refine k_cv (T := TX11) (N := 39) (ci := 6) (ob := 45) (As := [.int (xs (i + 1)), .int (xs (i + 2))]) (st := [.long v]) C (qX11_hisWay l g hg h2) (iW26 _ (List.mem_of_getElem? (i := 12) rfl)) (iW26 _ (List.mem_of_getElem? (i := 13) rfl)) (iW26 _ (List.mem_of_getElem? (i := 14) rfl)) (iW0 _ (List.mem_of_getElem? (i := 5) rfl)) (iW26 _ (List.mem_of_getElem? (i := 15) rfl)) rfl rfl hdX11_hisWay (by decide) rfl (by decide) rfl rfl rfl (Nat.le_of_ble_eq_true rfl) (dk dL_law_15 30 rfl) ?_
  refine k_lcmp C (dk dL_law_15 31 rfl) ?_
  refine k_if_eq (tgt := 1546) (a := some (0 : Nat)) (b := none) (r := 0) C (dk dL_law_16 0 rfl) (by decide) (if_pos (lg_same v)) (fun _ => ?_) (fun h => nomatch h)
  exact k
set_option maxRecDepth 100000 in
set_option maxHeartbeats 4000000 in
theorem law_c21 {g : G} {l : Launch} {b L i : Nat} {xs : Nat → Int32} {WK : Nat → List (Nat × Value) → List Value → St → Prop} (hg : gOK g) (C : kY g l room_1 RL cL_law 8 WK) (hsl : SL b L xs WK) (hi : i + 6 ≤ L) {σ σ1 σ2 : St} {v : Int32} (h1 : mX10_letter (xs (i + 1)) σ = some (v, σ1)) (h2 : mX11_letter (xs (i + 1)) σ1 = some (v, σ2)) (k : WK 1546 [(0, .ref b), (1, .ref (g.2.2 0)), (2, .ref (g.2.2 45)), (3, .ref (g.2.2 66)), (4, .int (nI i))] [] σ2) : WK 896 [(0, .ref b), (1, .ref (g.2.2 0)), (2, .ref (g.2.2 45)), (3, .ref (g.2.2 66)), (4, .int (nI i))] [] σ := by
  refine k_aload_n C (dk dL_law_16 3 rfl) rfl 1 rfl ?_
  refine k_aload_n C (dk dL_law_16 4 rfl) rfl 0 rfl ?_
  refine k_iload C (dk dL_law_16 5 rfl) 4 rfl ?_
  refine k_iconst (v := (1 : Int32)) C (dk dL_law_16 6 rfl) (by decide) ?_
  refine k_iadd C (dk dL_law_16 7 rfl) ?_
  refine hsl.1 _ _ _ _ (i + 1) _ (nI_add i 1) (by omega) (dk dL_law_16 8 rfl) ?_
  refine k_cv (T := TX10) (N := 9) (ci := 5) (ob := 0) (As := [.int (xs (i + 1))]) (st := []) C (qX10_letter l g hg h1) (iW26 _ (List.mem_of_getElem? (i := 28) rfl)) (iW26 _ (List.mem_of_getElem? (i := 29) rfl)) (iW27 _ (List.mem_of_getElem? (i := 0) rfl)) (iW0 _ (List.mem_of_getElem? (i := 2) rfl)) (iW27 _ (List.mem_of_getElem? (i := 1) rfl)) rfl rfl hdX10_letter (by decide) rfl (by decide) rfl rfl rfl (Nat.le_of_ble_eq_true rfl) (dk dL_law_16 9 rfl) ?_
  refine k_aload_n C (dk dL_law_16 10 rfl) rfl 2 rfl ?_
  refine k_aload_n C (dk dL_law_16 11 rfl) rfl 0 rfl ?_
  refine k_iload C (dk dL_law_16 12 rfl) 4 rfl ?_
  refine k_iconst (v := (1 : Int32)) C (dk dL_law_16 13 rfl) (by decide) ?_
  refine k_iadd C (dk dL_law_16 14 rfl) ?_
  refine hsl.1 _ _ _ _ (i + 1) _ (nI_add i 1) (by omega) (dk dL_law_16 15 rfl) ?_
  refine k_cv (T := TX11) (N := 39) (ci := 6) (ob := 45) (As := [.int (xs (i + 1))]) (st := [.int v]) C (qX11_letter l g hg h2) (iW27 _ (List.mem_of_getElem? (i := 24) rfl)) (iW27 _ (List.mem_of_getElem? (i := 25) rfl)) (iW27 _ (List.mem_of_getElem? (i := 26) rfl)) (iW0 _ (List.mem_of_getElem? (i := 5) rfl)) (iW27 _ (List.mem_of_getElem? (i := 27) rfl)) rfl rfl hdX11_letter (by decide) rfl (by decide) rfl rfl rfl (Nat.le_of_ble_eq_true rfl) (dk dL_law_16 16 rfl) ?_
  refine k_icmp_eq (tgt := 1546) (a := some (0 : Nat)) (b := none) (r := 0) C (dk dL_law_16 17 rfl) (by decide) (if_pos rfl) (fun _ => ?_) (fun h => nomatch h)
  exact k
set_option maxRecDepth 100000 in
set_option maxHeartbeats 4000000 in
theorem law_c22 {g : G} {l : Launch} {b L i : Nat} {xs : Nat → Int32} {WK : Nat → List (Nat × Value) → List Value → St → Prop} (hg : gOK g) (C : kY g l room_1 RL cL_law 8 WK) (hsl : SL b L xs WK) (hi : i + 6 ≤ L) {σ σ1 σ2 : St} {v : Int32} (h1 : mX10_third (xs (i + 1)) σ = some (v, σ1)) (h2 : mX11_third (xs (i + 1)) σ1 = some (v, σ2)) (k : WK 1546 [(0, .ref b), (1, .ref (g.2.2 0)), (2, .ref (g.2.2 45)), (3, .ref (g.2.2 66)), (4, .int (nI i))] [] σ2) : WK 921 [(0, .ref b), (1, .ref (g.2.2 0)), (2, .ref (g.2.2 45)), (3, .ref (g.2.2 66)), (4, .int (nI i))] [] σ := by
  refine k_aload_n C (dk dL_law_16 20 rfl) rfl 1 rfl ?_
  refine k_aload_n C (dk dL_law_16 21 rfl) rfl 0 rfl ?_
  refine k_iload C (dk dL_law_16 22 rfl) 4 rfl ?_
  refine k_iconst (v := (1 : Int32)) C (dk dL_law_16 23 rfl) (by decide) ?_
  refine k_iadd C (dk dL_law_16 24 rfl) ?_
  refine hsl.1 _ _ _ _ (i + 1) _ (nI_add i 1) (by omega) (dk dL_law_16 25 rfl) ?_
  refine k_cv (T := TX10) (N := 9) (ci := 5) (ob := 0) (As := [.int (xs (i + 1))]) (st := []) C (qX10_third l g hg h1) (iW27 _ (List.mem_of_getElem? (i := 28) rfl)) (iW27 _ (List.mem_of_getElem? (i := 29) rfl)) (iW28 _ (List.mem_of_getElem? (i := 0) rfl)) (iW0 _ (List.mem_of_getElem? (i := 2) rfl)) (iW28 _ (List.mem_of_getElem? (i := 1) rfl)) rfl rfl hdX10_third (by decide) rfl (by decide) rfl rfl rfl (Nat.le_of_ble_eq_true rfl) (dk dL_law_16 26 rfl) ?_
  refine k_aload_n C (dk dL_law_16 27 rfl) rfl 2 rfl ?_
  refine k_aload_n C (dk dL_law_16 28 rfl) rfl 0 rfl ?_
  refine k_iload C (dk dL_law_16 29 rfl) 4 rfl ?_
  refine k_iconst (v := (1 : Int32)) C (dk dL_law_16 30 rfl) (by decide) ?_
  refine k_iadd C (dk dL_law_16 31 rfl) ?_
  refine hsl.1 _ _ _ _ (i + 1) _ (nI_add i 1) (by omega) (dk dL_law_17 0 rfl) ?_
  refine k_cv (T := TX11) (N := 39) (ci := 6) (ob := 45) (As := [.int (xs (i + 1))]) (st := [.int v]) C (qX11_third l g hg h2) (iW28 _ (List.mem_of_getElem? (i := 5) rfl)) (iW28 _ (List.mem_of_getElem? (i := 6) rfl)) (iW28 _ (List.mem_of_getElem? (i := 7) rfl)) (iW0 _ (List.mem_of_getElem? (i := 5) rfl)) (iW28 _ (List.mem_of_getElem? (i := 8) rfl)) rfl rfl hdX11_third (by decide) rfl (by decide) rfl rfl rfl (Nat.le_of_ble_eq_true rfl) (dk dL_law_17 1 rfl) ?_
  refine k_icmp_eq (tgt := 1546) (a := some (0 : Nat)) (b := none) (r := 0) C (dk dL_law_17 2 rfl) (by decide) (if_pos rfl) (fun _ => ?_) (fun h => nomatch h)
  exact k
set_option maxRecDepth 100000 in
set_option maxHeartbeats 4000000 in
theorem law_c23 {g : G} {l : Launch} {b L i : Nat} {xs : Nat → Int32} {WK : Nat → List (Nat × Value) → List Value → St → Prop} (hg : gOK g) (C : kY g l room_1 RL cL_law 8 WK) (hsl : SL b L xs WK) (hi : i + 6 ≤ L) {σ σ1 σ2 : St} {v : Int32} (h1 : mX10_game (xs (i + 1)) σ = some (v, σ1)) (h2 : mX11_game (xs (i + 1)) σ1 = some (v, σ2)) (k : WK 1546 [(0, .ref b), (1, .ref (g.2.2 0)), (2, .ref (g.2.2 45)), (3, .ref (g.2.2 66)), (4, .int (nI i))] [] σ2) : WK 946 [(0, .ref b), (1, .ref (g.2.2 0)), (2, .ref (g.2.2 45)), (3, .ref (g.2.2 66)), (4, .int (nI i))] [] σ := by
  refine k_aload_n C (dk dL_law_17 5 rfl) rfl 1 rfl ?_
  refine k_aload_n C (dk dL_law_17 6 rfl) rfl 0 rfl ?_
  refine k_iload C (dk dL_law_17 7 rfl) 4 rfl ?_
  refine k_iconst (v := (1 : Int32)) C (dk dL_law_17 8 rfl) (by decide) ?_
  refine k_iadd C (dk dL_law_17 9 rfl) ?_
  refine hsl.1 _ _ _ _ (i + 1) _ (nI_add i 1) (by omega) (dk dL_law_17 10 rfl) ?_
  refine k_cv (T := TX10) (N := 9) (ci := 5) (ob := 0) (As := [.int (xs (i + 1))]) (st := []) C (qX10_game l g hg h1) (iW28 _ (List.mem_of_getElem? (i := 9) rfl)) (iW28 _ (List.mem_of_getElem? (i := 10) rfl)) (iW28 _ (List.mem_of_getElem? (i := 11) rfl)) (iW0 _ (List.mem_of_getElem? (i := 2) rfl)) (iW28 _ (List.mem_of_getElem? (i := 12) rfl)) rfl rfl hdX10_game (by decide) rfl (by decide) rfl rfl rfl (Nat.le_of_ble_eq_true rfl) (dk dL_law_17 11 rfl) ?_
  refine k_aload_n C (dk dL_law_17 12 rfl) rfl 2 rfl ?_
  refine k_aload_n C (dk dL_law_17 13 rfl) rfl 0 rfl ?_
  refine k_iload C (dk dL_law_17 14 rfl) 4 rfl ?_
  refine k_iconst (v := (1 : Int32)) C (dk dL_law_17 15 rfl) (by decide) ?_
  refine k_iadd C (dk dL_law_17 16 rfl) ?_
  refine hsl.1 _ _ _ _ (i + 1) _ (nI_add i 1) (by omega) (dk dL_law_17 17 rfl) ?_
  refine k_cv (T := TX11) (N := 39) (ci := 6) (ob := 45) (As := [.int (xs (i + 1))]) (st := [.int v]) C (qX11_game l g hg h2) (iW29 _ (List.mem_of_getElem? (i := 12) rfl)) (iW29 _ (List.mem_of_getElem? (i := 13) rfl)) (iW29 _ (List.mem_of_getElem? (i := 14) rfl)) (iW0 _ (List.mem_of_getElem? (i := 5) rfl)) (iW29 _ (List.mem_of_getElem? (i := 15) rfl)) rfl rfl hdX11_game (by decide) rfl (by decide) rfl rfl rfl (Nat.le_of_ble_eq_true rfl) (dk dL_law_17 18 rfl) ?_
  refine k_icmp_eq (tgt := 1546) (a := some (0 : Nat)) (b := none) (r := 0) C (dk dL_law_17 19 rfl) (by decide) (if_pos rfl) (fun _ => ?_) (fun h => nomatch h)
  exact k
set_option maxRecDepth 100000 in
set_option maxHeartbeats 4000000 in
theorem law_c24 {g : G} {l : Launch} {b L i : Nat} {xs : Nat → Int32} {WK : Nat → List (Nat × Value) → List Value → St → Prop} (hg : gOK g) (C : kY g l room_1 RL cL_law 8 WK) (hsl : SL b L xs WK) (hi : i + 6 ≤ L) {σ σ1 σ2 : St} {v : Int64} (h1 : mX10_snow (xs (i + 1)) (xs (i + 2)) (xs (i + 3)) σ = some (v, σ1)) (h2 : mX11_snow (xs (i + 1)) (xs (i + 2)) (xs (i + 3)) σ1 = some (v, σ2)) (k : WK 1546 [(0, .ref b), (1, .ref (g.2.2 0)), (2, .ref (g.2.2 45)), (3, .ref (g.2.2 66)), (4, .int (nI i))] [] σ2) : WK 971 [(0, .ref b), (1, .ref (g.2.2 0)), (2, .ref (g.2.2 45)), (3, .ref (g.2.2 66)), (4, .int (nI i))] [] σ := by
  refine k_aload_n C (dk dL_law_17 22 rfl) rfl 1 rfl ?_
  refine k_aload_n C (dk dL_law_17 23 rfl) rfl 0 rfl ?_
  refine k_iload C (dk dL_law_17 24 rfl) 4 rfl ?_
  refine k_iconst (v := (1 : Int32)) C (dk dL_law_17 25 rfl) (by decide) ?_
  refine k_iadd C (dk dL_law_17 26 rfl) ?_
  refine hsl.1 _ _ _ _ (i + 1) _ (nI_add i 1) (by omega) (dk dL_law_17 27 rfl) ?_
  refine k_aload_n C (dk dL_law_17 28 rfl) rfl 0 rfl ?_
  refine k_iload C (dk dL_law_17 29 rfl) 4 rfl ?_
  refine k_iconst (v := (2 : Int32)) C (dk dL_law_17 30 rfl) (by decide) ?_
  refine k_iadd C (dk dL_law_17 31 rfl) ?_
  refine hsl.1 _ _ _ _ (i + 2) _ (nI_add i 2) (by omega) (dk dL_law_18 0 rfl) ?_
  refine k_aload_n C (dk dL_law_18 1 rfl) rfl 0 rfl ?_
  refine k_iload C (dk dL_law_18 2 rfl) 4 rfl ?_
  refine k_iconst (v := (3 : Int32)) C (dk dL_law_18 3 rfl) (by decide) ?_
  refine k_iadd C (dk dL_law_18 4 rfl) ?_
  refine hsl.1 _ _ _ _ (i + 3) _ (nI_add i 3) (by omega) (dk dL_law_18 5 rfl) ?_
  refine k_cv (T := TX10) (N := 9) (ci := 5) (ob := 0) (As := [.int (xs (i + 1)), .int (xs (i + 2)), .int (xs (i + 3))]) (st := []) C (qX10_snow l g hg h1) (iW29 _ (List.mem_of_getElem? (i := 24) rfl)) (iW29 _ (List.mem_of_getElem? (i := 25) rfl)) (iW29 _ (List.mem_of_getElem? (i := 26) rfl)) (iW0 _ (List.mem_of_getElem? (i := 2) rfl)) (iW29 _ (List.mem_of_getElem? (i := 27) rfl)) rfl rfl hdX10_snow (by decide) rfl (by decide) rfl rfl rfl (Nat.le_of_ble_eq_true rfl) (dk dL_law_18 6 rfl) ?_
  refine k_aload_n C (dk dL_law_18 7 rfl) rfl 2 rfl ?_
  refine k_aload_n C (dk dL_law_18 8 rfl) rfl 0 rfl ?_
  refine k_iload C (dk dL_law_18 9 rfl) 4 rfl ?_
  refine k_iconst (v := (1 : Int32)) C (dk dL_law_18 10 rfl) (by decide) ?_
  refine k_iadd C (dk dL_law_18 11 rfl) ?_
  refine hsl.1 _ _ _ _ (i + 1) _ (nI_add i 1) (by omega) (dk dL_law_18 12 rfl) ?_
  refine k_aload_n C (dk dL_law_18 13 rfl) rfl 0 rfl ?_
  refine k_iload C (dk dL_law_18 14 rfl) 4 rfl ?_
  refine k_iconst (v := (2 : Int32)) C (dk dL_law_18 15 rfl) (by decide) ?_
  refine k_iadd C (dk dL_law_18 16 rfl) ?_
  refine hsl.1 _ _ _ _ (i + 2) _ (nI_add i 2) (by omega) (dk dL_law_18 17 rfl) ?_
  refine k_aload_n C (dk dL_law_18 18 rfl) rfl 0 rfl ?_
  refine k_iload C (dk dL_law_18 19 rfl) 4 rfl ?_
  refine k_iconst (v := (3 : Int32)) C (dk dL_law_18 20 rfl) (by decide) ?_
  refine k_iadd C (dk dL_law_18 21 rfl) ?_
  refine hsl.1 _ _ _ _ (i + 3) _ (nI_add i 3) (by omega) (dk dL_law_18 22 rfl) ?_
  refine k_cv (T := TX11) (N := 39) (ci := 6) (ob := 45) (As := [.int (xs (i + 1)), .int (xs (i + 2)), .int (xs (i + 3))]) (st := [.long v]) C (qX11_snow l g hg h2) (iW31 _ (List.mem_of_getElem? (i := 2) rfl)) (iW31 _ (List.mem_of_getElem? (i := 3) rfl)) (iW31 _ (List.mem_of_getElem? (i := 4) rfl)) (iW0 _ (List.mem_of_getElem? (i := 5) rfl)) (iW31 _ (List.mem_of_getElem? (i := 5) rfl)) rfl rfl hdX11_snow (by decide) rfl (by decide) rfl rfl rfl (Nat.le_of_ble_eq_true rfl) (dk dL_law_18 23 rfl) ?_
  refine k_lcmp C (dk dL_law_18 24 rfl) ?_
  refine k_if_eq (tgt := 1546) (a := some (0 : Nat)) (b := none) (r := 0) C (dk dL_law_18 25 rfl) (by decide) (if_pos (lg_same v)) (fun _ => ?_) (fun h => nomatch h)
  exact k
set_option maxRecDepth 100000 in
set_option maxHeartbeats 4000000 in
theorem law_c25 {g : G} {l : Launch} {b L i : Nat} {xs : Nat → Int32} {WK : Nat → List (Nat × Value) → List Value → St → Prop} (hg : gOK g) (C : kY g l room_1 RL cL_law 8 WK) (hsl : SL b L xs WK) (hi : i + 6 ≤ L) {σ σ1 σ2 : St} {v : Int64} (h1 : mX10_mean (xs (i + 1)) σ = some (v, σ1)) (h2 : mX11_mean (xs (i + 1)) σ1 = some (v, σ2)) (k : WK 1546 [(0, .ref b), (1, .ref (g.2.2 0)), (2, .ref (g.2.2 45)), (3, .ref (g.2.2 66)), (4, .int (nI i))] [] σ2) : WK 1021 [(0, .ref b), (1, .ref (g.2.2 0)), (2, .ref (g.2.2 45)), (3, .ref (g.2.2 66)), (4, .int (nI i))] [] σ := by
  refine k_aload_n C (dk dL_law_18 28 rfl) rfl 1 rfl ?_
  refine k_aload_n C (dk dL_law_18 29 rfl) rfl 0 rfl ?_
  refine k_iload C (dk dL_law_18 30 rfl) 4 rfl ?_
  refine k_iconst (v := (1 : Int32)) C (dk dL_law_18 31 rfl) (by decide) ?_
  refine k_iadd C (dk dL_law_19 0 rfl) ?_
  refine hsl.1 _ _ _ _ (i + 1) _ (nI_add i 1) (by omega) (dk dL_law_19 1 rfl) ?_
  refine k_cv (T := TX10) (N := 9) (ci := 5) (ob := 0) (As := [.int (xs (i + 1))]) (st := []) C (qX10_mean l g hg h1) (iW31 _ (List.mem_of_getElem? (i := 18) rfl)) (iW31 _ (List.mem_of_getElem? (i := 19) rfl)) (iW31 _ (List.mem_of_getElem? (i := 20) rfl)) (iW0 _ (List.mem_of_getElem? (i := 2) rfl)) (iW31 _ (List.mem_of_getElem? (i := 21) rfl)) rfl rfl hdX10_mean (by decide) rfl (by decide) rfl rfl rfl (Nat.le_of_ble_eq_true rfl) (dk dL_law_19 2 rfl) ?_
  refine k_aload_n C (dk dL_law_19 3 rfl) rfl 2 rfl ?_
  refine k_aload_n C (dk dL_law_19 4 rfl) rfl 0 rfl ?_
  refine k_iload C (dk dL_law_19 5 rfl) 4 rfl ?_
  refine k_iconst (v := (1 : Int32)) C (dk dL_law_19 6 rfl) (by decide) ?_
  refine k_iadd C (dk dL_law_19 7 rfl) ?_
  refine hsl.1 _ _ _ _ (i + 1) _ (nI_add i 1) (by omega) (dk dL_law_19 8 rfl) ?_
  refine k_cv (T := TX11) (N := 39) (ci := 6) (ob := 45) (As := [.int (xs (i + 1))]) (st := [.long v]) C (qX11_mean l g hg h2) (iW31 _ (List.mem_of_getElem? (i := 26) rfl)) (iW31 _ (List.mem_of_getElem? (i := 27) rfl)) (iW31 _ (List.mem_of_getElem? (i := 28) rfl)) (iW0 _ (List.mem_of_getElem? (i := 5) rfl)) (iW31 _ (List.mem_of_getElem? (i := 29) rfl)) rfl rfl hdX11_mean (by decide) rfl (by decide) rfl rfl rfl (Nat.le_of_ble_eq_true rfl) (dk dL_law_19 9 rfl) ?_
  refine k_lcmp C (dk dL_law_19 10 rfl) ?_
  refine k_if_eq (tgt := 1546) (a := some (0 : Nat)) (b := none) (r := 0) C (dk dL_law_19 11 rfl) (by decide) (if_pos (lg_same v)) (fun _ => ?_) (fun h => nomatch h)
  exact k
set_option maxRecDepth 100000 in
set_option maxHeartbeats 4000000 in
theorem law_c26 {g : G} {l : Launch} {b L i : Nat} {xs : Nat → Int32} {WK : Nat → List (Nat × Value) → List Value → St → Prop} (hg : gOK g) (C : kY g l room_1 RL cL_law 8 WK) (hsl : SL b L xs WK) (hi : i + 6 ≤ L) {σ σ1 σ2 : St} {v : Int32} (h1 : mX10_curve (xs (i + 1)) σ = some (v, σ1)) (h2 : mX11_curve (xs (i + 1)) σ1 = some (v, σ2)) (k : WK 1546 [(0, .ref b), (1, .ref (g.2.2 0)), (2, .ref (g.2.2 45)), (3, .ref (g.2.2 66)), (4, .int (nI i))] [] σ2) : WK 1047 [(0, .ref b), (1, .ref (g.2.2 0)), (2, .ref (g.2.2 45)), (3, .ref (g.2.2 66)), (4, .int (nI i))] [] σ := by
  refine k_aload_n C (dk dL_law_19 14 rfl) rfl 1 rfl ?_
  refine k_aload_n C (dk dL_law_19 15 rfl) rfl 0 rfl ?_
  refine k_iload C (dk dL_law_19 16 rfl) 4 rfl ?_
  refine k_iconst (v := (1 : Int32)) C (dk dL_law_19 17 rfl) (by decide) ?_
  refine k_iadd C (dk dL_law_19 18 rfl) ?_
  refine hsl.1 _ _ _ _ (i + 1) _ (nI_add i 1) (by omega) (dk dL_law_19 19 rfl) ?_
  refine k_cv (T := TX10) (N := 9) (ci := 5) (ob := 0) (As := [.int (xs (i + 1))]) (st := []) C (qX10_curve l g hg h1) (iW32 _ (List.mem_of_getElem? (i := 0) rfl)) (iW32 _ (List.mem_of_getElem? (i := 1) rfl)) (iW32 _ (List.mem_of_getElem? (i := 2) rfl)) (iW0 _ (List.mem_of_getElem? (i := 2) rfl)) (iW32 _ (List.mem_of_getElem? (i := 3) rfl)) rfl rfl hdX10_curve (by decide) rfl (by decide) rfl rfl rfl (Nat.le_of_ble_eq_true rfl) (dk dL_law_19 20 rfl) ?_
  refine k_aload_n C (dk dL_law_19 21 rfl) rfl 2 rfl ?_
  refine k_aload_n C (dk dL_law_19 22 rfl) rfl 0 rfl ?_
  refine k_iload C (dk dL_law_19 23 rfl) 4 rfl ?_
  refine k_iconst (v := (1 : Int32)) C (dk dL_law_19 24 rfl) (by decide) ?_
  refine k_iadd C (dk dL_law_19 25 rfl) ?_
  refine hsl.1 _ _ _ _ (i + 1) _ (nI_add i 1) (by omega) (dk dL_law_19 26 rfl) ?_
  refine k_cv (T := TX11) (N := 39) (ci := 6) (ob := 45) (As := [.int (xs (i + 1))]) (st := [.int v]) C (qX11_curve l g hg h2) (iW32 _ (List.mem_of_getElem? (i := 4) rfl)) (iW32 _ (List.mem_of_getElem? (i := 5) rfl)) (iW32 _ (List.mem_of_getElem? (i := 6) rfl)) (iW0 _ (List.mem_of_getElem? (i := 5) rfl)) (iW32 _ (List.mem_of_getElem? (i := 7) rfl)) rfl rfl hdX11_curve (by decide) rfl (by decide) rfl rfl rfl (Nat.le_of_ble_eq_true rfl) (dk dL_law_19 27 rfl) ?_
  refine k_icmp_eq (tgt := 1546) (a := some (0 : Nat)) (b := none) (r := 0) C (dk dL_law_19 28 rfl) (by decide) (if_pos rfl) (fun _ => ?_) (fun h => nomatch h)
  exact k
set_option maxRecDepth 100000 in
set_option maxHeartbeats 4000000 in
theorem law_c27 {g : G} {l : Launch} {b L i : Nat} {xs : Nat → Int32} {WK : Nat → List (Nat × Value) → List Value → St → Prop} (hg : gOK g) (C : kY g l room_1 RL cL_law 8 WK) (hsl : SL b L xs WK) (hi : i + 6 ≤ L) {σ σ1 σ2 : St} {v : Int32} (h1 : mX10_judge (xs (i + 1)) σ = some (v, σ1)) (h2 : mX11_judge (xs (i + 1)) σ1 = some (v, σ2)) (k : WK 1546 [(0, .ref b), (1, .ref (g.2.2 0)), (2, .ref (g.2.2 45)), (3, .ref (g.2.2 66)), (4, .int (nI i))] [] σ2) : WK 1072 [(0, .ref b), (1, .ref (g.2.2 0)), (2, .ref (g.2.2 45)), (3, .ref (g.2.2 66)), (4, .int (nI i))] [] σ := by
  refine k_aload_n C (dk dL_law_19 31 rfl) rfl 1 rfl ?_
  refine k_aload_n C (dk dL_law_20 0 rfl) rfl 0 rfl ?_
  refine k_iload C (dk dL_law_20 1 rfl) 4 rfl ?_
  refine k_iconst (v := (1 : Int32)) C (dk dL_law_20 2 rfl) (by decide) ?_
  refine k_iadd C (dk dL_law_20 3 rfl) ?_
  refine hsl.1 _ _ _ _ (i + 1) _ (nI_add i 1) (by omega) (dk dL_law_20 4 rfl) ?_
  refine k_cv (T := TX10) (N := 9) (ci := 5) (ob := 0) (As := [.int (xs (i + 1))]) (st := []) C (qX10_judge l g hg h1) (iW32 _ (List.mem_of_getElem? (i := 8) rfl)) (iW32 _ (List.mem_of_getElem? (i := 9) rfl)) (iW32 _ (List.mem_of_getElem? (i := 10) rfl)) (iW0 _ (List.mem_of_getElem? (i := 2) rfl)) (iW32 _ (List.mem_of_getElem? (i := 11) rfl)) rfl rfl hdX10_judge (by decide) rfl (by decide) rfl rfl rfl (Nat.le_of_ble_eq_true rfl) (dk dL_law_20 5 rfl) ?_
  refine k_aload_n C (dk dL_law_20 6 rfl) rfl 2 rfl ?_
  refine k_aload_n C (dk dL_law_20 7 rfl) rfl 0 rfl ?_
  refine k_iload C (dk dL_law_20 8 rfl) 4 rfl ?_
  refine k_iconst (v := (1 : Int32)) C (dk dL_law_20 9 rfl) (by decide) ?_
  refine k_iadd C (dk dL_law_20 10 rfl) ?_
  refine hsl.1 _ _ _ _ (i + 1) _ (nI_add i 1) (by omega) (dk dL_law_20 11 rfl) ?_
  refine k_cv (T := TX11) (N := 39) (ci := 6) (ob := 45) (As := [.int (xs (i + 1))]) (st := [.int v]) C (qX11_judge l g hg h2) (iW32 _ (List.mem_of_getElem? (i := 24) rfl)) (iW32 _ (List.mem_of_getElem? (i := 25) rfl)) (iW32 _ (List.mem_of_getElem? (i := 26) rfl)) (iW0 _ (List.mem_of_getElem? (i := 5) rfl)) (iW32 _ (List.mem_of_getElem? (i := 27) rfl)) rfl rfl hdX11_judge (by decide) rfl (by decide) rfl rfl rfl (Nat.le_of_ble_eq_true rfl) (dk dL_law_20 12 rfl) ?_
  refine k_icmp_eq (tgt := 1546) (a := some (0 : Nat)) (b := none) (r := 0) C (dk dL_law_20 13 rfl) (by decide) (if_pos rfl) (fun _ => ?_) (fun h => nomatch h)
  exact k
set_option maxRecDepth 100000 in
set_option maxHeartbeats 4000000 in
theorem law_c28 {g : G} {l : Launch} {b L i : Nat} {xs : Nat → Int32} {WK : Nat → List (Nat × Value) → List Value → St → Prop} (hg : gOK g) (C : kY g l room_1 RL cL_law 8 WK) (hsl : SL b L xs WK) (hi : i + 6 ≤ L) {σ σ1 σ2 : St} {v : Int32} (h1 : mX10_seeds (xs (i + 1)) (xs (i + 2)) (xs (i + 3)) σ = some (v, σ1)) (h2 : mX11_seeds (xs (i + 1)) (xs (i + 2)) (xs (i + 3)) σ1 = some (v, σ2)) (k : WK 1546 [(0, .ref b), (1, .ref (g.2.2 0)), (2, .ref (g.2.2 45)), (3, .ref (g.2.2 66)), (4, .int (nI i))] [] σ2) : WK 1097 [(0, .ref b), (1, .ref (g.2.2 0)), (2, .ref (g.2.2 45)), (3, .ref (g.2.2 66)), (4, .int (nI i))] [] σ := by
  refine k_aload_n C (dk dL_law_20 16 rfl) rfl 1 rfl ?_
  refine k_aload_n C (dk dL_law_20 17 rfl) rfl 0 rfl ?_
  refine k_iload C (dk dL_law_20 18 rfl) 4 rfl ?_
  refine k_iconst (v := (1 : Int32)) C (dk dL_law_20 19 rfl) (by decide) ?_
  refine k_iadd C (dk dL_law_20 20 rfl) ?_
  refine hsl.1 _ _ _ _ (i + 1) _ (nI_add i 1) (by omega) (dk dL_law_20 21 rfl) ?_
  refine k_aload_n C (dk dL_law_20 22 rfl) rfl 0 rfl ?_
  refine k_iload C (dk dL_law_20 23 rfl) 4 rfl ?_
  refine k_iconst (v := (2 : Int32)) C (dk dL_law_20 24 rfl) (by decide) ?_
  refine k_iadd C (dk dL_law_20 25 rfl) ?_
  refine hsl.1 _ _ _ _ (i + 2) _ (nI_add i 2) (by omega) (dk dL_law_20 26 rfl) ?_
  refine k_aload_n C (dk dL_law_20 27 rfl) rfl 0 rfl ?_
  refine k_iload C (dk dL_law_20 28 rfl) 4 rfl ?_
  refine k_iconst (v := (3 : Int32)) C (dk dL_law_20 29 rfl) (by decide) ?_
  refine k_iadd C (dk dL_law_20 30 rfl) ?_
  refine hsl.1 _ _ _ _ (i + 3) _ (nI_add i 3) (by omega) (dk dL_law_20 31 rfl) ?_
  refine k_cv (T := TX10) (N := 9) (ci := 5) (ob := 0) (As := [.int (xs (i + 1)), .int (xs (i + 2)), .int (xs (i + 3))]) (st := []) C (qX10_seeds l g hg h1) (iW33 _ (List.mem_of_getElem? (i := 9) rfl)) (iW33 _ (List.mem_of_getElem? (i := 10) rfl)) (iW33 _ (List.mem_of_getElem? (i := 11) rfl)) (iW0 _ (List.mem_of_getElem? (i := 2) rfl)) (iW33 _ (List.mem_of_getElem? (i := 12) rfl)) rfl rfl hdX10_seeds (by decide) rfl (by decide) rfl rfl rfl (Nat.le_of_ble_eq_true rfl) (dk dL_law_21 0 rfl) ?_
  refine k_aload_n C (dk dL_law_21 1 rfl) rfl 2 rfl ?_
  refine k_aload_n C (dk dL_law_21 2 rfl) rfl 0 rfl ?_
  refine k_iload C (dk dL_law_21 3 rfl) 4 rfl ?_
  refine k_iconst (v := (1 : Int32)) C (dk dL_law_21 4 rfl) (by decide) ?_
  refine k_iadd C (dk dL_law_21 5 rfl) ?_
  refine hsl.1 _ _ _ _ (i + 1) _ (nI_add i 1) (by omega) (dk dL_law_21 6 rfl) ?_
  refine k_aload_n C (dk dL_law_21 7 rfl) rfl 0 rfl ?_
  refine k_iload C (dk dL_law_21 8 rfl) 4 rfl ?_
  refine k_iconst (v := (2 : Int32)) C (dk dL_law_21 9 rfl) (by decide) ?_
  refine k_iadd C (dk dL_law_21 10 rfl) ?_
  refine hsl.1 _ _ _ _ (i + 2) _ (nI_add i 2) (by omega) (dk dL_law_21 11 rfl) ?_
  refine k_aload_n C (dk dL_law_21 12 rfl) rfl 0 rfl ?_
  refine k_iload C (dk dL_law_21 13 rfl) 4 rfl ?_
  refine k_iconst (v := (3 : Int32)) C (dk dL_law_21 14 rfl) (by decide) ?_
  refine k_iadd C (dk dL_law_21 15 rfl) ?_
  refine hsl.1 _ _ _ _ (i + 3) _ (nI_add i 3) (by omega) (dk dL_law_21 16 rfl) ?_
  refine k_cv (T := TX11) (N := 39) (ci := 6) (ob := 45) (As := [.int (xs (i + 1)), .int (xs (i + 2)), .int (xs (i + 3))]) (st := [.int v]) C (qX11_seeds l g hg h2) (iW33 _ (List.mem_of_getElem? (i := 29) rfl)) (iW34 _ (List.mem_of_getElem? (i := 0) rfl)) (iW34 _ (List.mem_of_getElem? (i := 1) rfl)) (iW0 _ (List.mem_of_getElem? (i := 5) rfl)) (iW34 _ (List.mem_of_getElem? (i := 2) rfl)) rfl rfl hdX11_seeds (by decide) rfl (by decide) rfl rfl rfl (Nat.le_of_ble_eq_true rfl) (dk dL_law_21 17 rfl) ?_
  refine k_icmp_eq (tgt := 1546) (a := some (0 : Nat)) (b := none) (r := 0) C (dk dL_law_21 18 rfl) (by decide) (if_pos rfl) (fun _ => ?_) (fun h => nomatch h)
  exact k
set_option maxRecDepth 100000 in
set_option maxHeartbeats 4000000 in
theorem law_c29 {g : G} {l : Launch} {b L i : Nat} {xs : Nat → Int32} {WK : Nat → List (Nat × Value) → List Value → St → Prop} (hg : gOK g) (C : kY g l room_1 RL cL_law 8 WK) (hsl : SL b L xs WK) (hi : i + 6 ≤ L) {σ σ1 σ2 : St} {v : Int32} (h1 : mX10_image  σ = some (v, σ1)) (h2 : mX11_image  σ1 = some (v, σ2)) (k : WK 1546 [(0, .ref b), (1, .ref (g.2.2 0)), (2, .ref (g.2.2 45)), (3, .ref (g.2.2 66)), (4, .int (nI i))] [] σ2) : WK 1146 [(0, .ref b), (1, .ref (g.2.2 0)), (2, .ref (g.2.2 45)), (3, .ref (g.2.2 66)), (4, .int (nI i))] [] σ := by
  refine k_aload_n C (dk dL_law_21 21 rfl) rfl 1 rfl ?_
  refine k_cv (T := TX10) (N := 9) (ci := 5) (ob := 0) (As := []) (st := []) C (qX10_image l g hg h1) (iW34 _ (List.mem_of_getElem? (i := 11) rfl)) (iW34 _ (List.mem_of_getElem? (i := 12) rfl)) (iW34 _ (List.mem_of_getElem? (i := 13) rfl)) (iW0 _ (List.mem_of_getElem? (i := 2) rfl)) (iW34 _ (List.mem_of_getElem? (i := 14) rfl)) rfl rfl hdX10_image (by decide) rfl (by decide) rfl rfl rfl (Nat.le_of_ble_eq_true rfl) (dk dL_law_21 22 rfl) ?_
  refine k_aload_n C (dk dL_law_21 23 rfl) rfl 2 rfl ?_
  refine k_cv (T := TX11) (N := 39) (ci := 6) (ob := 45) (As := []) (st := [.int v]) C (qX11_image l g hg h2) (iW34 _ (List.mem_of_getElem? (i := 17) rfl)) (iW34 _ (List.mem_of_getElem? (i := 18) rfl)) (iW34 _ (List.mem_of_getElem? (i := 19) rfl)) (iW0 _ (List.mem_of_getElem? (i := 5) rfl)) (iW34 _ (List.mem_of_getElem? (i := 20) rfl)) rfl rfl hdX11_image (by decide) rfl (by decide) rfl rfl rfl (Nat.le_of_ble_eq_true rfl) (dk dL_law_21 24 rfl) ?_
  refine k_icmp_eq (tgt := 1546) (a := some (0 : Nat)) (b := none) (r := 0) C (dk dL_law_21 25 rfl) (by decide) (if_pos rfl) (fun _ => ?_) (fun h => nomatch h)
  exact k
set_option maxRecDepth 100000 in
set_option maxHeartbeats 4000000 in
theorem law_c30 {g : G} {l : Launch} {b L i : Nat} {xs : Nat → Int32} {WK : Nat → List (Nat × Value) → List Value → St → Prop} (hg : gOK g) (C : kY g l room_1 RL cL_law 8 WK) (hsl : SL b L xs WK) (hi : i + 6 ≤ L) {σ σ1 σ2 : St} {v : Int32} (h1 : mX10_restore  σ = some (v, σ1)) (h2 : mX11_restore  σ1 = some (v, σ2)) (k : WK 1546 [(0, .ref b), (1, .ref (g.2.2 0)), (2, .ref (g.2.2 45)), (3, .ref (g.2.2 66)), (4, .int (nI i))] [] σ2) : WK 1159 [(0, .ref b), (1, .ref (g.2.2 0)), (2, .ref (g.2.2 45)), (3, .ref (g.2.2 66)), (4, .int (nI i))] [] σ := by
  refine k_aload_n C (dk dL_law_21 28 rfl) rfl 1 rfl ?_
  refine k_cv (T := TX10) (N := 9) (ci := 5) (ob := 0) (As := []) (st := []) C (qX10_restore l g hg h1) (iW34 _ (List.mem_of_getElem? (i := 22) rfl)) (iW34 _ (List.mem_of_getElem? (i := 23) rfl)) (iW34 _ (List.mem_of_getElem? (i := 24) rfl)) (iW0 _ (List.mem_of_getElem? (i := 2) rfl)) (iW34 _ (List.mem_of_getElem? (i := 25) rfl)) rfl rfl hdX10_restore (by decide) rfl (by decide) rfl rfl rfl (Nat.le_of_ble_eq_true rfl) (dk dL_law_21 29 rfl) ?_
  refine k_aload_n C (dk dL_law_21 30 rfl) rfl 2 rfl ?_
  refine k_cv (T := TX11) (N := 39) (ci := 6) (ob := 45) (As := []) (st := [.int v]) C (qX11_restore l g hg h2) (iW34 _ (List.mem_of_getElem? (i := 26) rfl)) (iW34 _ (List.mem_of_getElem? (i := 27) rfl)) (iW34 _ (List.mem_of_getElem? (i := 28) rfl)) (iW0 _ (List.mem_of_getElem? (i := 5) rfl)) (iW34 _ (List.mem_of_getElem? (i := 29) rfl)) rfl rfl hdX11_restore (by decide) rfl (by decide) rfl rfl rfl (Nat.le_of_ble_eq_true rfl) (dk dL_law_21 31 rfl) ?_
  refine k_icmp_eq (tgt := 1546) (a := some (0 : Nat)) (b := none) (r := 0) C (dk dL_law_22 0 rfl) (by decide) (if_pos rfl) (fun _ => ?_) (fun h => nomatch h)
  exact k
set_option maxRecDepth 100000 in
set_option maxHeartbeats 4000000 in
theorem law_c31 {g : G} {l : Launch} {b L i : Nat} {xs : Nat → Int32} {WK : Nat → List (Nat × Value) → List Value → St → Prop} (hg : gOK g) (C : kY g l room_1 RL cL_law 8 WK) (hsl : SL b L xs WK) (hi : i + 6 ≤ L) {σ σ1 σ2 : St} {v : Int32} (h1 : mX10_count (xs (i + 1)) σ = some (v, σ1)) (h2 : mX11_count (xs (i + 1)) σ1 = some (v, σ2)) (k : WK 1546 [(0, .ref b), (1, .ref (g.2.2 0)), (2, .ref (g.2.2 45)), (3, .ref (g.2.2 66)), (4, .int (nI i))] [] σ2) : WK 1172 [(0, .ref b), (1, .ref (g.2.2 0)), (2, .ref (g.2.2 45)), (3, .ref (g.2.2 66)), (4, .int (nI i))] [] σ := by
  refine k_aload_n C (dk dL_law_22 3 rfl) rfl 1 rfl ?_
  refine k_aload_n C (dk dL_law_22 4 rfl) rfl 0 rfl ?_
  refine k_iload C (dk dL_law_22 5 rfl) 4 rfl ?_
  refine k_iconst (v := (1 : Int32)) C (dk dL_law_22 6 rfl) (by decide) ?_
  refine k_iadd C (dk dL_law_22 7 rfl) ?_
  refine hsl.1 _ _ _ _ (i + 1) _ (nI_add i 1) (by omega) (dk dL_law_22 8 rfl) ?_
  refine k_cv (T := TX10) (N := 9) (ci := 5) (ob := 0) (As := [.int (xs (i + 1))]) (st := []) C (qX10_count l g hg h1) (iW35 _ (List.mem_of_getElem? (i := 0) rfl)) (iW35 _ (List.mem_of_getElem? (i := 1) rfl)) (iW35 _ (List.mem_of_getElem? (i := 2) rfl)) (iW0 _ (List.mem_of_getElem? (i := 2) rfl)) (iW35 _ (List.mem_of_getElem? (i := 3) rfl)) rfl rfl hdX10_count (by decide) rfl (by decide) rfl rfl rfl (Nat.le_of_ble_eq_true rfl) (dk dL_law_22 9 rfl) ?_
  refine k_aload_n C (dk dL_law_22 10 rfl) rfl 2 rfl ?_
  refine k_aload_n C (dk dL_law_22 11 rfl) rfl 0 rfl ?_
  refine k_iload C (dk dL_law_22 12 rfl) 4 rfl ?_
  refine k_iconst (v := (1 : Int32)) C (dk dL_law_22 13 rfl) (by decide) ?_
  refine k_iadd C (dk dL_law_22 14 rfl) ?_
  refine hsl.1 _ _ _ _ (i + 1) _ (nI_add i 1) (by omega) (dk dL_law_22 15 rfl) ?_
  refine k_cv (T := TX11) (N := 39) (ci := 6) (ob := 45) (As := [.int (xs (i + 1))]) (st := [.int v]) C (qX11_count l g hg h2) (iW35 _ (List.mem_of_getElem? (i := 4) rfl)) (iW35 _ (List.mem_of_getElem? (i := 5) rfl)) (iW35 _ (List.mem_of_getElem? (i := 6) rfl)) (iW0 _ (List.mem_of_getElem? (i := 5) rfl)) (iW35 _ (List.mem_of_getElem? (i := 7) rfl)) rfl rfl hdX11_count (by decide) rfl (by decide) rfl rfl rfl (Nat.le_of_ble_eq_true rfl) (dk dL_law_22 16 rfl) ?_
  refine k_icmp_eq (tgt := 1546) (a := some (0 : Nat)) (b := none) (r := 0) C (dk dL_law_22 17 rfl) (by decide) (if_pos rfl) (fun _ => ?_) (fun h => nomatch h)
  exact k
set_option maxRecDepth 100000 in
set_option maxHeartbeats 4000000 in
theorem law_c32 {g : G} {l : Launch} {b L i : Nat} {xs : Nat → Int32} {WK : Nat → List (Nat × Value) → List Value → St → Prop} (hg : gOK g) (C : kY g l room_1 RL cL_law 8 WK) (hsl : SL b L xs WK) (hi : i + 6 ≤ L) {σ σ1 σ2 : St} {v : Int32} (h1 : mX10_keep (xs (i + 1)) (xs (i + 2)) (xs (i + 3)) (xs (i + 4)) σ = some (v, σ1)) (h2 : mX11_keep (xs (i + 1)) (xs (i + 2)) (xs (i + 3)) (xs (i + 4)) σ1 = some (v, σ2)) (k : WK 1546 [(0, .ref b), (1, .ref (g.2.2 0)), (2, .ref (g.2.2 45)), (3, .ref (g.2.2 66)), (4, .int (nI i))] [] σ2) : WK 1197 [(0, .ref b), (1, .ref (g.2.2 0)), (2, .ref (g.2.2 45)), (3, .ref (g.2.2 66)), (4, .int (nI i))] [] σ := by
  refine k_aload_n C (dk dL_law_22 20 rfl) rfl 1 rfl ?_
  refine k_aload_n C (dk dL_law_22 21 rfl) rfl 0 rfl ?_
  refine k_iload C (dk dL_law_22 22 rfl) 4 rfl ?_
  refine k_iconst (v := (1 : Int32)) C (dk dL_law_22 23 rfl) (by decide) ?_
  refine k_iadd C (dk dL_law_22 24 rfl) ?_
  refine hsl.1 _ _ _ _ (i + 1) _ (nI_add i 1) (by omega) (dk dL_law_22 25 rfl) ?_
  refine k_aload_n C (dk dL_law_22 26 rfl) rfl 0 rfl ?_
  refine k_iload C (dk dL_law_22 27 rfl) 4 rfl ?_
  refine k_iconst (v := (2 : Int32)) C (dk dL_law_22 28 rfl) (by decide) ?_
  refine k_iadd C (dk dL_law_22 29 rfl) ?_
  refine hsl.1 _ _ _ _ (i + 2) _ (nI_add i 2) (by omega) (dk dL_law_22 30 rfl) ?_
  refine k_aload_n C (dk dL_law_22 31 rfl) rfl 0 rfl ?_
  refine k_iload C (dk dL_law_23 0 rfl) 4 rfl ?_
  refine k_iconst (v := (3 : Int32)) C (dk dL_law_23 1 rfl) (by decide) ?_
  refine k_iadd C (dk dL_law_23 2 rfl) ?_
  refine hsl.1 _ _ _ _ (i + 3) _ (nI_add i 3) (by omega) (dk dL_law_23 3 rfl) ?_
  refine k_aload_n C (dk dL_law_23 4 rfl) rfl 0 rfl ?_
  refine k_iload C (dk dL_law_23 5 rfl) 4 rfl ?_
  refine k_iconst (v := (4 : Int32)) C (dk dL_law_23 6 rfl) (by decide) ?_
  refine k_iadd C (dk dL_law_23 7 rfl) ?_
  refine hsl.1 _ _ _ _ (i + 4) _ (nI_add i 4) (by omega) (dk dL_law_23 8 rfl) ?_
  refine k_cv (T := TX10) (N := 9) (ci := 5) (ob := 0) (As := [.int (xs (i + 1)), .int (xs (i + 2)), .int (xs (i + 3)), .int (xs (i + 4))]) (st := []) C (qX10_keep l g hg h1) (iW35 _ (List.mem_of_getElem? (i := 8) rfl)) (iW35 _ (List.mem_of_getElem? (i := 9) rfl)) (iW35 _ (List.mem_of_getElem? (i := 10) rfl)) (iW0 _ (List.mem_of_getElem? (i := 2) rfl)) (iW35 _ (List.mem_of_getElem? (i := 11) rfl)) rfl rfl hdX10_keep (by decide) rfl (by decide) rfl rfl rfl (Nat.le_of_ble_eq_true rfl) (dk dL_law_23 9 rfl) ?_
  refine k_aload_n C (dk dL_law_23 10 rfl) rfl 2 rfl ?_
  refine k_aload_n C (dk dL_law_23 11 rfl) rfl 0 rfl ?_
  refine k_iload C (dk dL_law_23 12 rfl) 4 rfl ?_
  refine k_iconst (v := (1 : Int32)) C (dk dL_law_23 13 rfl) (by decide) ?_
  refine k_iadd C (dk dL_law_23 14 rfl) ?_
  refine hsl.1 _ _ _ _ (i + 1) _ (nI_add i 1) (by omega) (dk dL_law_23 15 rfl) ?_
  refine k_aload_n C (dk dL_law_23 16 rfl) rfl 0 rfl ?_
  refine k_iload C (dk dL_law_23 17 rfl) 4 rfl ?_
  refine k_iconst (v := (2 : Int32)) C (dk dL_law_23 18 rfl) (by decide) ?_
  refine k_iadd C (dk dL_law_23 19 rfl) ?_
  refine hsl.1 _ _ _ _ (i + 2) _ (nI_add i 2) (by omega) (dk dL_law_23 20 rfl) ?_
  refine k_aload_n C (dk dL_law_23 21 rfl) rfl 0 rfl ?_
  refine k_iload C (dk dL_law_23 22 rfl) 4 rfl ?_
  refine k_iconst (v := (3 : Int32)) C (dk dL_law_23 23 rfl) (by decide) ?_
  refine k_iadd C (dk dL_law_23 24 rfl) ?_
  refine hsl.1 _ _ _ _ (i + 3) _ (nI_add i 3) (by omega) (dk dL_law_23 25 rfl) ?_
  refine k_aload_n C (dk dL_law_23 26 rfl) rfl 0 rfl ?_
  refine k_iload C (dk dL_law_23 27 rfl) 4 rfl ?_
  refine k_iconst (v := (4 : Int32)) C (dk dL_law_23 28 rfl) (by decide) ?_
  refine k_iadd C (dk dL_law_23 29 rfl) ?_
  refine hsl.1 _ _ _ _ (i + 4) _ (nI_add i 4) (by omega) (dk dL_law_23 30 rfl) ?_
  refine k_cv (T := TX11) (N := 39) (ci := 6) (ob := 45) (As := [.int (xs (i + 1)), .int (xs (i + 2)), .int (xs (i + 3)), .int (xs (i + 4))]) (st := [.int v]) C (qX11_keep l g hg h2) (iW35 _ (List.mem_of_getElem? (i := 17) rfl)) (iW35 _ (List.mem_of_getElem? (i := 18) rfl)) (iW35 _ (List.mem_of_getElem? (i := 19) rfl)) (iW0 _ (List.mem_of_getElem? (i := 5) rfl)) (iW35 _ (List.mem_of_getElem? (i := 20) rfl)) rfl rfl hdX11_keep (by decide) rfl (by decide) rfl rfl rfl (Nat.le_of_ble_eq_true rfl) (dk dL_law_23 31 rfl) ?_
  refine k_icmp_eq (tgt := 1546) (a := some (0 : Nat)) (b := none) (r := 0) C (dk dL_law_24 0 rfl) (by decide) (if_pos rfl) (fun _ => ?_) (fun h => nomatch h)
  exact k
set_option maxRecDepth 100000 in
set_option maxHeartbeats 4000000 in
theorem law_c33 {g : G} {l : Launch} {b L i : Nat} {xs : Nat → Int32} {WK : Nat → List (Nat × Value) → List Value → St → Prop} (hg : gOK g) (C : kY g l room_1 RL cL_law 8 WK) (hsl : SL b L xs WK) (hi : i + 6 ≤ L) {σ σ1 σ2 : St} {v : Int32} (h1 : mX10_row (xs (i + 1)) (xs (i + 2)) (xs (i + 3)) σ = some (v, σ1)) (h2 : mX11_row (xs (i + 1)) (xs (i + 2)) (xs (i + 3)) σ1 = some (v, σ2)) (k : WK 1546 [(0, .ref b), (1, .ref (g.2.2 0)), (2, .ref (g.2.2 45)), (3, .ref (g.2.2 66)), (4, .int (nI i))] [] σ2) : WK 1258 [(0, .ref b), (1, .ref (g.2.2 0)), (2, .ref (g.2.2 45)), (3, .ref (g.2.2 66)), (4, .int (nI i))] [] σ := by
  refine k_aload_n C (dk dL_law_24 3 rfl) rfl 1 rfl ?_
  refine k_aload_n C (dk dL_law_24 4 rfl) rfl 0 rfl ?_
  refine k_iload C (dk dL_law_24 5 rfl) 4 rfl ?_
  refine k_iconst (v := (1 : Int32)) C (dk dL_law_24 6 rfl) (by decide) ?_
  refine k_iadd C (dk dL_law_24 7 rfl) ?_
  refine hsl.1 _ _ _ _ (i + 1) _ (nI_add i 1) (by omega) (dk dL_law_24 8 rfl) ?_
  refine k_aload_n C (dk dL_law_24 9 rfl) rfl 0 rfl ?_
  refine k_iload C (dk dL_law_24 10 rfl) 4 rfl ?_
  refine k_iconst (v := (2 : Int32)) C (dk dL_law_24 11 rfl) (by decide) ?_
  refine k_iadd C (dk dL_law_24 12 rfl) ?_
  refine hsl.1 _ _ _ _ (i + 2) _ (nI_add i 2) (by omega) (dk dL_law_24 13 rfl) ?_
  refine k_aload_n C (dk dL_law_24 14 rfl) rfl 0 rfl ?_
  refine k_iload C (dk dL_law_24 15 rfl) 4 rfl ?_
  refine k_iconst (v := (3 : Int32)) C (dk dL_law_24 16 rfl) (by decide) ?_
  refine k_iadd C (dk dL_law_24 17 rfl) ?_
  refine hsl.1 _ _ _ _ (i + 3) _ (nI_add i 3) (by omega) (dk dL_law_24 18 rfl) ?_
  refine k_cv (T := TX10) (N := 9) (ci := 5) (ob := 0) (As := [.int (xs (i + 1)), .int (xs (i + 2)), .int (xs (i + 3))]) (st := []) C (qX10_row l g hg h1) (iW35 _ (List.mem_of_getElem? (i := 21) rfl)) (iW35 _ (List.mem_of_getElem? (i := 22) rfl)) (iW35 _ (List.mem_of_getElem? (i := 23) rfl)) (iW0 _ (List.mem_of_getElem? (i := 2) rfl)) (iW35 _ (List.mem_of_getElem? (i := 24) rfl)) rfl rfl hdX10_row (by decide) rfl (by decide) rfl rfl rfl (Nat.le_of_ble_eq_true rfl) (dk dL_law_24 19 rfl) ?_
  refine k_aload_n C (dk dL_law_24 20 rfl) rfl 2 rfl ?_
  refine k_aload_n C (dk dL_law_24 21 rfl) rfl 0 rfl ?_
  refine k_iload C (dk dL_law_24 22 rfl) 4 rfl ?_
  refine k_iconst (v := (1 : Int32)) C (dk dL_law_24 23 rfl) (by decide) ?_
  refine k_iadd C (dk dL_law_24 24 rfl) ?_
  refine hsl.1 _ _ _ _ (i + 1) _ (nI_add i 1) (by omega) (dk dL_law_24 25 rfl) ?_
  refine k_aload_n C (dk dL_law_24 26 rfl) rfl 0 rfl ?_
  refine k_iload C (dk dL_law_24 27 rfl) 4 rfl ?_
  refine k_iconst (v := (2 : Int32)) C (dk dL_law_24 28 rfl) (by decide) ?_
  refine k_iadd C (dk dL_law_24 29 rfl) ?_
  refine hsl.1 _ _ _ _ (i + 2) _ (nI_add i 2) (by omega) (dk dL_law_24 30 rfl) ?_
  refine k_aload_n C (dk dL_law_24 31 rfl) rfl 0 rfl ?_
  refine k_iload C (dk dL_law_25 0 rfl) 4 rfl ?_
  refine k_iconst (v := (3 : Int32)) C (dk dL_law_25 1 rfl) (by decide) ?_
  refine k_iadd C (dk dL_law_25 2 rfl) ?_
  refine hsl.1 _ _ _ _ (i + 3) _ (nI_add i 3) (by omega) (dk dL_law_25 3 rfl) ?_
  refine k_cv (T := TX11) (N := 39) (ci := 6) (ob := 45) (As := [.int (xs (i + 1)), .int (xs (i + 2)), .int (xs (i + 3))]) (st := [.int v]) C (qX11_row l g hg h2) (iW36 _ (List.mem_of_getElem? (i := 0) rfl)) (iW36 _ (List.mem_of_getElem? (i := 1) rfl)) (iW36 _ (List.mem_of_getElem? (i := 2) rfl)) (iW0 _ (List.mem_of_getElem? (i := 5) rfl)) (iW36 _ (List.mem_of_getElem? (i := 3) rfl)) rfl rfl hdX11_row (by decide) rfl (by decide) rfl rfl rfl (Nat.le_of_ble_eq_true rfl) (dk dL_law_25 4 rfl) ?_
  refine k_icmp_eq (tgt := 1546) (a := some (0 : Nat)) (b := none) (r := 0) C (dk dL_law_25 5 rfl) (by decide) (if_pos rfl) (fun _ => ?_) (fun h => nomatch h)
  exact k
set_option maxRecDepth 100000 in
set_option maxHeartbeats 4000000 in
theorem law_c34 {g : G} {l : Launch} {b L i : Nat} {xs : Nat → Int32} {WK : Nat → List (Nat × Value) → List Value → St → Prop} (hg : gOK g) (C : kY g l room_1 RL cL_law 8 WK) (hsl : SL b L xs WK) (hi : i + 6 ≤ L) {σ σ1 σ2 : St} {v : Int32} (h1 : mX10_put (xs (i + 1)) (xs (i + 2)) (xs (i + 3)) σ = some (v, σ1)) (h2 : mX11_put (xs (i + 1)) (xs (i + 2)) (xs (i + 3)) σ1 = some (v, σ2)) (k : WK 1546 [(0, .ref b), (1, .ref (g.2.2 0)), (2, .ref (g.2.2 45)), (3, .ref (g.2.2 66)), (4, .int (nI i))] [] σ2) : WK 1307 [(0, .ref b), (1, .ref (g.2.2 0)), (2, .ref (g.2.2 45)), (3, .ref (g.2.2 66)), (4, .int (nI i))] [] σ := by
  refine k_aload_n C (dk dL_law_25 8 rfl) rfl 1 rfl ?_
  refine k_aload_n C (dk dL_law_25 9 rfl) rfl 0 rfl ?_
  refine k_iload C (dk dL_law_25 10 rfl) 4 rfl ?_
  refine k_iconst (v := (1 : Int32)) C (dk dL_law_25 11 rfl) (by decide) ?_
  refine k_iadd C (dk dL_law_25 12 rfl) ?_
  refine hsl.1 _ _ _ _ (i + 1) _ (nI_add i 1) (by omega) (dk dL_law_25 13 rfl) ?_
  refine k_aload_n C (dk dL_law_25 14 rfl) rfl 0 rfl ?_
  refine k_iload C (dk dL_law_25 15 rfl) 4 rfl ?_
  refine k_iconst (v := (2 : Int32)) C (dk dL_law_25 16 rfl) (by decide) ?_
  refine k_iadd C (dk dL_law_25 17 rfl) ?_
  refine hsl.1 _ _ _ _ (i + 2) _ (nI_add i 2) (by omega) (dk dL_law_25 18 rfl) ?_
  refine k_aload_n C (dk dL_law_25 19 rfl) rfl 0 rfl ?_
  refine k_iload C (dk dL_law_25 20 rfl) 4 rfl ?_
  refine k_iconst (v := (3 : Int32)) C (dk dL_law_25 21 rfl) (by decide) ?_
  refine k_iadd C (dk dL_law_25 22 rfl) ?_
  refine hsl.1 _ _ _ _ (i + 3) _ (nI_add i 3) (by omega) (dk dL_law_25 23 rfl) ?_
  refine k_cv (T := TX10) (N := 9) (ci := 5) (ob := 0) (As := [.int (xs (i + 1)), .int (xs (i + 2)), .int (xs (i + 3))]) (st := []) C (qX10_put l g hg h1) (iW36 _ (List.mem_of_getElem? (i := 4) rfl)) (iW36 _ (List.mem_of_getElem? (i := 5) rfl)) (iW36 _ (List.mem_of_getElem? (i := 6) rfl)) (iW0 _ (List.mem_of_getElem? (i := 2) rfl)) (iW36 _ (List.mem_of_getElem? (i := 7) rfl)) rfl rfl hdX10_put (by decide) rfl (by decide) rfl rfl rfl (Nat.le_of_ble_eq_true rfl) (dk dL_law_25 24 rfl) ?_
  refine k_aload_n C (dk dL_law_25 25 rfl) rfl 2 rfl ?_
  refine k_aload_n C (dk dL_law_25 26 rfl) rfl 0 rfl ?_
  refine k_iload C (dk dL_law_25 27 rfl) 4 rfl ?_
  refine k_iconst (v := (1 : Int32)) C (dk dL_law_25 28 rfl) (by decide) ?_
  refine k_iadd C (dk dL_law_25 29 rfl) ?_
  refine hsl.1 _ _ _ _ (i + 1) _ (nI_add i 1) (by omega) (dk dL_law_25 30 rfl) ?_
  refine k_aload_n C (dk dL_law_25 31 rfl) rfl 0 rfl ?_
  refine k_iload C (dk dL_law_26 0 rfl) 4 rfl ?_
  refine k_iconst (v := (2 : Int32)) C (dk dL_law_26 1 rfl) (by decide) ?_
  refine k_iadd C (dk dL_law_26 2 rfl) ?_
  refine hsl.1 _ _ _ _ (i + 2) _ (nI_add i 2) (by omega) (dk dL_law_26 3 rfl) ?_
  refine k_aload_n C (dk dL_law_26 4 rfl) rfl 0 rfl ?_
  refine k_iload C (dk dL_law_26 5 rfl) 4 rfl ?_
  refine k_iconst (v := (3 : Int32)) C (dk dL_law_26 6 rfl) (by decide) ?_
  refine k_iadd C (dk dL_law_26 7 rfl) ?_
  refine hsl.1 _ _ _ _ (i + 3) _ (nI_add i 3) (by omega) (dk dL_law_26 8 rfl) ?_
  refine k_cv (T := TX11) (N := 39) (ci := 6) (ob := 45) (As := [.int (xs (i + 1)), .int (xs (i + 2)), .int (xs (i + 3))]) (st := [.int v]) C (qX11_put l g hg h2) (iW36 _ (List.mem_of_getElem? (i := 16) rfl)) (iW36 _ (List.mem_of_getElem? (i := 17) rfl)) (iW36 _ (List.mem_of_getElem? (i := 18) rfl)) (iW0 _ (List.mem_of_getElem? (i := 5) rfl)) (iW36 _ (List.mem_of_getElem? (i := 19) rfl)) rfl rfl hdX11_put (by decide) rfl (by decide) rfl rfl rfl (Nat.le_of_ble_eq_true rfl) (dk dL_law_26 9 rfl) ?_
  refine k_icmp_eq (tgt := 1546) (a := some (0 : Nat)) (b := none) (r := 0) C (dk dL_law_26 10 rfl) (by decide) (if_pos rfl) (fun _ => ?_) (fun h => nomatch h)
  exact k
set_option maxRecDepth 100000 in
set_option maxHeartbeats 4000000 in
theorem law_c36 {g : G} {l : Launch} {b L i : Nat} {xs : Nat → Int32} {WK : Nat → List (Nat × Value) → List Value → St → Prop} (hg : gOK g) (C : kY g l room_1 RL cL_law 8 WK) (hsl : SL b L xs WK) (hi : i + 6 ≤ L) {σ σ1 σ2 : St} {v : Int32} (h1 : mX10_copy (xs (i + 1)) (xs (i + 2)) (xs (i + 3)) (xs (i + 4)) (xs (i + 5)) σ = some (v, σ1)) (h2 : mX11_copy (xs (i + 1)) (xs (i + 2)) (xs (i + 3)) (xs (i + 4)) (xs (i + 5)) σ1 = some (v, σ2)) (k : WK 1546 [(0, .ref b), (1, .ref (g.2.2 0)), (2, .ref (g.2.2 45)), (3, .ref (g.2.2 66)), (4, .int (nI i))] [] σ2) : WK 1423 [(0, .ref b), (1, .ref (g.2.2 0)), (2, .ref (g.2.2 45)), (3, .ref (g.2.2 66)), (4, .int (nI i))] [] σ := by
  refine k_aload_n C (dk dL_law_27 25 rfl) rfl 1 rfl ?_
  refine k_aload_n C (dk dL_law_27 26 rfl) rfl 0 rfl ?_
  refine k_iload C (dk dL_law_27 27 rfl) 4 rfl ?_
  refine k_iconst (v := (1 : Int32)) C (dk dL_law_27 28 rfl) (by decide) ?_
  refine k_iadd C (dk dL_law_27 29 rfl) ?_
  refine hsl.1 _ _ _ _ (i + 1) _ (nI_add i 1) (by omega) (dk dL_law_27 30 rfl) ?_
  refine k_aload_n C (dk dL_law_27 31 rfl) rfl 0 rfl ?_
  refine k_iload C (dk dL_law_28 0 rfl) 4 rfl ?_
  refine k_iconst (v := (2 : Int32)) C (dk dL_law_28 1 rfl) (by decide) ?_
  refine k_iadd C (dk dL_law_28 2 rfl) ?_
  refine hsl.1 _ _ _ _ (i + 2) _ (nI_add i 2) (by omega) (dk dL_law_28 3 rfl) ?_
  refine k_aload_n C (dk dL_law_28 4 rfl) rfl 0 rfl ?_
  refine k_iload C (dk dL_law_28 5 rfl) 4 rfl ?_
  refine k_iconst (v := (3 : Int32)) C (dk dL_law_28 6 rfl) (by decide) ?_
  refine k_iadd C (dk dL_law_28 7 rfl) ?_
  refine hsl.1 _ _ _ _ (i + 3) _ (nI_add i 3) (by omega) (dk dL_law_28 8 rfl) ?_
  refine k_aload_n C (dk dL_law_28 9 rfl) rfl 0 rfl ?_
  refine k_iload C (dk dL_law_28 10 rfl) 4 rfl ?_
  refine k_iconst (v := (4 : Int32)) C (dk dL_law_28 11 rfl) (by decide) ?_
  refine k_iadd C (dk dL_law_28 12 rfl) ?_
  refine hsl.1 _ _ _ _ (i + 4) _ (nI_add i 4) (by omega) (dk dL_law_28 13 rfl) ?_
  refine k_aload_n C (dk dL_law_28 14 rfl) rfl 0 rfl ?_
  refine k_iload C (dk dL_law_28 15 rfl) 4 rfl ?_
  refine k_iconst (v := (5 : Int32)) C (dk dL_law_28 16 rfl) (by decide) ?_
  refine k_iadd C (dk dL_law_28 17 rfl) ?_
  refine hsl.1 _ _ _ _ (i + 5) _ (nI_add i 5) (by omega) (dk dL_law_28 18 rfl) ?_
  refine k_cv (T := TX10) (N := 9) (ci := 5) (ob := 0) (As := [.int (xs (i + 1)), .int (xs (i + 2)), .int (xs (i + 3)), .int (xs (i + 4)), .int (xs (i + 5))]) (st := []) C (qX10_copy l g hg h1) (iW37 _ (List.mem_of_getElem? (i := 16) rfl)) (iW37 _ (List.mem_of_getElem? (i := 17) rfl)) (iW37 _ (List.mem_of_getElem? (i := 18) rfl)) (iW0 _ (List.mem_of_getElem? (i := 2) rfl)) (iW37 _ (List.mem_of_getElem? (i := 19) rfl)) rfl rfl hdX10_copy (by decide) rfl (by decide) rfl rfl rfl (Nat.le_of_ble_eq_true rfl) (dk dL_law_28 19 rfl) ?_
  refine k_aload_n C (dk dL_law_28 20 rfl) rfl 2 rfl ?_
  refine k_aload_n C (dk dL_law_28 21 rfl) rfl 0 rfl ?_
  refine k_iload C (dk dL_law_28 22 rfl) 4 rfl ?_
  refine k_iconst (v := (1 : Int32)) C (dk dL_law_28 23 rfl) (by decide) ?_
  refine k_iadd C (dk dL_law_28 24 rfl) ?_
  refine hsl.1 _ _ _ _ (i + 1) _ (nI_add i 1) (by omega) (dk dL_law_28 25 rfl) ?_
  refine k_aload_n C (dk dL_law_28 26 rfl) rfl 0 rfl ?_
  refine k_iload C (dk dL_law_28 27 rfl) 4 rfl ?_
  refine k_iconst (v := (2 : Int32)) C (dk dL_law_28 28 rfl) (by decide) ?_
  refine k_iadd C (dk dL_law_28 29 rfl) ?_
  refine hsl.1 _ _ _ _ (i + 2) _ (nI_add i 2) (by omega) (dk dL_law_28 30 rfl) ?_
  refine k_aload_n C (dk dL_law_28 31 rfl) rfl 0 rfl ?_
  refine k_iload C (dk dL_law_29 0 rfl) 4 rfl ?_
  refine k_iconst (v := (3 : Int32)) C (dk dL_law_29 1 rfl) (by decide) ?_
  refine k_iadd C (dk dL_law_29 2 rfl) ?_
  refine hsl.1 _ _ _ _ (i + 3) _ (nI_add i 3) (by omega) (dk dL_law_29 3 rfl) ?_
  refine k_aload_n C (dk dL_law_29 4 rfl) rfl 0 rfl ?_
  refine k_iload C (dk dL_law_29 5 rfl) 4 rfl ?_
  refine k_iconst (v := (4 : Int32)) C (dk dL_law_29 6 rfl) (by decide) ?_
  refine k_iadd C (dk dL_law_29 7 rfl) ?_
  refine hsl.1 _ _ _ _ (i + 4) _ (nI_add i 4) (by omega) (dk dL_law_29 8 rfl) ?_
  refine k_aload_n C (dk dL_law_29 9 rfl) rfl 0 rfl ?_
  refine k_iload C (dk dL_law_29 10 rfl) 4 rfl ?_
  refine k_iconst (v := (5 : Int32)) C (dk dL_law_29 11 rfl) (by decide) ?_
  refine k_iadd C (dk dL_law_29 12 rfl) ?_
  refine hsl.1 _ _ _ _ (i + 5) _ (nI_add i 5) (by omega) (dk dL_law_29 13 rfl) ?_
  refine k_cv (T := TX11) (N := 39) (ci := 6) (ob := 45) (As := [.int (xs (i + 1)), .int (xs (i + 2)), .int (xs (i + 3)), .int (xs (i + 4)), .int (xs (i + 5))]) (st := [.int v]) C (qX11_copy l g hg h2) (iW37 _ (List.mem_of_getElem? (i := 29) rfl)) (iW38 _ (List.mem_of_getElem? (i := 0) rfl)) (iW38 _ (List.mem_of_getElem? (i := 1) rfl)) (iW0 _ (List.mem_of_getElem? (i := 5) rfl)) (iW38 _ (List.mem_of_getElem? (i := 2) rfl)) rfl rfl hdX11_copy (by decide) rfl (by decide) rfl rfl rfl (Nat.le_of_ble_eq_true rfl) (dk dL_law_29 14 rfl) ?_
  refine k_icmp_eq (tgt := 1546) (a := some (0 : Nat)) (b := none) (r := 0) C (dk dL_law_29 15 rfl) (by decide) (if_pos rfl) (fun _ => ?_) (fun h => nomatch h)
  exact k
set_option maxRecDepth 100000 in
set_option maxHeartbeats 4000000 in
theorem law_c37 {g : G} {l : Launch} {b L i : Nat} {xs : Nat → Int32} {WK : Nat → List (Nat × Value) → List Value → St → Prop} (hg : gOK g) (C : kY g l room_1 RL cL_law 8 WK) (hsl : SL b L xs WK) (hi : i + 6 ≤ L) {σ σ1 σ2 : St} {v : Int32} (h1 : mX10_cost (xs (i + 1)) σ = some (v, σ1)) (h2 : mX11_cost (xs (i + 1)) σ1 = some (v, σ2)) (k : WK 1546 [(0, .ref b), (1, .ref (g.2.2 0)), (2, .ref (g.2.2 45)), (3, .ref (g.2.2 66)), (4, .int (nI i))] [] σ2) : WK 1496 [(0, .ref b), (1, .ref (g.2.2 0)), (2, .ref (g.2.2 45)), (3, .ref (g.2.2 66)), (4, .int (nI i))] [] σ := by
  refine k_aload_n C (dk dL_law_29 18 rfl) rfl 1 rfl ?_
  refine k_aload_n C (dk dL_law_29 19 rfl) rfl 0 rfl ?_
  refine k_iload C (dk dL_law_29 20 rfl) 4 rfl ?_
  refine k_iconst (v := (1 : Int32)) C (dk dL_law_29 21 rfl) (by decide) ?_
  refine k_iadd C (dk dL_law_29 22 rfl) ?_
  refine hsl.1 _ _ _ _ (i + 1) _ (nI_add i 1) (by omega) (dk dL_law_29 23 rfl) ?_
  refine k_cv (T := TX10) (N := 9) (ci := 5) (ob := 0) (As := [.int (xs (i + 1))]) (st := []) C (qX10_cost l g hg h1) (iW38 _ (List.mem_of_getElem? (i := 3) rfl)) (iW38 _ (List.mem_of_getElem? (i := 4) rfl)) (iW38 _ (List.mem_of_getElem? (i := 5) rfl)) (iW0 _ (List.mem_of_getElem? (i := 2) rfl)) (iW38 _ (List.mem_of_getElem? (i := 6) rfl)) rfl rfl hdX10_cost (by decide) rfl (by decide) rfl rfl rfl (Nat.le_of_ble_eq_true rfl) (dk dL_law_29 24 rfl) ?_
  refine k_aload_n C (dk dL_law_29 25 rfl) rfl 2 rfl ?_
  refine k_aload_n C (dk dL_law_29 26 rfl) rfl 0 rfl ?_
  refine k_iload C (dk dL_law_29 27 rfl) 4 rfl ?_
  refine k_iconst (v := (1 : Int32)) C (dk dL_law_29 28 rfl) (by decide) ?_
  refine k_iadd C (dk dL_law_29 29 rfl) ?_
  refine hsl.1 _ _ _ _ (i + 1) _ (nI_add i 1) (by omega) (dk dL_law_29 30 rfl) ?_
  refine k_cv (T := TX11) (N := 39) (ci := 6) (ob := 45) (As := [.int (xs (i + 1))]) (st := [.int v]) C (qX11_cost l g hg h2) (iW38 _ (List.mem_of_getElem? (i := 11) rfl)) (iW38 _ (List.mem_of_getElem? (i := 12) rfl)) (iW38 _ (List.mem_of_getElem? (i := 13) rfl)) (iW0 _ (List.mem_of_getElem? (i := 5) rfl)) (iW38 _ (List.mem_of_getElem? (i := 14) rfl)) rfl rfl hdX11_cost (by decide) rfl (by decide) rfl rfl rfl (Nat.le_of_ble_eq_true rfl) (dk dL_law_29 31 rfl) ?_
  refine k_icmp_eq (tgt := 1546) (a := some (0 : Nat)) (b := none) (r := 0) C (dk dL_law_30 0 rfl) (by decide) (if_pos rfl) (fun _ => ?_) (fun h => nomatch h)
  exact k
def stp032 (I : St → Prop) (f g : St → Option (Int32 × St)) : Prop := ∀ (σ : St), I σ → ∃ (v : Int32) (σ1 σ2 : St), f  σ = some (v, σ1) ∧ g  σ1 = some (v, σ2) ∧ I σ2
def stp064 (I : St → Prop) (f g : St → Option (Int64 × St)) : Prop := ∀ (σ : St), I σ → ∃ (v : Int64) (σ1 σ2 : St), f  σ = some (v, σ1) ∧ g  σ1 = some (v, σ2) ∧ I σ2
def stp132 (I : St → Prop) (f g : Int32 → St → Option (Int32 × St)) : Prop := ∀ (σ : St) (a0 : Int32), I σ → ∃ (v : Int32) (σ1 σ2 : St), f a0 σ = some (v, σ1) ∧ g a0 σ1 = some (v, σ2) ∧ I σ2
def stp164 (I : St → Prop) (f g : Int32 → St → Option (Int64 × St)) : Prop := ∀ (σ : St) (a0 : Int32), I σ → ∃ (v : Int64) (σ1 σ2 : St), f a0 σ = some (v, σ1) ∧ g a0 σ1 = some (v, σ2) ∧ I σ2
def stp232 (I : St → Prop) (f g : Int32 → Int32 → St → Option (Int32 × St)) : Prop := ∀ (σ : St) (a0 a1 : Int32), I σ → ∃ (v : Int32) (σ1 σ2 : St), f a0 a1 σ = some (v, σ1) ∧ g a0 a1 σ1 = some (v, σ2) ∧ I σ2
def stp264 (I : St → Prop) (f g : Int32 → Int32 → St → Option (Int64 × St)) : Prop := ∀ (σ : St) (a0 a1 : Int32), I σ → ∃ (v : Int64) (σ1 σ2 : St), f a0 a1 σ = some (v, σ1) ∧ g a0 a1 σ1 = some (v, σ2) ∧ I σ2
def stp332 (I : St → Prop) (f g : Int32 → Int32 → Int32 → St → Option (Int32 × St)) : Prop := ∀ (σ : St) (a0 a1 a2 : Int32), I σ → ∃ (v : Int32) (σ1 σ2 : St), f a0 a1 a2 σ = some (v, σ1) ∧ g a0 a1 a2 σ1 = some (v, σ2) ∧ I σ2
def stp364 (I : St → Prop) (f g : Int32 → Int32 → Int32 → St → Option (Int64 × St)) : Prop := ∀ (σ : St) (a0 a1 a2 : Int32), I σ → ∃ (v : Int64) (σ1 σ2 : St), f a0 a1 a2 σ = some (v, σ1) ∧ g a0 a1 a2 σ1 = some (v, σ2) ∧ I σ2
def stp432 (I : St → Prop) (f g : Int32 → Int32 → Int32 → Int32 → St → Option (Int32 × St)) : Prop := ∀ (σ : St) (a0 a1 a2 a3 : Int32), I σ → ∃ (v : Int32) (σ1 σ2 : St), f a0 a1 a2 a3 σ = some (v, σ1) ∧ g a0 a1 a2 a3 σ1 = some (v, σ2) ∧ I σ2
def stp464 (I : St → Prop) (f g : Int32 → Int32 → Int32 → Int32 → St → Option (Int64 × St)) : Prop := ∀ (σ : St) (a0 a1 a2 a3 : Int32), I σ → ∃ (v : Int64) (σ1 σ2 : St), f a0 a1 a2 a3 σ = some (v, σ1) ∧ g a0 a1 a2 a3 σ1 = some (v, σ2) ∧ I σ2
def stp532 (I : St → Prop) (f g : Int32 → Int32 → Int32 → Int32 → Int32 → St → Option (Int32 × St)) : Prop := ∀ (σ : St) (a0 a1 a2 a3 a4 : Int32), I σ → ∃ (v : Int32) (σ1 σ2 : St), f a0 a1 a2 a3 a4 σ = some (v, σ1) ∧ g a0 a1 a2 a3 a4 σ1 = some (v, σ2) ∧ I σ2
def stp564 (I : St → Prop) (f g : Int32 → Int32 → Int32 → Int32 → Int32 → St → Option (Int64 × St)) : Prop := ∀ (σ : St) (a0 a1 a2 a3 a4 : Int32), I σ → ∃ (v : Int64) (σ1 σ2 : St), f a0 a1 a2 a3 a4 σ = some (v, σ1) ∧ g a0 a1 a2 a3 a4 σ1 = some (v, σ2) ∧ I σ2
def Steps (I : St → Prop) : Prop := stp132 I mX10_land mX11_land ∧ stp232 I mX10_ground mX11_ground ∧ stp232 I mX10_lays mX11_lays ∧ stp232 I mX10_stands mX11_stands ∧ stp232 I mX10_set mX11_set ∧ stp232 I mX10_go mX11_go ∧ stp232 I mX10_far mX11_far ∧ stp232 I mX10_steps mX11_steps ∧ stp132 I mX10_pairs mX11_pairs ∧ stp032 I mX10_islands mX11_islands ∧ stp132 I mX10_island mX11_island ∧ stp132 I mX10_middle mX11_middle ∧ stp232 I mX10_see mX11_see ∧ stp332 I mX10_way mX11_way ∧ stp232 I mX10_hinders mX11_hinders ∧ stp232 I mX10_needs mX11_needs ∧ stp132 I mX10_within mX11_within ∧ stp164 I mX10_ways mX11_ways ∧ stp164 I mX10_rounds mX11_rounds ∧ stp232 I mX10_late mX11_late ∧ stp264 I mX10_hisWay mX11_hisWay ∧ stp132 I mX10_letter mX11_letter ∧ stp132 I mX10_third mX11_third ∧ stp132 I mX10_game mX11_game ∧ stp364 I mX10_snow mX11_snow ∧ stp164 I mX10_mean mX11_mean ∧ stp132 I mX10_curve mX11_curve ∧ stp132 I mX10_judge mX11_judge ∧ stp332 I mX10_seeds mX11_seeds ∧ stp032 I mX10_image mX11_image ∧ stp032 I mX10_restore mX11_restore ∧ stp132 I mX10_count mX11_count ∧ stp432 I mX10_keep mX11_keep ∧ stp332 I mX10_row mX11_row ∧ stp332 I mX10_put mX11_put ∧ stp532 I mX10_copy mX11_copy ∧ stp132 I mX10_cost mX11_cost
/-- the two calls that make cells -/
def exc (k : Nat) (g : G) (I : St → Prop) (b L : Nat) (xs : Nat → Int32) (LKn : Nat → Nat → Nat → List (Nat × Value) → List Value → St → Prop) (pc : Nat) : Prop := ∀ (nc ns i : Nat) (σ : St), nc + 1 ≤ 601024 → ns + 6 ≤ 7293034 → i + 6 ≤ L → I σ → (∀ σ2, I σ2 → LKn (nc + 1) (ns + 6) 1546 [(0, .ref b), (1, .ref (g.2.2 0)), (2, .ref (g.2.2 45)), (3, .ref (g.2.2 66)), (4, .int (nI i))] [] σ2) → LKn nc ns pc [(0, .ref b), (1, .ref (g.2.2 0)), (2, .ref (g.2.2 45)), (3, .ref (g.2.2 66)), (4, .int (nI i))] [] σ
theorem lw_cmpF {j L : Nat} (h : 6 * j + 6 ≤ L) (hL : L ≤ 3072) : ¬ nI L - 6 < nI (6 * j) := by
  have e : nI L - (6 : Int32) = nI (L - 6) := pk_sub (a := L) (b := 6) (by omega)
  rw [e]
  exact nI_nlt (by omega) (by omega)
theorem lw_cmpT {j L : Nat} (h : ¬ 6 * j + 6 ≤ L) (hL : L ≤ 3072) (hj : 6 * j ≤ L + 6) : nI L - 6 < nI (6 * j) := by
  rcases Nat.lt_or_ge L 6 with q | q
  · have e : nI L - (6 : Int32) < 0 := pk_sneg (a := L) (b := 6) (by omega) q
    refine Int32.lt_iff_toInt_lt.mpr ?_
    have e1 := Int32.lt_iff_toInt_lt.mp e
    have e2 := nI_toInt (n := 6 * j) (by omega)
    have e3 : (0 : Int32).toInt = 0 := by decide
    omega
  · have e : nI L - (6 : Int32) = nI (L - 6) := pk_sub (a := L) (b := 6) q
    rw [e]
    exact nI_lt (by omega) (by omega)
set_option maxRecDepth 100000 in
set_option maxHeartbeats 8000000 in
theorem law_loop {g : G} {p : Program} {l : Launch} {e : Env} {s : State} {m : MethodId} {below : List Frame} {meth : Method} {c : Code} {b L : Nat} {xs : Nat → Int32} (I : St → Prop) (hst : Steps I) (hL : L ≤ 3072) (C0 : lw_At p s m meth c b L xs) (hU : wU g s) (hg : gOK g) (hga : ∀ o, o < 67 → s.heap.size ≤ g.2.2 o) {c0 s0 : Nat}
    (h35 : exc 35 g I b L xs (LK g p l e s m below meth c b) 1356) (h38 : exc 38 g I b L xs (LK g p l e s m below meth c b) 1521) :
    ∀ (n j : Nat) (σ : St), L + 6 ≤ 6 * (j + n) → I σ → 6 * j ≤ L + 5 → c0 + 1000 ≤ 601024 ∧ s0 + 10000 ≤ 7293034 → LK g p l e s m below meth c b (c0 + j) (s0 + 6 * j) 23 [(0, .ref b), (1, .ref (g.2.2 0)), (2, .ref (g.2.2 45)), (3, .ref (g.2.2 66)), (4, .int (nI (6 * j)))] [] σ := by
  intro n
  induction n with
  | zero => intro j σ h1; omega
  | succ n ih =>
    intro j σ hj hI hc hs
    have C : kY g l room_1 RL cL_law 8 (LK g p l e s m below meth c b (c0 + j) (s0 + 6 * j)) := LK_y C0 hU hg (by omega) (by omega)
    have hsl : SL b L xs (LK g p l e s m below meth c b (c0 + j) (s0 + 6 * j)) := LK_s C0 hL hga
    have hgo : ∀ σ2, I σ2 → 6 * j + 6 ≤ L → LK g p l e s m below meth c b (c0 + j + 1) (s0 + 6 * j + 6) 1546 [(0, .ref b), (1, .ref (g.2.2 0)), (2, .ref (g.2.2 45)), (3, .ref (g.2.2 66)), (4, .int (nI (6 * j)))] [] σ2 := by
      intro σ2 hI2 h6
      have C2 : kY g l room_1 RL cL_law 8 (LK g p l e s m below meth c b (c0 + j + 1) (s0 + 6 * j + 6)) := LK_y C0 hU hg (by omega) (by omega)
      refine k_iinc (v := nI (6 * (j + 1))) (lv' := [(4, .int (nI (6 * (j + 1)))), (0, .ref b), (1, .ref (g.2.2 0)), (2, .ref (g.2.2 45)), (3, .ref (g.2.2 66))]) C2 (dk dL_law_30 20 rfl) (j := 4) rfl (nI_add (6 * j) 6) (by decide) rfl ?_
      refine k_goto (tgt := 23) C2 (dk dL_law_30 21 rfl) (by decide) ?_
      refine k_sub C2 [1, 2, 3, 4, 0] rfl ?_
      exact ih (j + 1) σ2 (by omega) hI2 (by omega) (by omega)
    have hord : ∀ σ2, I σ2 → 6 * j + 6 ≤ L → LK g p l e s m below meth c b (c0 + j) (s0 + 6 * j) 1546 [(0, .ref b), (1, .ref (g.2.2 0)), (2, .ref (g.2.2 45)), (3, .ref (g.2.2 66)), (4, .int (nI (6 * j)))] [] σ2 := fun σ2 hI2 h6 ls H locs hl hP hS => W.widen (k := c0 + j + 1) (n := s0 + 6 * j + 6) (by omega) (by omega) (hgo σ2 hI2 h6 ls H locs hl hP hS)
    refine k_iload C (dk dL_law_0 13 rfl) 4 rfl ?_
    refine k_aload_n C (dk dL_law_0 14 rfl) rfl 0 rfl ?_
    refine hsl.2 _ _ _ _ (dk dL_law_0 15 rfl) ?_
    refine k_bipush (v := (6 : Int32)) C (dk dL_law_0 16 rfl) (by decide) ?_
    refine k_isub C (dk dL_law_0 17 rfl) ?_
    by_cases h6 : 6 * j + 6 ≤ L
    · refine k_icmp_gt (tgt := 1552) (a := none) (b := some (0 : Nat)) (r := 0) C (dk dL_law_0 18 rfl) (by decide) (if_neg (lw_cmpF h6 hL)) (fun h => nomatch h) (fun _ => ?_)
      refine k_aload_n C (dk dL_law_0 19 rfl) rfl 0 rfl ?_
      refine k_iload C (dk dL_law_0 20 rfl) 4 rfl ?_
      refine hsl.1 _ _ _ _ (6 * j) _ rfl (by omega) (dk dL_law_0 21 rfl) ?_
      refine k_bipush (v := (63 : Int32)) C (dk dL_law_0 22 rfl) (by decide) ?_
      refine k_iand C (dk dL_law_0 23 rfl) ?_
      obtain ⟨x, ex⟩ : ∃ x, x = xs (6 * j) &&& (63 : Int32) := ⟨_, rfl⟩
      rw [← ex]
      obtain ⟨t0, t1, t2, t3, t4, t5, t6, t7, t8, t9, t10, t11, t12, t13, t14, t15, t16, t17, t18, t19, t20, t21, t22, t23, t24, t25, t26, t27, t28, t29, t30, t31, t32, t33, t34, t36, t37⟩ := hst
      by_cases e0 : x = (0 : Int32)
      · refine k_tsIn (q := (0 : Int32)) (tgt := 212) C (dk dL_law_0 24 rfl) (by decide) (by decide) rfl (by decide) e0 ?_
        obtain ⟨v, σ1, σ2, h1, h2, hI2⟩ := t0 σ (xs (6 * j + 1)) hI
        exact law_c0 hg C hsl h6 h1 h2 (hord σ2 hI2 h6)
      by_cases e1 : x = (1 : Int32)
      · refine k_tsIn (q := (1 : Int32)) (tgt := 237) C (dk dL_law_0 24 rfl) (by decide) (by decide) rfl (by decide) e1 ?_
        obtain ⟨v, σ1, σ2, h1, h2, hI2⟩ := t1 σ (xs (6 * j + 1)) (xs (6 * j + 2)) hI
        exact law_c1 hg C hsl h6 h1 h2 (hord σ2 hI2 h6)
      by_cases e2 : x = (2 : Int32)
      · refine k_tsIn (q := (2 : Int32)) (tgt := 274) C (dk dL_law_0 24 rfl) (by decide) (by decide) rfl (by decide) e2 ?_
        obtain ⟨v, σ1, σ2, h1, h2, hI2⟩ := t2 σ (xs (6 * j + 1)) (xs (6 * j + 2)) hI
        exact law_c2 hg C hsl h6 h1 h2 (hord σ2 hI2 h6)
      by_cases e3 : x = (3 : Int32)
      · refine k_tsIn (q := (3 : Int32)) (tgt := 311) C (dk dL_law_0 24 rfl) (by decide) (by decide) rfl (by decide) e3 ?_
        obtain ⟨v, σ1, σ2, h1, h2, hI2⟩ := t3 σ (xs (6 * j + 1)) (xs (6 * j + 2)) hI
        exact law_c3 hg C hsl h6 h1 h2 (hord σ2 hI2 h6)
      by_cases e4 : x = (4 : Int32)
      · refine k_tsIn (q := (4 : Int32)) (tgt := 348) C (dk dL_law_0 24 rfl) (by decide) (by decide) rfl (by decide) e4 ?_
        obtain ⟨v, σ1, σ2, h1, h2, hI2⟩ := t4 σ (xs (6 * j + 1)) (xs (6 * j + 2)) hI
        exact law_c4 hg C hsl h6 h1 h2 (hord σ2 hI2 h6)
      by_cases e5 : x = (5 : Int32)
      · refine k_tsIn (q := (5 : Int32)) (tgt := 385) C (dk dL_law_0 24 rfl) (by decide) (by decide) rfl (by decide) e5 ?_
        obtain ⟨v, σ1, σ2, h1, h2, hI2⟩ := t5 σ (xs (6 * j + 1)) (xs (6 * j + 2)) hI
        exact law_c5 hg C hsl h6 h1 h2 (hord σ2 hI2 h6)
      by_cases e6 : x = (6 : Int32)
      · refine k_tsIn (q := (6 : Int32)) (tgt := 422) C (dk dL_law_0 24 rfl) (by decide) (by decide) rfl (by decide) e6 ?_
        obtain ⟨v, σ1, σ2, h1, h2, hI2⟩ := t6 σ (xs (6 * j + 1)) (xs (6 * j + 2)) hI
        exact law_c6 hg C hsl h6 h1 h2 (hord σ2 hI2 h6)
      by_cases e7 : x = (7 : Int32)
      · refine k_tsIn (q := (7 : Int32)) (tgt := 459) C (dk dL_law_0 24 rfl) (by decide) (by decide) rfl (by decide) e7 ?_
        obtain ⟨v, σ1, σ2, h1, h2, hI2⟩ := t7 σ (xs (6 * j + 1)) (xs (6 * j + 2)) hI
        exact law_c7 hg C hsl h6 h1 h2 (hord σ2 hI2 h6)
      by_cases e8 : x = (8 : Int32)
      · refine k_tsIn (q := (8 : Int32)) (tgt := 496) C (dk dL_law_0 24 rfl) (by decide) (by decide) rfl (by decide) e8 ?_
        obtain ⟨v, σ1, σ2, h1, h2, hI2⟩ := t8 σ (xs (6 * j + 1)) hI
        exact law_c8 hg C hsl h6 h1 h2 (hord σ2 hI2 h6)
      by_cases e9 : x = (9 : Int32)
      · refine k_tsIn (q := (9 : Int32)) (tgt := 521) C (dk dL_law_0 24 rfl) (by decide) (by decide) rfl (by decide) e9 ?_
        obtain ⟨v, σ1, σ2, h1, h2, hI2⟩ := t9 σ  hI
        exact law_c9 hg C hsl h6 h1 h2 (hord σ2 hI2 h6)
      by_cases e10 : x = (10 : Int32)
      · refine k_tsIn (q := (10 : Int32)) (tgt := 534) C (dk dL_law_0 24 rfl) (by decide) (by decide) rfl (by decide) e10 ?_
        obtain ⟨v, σ1, σ2, h1, h2, hI2⟩ := t10 σ (xs (6 * j + 1)) hI
        exact law_c10 hg C hsl h6 h1 h2 (hord σ2 hI2 h6)
      by_cases e11 : x = (11 : Int32)
      · refine k_tsIn (q := (11 : Int32)) (tgt := 559) C (dk dL_law_0 24 rfl) (by decide) (by decide) rfl (by decide) e11 ?_
        obtain ⟨v, σ1, σ2, h1, h2, hI2⟩ := t11 σ (xs (6 * j + 1)) hI
        exact law_c11 hg C hsl h6 h1 h2 (hord σ2 hI2 h6)
      by_cases e12 : x = (12 : Int32)
      · refine k_tsIn (q := (12 : Int32)) (tgt := 584) C (dk dL_law_0 24 rfl) (by decide) (by decide) rfl (by decide) e12 ?_
        obtain ⟨v, σ1, σ2, h1, h2, hI2⟩ := t12 σ (xs (6 * j + 1)) (xs (6 * j + 2)) hI
        exact law_c12 hg C hsl h6 h1 h2 (hord σ2 hI2 h6)
      by_cases e13 : x = (13 : Int32)
      · refine k_tsIn (q := (13 : Int32)) (tgt := 621) C (dk dL_law_0 24 rfl) (by decide) (by decide) rfl (by decide) e13 ?_
        obtain ⟨v, σ1, σ2, h1, h2, hI2⟩ := t13 σ (xs (6 * j + 1)) (xs (6 * j + 2)) (xs (6 * j + 3)) hI
        exact law_c13 hg C hsl h6 h1 h2 (hord σ2 hI2 h6)
      by_cases e14 : x = (14 : Int32)
      · refine k_tsIn (q := (14 : Int32)) (tgt := 670) C (dk dL_law_0 24 rfl) (by decide) (by decide) rfl (by decide) e14 ?_
        obtain ⟨v, σ1, σ2, h1, h2, hI2⟩ := t14 σ (xs (6 * j + 1)) (xs (6 * j + 2)) hI
        exact law_c14 hg C hsl h6 h1 h2 (hord σ2 hI2 h6)
      by_cases e15 : x = (15 : Int32)
      · refine k_tsIn (q := (15 : Int32)) (tgt := 707) C (dk dL_law_0 24 rfl) (by decide) (by decide) rfl (by decide) e15 ?_
        obtain ⟨v, σ1, σ2, h1, h2, hI2⟩ := t15 σ (xs (6 * j + 1)) (xs (6 * j + 2)) hI
        exact law_c15 hg C hsl h6 h1 h2 (hord σ2 hI2 h6)
      by_cases e16 : x = (16 : Int32)
      · refine k_tsIn (q := (16 : Int32)) (tgt := 744) C (dk dL_law_0 24 rfl) (by decide) (by decide) rfl (by decide) e16 ?_
        obtain ⟨v, σ1, σ2, h1, h2, hI2⟩ := t16 σ (xs (6 * j + 1)) hI
        exact law_c16 hg C hsl h6 h1 h2 (hord σ2 hI2 h6)
      by_cases e17 : x = (17 : Int32)
      · refine k_tsIn (q := (17 : Int32)) (tgt := 769) C (dk dL_law_0 24 rfl) (by decide) (by decide) rfl (by decide) e17 ?_
        obtain ⟨v, σ1, σ2, h1, h2, hI2⟩ := t17 σ (xs (6 * j + 1)) hI
        exact law_c17 hg C hsl h6 h1 h2 (hord σ2 hI2 h6)
      by_cases e18 : x = (18 : Int32)
      · refine k_tsIn (q := (18 : Int32)) (tgt := 795) C (dk dL_law_0 24 rfl) (by decide) (by decide) rfl (by decide) e18 ?_
        obtain ⟨v, σ1, σ2, h1, h2, hI2⟩ := t18 σ (xs (6 * j + 1)) hI
        exact law_c18 hg C hsl h6 h1 h2 (hord σ2 hI2 h6)
      by_cases e19 : x = (19 : Int32)
      · refine k_tsIn (q := (19 : Int32)) (tgt := 821) C (dk dL_law_0 24 rfl) (by decide) (by decide) rfl (by decide) e19 ?_
        obtain ⟨v, σ1, σ2, h1, h2, hI2⟩ := t19 σ (xs (6 * j + 1)) (xs (6 * j + 2)) hI
        exact law_c19 hg C hsl h6 h1 h2 (hord σ2 hI2 h6)
      by_cases e20 : x = (20 : Int32)
      · refine k_tsIn (q := (20 : Int32)) (tgt := 858) C (dk dL_law_0 24 rfl) (by decide) (by decide) rfl (by decide) e20 ?_
        obtain ⟨v, σ1, σ2, h1, h2, hI2⟩ := t20 σ (xs (6 * j + 1)) (xs (6 * j + 2)) hI
        exact law_c20 hg C hsl h6 h1 h2 (hord σ2 hI2 h6)
      by_cases e21 : x = (21 : Int32)
      · refine k_tsIn (q := (21 : Int32)) (tgt := 896) C (dk dL_law_0 24 rfl) (by decide) (by decide) rfl (by decide) e21 ?_
        obtain ⟨v, σ1, σ2, h1, h2, hI2⟩ := t21 σ (xs (6 * j + 1)) hI
        exact law_c21 hg C hsl h6 h1 h2 (hord σ2 hI2 h6)
      by_cases e22 : x = (22 : Int32)
      · refine k_tsIn (q := (22 : Int32)) (tgt := 921) C (dk dL_law_0 24 rfl) (by decide) (by decide) rfl (by decide) e22 ?_
        obtain ⟨v, σ1, σ2, h1, h2, hI2⟩ := t22 σ (xs (6 * j + 1)) hI
        exact law_c22 hg C hsl h6 h1 h2 (hord σ2 hI2 h6)
      by_cases e23 : x = (23 : Int32)
      · refine k_tsIn (q := (23 : Int32)) (tgt := 946) C (dk dL_law_0 24 rfl) (by decide) (by decide) rfl (by decide) e23 ?_
        obtain ⟨v, σ1, σ2, h1, h2, hI2⟩ := t23 σ (xs (6 * j + 1)) hI
        exact law_c23 hg C hsl h6 h1 h2 (hord σ2 hI2 h6)
      by_cases e24 : x = (24 : Int32)
      · refine k_tsIn (q := (24 : Int32)) (tgt := 971) C (dk dL_law_0 24 rfl) (by decide) (by decide) rfl (by decide) e24 ?_
        obtain ⟨v, σ1, σ2, h1, h2, hI2⟩ := t24 σ (xs (6 * j + 1)) (xs (6 * j + 2)) (xs (6 * j + 3)) hI
        exact law_c24 hg C hsl h6 h1 h2 (hord σ2 hI2 h6)
      by_cases e25 : x = (25 : Int32)
      · refine k_tsIn (q := (25 : Int32)) (tgt := 1021) C (dk dL_law_0 24 rfl) (by decide) (by decide) rfl (by decide) e25 ?_
        obtain ⟨v, σ1, σ2, h1, h2, hI2⟩ := t25 σ (xs (6 * j + 1)) hI
        exact law_c25 hg C hsl h6 h1 h2 (hord σ2 hI2 h6)
      by_cases e26 : x = (26 : Int32)
      · refine k_tsIn (q := (26 : Int32)) (tgt := 1047) C (dk dL_law_0 24 rfl) (by decide) (by decide) rfl (by decide) e26 ?_
        obtain ⟨v, σ1, σ2, h1, h2, hI2⟩ := t26 σ (xs (6 * j + 1)) hI
        exact law_c26 hg C hsl h6 h1 h2 (hord σ2 hI2 h6)
      by_cases e27 : x = (27 : Int32)
      · refine k_tsIn (q := (27 : Int32)) (tgt := 1072) C (dk dL_law_0 24 rfl) (by decide) (by decide) rfl (by decide) e27 ?_
        obtain ⟨v, σ1, σ2, h1, h2, hI2⟩ := t27 σ (xs (6 * j + 1)) hI
        exact law_c27 hg C hsl h6 h1 h2 (hord σ2 hI2 h6)
      by_cases e28 : x = (28 : Int32)
      · refine k_tsIn (q := (28 : Int32)) (tgt := 1097) C (dk dL_law_0 24 rfl) (by decide) (by decide) rfl (by decide) e28 ?_
        obtain ⟨v, σ1, σ2, h1, h2, hI2⟩ := t28 σ (xs (6 * j + 1)) (xs (6 * j + 2)) (xs (6 * j + 3)) hI
        exact law_c28 hg C hsl h6 h1 h2 (hord σ2 hI2 h6)
      by_cases e29 : x = (29 : Int32)
      · refine k_tsIn (q := (29 : Int32)) (tgt := 1146) C (dk dL_law_0 24 rfl) (by decide) (by decide) rfl (by decide) e29 ?_
        obtain ⟨v, σ1, σ2, h1, h2, hI2⟩ := t29 σ  hI
        exact law_c29 hg C hsl h6 h1 h2 (hord σ2 hI2 h6)
      by_cases e30 : x = (30 : Int32)
      · refine k_tsIn (q := (30 : Int32)) (tgt := 1159) C (dk dL_law_0 24 rfl) (by decide) (by decide) rfl (by decide) e30 ?_
        obtain ⟨v, σ1, σ2, h1, h2, hI2⟩ := t30 σ  hI
        exact law_c30 hg C hsl h6 h1 h2 (hord σ2 hI2 h6)
      by_cases e31 : x = (31 : Int32)
      · refine k_tsIn (q := (31 : Int32)) (tgt := 1172) C (dk dL_law_0 24 rfl) (by decide) (by decide) rfl (by decide) e31 ?_
        obtain ⟨v, σ1, σ2, h1, h2, hI2⟩ := t31 σ (xs (6 * j + 1)) hI
        exact law_c31 hg C hsl h6 h1 h2 (hord σ2 hI2 h6)
      by_cases e32 : x = (32 : Int32)
      · refine k_tsIn (q := (32 : Int32)) (tgt := 1197) C (dk dL_law_0 24 rfl) (by decide) (by decide) rfl (by decide) e32 ?_
        obtain ⟨v, σ1, σ2, h1, h2, hI2⟩ := t32 σ (xs (6 * j + 1)) (xs (6 * j + 2)) (xs (6 * j + 3)) (xs (6 * j + 4)) hI
        exact law_c32 hg C hsl h6 h1 h2 (hord σ2 hI2 h6)
      by_cases e33 : x = (33 : Int32)
      · refine k_tsIn (q := (33 : Int32)) (tgt := 1258) C (dk dL_law_0 24 rfl) (by decide) (by decide) rfl (by decide) e33 ?_
        obtain ⟨v, σ1, σ2, h1, h2, hI2⟩ := t33 σ (xs (6 * j + 1)) (xs (6 * j + 2)) (xs (6 * j + 3)) hI
        exact law_c33 hg C hsl h6 h1 h2 (hord σ2 hI2 h6)
      by_cases e34 : x = (34 : Int32)
      · refine k_tsIn (q := (34 : Int32)) (tgt := 1307) C (dk dL_law_0 24 rfl) (by decide) (by decide) rfl (by decide) e34 ?_
        obtain ⟨v, σ1, σ2, h1, h2, hI2⟩ := t34 σ (xs (6 * j + 1)) (xs (6 * j + 2)) (xs (6 * j + 3)) hI
        exact law_c34 hg C hsl h6 h1 h2 (hord σ2 hI2 h6)
      by_cases e35 : x = (35 : Int32)
      · refine k_tsIn (q := (35 : Int32)) (tgt := 1356) C (dk dL_law_0 24 rfl) (by decide) (by decide) rfl (by decide) e35 ?_
        exact h35 _ _ _ σ (by omega) (by omega) h6 hI (fun σ2 hI2 => hgo σ2 hI2 h6)
      by_cases e36 : x = (36 : Int32)
      · refine k_tsIn (q := (36 : Int32)) (tgt := 1423) C (dk dL_law_0 24 rfl) (by decide) (by decide) rfl (by decide) e36 ?_
        obtain ⟨v, σ1, σ2, h1, h2, hI2⟩ := t36 σ (xs (6 * j + 1)) (xs (6 * j + 2)) (xs (6 * j + 3)) (xs (6 * j + 4)) (xs (6 * j + 5)) hI
        exact law_c36 hg C hsl h6 h1 h2 (hord σ2 hI2 h6)
      by_cases e37 : x = (37 : Int32)
      · refine k_tsIn (q := (37 : Int32)) (tgt := 1496) C (dk dL_law_0 24 rfl) (by decide) (by decide) rfl (by decide) e37 ?_
        obtain ⟨v, σ1, σ2, h1, h2, hI2⟩ := t37 σ (xs (6 * j + 1)) hI
        exact law_c37 hg C hsl h6 h1 h2 (hord σ2 hI2 h6)
      by_cases e38 : x = (38 : Int32)
      · refine k_tsIn (q := (38 : Int32)) (tgt := 1521) C (dk dL_law_0 24 rfl) (by decide) (by decide) rfl (by decide) e38 ?_
        exact h38 _ _ _ σ (by omega) (by omega) h6 hI (fun σ2 hI2 => hgo σ2 hI2 h6)
      refine k_tsOut (tgt := 1546) C (dk dL_law_0 24 rfl) (by have n0 : x.toInt ≠ 0 := fun q => e0 (Int32.toInt_inj.mp (q.trans (by decide))); have n1 : x.toInt ≠ 1 := fun q => e1 (Int32.toInt_inj.mp (q.trans (by decide))); have n2 : x.toInt ≠ 2 := fun q => e2 (Int32.toInt_inj.mp (q.trans (by decide))); have n3 : x.toInt ≠ 3 := fun q => e3 (Int32.toInt_inj.mp (q.trans (by decide))); have n4 : x.toInt ≠ 4 := fun q => e4 (Int32.toInt_inj.mp (q.trans (by decide))); have n5 : x.toInt ≠ 5 := fun q => e5 (Int32.toInt_inj.mp (q.trans (by decide))); have n6 : x.toInt ≠ 6 := fun q => e6 (Int32.toInt_inj.mp (q.trans (by decide))); have n7 : x.toInt ≠ 7 := fun q => e7 (Int32.toInt_inj.mp (q.trans (by decide))); have n8 : x.toInt ≠ 8 := fun q => e8 (Int32.toInt_inj.mp (q.trans (by decide))); have n9 : x.toInt ≠ 9 := fun q => e9 (Int32.toInt_inj.mp (q.trans (by decide))); have n10 : x.toInt ≠ 10 := fun q => e10 (Int32.toInt_inj.mp (q.trans (by decide))); have n11 : x.toInt ≠ 11 := fun q => e11 (Int32.toInt_inj.mp (q.trans (by decide))); have n12 : x.toInt ≠ 12 := fun q => e12 (Int32.toInt_inj.mp (q.trans (by decide))); have n13 : x.toInt ≠ 13 := fun q => e13 (Int32.toInt_inj.mp (q.trans (by decide))); have n14 : x.toInt ≠ 14 := fun q => e14 (Int32.toInt_inj.mp (q.trans (by decide))); have n15 : x.toInt ≠ 15 := fun q => e15 (Int32.toInt_inj.mp (q.trans (by decide))); have n16 : x.toInt ≠ 16 := fun q => e16 (Int32.toInt_inj.mp (q.trans (by decide))); have n17 : x.toInt ≠ 17 := fun q => e17 (Int32.toInt_inj.mp (q.trans (by decide))); have n18 : x.toInt ≠ 18 := fun q => e18 (Int32.toInt_inj.mp (q.trans (by decide))); have n19 : x.toInt ≠ 19 := fun q => e19 (Int32.toInt_inj.mp (q.trans (by decide))); have n20 : x.toInt ≠ 20 := fun q => e20 (Int32.toInt_inj.mp (q.trans (by decide))); have n21 : x.toInt ≠ 21 := fun q => e21 (Int32.toInt_inj.mp (q.trans (by decide))); have n22 : x.toInt ≠ 22 := fun q => e22 (Int32.toInt_inj.mp (q.trans (by decide))); have n23 : x.toInt ≠ 23 := fun q => e23 (Int32.toInt_inj.mp (q.trans (by decide))); have n24 : x.toInt ≠ 24 := fun q => e24 (Int32.toInt_inj.mp (q.trans (by decide))); have n25 : x.toInt ≠ 25 := fun q => e25 (Int32.toInt_inj.mp (q.trans (by decide))); have n26 : x.toInt ≠ 26 := fun q => e26 (Int32.toInt_inj.mp (q.trans (by decide))); have n27 : x.toInt ≠ 27 := fun q => e27 (Int32.toInt_inj.mp (q.trans (by decide))); have n28 : x.toInt ≠ 28 := fun q => e28 (Int32.toInt_inj.mp (q.trans (by decide))); have n29 : x.toInt ≠ 29 := fun q => e29 (Int32.toInt_inj.mp (q.trans (by decide))); have n30 : x.toInt ≠ 30 := fun q => e30 (Int32.toInt_inj.mp (q.trans (by decide))); have n31 : x.toInt ≠ 31 := fun q => e31 (Int32.toInt_inj.mp (q.trans (by decide))); have n32 : x.toInt ≠ 32 := fun q => e32 (Int32.toInt_inj.mp (q.trans (by decide))); have n33 : x.toInt ≠ 33 := fun q => e33 (Int32.toInt_inj.mp (q.trans (by decide))); have n34 : x.toInt ≠ 34 := fun q => e34 (Int32.toInt_inj.mp (q.trans (by decide))); have n35 : x.toInt ≠ 35 := fun q => e35 (Int32.toInt_inj.mp (q.trans (by decide))); have n36 : x.toInt ≠ 36 := fun q => e36 (Int32.toInt_inj.mp (q.trans (by decide))); have n37 : x.toInt ≠ 37 := fun q => e37 (Int32.toInt_inj.mp (q.trans (by decide))); have n38 : x.toInt ≠ 38 := fun q => e38 (Int32.toInt_inj.mp (q.trans (by decide))); omega) (by decide) ?_
      exact hord σ hI h6
    · refine k_icmp_gt (tgt := 1552) (a := some (0 : Nat)) (b := none) (r := 0) C (dk dL_law_0 18 rfl) (by decide) (if_pos (lw_cmpT h6 hL (by omega))) (fun _ => ?_) (fun h => nomatch h)
      refine k_iconst (v := (1 : Int32)) C (dk dL_law_30 22 rfl) (by decide) ?_
      intro ls H locs hl hP hS
      refine va_forget (fun q hq => ?_) ?_
      · rcases hS.2.2 q hq with ⟨o, ho, h⟩ | h
        · rw [h]; exact hga o ho
        · exact h
      refine W.widen (k := 601024) (n := 7293034) (by omega) (by omega) ?_
      obtain ⟨hx, hb, hr, hml, hown, hts, hX, hbl, hlocks, hgv⟩ := C0
      exact lw_ret hx hb hr hlocks (dk dL_law_30 23 rfl)
