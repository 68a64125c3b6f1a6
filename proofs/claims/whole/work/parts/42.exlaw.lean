theorem xF_tbl : ∀ w ∈ XF, w ∈ lw_tbl := by
  intro w hw
  simp only [XF, List.mem_append] at hw
  rcases hw with h | h | h | h | h
  · exact (show ∀ w ∈ (vx_atS RX2 19 xUOE xN).filter goodWord, w ∈ lw_tbl by decide +kernel) w h
  · exact (show ∀ w ∈ (vx_atS RX2 26 xISE xN).filter goodWord, w ∈ lw_tbl by decide +kernel) w h
  · exact (show ∀ w ∈ (vx_atS RX2 33 xIAE xN).filter goodWord, w ∈ lw_tbl by decide +kernel) w h
  · exact (show ∀ w ∈ (vx_atS RX10 349 xIAE xN).filter goodWord, w ∈ lw_tbl by decide +kernel) w h
  · exact (show ∀ w ∈ (vx_atS RX10 356 xISE xN).filter goodWord, w ∈ lw_tbl by decide +kernel) w h
theorem WX_tbl : ∀ w ∈ WX, w ∈ lw_tbl := fun w h => (List.mem_append.mp h).elim (WS_tbl w) (xF_tbl w)
theorem xstr_of {args : Array Value} {s : State} {own tx : String} {k : Nat} (h1 : (Cond.stringRef own k tx).before args s = true) (h2 : (Cond.exactly (.string own k) "java/lang/String").before args s = true) : ∃ a, vk_R own k tx a s := by
  obtain ⟨a, c0, cell, kA, ha, -⟩ := Cond.exactly_spec h2
  exact ⟨a, vk_R.of h1 ha⟩
set_option maxRecDepth 100000 in
set_option maxHeartbeats 4000000 in
theorem xU_law {p : Program} {s : State} {m : MethodId} {meth : Method} {c : Code} {b L : Nat} {xs : Nat → Int32} (C0 : lw_At p s m meth c b L xs) (A : Nat → Prop) (hA : ∀ a, a < s.heap.size → ¬ A a) : xU A s s.heap := by
  obtain ⟨hx, hb, hr, hml, hown, hts, hX, hbl, hlocks, hgv⟩ := C0
  have hs := flat_of_before _ hgv
  refine ⟨vx_Zqof (hts _ (List.mem_of_getElem? (i := 926) rfl)) (hts _ (List.mem_of_getElem? (i := 60) rfl)) (hs _ (by decide +kernel)) hA, vx_Zqof (hts _ (List.mem_of_getElem? (i := 928) rfl)) (hts _ (List.mem_of_getElem? (i := 60) rfl)) (hs _ (by decide +kernel)) hA, ?_, ?_, ?_, ?_⟩
  · intro q hq
    simp only [xstr, List.mem_cons, List.not_mem_nil, or_false] at hq
    rcases hq with rfl | rfl | rfl | rfl | rfl | rfl | rfl
    · exact xstr_of (hts _ (List.mem_of_getElem? (i := 940) rfl)) (hs _ (by decide +kernel))
    · exact xstr_of (hts _ (List.mem_of_getElem? (i := 976) rfl)) (hs _ (by decide +kernel))
    · exact xstr_of (hts _ (List.mem_of_getElem? (i := 983) rfl)) (hs _ (by decide +kernel))
    · exact xstr_of (hts _ (List.mem_of_getElem? (i := 993) rfl)) (hs _ (by decide +kernel))
    · exact xstr_of (hts _ (List.mem_of_getElem? (i := 1009) rfl)) (hs _ (by decide +kernel))
    · exact xstr_of (hts _ (List.mem_of_getElem? (i := 1011) rfl)) (hs _ (by decide +kernel))
    · exact xstr_of (hts _ (List.mem_of_getElem? (i := 1013) rfl)) (hs _ (by decide +kernel))
  · intro q hq
    simp only [xcst, List.mem_cons, List.not_mem_nil, or_false] at hq
    rcases hq with rfl | rfl | rfl
    · exact va_Nw.of rfl (hts _ (List.mem_of_getElem? (i := 901) rfl))
    · exact va_Nw.of rfl (hts _ (List.mem_of_getElem? (i := 969) rfl))
    · exact va_Nw.of rfl (hts _ (List.mem_of_getElem? (i := 986) rfl))
  · intro q hq
    simp only [xnc, List.mem_cons, List.not_mem_nil, or_false] at hq
    rcases hq with rfl | rfl | rfl | rfl
    · exact va_Nc.of (hs _ (by decide +kernel))
    · exact va_Nc.of (hs _ (by decide +kernel))
    · exact va_Nc.of (hs _ (by decide +kernel))
    · exact va_Nc.of (hs _ (by decide +kernel))
  · intro q hq
    simp only [xdcl, List.mem_cons, List.not_mem_nil, or_false] at hq
    rcases hq with rfl | rfl | rfl
    · exact va_Nw.of rfl (hts _ (List.mem_of_getElem? (i := 903) rfl))
    · exact va_Nw.of rfl (hts _ (List.mem_of_getElem? (i := 905) rfl))
    · exact va_Nw.of rfl (hts _ (List.mem_of_getElem? (i := 907) rfl))
theorem k_finA {g : G} {p : Program} {l : Launch} {e : Env} {R : Room} {s : State} {m : MethodId} {args : Array Value} {below : List Frame} {meth : Method} {c : Code} {H : Heap} {locs : List Loc} {ls : Array Slot} {stk st : List Value} {a : Array Value} {pc nc ns : Nat} {oo : Option Value} {σ' : St} {Q : State → Prop} (hS : va_S (aA g s.heap.size) s.heap H locs) (run : va_Run p l e R s m args below meth c H locs nc ns 1 6 (F0 m pc ls stk) st (kQ g oo σ' (aA g H.size) a) (aA g H.size))
    (k : ∀ (H : Heap) (locs : List Loc), va_P g.1 vwCl (wd g σ') H → va_S (aA g s.heap.size) s.heap H locs → W p l e R s m args below meth c H locs (nc + 1) (ns + 6) Q (F0 m (pc + 3) ls (oo.toList ++ st))) : W p l e R s m args below meth c H locs nc ns Q (F0 m pc ls stk) := by
  have hA : ∀ q, aA g H.size q → aA g s.heap.size q := fun q h => h.elim Or.inl (fun h => Or.inr (Nat.le_trans hS.1 h))
  intro T hT X
  obtain ⟨v, st₀, t, T', L, h0, X', hL, e1, e2, ⟨⟨hv, hP'⟩, hz, hk⟩, go⟩ := run T hT X
  cases hv
  rw [h0] at hz hk
  obtain ⟨t2, a1, b1⟩ := k T'.heap (locs ++ L) (by rw [e1]; exact hP')
    ⟨Nat.le_trans hS.1 (by rw [e1]; exact hz), fun q h1 h2 => by rw [e1, hk q (Nat.lt_of_lt_of_le h1 hS.1) (fun z => h2 (hA q z))]; exact hS.2.1 q h1 h2, fun q hq => by
      rcases List.mem_append.mp hq with h | h
      · exact hS.2.2 q h
      · exact hA _ (hL q h)⟩ T' rfl X'
  exact ⟨t2, go t2 a1, b1⟩
theorem WX_l {ws : List Cond} {w : Cond} (h1 : ∀ x ∈ ws, x ∈ WS) (h2 : w ∈ WS) : GoodIn WX (ws ++ (w :: WX)) := fun x hx => (List.mem_append.mp hx).elim (fun h => WX_ok x (WX_s (h1 x h))) (WX_c h2 x)
set_option maxRecDepth 100000 in
set_option maxHeartbeats 4000000 in
theorem law_x38 {g : G} {p : Program} {l : Launch} {e : Env} {s : State} {m : MethodId} {below : List Frame} {meth : Method} {c : Code} {b L : Nat} {xs : Nat → Int32} (I : St → Prop) (hfl : l.stackTraces = false) (hL : L ≤ 3072) (C0 : lw_At p s m meth c b L xs) (hU : wU g s) (hg : gOK g) (hga : ∀ o, o < 67 → s.heap.size ≤ g.2.2 o) (hT : ∀ (σ : St) (a1 : Int32), I σ → ∃ (v : Int32) (σ1 σ2 : St), mX10_toss a1 σ = some (v, σ1) ∧ mX11_toss a1 σ1 = some (v, σ2) ∧ I σ2) : exc 38 g I b L xs (LK g p l e s m below meth c b) 1521 := by
  intro nc ns i σ hc hs hi hI k
  have hxu : xU (aA g s.heap.size) s s.heap := xU_law C0 _ (fun a ha => by rintro (⟨o, ho, rfl⟩ | h); exact absurd (hga o ho) (by omega); omega)
  have C : kY g l room_1 RL cL_law 8 (LK g p l e s m below meth c b nc ns) := LK_y C0 hU hg (by omega) (by omega)
  have C' : kY g l room_1 RL cL_law 8 (LK g p l e s m below meth c b (nc + 1) (ns + 6)) := LK_y C0 hU hg (by omega) (by omega)
  have hsl : SL b L xs (LK g p l e s m below meth c b nc ns) := LK_s C0 hL hga
  have hsl' : SL b L xs (LK g p l e s m below meth c b (nc + 1) (ns + 6)) := LK_s C0 hL hga
  obtain ⟨v, σ1, σ2, h1, h2, hI2⟩ := hT σ (xs (i + 1)) hI
  have hgo : LK g p l e s m below meth c b (nc + 1) (ns + 6) 1531 [(0, .ref b), (1, .ref (g.2.2 0)), (2, .ref (g.2.2 45)), (3, .ref (g.2.2 66)), (4, .int (nI i))] [.int v] σ1 := by
    refine k_aload_n C' (dk dL_law_30 10 rfl) rfl 2 rfl ?_
    refine k_aload_n C' (dk dL_law_30 11 rfl) rfl 0 rfl ?_
    refine k_iload C' (dk dL_law_30 12 rfl) 4 rfl ?_
    refine k_iconst (v := (1 : Int32)) C' (dk dL_law_30 13 rfl) (by decide) ?_
    refine k_iadd C' (dk dL_law_30 14 rfl) ?_
    refine hsl'.1 _ _ _ _ (i + 1) _ (nI_add i 1) (by omega) (dk dL_law_30 15 rfl) ?_
    refine k_cv (T := TX11) (N := 39) (ci := 6) (ob := 45) (As := [.int (xs (i + 1))]) (st := [.int v]) C' (qX11_toss l g hg h2) (iW39 _ (List.mem_of_getElem? (i := 0) rfl)) (iW39 _ (List.mem_of_getElem? (i := 1) rfl)) (iW39 _ (List.mem_of_getElem? (i := 2) rfl)) (iW0 _ (List.mem_of_getElem? (i := 5) rfl)) (iW39 _ (List.mem_of_getElem? (i := 3) rfl)) rfl rfl hdX11_toss (by decide) rfl (by decide) rfl rfl rfl (Nat.le_of_ble_eq_true rfl) (dk dL_law_30 16 rfl) ?_
    refine k_icmp_eq (tgt := 1546) (a := some (0 : Nat)) (b := none) (r := 0) C' (dk dL_law_30 17 rfl) (by decide) (if_pos rfl) (fun _ => ?_) (fun h => nomatch h)
    exact k σ2 hI2
  refine k_aload_n C (dk dL_law_30 3 rfl) rfl 1 rfl ?_
  refine k_aload_n C (dk dL_law_30 4 rfl) rfl 0 rfl ?_
  refine k_iload C (dk dL_law_30 5 rfl) 4 rfl ?_
  refine k_iconst (v := (1 : Int32)) C (dk dL_law_30 6 rfl) (by decide) ?_
  refine k_iadd C (dk dL_law_30 7 rfl) ?_
  refine hsl.1 _ _ _ _ (i + 1) _ (nI_add i 1) (by omega) (dk dL_law_30 8 rfl) ?_
  obtain ⟨hx, hb, hr, hml, hown, hts, -⟩ := C0
  have htx : ∀ w ∈ WX, w.before #[Value.ref b] s = true := fun w h => hts w (WX_tbl w h)
  intro ls H locs hl hP hS
  refine k_finA (st := []) (a := #[.ref (g.2.2 0), .int (xs (i + 1))]) hS (vx_runVW (As := [.int (xs (i + 1))]) (n := 1) (Ts := WX) (own := RL) (C := RX10) (b := g.2.2 0) ⟨hx, hb, hml, hown, htx⟩ (qX10_toss l hfl g hg h1 H.size) (vx_cwVW 1 htx (WX_l (w := Cond.codeWith yX10_toss cX10_toss 6 (some .int) [(31, 37, 40, 381), (31, 37, 53, 352), (31, 37, 61, 345)]) (fun x hx => ?_) (iW38 _ (List.mem_of_getElem? (i := 21) rfl))) rfl rfl rfl ⟨rfl, by decide +kernel, by decide +kernel, by decide +kernel⟩ ⟨by decide, by decide⟩) ⟨xP_blind, va_recv (q := (RX10, TX10, 9)) (ci := 5) hU.1 hP (q0 := 0) rfl (by rw [wd_get (by omega), en_o (c := 5) rfl (by omega)]), fun U h1 h2 => ⟨rfl, x_pre hU hxu hP hS U h1 h2⟩⟩ rfl rfl hl.1 rfl (lv_room (Nat.le_of_ble_eq_true rfl)) (dk dL_law_30 9 rfl) ⟨hc, hs⟩) (fun H1 locs1 hP1 hS1 => hgo ls H1 locs1 hl hP1 hS1)
  simp only [List.mem_cons, List.not_mem_nil, or_false] at hx
  rcases hx with rfl | rfl | rfl | rfl
  · exact (iW38 _ (List.mem_of_getElem? (i := 18) rfl))
  · exact (iW38 _ (List.mem_of_getElem? (i := 19) rfl))
  · exact (iW38 _ (List.mem_of_getElem? (i := 20) rfl))
  · exact (iW0 _ (List.mem_of_getElem? (i := 2) rfl))
set_option maxRecDepth 100000 in
set_option maxHeartbeats 4000000 in
theorem law_x35 {g : G} {p : Program} {l : Launch} {e : Env} {s : State} {m : MethodId} {below : List Frame} {meth : Method} {c : Code} {b L : Nat} {xs : Nat → Int32} (I : St → Prop) (hfl : l.stackTraces = false) (hL : L ≤ 3072) (C0 : lw_At p s m meth c b L xs) (hU : wU g s) (hg : gOK g) (hga : ∀ o, o < 67 → s.heap.size ≤ g.2.2 o) (hE : ∀ (σ : St) (a1 a2 : Int32), I σ → ∃ (k0 : Int32) (v : Int64) (σ1 σ2 σ3 : St), mL_element a1 a2 σ = some (k0, σ1) ∧ mX11_element a1 a2 σ1 = some (v, σ2) ∧ mX11_thrown σ2 = some (k0, σ3) ∧ (k0 = 0 → gL σ3 66 0 = v) ∧ I σ3) : exc 35 g I b L xs (LK g p l e s m below meth c b) 1356 := by
  intro nc ns i σ hc hs hi hI k
  have hxu : xU (aA g s.heap.size) s s.heap := xU_law C0 _ (fun a ha => by rintro (⟨o, ho, rfl⟩ | h); exact absurd (hga o ho) (by omega); omega)
  have C : kY g l room_1 RL cL_law 8 (LK g p l e s m below meth c b nc ns) := LK_y C0 hU hg (by omega) (by omega)
  have C' : kY g l room_1 RL cL_law 8 (LK g p l e s m below meth c b (nc + 1) (ns + 6)) := LK_y C0 hU hg (by omega) (by omega)
  have hsl : SL b L xs (LK g p l e s m below meth c b nc ns) := LK_s C0 hL hga
  have hsl' : SL b L xs (LK g p l e s m below meth c b (nc + 1) (ns + 6)) := LK_s C0 hL hga
  obtain ⟨k0, v, σ1, σ2, σ3, h1, h2, h3, hv, hI3⟩ := hE σ (xs (i + 1)) (xs (i + 2)) hI
  have hgo : LK g p l e s m below meth c b (nc + 1) (ns + 6) 1373 [(0, .ref b), (1, .ref (g.2.2 0)), (2, .ref (g.2.2 45)), (3, .ref (g.2.2 66)), (4, .int (nI i))] [.int k0] σ1 := by
    refine k_istore (lv' := [(5, .int k0), (0, .ref b), (1, .ref (g.2.2 0)), (2, .ref (g.2.2 45)), (3, .ref (g.2.2 66)), (4, .int (nI i))]) C' (dk dL_law_26 26 rfl) (by decide) rfl ?_
    refine k_aload_n C' (dk dL_law_26 27 rfl) rfl 3 rfl ?_
    refine k_aload_n C' (dk dL_law_26 28 rfl) rfl 1 rfl ?_
    refine k_iload C' (dk dL_law_26 29 rfl) 5 rfl ?_
    refine k_iconst (v := (1 : Int32)) C' (dk dL_law_26 30 rfl) (by decide) ?_
    refine k_iadd C' (dk dL_law_26 31 rfl) ?_
    refine hsl'.1 _ _ _ _ (i + 1) _ (nI_add i 1) (by omega) (dk dL_law_27 0 rfl) ?_
    refine k_aload_n C' (dk dL_law_27 1 rfl) rfl 1 rfl ?_
    refine k_iload C' (dk dL_law_27 2 rfl) 5 rfl ?_
    refine k_iconst (v := (2 : Int32)) C' (dk dL_law_27 3 rfl) (by decide) ?_
    refine k_iadd C' (dk dL_law_27 4 rfl) ?_
    refine hsl'.1 _ _ _ _ (i + 2) _ (nI_add i 2) (by omega) (dk dL_law_27 5 rfl) ?_
    refine k_cv (T := TX11) (N := 39) (ci := 6) (ob := 45) (As := [.int (xs (i + 1)), .int (xs (i + 2))]) (st := []) C' (qX11_element l g hg h2) (iW37 _ (List.mem_of_getElem? (i := 8) rfl)) (iW37 _ (List.mem_of_getElem? (i := 9) rfl)) (iW37 _ (List.mem_of_getElem? (i := 10) rfl)) (iW0 _ (List.mem_of_getElem? (i := 5) rfl)) (iW37 _ (List.mem_of_getElem? (i := 11) rfl)) rfl rfl hdX11_element (by decide) rfl (by decide) rfl rfl rfl (Nat.le_of_ble_eq_true rfl) (dk dL_law_27 6 rfl) ?_
    refine k_lstore (lv' := [(6, .long v), (5, .int k0), (0, .ref b), (1, .ref (g.2.2 0)), (2, .ref (g.2.2 45)), (3, .ref (g.2.2 66)), (4, .int (nI i))]) C' (dk dL_law_27 7 rfl) (by decide) rfl ?_
    refine k_aload_n C' (dk dL_law_27 8 rfl) rfl 4 rfl ?_
    refine k_cv (T := TX11) (N := 39) (ci := 6) (ob := 45) (As := []) (st := []) C' (qX11_thrown l g hg h3) (iW37 _ (List.mem_of_getElem? (i := 12) rfl)) (iW37 _ (List.mem_of_getElem? (i := 13) rfl)) (iW37 _ (List.mem_of_getElem? (i := 14) rfl)) (iW0 _ (List.mem_of_getElem? (i := 5) rfl)) (iW37 _ (List.mem_of_getElem? (i := 15) rfl)) rfl rfl hdX11_thrown (by decide) rfl (by decide) rfl rfl rfl (Nat.le_of_ble_eq_true rfl) (dk dL_law_27 9 rfl) ?_
    refine k_iload C' (dk dL_law_27 10 rfl) 1 rfl ?_
    refine k_icmp_eq (tgt := 1404) (a := some (0 : Nat)) (b := none) (r := 0) C' (dk dL_law_27 11 rfl) (by decide) (if_pos rfl) (fun _ => ?_) (fun h => nomatch h)
    refine k_iload C' (dk dL_law_27 14 rfl) 1 rfl ?_
    have hend : LK g p l e s m below meth c b (nc + 1) (ns + 6) 1420 [(6, .long v), (5, .int k0), (0, .ref b), (1, .ref (g.2.2 0)), (2, .ref (g.2.2 45)), (3, .ref (g.2.2 66)), (4, .int (nI i))] [] σ3 := by
      refine k_goto (tgt := 1546) C' (dk dL_law_27 24 rfl) (by decide) ?_
      refine k_sub C' [2, 3, 4, 5, 6] rfl ?_
      exact k σ3 hI3
    by_cases e0 : k0 = 0
    · refine k_if_ne (tgt := 1420) (a := some (0 : Nat)) (b := none) (r := 0) C' (dk dL_law_27 15 rfl) (by decide) (if_pos e0) (fun h => nomatch h) (fun _ => ?_)
      refine k_aload_n C' (dk dL_law_27 16 rfl) rfl 5 rfl ?_
      refine k_iconst (v := (0 : Int32)) C' (dk dL_law_27 17 rfl) (by decide) ?_
      refine k_lald (f := fun z => some z) (r := v) (n := 1) C' rfl rfl (dk dL_law_27 18 rfl) (by show some (gL σ3 66 0) = some v; rw [hv e0]) (fun z hz => ?_)
      cases hz
      refine k_lload C' (dk dL_law_27 19 rfl) 0 rfl ?_
      refine k_lcmp C' (dk dL_law_27 20 rfl) ?_
      refine k_if_eq (tgt := 1420) (a := some (0 : Nat)) (b := none) (r := 0) C' (dk dL_law_27 21 rfl) (by decide) (if_pos (lg_same v)) (fun _ => ?_) (fun h => nomatch h)
      exact hend
    · refine k_if_ne (tgt := 1420) (a := none) (b := some (0 : Nat)) (r := 0) C' (dk dL_law_27 15 rfl) (by decide) (if_neg e0) (fun _ => ?_) (fun h => nomatch h)
      exact hend
  refine k_aload_n C (dk dL_law_26 13 rfl) rfl 1 rfl ?_
  refine k_aload_n C (dk dL_law_26 14 rfl) rfl 0 rfl ?_
  refine k_iload C (dk dL_law_26 15 rfl) 4 rfl ?_
  refine k_iconst (v := (1 : Int32)) C (dk dL_law_26 16 rfl) (by decide) ?_
  refine k_iadd C (dk dL_law_26 17 rfl) ?_
  refine hsl.1 _ _ _ _ (i + 1) _ (nI_add i 1) (by omega) (dk dL_law_26 18 rfl) ?_
  refine k_aload_n C (dk dL_law_26 19 rfl) rfl 0 rfl ?_
  refine k_iload C (dk dL_law_26 20 rfl) 4 rfl ?_
  refine k_iconst (v := (2 : Int32)) C (dk dL_law_26 21 rfl) (by decide) ?_
  refine k_iadd C (dk dL_law_26 22 rfl) ?_
  refine hsl.1 _ _ _ _ (i + 2) _ (nI_add i 2) (by omega) (dk dL_law_26 23 rfl) ?_
  refine k_aload_n C (dk dL_law_26 24 rfl) rfl 3 rfl ?_
  obtain ⟨hx, hb, hr, hml, hown, hts, -⟩ := C0
  have htx : ∀ w ∈ WX, w.before #[Value.ref b] s = true := fun w h => hts w (WX_tbl w h)
  intro ls H locs hl hP hS
  refine k_finA (st := []) (a := #[.ref (g.2.2 0), .int (xs (i + 1)), .int (xs (i + 2)), .ref (g.2.2 66)]) hS (vx_runSW (As := [.ref (g.2.2 0), .int (xs (i + 1)), .int (xs (i + 2)), .ref (g.2.2 66)]) (n := 4) (Ts := WX) (own := RL) ⟨hx, hb, hml, hown, htx⟩ (qL_element l hfl g hg h1 H.size) (vx_cwSW 4 htx (WX_l (w := Cond.codeWith yL_element cL_element 5 (some .int) [(0, 9, 12, 13), (0, 9, 16, 15)]) (fun x hx => ?_) (iW36 _ (List.mem_of_getElem? (i := 26) rfl))) rfl rfl rfl ⟨by decide +kernel, by decide +kernel, by decide +kernel⟩ ⟨by decide, by decide⟩) ⟨xP_blind, fun U h1 h2 => ⟨rfl, x_pre hU hxu hP hS U h1 h2⟩⟩ rfl rfl hl.1 rfl (lv_room (Nat.le_of_ble_eq_true rfl)) (dk dL_law_26 25 rfl) ⟨hc, hs⟩) (fun H1 locs1 hP1 hS1 => hgo ls H1 locs1 hl hP1 hS1)
  simp only [List.mem_cons, List.not_mem_nil, or_false] at hx
  rcases hx with rfl | rfl | rfl
  · exact (iW36 _ (List.mem_of_getElem? (i := 23) rfl))
  · exact (iW36 _ (List.mem_of_getElem? (i := 24) rfl))
  · exact (iW36 _ (List.mem_of_getElem? (i := 25) rfl))
