set_option maxRecDepth 100000 in
set_option maxHeartbeats 4000000 in
theorem qX11_isOff (l : Launch) (g : G) (hg : gOK g) {a1 : Int32} {a2 : Int32}  {s0 σe : St} {v : Int32} (h : mX11_isOff a1 a2 s0 = some (v, σe)) : Mc l g yX11_isOff cX11_isOff 3 (some .boolean) { frames := 2, cells := 0, slots := 0, locals := 43 } [.ref (g.2.2 45), .int a1, .int a2] s0 (some (.int v)) σe := by
  refine k_enter hg pnRX11 rfl (Nat.le_of_ble_eq_true rfl) ?_
  intro WK E
  have C := kX_y E
  unfold mX11_isOff at h
  show WK 0 [(0, .ref (g.2.2 45)), (1, .int a1), (2, .int a2)] [] s0
  refine k_aload_n C (dk dX11_isOff_0 0 rfl) rfl 0 rfl ?_
  refine k_iload_n C (dk dX11_isOff_0 1 rfl) rfl 1 rfl ?_
  refine k_iload_n C (dk dX11_isOff_0 2 rfl) rfl 2 rfl ?_
  refine cl2_k h (fun x2 s1 hc h => ?_)
  refine k_cv (T := TX11) (N := 39) (ci := 6) (ob := 45) (As := [.int a1, .int a2]) (st := []) C (qX11_farOf l g hg hc) (iW10 _ (List.mem_of_getElem? (i := 14) rfl)) (iW10 _ (List.mem_of_getElem? (i := 15) rfl)) (iW10 _ (List.mem_of_getElem? (i := 16) rfl)) (iW0 _ (List.mem_of_getElem? (i := 5) rfl)) (iW10 _ (List.mem_of_getElem? (i := 17) rfl)) rfl rfl hdX11_farOf (by decide) rfl (by decide) rfl rfl rfl (Nat.le_of_ble_eq_true rfl) (dk dX11_isOff_0 3 rfl) ?_
  refine k_aload_n C (dk dX11_isOff_0 4 rfl) rfl 0 rfl ?_
  refine k_getI (D := RX11) (T := TX11) (N := 39) (ci := 6) (k := 3) C iCX11 rfl (by decide) rfl (by decide) (iW2 _ (List.mem_of_getElem? (i := 27) rfl)) rfl (dk dX11_isOff_0 5 rfl) h (fun x3 h => ?_)
  refine kl_J (P := (fun J26 => ∀ (s4 : St), J26 s4 = some (v, σe) → WK 26 [] [] s4)) h (fun s4 h => ?_) (fun J26 hJ26 h => ?_)
  ·
    unfold mX11_isOff_26 at h
    refine k_iconst (v := (1 : Int32)) C (dk dX11_isOff_0 14 rfl) (by decide) ?_
    refine k_goto (tgt := 31) C (dk dX11_isOff_0 15 rfl) (by decide) ?_
    exact k_zret E (dk dX11_isOff_0 17 rfl) h
  ·
    refine k_icmp_lt (tgt := 26) C (dk dX11_isOff_0 6 rfl) (by decide) h (fun h => ?_) (fun h => ?_)
    ·
      refine k_sub C [] rfl ?_
      exact hJ26 _ h
    ·
      refine k_aload_n C (dk dX11_isOff_0 7 rfl) rfl 0 rfl ?_
      refine k_iload_n C (dk dX11_isOff_0 8 rfl) rfl 1 rfl ?_
      refine k_iload_n C (dk dX11_isOff_0 9 rfl) rfl 2 rfl ?_
      refine cl2_k h (fun x6 s5 hc h => ?_)
      refine k_cv (T := TX11) (N := 39) (ci := 6) (ob := 45) (As := [.int a1, .int a2]) (st := []) C (qX11_farOf l g hg hc) (iW10 _ (List.mem_of_getElem? (i := 14) rfl)) (iW10 _ (List.mem_of_getElem? (i := 15) rfl)) (iW10 _ (List.mem_of_getElem? (i := 16) rfl)) (iW0 _ (List.mem_of_getElem? (i := 5) rfl)) (iW10 _ (List.mem_of_getElem? (i := 17) rfl)) rfl rfl hdX11_farOf (by decide) rfl (by decide) rfl rfl rfl (Nat.le_of_ble_eq_true rfl) (dk dX11_isOff_0 10 rfl) ?_
      refine k_aload_n C (dk dX11_isOff_0 11 rfl) rfl 0 rfl ?_
      refine k_getI (D := RX11) (T := TX11) (N := 39) (ci := 6) (k := 4) C iCX11 rfl (by decide) rfl (by decide) (iW2 _ (List.mem_of_getElem? (i := 28) rfl)) rfl (dk dX11_isOff_0 12 rfl) h (fun x7 h => ?_)
      refine k_icmp_le (tgt := 30) C (dk dX11_isOff_0 13 rfl) (by decide) h (fun h => ?_) (fun h => ?_)
      ·
        refine k_iconst (v := (0 : Int32)) C (dk dX11_isOff_0 16 rfl) (by decide) ?_
        exact k_zret E (dk dX11_isOff_0 17 rfl) h
      ·
        refine k_sub C [] rfl ?_
        exact hJ26 _ h
set_option maxRecDepth 100000 in
set_option maxHeartbeats 4000000 in
theorem qX11_beside (l : Launch) (g : G) (hg : gOK g) {a0 : Int32} {a1 : Int32}  {s0 σe : St} {v : Int32} (h : mX11_beside a0 a1 s0 = some (v, σe)) : Mc l g yX11_beside cX11_beside 2 (some .int) { frames := 0, cells := 0, slots := 0, locals := 0 } [.int a0, .int a1] s0 (some (.int v)) σe := by
  refine k_enter hg pnRX11 rfl (Nat.le_of_ble_eq_true rfl) ?_
  intro WK E
  have C := kX_y E
  unfold mX11_beside at h
  show WK 0 [(0, .int a0), (1, .int a1)] [] s0
  refine k_iload_n C (dk dX11_beside_0 0 rfl) rfl 1 rfl ?_
  by_cases e0 : a1 = (1 : Int32)
  · replace h := (if_pos e0).symm.trans h
    refine k_tsIn (q := (1 : Int32)) (tgt := 32) C (dk dX11_beside_0 1 rfl) (by decide) (by decide) rfl (by decide) e0 ?_
    refine k_iload_n C (dk dX11_beside_0 2 rfl) rfl 0 rfl ?_
    refine k_bipush (v := (6 : Int32)) C (dk dX11_beside_0 3 rfl) (by decide) ?_
    refine k_icmp_ge (tgt := 43) C (dk dX11_beside_0 4 rfl) (by decide) h (fun h => ?_) (fun h => ?_)
    ·
      refine k_iload_n C (dk dX11_beside_0 7 rfl) rfl 0 rfl ?_
      refine k_bipush (v := (6 : Int32)) C (dk dX11_beside_0 8 rfl) (by decide) ?_
      refine k_isub C (dk dX11_beside_0 9 rfl) ?_
      exact k_iret E (dk dX11_beside_0 10 rfl) h
    ·
      refine k_bipush (v := (-4 : Int32)) C (dk dX11_beside_0 5 rfl) (by decide) ?_
      refine k_goto (tgt := 47) C (dk dX11_beside_0 6 rfl) (by decide) ?_
      exact k_iret E (dk dX11_beside_0 10 rfl) h
  replace h := (if_neg e0).symm.trans h
  by_cases e1 : a1 = (2 : Int32)
  · replace h := (if_pos e1).symm.trans h
    refine k_tsIn (q := (2 : Int32)) (tgt := 48) C (dk dX11_beside_0 1 rfl) (by decide) (by decide) rfl (by decide) e1 ?_
    refine k_iload_n C (dk dX11_beside_0 11 rfl) rfl 0 rfl ?_
    refine k_bipush (v := (6 : Int32)) C (dk dX11_beside_0 12 rfl) (by decide) ?_
    refine k_irem C (dk dX11_beside_0 13 rfl) (by decide) ?_
    refine k_if_ne (tgt := 60) C (dk dX11_beside_0 14 rfl) (by decide) h (fun h => ?_) (fun h => ?_)
    ·
      refine k_iload_n C (dk dX11_beside_0 17 rfl) rfl 0 rfl ?_
      refine k_iconst (v := (1 : Int32)) C (dk dX11_beside_0 18 rfl) (by decide) ?_
      refine k_isub C (dk dX11_beside_0 19 rfl) ?_
      exact k_iret E (dk dX11_beside_0 20 rfl) h
    ·
      refine k_bipush (v := (-4 : Int32)) C (dk dX11_beside_0 15 rfl) (by decide) ?_
      refine k_goto (tgt := 63) C (dk dX11_beside_0 16 rfl) (by decide) ?_
      exact k_iret E (dk dX11_beside_0 20 rfl) h
  replace h := (if_neg e1).symm.trans h
  by_cases e2 : a1 = (3 : Int32)
  · replace h := (if_pos e2).symm.trans h
    refine k_tsIn (q := (3 : Int32)) (tgt := 64) C (dk dX11_beside_0 1 rfl) (by decide) (by decide) rfl (by decide) e2 ?_
    refine k_iload_n C (dk dX11_beside_0 21 rfl) rfl 0 rfl ?_
    refine k_bipush (v := (6 : Int32)) C (dk dX11_beside_0 22 rfl) (by decide) ?_
    refine k_irem C (dk dX11_beside_0 23 rfl) (by decide) ?_
    refine k_iconst (v := (5 : Int32)) C (dk dX11_beside_0 24 rfl) (by decide) ?_
    refine k_icmp_ne (tgt := 77) C (dk dX11_beside_0 25 rfl) (by decide) h (fun h => ?_) (fun h => ?_)
    ·
      refine k_iload_n C (dk dX11_beside_0 28 rfl) rfl 0 rfl ?_
      refine k_iconst (v := (1 : Int32)) C (dk dX11_beside_0 29 rfl) (by decide) ?_
      refine k_iadd C (dk dX11_beside_0 30 rfl) ?_
      exact k_iret E (dk dX11_beside_0 31 rfl) h
    ·
      refine k_bipush (v := (-4 : Int32)) C (dk dX11_beside_0 26 rfl) (by decide) ?_
      refine k_goto (tgt := 80) C (dk dX11_beside_0 27 rfl) (by decide) ?_
      exact k_iret E (dk dX11_beside_0 31 rfl) h
  replace h := (if_neg e2).symm.trans h
  by_cases e3 : a1 = (4 : Int32)
  · replace h := (if_pos e3).symm.trans h
    refine k_tsIn (q := (4 : Int32)) (tgt := 81) C (dk dX11_beside_0 1 rfl) (by decide) (by decide) rfl (by decide) e3 ?_
    refine k_iload_n C (dk dX11_beside_1 0 rfl) rfl 0 rfl ?_
    refine k_bipush (v := (29 : Int32)) C (dk dX11_beside_1 1 rfl) (by decide) ?_
    refine k_icmp_le (tgt := 92) C (dk dX11_beside_1 2 rfl) (by decide) h (fun h => ?_) (fun h => ?_)
    ·
      refine k_iload_n C (dk dX11_beside_1 5 rfl) rfl 0 rfl ?_
      refine k_bipush (v := (6 : Int32)) C (dk dX11_beside_1 6 rfl) (by decide) ?_
      refine k_iadd C (dk dX11_beside_1 7 rfl) ?_
      exact k_iret E (dk dX11_beside_1 8 rfl) h
    ·
      refine k_bipush (v := (-4 : Int32)) C (dk dX11_beside_1 3 rfl) (by decide) ?_
      refine k_goto (tgt := 96) C (dk dX11_beside_1 4 rfl) (by decide) ?_
      exact k_iret E (dk dX11_beside_1 8 rfl) h
  replace h := (if_neg e3).symm.trans h
  refine k_tsOut (tgt := 97) C (dk dX11_beside_0 1 rfl) (by have n0 : a1.toInt ≠ 1 := fun q => e0 (Int32.toInt_inj.mp (q.trans (by decide))); have n1 : a1.toInt ≠ 2 := fun q => e1 (Int32.toInt_inj.mp (q.trans (by decide))); have n2 : a1.toInt ≠ 3 := fun q => e2 (Int32.toInt_inj.mp (q.trans (by decide))); have n3 : a1.toInt ≠ 4 := fun q => e3 (Int32.toInt_inj.mp (q.trans (by decide))); omega) (by decide) ?_
  refine k_iload_n C (dk dX11_beside_1 9 rfl) rfl 0 rfl ?_
  exact k_iret E (dk dX11_beside_1 10 rfl) h
set_option maxRecDepth 100000 in
set_option maxHeartbeats 4000000 in
theorem qX11_goneTo (l : Launch) (g : G) (hg : gOK g) {a1 : Int32} {a2 : Int32}  {s0 σe : St} {v : Int32} (h : mX11_goneTo a1 a2 s0 = some (v, σe)) : Mc l g yX11_goneTo cX11_goneTo 4 (some .int) { frames := 1, cells := 0, slots := 0, locals := 21 } [.ref (g.2.2 45), .int a1, .int a2] s0 (some (.int v)) σe := by
  refine k_enter hg pnRX11 rfl (Nat.le_of_ble_eq_true rfl) ?_
  intro WK E
  have C := kX_y E
  unfold mX11_goneTo at h
  show WK 0 [(0, .ref (g.2.2 45)), (1, .int a1), (2, .int a2)] [] s0
  refine k_iload_n C (dk dX11_goneTo_0 0 rfl) rfl 1 rfl ?_
  refine k_iload_n C (dk dX11_goneTo_0 1 rfl) rfl 2 rfl ?_
  refine cl2_k h (fun x2 s1 hc h => ?_)
  refine k_cs (As := [.int a1, .int a2]) (st := []) C (qX11_beside l g hg hc) (iW10 _ (List.mem_of_getElem? (i := 3) rfl)) (iW10 _ (List.mem_of_getElem? (i := 4) rfl)) (iW0 _ (List.mem_of_getElem? (i := 5) rfl)) (iW10 _ (List.mem_of_getElem? (i := 5) rfl)) rfl rfl hdX11_beside (by decide) rfl rfl (Nat.le_of_ble_eq_true rfl) (dk dX11_goneTo_0 2 rfl) ?_
  refine k_istore_n (lv' := [(3, .int x2), (0, .ref (g.2.2 45)), (1, .int a1), (2, .int a2)]) C (dk dX11_goneTo_0 3 rfl) rfl (by decide) rfl ?_
  refine k_iload_n C (dk dX11_goneTo_0 4 rfl) rfl 3 rfl ?_
  refine kl_J (P := (fun J22 => ∀ (s3 : St), J22 s3 = some (v, σe) → WK 22 [(3, .int x2)] [] s3)) h (fun s3 h => ?_) (fun J22 hJ22 h => ?_)
  ·
    unfold mX11_goneTo_22 at h
    refine k_iload_n C (dk dX11_goneTo_0 12 rfl) rfl 0 rfl ?_
    refine k_goto (tgt := 28) C (dk dX11_goneTo_0 13 rfl) (by decide) ?_
    exact k_iret E (dk dX11_goneTo_0 15 rfl) h
  ·
    refine k_if_eq (tgt := 22) C (dk dX11_goneTo_0 5 rfl) (by decide) h (fun h => ?_) (fun h => ?_)
    ·
      refine k_sub C [0] rfl ?_
      exact hJ22 _ h
    ·
      refine k_iload_n C (dk dX11_goneTo_0 6 rfl) rfl 0 rfl ?_
      refine k_if_lt (tgt := 26) C (dk dX11_goneTo_0 7 rfl) (by decide) h (fun h => ?_) (fun h => ?_)
      ·
        refine k_bipush (v := (-4 : Int32)) C (dk dX11_goneTo_0 14 rfl) (by decide) ?_
        exact k_iret E (dk dX11_goneTo_0 15 rfl) h
      ·
        refine k_aload_n C (dk dX11_goneTo_0 8 rfl) rfl 1 rfl ?_
        refine k_iload_n C (dk dX11_goneTo_0 9 rfl) rfl 0 rfl ?_
        refine cl2_k h (fun x5 s4 hc h => ?_)
        refine k_cv (T := TX11) (N := 39) (ci := 6) (ob := 45) (As := [.int x2]) (st := []) C (qX11_isOpen l g hg hc) (iW10 _ (List.mem_of_getElem? (i := 6) rfl)) (iW10 _ (List.mem_of_getElem? (i := 7) rfl)) (iW10 _ (List.mem_of_getElem? (i := 8) rfl)) (iW0 _ (List.mem_of_getElem? (i := 5) rfl)) (iW10 _ (List.mem_of_getElem? (i := 9) rfl)) rfl rfl hdX11_isOpen (by decide) rfl (by decide) rfl rfl rfl (Nat.le_of_ble_eq_true rfl) (dk dX11_goneTo_0 10 rfl) ?_
        refine k_if_eq (tgt := 26) C (dk dX11_goneTo_0 11 rfl) (by decide) h (fun h => ?_) (fun h => ?_)
        ·
          refine k_bipush (v := (-4 : Int32)) C (dk dX11_goneTo_0 14 rfl) (by decide) ?_
          exact k_iret E (dk dX11_goneTo_0 15 rfl) h
        ·
          refine k_sub C [0] rfl ?_
          exact hJ22 _ h
set_option maxRecDepth 100000 in
set_option maxHeartbeats 4000000 in
theorem qX11_openCells (l : Launch) (g : G) (hg : gOK g)   {s0 σe : St} {v : Int64} (h : mX11_openCells s0 = some (v, σe)) : Mc l g yX11_openCells cX11_openCells 4 (some .long) { frames := 1, cells := 0, slots := 0, locals := 21 } [.ref (g.2.2 45)] s0 (some (.long v)) σe := by
  refine k_enter hg pnRX11 rfl (Nat.le_of_ble_eq_true rfl) ?_
  intro WK E
  have C := kX_y E
  unfold mX11_openCells at h
  show WK 0 [(0, .ref (g.2.2 45))] [] s0
  refine k_lconst (v := (0 : Int64)) C (dk dX11_openCells_0 0 rfl) (by decide) ?_
  refine k_lstore_n (lv' := [(1, .long (0 : Int64)), (0, .ref (g.2.2 45))]) C (dk dX11_openCells_0 1 rfl) rfl (by decide) rfl ?_
  refine k_iconst (v := (0 : Int32)) C (dk dX11_openCells_0 2 rfl) (by decide) ?_
  refine k_istore_n (lv' := [(3, .int (0 : Int32)), (1, .long (0 : Int64)), (0, .ref (g.2.2 45))]) C (dk dX11_openCells_0 3 rfl) rfl (by decide) rfl ?_
  refine kl_L (P := (fun J4 => ∀ (y1 : Int64) (y2 : Int32) (s3 : St), J4 y1 y2 s3 = some (v, σe) → WK 4 [(0, .ref (g.2.2 45)), (1, .long y1), (3, .int y2)] [] s3)) h (fun _ _ _ h => nomatch h) (fun J4 hJ4 y1 y2 s3 h => ?_) (fun J4 hJ4 h => ?_)
  ·
    unfold mX11_openCells_4 at h
    refine k_iload_n C (dk dX11_openCells_0 4 rfl) rfl 2 rfl ?_
    refine k_bipush (v := (36 : Int32)) C (dk dX11_openCells_0 5 rfl) (by decide) ?_
    refine k_icmp_ge (tgt := 34) C (dk dX11_openCells_0 6 rfl) (by decide) h (fun h => ?_) (fun h => ?_)
    ·
      refine k_lload_n C (dk dX11_openCells_0 21 rfl) rfl 1 rfl ?_
      exact k_lret E (dk dX11_openCells_0 22 rfl) h
    ·
      refine k_lload_n C (dk dX11_openCells_0 7 rfl) rfl 1 rfl ?_
      refine k_aload_n C (dk dX11_openCells_0 8 rfl) rfl 0 rfl ?_
      refine k_iload_n C (dk dX11_openCells_0 9 rfl) rfl 2 rfl ?_
      refine cl2_k h (fun x5 s4 hc h => ?_)
      refine k_cv (T := TX11) (N := 39) (ci := 6) (ob := 45) (As := [.int y2]) (st := [.long y1]) C (qX11_isOpen l g hg hc) (iW10 _ (List.mem_of_getElem? (i := 6) rfl)) (iW10 _ (List.mem_of_getElem? (i := 7) rfl)) (iW10 _ (List.mem_of_getElem? (i := 8) rfl)) (iW0 _ (List.mem_of_getElem? (i := 5) rfl)) (iW10 _ (List.mem_of_getElem? (i := 9) rfl)) rfl rfl hdX11_isOpen (by decide) rfl (by decide) rfl rfl rfl (Nat.le_of_ble_eq_true rfl) (dk dX11_openCells_0 10 rfl) ?_
      refine kl_J (P := (fun J26 => ∀ (y6 : Int64) (s7 : St), J26 y6 s7 = some (v, σe) → WK 26 [(0, .ref (g.2.2 45)), (3, .int y2)] [.long y6, .long y1] s7)) h (fun y6 s7 h => ?_) (fun J26 hJ26 h => ?_)
      ·
        unfold mX11_openCells_26 at h
        refine k_lor C (dk dX11_openCells_0 17 rfl) ?_
        refine nmL h (fun x8 h => ?_)
        refine k_lstore_n (lv' := [(1, .long x8), (0, .ref (g.2.2 45)), (3, .int y2)]) C (dk dX11_openCells_0 18 rfl) rfl (by decide) rfl ?_
        refine k_iinc (lv' := [(3, .int (y2 + 1)), (1, .long x8), (0, .ref (g.2.2 45))]) C (dk dX11_openCells_0 19 rfl) (j := 2) rfl rfl (by decide) rfl ?_
        refine k_goto (tgt := 4) C (dk dX11_openCells_0 20 rfl) (by decide) ?_
        refine k_sub C [2, 1, 0] rfl ?_
        exact hJ4 _ _ _ h
      ·
        refine k_if_eq (tgt := 25) C (dk dX11_openCells_0 11 rfl) (by decide) h (fun h => ?_) (fun h => ?_)
        ·
          refine k_lconst (v := (0 : Int64)) C (dk dX11_openCells_0 16 rfl) (by decide) ?_
          refine k_sub C [0, 2] rfl ?_
          exact hJ26 _ _ h
        ·
          refine k_lconst (v := (1 : Int64)) C (dk dX11_openCells_0 12 rfl) (by decide) ?_
          refine k_iload_n C (dk dX11_openCells_0 13 rfl) rfl 2 rfl ?_
          refine k_lshl C (dk dX11_openCells_0 14 rfl) ?_
          refine k_goto (tgt := 26) C (dk dX11_openCells_0 15 rfl) (by decide) ?_
          refine k_sub C [0, 2] rfl ?_
          exact hJ26 _ _ h
  ·
    refine k_sub C [2, 1, 0] rfl ?_
    exact hJ4 _ _ _ h
set_option maxRecDepth 100000 in
set_option maxHeartbeats 4000000 in
theorem qX11_goOn (l : Launch) (g : G) (hg : gOK g) {a1 : Int64}  {s0 σe : St} {v : Int64} (h : mX11_goOn a1 s0 = some (v, σe)) : Mc l g yX11_goOn cX11_goOn 8 (some .long) { frames := 2, cells := 0, slots := 0, locals := 44 } [.ref (g.2.2 45), .long a1] s0 (some (.long v)) σe := by
  refine k_enter hg pnRX11 rfl (Nat.le_of_ble_eq_true rfl) ?_
  intro WK E
  have C := kX_y E
  unfold mX11_goOn at h
  show WK 0 [(0, .ref (g.2.2 45)), (1, .long a1)] [] s0
  refine k_lconst (v := (0 : Int64)) C (dk dX11_goOn_0 0 rfl) (by decide) ?_
  refine k_lstore_n (lv' := [(3, .long (0 : Int64)), (0, .ref (g.2.2 45)), (1, .long a1)]) C (dk dX11_goOn_0 1 rfl) rfl (by decide) rfl ?_
  refine k_iconst (v := (0 : Int32)) C (dk dX11_goOn_0 2 rfl) (by decide) ?_
  refine k_istore (lv' := [(5, .int (0 : Int32)), (3, .long (0 : Int64)), (0, .ref (g.2.2 45)), (1, .long a1)]) C (dk dX11_goOn_0 3 rfl) (by decide) rfl ?_
  refine kl_L (P := (fun J5 => ∀ (y1 : Int64) (y2 : Int32) (s3 : St), J5 y1 y2 s3 = some (v, σe) → WK 5 [(0, .ref (g.2.2 45)), (1, .long a1), (3, .long y1), (5, .int y2)] [] s3)) h (fun _ _ _ h => nomatch h) (fun J5 hJ5 y1 y2 s3 h => ?_) (fun J5 hJ5 h => ?_)
  ·
    unfold mX11_goOn_5 at h
    refine k_iload C (dk dX11_goOn_0 4 rfl) 3 rfl ?_
    refine k_bipush (v := (36 : Int32)) C (dk dX11_goOn_0 5 rfl) (by decide) ?_
    refine k_icmp_ge (tgt := 77) C (dk dX11_goOn_0 6 rfl) (by decide) h (fun h => ?_) (fun h => ?_)
    ·
      refine k_lload_n C (dk dX11_goOn_1 7 rfl) rfl 2 rfl ?_
      exact k_lret E (dk dX11_goOn_1 8 rfl) h
    ·
      refine k_iconst (v := (0 : Int32)) C (dk dX11_goOn_0 7 rfl) (by decide) ?_
      refine k_istore (lv' := [(6, .int (0 : Int32)), (0, .ref (g.2.2 45)), (1, .long a1), (3, .long y1), (5, .int y2)]) C (dk dX11_goOn_0 8 rfl) (by decide) rfl ?_
      refine kl_L (P := (fun J15 => ∀ (y4 : Int64) (y5 : Int32) (s6 : St), J15 y4 y5 s6 = some (v, σe) → WK 15 [(0, .ref (g.2.2 45)), (1, .long a1), (3, .long y4), (5, .int y2), (6, .int y5)] [] s6)) h (fun _ _ _ h => nomatch h) (fun J15 hJ15 y4 y5 s6 h => ?_) (fun J15 hJ15 h => ?_)
      ·
        unfold mX11_goOn_15 at h
        refine k_iload C (dk dX11_goOn_0 9 rfl) 4 rfl ?_
        refine k_iconst (v := (5 : Int32)) C (dk dX11_goOn_0 10 rfl) (by decide) ?_
        refine kl_J (P := (fun J71 => ∀ (y7 : Int32) (s8 : St), J71 y7 s8 = some (v, σe) → WK 71 [(0, .ref (g.2.2 45)), (1, .long a1), (3, .long y4), (5, .int y7)] [] s8)) h (fun y7 s8 h => ?_) (fun J71 hJ71 h => ?_)
        ·
          unfold mX11_goOn_71 at h
          refine k_iinc (lv' := [(5, .int (y7 + 1)), (0, .ref (g.2.2 45)), (1, .long a1), (3, .long y4)]) C (dk dX11_goOn_1 5 rfl) (j := 3) rfl rfl (by decide) rfl ?_
          refine k_goto (tgt := 5) C (dk dX11_goOn_1 6 rfl) (by decide) ?_
          refine k_sub C [1, 2, 3, 0] rfl ?_
          exact hJ5 _ _ _ h
        ·
          refine k_icmp_ge (tgt := 71) C (dk dX11_goOn_0 11 rfl) (by decide) h (fun h => ?_) (fun h => ?_)
          ·
            refine k_sub C [0, 1, 2, 3] rfl ?_
            exact hJ71 _ _ h
          ·
            refine k_lload_n C (dk dX11_goOn_0 12 rfl) rfl 1 rfl ?_
            refine k_iload C (dk dX11_goOn_0 13 rfl) 3 rfl ?_
            refine cl2_k h (fun x10 s9 hc h => ?_)
            refine k_cs (As := [.long a1, .int y2]) (st := []) C (qX11_isOn l g hg hc) (iW15 _ (List.mem_of_getElem? (i := 12) rfl)) (iW15 _ (List.mem_of_getElem? (i := 13) rfl)) (iW0 _ (List.mem_of_getElem? (i := 5) rfl)) (iW15 _ (List.mem_of_getElem? (i := 14) rfl)) rfl rfl hdX11_isOn (by decide) rfl rfl (Nat.le_of_ble_eq_true rfl) (dk dX11_goOn_0 14 rfl) ?_
            refine k_if_eq (tgt := 71) C (dk dX11_goOn_0 15 rfl) (by decide) h (fun h => ?_) (fun h => ?_)
            ·
              refine k_sub C [0, 1, 2, 3] rfl ?_
              exact hJ71 _ _ h
            ·
              refine k_aload_n C (dk dX11_goOn_0 16 rfl) rfl 0 rfl ?_
              refine k_iload C (dk dX11_goOn_0 17 rfl) 3 rfl ?_
              refine k_iload C (dk dX11_goOn_0 18 rfl) 4 rfl ?_
              refine cl2_k h (fun x12 s11 hc h => ?_)
              refine k_cv (T := TX11) (N := 39) (ci := 6) (ob := 45) (As := [.int y2, .int y5]) (st := []) C (qX11_goneTo l g hg hc) (iW9 _ (List.mem_of_getElem? (i := 29) rfl)) (iW10 _ (List.mem_of_getElem? (i := 0) rfl)) (iW10 _ (List.mem_of_getElem? (i := 1) rfl)) (iW0 _ (List.mem_of_getElem? (i := 5) rfl)) (iW10 _ (List.mem_of_getElem? (i := 2) rfl)) rfl rfl hdX11_goneTo (by decide) rfl (by decide) rfl rfl rfl (Nat.le_of_ble_eq_true rfl) (dk dX11_goOn_0 19 rfl) ?_
              refine k_istore (lv' := [(7, .int x12), (0, .ref (g.2.2 45)), (1, .long a1), (3, .long y4), (5, .int y2), (6, .int y5)]) C (dk dX11_goOn_0 20 rfl) (by decide) rfl ?_
              refine k_lload_n C (dk dX11_goOn_0 21 rfl) rfl 3 rfl ?_
              refine k_iload C (dk dX11_goOn_0 22 rfl) 0 rfl ?_
              refine kl_J (P := (fun J63 => ∀ (y13 : Int64) (s14 : St), J63 y13 s14 = some (v, σe) → WK 63 [(0, .ref (g.2.2 45)), (1, .long a1), (5, .int y2), (6, .int y5)] [.long y13, .long y4] s14)) h (fun y13 s14 h => ?_) (fun J63 hJ63 h => ?_)
              ·
                unfold mX11_goOn_63 at h
                refine k_lor C (dk dX11_goOn_1 1 rfl) ?_
                refine nmL h (fun x15 h => ?_)
                refine k_lstore_n (lv' := [(3, .long x15), (0, .ref (g.2.2 45)), (1, .long a1), (5, .int y2), (6, .int y5)]) C (dk dX11_goOn_1 2 rfl) rfl (by decide) rfl ?_
                refine k_iinc (lv' := [(6, .int (y5 + 1)), (3, .long x15), (0, .ref (g.2.2 45)), (1, .long a1), (5, .int y2)]) C (dk dX11_goOn_1 3 rfl) (j := 4) rfl rfl (by decide) rfl ?_
                refine k_goto (tgt := 15) C (dk dX11_goOn_1 4 rfl) (by decide) ?_
                refine k_sub C [2, 3, 1, 4, 0] rfl ?_
                exact hJ15 _ _ _ h
              ·
                refine kl_J (P := (fun J62 => ∀ (s16 : St), J62 s16 = some (v, σe) → WK 62 [(0, .ref (g.2.2 45)), (1, .long a1), (5, .int y2), (6, .int y5)] [.long y4] s16)) h (fun s16 h => ?_) (fun J62 hJ62 h => ?_)
                ·
                  unfold mX11_goOn_62 at h
                  refine k_lconst (v := (0 : Int64)) C (dk dX11_goOn_1 0 rfl) (by decide) ?_
                  exact hJ63 _ _ h
                ·
                  refine k_if_lt (tgt := 62) C (dk dX11_goOn_0 23 rfl) (by decide) h (fun h => ?_) (fun h => ?_)
                  ·
                    refine k_sub C [1, 2, 4, 5] rfl ?_
                    exact hJ62 _ h
                  ·
                    refine k_aload_n C (dk dX11_goOn_0 24 rfl) rfl 1 rfl ?_
                    refine k_iload C (dk dX11_goOn_0 25 rfl) 0 rfl ?_
                    refine cl2_k h (fun x18 s17 hc h => ?_)
                    refine k_cv (T := TX11) (N := 39) (ci := 6) (ob := 45) (As := [.int x12]) (st := [.long y4]) C (qX11_isOpen l g hg hc) (iW10 _ (List.mem_of_getElem? (i := 6) rfl)) (iW10 _ (List.mem_of_getElem? (i := 7) rfl)) (iW10 _ (List.mem_of_getElem? (i := 8) rfl)) (iW0 _ (List.mem_of_getElem? (i := 5) rfl)) (iW10 _ (List.mem_of_getElem? (i := 9) rfl)) rfl rfl hdX11_isOpen (by decide) rfl (by decide) rfl rfl rfl (Nat.le_of_ble_eq_true rfl) (dk dX11_goOn_0 26 rfl) ?_
                    refine k_if_eq (tgt := 62) C (dk dX11_goOn_0 27 rfl) (by decide) h (fun h => ?_) (fun h => ?_)
                    ·
                      refine k_sub C [1, 2, 4, 5] rfl ?_
                      exact hJ62 _ h
                    ·
                      refine k_lconst (v := (1 : Int64)) C (dk dX11_goOn_0 28 rfl) (by decide) ?_
                      refine k_iload C (dk dX11_goOn_0 29 rfl) 0 rfl ?_
                      refine k_lshl C (dk dX11_goOn_0 30 rfl) ?_
                      refine k_goto (tgt := 63) C (dk dX11_goOn_0 31 rfl) (by decide) ?_
                      refine k_sub C [1, 2, 4, 5] rfl ?_
                      exact hJ63 _ _ h
      ·
        refine k_sub C [1, 2, 3, 4, 0] rfl ?_
        exact hJ15 _ _ _ h
  ·
    refine k_sub C [2, 3, 1, 0] rfl ?_
    exact hJ5 _ _ _ h
set_option maxRecDepth 100000 in
set_option maxHeartbeats 4000000 in
theorem qX11_here (l : Launch) (g : G) (hg : gOK g)   {s0 σe : St} {v : Int32} (h : mX11_here s0 = some (v, σe)) : Mc l g yX11_here cX11_here 1 (some .int) { frames := 0, cells := 0, slots := 0, locals := 0 } [.ref (g.2.2 45)] s0 (some (.int v)) σe := by
  refine k_enter hg pnRX11 rfl (Nat.le_of_ble_eq_true rfl) ?_
  intro WK E
  have C := kX_y E
  unfold mX11_here at h
  show WK 0 [(0, .ref (g.2.2 45))] [] s0
  refine k_aload_n C (dk dX11_here_0 0 rfl) rfl 0 rfl ?_
  refine k_getI (D := RX11) (T := TX11) (N := 39) (ci := 6) (k := 19) C iCX11 rfl (by decide) rfl (by decide) (iW8 _ (List.mem_of_getElem? (i := 8) rfl)) rfl (dk dX11_here_0 1 rfl) h (fun x1 h => ?_)
  refine k_aload_n C (dk dX11_here_0 2 rfl) rfl 0 rfl ?_
  refine k_getR (q := 52) (D := RX11) (T := TX11) (N := 39) (ci := 6) (k := 14) C iCX11 rfl (by decide) rfl (by decide) (iW3 _ (List.mem_of_getElem? (i := 5) rfl)) rfl (dk dX11_here_0 3 rfl) ?_
  refine k_aload_n C (dk dX11_here_0 4 rfl) rfl 0 rfl ?_
  refine k_getI (D := RX11) (T := TX11) (N := 39) (ci := 6) (k := 18) C iCX11 rfl (by decide) rfl (by decide) (iW8 _ (List.mem_of_getElem? (i := 7) rfl)) rfl (dk dX11_here_0 5 rfl) h (fun x2 h => ?_)
  refine k_iald C rfl rfl (dk dX11_here_0 6 rfl) h (fun x3 h => ?_)
  refine k_icmp_ge (tgt := 37) C (dk dX11_here_0 7 rfl) (by decide) h (fun h => ?_) (fun h => ?_)
  ·
    refine k_sipush (v := (-999 : Int32)) C (dk dX11_here_0 20 rfl) (by decide) ?_
    exact k_iret E (dk dX11_here_0 21 rfl) h
  ·
    refine k_aload_n C (dk dX11_here_0 8 rfl) rfl 0 rfl ?_
    refine k_getR (q := 53) (D := RX11) (T := TX11) (N := 39) (ci := 6) (k := 15) C iCX11 rfl (by decide) rfl (by decide) (iW3 _ (List.mem_of_getElem? (i := 6) rfl)) rfl (dk dX11_here_0 9 rfl) ?_
    refine k_bipush (v := (100 : Int32)) C (dk dX11_here_0 10 rfl) (by decide) ?_
    refine k_aload_n C (dk dX11_here_0 11 rfl) rfl 0 rfl ?_
    refine k_getI (D := RX11) (T := TX11) (N := 39) (ci := 6) (k := 18) C iCX11 rfl (by decide) rfl (by decide) (iW8 _ (List.mem_of_getElem? (i := 7) rfl)) rfl (dk dX11_here_0 12 rfl) h (fun x4 h => ?_)
    refine k_imul C (dk dX11_here_0 13 rfl) ?_
    refine k_aload_n C (dk dX11_here_0 14 rfl) rfl 0 rfl ?_
    refine k_getI (D := RX11) (T := TX11) (N := 39) (ci := 6) (k := 19) C iCX11 rfl (by decide) rfl (by decide) (iW8 _ (List.mem_of_getElem? (i := 8) rfl)) rfl (dk dX11_here_0 15 rfl) h (fun x5 h => ?_)
    refine k_iadd C (dk dX11_here_0 16 rfl) ?_
    refine k_lald C rfl rfl (dk dX11_here_0 17 rfl) h (fun x6 h => ?_)
    refine k_l2i C (dk dX11_here_0 18 rfl) ?_
    refine k_goto (tgt := 40) C (dk dX11_here_0 19 rfl) (by decide) ?_
    exact k_iret E (dk dX11_here_0 21 rfl) h
set_option maxRecDepth 100000 in
set_option maxHeartbeats 4000000 in
theorem qX11_readDigits (l : Launch) (g : G) (hg : gOK g) {a1 : Int32}  {s0 σe : St} {v : Int32} (h : mX11_readDigits a1 s0 = some (v, σe)) : Mc l g yX11_readDigits cX11_readDigits 4 (some .int) { frames := 1, cells := 0, slots := 0, locals := 25 } [.ref (g.2.2 45), .int a1] s0 (some (.int v)) σe := by
  refine k_enter hg pnRX11 rfl (Nat.le_of_ble_eq_true rfl) ?_
  intro WK E
  have C := kX_y E
  unfold mX11_readDigits at h
  show WK 0 [(0, .ref (g.2.2 45)), (1, .int a1)] [] s0
  refine k_iconst (v := (0 : Int32)) C (dk dX11_readDigits_0 0 rfl) (by decide) ?_
  refine k_istore_n (lv' := [(2, .int (0 : Int32)), (0, .ref (g.2.2 45)), (1, .int a1)]) C (dk dX11_readDigits_0 1 rfl) rfl (by decide) rfl ?_
  refine k_iconst (v := (0 : Int32)) C (dk dX11_readDigits_0 2 rfl) (by decide) ?_
  refine k_istore_n (lv' := [(3, .int (0 : Int32)), (2, .int (0 : Int32)), (0, .ref (g.2.2 45)), (1, .int a1)]) C (dk dX11_readDigits_0 3 rfl) rfl (by decide) rfl ?_
  refine kl_L (P := (fun J4 => ∀ (y1 : Int32) (y2 : Int32) (s3 : St), J4 y1 y2 s3 = some (v, σe) → WK 4 [(0, .ref (g.2.2 45)), (1, .int a1), (2, .int y1), (3, .int y2)] [] s3)) h (fun _ _ _ h => nomatch h) (fun J4 hJ4 y1 y2 s3 h => ?_) (fun J4 hJ4 h => ?_)
  ·
    unfold mX11_readDigits_4 at h
    refine k_iload_n C (dk dX11_readDigits_0 4 rfl) rfl 3 rfl ?_
    refine k_iload_n C (dk dX11_readDigits_0 5 rfl) rfl 1 rfl ?_
    refine k_icmp_ge (tgt := 93) C (dk dX11_readDigits_0 6 rfl) (by decide) h (fun h => ?_) (fun h => ?_)
    ·
      refine k_iload_n C (dk dX11_readDigits_1 17 rfl) rfl 2 rfl ?_
      exact k_iret E (dk dX11_readDigits_1 18 rfl) h
    ·
      refine k_aload_n C (dk dX11_readDigits_0 7 rfl) rfl 0 rfl ?_
      refine k_aload_n C (dk dX11_readDigits_0 8 rfl) rfl 0 rfl ?_
      refine k_getI (D := RX11) (T := TX11) (N := 39) (ci := 6) (k := 20) C iCX11 rfl (by decide) rfl (by decide) (iW8 _ (List.mem_of_getElem? (i := 9) rfl)) rfl (dk dX11_readDigits_0 9 rfl) h (fun x4 h => ?_)
      refine kl_J (P := (fun J39 => ∀ (y5 : Int32) (s6 : St), J39 y5 s6 = some (v, σe) → WK 39 [(0, .ref (g.2.2 45)), (1, .int a1), (2, .int y1), (3, .int y2)] [.int y5, .ref (g.2.2 45)] s6)) h (fun y5 s6 h => ?_) (fun J39 hJ39 h => ?_)
      ·
        unfold mX11_readDigits_39 at h
        refine k_putZ (D := RX11) (T := TX11) (N := 39) (ci := 6) (k := 20) C iCX11 tyX11_ok nmX11 rfl (by decide) rfl (by decide) (iW8 _ (List.mem_of_getElem? (i := 9) rfl)) rfl rfl flq6_20 flp6_20 (dk dX11_readDigits_0 21 rfl) h (fun s7 h => ?_)
        refine k_aload_n C (dk dX11_readDigits_0 22 rfl) rfl 0 rfl ?_
        refine k_getI (D := RX11) (T := TX11) (N := 39) (ci := 6) (k := 20) C iCX11 rfl (by decide) rfl (by decide) (iW8 _ (List.mem_of_getElem? (i := 9) rfl)) rfl (dk dX11_readDigits_0 23 rfl) h (fun x8 h => ?_)
        refine kl_J (P := (fun J65 => ∀ (y9 : Int32) (s10 : St), J65 y9 s10 = some (v, σe) → WK 65 [(0, .ref (g.2.2 45)), (1, .int a1), (3, .int y2)] [.int y9] s10)) h (fun y9 s10 h => ?_) (fun J65 hJ65 h => ?_)
        ·
          unfold mX11_readDigits_65 at h
          refine k_istore_n (lv' := [(2, .int y9), (0, .ref (g.2.2 45)), (1, .int a1), (3, .int y2)]) C (dk dX11_readDigits_1 3 rfl) rfl (by decide) rfl ?_
          refine k_aload_n C (dk dX11_readDigits_1 4 rfl) rfl 1 rfl ?_
          refine k_dup C (dk dX11_readDigits_1 5 rfl) rfl ?_
          refine k_getI (D := RX11) (T := TX11) (N := 39) (ci := 6) (k := 19) C iCX11 rfl (by decide) rfl (by decide) (iW8 _ (List.mem_of_getElem? (i := 8) rfl)) rfl (dk dX11_readDigits_1 6 rfl) h (fun x11 h => ?_)
          refine k_aload_n C (dk dX11_readDigits_1 7 rfl) rfl 1 rfl ?_
          refine k_getI (D := RX11) (T := TX11) (N := 39) (ci := 6) (k := 20) C iCX11 rfl (by decide) rfl (by decide) (iW8 _ (List.mem_of_getElem? (i := 9) rfl)) rfl (dk dX11_readDigits_1 8 rfl) h (fun x12 h => ?_)
          refine kl_J (P := (fun J83 => ∀ (y13 : Int32) (s14 : St), J83 y13 s14 = some (v, σe) → WK 83 [(0, .ref (g.2.2 45)), (1, .int a1), (2, .int y9), (3, .int y2)] [.int y13, .int x11, .ref (g.2.2 45)] s14)) h (fun y13 s14 h => ?_) (fun J83 hJ83 h => ?_)
          ·
            unfold mX11_readDigits_83 at h
            refine k_iadd C (dk dX11_readDigits_1 13 rfl) ?_
            refine k_putI (D := RX11) (T := TX11) (N := 39) (ci := 6) (k := 19) C iCX11 tyX11_ok nmX11 rfl (by decide) rfl (by decide) (iW8 _ (List.mem_of_getElem? (i := 8) rfl)) rfl rfl flq6_19 flp6_19 (dk dX11_readDigits_1 14 rfl) h (fun s15 h => ?_)
            refine k_iinc (lv' := [(3, .int (y2 + 1)), (0, .ref (g.2.2 45)), (1, .int a1), (2, .int y9)]) C (dk dX11_readDigits_1 15 rfl) (j := 3) rfl rfl (by decide) rfl ?_
            refine k_goto (tgt := 4) C (dk dX11_readDigits_1 16 rfl) (by decide) ?_
            refine k_sub C [1, 2, 3, 0] rfl ?_
            exact hJ4 _ _ _ h
          ·
            refine k_if_eq (tgt := 82) C (dk dX11_readDigits_1 9 rfl) (by decide) h (fun h => ?_) (fun h => ?_)
            ·
              refine k_iconst (v := (1 : Int32)) C (dk dX11_readDigits_1 12 rfl) (by decide) ?_
              refine k_sub C [1, 2, 0, 3] rfl ?_
              exact hJ83 _ _ h
            ·
              refine k_iconst (v := (0 : Int32)) C (dk dX11_readDigits_1 10 rfl) (by decide) ?_
              refine k_goto (tgt := 83) C (dk dX11_readDigits_1 11 rfl) (by decide) ?_
              refine k_sub C [1, 2, 0, 3] rfl ?_
              exact hJ83 _ _ h
        ·
          refine k_if_eq (tgt := 53) C (dk dX11_readDigits_0 24 rfl) (by decide) h (fun h => ?_) (fun h => ?_)
          ·
            refine k_bipush (v := (10 : Int32)) C (dk dX11_readDigits_0 27 rfl) (by decide) ?_
            refine k_iload_n C (dk dX11_readDigits_0 28 rfl) rfl 2 rfl ?_
            refine k_imul C (dk dX11_readDigits_0 29 rfl) ?_
            refine k_aload_n C (dk dX11_readDigits_0 30 rfl) rfl 0 rfl ?_
            refine cl2_k h (fun x17 s16 hc h => ?_)
            refine k_cv (T := TX11) (N := 39) (ci := 6) (ob := 45) (As := []) (st := [.int ((10 : Int32) * y1)]) C (qX11_here l g hg hc) (iW8 _ (List.mem_of_getElem? (i := 23) rfl)) (iW8 _ (List.mem_of_getElem? (i := 24) rfl)) (iW8 _ (List.mem_of_getElem? (i := 25) rfl)) (iW0 _ (List.mem_of_getElem? (i := 5) rfl)) (iW8 _ (List.mem_of_getElem? (i := 26) rfl)) rfl rfl hdX11_here (by decide) rfl (by decide) rfl rfl rfl (Nat.le_of_ble_eq_true rfl) (dk dX11_readDigits_0 31 rfl) ?_
            refine k_iadd C (dk dX11_readDigits_1 0 rfl) ?_
            refine k_bipush (v := (48 : Int32)) C (dk dX11_readDigits_1 1 rfl) (by decide) ?_
            refine k_isub C (dk dX11_readDigits_1 2 rfl) ?_
            refine k_sub C [0, 1, 3] rfl ?_
            exact hJ65 _ _ h
          ·
            refine k_iconst (v := (0 : Int32)) C (dk dX11_readDigits_0 25 rfl) (by decide) ?_
            refine k_goto (tgt := 65) C (dk dX11_readDigits_0 26 rfl) (by decide) ?_
            refine k_sub C [0, 1, 3] rfl ?_
            exact hJ65 _ _ h
      ·
        refine kl_J (P := (fun J34 => ∀ (s18 : St), J34 s18 = some (v, σe) → WK 34 [(0, .ref (g.2.2 45)), (1, .int a1), (2, .int y1), (3, .int y2)] [.ref (g.2.2 45)] s18)) h (fun s18 h => ?_) (fun J34 hJ34 h => ?_)
        ·
          unfold mX11_readDigits_34 at h
          refine k_iconst (v := (1 : Int32)) C (dk dX11_readDigits_0 18 rfl) (by decide) ?_
          refine k_goto (tgt := 39) C (dk dX11_readDigits_0 19 rfl) (by decide) ?_
          exact hJ39 _ _ h
        ·
          refine k_if_ne (tgt := 34) C (dk dX11_readDigits_0 10 rfl) (by decide) h (fun h => ?_) (fun h => ?_)
          ·
            exact hJ34 _ h
          ·
            refine k_aload_n C (dk dX11_readDigits_0 11 rfl) rfl 0 rfl ?_
            refine cl2_k h (fun x20 s19 hc h => ?_)
            refine k_cv (T := TX11) (N := 39) (ci := 6) (ob := 45) (As := []) (st := [.ref (g.2.2 45)]) C (qX11_here l g hg hc) (iW8 _ (List.mem_of_getElem? (i := 23) rfl)) (iW8 _ (List.mem_of_getElem? (i := 24) rfl)) (iW8 _ (List.mem_of_getElem? (i := 25) rfl)) (iW0 _ (List.mem_of_getElem? (i := 5) rfl)) (iW8 _ (List.mem_of_getElem? (i := 26) rfl)) rfl rfl hdX11_here (by decide) rfl (by decide) rfl rfl rfl (Nat.le_of_ble_eq_true rfl) (dk dX11_readDigits_0 12 rfl) ?_
            refine k_i2l C (dk dX11_readDigits_0 13 rfl) ?_
            refine k_ldc2 (v := (48 : Int64)) C (dk dX11_readDigits_0 14 rfl) (iW9 _ (List.mem_of_getElem? (i := 4) rfl)) ?_
            refine k_ldc2 (v := (57 : Int64)) C (dk dX11_readDigits_0 15 rfl) (iW9 _ (List.mem_of_getElem? (i := 5) rfl)) ?_
            refine cl2_k h (fun x22 s21 hc h => ?_)
            refine k_cs (As := [.long x20.toInt64, .long (48 : Int64), .long (57 : Int64)]) (st := [.ref (g.2.2 45)]) C (qX11_in l g hg hc) (iW8 _ (List.mem_of_getElem? (i := 16) rfl)) (iW8 _ (List.mem_of_getElem? (i := 17) rfl)) (iW0 _ (List.mem_of_getElem? (i := 5) rfl)) (iW8 _ (List.mem_of_getElem? (i := 18) rfl)) rfl rfl hdX11_in (by decide) rfl rfl (Nat.le_of_ble_eq_true rfl) (dk dX11_readDigits_0 16 rfl) ?_
            refine k_if_ne (tgt := 38) C (dk dX11_readDigits_0 17 rfl) (by decide) h (fun h => ?_) (fun h => ?_)
            ·
              refine k_iconst (v := (0 : Int32)) C (dk dX11_readDigits_0 20 rfl) (by decide) ?_
              exact hJ39 _ _ h
            ·
              exact hJ34 _ h
  ·
    refine k_sub C [2, 3, 1, 0] rfl ?_
    exact hJ4 _ _ _ h
set_option maxRecDepth 100000 in
set_option maxHeartbeats 4000000 in
theorem qX11_isLetter (l : Launch) (g : G) (hg : gOK g) {a0 : Int32}  {s0 σe : St} {v : Int32} (h : mX11_isLetter a0 s0 = some (v, σe)) : Mc l g yX11_isLetter cX11_isLetter 1 (some .boolean) { frames := 0, cells := 0, slots := 0, locals := 0 } [.int a0] s0 (some (.int v)) σe := by
  refine k_enter hg pnRX11 rfl (Nat.le_of_ble_eq_true rfl) ?_
  intro WK E
  have C := kX_y E
  unfold mX11_isLetter at h
  show WK 0 [(0, .int a0)] [] s0
  refine k_iload_n C (dk dX11_isLetter_0 0 rfl) rfl 0 rfl ?_
  refine k_bipush (v := (103 : Int32)) C (dk dX11_isLetter_0 1 rfl) (by decide) ?_
  refine kl_J (P := (fun J36 => ∀ (s1 : St), J36 s1 = some (v, σe) → WK 36 [] [] s1)) h (fun s1 h => ?_) (fun J36 hJ36 h => ?_)
  ·
    unfold mX11_isLetter_36 at h
    refine k_iconst (v := (1 : Int32)) C (dk dX11_isLetter_0 18 rfl) (by decide) ?_
    refine k_goto (tgt := 41) C (dk dX11_isLetter_0 19 rfl) (by decide) ?_
    exact k_zret E (dk dX11_isLetter_0 21 rfl) h
  ·
    refine k_icmp_eq (tgt := 36) C (dk dX11_isLetter_0 2 rfl) (by decide) h (fun h => ?_) (fun h => ?_)
    ·
      refine k_sub C [] rfl ?_
      exact hJ36 _ h
    ·
      refine k_iload_n C (dk dX11_isLetter_0 3 rfl) rfl 0 rfl ?_
      refine k_bipush (v := (104 : Int32)) C (dk dX11_isLetter_0 4 rfl) (by decide) ?_
      refine k_icmp_eq (tgt := 36) C (dk dX11_isLetter_0 5 rfl) (by decide) h (fun h => ?_) (fun h => ?_)
      ·
        refine k_sub C [] rfl ?_
        exact hJ36 _ h
      ·
        refine k_iload_n C (dk dX11_isLetter_0 6 rfl) rfl 0 rfl ?_
        refine k_bipush (v := (115 : Int32)) C (dk dX11_isLetter_0 7 rfl) (by decide) ?_
        refine k_icmp_eq (tgt := 36) C (dk dX11_isLetter_0 8 rfl) (by decide) h (fun h => ?_) (fun h => ?_)
        ·
          refine k_sub C [] rfl ?_
          exact hJ36 _ h
        ·
          refine k_iload_n C (dk dX11_isLetter_0 9 rfl) rfl 0 rfl ?_
          refine k_bipush (v := (110 : Int32)) C (dk dX11_isLetter_0 10 rfl) (by decide) ?_
          refine k_icmp_eq (tgt := 36) C (dk dX11_isLetter_0 11 rfl) (by decide) h (fun h => ?_) (fun h => ?_)
          ·
            refine k_sub C [] rfl ?_
            exact hJ36 _ h
          ·
            refine k_iload_n C (dk dX11_isLetter_0 12 rfl) rfl 0 rfl ?_
            refine k_bipush (v := (119 : Int32)) C (dk dX11_isLetter_0 13 rfl) (by decide) ?_
            refine k_icmp_eq (tgt := 36) C (dk dX11_isLetter_0 14 rfl) (by decide) h (fun h => ?_) (fun h => ?_)
            ·
              refine k_sub C [] rfl ?_
              exact hJ36 _ h
            ·
              refine k_iload_n C (dk dX11_isLetter_0 15 rfl) rfl 0 rfl ?_
              refine k_bipush (v := (100 : Int32)) C (dk dX11_isLetter_0 16 rfl) (by decide) ?_
              refine k_icmp_ne (tgt := 40) C (dk dX11_isLetter_0 17 rfl) (by decide) h (fun h => ?_) (fun h => ?_)
              ·
                refine k_iconst (v := (0 : Int32)) C (dk dX11_isLetter_0 20 rfl) (by decide) ?_
                exact k_zret E (dk dX11_isLetter_0 21 rfl) h
              ·
                refine k_sub C [] rfl ?_
                exact hJ36 _ h
set_option maxRecDepth 100000 in
set_option maxHeartbeats 4000000 in
theorem qX11_readStatement (l : Launch) (g : G) (hg : gOK g)   {s0 σe : St} (h : mX11_readStatement s0 = some σe) : Mc l g yX11_readStatement cX11_readStatement 4 none { frames := 2, cells := 0, slots := 0, locals := 48 } [.ref (g.2.2 45)] s0 none σe := by
  refine k_enter hg pnRX11 rfl (Nat.le_of_ble_eq_true rfl) ?_
  intro WK E
  have C := kX_y E
  unfold mX11_readStatement at h
  show WK 0 [(0, .ref (g.2.2 45))] [] s0
  refine k_aload_n C (dk dX11_readStatement_0 0 rfl) rfl 0 rfl ?_
  refine k_getI (D := RX11) (T := TX11) (N := 39) (ci := 6) (k := 21) C iCX11 rfl (by decide) rfl (by decide) (iW8 _ (List.mem_of_getElem? (i := 10) rfl)) rfl (dk dX11_readStatement_0 1 rfl) h (fun x1 h => ?_)
  refine k_istore_n (lv' := [(1, .int x1), (0, .ref (g.2.2 45))]) C (dk dX11_readStatement_0 2 rfl) rfl (by decide) rfl ?_
  refine k_aload_n C (dk dX11_readStatement_0 3 rfl) rfl 1 rfl ?_
  refine cl2_k h (fun x3 s2 hc h => ?_)
  refine k_cv (T := TX11) (N := 39) (ci := 6) (ob := 45) (As := []) (st := []) C (qX11_here l g hg hc) (iW8 _ (List.mem_of_getElem? (i := 23) rfl)) (iW8 _ (List.mem_of_getElem? (i := 24) rfl)) (iW8 _ (List.mem_of_getElem? (i := 25) rfl)) (iW0 _ (List.mem_of_getElem? (i := 5) rfl)) (iW8 _ (List.mem_of_getElem? (i := 26) rfl)) rfl rfl hdX11_here (by decide) rfl (by decide) rfl rfl rfl (Nat.le_of_ble_eq_true rfl) (dk dX11_readStatement_0 4 rfl) ?_
  refine k_istore_n (lv' := [(2, .int x3), (1, .int x1), (0, .ref (g.2.2 45))]) C (dk dX11_readStatement_0 5 rfl) rfl (by decide) rfl ?_
  refine k_iconst (v := (3 : Int32)) C (dk dX11_readStatement_0 6 rfl) (by decide) ?_
  refine k_iload_n C (dk dX11_readStatement_0 7 rfl) rfl 1 rfl ?_
  refine k_imul C (dk dX11_readStatement_0 8 rfl) ?_
  refine nmI h (fun x4 h => ?_)
  refine k_istore_n (lv' := [(3, .int x4), (2, .int x3), (1, .int x1), (0, .ref (g.2.2 45))]) C (dk dX11_readStatement_0 9 rfl) rfl (by decide) rfl ?_
  refine k_aload_n C (dk dX11_readStatement_0 10 rfl) rfl 3 rfl ?_
  refine k_getR (q := 54) (D := RX11) (T := TX11) (N := 39) (ci := 6) (k := 22) C iCX11 rfl (by decide) rfl (by decide) (iW3 _ (List.mem_of_getElem? (i := 8) rfl)) rfl (dk dX11_readStatement_0 11 rfl) ?_
  refine k_iload_n C (dk dX11_readStatement_0 12 rfl) rfl 2 rfl ?_
  refine k_aload_n C (dk dX11_readStatement_0 13 rfl) rfl 3 rfl ?_
  refine k_getI (D := RX11) (T := TX11) (N := 39) (ci := 6) (k := 19) C iCX11 rfl (by decide) rfl (by decide) (iW8 _ (List.mem_of_getElem? (i := 8) rfl)) rfl (dk dX11_readStatement_0 14 rfl) h (fun x5 h => ?_)
  refine k_iast C rfl rfl (dk dX11_readStatement_0 15 rfl) h (fun s6 h => ?_)
  refine k_aload_n C (dk dX11_readStatement_0 16 rfl) rfl 3 rfl ?_
  refine k_getR (q := 55) (D := RX11) (T := TX11) (N := 39) (ci := 6) (k := 23) C iCX11 rfl (by decide) rfl (by decide) (iW3 _ (List.mem_of_getElem? (i := 9) rfl)) rfl (dk dX11_readStatement_0 17 rfl) ?_
  refine k_iload_n C (dk dX11_readStatement_0 18 rfl) rfl 2 rfl ?_
  refine k_iload_n C (dk dX11_readStatement_0 19 rfl) rfl 1 rfl ?_
  refine k_iast C rfl rfl (dk dX11_readStatement_0 20 rfl) h (fun s7 h => ?_)
  refine k_aload_n C (dk dX11_readStatement_0 21 rfl) rfl 3 rfl ?_
  refine k_aload_n C (dk dX11_readStatement_0 22 rfl) rfl 3 rfl ?_
  refine k_getI (D := RX11) (T := TX11) (N := 39) (ci := 6) (k := 20) C iCX11 rfl (by decide) rfl (by decide) (iW8 _ (List.mem_of_getElem? (i := 9) rfl)) rfl (dk dX11_readStatement_0 23 rfl) h (fun x8 h => ?_)
  refine kl_J (P := (fun J51 => ∀ (y9 : Int32) (s10 : St), J51 y9 s10 = some σe → WK 51 [(0, .ref (g.2.2 45)), (2, .int x3), (3, .int x4)] [.int y9, .ref (g.2.2 45)] s10)) h (fun y9 s10 h => ?_) (fun J51 hJ51 h => ?_)
  ·
    unfold mX11_readStatement_51 at h
    refine k_putZ (D := RX11) (T := TX11) (N := 39) (ci := 6) (k := 20) C iCX11 tyX11_ok nmX11 rfl (by decide) rfl (by decide) (iW8 _ (List.mem_of_getElem? (i := 9) rfl)) rfl rfl flq6_20 flp6_20 (dk dX11_readStatement_0 31 rfl) h (fun s11 h => ?_)
    refine k_aload_n C (dk dX11_readStatement_1 0 rfl) rfl 0 rfl ?_
    refine k_dup C (dk dX11_readStatement_1 1 rfl) rfl ?_
    refine k_getI (D := RX11) (T := TX11) (N := 39) (ci := 6) (k := 19) C iCX11 rfl (by decide) rfl (by decide) (iW8 _ (List.mem_of_getElem? (i := 8) rfl)) rfl (dk dX11_readStatement_1 2 rfl) h (fun x12 h => ?_)
    refine k_aload_n C (dk dX11_readStatement_1 3 rfl) rfl 0 rfl ?_
    refine k_getI (D := RX11) (T := TX11) (N := 39) (ci := 6) (k := 20) C iCX11 rfl (by decide) rfl (by decide) (iW8 _ (List.mem_of_getElem? (i := 9) rfl)) rfl (dk dX11_readStatement_1 4 rfl) h (fun x13 h => ?_)
    refine kl_J (P := (fun J71 => ∀ (y14 : Int32) (s15 : St), J71 y14 s15 = some σe → WK 71 [(0, .ref (g.2.2 45)), (2, .int x3), (3, .int x4)] [.int y14, .int x12, .ref (g.2.2 45)] s15)) h (fun y14 s15 h => ?_) (fun J71 hJ71 h => ?_)
    ·
      unfold mX11_readStatement_71 at h
      refine k_iadd C (dk dX11_readStatement_1 9 rfl) ?_
      refine k_putI (D := RX11) (T := TX11) (N := 39) (ci := 6) (k := 19) C iCX11 tyX11_ok nmX11 rfl (by decide) rfl (by decide) (iW8 _ (List.mem_of_getElem? (i := 8) rfl)) rfl rfl flq6_19 flp6_19 (dk dX11_readStatement_1 10 rfl) h (fun s16 h => ?_)
      refine k_iload_n C (dk dX11_readStatement_1 11 rfl) rfl 1 rfl ?_
      refine k_bipush (v := (103 : Int32)) C (dk dX11_readStatement_1 12 rfl) (by decide) ?_
      refine kl_J (P := (fun J215 => ∀ (s17 : St), J215 s17 = some σe → WK 215 [(0, .ref (g.2.2 45))] [] s17)) h (fun s17 h => ?_) (fun J215 hJ215 h => ?_)
      ·
        unfold mX11_readStatement_215 at h
        refine k_aload_n C (dk dX11_readStatement_3 31 rfl) rfl 0 rfl ?_
        refine k_aload_n C (dk dX11_readStatement_4 0 rfl) rfl 0 rfl ?_
        refine k_getI (D := RX11) (T := TX11) (N := 39) (ci := 6) (k := 20) C iCX11 rfl (by decide) rfl (by decide) (iW8 _ (List.mem_of_getElem? (i := 9) rfl)) rfl (dk dX11_readStatement_4 1 rfl) h (fun x18 h => ?_)
        refine kl_J (P := (fun J237 => ∀ (y19 : Int32) (s20 : St), J237 y19 s20 = some σe → WK 237 [(0, .ref (g.2.2 45))] [.int y19, .ref (g.2.2 45)] s20)) h (fun y19 s20 h => ?_) (fun J237 hJ237 h => ?_)
        ·
          unfold mX11_readStatement_237 at h
          refine k_putZ (D := RX11) (T := TX11) (N := 39) (ci := 6) (k := 20) C iCX11 tyX11_ok nmX11 rfl (by decide) rfl (by decide) (iW8 _ (List.mem_of_getElem? (i := 9) rfl)) rfl rfl flq6_20 flp6_20 (dk dX11_readStatement_4 10 rfl) h (fun s21 h => ?_)
          refine k_aload_n C (dk dX11_readStatement_4 11 rfl) rfl 0 rfl ?_
          refine k_dup C (dk dX11_readStatement_4 12 rfl) rfl ?_
          refine k_getI (D := RX11) (T := TX11) (N := 39) (ci := 6) (k := 19) C iCX11 rfl (by decide) rfl (by decide) (iW8 _ (List.mem_of_getElem? (i := 8) rfl)) rfl (dk dX11_readStatement_4 13 rfl) h (fun x22 h => ?_)
          refine k_aload_n C (dk dX11_readStatement_4 14 rfl) rfl 0 rfl ?_
          refine k_getI (D := RX11) (T := TX11) (N := 39) (ci := 6) (k := 20) C iCX11 rfl (by decide) rfl (by decide) (iW8 _ (List.mem_of_getElem? (i := 9) rfl)) rfl (dk dX11_readStatement_4 15 rfl) h (fun x23 h => ?_)
          refine kl_J (P := (fun J257 => ∀ (y24 : Int32) (s25 : St), J257 y24 s25 = some σe → WK 257 [(0, .ref (g.2.2 45))] [.int y24, .int x22, .ref (g.2.2 45)] s25)) h (fun y24 s25 h => ?_) (fun J257 hJ257 h => ?_)
          ·
            unfold mX11_readStatement_257 at h
            refine k_iadd C (dk dX11_readStatement_4 20 rfl) ?_
            refine k_putI (D := RX11) (T := TX11) (N := 39) (ci := 6) (k := 19) C iCX11 tyX11_ok nmX11 rfl (by decide) rfl (by decide) (iW8 _ (List.mem_of_getElem? (i := 8) rfl)) rfl rfl flq6_19 flp6_19 (dk dX11_readStatement_4 21 rfl) h (fun s26 h => ?_)
            refine k_aload_n C (dk dX11_readStatement_4 22 rfl) rfl 0 rfl ?_
            refine k_dup C (dk dX11_readStatement_4 23 rfl) rfl ?_
            refine k_getI (D := RX11) (T := TX11) (N := 39) (ci := 6) (k := 21) C iCX11 rfl (by decide) rfl (by decide) (iW8 _ (List.mem_of_getElem? (i := 10) rfl)) rfl (dk dX11_readStatement_4 24 rfl) h (fun x27 h => ?_)
            refine k_iconst (v := (1 : Int32)) C (dk dX11_readStatement_4 25 rfl) (by decide) ?_
            refine k_iadd C (dk dX11_readStatement_4 26 rfl) ?_
            refine k_putI (D := RX11) (T := TX11) (N := 39) (ci := 6) (k := 21) C iCX11 tyX11_ok nmX11 rfl (by decide) rfl (by decide) (iW8 _ (List.mem_of_getElem? (i := 10) rfl)) rfl rfl flq6_21 flp6_21 (dk dX11_readStatement_4 27 rfl) h (fun s28 h => ?_)
            exact k_vret E (dk dX11_readStatement_4 28 rfl) h
          ·
            refine k_if_eq (tgt := 256) C (dk dX11_readStatement_4 16 rfl) (by decide) h (fun h => ?_) (fun h => ?_)
            ·
              refine k_iconst (v := (1 : Int32)) C (dk dX11_readStatement_4 19 rfl) (by decide) ?_
              exact hJ257 _ _ h
            ·
              refine k_iconst (v := (0 : Int32)) C (dk dX11_readStatement_4 17 rfl) (by decide) ?_
              refine k_goto (tgt := 257) C (dk dX11_readStatement_4 18 rfl) (by decide) ?_
              exact hJ257 _ _ h
        ·
          refine kl_J (P := (fun J232 => ∀ (s29 : St), J232 s29 = some σe → WK 232 [(0, .ref (g.2.2 45))] [.ref (g.2.2 45)] s29)) h (fun s29 h => ?_) (fun J232 hJ232 h => ?_)
          ·
            unfold mX11_readStatement_232 at h
            refine k_iconst (v := (1 : Int32)) C (dk dX11_readStatement_4 7 rfl) (by decide) ?_
            refine k_goto (tgt := 237) C (dk dX11_readStatement_4 8 rfl) (by decide) ?_
            exact hJ237 _ _ h
          ·
            refine k_if_ne (tgt := 232) C (dk dX11_readStatement_4 2 rfl) (by decide) h (fun h => ?_) (fun h => ?_)
            ·
              exact hJ232 _ h
            ·
              refine k_aload_n C (dk dX11_readStatement_4 3 rfl) rfl 0 rfl ?_
              refine cl2_k h (fun x31 s30 hc h => ?_)
              refine k_cv (T := TX11) (N := 39) (ci := 6) (ob := 45) (As := []) (st := [.ref (g.2.2 45)]) C (qX11_here l g hg hc) (iW8 _ (List.mem_of_getElem? (i := 23) rfl)) (iW8 _ (List.mem_of_getElem? (i := 24) rfl)) (iW8 _ (List.mem_of_getElem? (i := 25) rfl)) (iW0 _ (List.mem_of_getElem? (i := 5) rfl)) (iW8 _ (List.mem_of_getElem? (i := 26) rfl)) rfl rfl hdX11_here (by decide) rfl (by decide) rfl rfl rfl (Nat.le_of_ble_eq_true rfl) (dk dX11_readStatement_4 4 rfl) ?_
              refine k_bipush (v := (59 : Int32)) C (dk dX11_readStatement_4 5 rfl) (by decide) ?_
              refine k_icmp_eq (tgt := 236) C (dk dX11_readStatement_4 6 rfl) (by decide) h (fun h => ?_) (fun h => ?_)
              ·
                refine k_iconst (v := (0 : Int32)) C (dk dX11_readStatement_4 9 rfl) (by decide) ?_
                exact hJ237 _ _ h
              ·
                exact hJ232 _ h
      ·
        refine k_icmp_ne (tgt := 121) C (dk dX11_readStatement_1 13 rfl) (by decide) h (fun h => ?_) (fun h => ?_)
        ·
          refine k_iload_n C (dk dX11_readStatement_2 8 rfl) rfl 1 rfl ?_
          refine k_bipush (v := (119 : Int32)) C (dk dX11_readStatement_2 9 rfl) (by decide) ?_
          refine k_icmp_ne (tgt := 141) C (dk dX11_readStatement_2 10 rfl) (by decide) h (fun h => ?_) (fun h => ?_)
          ·
            refine k_iload_n C (dk dX11_readStatement_2 19 rfl) rfl 1 rfl ?_
            refine k_bipush (v := (100 : Int32)) C (dk dX11_readStatement_2 20 rfl) (by decide) ?_
            refine k_icmp_ne (tgt := 174) C (dk dX11_readStatement_2 21 rfl) (by decide) h (fun h => ?_) (fun h => ?_)
            ·
              refine k_aload_n C (dk dX11_readStatement_3 7 rfl) rfl 0 rfl ?_
              refine k_getI (D := RX11) (T := TX11) (N := 39) (ci := 6) (k := 20) C iCX11 rfl (by decide) rfl (by decide) (iW8 _ (List.mem_of_getElem? (i := 9) rfl)) rfl (dk dX11_readStatement_3 8 rfl) h (fun x32 h => ?_)
              refine k_if_ne (tgt := 215) C (dk dX11_readStatement_3 9 rfl) (by decide) h (fun h => ?_) (fun h => ?_)
              ·
                refine k_sub C [0] rfl ?_
                exact hJ215 _ h
              ·
                refine k_aload_n C (dk dX11_readStatement_3 10 rfl) rfl 0 rfl ?_
                refine k_getR (q := 56) (D := RX11) (T := TX11) (N := 39) (ci := 6) (k := 24) C iCX11 rfl (by decide) rfl (by decide) (iW3 _ (List.mem_of_getElem? (i := 10) rfl)) rfl (dk dX11_readStatement_3 11 rfl) ?_
                refine k_iload_n C (dk dX11_readStatement_3 12 rfl) rfl 2 rfl ?_
                refine k_aload_n C (dk dX11_readStatement_3 13 rfl) rfl 0 rfl ?_
                refine k_iconst (v := (2 : Int32)) C (dk dX11_readStatement_3 14 rfl) (by decide) ?_
                refine cl2_k h (fun x34 s33 hc h => ?_)
                refine k_cv (T := TX11) (N := 39) (ci := 6) (ob := 45) (As := [.int (2 : Int32)]) (st := [.int x4, .ref (g.2.2 56)]) C (qX11_readDigits l g hg hc) (iW9 _ (List.mem_of_getElem? (i := 0) rfl)) (iW9 _ (List.mem_of_getElem? (i := 1) rfl)) (iW9 _ (List.mem_of_getElem? (i := 2) rfl)) (iW0 _ (List.mem_of_getElem? (i := 5) rfl)) (iW9 _ (List.mem_of_getElem? (i := 3) rfl)) rfl rfl hdX11_readDigits (by decide) rfl (by decide) rfl rfl rfl (Nat.le_of_ble_eq_true rfl) (dk dX11_readStatement_3 15 rfl) ?_
                refine k_iast C rfl rfl (dk dX11_readStatement_3 16 rfl) h (fun s35 h => ?_)
                refine k_aload_n C (dk dX11_readStatement_3 17 rfl) rfl 0 rfl ?_
                refine k_getR (q := 56) (D := RX11) (T := TX11) (N := 39) (ci := 6) (k := 24) C iCX11 rfl (by decide) rfl (by decide) (iW3 _ (List.mem_of_getElem? (i := 10) rfl)) rfl (dk dX11_readStatement_3 18 rfl) ?_
                refine k_iload_n C (dk dX11_readStatement_3 19 rfl) rfl 2 rfl ?_
                refine k_iconst (v := (1 : Int32)) C (dk dX11_readStatement_3 20 rfl) (by decide) ?_
                refine k_iadd C (dk dX11_readStatement_3 21 rfl) ?_
                refine k_iload_n C (dk dX11_readStatement_3 22 rfl) rfl 1 rfl ?_
                refine k_bipush (v := (110 : Int32)) C (dk dX11_readStatement_3 23 rfl) (by decide) ?_
                refine kl_J (P := (fun J214 => ∀ (y36 : Int32) (s37 : St), J214 y36 s37 = some σe → WK 214 [(0, .ref (g.2.2 45))] [.int y36, .int (x4 + (1 : Int32)), .ref (g.2.2 56)] s37)) h (fun y36 s37 h => ?_) (fun J214 hJ214 h => ?_)
                ·
                  unfold mX11_readStatement_214 at h
                  refine k_iast C rfl rfl (dk dX11_readStatement_3 30 rfl) h (fun s38 h => ?_)
                  exact hJ215 _ h
                ·
                  refine k_icmp_ne (tgt := 213) C (dk dX11_readStatement_3 24 rfl) (by decide) h (fun h => ?_) (fun h => ?_)
                  ·
                    refine k_iconst (v := (0 : Int32)) C (dk dX11_readStatement_3 29 rfl) (by decide) ?_
                    refine k_sub C [0] rfl ?_
                    exact hJ214 _ _ h
                  ·
                    refine k_aload_n C (dk dX11_readStatement_3 25 rfl) rfl 0 rfl ?_
                    refine k_iconst (v := (2 : Int32)) C (dk dX11_readStatement_3 26 rfl) (by decide) ?_
                    refine cl2_k h (fun x40 s39 hc h => ?_)
                    refine k_cv (T := TX11) (N := 39) (ci := 6) (ob := 45) (As := [.int (2 : Int32)]) (st := [.int (x4 + (1 : Int32)), .ref (g.2.2 56)]) C (qX11_readDigits l g hg hc) (iW9 _ (List.mem_of_getElem? (i := 0) rfl)) (iW9 _ (List.mem_of_getElem? (i := 1) rfl)) (iW9 _ (List.mem_of_getElem? (i := 2) rfl)) (iW0 _ (List.mem_of_getElem? (i := 5) rfl)) (iW9 _ (List.mem_of_getElem? (i := 3) rfl)) rfl rfl hdX11_readDigits (by decide) rfl (by decide) rfl rfl rfl (Nat.le_of_ble_eq_true rfl) (dk dX11_readStatement_3 27 rfl) ?_
                    refine k_goto (tgt := 214) C (dk dX11_readStatement_3 28 rfl) (by decide) ?_
                    refine k_sub C [0] rfl ?_
                    exact hJ214 _ _ h
            ·
              refine k_aload_n C (dk dX11_readStatement_2 22 rfl) rfl 0 rfl ?_
              refine k_getR (q := 56) (D := RX11) (T := TX11) (N := 39) (ci := 6) (k := 24) C iCX11 rfl (by decide) rfl (by decide) (iW3 _ (List.mem_of_getElem? (i := 10) rfl)) rfl (dk dX11_readStatement_2 23 rfl) ?_
              refine k_iload_n C (dk dX11_readStatement_2 24 rfl) rfl 2 rfl ?_
              refine k_aload_n C (dk dX11_readStatement_2 25 rfl) rfl 0 rfl ?_
              refine k_iconst (v := (1 : Int32)) C (dk dX11_readStatement_2 26 rfl) (by decide) ?_
              refine cl2_k h (fun x42 s41 hc h => ?_)
              refine k_cv (T := TX11) (N := 39) (ci := 6) (ob := 45) (As := [.int (1 : Int32)]) (st := [.int x4, .ref (g.2.2 56)]) C (qX11_readDigits l g hg hc) (iW9 _ (List.mem_of_getElem? (i := 0) rfl)) (iW9 _ (List.mem_of_getElem? (i := 1) rfl)) (iW9 _ (List.mem_of_getElem? (i := 2) rfl)) (iW0 _ (List.mem_of_getElem? (i := 5) rfl)) (iW9 _ (List.mem_of_getElem? (i := 3) rfl)) rfl rfl hdX11_readDigits (by decide) rfl (by decide) rfl rfl rfl (Nat.le_of_ble_eq_true rfl) (dk dX11_readStatement_2 27 rfl) ?_
              refine k_iast C rfl rfl (dk dX11_readStatement_2 28 rfl) h (fun s43 h => ?_)
              refine k_aload_n C (dk dX11_readStatement_2 29 rfl) rfl 0 rfl ?_
              refine k_getR (q := 56) (D := RX11) (T := TX11) (N := 39) (ci := 6) (k := 24) C iCX11 rfl (by decide) rfl (by decide) (iW3 _ (List.mem_of_getElem? (i := 10) rfl)) rfl (dk dX11_readStatement_2 30 rfl) ?_
              refine k_iload_n C (dk dX11_readStatement_2 31 rfl) rfl 2 rfl ?_
              refine k_iconst (v := (1 : Int32)) C (dk dX11_readStatement_3 0 rfl) (by decide) ?_
              refine k_iadd C (dk dX11_readStatement_3 1 rfl) ?_
              refine k_aload_n C (dk dX11_readStatement_3 2 rfl) rfl 0 rfl ?_
              refine k_iconst (v := (1 : Int32)) C (dk dX11_readStatement_3 3 rfl) (by decide) ?_
              refine cl2_k h (fun x45 s44 hc h => ?_)
              refine k_cv (T := TX11) (N := 39) (ci := 6) (ob := 45) (As := [.int (1 : Int32)]) (st := [.int (x4 + (1 : Int32)), .ref (g.2.2 56)]) C (qX11_readDigits l g hg hc) (iW9 _ (List.mem_of_getElem? (i := 0) rfl)) (iW9 _ (List.mem_of_getElem? (i := 1) rfl)) (iW9 _ (List.mem_of_getElem? (i := 2) rfl)) (iW0 _ (List.mem_of_getElem? (i := 5) rfl)) (iW9 _ (List.mem_of_getElem? (i := 3) rfl)) rfl rfl hdX11_readDigits (by decide) rfl (by decide) rfl rfl rfl (Nat.le_of_ble_eq_true rfl) (dk dX11_readStatement_3 4 rfl) ?_
              refine k_iast C rfl rfl (dk dX11_readStatement_3 5 rfl) h (fun s46 h => ?_)
              refine k_goto (tgt := 215) C (dk dX11_readStatement_3 6 rfl) (by decide) ?_
              refine k_sub C [0] rfl ?_
              exact hJ215 _ h
          ·
            refine k_aload_n C (dk dX11_readStatement_2 11 rfl) rfl 0 rfl ?_
            refine k_getR (q := 56) (D := RX11) (T := TX11) (N := 39) (ci := 6) (k := 24) C iCX11 rfl (by decide) rfl (by decide) (iW3 _ (List.mem_of_getElem? (i := 10) rfl)) rfl (dk dX11_readStatement_2 12 rfl) ?_
            refine k_iload_n C (dk dX11_readStatement_2 13 rfl) rfl 2 rfl ?_
            refine k_aload_n C (dk dX11_readStatement_2 14 rfl) rfl 0 rfl ?_
            refine k_iconst (v := (1 : Int32)) C (dk dX11_readStatement_2 15 rfl) (by decide) ?_
            refine cl2_k h (fun x48 s47 hc h => ?_)
            refine k_cv (T := TX11) (N := 39) (ci := 6) (ob := 45) (As := [.int (1 : Int32)]) (st := [.int x4, .ref (g.2.2 56)]) C (qX11_readDigits l g hg hc) (iW9 _ (List.mem_of_getElem? (i := 0) rfl)) (iW9 _ (List.mem_of_getElem? (i := 1) rfl)) (iW9 _ (List.mem_of_getElem? (i := 2) rfl)) (iW0 _ (List.mem_of_getElem? (i := 5) rfl)) (iW9 _ (List.mem_of_getElem? (i := 3) rfl)) rfl rfl hdX11_readDigits (by decide) rfl (by decide) rfl rfl rfl (Nat.le_of_ble_eq_true rfl) (dk dX11_readStatement_2 16 rfl) ?_
            refine k_iast C rfl rfl (dk dX11_readStatement_2 17 rfl) h (fun s49 h => ?_)
            refine k_goto (tgt := 215) C (dk dX11_readStatement_2 18 rfl) (by decide) ?_
            refine k_sub C [0] rfl ?_
            exact hJ215 _ h
        ·
          refine k_aload_n C (dk dX11_readStatement_1 14 rfl) rfl 0 rfl ?_
          refine k_getR (q := 56) (D := RX11) (T := TX11) (N := 39) (ci := 6) (k := 24) C iCX11 rfl (by decide) rfl (by decide) (iW3 _ (List.mem_of_getElem? (i := 10) rfl)) rfl (dk dX11_readStatement_1 15 rfl) ?_
          refine k_iload_n C (dk dX11_readStatement_1 16 rfl) rfl 2 rfl ?_
          refine k_aload_n C (dk dX11_readStatement_1 17 rfl) rfl 0 rfl ?_
          refine k_iconst (v := (1 : Int32)) C (dk dX11_readStatement_1 18 rfl) (by decide) ?_
          refine cl2_k h (fun x51 s50 hc h => ?_)
          refine k_cv (T := TX11) (N := 39) (ci := 6) (ob := 45) (As := [.int (1 : Int32)]) (st := [.int x4, .ref (g.2.2 56)]) C (qX11_readDigits l g hg hc) (iW9 _ (List.mem_of_getElem? (i := 0) rfl)) (iW9 _ (List.mem_of_getElem? (i := 1) rfl)) (iW9 _ (List.mem_of_getElem? (i := 2) rfl)) (iW0 _ (List.mem_of_getElem? (i := 5) rfl)) (iW9 _ (List.mem_of_getElem? (i := 3) rfl)) rfl rfl hdX11_readDigits (by decide) rfl (by decide) rfl rfl rfl (Nat.le_of_ble_eq_true rfl) (dk dX11_readStatement_1 19 rfl) ?_
          refine k_iast C rfl rfl (dk dX11_readStatement_1 20 rfl) h (fun s52 h => ?_)
          refine k_aload_n C (dk dX11_readStatement_1 21 rfl) rfl 0 rfl ?_
          refine k_getR (q := 56) (D := RX11) (T := TX11) (N := 39) (ci := 6) (k := 24) C iCX11 rfl (by decide) rfl (by decide) (iW3 _ (List.mem_of_getElem? (i := 10) rfl)) rfl (dk dX11_readStatement_1 22 rfl) ?_
          refine k_iload_n C (dk dX11_readStatement_1 23 rfl) rfl 2 rfl ?_
          refine k_iconst (v := (1 : Int32)) C (dk dX11_readStatement_1 24 rfl) (by decide) ?_
          refine k_iadd C (dk dX11_readStatement_1 25 rfl) ?_
          refine k_aload_n C (dk dX11_readStatement_1 26 rfl) rfl 0 rfl ?_
          refine k_iconst (v := (1 : Int32)) C (dk dX11_readStatement_1 27 rfl) (by decide) ?_
          refine cl2_k h (fun x54 s53 hc h => ?_)
          refine k_cv (T := TX11) (N := 39) (ci := 6) (ob := 45) (As := [.int (1 : Int32)]) (st := [.int (x4 + (1 : Int32)), .ref (g.2.2 56)]) C (qX11_readDigits l g hg hc) (iW9 _ (List.mem_of_getElem? (i := 0) rfl)) (iW9 _ (List.mem_of_getElem? (i := 1) rfl)) (iW9 _ (List.mem_of_getElem? (i := 2) rfl)) (iW0 _ (List.mem_of_getElem? (i := 5) rfl)) (iW9 _ (List.mem_of_getElem? (i := 3) rfl)) rfl rfl hdX11_readDigits (by decide) rfl (by decide) rfl rfl rfl (Nat.le_of_ble_eq_true rfl) (dk dX11_readStatement_1 28 rfl) ?_
          refine k_iast C rfl rfl (dk dX11_readStatement_1 29 rfl) h (fun s55 h => ?_)
          refine k_aload_n C (dk dX11_readStatement_1 30 rfl) rfl 0 rfl ?_
          refine k_getR (q := 56) (D := RX11) (T := TX11) (N := 39) (ci := 6) (k := 24) C iCX11 rfl (by decide) rfl (by decide) (iW3 _ (List.mem_of_getElem? (i := 10) rfl)) rfl (dk dX11_readStatement_1 31 rfl) ?_
          refine k_iload_n C (dk dX11_readStatement_2 0 rfl) rfl 2 rfl ?_
          refine k_iconst (v := (2 : Int32)) C (dk dX11_readStatement_2 1 rfl) (by decide) ?_
          refine k_iadd C (dk dX11_readStatement_2 2 rfl) ?_
          refine k_aload_n C (dk dX11_readStatement_2 3 rfl) rfl 0 rfl ?_
          refine k_iconst (v := (2 : Int32)) C (dk dX11_readStatement_2 4 rfl) (by decide) ?_
          refine cl2_k h (fun x57 s56 hc h => ?_)
          refine k_cv (T := TX11) (N := 39) (ci := 6) (ob := 45) (As := [.int (2 : Int32)]) (st := [.int (x4 + (2 : Int32)), .ref (g.2.2 56)]) C (qX11_readDigits l g hg hc) (iW9 _ (List.mem_of_getElem? (i := 0) rfl)) (iW9 _ (List.mem_of_getElem? (i := 1) rfl)) (iW9 _ (List.mem_of_getElem? (i := 2) rfl)) (iW0 _ (List.mem_of_getElem? (i := 5) rfl)) (iW9 _ (List.mem_of_getElem? (i := 3) rfl)) rfl rfl hdX11_readDigits (by decide) rfl (by decide) rfl rfl rfl (Nat.le_of_ble_eq_true rfl) (dk dX11_readStatement_2 5 rfl) ?_
          refine k_iast C rfl rfl (dk dX11_readStatement_2 6 rfl) h (fun s58 h => ?_)
          refine k_goto (tgt := 215) C (dk dX11_readStatement_2 7 rfl) (by decide) ?_
          refine k_sub C [0] rfl ?_
          exact hJ215 _ h
    ·
      refine k_if_eq (tgt := 70) C (dk dX11_readStatement_1 5 rfl) (by decide) h (fun h => ?_) (fun h => ?_)
      ·
        refine k_iconst (v := (1 : Int32)) C (dk dX11_readStatement_1 8 rfl) (by decide) ?_
        exact hJ71 _ _ h
      ·
        refine k_iconst (v := (0 : Int32)) C (dk dX11_readStatement_1 6 rfl) (by decide) ?_
        refine k_goto (tgt := 71) C (dk dX11_readStatement_1 7 rfl) (by decide) ?_
        exact hJ71 _ _ h
  ·
    refine kl_J (P := (fun J46 => ∀ (s59 : St), J46 s59 = some σe → WK 46 [(0, .ref (g.2.2 45)), (2, .int x3), (3, .int x4)] [.ref (g.2.2 45)] s59)) h (fun s59 h => ?_) (fun J46 hJ46 h => ?_)
    ·
      unfold mX11_readStatement_46 at h
      refine k_iconst (v := (1 : Int32)) C (dk dX11_readStatement_0 28 rfl) (by decide) ?_
      refine k_goto (tgt := 51) C (dk dX11_readStatement_0 29 rfl) (by decide) ?_
      exact hJ51 _ _ h
    ·
      refine k_if_ne (tgt := 46) C (dk dX11_readStatement_0 24 rfl) (by decide) h (fun h => ?_) (fun h => ?_)
      ·
        refine k_sub C [3, 1, 0] rfl ?_
        exact hJ46 _ h
      ·
        refine k_iload_n C (dk dX11_readStatement_0 25 rfl) rfl 1 rfl ?_
        refine cl2_k h (fun x61 s60 hc h => ?_)
        refine k_cs (As := [.int x3]) (st := [.ref (g.2.2 45)]) C (qX11_isLetter l g hg hc) (iW8 _ (List.mem_of_getElem? (i := 27) rfl)) (iW8 _ (List.mem_of_getElem? (i := 28) rfl)) (iW0 _ (List.mem_of_getElem? (i := 5) rfl)) (iW8 _ (List.mem_of_getElem? (i := 29) rfl)) rfl rfl hdX11_isLetter (by decide) rfl rfl (Nat.le_of_ble_eq_true rfl) (dk dX11_readStatement_0 26 rfl) ?_
        refine k_if_ne (tgt := 50) C (dk dX11_readStatement_0 27 rfl) (by decide) h (fun h => ?_) (fun h => ?_)
        ·
          refine k_iconst (v := (0 : Int32)) C (dk dX11_readStatement_0 30 rfl) (by decide) ?_
          refine k_sub C [3, 1, 0] rfl ?_
          exact hJ51 _ _ h
        ·
          refine k_sub C [3, 1, 0] rfl ?_
          exact hJ46 _ h
set_option maxRecDepth 100000 in
set_option maxHeartbeats 4000000 in
theorem qX11_canGo (l : Launch) (g : G) (hg : gOK g) {a1 : Int32} {a2 : Int32}  {s0 σe : St} {v : Int32} (h : mX11_canGo a1 a2 s0 = some (v, σe)) : Mc l g yX11_canGo cX11_canGo 3 (some .boolean) { frames := 2, cells := 0, slots := 0, locals := 44 } [.ref (g.2.2 45), .int a1, .int a2] s0 (some (.int v)) σe := by
  refine k_enter hg pnRX11 rfl (Nat.le_of_ble_eq_true rfl) ?_
  intro WK E
  have C := kX_y E
  unfold mX11_canGo at h
  show WK 0 [(0, .ref (g.2.2 45)), (1, .int a1), (2, .int a2)] [] s0
  refine k_aload_n C (dk dX11_canGo_0 0 rfl) rfl 0 rfl ?_
  refine k_getI (D := RX11) (T := TX11) (N := 39) (ci := 6) (k := 5) C iCX11 rfl (by decide) rfl (by decide) (iW2 _ (List.mem_of_getElem? (i := 29) rfl)) rfl (dk dX11_canGo_0 1 rfl) h (fun x1 h => ?_)
  refine k_if_lt (tgt := 52) C (dk dX11_canGo_0 2 rfl) (by decide) h (fun h => ?_) (fun h => ?_)
  ·
    refine k_iconst (v := (0 : Int32)) C (dk dX11_canGo_0 24 rfl) (by decide) ?_
    exact k_zret E (dk dX11_canGo_0 25 rfl) h
  ·
    refine k_aload_n C (dk dX11_canGo_0 3 rfl) rfl 0 rfl ?_
    refine k_getI (D := RX11) (T := TX11) (N := 39) (ci := 6) (k := 6) C iCX11 rfl (by decide) rfl (by decide) (iW3 _ (List.mem_of_getElem? (i := 0) rfl)) rfl (dk dX11_canGo_0 4 rfl) h (fun x2 h => ?_)
    refine k_if_lt (tgt := 52) C (dk dX11_canGo_0 5 rfl) (by decide) h (fun h => ?_) (fun h => ?_)
    ·
      refine k_iconst (v := (0 : Int32)) C (dk dX11_canGo_0 24 rfl) (by decide) ?_
      exact k_zret E (dk dX11_canGo_0 25 rfl) h
    ·
      refine k_aload_n C (dk dX11_canGo_0 6 rfl) rfl 0 rfl ?_
      refine k_getI (D := RX11) (T := TX11) (N := 39) (ci := 6) (k := 7) C iCX11 rfl (by decide) rfl (by decide) (iW9 _ (List.mem_of_getElem? (i := 14) rfl)) rfl (dk dX11_canGo_0 7 rfl) h (fun x3 h => ?_)
      refine k_sipush (v := (999 : Int32)) C (dk dX11_canGo_0 8 rfl) (by decide) ?_
      refine k_icmp_ge (tgt := 52) C (dk dX11_canGo_0 9 rfl) (by decide) h (fun h => ?_) (fun h => ?_)
      ·
        refine k_iconst (v := (0 : Int32)) C (dk dX11_canGo_0 24 rfl) (by decide) ?_
        exact k_zret E (dk dX11_canGo_0 25 rfl) h
      ·
        refine k_aload_n C (dk dX11_canGo_0 10 rfl) rfl 0 rfl ?_
        refine k_aload_n C (dk dX11_canGo_0 11 rfl) rfl 0 rfl ?_
        refine k_getI (D := RX11) (T := TX11) (N := 39) (ci := 6) (k := 5) C iCX11 rfl (by decide) rfl (by decide) (iW2 _ (List.mem_of_getElem? (i := 29) rfl)) rfl (dk dX11_canGo_0 12 rfl) h (fun x4 h => ?_)
        refine k_iload_n C (dk dX11_canGo_0 13 rfl) rfl 1 rfl ?_
        refine cl2_k h (fun x6 s5 hc h => ?_)
        refine k_cv (T := TX11) (N := 39) (ci := 6) (ob := 45) (As := [.int x4, .int a1]) (st := []) C (qX11_goneTo l g hg hc) (iW9 _ (List.mem_of_getElem? (i := 29) rfl)) (iW10 _ (List.mem_of_getElem? (i := 0) rfl)) (iW10 _ (List.mem_of_getElem? (i := 1) rfl)) (iW0 _ (List.mem_of_getElem? (i := 5) rfl)) (iW10 _ (List.mem_of_getElem? (i := 2) rfl)) rfl rfl hdX11_goneTo (by decide) rfl (by decide) rfl rfl rfl (Nat.le_of_ble_eq_true rfl) (dk dX11_canGo_0 14 rfl) ?_
        refine k_if_lt (tgt := 52) C (dk dX11_canGo_0 15 rfl) (by decide) h (fun h => ?_) (fun h => ?_)
        ·
          refine k_iconst (v := (0 : Int32)) C (dk dX11_canGo_0 24 rfl) (by decide) ?_
          exact k_zret E (dk dX11_canGo_0 25 rfl) h
        ·
          refine k_aload_n C (dk dX11_canGo_0 16 rfl) rfl 0 rfl ?_
          refine k_aload_n C (dk dX11_canGo_0 17 rfl) rfl 0 rfl ?_
          refine k_getI (D := RX11) (T := TX11) (N := 39) (ci := 6) (k := 6) C iCX11 rfl (by decide) rfl (by decide) (iW3 _ (List.mem_of_getElem? (i := 0) rfl)) rfl (dk dX11_canGo_0 18 rfl) h (fun x7 h => ?_)
          refine k_iload_n C (dk dX11_canGo_0 19 rfl) rfl 2 rfl ?_
          refine cl2_k h (fun x9 s8 hc h => ?_)
          refine k_cv (T := TX11) (N := 39) (ci := 6) (ob := 45) (As := [.int x7, .int a2]) (st := []) C (qX11_goneTo l g hg hc) (iW9 _ (List.mem_of_getElem? (i := 29) rfl)) (iW10 _ (List.mem_of_getElem? (i := 0) rfl)) (iW10 _ (List.mem_of_getElem? (i := 1) rfl)) (iW0 _ (List.mem_of_getElem? (i := 5) rfl)) (iW10 _ (List.mem_of_getElem? (i := 2) rfl)) rfl rfl hdX11_goneTo (by decide) rfl (by decide) rfl rfl rfl (Nat.le_of_ble_eq_true rfl) (dk dX11_canGo_0 20 rfl) ?_
          refine k_if_lt (tgt := 52) C (dk dX11_canGo_0 21 rfl) (by decide) h (fun h => ?_) (fun h => ?_)
          ·
            refine k_iconst (v := (0 : Int32)) C (dk dX11_canGo_0 24 rfl) (by decide) ?_
            exact k_zret E (dk dX11_canGo_0 25 rfl) h
          ·
            refine k_iconst (v := (1 : Int32)) C (dk dX11_canGo_0 22 rfl) (by decide) ?_
            refine k_goto (tgt := 53) C (dk dX11_canGo_0 23 rfl) (by decide) ?_
            exact k_zret E (dk dX11_canGo_0 25 rfl) h
set_option maxRecDepth 100000 in
set_option maxHeartbeats 4000000 in
theorem qX11_goBoth (l : Launch) (g : G) (hg : gOK g) {a1 : Int32} {a2 : Int32}  {s0 σe : St} (h : mX11_goBoth a1 a2 s0 = some σe) : Mc l g yX11_goBoth cX11_goBoth 4 none { frames := 2, cells := 0, slots := 0, locals := 44 } [.ref (g.2.2 45), .int a1, .int a2] s0 none σe := by
  refine k_enter hg pnRX11 rfl (Nat.le_of_ble_eq_true rfl) ?_
  intro WK E
  have C := kX_y E
  unfold mX11_goBoth at h
  show WK 0 [(0, .ref (g.2.2 45)), (1, .int a1), (2, .int a2)] [] s0
  refine k_aload_n C (dk dX11_goBoth_0 0 rfl) rfl 0 rfl ?_
  refine k_aload_n C (dk dX11_goBoth_0 1 rfl) rfl 0 rfl ?_
  refine k_getI (D := RX11) (T := TX11) (N := 39) (ci := 6) (k := 5) C iCX11 rfl (by decide) rfl (by decide) (iW2 _ (List.mem_of_getElem? (i := 29) rfl)) rfl (dk dX11_goBoth_0 2 rfl) h (fun x1 h => ?_)
  refine k_iload_n C (dk dX11_goBoth_0 3 rfl) rfl 1 rfl ?_
  refine cl2_k h (fun x3 s2 hc h => ?_)
  refine k_cv (T := TX11) (N := 39) (ci := 6) (ob := 45) (As := [.int x1, .int a1]) (st := []) C (qX11_goneTo l g hg hc) (iW9 _ (List.mem_of_getElem? (i := 29) rfl)) (iW10 _ (List.mem_of_getElem? (i := 0) rfl)) (iW10 _ (List.mem_of_getElem? (i := 1) rfl)) (iW0 _ (List.mem_of_getElem? (i := 5) rfl)) (iW10 _ (List.mem_of_getElem? (i := 2) rfl)) rfl rfl hdX11_goneTo (by decide) rfl (by decide) rfl rfl rfl (Nat.le_of_ble_eq_true rfl) (dk dX11_goBoth_0 4 rfl) ?_
  refine k_istore_n (lv' := [(3, .int x3), (0, .ref (g.2.2 45)), (1, .int a1), (2, .int a2)]) C (dk dX11_goBoth_0 5 rfl) rfl (by decide) rfl ?_
  refine k_aload_n C (dk dX11_goBoth_0 6 rfl) rfl 1 rfl ?_
  refine k_aload_n C (dk dX11_goBoth_0 7 rfl) rfl 1 rfl ?_
  refine k_aload_n C (dk dX11_goBoth_0 8 rfl) rfl 1 rfl ?_
  refine k_getI (D := RX11) (T := TX11) (N := 39) (ci := 6) (k := 6) C iCX11 rfl (by decide) rfl (by decide) (iW3 _ (List.mem_of_getElem? (i := 0) rfl)) rfl (dk dX11_goBoth_0 9 rfl) h (fun x4 h => ?_)
  refine k_iload_n C (dk dX11_goBoth_0 10 rfl) rfl 3 rfl ?_
  refine cl2_k h (fun x6 s5 hc h => ?_)
  refine k_cv (T := TX11) (N := 39) (ci := 6) (ob := 45) (As := [.int x4, .int a2]) (st := [.ref (g.2.2 45)]) C (qX11_goneTo l g hg hc) (iW9 _ (List.mem_of_getElem? (i := 29) rfl)) (iW10 _ (List.mem_of_getElem? (i := 0) rfl)) (iW10 _ (List.mem_of_getElem? (i := 1) rfl)) (iW0 _ (List.mem_of_getElem? (i := 5) rfl)) (iW10 _ (List.mem_of_getElem? (i := 2) rfl)) rfl rfl hdX11_goneTo (by decide) rfl (by decide) rfl rfl rfl (Nat.le_of_ble_eq_true rfl) (dk dX11_goBoth_0 11 rfl) ?_
  refine k_putI (D := RX11) (T := TX11) (N := 39) (ci := 6) (k := 6) C iCX11 tyX11_ok nmX11 rfl (by decide) rfl (by decide) (iW3 _ (List.mem_of_getElem? (i := 0) rfl)) rfl rfl flq6_6 flp6_6 (dk dX11_goBoth_0 12 rfl) h (fun s7 h => ?_)
  refine k_aload_n C (dk dX11_goBoth_0 13 rfl) rfl 1 rfl ?_
  refine k_iload_n C (dk dX11_goBoth_0 14 rfl) rfl 0 rfl ?_
  refine k_putI (D := RX11) (T := TX11) (N := 39) (ci := 6) (k := 5) C iCX11 tyX11_ok nmX11 rfl (by decide) rfl (by decide) (iW2 _ (List.mem_of_getElem? (i := 29) rfl)) rfl rfl flq6_5 flp6_5 (dk dX11_goBoth_0 15 rfl) h (fun s8 h => ?_)
  refine k_aload_n C (dk dX11_goBoth_0 16 rfl) rfl 1 rfl ?_
  refine k_dup C (dk dX11_goBoth_0 17 rfl) rfl ?_
  refine k_getI (D := RX11) (T := TX11) (N := 39) (ci := 6) (k := 8) C iCX11 rfl (by decide) rfl (by decide) (iW9 _ (List.mem_of_getElem? (i := 15) rfl)) rfl (dk dX11_goBoth_0 18 rfl) h (fun x9 h => ?_)
  refine k_aload_n C (dk dX11_goBoth_0 19 rfl) rfl 1 rfl ?_
  refine k_aload_n C (dk dX11_goBoth_0 20 rfl) rfl 1 rfl ?_
  refine k_getI (D := RX11) (T := TX11) (N := 39) (ci := 6) (k := 5) C iCX11 rfl (by decide) rfl (by decide) (iW2 _ (List.mem_of_getElem? (i := 29) rfl)) rfl (dk dX11_goBoth_0 21 rfl) h (fun x10 h => ?_)
  refine k_aload_n C (dk dX11_goBoth_0 22 rfl) rfl 1 rfl ?_
  refine k_getI (D := RX11) (T := TX11) (N := 39) (ci := 6) (k := 6) C iCX11 rfl (by decide) rfl (by decide) (iW3 _ (List.mem_of_getElem? (i := 0) rfl)) rfl (dk dX11_goBoth_0 23 rfl) h (fun x11 h => ?_)
  refine cl2_k h (fun x13 s12 hc h => ?_)
  refine k_cv (T := TX11) (N := 39) (ci := 6) (ob := 45) (As := [.int x10, .int x11]) (st := [.int x9, .ref (g.2.2 45)]) C (qX11_farOf l g hg hc) (iW10 _ (List.mem_of_getElem? (i := 14) rfl)) (iW10 _ (List.mem_of_getElem? (i := 15) rfl)) (iW10 _ (List.mem_of_getElem? (i := 16) rfl)) (iW0 _ (List.mem_of_getElem? (i := 5) rfl)) (iW10 _ (List.mem_of_getElem? (i := 17) rfl)) rfl rfl hdX11_farOf (by decide) rfl (by decide) rfl rfl rfl (Nat.le_of_ble_eq_true rfl) (dk dX11_goBoth_0 24 rfl) ?_
  refine k_aload_n C (dk dX11_goBoth_0 25 rfl) rfl 1 rfl ?_
  refine k_getI (D := RX11) (T := TX11) (N := 39) (ci := 6) (k := 3) C iCX11 rfl (by decide) rfl (by decide) (iW2 _ (List.mem_of_getElem? (i := 27) rfl)) rfl (dk dX11_goBoth_0 26 rfl) h (fun x14 h => ?_)
  refine kl_J (P := (fun J57 => ∀ (y15 : Int32) (s16 : St), J57 y15 s16 = some σe → WK 57 [(0, .ref (g.2.2 45))] [.int y15, .int x9, .ref (g.2.2 45)] s16)) h (fun y15 s16 h => ?_) (fun J57 hJ57 h => ?_)
  ·
    unfold mX11_goBoth_57 at h
    refine k_iadd C (dk dX11_goBoth_0 31 rfl) ?_
    refine k_putI (D := RX11) (T := TX11) (N := 39) (ci := 6) (k := 8) C iCX11 tyX11_ok nmX11 rfl (by decide) rfl (by decide) (iW9 _ (List.mem_of_getElem? (i := 15) rfl)) rfl rfl flq6_8 flp6_8 (dk dX11_goBoth_1 0 rfl) h (fun s17 h => ?_)
    refine k_aload_n C (dk dX11_goBoth_1 1 rfl) rfl 0 rfl ?_
    refine k_dup C (dk dX11_goBoth_1 2 rfl) rfl ?_
    refine k_getI (D := RX11) (T := TX11) (N := 39) (ci := 6) (k := 9) C iCX11 rfl (by decide) rfl (by decide) (iW9 _ (List.mem_of_getElem? (i := 16) rfl)) rfl (dk dX11_goBoth_1 3 rfl) h (fun x18 h => ?_)
    refine k_aload_n C (dk dX11_goBoth_1 4 rfl) rfl 0 rfl ?_
    refine k_aload_n C (dk dX11_goBoth_1 5 rfl) rfl 0 rfl ?_
    refine k_getI (D := RX11) (T := TX11) (N := 39) (ci := 6) (k := 5) C iCX11 rfl (by decide) rfl (by decide) (iW2 _ (List.mem_of_getElem? (i := 29) rfl)) rfl (dk dX11_goBoth_1 6 rfl) h (fun x19 h => ?_)
    refine k_aload_n C (dk dX11_goBoth_1 7 rfl) rfl 0 rfl ?_
    refine k_getI (D := RX11) (T := TX11) (N := 39) (ci := 6) (k := 6) C iCX11 rfl (by decide) rfl (by decide) (iW3 _ (List.mem_of_getElem? (i := 0) rfl)) rfl (dk dX11_goBoth_1 8 rfl) h (fun x20 h => ?_)
    refine cl2_k h (fun x22 s21 hc h => ?_)
    refine k_cv (T := TX11) (N := 39) (ci := 6) (ob := 45) (As := [.int x19, .int x20]) (st := [.int x18, .ref (g.2.2 45)]) C (qX11_farOf l g hg hc) (iW10 _ (List.mem_of_getElem? (i := 14) rfl)) (iW10 _ (List.mem_of_getElem? (i := 15) rfl)) (iW10 _ (List.mem_of_getElem? (i := 16) rfl)) (iW0 _ (List.mem_of_getElem? (i := 5) rfl)) (iW10 _ (List.mem_of_getElem? (i := 17) rfl)) rfl rfl hdX11_farOf (by decide) rfl (by decide) rfl rfl rfl (Nat.le_of_ble_eq_true rfl) (dk dX11_goBoth_1 9 rfl) ?_
    refine k_aload_n C (dk dX11_goBoth_1 10 rfl) rfl 0 rfl ?_
    refine k_getI (D := RX11) (T := TX11) (N := 39) (ci := 6) (k := 4) C iCX11 rfl (by decide) rfl (by decide) (iW2 _ (List.mem_of_getElem? (i := 28) rfl)) rfl (dk dX11_goBoth_1 11 rfl) h (fun x23 h => ?_)
    refine kl_J (P := (fun J90 => ∀ (y24 : Int32) (s25 : St), J90 y24 s25 = some σe → WK 90 [(0, .ref (g.2.2 45))] [.int y24, .int x18, .ref (g.2.2 45)] s25)) h (fun y24 s25 h => ?_) (fun J90 hJ90 h => ?_)
    ·
      unfold mX11_goBoth_90 at h
      refine k_iadd C (dk dX11_goBoth_1 16 rfl) ?_
      refine k_putI (D := RX11) (T := TX11) (N := 39) (ci := 6) (k := 9) C iCX11 tyX11_ok nmX11 rfl (by decide) rfl (by decide) (iW9 _ (List.mem_of_getElem? (i := 16) rfl)) rfl rfl flq6_9 flp6_9 (dk dX11_goBoth_1 17 rfl) h (fun s26 h => ?_)
      refine k_aload_n C (dk dX11_goBoth_1 18 rfl) rfl 0 rfl ?_
      refine k_dup C (dk dX11_goBoth_1 19 rfl) rfl ?_
      refine k_getI (D := RX11) (T := TX11) (N := 39) (ci := 6) (k := 7) C iCX11 rfl (by decide) rfl (by decide) (iW9 _ (List.mem_of_getElem? (i := 14) rfl)) rfl (dk dX11_goBoth_1 20 rfl) h (fun x27 h => ?_)
      refine k_iconst (v := (1 : Int32)) C (dk dX11_goBoth_1 21 rfl) (by decide) ?_
      refine k_iadd C (dk dX11_goBoth_1 22 rfl) ?_
      refine k_putI (D := RX11) (T := TX11) (N := 39) (ci := 6) (k := 7) C iCX11 tyX11_ok nmX11 rfl (by decide) rfl (by decide) (iW9 _ (List.mem_of_getElem? (i := 14) rfl)) rfl rfl flq6_7 flp6_7 (dk dX11_goBoth_1 23 rfl) h (fun s28 h => ?_)
      exact k_vret E (dk dX11_goBoth_1 24 rfl) h
    ·
      refine k_icmp_le (tgt := 89) C (dk dX11_goBoth_1 12 rfl) (by decide) h (fun h => ?_) (fun h => ?_)
      ·
        refine k_iconst (v := (0 : Int32)) C (dk dX11_goBoth_1 15 rfl) (by decide) ?_
        exact hJ90 _ _ h
      ·
        refine k_iconst (v := (1 : Int32)) C (dk dX11_goBoth_1 13 rfl) (by decide) ?_
        refine k_goto (tgt := 90) C (dk dX11_goBoth_1 14 rfl) (by decide) ?_
        exact hJ90 _ _ h
  ·
    refine k_icmp_ge (tgt := 56) C (dk dX11_goBoth_0 27 rfl) (by decide) h (fun h => ?_) (fun h => ?_)
    ·
      refine k_iconst (v := (0 : Int32)) C (dk dX11_goBoth_0 30 rfl) (by decide) ?_
      refine k_sub C [1] rfl ?_
      exact hJ57 _ _ h
    ·
      refine k_iconst (v := (1 : Int32)) C (dk dX11_goBoth_0 28 rfl) (by decide) ?_
      refine k_goto (tgt := 57) C (dk dX11_goBoth_0 29 rfl) (by decide) ?_
      refine k_sub C [1] rfl ?_
      exact hJ57 _ _ h
set_option maxRecDepth 100000 in
set_option maxHeartbeats 4000000 in
theorem qX11_comes (l : Launch) (g : G) (hg : gOK g) {a1 : Int32}  {s0 σe : St} {v : Int32} (h : mX11_comes a1 s0 = some (v, σe)) : Mc l g yX11_comes cX11_comes 5 (some .boolean) { frames := 3, cells := 0, slots := 0, locals := 67 } [.ref (g.2.2 45), .int a1] s0 (some (.int v)) σe := by
  refine k_enter hg pnRX11 rfl (Nat.le_of_ble_eq_true rfl) ?_
  intro WK E
  have C := kX_y E
  unfold mX11_comes at h
  show WK 0 [(0, .ref (g.2.2 45)), (1, .int a1)] [] s0
  refine k_aload_n C (dk dX11_comes_0 0 rfl) rfl 0 rfl ?_
  refine k_getR (q := 56) (D := RX11) (T := TX11) (N := 39) (ci := 6) (k := 24) C iCX11 rfl (by decide) rfl (by decide) (iW3 _ (List.mem_of_getElem? (i := 10) rfl)) rfl (dk dX11_comes_0 1 rfl) ?_
  refine k_iconst (v := (3 : Int32)) C (dk dX11_comes_0 2 rfl) (by decide) ?_
  refine k_iload_n C (dk dX11_comes_0 3 rfl) rfl 1 rfl ?_
  refine k_imul C (dk dX11_comes_0 4 rfl) ?_
  refine k_iald C rfl rfl (dk dX11_comes_0 5 rfl) h (fun x1 h => ?_)
  refine k_istore_n (lv' := [(2, .int x1), (0, .ref (g.2.2 45)), (1, .int a1)]) C (dk dX11_comes_0 6 rfl) rfl (by decide) rfl ?_
  refine k_aload_n C (dk dX11_comes_0 7 rfl) rfl 1 rfl ?_
  refine k_getR (q := 56) (D := RX11) (T := TX11) (N := 39) (ci := 6) (k := 24) C iCX11 rfl (by decide) rfl (by decide) (iW3 _ (List.mem_of_getElem? (i := 10) rfl)) rfl (dk dX11_comes_0 8 rfl) ?_
  refine k_iconst (v := (3 : Int32)) C (dk dX11_comes_0 9 rfl) (by decide) ?_
  refine k_iload_n C (dk dX11_comes_0 10 rfl) rfl 2 rfl ?_
  refine k_imul C (dk dX11_comes_0 11 rfl) ?_
  refine k_iconst (v := (1 : Int32)) C (dk dX11_comes_0 12 rfl) (by decide) ?_
  refine k_iadd C (dk dX11_comes_0 13 rfl) ?_
  refine k_iald C rfl rfl (dk dX11_comes_0 14 rfl) h (fun x2 h => ?_)
  refine k_istore_n (lv' := [(3, .int x2), (2, .int x1), (0, .ref (g.2.2 45)), (1, .int a1)]) C (dk dX11_comes_0 15 rfl) rfl (by decide) rfl ?_
  refine k_iconst (v := (1 : Int32)) C (dk dX11_comes_0 16 rfl) (by decide) ?_
  refine k_istore (lv' := [(4, .int (1 : Int32)), (3, .int x2), (2, .int x1), (0, .ref (g.2.2 45)), (1, .int a1)]) C (dk dX11_comes_0 17 rfl) (by decide) rfl ?_
  refine k_aload_n C (dk dX11_comes_0 18 rfl) rfl 3 rfl ?_
  refine k_getR (q := 55) (D := RX11) (T := TX11) (N := 39) (ci := 6) (k := 23) C iCX11 rfl (by decide) rfl (by decide) (iW3 _ (List.mem_of_getElem? (i := 9) rfl)) rfl (dk dX11_comes_0 19 rfl) ?_
  refine k_iload_n C (dk dX11_comes_0 20 rfl) rfl 4 rfl ?_
  refine k_iald C rfl rfl (dk dX11_comes_0 21 rfl) h (fun x3 h => ?_)
  by_cases e0 : x3 = (100 : Int32)
  · replace h := (if_pos e0).symm.trans h
    refine k_ls (off := 155) (tgt := 184) C (dk dX11_comes_0 22 rfl) rfl (by rw [e0]; decide) (by decide) ?_
    refine k_iload_n C (dk dX11_comes_2 30 rfl) rfl 2 rfl ?_
    refine k_iconst (v := (5 : Int32)) C (dk dX11_comes_2 31 rfl) (by decide) ?_
    refine kl_J (P := (fun J208 => ∀ (y4 : Int32) (s5 : St), J208 y4 s5 = some (v, σe) → WK 208 [(0, .ref (g.2.2 45)), (2, .int x1), (3, .int x2)] [.int y4] s5)) h (fun y4 s5 h => ?_) (fun J208 hJ208 h => ?_)
    ·
      unfold mX11_comes_208 at h
      refine k_istore (lv' := [(4, .int y4), (0, .ref (g.2.2 45)), (2, .int x1), (3, .int x2)]) C (dk dX11_comes_3 12 rfl) (by decide) rfl ?_
      refine k_iload C (dk dX11_comes_3 13 rfl) 0 rfl ?_
      refine kl_J (P := (fun J221 => ∀ (s6 : St), J221 s6 = some (v, σe) → WK 221 [(4, .int y4)] [] s6)) h (fun s6 h => ?_) (fun J221 hJ221 h => ?_)
      ·
        unfold mX11_comes_221 at h
        refine k_iload C (dk dX11_comes_3 19 rfl) 0 rfl ?_
        exact k_zret E (dk dX11_comes_3 20 rfl) h
      ·
        refine k_if_eq (tgt := 221) C (dk dX11_comes_3 14 rfl) (by decide) h (fun h => ?_) (fun h => ?_)
        ·
          refine k_sub C [0] rfl ?_
          exact hJ221 _ h
        ·
          refine k_aload_n C (dk dX11_comes_3 15 rfl) rfl 1 rfl ?_
          refine k_iload_n C (dk dX11_comes_3 16 rfl) rfl 2 rfl ?_
          refine k_iload_n C (dk dX11_comes_3 17 rfl) rfl 3 rfl ?_
          refine cl1_k h (fun s7 hc h => ?_)
          refine k_cv (T := TX11) (N := 39) (ci := 6) (ob := 45) (As := [.int x1, .int x2]) (st := []) C (qX11_goBoth l g hg hc) (iW10 _ (List.mem_of_getElem? (i := 10) rfl)) (iW10 _ (List.mem_of_getElem? (i := 11) rfl)) (iW10 _ (List.mem_of_getElem? (i := 12) rfl)) (iW0 _ (List.mem_of_getElem? (i := 5) rfl)) (iW10 _ (List.mem_of_getElem? (i := 13) rfl)) rfl rfl hdX11_goBoth (by decide) rfl (by decide) rfl rfl rfl (Nat.le_of_ble_eq_true rfl) (dk dX11_comes_3 18 rfl) ?_
          refine k_sub C [0] rfl ?_
          exact hJ221 _ h
    ·
      refine kl_J (P := (fun J207 => ∀ (s8 : St), J207 s8 = some (v, σe) → WK 207 [(0, .ref (g.2.2 45)), (2, .int x1), (3, .int x2)] [] s8)) h (fun s8 h => ?_) (fun J207 hJ207 h => ?_)
      ·
        unfold mX11_comes_207 at h
        refine k_iconst (v := (0 : Int32)) C (dk dX11_comes_3 11 rfl) (by decide) ?_
        exact hJ208 _ _ h
      ·
        refine k_icmp_ge (tgt := 207) C (dk dX11_comes_3 0 rfl) (by decide) h (fun h => ?_) (fun h => ?_)
        ·
          refine k_sub C [3, 2, 1] rfl ?_
          exact hJ207 _ h
        ·
          refine k_iload_n C (dk dX11_comes_3 1 rfl) rfl 1 rfl ?_
          refine k_iconst (v := (5 : Int32)) C (dk dX11_comes_3 2 rfl) (by decide) ?_
          refine k_icmp_ge (tgt := 207) C (dk dX11_comes_3 3 rfl) (by decide) h (fun h => ?_) (fun h => ?_)
          ·
            refine k_sub C [3, 2, 1] rfl ?_
            exact hJ207 _ h
          ·
            refine k_aload_n C (dk dX11_comes_3 4 rfl) rfl 3 rfl ?_
            refine k_iload_n C (dk dX11_comes_3 5 rfl) rfl 2 rfl ?_
            refine k_iload_n C (dk dX11_comes_3 6 rfl) rfl 1 rfl ?_
            refine cl2_k h (fun x10 s9 hc h => ?_)
            refine k_cv (T := TX11) (N := 39) (ci := 6) (ob := 45) (As := [.int x1, .int x2]) (st := []) C (qX11_canGo l g hg hc) (iW9 _ (List.mem_of_getElem? (i := 25) rfl)) (iW9 _ (List.mem_of_getElem? (i := 26) rfl)) (iW9 _ (List.mem_of_getElem? (i := 27) rfl)) (iW0 _ (List.mem_of_getElem? (i := 5) rfl)) (iW9 _ (List.mem_of_getElem? (i := 28) rfl)) rfl rfl hdX11_canGo (by decide) rfl (by decide) rfl rfl rfl (Nat.le_of_ble_eq_true rfl) (dk dX11_comes_3 7 rfl) ?_
            refine k_if_eq (tgt := 207) C (dk dX11_comes_3 8 rfl) (by decide) h (fun h => ?_) (fun h => ?_)
            ·
              refine k_sub C [3, 2, 1] rfl ?_
              exact hJ207 _ h
            ·
              refine k_iconst (v := (1 : Int32)) C (dk dX11_comes_3 9 rfl) (by decide) ?_
              refine k_goto (tgt := 208) C (dk dX11_comes_3 10 rfl) (by decide) ?_
              refine k_sub C [3, 2, 1] rfl ?_
              exact hJ208 _ _ h
  replace h := (if_neg e0).symm.trans h
  by_cases e1 : x3 = (103 : Int32)
  · replace h := (if_pos e1).symm.trans h
    refine k_ls (off := 43) (tgt := 72) C (dk dX11_comes_0 22 rfl) rfl (by rw [e1]; decide) (by decide) ?_
    refine k_iload_n C (dk dX11_comes_0 23 rfl) rfl 2 rfl ?_
    refine k_bipush (v := (8 : Int32)) C (dk dX11_comes_0 24 rfl) (by decide) ?_
    refine kl_J (P := (fun J98 => ∀ (y11 : Int32) (s12 : St), J98 y11 s12 = some (v, σe) → WK 98 [(0, .ref (g.2.2 45)), (1, .int a1), (2, .int x1), (3, .int x2)] [.int y11] s12)) h (fun y11 s12 h => ?_) (fun J98 hJ98 h => ?_)
    ·
      unfold mX11_comes_98 at h
      refine k_istore (lv' := [(4, .int y11), (0, .ref (g.2.2 45)), (1, .int a1), (2, .int x1), (3, .int x2)]) C (dk dX11_comes_1 7 rfl) (by decide) rfl ?_
      refine k_iload C (dk dX11_comes_1 8 rfl) 0 rfl ?_
      refine kl_J (P := (fun J137 => ∀ (s13 : St), J137 s13 = some (v, σe) → WK 137 [(4, .int y11)] [] s13)) h (fun s13 h => ?_) (fun J137 hJ137 h => ?_)
      ·
        unfold mX11_comes_137 at h
        refine k_iload C (dk dX11_comes_2 2 rfl) 0 rfl ?_
        exact k_zret E (dk dX11_comes_2 3 rfl) h
      ·
        refine k_if_eq (tgt := 137) C (dk dX11_comes_1 9 rfl) (by decide) h (fun h => ?_) (fun h => ?_)
        ·
          refine k_sub C [0] rfl ?_
          exact hJ137 _ h
        ·
          refine k_aload_n C (dk dX11_comes_1 10 rfl) rfl 1 rfl ?_
          refine k_getR (q := 46) (D := RX11) (T := TX11) (N := 39) (ci := 6) (k := 0) C iCX11 rfl (by decide) rfl (by decide) (iW2 _ (List.mem_of_getElem? (i := 25) rfl)) rfl (dk dX11_comes_1 11 rfl) ?_
          refine k_aload_n C (dk dX11_comes_1 12 rfl) rfl 1 rfl ?_
          refine k_getR (q := 56) (D := RX11) (T := TX11) (N := 39) (ci := 6) (k := 24) C iCX11 rfl (by decide) rfl (by decide) (iW3 _ (List.mem_of_getElem? (i := 10) rfl)) rfl (dk dX11_comes_1 13 rfl) ?_
          refine k_iconst (v := (3 : Int32)) C (dk dX11_comes_1 14 rfl) (by decide) ?_
          refine k_iload_n C (dk dX11_comes_1 15 rfl) rfl 2 rfl ?_
          refine k_imul C (dk dX11_comes_1 16 rfl) ?_
          refine k_iconst (v := (2 : Int32)) C (dk dX11_comes_1 17 rfl) (by decide) ?_
          refine k_iadd C (dk dX11_comes_1 18 rfl) ?_
          refine k_iald C rfl rfl (dk dX11_comes_1 19 rfl) h (fun x14 h => ?_)
          refine k_iload_n C (dk dX11_comes_1 20 rfl) rfl 3 rfl ?_
          refine k_iast C rfl rfl (dk dX11_comes_1 21 rfl) h (fun s15 h => ?_)
          refine k_aload_n C (dk dX11_comes_1 22 rfl) rfl 1 rfl ?_
          refine k_getR (q := 47) (D := RX11) (T := TX11) (N := 39) (ci := 6) (k := 1) C iCX11 rfl (by decide) rfl (by decide) (iW2 _ (List.mem_of_getElem? (i := 26) rfl)) rfl (dk dX11_comes_1 23 rfl) ?_
          refine k_aload_n C (dk dX11_comes_1 24 rfl) rfl 1 rfl ?_
          refine k_getR (q := 56) (D := RX11) (T := TX11) (N := 39) (ci := 6) (k := 24) C iCX11 rfl (by decide) rfl (by decide) (iW3 _ (List.mem_of_getElem? (i := 10) rfl)) rfl (dk dX11_comes_1 25 rfl) ?_
          refine k_iconst (v := (3 : Int32)) C (dk dX11_comes_1 26 rfl) (by decide) ?_
          refine k_iload_n C (dk dX11_comes_1 27 rfl) rfl 2 rfl ?_
          refine k_imul C (dk dX11_comes_1 28 rfl) ?_
          refine k_iconst (v := (2 : Int32)) C (dk dX11_comes_1 29 rfl) (by decide) ?_
          refine k_iadd C (dk dX11_comes_1 30 rfl) ?_
          refine k_iald C rfl rfl (dk dX11_comes_1 31 rfl) h (fun x16 h => ?_)
          refine k_iload_n C (dk dX11_comes_2 0 rfl) rfl 4 rfl ?_
          refine k_iast C rfl rfl (dk dX11_comes_2 1 rfl) h (fun s17 h => ?_)
          refine k_sub C [0] rfl ?_
          exact hJ137 _ h
    ·
      refine kl_J (P := (fun J97 => ∀ (s18 : St), J97 s18 = some (v, σe) → WK 97 [(0, .ref (g.2.2 45)), (1, .int a1), (2, .int x1), (3, .int x2)] [] s18)) h (fun s18 h => ?_) (fun J97 hJ97 h => ?_)
      ·
        unfold mX11_comes_97 at h
        refine k_iconst (v := (0 : Int32)) C (dk dX11_comes_1 6 rfl) (by decide) ?_
        exact hJ98 _ _ h
      ·
        refine k_icmp_ge (tgt := 97) C (dk dX11_comes_0 25 rfl) (by decide) h (fun h => ?_) (fun h => ?_)
        ·
          refine k_sub C [3, 4, 2, 1] rfl ?_
          exact hJ97 _ h
        ·
          refine k_aload_n C (dk dX11_comes_0 26 rfl) rfl 3 rfl ?_
          refine k_getR (q := 56) (D := RX11) (T := TX11) (N := 39) (ci := 6) (k := 24) C iCX11 rfl (by decide) rfl (by decide) (iW3 _ (List.mem_of_getElem? (i := 10) rfl)) rfl (dk dX11_comes_0 27 rfl) ?_
          refine k_iconst (v := (3 : Int32)) C (dk dX11_comes_0 28 rfl) (by decide) ?_
          refine k_iload_n C (dk dX11_comes_0 29 rfl) rfl 4 rfl ?_
          refine k_imul C (dk dX11_comes_0 30 rfl) ?_
          refine k_iconst (v := (2 : Int32)) C (dk dX11_comes_0 31 rfl) (by decide) ?_
          refine k_iadd C (dk dX11_comes_1 0 rfl) ?_
          refine k_iald C rfl rfl (dk dX11_comes_1 1 rfl) h (fun x19 h => ?_)
          refine k_bipush (v := (36 : Int32)) C (dk dX11_comes_1 2 rfl) (by decide) ?_
          refine k_icmp_ge (tgt := 97) C (dk dX11_comes_1 3 rfl) (by decide) h (fun h => ?_) (fun h => ?_)
          ·
            refine k_sub C [3, 4, 2, 1] rfl ?_
            exact hJ97 _ h
          ·
            refine k_iconst (v := (1 : Int32)) C (dk dX11_comes_1 4 rfl) (by decide) ?_
            refine k_goto (tgt := 98) C (dk dX11_comes_1 5 rfl) (by decide) ?_
            refine k_sub C [3, 4, 2, 1] rfl ?_
            exact hJ98 _ _ h
  replace h := (if_neg e1).symm.trans h
  by_cases e2 : x3 = (110 : Int32)
  · replace h := (if_pos e2).symm.trans h
    refine k_ls (off := 111) (tgt := 140) C (dk dX11_comes_0 22 rfl) rfl (by rw [e2]; decide) (by decide) ?_
    refine k_aload_n C (dk dX11_comes_2 4 rfl) rfl 3 rfl ?_
    refine k_iload_n C (dk dX11_comes_2 5 rfl) rfl 2 rfl ?_
    refine k_putI (D := RX11) (T := TX11) (N := 39) (ci := 6) (k := 3) C iCX11 tyX11_ok nmX11 rfl (by decide) rfl (by decide) (iW2 _ (List.mem_of_getElem? (i := 27) rfl)) rfl rfl flq6_3 flp6_3 (dk dX11_comes_2 6 rfl) h (fun s20 h => ?_)
    refine k_aload_n C (dk dX11_comes_2 7 rfl) rfl 3 rfl ?_
    refine k_iload_n C (dk dX11_comes_2 8 rfl) rfl 1 rfl ?_
    refine k_putI (D := RX11) (T := TX11) (N := 39) (ci := 6) (k := 4) C iCX11 tyX11_ok nmX11 rfl (by decide) rfl (by decide) (iW2 _ (List.mem_of_getElem? (i := 28) rfl)) rfl rfl flq6_4 flp6_4 (dk dX11_comes_2 9 rfl) h (fun s21 h => ?_)
    refine k_iload_n C (dk dX11_comes_2 10 rfl) rfl 2 rfl ?_
    refine k_bipush (v := (20 : Int32)) C (dk dX11_comes_2 11 rfl) (by decide) ?_
    refine k_icmp_gt (tgt := 166) C (dk dX11_comes_2 12 rfl) (by decide) h (fun h => ?_) (fun h => ?_)
    ·
      refine k_iconst (v := (0 : Int32)) C (dk dX11_comes_2 18 rfl) (by decide) ?_
      exact k_zret E (dk dX11_comes_2 19 rfl) h
    ·
      refine k_iload_n C (dk dX11_comes_2 13 rfl) rfl 1 rfl ?_
      refine k_bipush (v := (20 : Int32)) C (dk dX11_comes_2 14 rfl) (by decide) ?_
      refine k_icmp_gt (tgt := 166) C (dk dX11_comes_2 15 rfl) (by decide) h (fun h => ?_) (fun h => ?_)
      ·
        refine k_iconst (v := (0 : Int32)) C (dk dX11_comes_2 18 rfl) (by decide) ?_
        exact k_zret E (dk dX11_comes_2 19 rfl) h
      ·
        refine k_iconst (v := (1 : Int32)) C (dk dX11_comes_2 16 rfl) (by decide) ?_
        refine k_goto (tgt := 167) C (dk dX11_comes_2 17 rfl) (by decide) ?_
        exact k_zret E (dk dX11_comes_2 19 rfl) h
  replace h := (if_neg e2).symm.trans h
  by_cases e3 : x3 = (119 : Int32)
  · replace h := (if_pos e3).symm.trans h
    refine k_ls (off := 139) (tgt := 168) C (dk dX11_comes_0 22 rfl) rfl (by rw [e3]; decide) (by decide) ?_
    refine k_aload_n C (dk dX11_comes_2 20 rfl) rfl 3 rfl ?_
    refine k_iload_n C (dk dX11_comes_2 21 rfl) rfl 2 rfl ?_
    refine k_putI (D := RX11) (T := TX11) (N := 39) (ci := 6) (k := 2) C iCX11 tyX11_ok nmX11 rfl (by decide) rfl (by decide) (iW9 _ (List.mem_of_getElem? (i := 13) rfl)) rfl rfl flq6_2 flp6_2 (dk dX11_comes_2 22 rfl) h (fun s22 h => ?_)
    refine k_iload_n C (dk dX11_comes_2 23 rfl) rfl 2 rfl ?_
    refine k_iconst (v := (2 : Int32)) C (dk dX11_comes_2 24 rfl) (by decide) ?_
    refine k_icmp_ge (tgt := 182) C (dk dX11_comes_2 25 rfl) (by decide) h (fun h => ?_) (fun h => ?_)
    ·
      refine k_iconst (v := (0 : Int32)) C (dk dX11_comes_2 28 rfl) (by decide) ?_
      exact k_zret E (dk dX11_comes_2 29 rfl) h
    ·
      refine k_iconst (v := (1 : Int32)) C (dk dX11_comes_2 26 rfl) (by decide) ?_
      refine k_goto (tgt := 183) C (dk dX11_comes_2 27 rfl) (by decide) ?_
      exact k_zret E (dk dX11_comes_2 29 rfl) h
  replace h := (if_neg e3).symm.trans h
  refine k_ls (off := 195) (tgt := 224) C (dk dX11_comes_0 22 rfl) rfl (by have n0 : x3.toInt ≠ 100 := fun q => e0 (Int32.toInt_inj.mp (q.trans (by decide))); have n1 : x3.toInt ≠ 103 := fun q => e1 (Int32.toInt_inj.mp (q.trans (by decide))); have n2 : x3.toInt ≠ 110 := fun q => e2 (Int32.toInt_inj.mp (q.trans (by decide))); have n3 : x3.toInt ≠ 119 := fun q => e3 (Int32.toInt_inj.mp (q.trans (by decide))); simp [Op.lookupswitch.offset, n0, Ne.symm n0, n1, Ne.symm n1, n2, Ne.symm n2, n3, Ne.symm n3]) (by decide) ?_
  refine k_iload_n C (dk dX11_comes_3 21 rfl) rfl 2 rfl ?_
  refine k_bipush (v := (36 : Int32)) C (dk dX11_comes_3 22 rfl) (by decide) ?_
  refine kl_J (P := (fun J243 => ∀ (y23 : Int32) (s24 : St), J243 y23 s24 = some (v, σe) → WK 243 [(0, .ref (g.2.2 45)), (1, .int a1), (2, .int x1)] [.int y23] s24)) h (fun y23 s24 h => ?_) (fun J243 hJ243 h => ?_)
  ·
    unfold mX11_comes_243 at h
    refine k_istore (lv' := [(4, .int y23), (0, .ref (g.2.2 45)), (1, .int a1), (2, .int x1)]) C (dk dX11_comes_3 31 rfl) (by decide) rfl ?_
    refine k_aload_n C (dk dX11_comes_4 0 rfl) rfl 1 rfl ?_
    refine k_aload_n C (dk dX11_comes_4 1 rfl) rfl 1 rfl ?_
    refine k_getR (q := 55) (D := RX11) (T := TX11) (N := 39) (ci := 6) (k := 23) C iCX11 rfl (by decide) rfl (by decide) (iW3 _ (List.mem_of_getElem? (i := 9) rfl)) rfl (dk dX11_comes_4 2 rfl) ?_
    refine k_iload_n C (dk dX11_comes_4 3 rfl) rfl 2 rfl ?_
    refine k_iald C rfl rfl (dk dX11_comes_4 4 rfl) h (fun x25 h => ?_)
    refine k_bipush (v := (104 : Int32)) C (dk dX11_comes_4 5 rfl) (by decide) ?_
    refine kl_J (P := (fun J270 => ∀ (y26 : Int32) (s27 : St), J270 y26 s27 = some (v, σe) → WK 270 [(0, .ref (g.2.2 45)), (1, .int a1), (2, .int x1), (4, .int y23)] [.int y26, .ref (g.2.2 45)] s27)) h (fun y26 s27 h => ?_) (fun J270 hJ270 h => ?_)
    ·
      unfold mX11_comes_270 at h
      refine k_putI (D := RX11) (T := TX11) (N := 39) (ci := 6) (k := 5) C iCX11 tyX11_ok nmX11 rfl (by decide) rfl (by decide) (iW2 _ (List.mem_of_getElem? (i := 29) rfl)) rfl rfl flq6_5 flp6_5 (dk dX11_comes_4 13 rfl) h (fun s28 h => ?_)
      refine k_aload_n C (dk dX11_comes_4 14 rfl) rfl 0 rfl ?_
      refine k_aload_n C (dk dX11_comes_4 15 rfl) rfl 0 rfl ?_
      refine k_getR (q := 55) (D := RX11) (T := TX11) (N := 39) (ci := 6) (k := 23) C iCX11 rfl (by decide) rfl (by decide) (iW3 _ (List.mem_of_getElem? (i := 9) rfl)) rfl (dk dX11_comes_4 16 rfl) ?_
      refine k_iload_n C (dk dX11_comes_4 17 rfl) rfl 1 rfl ?_
      refine k_iald C rfl rfl (dk dX11_comes_4 18 rfl) h (fun x29 h => ?_)
      refine k_bipush (v := (115 : Int32)) C (dk dX11_comes_4 19 rfl) (by decide) ?_
      refine kl_J (P := (fun J298 => ∀ (y30 : Int32) (s31 : St), J298 y30 s31 = some (v, σe) → WK 298 [(4, .int y23)] [.int y30, .ref (g.2.2 45)] s31)) h (fun y30 s31 h => ?_) (fun J298 hJ298 h => ?_)
      ·
        unfold mX11_comes_298 at h
        refine k_putI (D := RX11) (T := TX11) (N := 39) (ci := 6) (k := 6) C iCX11 tyX11_ok nmX11 rfl (by decide) rfl (by decide) (iW3 _ (List.mem_of_getElem? (i := 0) rfl)) rfl rfl flq6_6 flp6_6 (dk dX11_comes_4 27 rfl) h (fun s32 h => ?_)
        refine k_iload C (dk dX11_comes_4 28 rfl) 0 rfl ?_
        exact k_zret E (dk dX11_comes_4 29 rfl) h
      ·
        refine kl_J (P := (fun J294 => ∀ (s33 : St), J294 s33 = some (v, σe) → WK 294 [(0, .ref (g.2.2 45)), (4, .int y23)] [.ref (g.2.2 45)] s33)) h (fun s33 h => ?_) (fun J294 hJ294 h => ?_)
        ·
          unfold mX11_comes_294 at h
          refine k_aload_n C (dk dX11_comes_4 25 rfl) rfl 0 rfl ?_
          refine k_getI (D := RX11) (T := TX11) (N := 39) (ci := 6) (k := 6) C iCX11 rfl (by decide) rfl (by decide) (iW3 _ (List.mem_of_getElem? (i := 0) rfl)) rfl (dk dX11_comes_4 26 rfl) h (fun x34 h => ?_)
          refine k_sub C [1] rfl ?_
          exact hJ298 _ _ h
        ·
          refine k_icmp_ne (tgt := 294) C (dk dX11_comes_4 20 rfl) (by decide) h (fun h => ?_) (fun h => ?_)
          ·
            refine k_sub C [0, 3] rfl ?_
            exact hJ294 _ h
          ·
            refine k_iload C (dk dX11_comes_4 21 rfl) 3 rfl ?_
            refine k_if_eq (tgt := 294) C (dk dX11_comes_4 22 rfl) (by decide) h (fun h => ?_) (fun h => ?_)
            ·
              refine k_sub C [0, 3] rfl ?_
              exact hJ294 _ h
            ·
              refine k_iload_n C (dk dX11_comes_4 23 rfl) rfl 2 rfl ?_
              refine k_goto (tgt := 298) C (dk dX11_comes_4 24 rfl) (by decide) ?_
              refine k_sub C [3] rfl ?_
              exact hJ298 _ _ h
    ·
      refine kl_J (P := (fun J266 => ∀ (s35 : St), J266 s35 = some (v, σe) → WK 266 [(0, .ref (g.2.2 45)), (1, .int a1), (2, .int x1), (4, .int y23)] [.ref (g.2.2 45)] s35)) h (fun s35 h => ?_) (fun J266 hJ266 h => ?_)
      ·
        unfold mX11_comes_266 at h
        refine k_aload_n C (dk dX11_comes_4 11 rfl) rfl 0 rfl ?_
        refine k_getI (D := RX11) (T := TX11) (N := 39) (ci := 6) (k := 5) C iCX11 rfl (by decide) rfl (by decide) (iW2 _ (List.mem_of_getElem? (i := 29) rfl)) rfl (dk dX11_comes_4 12 rfl) h (fun x36 h => ?_)
        exact hJ270 _ _ h
      ·
        refine k_icmp_ne (tgt := 266) C (dk dX11_comes_4 6 rfl) (by decide) h (fun h => ?_) (fun h => ?_)
        ·
          refine k_sub C [1, 2, 3, 0] rfl ?_
          exact hJ266 _ h
        ·
          refine k_iload C (dk dX11_comes_4 7 rfl) 0 rfl ?_
          refine k_if_eq (tgt := 266) C (dk dX11_comes_4 8 rfl) (by decide) h (fun h => ?_) (fun h => ?_)
          ·
            refine k_sub C [1, 2, 3, 0] rfl ?_
            exact hJ266 _ h
          ·
            refine k_iload_n C (dk dX11_comes_4 9 rfl) rfl 3 rfl ?_
            refine k_goto (tgt := 270) C (dk dX11_comes_4 10 rfl) (by decide) ?_
            refine k_sub C [1, 2, 3, 0] rfl ?_
            exact hJ270 _ _ h
  ·
    refine kl_J (P := (fun J242 => ∀ (s37 : St), J242 s37 = some (v, σe) → WK 242 [(0, .ref (g.2.2 45)), (1, .int a1), (2, .int x1)] [] s37)) h (fun s37 h => ?_) (fun J242 hJ242 h => ?_)
    ·
      unfold mX11_comes_242 at h
      refine k_iconst (v := (0 : Int32)) C (dk dX11_comes_3 30 rfl) (by decide) ?_
      exact hJ243 _ _ h
    ·
      refine k_icmp_ge (tgt := 242) C (dk dX11_comes_3 23 rfl) (by decide) h (fun h => ?_) (fun h => ?_)
      ·
        refine k_sub C [3, 4, 2] rfl ?_
        exact hJ242 _ h
      ·
        refine k_aload_n C (dk dX11_comes_3 24 rfl) rfl 3 rfl ?_
        refine k_iload_n C (dk dX11_comes_3 25 rfl) rfl 2 rfl ?_
        refine cl2_k h (fun x39 s38 hc h => ?_)
        refine k_cv (T := TX11) (N := 39) (ci := 6) (ob := 45) (As := [.int x1]) (st := []) C (qX11_isOpen l g hg hc) (iW10 _ (List.mem_of_getElem? (i := 6) rfl)) (iW10 _ (List.mem_of_getElem? (i := 7) rfl)) (iW10 _ (List.mem_of_getElem? (i := 8) rfl)) (iW0 _ (List.mem_of_getElem? (i := 5) rfl)) (iW10 _ (List.mem_of_getElem? (i := 9) rfl)) rfl rfl hdX11_isOpen (by decide) rfl (by decide) rfl rfl rfl (Nat.le_of_ble_eq_true rfl) (dk dX11_comes_3 26 rfl) ?_
        refine k_if_eq (tgt := 242) C (dk dX11_comes_3 27 rfl) (by decide) h (fun h => ?_) (fun h => ?_)
        ·
          refine k_sub C [3, 4, 2] rfl ?_
          exact hJ242 _ h
        ·
          refine k_iconst (v := (1 : Int32)) C (dk dX11_comes_3 28 rfl) (by decide) ?_
          refine k_goto (tgt := 243) C (dk dX11_comes_3 29 rfl) (by decide) ?_
          refine k_sub C [3, 4, 2] rfl ?_
          exact hJ243 _ _ h
set_option maxRecDepth 100000 in
set_option maxHeartbeats 4000000 in
theorem qX11_wrongRow (l : Launch) (g : G) (hg : gOK g) {a1 : Int32}  {s0 σe : St} {v : Int32} (h : mX11_wrongRow a1 s0 = some (v, σe)) : Mc l g yX11_wrongRow cX11_wrongRow 2 (some .int) { frames := 1, cells := 0, slots := 0, locals := 25 } [.ref (g.2.2 45), .int a1] s0 (some (.int v)) σe := by
  refine k_enter hg pnRX11 rfl (Nat.le_of_ble_eq_true rfl) ?_
  intro WK E
  have C := kX_y E
  unfold mX11_wrongRow at h
  show WK 0 [(0, .ref (g.2.2 45)), (1, .int a1)] [] s0
  refine k_iload_n C (dk dX11_wrongRow_0 0 rfl) rfl 1 rfl ?_
  refine k_i2l C (dk dX11_wrongRow_0 1 rfl) ?_
  refine k_lconst (v := (0 : Int64)) C (dk dX11_wrongRow_0 2 rfl) (by decide) ?_
  refine k_ldc2 (v := (7 : Int64)) C (dk dX11_wrongRow_0 3 rfl) (iW8 _ (List.mem_of_getElem? (i := 15) rfl)) ?_
  refine cl2_k h (fun x2 s1 hc h => ?_)
  refine k_cs (As := [.long a1.toInt64, .long (0 : Int64), .long (7 : Int64)]) (st := []) C (qX11_in l g hg hc) (iW8 _ (List.mem_of_getElem? (i := 16) rfl)) (iW8 _ (List.mem_of_getElem? (i := 17) rfl)) (iW0 _ (List.mem_of_getElem? (i := 5) rfl)) (iW8 _ (List.mem_of_getElem? (i := 18) rfl)) rfl rfl hdX11_in (by decide) rfl rfl (Nat.le_of_ble_eq_true rfl) (dk dX11_wrongRow_0 4 rfl) ?_
  refine k_if_ne (tgt := 16) C (dk dX11_wrongRow_0 5 rfl) (by decide) h (fun h => ?_) (fun h => ?_)
  ·
    refine k_aload_n C (dk dX11_wrongRow_0 8 rfl) rfl 0 rfl ?_
    refine k_getR (q := 48) (D := RX11) (T := TX11) (N := 39) (ci := 6) (k := 10) C iCX11 rfl (by decide) rfl (by decide) (iW3 _ (List.mem_of_getElem? (i := 1) rfl)) rfl (dk dX11_wrongRow_0 9 rfl) ?_
    refine k_iload_n C (dk dX11_wrongRow_0 10 rfl) rfl 1 rfl ?_
    refine k_iald C rfl rfl (dk dX11_wrongRow_0 11 rfl) h (fun x3 h => ?_)
    refine k_if_ne (tgt := 30) C (dk dX11_wrongRow_0 12 rfl) (by decide) h (fun h => ?_) (fun h => ?_)
    ·
      refine k_aload_n C (dk dX11_wrongRow_0 15 rfl) rfl 0 rfl ?_
      refine k_getR (q := 48) (D := RX11) (T := TX11) (N := 39) (ci := 6) (k := 10) C iCX11 rfl (by decide) rfl (by decide) (iW3 _ (List.mem_of_getElem? (i := 1) rfl)) rfl (dk dX11_wrongRow_0 16 rfl) ?_
      refine k_iload_n C (dk dX11_wrongRow_0 17 rfl) rfl 1 rfl ?_
      refine k_iald C rfl rfl (dk dX11_wrongRow_0 18 rfl) h (fun x4 h => ?_)
      refine k_iconst (v := (2 : Int32)) C (dk dX11_wrongRow_0 19 rfl) (by decide) ?_
      refine k_icmp_eq (tgt := 45) C (dk dX11_wrongRow_0 20 rfl) (by decide) h (fun h => ?_) (fun h => ?_)
      ·
        refine k_iconst (v := (0 : Int32)) C (dk dX11_wrongRow_0 23 rfl) (by decide) ?_
        exact k_iret E (dk dX11_wrongRow_0 24 rfl) h
      ·
        refine k_bipush (v := (-12 : Int32)) C (dk dX11_wrongRow_0 21 rfl) (by decide) ?_
        refine k_goto (tgt := 46) C (dk dX11_wrongRow_0 22 rfl) (by decide) ?_
        exact k_iret E (dk dX11_wrongRow_0 24 rfl) h
    ·
      refine k_bipush (v := (-11 : Int32)) C (dk dX11_wrongRow_0 13 rfl) (by decide) ?_
      refine k_goto (tgt := 46) C (dk dX11_wrongRow_0 14 rfl) (by decide) ?_
      exact k_iret E (dk dX11_wrongRow_0 24 rfl) h
  ·
    refine k_iconst (v := (-1 : Int32)) C (dk dX11_wrongRow_0 6 rfl) (by decide) ?_
    refine k_goto (tgt := 46) C (dk dX11_wrongRow_0 7 rfl) (by decide) ?_
    exact k_iret E (dk dX11_wrongRow_0 24 rfl) h
set_option maxRecDepth 100000 in
set_option maxHeartbeats 4000000 in
theorem qX11_carry (l : Launch) (g : G) (hg : gOK g) {a1 : Int32}  {s0 σe : St} {v : Int32} (h : mX11_carry a1 s0 = some (v, σe)) : Mc l g yX11_carry cX11_carry 2 (some .int) { frames := 0, cells := 0, slots := 0, locals := 0 } [.ref (g.2.2 45), .int a1] s0 (some (.int v)) σe := by
  refine k_enter hg pnRX11 rfl (Nat.le_of_ble_eq_true rfl) ?_
  intro WK E
  have C := kX_y E
  unfold mX11_carry at h
  show WK 0 [(0, .ref (g.2.2 45)), (1, .int a1)] [] s0
  refine k_aload_n C (dk dX11_carry_0 0 rfl) rfl 0 rfl ?_
  refine k_getI (D := RX11) (T := TX11) (N := 39) (ci := 6) (k := 29) C iCX11 rfl (by decide) rfl (by decide) (iW9 _ (List.mem_of_getElem? (i := 11) rfl)) rfl (dk dX11_carry_0 1 rfl) h (fun x1 h => ?_)
  refine kl_J (P := (fun J17 => ∀ (s2 : St), J17 s2 = some (v, σe) → WK 17 [(0, .ref (g.2.2 45))] [] s2)) h (fun s2 h => ?_) (fun J17 hJ17 h => ?_)
  ·
    unfold mX11_carry_17 at h
    refine k_aload_n C (dk dX11_carry_0 9 rfl) rfl 0 rfl ?_
    refine k_dup C (dk dX11_carry_0 10 rfl) rfl ?_
    refine k_getI (D := RX11) (T := TX11) (N := 39) (ci := 6) (k := 28) C iCX11 rfl (by decide) rfl (by decide) (iW9 _ (List.mem_of_getElem? (i := 12) rfl)) rfl (dk dX11_carry_0 11 rfl) h (fun x3 h => ?_)
    refine k_iconst (v := (1 : Int32)) C (dk dX11_carry_0 12 rfl) (by decide) ?_
    refine k_iadd C (dk dX11_carry_0 13 rfl) ?_
    refine k_putI (D := RX11) (T := TX11) (N := 39) (ci := 6) (k := 28) C iCX11 tyX11_ok nmX11 rfl (by decide) rfl (by decide) (iW9 _ (List.mem_of_getElem? (i := 12) rfl)) rfl rfl flq6_28 flp6_28 (dk dX11_carry_0 14 rfl) h (fun s4 h => ?_)
    refine k_aload_n C (dk dX11_carry_0 15 rfl) rfl 0 rfl ?_
    refine k_getK C iCX11 (iW9 _ (List.mem_of_getElem? (i := 10) rfl)) (dk dX11_carry_0 16 rfl) h (fun n5 hn5 h => ?_)
    refine k_aload_n C (dk dX11_carry_0 17 rfl) rfl 0 rfl ?_
    refine k_getI (D := RX11) (T := TX11) (N := 39) (ci := 6) (k := 28) C iCX11 rfl (by decide) rfl (by decide) (iW9 _ (List.mem_of_getElem? (i := 12) rfl)) rfl (dk dX11_carry_0 18 rfl) h (fun x6 h => ?_)
    refine k_iconst (v := (1 : Int32)) C (dk dX11_carry_0 19 rfl) (by decide) ?_
    refine k_isub C (dk dX11_carry_0 20 rfl) ?_
    refine k_iald C (kd_K hn5) (ln_K hn5) (dk dX11_carry_0 21 rfl) h (fun x7 h => ?_)
    exact k_iret E (dk dX11_carry_0 22 rfl) h
  ·
    refine k_if_eq (tgt := 17) C (dk dX11_carry_0 2 rfl) (by decide) h (fun h => ?_) (fun h => ?_)
    ·
      refine k_sub C [0] rfl ?_
      exact hJ17 _ h
    ·
      refine k_aload_n C (dk dX11_carry_0 3 rfl) rfl 0 rfl ?_
      refine k_getK C iCX11 (iW9 _ (List.mem_of_getElem? (i := 10) rfl)) (dk dX11_carry_0 4 rfl) h (fun n8 hn8 h => ?_)
      refine k_aload_n C (dk dX11_carry_0 5 rfl) rfl 0 rfl ?_
      refine k_getI (D := RX11) (T := TX11) (N := 39) (ci := 6) (k := 28) C iCX11 rfl (by decide) rfl (by decide) (iW9 _ (List.mem_of_getElem? (i := 12) rfl)) rfl (dk dX11_carry_0 6 rfl) h (fun x9 h => ?_)
      refine k_iload_n C (dk dX11_carry_0 7 rfl) rfl 1 rfl ?_
      refine k_iast C (kd_K hn8) (ln_K hn8) (dk dX11_carry_0 8 rfl) h (fun s10 h => ?_)
      refine k_sub C [0] rfl ?_
      exact hJ17 _ h
set_option maxRecDepth 100000 in
set_option maxHeartbeats 4000000 in
theorem qX11_carryAll (l : Launch) (g : G) (hg : gOK g) {o1 : Nat} {a2 : Int32} (ho1 : o1 = 57 ∨ o1 = 58) {s0 σe : St} (h : mX11_carryAll o1 a2 s0 = some σe) : Mc l g yX11_carryAll cX11_carryAll 4 none { frames := 1, cells := 0, slots := 0, locals := 21 } [.ref (g.2.2 45), .ref (g.2.2 o1), .int a2] s0 none σe := by
  refine k_enter hg pnRX11 rfl (Nat.le_of_ble_eq_true rfl) ?_
  intro WK E
  have C := kX_y E
  unfold mX11_carryAll at h
  show WK 0 [(0, .ref (g.2.2 45)), (1, .ref (g.2.2 o1)), (2, .int a2)] [] s0
  refine k_aload_n C (dk dX11_carryAll_0 0 rfl) rfl 0 rfl ?_
  refine k_aload_n C (dk dX11_carryAll_0 1 rfl) rfl 1 rfl ?_
  refine k_putK C iCX11 (iW9 _ (List.mem_of_getElem? (i := 10) rfl)) (ne_K ho1) (dk dX11_carryAll_0 2 rfl) h (fun s1 h => ?_)
  refine k_aload_n C (dk dX11_carryAll_0 3 rfl) rfl 0 rfl ?_
  refine k_iload_n C (dk dX11_carryAll_0 4 rfl) rfl 2 rfl ?_
  refine k_putZ (D := RX11) (T := TX11) (N := 39) (ci := 6) (k := 29) C iCX11 tyX11_ok nmX11 rfl (by decide) rfl (by decide) (iW9 _ (List.mem_of_getElem? (i := 11) rfl)) rfl rfl flq6_29 flp6_29 (dk dX11_carryAll_0 5 rfl) h (fun s2 h => ?_)
  refine k_aload_n C (dk dX11_carryAll_0 6 rfl) rfl 0 rfl ?_
  refine k_iconst (v := (0 : Int32)) C (dk dX11_carryAll_0 7 rfl) (by decide) ?_
  refine k_putI (D := RX11) (T := TX11) (N := 39) (ci := 6) (k := 28) C iCX11 tyX11_ok nmX11 rfl (by decide) rfl (by decide) (iW9 _ (List.mem_of_getElem? (i := 12) rfl)) rfl rfl flq6_28 flp6_28 (dk dX11_carryAll_0 8 rfl) h (fun s3 h => ?_)
  refine k_aload_n C (dk dX11_carryAll_0 9 rfl) rfl 0 rfl ?_
  refine k_aload_n C (dk dX11_carryAll_0 10 rfl) rfl 0 rfl ?_
  refine k_aload_n C (dk dX11_carryAll_0 11 rfl) rfl 0 rfl ?_
  refine k_getI (D := RX11) (T := TX11) (N := 39) (ci := 6) (k := 2) C iCX11 rfl (by decide) rfl (by decide) (iW9 _ (List.mem_of_getElem? (i := 13) rfl)) rfl (dk dX11_carryAll_0 12 rfl) h (fun x4 h => ?_)
  refine cl2_k h (fun x6 s5 hc h => ?_)
  refine k_cv (T := TX11) (N := 39) (ci := 6) (ob := 45) (As := [.int x4]) (st := [.ref (g.2.2 45)]) C (qX11_carry l g hg hc) (iW9 _ (List.mem_of_getElem? (i := 17) rfl)) (iW9 _ (List.mem_of_getElem? (i := 18) rfl)) (iW9 _ (List.mem_of_getElem? (i := 19) rfl)) (iW0 _ (List.mem_of_getElem? (i := 5) rfl)) (iW9 _ (List.mem_of_getElem? (i := 20) rfl)) rfl rfl hdX11_carry (by decide) rfl (by decide) rfl rfl rfl (Nat.le_of_ble_eq_true rfl) (dk dX11_carryAll_0 13 rfl) ?_
  refine k_putI (D := RX11) (T := TX11) (N := 39) (ci := 6) (k := 2) C iCX11 tyX11_ok nmX11 rfl (by decide) rfl (by decide) (iW9 _ (List.mem_of_getElem? (i := 13) rfl)) rfl rfl flq6_2 flp6_2 (dk dX11_carryAll_0 14 rfl) h (fun s7 h => ?_)
  refine k_aload_n C (dk dX11_carryAll_0 15 rfl) rfl 0 rfl ?_
  refine k_aload_n C (dk dX11_carryAll_0 16 rfl) rfl 0 rfl ?_
  refine k_aload_n C (dk dX11_carryAll_0 17 rfl) rfl 0 rfl ?_
  refine k_getI (D := RX11) (T := TX11) (N := 39) (ci := 6) (k := 3) C iCX11 rfl (by decide) rfl (by decide) (iW2 _ (List.mem_of_getElem? (i := 27) rfl)) rfl (dk dX11_carryAll_0 18 rfl) h (fun x8 h => ?_)
  refine cl2_k h (fun x10 s9 hc h => ?_)
  refine k_cv (T := TX11) (N := 39) (ci := 6) (ob := 45) (As := [.int x8]) (st := [.ref (g.2.2 45)]) C (qX11_carry l g hg hc) (iW9 _ (List.mem_of_getElem? (i := 17) rfl)) (iW9 _ (List.mem_of_getElem? (i := 18) rfl)) (iW9 _ (List.mem_of_getElem? (i := 19) rfl)) (iW0 _ (List.mem_of_getElem? (i := 5) rfl)) (iW9 _ (List.mem_of_getElem? (i := 20) rfl)) rfl rfl hdX11_carry (by decide) rfl (by decide) rfl rfl rfl (Nat.le_of_ble_eq_true rfl) (dk dX11_carryAll_0 19 rfl) ?_
  refine k_putI (D := RX11) (T := TX11) (N := 39) (ci := 6) (k := 3) C iCX11 tyX11_ok nmX11 rfl (by decide) rfl (by decide) (iW2 _ (List.mem_of_getElem? (i := 27) rfl)) rfl rfl flq6_3 flp6_3 (dk dX11_carryAll_0 20 rfl) h (fun s11 h => ?_)
  refine k_aload_n C (dk dX11_carryAll_0 21 rfl) rfl 0 rfl ?_
  refine k_aload_n C (dk dX11_carryAll_0 22 rfl) rfl 0 rfl ?_
  refine k_aload_n C (dk dX11_carryAll_0 23 rfl) rfl 0 rfl ?_
  refine k_getI (D := RX11) (T := TX11) (N := 39) (ci := 6) (k := 4) C iCX11 rfl (by decide) rfl (by decide) (iW2 _ (List.mem_of_getElem? (i := 28) rfl)) rfl (dk dX11_carryAll_0 24 rfl) h (fun x12 h => ?_)
  refine cl2_k h (fun x14 s13 hc h => ?_)
  refine k_cv (T := TX11) (N := 39) (ci := 6) (ob := 45) (As := [.int x12]) (st := [.ref (g.2.2 45)]) C (qX11_carry l g hg hc) (iW9 _ (List.mem_of_getElem? (i := 17) rfl)) (iW9 _ (List.mem_of_getElem? (i := 18) rfl)) (iW9 _ (List.mem_of_getElem? (i := 19) rfl)) (iW0 _ (List.mem_of_getElem? (i := 5) rfl)) (iW9 _ (List.mem_of_getElem? (i := 20) rfl)) rfl rfl hdX11_carry (by decide) rfl (by decide) rfl rfl rfl (Nat.le_of_ble_eq_true rfl) (dk dX11_carryAll_0 25 rfl) ?_
  refine k_putI (D := RX11) (T := TX11) (N := 39) (ci := 6) (k := 4) C iCX11 tyX11_ok nmX11 rfl (by decide) rfl (by decide) (iW2 _ (List.mem_of_getElem? (i := 28) rfl)) rfl rfl flq6_4 flp6_4 (dk dX11_carryAll_0 26 rfl) h (fun s15 h => ?_)
  refine k_aload_n C (dk dX11_carryAll_0 27 rfl) rfl 0 rfl ?_
  refine k_aload_n C (dk dX11_carryAll_0 28 rfl) rfl 0 rfl ?_
  refine k_aload_n C (dk dX11_carryAll_0 29 rfl) rfl 0 rfl ?_
  refine k_getI (D := RX11) (T := TX11) (N := 39) (ci := 6) (k := 5) C iCX11 rfl (by decide) rfl (by decide) (iW2 _ (List.mem_of_getElem? (i := 29) rfl)) rfl (dk dX11_carryAll_0 30 rfl) h (fun x16 h => ?_)
  refine cl2_k h (fun x18 s17 hc h => ?_)
  refine k_cv (T := TX11) (N := 39) (ci := 6) (ob := 45) (As := [.int x16]) (st := [.ref (g.2.2 45)]) C (qX11_carry l g hg hc) (iW9 _ (List.mem_of_getElem? (i := 17) rfl)) (iW9 _ (List.mem_of_getElem? (i := 18) rfl)) (iW9 _ (List.mem_of_getElem? (i := 19) rfl)) (iW0 _ (List.mem_of_getElem? (i := 5) rfl)) (iW9 _ (List.mem_of_getElem? (i := 20) rfl)) rfl rfl hdX11_carry (by decide) rfl (by decide) rfl rfl rfl (Nat.le_of_ble_eq_true rfl) (dk dX11_carryAll_0 31 rfl) ?_
  refine k_putI (D := RX11) (T := TX11) (N := 39) (ci := 6) (k := 5) C iCX11 tyX11_ok nmX11 rfl (by decide) rfl (by decide) (iW2 _ (List.mem_of_getElem? (i := 29) rfl)) rfl rfl flq6_5 flp6_5 (dk dX11_carryAll_1 0 rfl) h (fun s19 h => ?_)
  refine k_aload_n C (dk dX11_carryAll_1 1 rfl) rfl 0 rfl ?_
  refine k_aload_n C (dk dX11_carryAll_1 2 rfl) rfl 0 rfl ?_
  refine k_aload_n C (dk dX11_carryAll_1 3 rfl) rfl 0 rfl ?_
  refine k_getI (D := RX11) (T := TX11) (N := 39) (ci := 6) (k := 6) C iCX11 rfl (by decide) rfl (by decide) (iW3 _ (List.mem_of_getElem? (i := 0) rfl)) rfl (dk dX11_carryAll_1 4 rfl) h (fun x20 h => ?_)
  refine cl2_k h (fun x22 s21 hc h => ?_)
  refine k_cv (T := TX11) (N := 39) (ci := 6) (ob := 45) (As := [.int x20]) (st := [.ref (g.2.2 45)]) C (qX11_carry l g hg hc) (iW9 _ (List.mem_of_getElem? (i := 17) rfl)) (iW9 _ (List.mem_of_getElem? (i := 18) rfl)) (iW9 _ (List.mem_of_getElem? (i := 19) rfl)) (iW0 _ (List.mem_of_getElem? (i := 5) rfl)) (iW9 _ (List.mem_of_getElem? (i := 20) rfl)) rfl rfl hdX11_carry (by decide) rfl (by decide) rfl rfl rfl (Nat.le_of_ble_eq_true rfl) (dk dX11_carryAll_1 5 rfl) ?_
  refine k_putI (D := RX11) (T := TX11) (N := 39) (ci := 6) (k := 6) C iCX11 tyX11_ok nmX11 rfl (by decide) rfl (by decide) (iW3 _ (List.mem_of_getElem? (i := 0) rfl)) rfl rfl flq6_6 flp6_6 (dk dX11_carryAll_1 6 rfl) h (fun s23 h => ?_)
  refine k_aload_n C (dk dX11_carryAll_1 7 rfl) rfl 0 rfl ?_
  refine k_aload_n C (dk dX11_carryAll_1 8 rfl) rfl 0 rfl ?_
  refine k_aload_n C (dk dX11_carryAll_1 9 rfl) rfl 0 rfl ?_
  refine k_getI (D := RX11) (T := TX11) (N := 39) (ci := 6) (k := 7) C iCX11 rfl (by decide) rfl (by decide) (iW9 _ (List.mem_of_getElem? (i := 14) rfl)) rfl (dk dX11_carryAll_1 10 rfl) h (fun x24 h => ?_)
  refine cl2_k h (fun x26 s25 hc h => ?_)
  refine k_cv (T := TX11) (N := 39) (ci := 6) (ob := 45) (As := [.int x24]) (st := [.ref (g.2.2 45)]) C (qX11_carry l g hg hc) (iW9 _ (List.mem_of_getElem? (i := 17) rfl)) (iW9 _ (List.mem_of_getElem? (i := 18) rfl)) (iW9 _ (List.mem_of_getElem? (i := 19) rfl)) (iW0 _ (List.mem_of_getElem? (i := 5) rfl)) (iW9 _ (List.mem_of_getElem? (i := 20) rfl)) rfl rfl hdX11_carry (by decide) rfl (by decide) rfl rfl rfl (Nat.le_of_ble_eq_true rfl) (dk dX11_carryAll_1 11 rfl) ?_
  refine k_putI (D := RX11) (T := TX11) (N := 39) (ci := 6) (k := 7) C iCX11 tyX11_ok nmX11 rfl (by decide) rfl (by decide) (iW9 _ (List.mem_of_getElem? (i := 14) rfl)) rfl rfl flq6_7 flp6_7 (dk dX11_carryAll_1 12 rfl) h (fun s27 h => ?_)
  refine k_aload_n C (dk dX11_carryAll_1 13 rfl) rfl 0 rfl ?_
  refine k_aload_n C (dk dX11_carryAll_1 14 rfl) rfl 0 rfl ?_
  refine k_aload_n C (dk dX11_carryAll_1 15 rfl) rfl 0 rfl ?_
  refine k_getI (D := RX11) (T := TX11) (N := 39) (ci := 6) (k := 8) C iCX11 rfl (by decide) rfl (by decide) (iW9 _ (List.mem_of_getElem? (i := 15) rfl)) rfl (dk dX11_carryAll_1 16 rfl) h (fun x28 h => ?_)
  refine cl2_k h (fun x30 s29 hc h => ?_)
  refine k_cv (T := TX11) (N := 39) (ci := 6) (ob := 45) (As := [.int x28]) (st := [.ref (g.2.2 45)]) C (qX11_carry l g hg hc) (iW9 _ (List.mem_of_getElem? (i := 17) rfl)) (iW9 _ (List.mem_of_getElem? (i := 18) rfl)) (iW9 _ (List.mem_of_getElem? (i := 19) rfl)) (iW0 _ (List.mem_of_getElem? (i := 5) rfl)) (iW9 _ (List.mem_of_getElem? (i := 20) rfl)) rfl rfl hdX11_carry (by decide) rfl (by decide) rfl rfl rfl (Nat.le_of_ble_eq_true rfl) (dk dX11_carryAll_1 17 rfl) ?_
  refine k_putI (D := RX11) (T := TX11) (N := 39) (ci := 6) (k := 8) C iCX11 tyX11_ok nmX11 rfl (by decide) rfl (by decide) (iW9 _ (List.mem_of_getElem? (i := 15) rfl)) rfl rfl flq6_8 flp6_8 (dk dX11_carryAll_1 18 rfl) h (fun s31 h => ?_)
  refine k_aload_n C (dk dX11_carryAll_1 19 rfl) rfl 0 rfl ?_
  refine k_aload_n C (dk dX11_carryAll_1 20 rfl) rfl 0 rfl ?_
  refine k_aload_n C (dk dX11_carryAll_1 21 rfl) rfl 0 rfl ?_
  refine k_getI (D := RX11) (T := TX11) (N := 39) (ci := 6) (k := 9) C iCX11 rfl (by decide) rfl (by decide) (iW9 _ (List.mem_of_getElem? (i := 16) rfl)) rfl (dk dX11_carryAll_1 22 rfl) h (fun x32 h => ?_)
  refine cl2_k h (fun x34 s33 hc h => ?_)
  refine k_cv (T := TX11) (N := 39) (ci := 6) (ob := 45) (As := [.int x32]) (st := [.ref (g.2.2 45)]) C (qX11_carry l g hg hc) (iW9 _ (List.mem_of_getElem? (i := 17) rfl)) (iW9 _ (List.mem_of_getElem? (i := 18) rfl)) (iW9 _ (List.mem_of_getElem? (i := 19) rfl)) (iW0 _ (List.mem_of_getElem? (i := 5) rfl)) (iW9 _ (List.mem_of_getElem? (i := 20) rfl)) rfl rfl hdX11_carry (by decide) rfl (by decide) rfl rfl rfl (Nat.le_of_ble_eq_true rfl) (dk dX11_carryAll_1 23 rfl) ?_
  refine k_putI (D := RX11) (T := TX11) (N := 39) (ci := 6) (k := 9) C iCX11 tyX11_ok nmX11 rfl (by decide) rfl (by decide) (iW9 _ (List.mem_of_getElem? (i := 16) rfl)) rfl rfl flq6_9 flp6_9 (dk dX11_carryAll_1 24 rfl) h (fun s35 h => ?_)
  refine k_iconst (v := (0 : Int32)) C (dk dX11_carryAll_1 25 rfl) (by decide) ?_
  refine k_istore_n (lv' := [(3, .int (0 : Int32)), (0, .ref (g.2.2 45)), (1, .ref (g.2.2 o1)), (2, .int a2)]) C (dk dX11_carryAll_1 26 rfl) rfl (by decide) rfl ?_
  refine kl_L (P := (fun J113 => ∀ (y36 : Int32) (s37 : St), J113 y36 s37 = some σe → WK 113 [(0, .ref (g.2.2 45)), (3, .int y36)] [] s37)) h (fun _ _ h => nomatch h) (fun J113 hJ113 y36 s37 h => ?_) (fun J113 hJ113 h => ?_)
  ·
    unfold mX11_carryAll_113 at h
    refine k_iload_n C (dk dX11_carryAll_1 27 rfl) rfl 1 rfl ?_
    refine k_bipush (v := (36 : Int32)) C (dk dX11_carryAll_1 28 rfl) (by decide) ?_
    refine k_icmp_ge (tgt := 157) C (dk dX11_carryAll_1 29 rfl) (by decide) h (fun h => ?_) (fun h => ?_)
    ·
      exact k_vret E (dk dX11_carryAll_2 20 rfl) h
    ·
      refine k_aload_n C (dk dX11_carryAll_1 30 rfl) rfl 0 rfl ?_
      refine k_getR (q := 46) (D := RX11) (T := TX11) (N := 39) (ci := 6) (k := 0) C iCX11 rfl (by decide) rfl (by decide) (iW2 _ (List.mem_of_getElem? (i := 25) rfl)) rfl (dk dX11_carryAll_1 31 rfl) ?_
      refine k_iload_n C (dk dX11_carryAll_2 0 rfl) rfl 1 rfl ?_
      refine k_aload_n C (dk dX11_carryAll_2 1 rfl) rfl 0 rfl ?_
      refine k_aload_n C (dk dX11_carryAll_2 2 rfl) rfl 0 rfl ?_
      refine k_getR (q := 46) (D := RX11) (T := TX11) (N := 39) (ci := 6) (k := 0) C iCX11 rfl (by decide) rfl (by decide) (iW2 _ (List.mem_of_getElem? (i := 25) rfl)) rfl (dk dX11_carryAll_2 3 rfl) ?_
      refine k_iload_n C (dk dX11_carryAll_2 4 rfl) rfl 1 rfl ?_
      refine k_iald C rfl rfl (dk dX11_carryAll_2 5 rfl) h (fun x38 h => ?_)
      refine cl2_k h (fun x40 s39 hc h => ?_)
      refine k_cv (T := TX11) (N := 39) (ci := 6) (ob := 45) (As := [.int x38]) (st := [.int y36, .ref (g.2.2 46)]) C (qX11_carry l g hg hc) (iW9 _ (List.mem_of_getElem? (i := 17) rfl)) (iW9 _ (List.mem_of_getElem? (i := 18) rfl)) (iW9 _ (List.mem_of_getElem? (i := 19) rfl)) (iW0 _ (List.mem_of_getElem? (i := 5) rfl)) (iW9 _ (List.mem_of_getElem? (i := 20) rfl)) rfl rfl hdX11_carry (by decide) rfl (by decide) rfl rfl rfl (Nat.le_of_ble_eq_true rfl) (dk dX11_carryAll_2 6 rfl) ?_
      refine k_iast C rfl rfl (dk dX11_carryAll_2 7 rfl) h (fun s41 h => ?_)
      refine k_aload_n C (dk dX11_carryAll_2 8 rfl) rfl 0 rfl ?_
      refine k_getR (q := 47) (D := RX11) (T := TX11) (N := 39) (ci := 6) (k := 1) C iCX11 rfl (by decide) rfl (by decide) (iW2 _ (List.mem_of_getElem? (i := 26) rfl)) rfl (dk dX11_carryAll_2 9 rfl) ?_
      refine k_iload_n C (dk dX11_carryAll_2 10 rfl) rfl 1 rfl ?_
      refine k_aload_n C (dk dX11_carryAll_2 11 rfl) rfl 0 rfl ?_
      refine k_aload_n C (dk dX11_carryAll_2 12 rfl) rfl 0 rfl ?_
      refine k_getR (q := 47) (D := RX11) (T := TX11) (N := 39) (ci := 6) (k := 1) C iCX11 rfl (by decide) rfl (by decide) (iW2 _ (List.mem_of_getElem? (i := 26) rfl)) rfl (dk dX11_carryAll_2 13 rfl) ?_
      refine k_iload_n C (dk dX11_carryAll_2 14 rfl) rfl 1 rfl ?_
      refine k_iald C rfl rfl (dk dX11_carryAll_2 15 rfl) h (fun x42 h => ?_)
      refine cl2_k h (fun x44 s43 hc h => ?_)
      refine k_cv (T := TX11) (N := 39) (ci := 6) (ob := 45) (As := [.int x42]) (st := [.int y36, .ref (g.2.2 47)]) C (qX11_carry l g hg hc) (iW9 _ (List.mem_of_getElem? (i := 17) rfl)) (iW9 _ (List.mem_of_getElem? (i := 18) rfl)) (iW9 _ (List.mem_of_getElem? (i := 19) rfl)) (iW0 _ (List.mem_of_getElem? (i := 5) rfl)) (iW9 _ (List.mem_of_getElem? (i := 20) rfl)) rfl rfl hdX11_carry (by decide) rfl (by decide) rfl rfl rfl (Nat.le_of_ble_eq_true rfl) (dk dX11_carryAll_2 16 rfl) ?_
      refine k_iast C rfl rfl (dk dX11_carryAll_2 17 rfl) h (fun s45 h => ?_)
      refine k_iinc (lv' := [(3, .int (y36 + 1)), (0, .ref (g.2.2 45))]) C (dk dX11_carryAll_2 18 rfl) (j := 1) rfl rfl (by decide) rfl ?_
      refine k_goto (tgt := 113) C (dk dX11_carryAll_2 19 rfl) (by decide) ?_
      refine k_sub C [1, 0] rfl ?_
      exact hJ113 _ _ h
  ·
    refine k_sub C [1, 0] rfl ?_
    exact hJ113 _ _ h
